/-! ===== the square beside ===== -/
def oZ (x : Option Nat) : Int := match x with
  | none => -1
  | some x => (x : Int)
theorem oZ_none : oZ none = -1 := rfl
theorem oZ_some (x : Nat) : oZ (some x) = (x : Int) := rfl
theorem f7_beside {σ : Sg} {R W c w : Nat} (hN : rI σ 4 5 = yI ((R * W : Nat) : Int)) (hW : rI σ 4 6 = yI (W : Int)) (n30 : R * W ≤ 30) (w1 : 0 < W) (w2 : W ≤ 6) (hc : c < 30) (hw : w < 4) : fX7_beside (yI (c : Int)) (yI (w : Int)) σ = some (yI (oZ (qbes R W c w)), σ) := by
  have n0 : ¬ yI (W : Int) = 0 := yI_nl (v := 0) (b := 0) rfl (by omega) (by omega) (by omega)
  obtain ⟨rk, ck⟩ := remW (x := c) (by omega) w1 w2
  unfold fX7_beside fX7_beside_b0 qbes
  rw [hN, hW, if_neg n0, if_neg n0, rk]
  rcases (show w = 0 ∨ w = 1 ∨ w = 2 ∨ w = 3 by omega) with rfl | rfl | rfl | rfl
  · rw [if_pos (show yI ((0 : Nat) : Int) = 0 from rfl), if_pos (show 0 = 0 from rfl)]
    by_cases q : W ≤ c
    · rw [if_neg (fun z => by have := (yI_lt (by omega) (by omega) (by omega) (by omega)).mp z; omega), if_pos q, oZ_some, yI_sub, show (c : Int) - (W : Int) = ((c - W : Nat) : Int) by omega]
    · rw [if_pos ((yI_lt (by omega) (by omega) (by omega) (by omega)).mpr (by omega)), if_neg q]; rfl
  · rw [if_neg (show ¬ yI ((1 : Nat) : Int) = 0 by decide), if_pos (show yI ((1 : Nat) : Int) = 1 from rfl), if_neg (show ¬ 1 = 0 by omega), if_pos (show 1 = 1 from rfl), add1, add1]
    generalize c % W = m at *
    by_cases q : m + 1 < W
    · rw [if_neg (fun z => by have := (yI_le (by omega) (by omega) (by omega) (by omega)).mp z; omega), if_pos q]; rfl
    · rw [if_pos ((yI_le (by omega) (by omega) (by omega) (by omega)).mpr (by omega)), if_neg q]; rfl
  · rw [if_neg (show ¬ yI ((2 : Nat) : Int) = 0 by decide), if_neg (show ¬ yI ((2 : Nat) : Int) = 1 by decide), if_pos (show yI ((2 : Nat) : Int) = 2 from rfl), if_neg (show ¬ 2 = 0 by omega), if_neg (show ¬ 2 = 1 by omega), if_pos (show 2 = 2 from rfl), addn]
    generalize R * W = N at *
    by_cases q : c + W < N
    · rw [if_neg (fun z => by have := (yI_le (by omega) (by omega) (by omega) (by omega)).mp z; omega), if_pos q]; rfl
    · rw [if_pos ((yI_le (by omega) (by omega) (by omega) (by omega)).mpr (by omega)), if_neg q]; rfl
  · rw [if_neg (show ¬ yI ((3 : Nat) : Int) = 0 by decide), if_neg (show ¬ yI ((3 : Nat) : Int) = 1 by decide), if_neg (show ¬ yI ((3 : Nat) : Int) = 2 by decide), if_neg (show ¬ 3 = 0 by omega), if_neg (show ¬ 3 = 1 by omega), if_neg (show ¬ 3 = 2 by omega)]
    by_cases q : 0 < c % W
    · have c0 : 0 < c := by
        by_cases z : c = 0
        · rw [z, Nat.zero_mod] at q; omega
        · omega
      generalize c % W = m at *
      rw [if_neg (len (v := 0) (b := 0) rfl (by omega) (by omega) (by omega)), if_pos q, oZ_some, yI_1, yI_sub, show (c : Int) - 1 = ((c - 1 : Nat) : Int) by omega]
    · generalize c % W = m at *
      rw [if_pos (lep (v := 0) (b := 0) rfl (by omega) (by omega) (by omega)), if_neg q]; rfl
