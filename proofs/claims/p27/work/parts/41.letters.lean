/-! ===== letters ===== -/
theorem lushr_c {x : Int64} {y : Int32} {s : UInt64} {n : Nat} (hs : (y.toInt64.toUInt64 &&& Int64.toUInt64 63) = s) (hn : s.toNat = n) (h64 : n < 64) : (lushr x y).toBitVec.toNat = x.toBitVec.toNat / 2 ^ n := by
  unfold lushr
  rw [hs, UInt64.toBitVec_toInt64]
  show (x.toUInt64 >>> s).toNat = _
  rw [UInt64.toNat_shiftRight, hn, Nat.mod_eq_of_lt h64, Nat.shiftRight_eq_div_pow]
  rfl
def bw (U k : Nat) : Nat := U / 2 ^ (8 * k) % 256
theorem bw_lt (U k : Nat) : bw U k < 256 := Nat.mod_lt _ (by decide)
theorem and255 (x : Int64) : x.toInt32 &&& (255 : Int32) = yI ((x.toBitVec.toNat % 256 : Nat) : Int) := by
  rw [pk_and x.toInt32 8 rfl, yI_nat]
  congr 2
  have e : x.toInt32.toBitVec.toNat = x.toBitVec.toNat % 2 ^ 32 := by
    rw [Int64.toBitVec_toInt32, BitVec.signExtend_eq_setWidth_of_le _ (by decide), BitVec.toNat_setWidth]
  rw [e]
  omega
theorem and255L (x : Int64) : (x &&& (255 : Int64)).toInt32 = yI ((x.toBitVec.toNat % 256 : Nat) : Int) := by
  rw [Int64.toInt32_and]; exact and255 x
theorem lushr_8k (x : Int64) {k : Nat} (hk : k < 8) : (lushr x ((8 : Int32) * yI (k : Int))).toBitVec.toNat % 256 = bw x.toBitVec.toNat k := by
  unfold bw
  rcases (show k = 0 ∨ k = 1 ∨ k = 2 ∨ k = 3 ∨ k = 4 ∨ k = 5 ∨ k = 6 ∨ k = 7 by omega) with rfl | rfl | rfl | rfl | rfl | rfl | rfl | rfl
  · rw [lushr_c (s := 0) (n := 0) rfl rfl (by decide)]
  · rw [lushr_c (s := 8) (n := 8) rfl rfl (by decide)]
  · rw [lushr_c (s := 16) (n := 16) rfl rfl (by decide)]
  · rw [lushr_c (s := 24) (n := 24) rfl rfl (by decide)]
  · rw [lushr_c (s := 32) (n := 32) rfl rfl (by decide)]
  · rw [lushr_c (s := 40) (n := 40) rfl rfl (by decide)]
  · rw [lushr_c (s := 48) (n := 48) rfl rfl (by decide)]
  · rw [lushr_c (s := 56) (n := 56) rfl rfl (by decide)]
theorem f6_byteOf (w : Int64) {k : Nat} (hk : k < 8) (σ : Sg) : fX6_byteOf w (yI (k : Int)) σ = some (yI (bw w.toBitVec.toNat k : Int), σ) := by
  unfold fX6_byteOf fX6_byteOf_b0
  rw [and255, lushr_8k w hk]
theorem lushr_8 (x : Int64) : (lushr x (8 : Int32)).toBitVec.toNat = x.toBitVec.toNat / 256 := lushr_c (s := 8) (n := 8) rfl rfl (by decide)
/-- how many letters the first k bytes hold; none if they are no letters -/
def sc (U : Nat) : Nat → Option Nat
  | 0 => some 0
  | k + 1 => (sc U k).bind fun n => if 126 < bw U k ∨ (bw U k ≠ 0 ∧ n ≠ k) then none else some (if bw U k = 0 then n else n + 1)
theorem sc_ok {U : Nat} : ∀ {k n : Nat}, sc U k = some n → n ≤ k ∧ ∀ j, j < n → 1 ≤ bw U j ∧ bw U j ≤ 126
  | 0, n, h => by
    cases h
    exact ⟨Nat.le_refl _, fun j hj => absurd hj (Nat.not_lt_zero _)⟩
  | k + 1, n, h => by
    unfold sc at h
    obtain ⟨n0, e, h⟩ := Option.bind_eq_some_iff.mp h
    obtain ⟨h1, h2⟩ := sc_ok e
    by_cases q : 126 < bw U k ∨ (bw U k ≠ 0 ∧ n0 ≠ k)
    · rw [if_pos q] at h; cases h
    · rw [if_neg q] at h
      by_cases z : bw U k = 0
      · rw [if_pos z] at h; cases h
        exact ⟨by omega, h2⟩
      · rw [if_neg z] at h; cases h
        refine ⟨by omega, fun j hj => ?_⟩
        by_cases e : j = k
        · rw [e]; omega
        · exact h2 j (by omega)
theorem sc_none {U : Nat} {k : Nat} (h : sc U k = none) : ∀ d, sc U (k + d) = none
  | 0 => h
  | d + 1 => by
    show (sc U (k + d)).bind _ = none
    rw [sc_none h d]; rfl
theorem f6_scan (w : Int64) (σ : Sg) : ∃ t, lp (fun s : Int32 × Int32 × Int32 × Sg => fX6_append_b8 w s.1 s.2.1 s.2.2.1 s.2.2.2) FU ((0 : Int32), (0 : Int32), (0 : Int32), σ) = some t ∧ t = (match sc w.toBitVec.toNat 8 with | none => .inl σ | some n => .inr (yI (n : Int), σ)) := by
  refine lp_for (fun k s => ∃ n : Nat, sc w.toBitVec.toNat k = some n ∧ s = (yI (n : Int), (if n < k then (1 : Int32) else 0), yI (k : Int), σ)) 8 _ ?_ ?_ ⟨0, rfl, rfl⟩ (FU_b (by omega))
  · rintro k s hk ⟨n, hs, rfl⟩
    have hn := (sc_ok hs).1
    have hb := bw_lt w.toBitVec.toNat k
    have hsc : sc w.toBitVec.toNat (k + 1) = if 126 < bw w.toBitVec.toNat k ∨ (bw w.toBitVec.toNat k ≠ 0 ∧ n ≠ k) then none else some (if bw w.toBitVec.toNat k = 0 then n else n + 1) := by
      show (sc w.toBitVec.toNat k).bind _ = _
      rw [hs]; rfl
    generalize hB : bw w.toBitVec.toNat k = B at *
    have fb := f6_byteOf w hk σ
    rw [hB] at fb
    have f8 : fX6_append_b8 w (yI (n : Int)) (if n < k then (1 : Int32) else 0) (yI (k : Int)) σ = if 126 < B ∨ (B ≠ 0 ∧ n ≠ k) then some (.inr (.inl σ)) else some (.inl (yI ((if B = 0 then n else n + 1 : Nat) : Int), (if B = 0 then (1 : Int32) else 0), yI ((k + 1 : Nat) : Int), σ)) := by
      have f43 : fX6_append_b43 w (yI (n : Int)) (yI (k : Int)) (yI (B : Int)) σ = some (.inl (yI ((if B = 0 then n else n + 1 : Nat) : Int), (if B = 0 then (1 : Int32) else 0), yI ((k + 1 : Nat) : Int), σ)) := by
        unfold fX6_append_b43 fX6_append_b53 fX6_append_b66
        by_cases z : B = 0
        · rw [if_pos (eqp (v := 0) (b := 0) rfl (by omega)), if_neg (show ¬ (1 : Int32) = 0 by decide), if_pos z, if_pos z, add1, show yI (n : Int) + (0 : Int32) = yI (n : Int) from addn n 0]
        · rw [if_neg (yI_nl (v := 0) (b := 0) rfl (by omega) (by omega) (by omega)), if_pos rfl, if_neg z, if_neg z, add1, add1]
      unfold fX6_append_b8
      rw [if_neg (gen (v := 8) (b := 8) rfl (by omega) (by omega) (by omega)), b1 fb]
      by_cases q : 126 < B
      · rw [if_pos (gtp (v := 126) (b := 126) rfl (by omega) (by omega) (by omega)), if_pos (Or.inl q)]
      · rw [if_neg (gtn (v := 126) (b := 126) rfl (by omega) (by omega) (by omega))]
        by_cases l : n < k
        · rw [if_pos l, if_neg (show ¬ (1 : Int32) = 0 by decide)]
          by_cases z : B = 0
          · rw [if_pos (eqp (v := 0) (b := 0) rfl (by omega)), f43, if_neg (c := 126 < B ∨ (B ≠ 0 ∧ n ≠ k)) (by omega)]
          · rw [if_neg (yI_nl (v := 0) (b := 0) rfl (by omega) (by omega) (by omega)), if_pos (c := 126 < B ∨ (B ≠ 0 ∧ n ≠ k)) (by omega)]
        · rw [if_neg l, if_pos rfl, f43, if_neg (c := 126 < B ∨ (B ≠ 0 ∧ n ≠ k)) (by omega)]
    dsimp only
    rw [f8]
    by_cases q : 126 < B ∨ (B ≠ 0 ∧ n ≠ k)
    · rw [if_pos q] at hsc ⊢
      refine ⟨_, rfl, ?_⟩
      have := sc_none hsc (7 - k)
      rw [show k + 1 + (7 - k) = 8 by omega] at this
      show Sum.inl σ = _
      rw [this]
    · rw [if_neg q] at hsc ⊢
      refine ⟨_, rfl, ?_⟩
      show ∃ n', _
      refine ⟨_, hsc, ?_⟩
      by_cases z : B = 0
      · rw [if_pos z, if_pos z, if_pos (by omega)]
      · rw [if_neg z, if_neg z, if_neg (by omega)]
  · rintro s ⟨n, hs, rfl⟩
    refine ⟨.inr (yI (n : Int), σ), ?_, ?_⟩
    · dsimp only
      unfold fX6_append_b8
      rw [if_pos (gep (v := 8) (b := 8) rfl (by omega) (by omega) (by omega))]
    · rw [hs]
theorem f10_scan (w : Int64) (τ : Sg) : ∃ t, lp (fun s : Int32 × Int32 × Int64 × Int32 × Sg => fX10_letters_b11 w s.1 s.2.1 s.2.2.1 s.2.2.2.1 s.2.2.2.2) FU ((0 : Int32), (1 : Int32), w, (0 : Int32), τ) = some t ∧ ∃ x : Int32, t = (x, (if sc w.toBitVec.toNat 8 = none then (0 : Int32) else 1), τ) ∧ ∀ n : Nat, sc w.toBitVec.toNat 8 = some n → x = yI (n : Int) := by
  refine lp_all (fun k s => ∃ x : Int32, ∃ l : Int64, s = (x, (if sc w.toBitVec.toNat k = none then (0 : Int32) else 1), l, yI (k : Int), τ) ∧ l.toBitVec.toNat = w.toBitVec.toNat / 2 ^ (8 * k) ∧ ∀ n : Nat, sc w.toBitVec.toNat k = some n → x = yI (n : Int)) 8 _ ?_ ?_ ⟨0, w, rfl, by rw [Nat.mul_zero, Nat.pow_zero, Nat.div_one], fun n h => by cases h; rfl⟩ (FU_b (by omega))
  · rintro k s hk ⟨x, l, rfl, hl, hx⟩
    have hl2 : (lushr l (8 : Int32)).toBitVec.toNat = w.toBitVec.toNat / 2 ^ (8 * (k + 1)) := by
      rw [lushr_8, hl, Nat.div_div_eq_div_mul, show 8 * (k + 1) = 8 * k + 8 by omega, Nat.pow_add]
    have hB : l.toBitVec.toNat % 256 = bw w.toBitVec.toNat k := by rw [hl]; rfl
    have hb := bw_lt w.toBitVec.toNat k
    have f75 : ∀ y : Int32, fX10_letters_b62 w x (lushr l (8 : Int32)) (yI (k : Int)) (yI (bw w.toBitVec.toNat k : Int)) y τ = some (.inl (x + (if bw w.toBitVec.toNat k = 0 then (0 : Int32) else 1), y, lushr l (8 : Int32), yI ((k + 1 : Nat) : Int), τ)) := fun y => by
      unfold fX10_letters_b62 fX10_letters_b75
      by_cases z : bw w.toBitVec.toNat k = 0
      · rw [if_pos (lep (v := 0) (b := 0) rfl (by omega) (by omega) (by omega)), if_pos z, add1]
      · rw [if_neg (len (v := 0) (b := 0) rfl (by omega) (by omega) (by omega)), if_neg z, add1]
    have hsc : sc w.toBitVec.toNat (k + 1) = (sc w.toBitVec.toNat k).bind fun n => if 126 < bw w.toBitVec.toNat k ∨ (bw w.toBitVec.toNat k ≠ 0 ∧ n ≠ k) then none else some (if bw w.toBitVec.toNat k = 0 then n else n + 1) := rfl
    have f11 : ∃ y : Int32, fX10_letters_b11 w x (if sc w.toBitVec.toNat k = none then (0 : Int32) else 1) l (yI (k : Int)) τ = some (.inl (x + (if bw w.toBitVec.toNat k = 0 then (0 : Int32) else 1), y, lushr l (8 : Int32), yI ((k + 1 : Nat) : Int), τ)) ∧ y = (if sc w.toBitVec.toNat (k + 1) = none then (0 : Int32) else 1) := by
      unfold fX10_letters_b11 fX10_letters_b61 fX10_letters_b57
      rw [if_neg (gen (v := 8) (b := 8) rfl (by omega) (by omega) (by omega)), and255L, hB]
      cases e : sc w.toBitVec.toNat k with
      | none =>
        rw [if_pos rfl, if_pos rfl, f75]
        exact ⟨_, rfl, by rw [hsc, e]; rfl⟩
      | some n =>
        have en := (sc_ok e).1
        have hx2 := hx n e
        have hsc2 : sc w.toBitVec.toNat (k + 1) = if 126 < bw w.toBitVec.toNat k ∨ (bw w.toBitVec.toNat k ≠ 0 ∧ n ≠ k) then none else some (if bw w.toBitVec.toNat k = 0 then n else n + 1) := by rw [hsc, e]; rfl
        rw [if_neg (show ¬ some n = none by exact fun q => by cases q), if_neg (show ¬ (1 : Int32) = 0 by decide), hsc2]
        by_cases q : 126 < bw w.toBitVec.toNat k
        · rw [if_pos (gtp (v := 126) (b := 126) rfl (by omega) (by omega) (by omega)), f75, if_pos (c := 126 < bw w.toBitVec.toNat k ∨ (bw w.toBitVec.toNat k ≠ 0 ∧ n ≠ k)) (Or.inl q)]
          exact ⟨_, rfl, by rw [if_pos rfl]⟩
        · rw [if_neg (gtn (v := 126) (b := 126) rfl (by omega) (by omega) (by omega))]
          by_cases z : bw w.toBitVec.toNat k = 0
          · rw [if_pos (eqp (v := 0) (b := 0) rfl (by omega)), f75, if_neg (c := 126 < bw w.toBitVec.toNat k ∨ (bw w.toBitVec.toNat k ≠ 0 ∧ n ≠ k)) (by omega)]
            exact ⟨_, rfl, by rw [if_neg (fun q => by cases q)]⟩
          · rw [if_neg (yI_nl (v := 0) (b := 0) rfl (by omega) (by omega) (by omega)), hx2]
            by_cases l : n = k
            · rw [if_pos (by rw [l]), ← hx2, f75, if_neg (c := 126 < bw w.toBitVec.toNat k ∨ (bw w.toBitVec.toNat k ≠ 0 ∧ n ≠ k)) (by omega)]
              exact ⟨_, rfl, by rw [if_neg (fun q => by cases q)]⟩
            · rw [if_neg (fun q => l (by have := yI_inj (by omega) (by omega) (by omega) (by omega) q; omega)), ← hx2, f75, if_pos (c := 126 < bw w.toBitVec.toNat k ∨ (bw w.toBitVec.toNat k ≠ 0 ∧ n ≠ k)) (by omega)]
              exact ⟨_, rfl, by rw [if_pos rfl]⟩
    obtain ⟨y, f1, f2⟩ := f11
    refine ⟨_, f1, _, _, by rw [f2], hl2, fun n' h' => ?_⟩
    rw [hsc] at h'
    obtain ⟨n, e, h'⟩ := Option.bind_eq_some_iff.mp h'
    rw [hx n e]
    by_cases q : 126 < bw w.toBitVec.toNat k ∨ (bw w.toBitVec.toNat k ≠ 0 ∧ n ≠ k)
    · rw [if_pos q] at h'; cases h'
    · rw [if_neg q] at h'
      by_cases z : bw w.toBitVec.toNat k = 0
      · rw [if_pos z] at h' ⊢; cases h'
        exact addn _ 0
      · rw [if_neg z] at h' ⊢; cases h'
        exact add1 _
  · rintro s ⟨x, l, rfl, hl, hx⟩
    refine ⟨_, ?_, x, rfl, hx⟩
    dsimp only
    unfold fX10_letters_b11
    rw [if_pos (gep (v := 8) (b := 8) rfl (by omega) (by omega) (by omega))]
