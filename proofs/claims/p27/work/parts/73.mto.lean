/-! ===== the model's next square ===== -/
def GM (τ : Sg) (m : Mm) : Prop := rI τ 0 9 = yI (qR m : Int) ∧ rI τ 0 10 = yI (qW m : Int) ∧ rI τ 0 11 = yI (qH m : Int) ∧ ∀ i, i < qR m * qW m → rI τ 4 i = yI (qL m i : Int) ∧ rI τ 5 i = yI (m 5 i)
def dR (w : Nat) : Int := if w = 0 then -1 else if w = 2 then 1 else 0
def dC (w : Nat) : Int := if w = 1 then 1 else if w = 3 then -1 else 0
theorem bes_0 {R W c : Nat} (w1 : 2 ≤ W) (w2 : W ≤ 6) (hc : c < R * W) : qbes R W c 0 = if 0 ≤ ((c / W : Nat) : Int) + -1 then some (c - W) else none := by
  unfold qbes
  rw [if_pos rfl]
  by_cases q : W ≤ c
  · rw [if_pos q, if_pos]
    have : 1 ≤ c / W := (Nat.le_div_iff_mul_le (by omega)).mpr (by omega)
    omega
  · rw [if_neg q, if_neg]
    rw [Nat.div_eq_of_lt (by omega)]
    decide
theorem bes_2 {R W c : Nat} (w1 : 2 ≤ W) (w2 : W ≤ 6) (hc : c < R * W) : qbes R W c 2 = if ((c / W : Nat) : Int) + 1 ≤ (R : Int) - 1 then some (c + W) else none := by
  unfold qbes
  rw [if_neg (by decide), if_neg (by decide), if_pos rfl]
  by_cases q : c + W < R * W
  · rw [if_pos q, if_pos]
    have : c / W + 1 < R := by
      rw [← Nat.add_div_right c (by omega)]
      exact Nat.div_lt_of_lt_mul (by rw [Nat.mul_comm]; exact q)
    omega
  · rw [if_neg q, if_neg]
    have : R ≤ (c + W) / W := (Nat.le_div_iff_mul_le (by omega)).mpr (by omega)
    rw [Nat.add_div_right c (by omega)] at this
    omega
theorem step_n {R W c w : Nat} (r1 : 2 ≤ R) (r2 : R ≤ 5) (w1 : 2 ≤ W) (w2 : W ≤ 6) (hc : c < R * W) (hw : w < 4) : ((0 ≤ ((c / W : Nat) : Int) + dR w ∧ ((c / W : Nat) : Int) + dR w ≤ (R : Int) - 1) ∧ (0 ≤ ((c % W : Nat) : Int) + dC w ∧ ((c % W : Nat) : Int) + dC w ≤ (W : Int) - 1) ∧ ∃ x, qbes R W c w = some x ∧ (W : Int) * (((c / W : Nat) : Int) + dR w) + (((c % W : Nat) : Int) + dC w) = (x : Int)) ∨ (¬ ((0 ≤ ((c / W : Nat) : Int) + dR w ∧ ((c / W : Nat) : Int) + dR w ≤ (R : Int) - 1) ∧ (0 ≤ ((c % W : Nat) : Int) + dC w ∧ ((c % W : Nat) : Int) + dC w ≤ (W : Int) - 1)) ∧ qbes R W c w = none) := by
  have a1 : c / W < R := Nat.div_lt_of_lt_mul (by rw [Nat.mul_comm]; exact hc)
  have a3 : c % W < W := Nat.mod_lt _ (by omega)
  have a4 : (W : Int) * ((c / W : Nat) : Int) + ((c % W : Nat) : Int) = (c : Int) := by
    have := Nat.div_add_mod c W
    exact_mod_cast this
  have h0 : 1 ≤ c / W → W ≤ c := fun h1 => by
    have := (Nat.le_div_iff_mul_le (k := W) (x := 1) (y := c) (by omega)).mp h1
    omega
  have h3 : 0 < c % W → 0 < c := fun q => by
    by_cases z : c = 0
    · rw [z, Nat.zero_mod] at q; omega
    · omega
  have q0 := bes_0 w1 w2 hc
  have q2 := bes_2 w1 w2 hc
  have q1 : qbes R W c 1 = if c % W + 1 < W then some (c + 1) else none := by
    unfold qbes; rw [if_neg (by decide), if_pos rfl]
  have q3 : qbes R W c 3 = if 0 < c % W then some (c - 1) else none := by
    unfold qbes; rw [if_neg (by decide), if_neg (by decide), if_neg (by decide)]
  generalize c / W = y1 at *
  generalize c % W = y2 at *
  rcases (show w = 0 ∨ w = 1 ∨ w = 2 ∨ w = 3 by omega) with rfl | rfl | rfl | rfl
  · rw [q0]
    have e1 : dR 0 = -1 := rfl
    have e2 : dC 0 = 0 := rfl
    rw [e1, e2]
    by_cases q : 0 ≤ (y1 : Int) + -1
    · refine Or.inl ⟨by omega, by omega, c - W, by rw [if_pos q], ?_⟩
      have h2 : W ≤ c := h0 (by omega)
      rw [Int.mul_add]
      omega
    · exact Or.inr ⟨by omega, by rw [if_neg q]⟩
  · have e1 : dR 1 = 0 := rfl
    have e2 : dC 1 = 1 := rfl
    rw [e1, e2]
    rw [q1]
    by_cases q : y2 + 1 < W
    · refine Or.inl ⟨by omega, by omega, c + 1, by rw [if_pos q], ?_⟩
      rw [Int.mul_add]
      omega
    · exact Or.inr ⟨by omega, by rw [if_neg q]⟩
  · rw [q2]
    have e1 : dR 2 = 1 := rfl
    have e2 : dC 2 = 0 := rfl
    rw [e1, e2]
    by_cases q : (y1 : Int) + 1 ≤ (R : Int) - 1
    · refine Or.inl ⟨by omega, by omega, c + W, by rw [if_pos q], ?_⟩
      rw [Int.mul_add]
      omega
    · exact Or.inr ⟨by omega, by rw [if_neg q]⟩
  · have e1 : dR 3 = 0 := rfl
    have e2 : dC 3 = -1 := rfl
    rw [e1, e2]
    rw [q3]
    by_cases q : 0 < y2
    · have h4 := h3 q
      refine Or.inl ⟨by omega, by omega, c - 1, by rw [if_pos q], ?_⟩
      rw [Int.mul_add]
      omega
    · exact Or.inr ⟨by omega, by rw [if_neg q]⟩
theorem f10_to51 {τ : Sg} {m : Mm} (v : VS m) (g : GM τ m) {c w : Nat} (hc : c < qR m * qW m) (hw : w < 4) : fX10_to_b51 (yI (c : Int)) (yI (((c / qW m : Nat) : Int) + dR w)) (yI (dC w)) (yI ((c % qW m : Nat) : Int)) τ = some (yI (oZ (qto m c w)), τ) := by
  obtain ⟨-, w1, w2⟩ := v.W
  obtain ⟨-, r1, r2⟩ := v.R
  have b30 := v.b30
  have hH := v.H.2
  obtain ⟨g1, g2, g3, g4⟩ := g
  have hs := step_n r1 r2 w1 w2 hc hw
  have a1 : c / qW m ≤ 30 := Nat.le_trans (Nat.div_le_self _ _) (by omega)
  have a3 : c % qW m < 6 := Nat.lt_of_lt_of_le (Nat.mod_lt _ (by omega)) w2
  have hf : ∀ x : Nat, x ≤ 30 → fX10_farOf (yI (x : Int)) τ = some (yI (qF m x : Int), τ) := fun x hx => f10_farOf g2 g3 (by omega) w2 (by omega) hx
  have dr : -1 ≤ dR w ∧ dR w ≤ 1 := by
    unfold dR
    by_cases z : w = 0
    · rw [if_pos z]; omega
    · rw [if_neg z]
      by_cases z2 : w = 2
      · rw [if_pos z2]; omega
      · rw [if_neg z2]; omega
  have dc : -1 ≤ dC w ∧ dC w ≤ 1 := by
    unfold dC
    by_cases z : w = 1
    · rw [if_pos z]; omega
    · rw [if_neg z]
      by_cases z2 : w = 3
      · rw [if_pos z2]; omega
      · rw [if_neg z2]; omega
  have et : qto m c w = (qbes (qR m) (qW m) c w).bind (qok m c) := rfl
  have e0 : (0 : Int64).toInt = 0 := rfl
  have eR : (yI ((qR m : Int) - 1)).toInt64.toInt = (qR m : Int) - 1 := yI_l (by omega) (by omega)
  have eW : (yI ((qW m : Int) - 1)).toInt64.toInt = (qW m : Int) - 1 := yI_l (by omega) (by omega)
  have s1 : yI (qR m : Int) - (1 : Int32) = yI ((qR m : Int) - 1) := by rw [yI_1, yI_sub]
  have s2 : yI (qW m : Int) - (1 : Int32) = yI ((qW m : Int) - 1) := by rw [yI_1, yI_sub]
  generalize c / qW m = y1 at *
  generalize c % qW m = y2 at *
  have i1 := in_zz (a := (y1 : Int) + dR w) (by omega) (by omega) e0 eR τ
  have i2 := in_zz (a := (y2 : Int) + dC w) (by omega) (by omega) e0 eW τ
  unfold fX10_to_b51
  rw [g1, s1, yI_add]
  rcases hs with ⟨p1, p2, x, p3, p4⟩ | ⟨p1, p2⟩
  · have xb := qbes_b r1 r2 w1 w2 hc p3
    have e51 : yI (qW m : Int) * yI ((y1 : Int) + dR w) + yI ((y2 : Int) + dC w) = yI (x : Int) := by rw [yI_mul, yI_add, p4]
    rw [bt i1 p1]
    dsimp only
    rw [g2, s2, bt i2 p2]
    dsimp only
    rw [g2, e51, if_pos (inb_n (by omega) (by omega)), yI_cln (by omega), (g4 x xb).1, et, p3]
    show _ = some (yI (oZ (qok m c x)), τ)
    unfold qok
    have l11 := (qL_b v xb).2.1
    by_cases z : qL m x = 11
    · rw [if_pos (eqp (v := 11) (b := 11) rfl (by omega)), if_pos (Or.inl z)]; rfl
    · rw [if_neg (yI_nl (v := 11) (b := 11) rfl (by omega) (by omega) (by omega)), b1 (hf x (by omega))]
      dsimp only
      rw [b1 (hf c (by omega))]
      dsimp only
      have q1 := q9 v hc
      have q2 := q9 v xb
      by_cases z2 : qF m c ≤ qF m x
      · rw [if_pos ((yI_le (by omega) (by omega) (by omega) (by omega)).mpr (by omega)), if_pos (Or.inr z2)]; rfl
      · rw [if_neg (fun q => by have := (yI_le (by omega) (by omega) (by omega) (by omega)).mp q; omega), if_neg (by omega)]; rfl
  · rw [et, p2]
    show _ = some (yI (-1), τ)
    by_cases z : 0 ≤ (y1 : Int) + dR w ∧ (y1 : Int) + dR w ≤ (qR m : Int) - 1
    · rw [bt i1 z]
      dsimp only
      rw [g2, s2, bf i2 (fun q => p1 ⟨z, q⟩)]
      rfl
    · rw [bf i1 z]
      rfl
theorem f10_to {τ : Sg} {m : Mm} (v : VS m) (g : GM τ m) {c w : Nat} (hc : c < qR m * qW m) (hw : w < 4) : fX10_to (yI (c : Int)) (yI (w : Int)) τ = some (yI (oZ (qto m c w)), τ) := by
  have h51 := f10_to51 v g hc hw
  obtain ⟨-, w1, w2⟩ := v.W
  have b30 := v.b30
  obtain ⟨dk, bk⟩ := divW (x := c) (W := qW m) (by omega) (by omega) w2
  obtain ⟨rk, ck⟩ := remW (x := c) (W := qW m) (by omega) (by omega) w2
  obtain ⟨g1, g2, g3, g4⟩ := g
  have n0 : ¬ yI (qW m : Int) = 0 := yI_nl (v := 0) (b := 0) rfl (by omega) (by omega) (by omega)
  unfold fX10_to fX10_to_b0 fX10_to_b24
  rw [g2, if_neg n0, if_neg n0, if_neg n0, if_neg n0, rk, dk, yI_m1, yI_add, show yI ((c / qW m : Nat) : Int) + (1 : Int32) = yI (((c / qW m : Nat) : Int) + 1) from by rw [yI_1, yI_add], show yI ((c / qW m : Nat) : Int) + (0 : Int32) = yI (((c / qW m : Nat) : Int) + 0) from by rw [yI_0, yI_add]]
  rcases (show w = 0 ∨ w = 1 ∨ w = 2 ∨ w = 3 by omega) with rfl | rfl | rfl | rfl
  · rw [if_pos (show yI ((0 : Nat) : Int) = 0 from rfl), if_neg (show ¬ yI ((0 : Nat) : Int) = 1 by decide), if_neg (show ¬ yI ((0 : Nat) : Int) = 3 by decide)]
    exact h51
  · rw [if_neg (show ¬ yI ((1 : Nat) : Int) = 0 by decide), if_neg (show ¬ yI ((1 : Nat) : Int) = 2 by decide), if_pos (show yI ((1 : Nat) : Int) = 1 from rfl)]
    exact h51
  · rw [if_neg (show ¬ yI ((2 : Nat) : Int) = 0 by decide), if_pos (show yI ((2 : Nat) : Int) = 2 from rfl), if_neg (show ¬ yI ((2 : Nat) : Int) = 1 by decide), if_neg (show ¬ yI ((2 : Nat) : Int) = 3 by decide)]
    exact h51
  · rw [if_neg (show ¬ yI ((3 : Nat) : Int) = 0 by decide), if_neg (show ¬ yI ((3 : Nat) : Int) = 2 by decide), if_neg (show ¬ yI ((3 : Nat) : Int) = 1 by decide), if_pos (show yI ((3 : Nat) : Int) = 3 from rfl)]
    exact h51
