/-! ===== calls on bergs, coins, lines ===== -/
theorem nsC_hi {o k : Nat} (h : 76 ≤ o) : nsC o k = true := by
  unfold nsC
  have a1 : (o == 3) = false := beq_false_of_ne (by omega)
  have a2 : (o == 1) = false := beq_false_of_ne (by omega)
  have a3 : decide (o ≤ 46) = false := decide_eq_false (by omega)
  have a4 : decide (o ≤ 75) = false := decide_eq_false (by omega)
  rw [a1, a2, a3, a4, Bool.and_false, Bool.and_false, Bool.false_and]; rfl
theorem nsC_mid {o k : Nat} (h1 : 4 ≤ o) (h2 : o ≤ 41) : nsC o k = true := by
  unfold nsC
  have a1 : (o == 3) = false := beq_false_of_ne (by omega)
  have a2 : (o == 1) = false := beq_false_of_ne (by omega)
  have a3 : decide (42 ≤ o) = false := decide_eq_false (by omega)
  have a4 : decide (67 ≤ o) = false := decide_eq_false (by omega)
  rw [a1, a2, a3, a4, Bool.false_and, Bool.false_and, Bool.false_and]; rfl
theorem nsC_low {o k : Nat} (h1 : 47 ≤ o) (h2 : o ≤ 66) : nsC o k = true := by
  unfold nsC
  have a1 : (o == 3) = false := beq_false_of_ne (by omega)
  have a2 : (o == 1) = false := beq_false_of_ne (by omega)
  have a3 : decide (o ≤ 46) = false := decide_eq_false (by omega)
  have a4 : decide (67 ≤ o) = false := decide_eq_false (by omega)
  rw [a1, a2, a3, a4, Bool.and_false, Bool.false_and, Bool.false_and]; rfl
theorem yI_nl {a b : Int} {v : Int32} (hv : v.toInt = b) (h1 : -2147483648 ≤ a) (h2 : a < 2147483648) (h : a ≠ b) : ¬ yI a = v := fun q => h (by rw [← hv, ← q, yI_int h1 h2])
theorem VB.r {σ τ : Sg} (h : VB (cC σ) (cM τ)) {b : Nat} (hb : (b : Int) < cM τ 0 15) : rI σ (76 + b) 0 = rI τ 6 (5 * b) ∧ rI σ (76 + b) 1 = rI τ 6 (5 * b + 1) ∧ rI σ (76 + b) 2 = rI τ 6 (5 * b + 2) ∧ rI σ (76 + b) 3 = rI τ 6 (5 * b + 3) ∧ rI σ (76 + b) 4 = rI τ 6 (5 * b + 4) := by
  obtain ⟨-, h0, h1, h2, h3, h4, -⟩ := h.2.2.2 b hb
  have e : ∀ k, rI σ (76 + b) k = yI (cC σ (76 + b) k) := fun k => cC_r (nsC_hi (by omega))
  have f : ∀ k, rI τ 6 k = yI (cM τ 6 k) := fun k => cM_r rfl
  rw [e, e, e, e, e, f, f, f, f, f, h0, h1, h2, h3, h4]
  exact ⟨rfl, rfl, rfl, rfl, rfl⟩
theorem VB.e {σ τ : Sg} (h : VB (cC σ) (cM τ)) : rI σ 0 9 = yI (cM τ 0 15) ∧ rI τ 0 15 = yI (cM τ 0 15) := ⟨by rw [cC_r (o := 0) (k := 9) rfl, h.1], cM_r rfl⟩
theorem ix_z {b x : Nat} (h : x < 2147483648) : inb (yI (x : Int)) b = decide (x < b) := by
  by_cases k : x < b
  · rw [decide_eq_true k]; exact inb_n h k
  · rw [decide_eq_false k]
    cases e : inb (yI (x : Int)) b with
    | false => rfl
    | true => have := (inb_z (by omega) (by omega)).mp e; omega
/-- 5 b + k and 3 b + k as the model writes them -/
theorem mul5 (b : Nat) : (5 : Int32) * yI (b : Int) = yI ((5 * b : Nat) : Int) := by
  rw [show (5 : Int32) = yI 5 from rfl, yI_mul]; rfl
theorem mul3 (b : Nat) : (3 : Int32) * yI (b : Int) = yI ((3 * b : Nat) : Int) := by
  rw [show (3 : Int32) = yI 3 from rfl, yI_mul]; rfl
theorem addn (a b : Nat) : yI (a : Int) + yI (b : Int) = yI ((a + b : Nat) : Int) := by rw [yI_add]; rfl
theorem add1 (a : Nat) : yI (a : Int) + 1 = yI ((a + 1 : Nat) : Int) := addn a 1
theorem add2 (a : Nat) : yI (a : Int) + 2 = yI ((a + 2 : Nat) : Int) := addn a 2
theorem add3 (a : Nat) : yI (a : Int) + 3 = yI ((a + 3 : Nat) : Int) := addn a 3
theorem add4 (a : Nat) : yI (a : Int) + 4 = yI ((a + 4 : Nat) : Int) := addn a 4
theorem about_eq {n : Nat} {σ τ : Sg} (h : Inv n σ τ) {b : Nat} (hb : (b : Int) < cM τ 0 15) {w : Nat} (hw : w < 5) : fX9_about (yI (b : Int)) (yI (w : Int)) σ = some (rI τ 6 (5 * b + w), σ) := by
  obtain ⟨-, -, hv, -⟩ := h
  have g := f9_isBerg (σ := σ) (a := (b : Int)) (by omega) (by have := hv.2.2.1; omega) hv.e.1 hv.2.1 hv.2.2.1
  have i1 : inb (yI (b : Int)) 5 = true := inb_n (by have := hv.2.2.1; omega) (by have := hv.2.2.1; omega)
  have i2 : (yI (b : Int)).toNatClampNeg = b := yI_cln (by have := hv.2.2.1; omega)
  obtain ⟨r0, r1, r2, r3, r4⟩ := hv.r hb
  unfold fX9_about fX9_about_b0
  rw [bt g ⟨by omega, hb⟩]
  dsimp only
  simp only [i1, i2, if_pos, r0, r1, r2, r3, r4]
  rcases (show w = 0 ∨ w = 1 ∨ w = 2 ∨ w = 3 ∨ w = 4 by omega) with rfl | rfl | rfl | rfl | rfl
  · rfl
  · rfl
  · rfl
  · rfl
  · rfl
theorem s_about (a0 a1 : Int32) : SimI Inv (fX9_about a0 a1) (fX10_about a0 a1) := SimI_same Inv_n fun n σ τ _ h => by
  obtain ⟨a, h1, h2, rfl⟩ := yI_ex a0
  obtain ⟨w, h3, h4, rfl⟩ := yI_ex a1
  have hv := h.2.2.1
  have g1 := f9_isBerg h1 h2 hv.e.1 hv.2.1 hv.2.2.1
  have g2 := f10_isBerg h1 h2 hv.e.2 hv.2.1 hv.2.2.1
  have g3 := in_zz h3 h4 (show (0 : Int64).toInt = 0 from rfl) (show (4 : Int64).toInt = 4 from rfl) τ
  by_cases hb : 0 ≤ a ∧ a < cM τ 0 15
  · obtain ⟨b, rfl⟩ := Int.eq_ofNat_of_zero_le hb.1
    by_cases hw : 0 ≤ w ∧ w ≤ 4
    · obtain ⟨k, rfl⟩ := Int.eq_ofNat_of_zero_le hw.1
      refine ⟨_, about_eq h hb.2 (by omega), ?_⟩
      have h5 := hv.2.2.1
      unfold fX10_about fX10_about_b0
      rw [bt g2 hb]
      dsimp only
      rw [bt g3 hw]
      dsimp only
      rw [mul5, addn, if_pos (inb_n (by omega) (by omega)), yI_cln (by omega)]
    · refine ⟨-102, ?_, ?_⟩
      · unfold fX9_about fX9_about_b0
        rw [bt g1 hb]
        dsimp only
        rw [if_neg (yI_nl (v := 0) (b := 0) rfl h3 h4 (by omega)), if_neg (yI_nl (v := 1) (b := 1) rfl h3 h4 (by omega)), if_neg (yI_nl (v := 2) (b := 2) rfl h3 h4 (by omega)), if_neg (yI_nl (v := 3) (b := 3) rfl h3 h4 (by omega)), if_neg (yI_nl (v := 4) (b := 4) rfl h3 h4 (by omega))]
      · unfold fX10_about fX10_about_b0
        rw [bt g2 hb]
        dsimp only
        rw [bf g3 hw]
  · refine ⟨-101, ?_, ?_⟩
    · unfold fX9_about fX9_about_b0
      rw [bf g1 hb]
    · unfold fX10_about fX10_about_b0
      rw [bf g2 hb]
theorem s_as (a0 a1 : Int32) : SimI Inv (fX9_as a0 a1) (fX10_as a0 a1) := SimI_same Inv_n fun n σ τ _ h => by
  obtain ⟨a, h1, h2, rfl⟩ := yI_ex a0
  obtain ⟨w, h3, h4, rfl⟩ := yI_ex a1
  have hv := h.2.2.1
  have g1 := f9_isBerg h1 h2 hv.e.1 hv.2.1 hv.2.2.1
  have g2 := f10_isBerg h1 h2 hv.e.2 hv.2.1 hv.2.2.1
  have g3 := in_zz h3 h4 (show (0 : Int64).toInt = 0 from rfl) (show (4 : Int64).toInt = 4 from rfl) τ
  have g4 := f9_isKind (σ := σ) h3 h4
  by_cases hb : 0 ≤ a ∧ a < cM τ 0 15
  · obtain ⟨b, rfl⟩ := Int.eq_ofNat_of_zero_le hb.1
    have h5 := hv.2.2.1
    by_cases hw : 0 ≤ w ∧ w ≤ 4
    · obtain ⟨r0, -⟩ := hv.r hb.2
      obtain ⟨v1, v2⟩ := hv.2.2.2 b hb.2
      have e5 : rI σ (76 + b) 5 = yI (if cM τ 6 (5 * b) = 1 ∨ cM τ 6 (5 * b) = 4 then 1 else 0) := by rw [cC_r (nsC_hi (by omega)), v2.2.2.2.2.2]
      have e0 : rI τ 6 (5 * b) = yI (cM τ 6 (5 * b)) := cM_r rfl
      have hA : fX0_isA (76 + b) (yI w) σ = some (if w = 0 ∨ w = cM τ 6 (5 * b) ∨ (w = 1 ∧ cM τ 6 (5 * b) = 4) then 1 else 0, σ) := by
        have k0 := v1.1
        have k4 := v1.2.1
        unfold fX0_isA fX0_isA_b0 fX0_isA_b24
        rw [r0, e0, e5]
        generalize cM τ 6 (5 * b) = k at *
        by_cases q0 : w = 0
        · rw [if_pos (by rw [q0]; rfl), if_pos (Or.inl q0)]
        · rw [if_neg (yI_ne0 h3 h4 q0)]
          by_cases q1 : w = k
          · rw [if_pos (by rw [q1]), if_pos (Or.inr (Or.inl q1))]
          · rw [if_neg (fun q => q1 (yI_inj h3 h4 (by omega) (by omega) q))]
            by_cases q2 : w = 1
            · rw [if_pos (by rw [q2]; rfl)]
              by_cases q3 : k = 4
              · rw [if_pos (Or.inr q3), if_neg (by decide), if_pos (Or.inr (Or.inr ⟨q2, q3⟩))]
              · rw [if_neg (c := k = 1 ∨ k = 4) (by omega), if_pos (show yI 0 = 0 from rfl), if_neg (by omega)]
            · rw [if_neg (yI_nl (v := 1) (b := 1) rfl h3 h4 q2), if_neg (by omega)]
      refine ⟨if w = 0 ∨ w = cM τ 6 (5 * b) ∨ (w = 1 ∧ cM τ 6 (5 * b) = 4) then yI (b : Int) else -1, ?_, ?_⟩
      · unfold fX9_as fX9_as_b0
        rw [bt g1 hb]
        dsimp only
        rw [bt g4 hw]
        dsimp only
        rw [if_pos (inb_n (by omega) (by omega)), yI_cln (by omega)]
        by_cases q : w = 0 ∨ w = cM τ 6 (5 * b) ∨ (w = 1 ∧ cM τ 6 (5 * b) = 4)
        · rw [bt hA q, if_pos q]
        · rw [bf hA q, if_neg q]
      · have k0 := v1.1
        have k4 := v1.2.1
        unfold fX10_as fX10_as_b0 fX10_as_b54 fX10_as_b58 fX10_as_b59
        rw [bt g2 hb]
        dsimp only
        rw [bt g3 hw]
        dsimp only
        rw [mul5, if_pos (inb_n (by omega) (by omega)), yI_cln (by omega), e0, if_neg (show ¬ (1 : Int32) = 0 by decide), if_pos (show (0 : Int32) = 0 from rfl)]
        generalize cM τ 6 (5 * b) = k at *
        by_cases q0 : w = 0
        · rw [if_pos (by rw [q0]; rfl), if_pos (Or.inl q0)]
        · rw [if_neg (yI_ne0 h3 h4 q0)]
          by_cases q1 : w = k
          · rw [if_pos (by rw [q1]), if_pos (Or.inr (Or.inl q1))]
          · rw [if_neg (fun q => q1 (yI_inj h3 h4 (by omega) (by omega) q))]
            by_cases q2 : w = 1
            · rw [if_pos (by rw [q2]; rfl)]
              by_cases q3 : k = 4
              · rw [if_pos (by rw [q3]; rfl), if_pos (Or.inr (Or.inr ⟨q2, q3⟩))]
              · rw [if_neg (yI_nl (v := 4) (b := 4) rfl (by omega) (by omega) q3), if_neg (by omega)]
            · rw [if_neg (yI_nl (v := 1) (b := 1) rfl h3 h4 q2), if_neg (by omega)]
    · refine ⟨-102, ?_, ?_⟩
      · unfold fX9_as fX9_as_b0
        rw [bt g1 hb]
        dsimp only
        rw [bf g4 hw]
      · unfold fX10_as fX10_as_b0
        rw [bt g2 hb]
        dsimp only
        rw [bf g3 hw]
  · refine ⟨-101, ?_, ?_⟩
    · unfold fX9_as fX9_as_b0
      rw [bf g1 hb]
    · unfold fX10_as fX10_as_b0
      rw [bf g2 hb]
