/-! ===== berg ===== -/
theorem f0_mayBreak {σ : Sg} {k x : Int} (h1 : -2147483648 ≤ k) (h2 : k < 2147483648) (h3 : -2147483648 ≤ x) (h4 : x < 2147483648) : fX0_mayBreak (yI k) (yI x) σ = some (if (k = 2 → 2 ≤ x ∧ x ≤ 9) ∧ (k ≠ 2 → x = 0) then 1 else 0, σ) := by
  unfold fX0_mayBreak fX0_mayBreak_b0 fX0_mayBreak_b20
  by_cases q : k = 2
  · rw [if_pos (eqp (v := 2) (b := 2) rfl q)]
    by_cases q1 : x < 2
    · rw [if_pos (ltp (v := 2) (b := 2) rfl h3 h4 q1), if_neg (by omega)]
    · rw [if_neg (ltn (v := 2) (b := 2) rfl h3 h4 (by omega))]
      by_cases q2 : 9 < x
      · rw [if_pos (gtp (v := 9) (b := 9) rfl h3 h4 q2), if_neg (by omega)]
      · rw [if_neg (gtn (v := 9) (b := 9) rfl h3 h4 (by omega)), if_pos (by omega)]
  · rw [if_neg (yI_nl (v := 2) (b := 2) rfl h1 h2 q)]
    by_cases q1 : x = 0
    · rw [if_pos (eqp (v := 0) (b := 0) rfl q1), if_pos (by omega)]
    · rw [if_neg (yI_nl (v := 0) (b := 0) rfl h3 h4 q1), if_neg (by omega)]
theorem f0_become {σ : Sg} {o : Nat} {k : Int} (h1 : -2147483648 ≤ k) (h2 : k < 2147483648) (x2 x3 x4 x5 : Int32) : fX0_become o (yI k) x2 x3 x4 x5 σ = some (wI (wI (wI (wI (wI (wI σ o 0 (yI k)) o 1 x2) o 2 x3) o 3 x4) o 4 x5) o 5 (yI (if k = 1 ∨ k = 4 then 1 else 0))) := by
  unfold fX0_become fX0_become_b0 fX0_become_b38
  by_cases q : k = 1
  · rw [if_pos (eqp (v := 1) (b := 1) rfl q), if_pos (Or.inl q)]; rfl
  · rw [if_neg (yI_nl (v := 1) (b := 1) rfl h1 h2 q)]
    by_cases q1 : k = 4
    · rw [if_pos (eqp (v := 4) (b := 4) rfl q1), if_pos (Or.inr q1)]; rfl
    · rw [if_neg (yI_nl (v := 4) (b := 4) rfl h1 h2 q1), if_neg (by omega)]; rfl
theorem IV_berg {n : Nat} {c m : Mm} (h : IV n c m) {b : Nat} (hb : m 0 15 = (b : Int)) (b5 : b < 5) {k s z f x : Int} (v1 : 0 ≤ k ∧ k ≤ 4) (v2 : 0 ≤ s ∧ s < m 0 9 * m 0 10) (v3 : m 4 s.toNat ≤ 9) (v4 : 10 ≤ z ∧ z ≤ 999) (v5 : 0 ≤ f ∧ f ≤ 99) (v6 : (k = 2 → 2 ≤ x ∧ x ≤ 9) ∧ (k ≠ 2 → x = 0)) : IV (n + 1) (up (up (up (up (up (up (up (up c (76 + b) 0 k) (76 + b) 1 s) (76 + b) 2 z) (76 + b) 3 f) (76 + b) 4 x) (76 + b) 5 (if k = 1 ∨ k = 4 then 1 else 0)) 65 b 0) 0 9 ((b + 1 : Nat) : Int)) (up (up (up (up (up (up m 6 (5 * b) k) 6 (5 * b + 1) s) 6 (5 * b + 2) z) 6 (5 * b + 3) f) 6 (5 * b + 4) x) 0 15 ((b + 1 : Nat) : Int)) := by
  have hv := h.2.2.1
  refine IV_b h b5 (fun o k h1 h2 h3 => ?_) (fun o k h1 h2 => ?_) (fun q => by omega) ?_ ?_ ?_ ?_ ?_ ?_ ?_
  · rw [up_n h3, up_n h2, up_n (by omega), up_n (by omega), up_n (by omega), up_n (by omega), up_n (by omega), up_n (by omega)]
  · rw [up_n h2, up_n (by omega), up_n (by omega), up_n (by omega), up_n (by omega), up_n (by omega)]
  · simp (disch := omega) only [up_n, up_s]
  · unfold VB1 qsq
    simp (disch := omega) only [up_n, up_s]
    exact ⟨v1.1, v1.2, v2.1, v2.2, v3, v4.1, v4.2, v5.1, v5.2, v6.1, v6.2⟩
  · unfold VB2
    simp (disch := omega) only [up_n, up_s]
    simp
  · simp (disch := omega) only [up_n, up_s]
  · simp (disch := omega) only [up_n, up_s]
    omega
  · simp (disch := omega) only [up_n, up_s]
    omega
  · intro i hi ne
    simp (disch := omega) only [up_n, up_s] at hi
    omega
theorem s_berg (a0 a1 a2 a3 a4 : Int32) : SimI Inv (fX9_berg a0 a1 a2 a3 a4) (fX10_berg a0 a1 a2 a3 a4) := fun n σ τ _ h => by
  obtain ⟨k, h1, h2, rfl⟩ := yI_ex a0
  obtain ⟨s, h3, h4, rfl⟩ := yI_ex a1
  obtain ⟨z, h5, h6, rfl⟩ := yI_ex a2
  obtain ⟨f, h7, h8, rfl⟩ := yI_ex a3
  obtain ⟨x, h9, h10, rfl⟩ := yI_ex a4
  have hq := h.2.1
  have hv := h.2.2.1
  have hS := hq.S
  have e0 : rI σ 4 5 = yI (cM τ 0 9 * cM τ 0 10) := by rw [cC_r (o := 4) (k := 5) rfl, hS.1]
  have e1 : rI τ 0 9 * rI τ 0 10 = yI (cM τ 0 9 * cM τ 0 10) := by rw [cM_r (o := 0) (k := 9) rfl, cM_r (o := 0) (k := 10) rfl, yI_mul]
  have g1 := f9_isKind (σ := σ) h1 h2
  have g2 := in_zz h1 h2 (show (0 : Int64).toInt = 0 from rfl) (show (4 : Int64).toInt = 4 from rfl) τ
  have g3 := f7_has h3 h4 e0 hS.2.1 hS.2.2
  have g4 := f10_isSquare h3 h4 e1 hS.2.1 hS.2.2
  have g5 := f9_isSize (σ := σ) h5 h6
  have g6 := in_zz h5 h6 (show (10 : Int64).toInt = 10 from rfl) (show (999 : Int64).toInt = 999 from rfl) τ
  have g7 := f9_isFoot (σ := σ) h7 h8
  have g8 := in_zz h7 h8 (show (0 : Int64).toInt = 0 from rfl) (show (99 : Int64).toInt = 99 from rfl) τ
  have g9 := f0_mayBreak (σ := σ) h1 h2 h9 h10
  have g10 := in_zz h9 h10 (show (2 : Int64).toInt = 2 from rfl) (show (9 : Int64).toInt = 9 from rfl) τ
  have gw : fX7_hasWarmth (yI s) σ = some (if (0 ≤ s ∧ s < cM τ 0 9 * cM τ 0 10) ∧ cM τ 4 s.toNat ≤ 9 then 1 else 0, σ) := by
    unfold fX7_hasWarmth fX7_hasWarmth_b0
    by_cases q : 0 ≤ s ∧ s < cM τ 0 9 * cM τ 0 10
    · obtain ⟨i, rfl⟩ := Int.eq_ofNat_of_zero_le q.1
      obtain ⟨vs, vt⟩ := hq.sea (by omega)
      obtain ⟨e5, -⟩ := vt.2.2.2 i q.2
      obtain ⟨w1, w2, -⟩ := vs.2.2.2.2.2.2.2 i q.2
      rw [bt g3 q]
      dsimp only
      rw [if_pos (inb_t h4 (by omega) (by omega)), yI_cln (by omega), cC_r (o := 5) (k := i) rfl, e5, Int.toNat_natCast]
      by_cases q2 : cM τ 4 i ≤ 9
      · rw [if_neg (gen (v := 10) (b := 10) rfl (by omega) (by omega) (by omega)), if_pos ⟨q, q2⟩]
      · rw [if_pos (gep (v := 10) (b := 10) rfl (by omega) (by omega) (by omega)), if_neg (fun q3 => q2 q3.2)]
    · rw [bf g3 q, if_neg (fun q3 => q q3.1)]
  have gm : ∀ B : Nat, (0 ≤ s ∧ s < cM τ 0 9 * cM τ 0 10) → inb (yI s) 30 = true ∧ rI τ 4 (yI s).toNatClampNeg = yI (cM τ 4 s.toNat) ∧ 0 ≤ cM τ 4 s.toNat ∧ cM τ 4 s.toNat ≤ 11 := fun _ q => by
    obtain ⟨i, rfl⟩ := Int.eq_ofNat_of_zero_le q.1
    obtain ⟨vs, vt⟩ := hq.sea (by omega)
    obtain ⟨w1, w2, -⟩ := vs.2.2.2.2.2.2.2 i q.2
    exact ⟨inb_t h4 (by omega) (by omega), by rw [yI_cln (by omega), cM_r (o := 4) (k := i) rfl]; rfl, w1, w2⟩
  by_cases qk : 0 ≤ k ∧ k ≤ 4
  · by_cases qs : (0 ≤ s ∧ s < cM τ 0 9 * cM τ 0 10) ∧ cM τ 4 s.toNat ≤ 9
    · obtain ⟨i1, i2, i3, i4⟩ := gm 0 qs.1
      by_cases qz : 10 ≤ z ∧ z ≤ 999
      · by_cases qf : 0 ≤ f ∧ f ≤ 99
        · by_cases qx : (k = 2 → 2 ≤ x ∧ x ≤ 9) ∧ (k ≠ 2 → x = 0)
          · have h15 := hv.2.2.1
            obtain ⟨b, hb⟩ := Int.eq_ofNat_of_zero_le hv.2.1
            have e9 : rI σ 0 9 = yI (b : Int) := by rw [hv.e.1, hb]
            have e15 : rI τ 0 15 = yI (b : Int) := by rw [hv.e.2, hb]
            have u1 : fX9_berg (yI k) (yI s) (yI z) (yI f) (yI x) σ = if b < 5 then some (yI (b : Int), wI (wI (wI (wI (wI (wI (wI (wI σ (76 + b) 0 (yI k)) (76 + b) 1 (yI s)) (76 + b) 2 (yI z)) (76 + b) 3 (yI f)) (76 + b) 4 (yI x)) (76 + b) 5 (yI (if k = 1 ∨ k = 4 then 1 else 0))) 65 b 0) 0 9 (yI ((b + 1 : Nat) : Int))) else some (-104, σ) := by
              unfold fX9_berg fX9_berg_b0
              rw [bt g1 qk]
              dsimp only
              rw [bt gw qs]
              dsimp only
              rw [bt g5 qz]
              dsimp only
              rw [bt g7 qf]
              dsimp only
              rw [bt g9 qx]
              dsimp only
              rw [e9]
              by_cases q5 : b < 5
              · rw [if_pos (ltp (v := 5) (b := 5) rfl (by omega) (by omega) (by omega)), if_pos (inb_n (by omega) q5), yI_cln (by omega), b1 (f0_become h1 h2 _ _ _ _)]
                simp (disch := omega) only [rI_o, e9]
                rw [b1 (f3_forget q5)]
                simp (disch := omega) only [rI_o, e9, rI_s, add1]
                rw [if_pos q5, show yI ((b + 1 : Nat) : Int) - 1 = yI (b : Int) from by rw [yI_1, yI_sub]; congr 1; omega]
              · rw [if_neg (ltn (v := 5) (b := 5) rfl (by omega) (by omega) (by omega)), if_neg q5]
            have u2 : fX10_berg_b95 (yI k) (yI s) (yI z) (yI f) (yI x) τ = if b < 5 then some (yI (b : Int), wI (wI (wI (wI (wI (wI τ 6 (5 * b) (yI k)) 6 (5 * b + 1) (yI s)) 6 (5 * b + 2) (yI z)) 6 (5 * b + 3) (yI f)) 6 (5 * b + 4) (yI x)) 0 15 (yI ((b + 1 : Nat) : Int))) else some (-104, τ) := by
              unfold fX10_berg_b95
              simp (disch := omega) only [rI_o, e15, mul5, add1, add2, add3, add4, yI_cln, rI_s]
              by_cases q5 : b < 5
              · rw [if_pos q5, if_neg (yI_nl (v := 5) (b := 5) rfl (by omega) (by omega) (by omega)), if_pos (inb_n (by omega) (by omega)), if_pos (inb_n (by omega) (by omega)), if_pos (inb_n (by omega) (by omega)), if_pos (inb_n (by omega) (by omega)), if_pos (inb_n (by omega) (by omega)), show yI ((b + 1 : Nat) : Int) - 1 = yI (b : Int) from by rw [yI_1, yI_sub]; congr 1; omega]
              · rw [if_neg q5, if_pos (eqp (v := 5) (b := 5) rfl (by omega))]
            have u3 : fX10_berg (yI k) (yI s) (yI z) (yI f) (yI x) τ = fX10_berg_b95 (yI k) (yI s) (yI z) (yI f) (yI x) τ := by
              unfold fX10_berg fX10_berg_b0
              rw [bt g2 qk]
              dsimp only
              rw [bt g4 qs.1]
              dsimp only
              rw [if_pos i1, i2, if_pos (lep (v := 9) (b := 9) rfl (by omega) (by omega) qs.2), bt g6 qz]
              dsimp only
              rw [bt g8 qf]
              dsimp only
              by_cases q2 : k = 2
              · rw [if_pos (eqp (v := 2) (b := 2) rfl q2), bt g10 (qx.1 q2)]
              · rw [if_neg (yI_nl (v := 2) (b := 2) rfl h1 h2 q2), if_pos (eqp (v := 0) (b := 0) rfl (qx.2 q2))]
            rw [u2] at u3
            by_cases q5 : b < 5
            · rw [if_pos q5] at u1 u3
              refine ⟨_, _, _, u1, u3, ?_⟩
              have bq : 0 ≤ (if k = 1 ∨ k = 4 then (1 : Int) else 0) ∧ (if k = 1 ∨ k = 4 then (1 : Int) else 0) ≤ 1 := by omega
              have ec : cC (wI (wI (wI (wI (wI (wI (wI (wI σ (76 + b) 0 (yI k)) (76 + b) 1 (yI s)) (76 + b) 2 (yI z)) (76 + b) 3 (yI f)) (76 + b) 4 (yI x)) (76 + b) 5 (yI (if k = 1 ∨ k = 4 then 1 else 0))) 65 b 0) 0 9 (yI ((b + 1 : Nat) : Int))) = up (up (up (up (up (up (up (up (cC σ) (76 + b) 0 k) (76 + b) 1 s) (76 + b) 2 z) (76 + b) 3 f) (76 + b) 4 x) (76 + b) 5 (if k = 1 ∨ k = 4 then 1 else 0)) 65 b 0) 0 9 ((b + 1 : Nat) : Int) := by
                show core nsC _ = _
                rw [core_wz rfl (by omega) (by omega), show (0 : Int32) = yI 0 from rfl, core_wz (nsC_low (by omega) (by omega)) (by omega) (by omega), core_wz (nsC_hi (by omega)) (by omega) (by omega), core_wz (nsC_hi (by omega)) h9 h10, core_wz (nsC_hi (by omega)) h7 h8, core_wz (nsC_hi (by omega)) h5 h6, core_wz (nsC_hi (by omega)) h3 h4, core_wz (nsC_hi (by omega)) h1 h2]
              have em : cM (wI (wI (wI (wI (wI (wI τ 6 (5 * b) (yI k)) 6 (5 * b + 1) (yI s)) 6 (5 * b + 2) (yI z)) 6 (5 * b + 3) (yI f)) 6 (5 * b + 4) (yI x)) 0 15 (yI ((b + 1 : Nat) : Int))) = up (up (up (up (up (up (cM τ) 6 (5 * b) k) 6 (5 * b + 1) s) 6 (5 * b + 2) z) 6 (5 * b + 3) f) 6 (5 * b + 4) x) 0 15 ((b + 1 : Nat) : Int) := by
                show core nsM _ = _
                rw [core_wz rfl (by omega) (by omega), core_wz rfl h9 h10, core_wz rfl h7 h8, core_wz rfl h5 h6, core_wz rfl h3 h4, core_wz rfl h1 h2]
              unfold Inv
              rw [ec, em]
              exact IV_berg h hb q5 qk qs.1 qs.2 qz qf qx
            · rw [if_neg q5] at u1 u3
              exact ⟨_, _, _, u1, u3, Inv_n n σ τ h⟩
          · refine ⟨-102, σ, τ, ?_, ?_, Inv_n n σ τ h⟩
            · unfold fX9_berg fX9_berg_b0
              rw [bt g1 qk]
              dsimp only
              rw [bt gw qs]
              dsimp only
              rw [bt g5 qz]
              dsimp only
              rw [bt g7 qf]
              dsimp only
              rw [bf g9 qx]
            · unfold fX10_berg fX10_berg_b0
              rw [bt g2 qk]
              dsimp only
              rw [bt g4 qs.1]
              dsimp only
              rw [if_pos i1, i2, if_pos (lep (v := 9) (b := 9) rfl (by omega) (by omega) qs.2), bt g6 qz]
              dsimp only
              rw [bt g8 qf]
              dsimp only
              by_cases q2 : k = 2
              · rw [if_pos (eqp (v := 2) (b := 2) rfl q2), bf g10 (by omega)]
              · rw [if_neg (yI_nl (v := 2) (b := 2) rfl h1 h2 q2), if_neg (yI_nl (v := 0) (b := 0) rfl h9 h10 (by omega))]
        · refine ⟨-102, σ, τ, ?_, ?_, Inv_n n σ τ h⟩
          · unfold fX9_berg fX9_berg_b0
            rw [bt g1 qk]
            dsimp only
            rw [bt gw qs]
            dsimp only
            rw [bt g5 qz]
            dsimp only
            rw [bf g7 qf]
          · unfold fX10_berg fX10_berg_b0
            rw [bt g2 qk]
            dsimp only
            rw [bt g4 qs.1]
            dsimp only
            rw [if_pos i1, i2, if_pos (lep (v := 9) (b := 9) rfl (by omega) (by omega) qs.2), bt g6 qz]
            dsimp only
            rw [bf g8 qf]
      · refine ⟨-102, σ, τ, ?_, ?_, Inv_n n σ τ h⟩
        · unfold fX9_berg fX9_berg_b0
          rw [bt g1 qk]
          dsimp only
          rw [bt gw qs]
          dsimp only
          rw [bf g5 qz]
        · unfold fX10_berg fX10_berg_b0
          rw [bt g2 qk]
          dsimp only
          rw [bt g4 qs.1]
          dsimp only
          rw [if_pos i1, i2, if_pos (lep (v := 9) (b := 9) rfl (by omega) (by omega) qs.2), bf g6 qz]
    · refine ⟨-101, σ, τ, ?_, ?_, Inv_n n σ τ h⟩
      · unfold fX9_berg fX9_berg_b0
        rw [bt g1 qk]
        dsimp only
        rw [bf gw qs]
      · unfold fX10_berg fX10_berg_b0
        rw [bt g2 qk]
        dsimp only
        by_cases q : 0 ≤ s ∧ s < cM τ 0 9 * cM τ 0 10
        · obtain ⟨i1, i2, i3, i4⟩ := gm 0 q
          rw [bt g4 q]
          dsimp only
          rw [if_pos i1, i2, if_neg (len (v := 9) (b := 9) rfl (by omega) (by omega) (by omega))]
        · rw [bf g4 q]
  · refine ⟨-102, σ, τ, ?_, ?_, Inv_n n σ τ h⟩
    · unfold fX9_berg fX9_berg_b0
      rw [bf g1 qk]
    · unfold fX10_berg fX10_berg_b0
      rw [bf g2 qk]
