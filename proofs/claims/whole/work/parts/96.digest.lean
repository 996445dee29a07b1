/-! ===== digest ===== -/
theorem count_eq {n : Nat} {σ τ : Sg} (h : Inv n σ τ) (a0 : Int32) : ∃ r, fX9_count a0 σ = some (r, σ) ∧ fX10_countOf a0 τ = some (r, τ) := by
  obtain ⟨hp, hq, hb, hc, hl, hd, hi, hg⟩ := h
  have e0 : rI σ 4 5 = rI τ 0 9 * rI τ 0 10 := by rw [cC_r (o := 4) (k := 5) rfl, cM_r (o := 0) (k := 9) rfl, cM_r (o := 0) (k := 10) rfl, yI_mul, hq.S.1]
  have e1 : rI σ 0 9 = rI τ 0 15 := by rw [cC_r (o := 0) (k := 9) rfl, cM_r (o := 0) (k := 15) rfl, hb.1]
  have e2 : rI σ 49 3 = rI τ 0 20 := by rw [cC_r (o := 49) (k := 3) rfl, cM_r (o := 0) (k := 20) rfl, hl.1]
  have e3 : rI σ 1 1 = rI τ 0 1 := by rw [cC_r (o := 1) (k := 1) rfl, cM_r (o := 0) (k := 1) rfl, hp.1]
  have e4 : rI σ 41 (0 : Int32).toNatClampNeg = rI τ 0 17 := by rw [show (0 : Int32).toNatClampNeg = 0 from rfl, cC_r (o := 41) (k := 0) rfl, cM_r (o := 0) (k := 17) rfl, hc.1]
  have e5 : rI σ 41 (1 : Int32).toNatClampNeg = rI τ 0 18 := by rw [show (1 : Int32).toNatClampNeg = 1 from rfl, cC_r (o := 41) (k := 1) rfl, cM_r (o := 0) (k := 18) rfl, hc.2.1]
  have e6 : rI σ 41 (2 : Int32).toNatClampNeg = rI τ 0 19 := by rw [show (2 : Int32).toNatClampNeg = 2 from rfl, cC_r (o := 41) (k := 2) rfl, cM_r (o := 0) (k := 19) rfl, hc.2.2.1]
  have e7 : rI σ 0 10 = rI τ 0 12 := by rw [cC_r (o := 0) (k := 10) rfl, cM_r (o := 0) (k := 12) rfl, hq.1]
  have e8 : rI σ 0 11 = rI τ 0 40 := by rw [cC_r (o := 0) (k := 11) rfl, cM_r (o := 0) (k := 40) rfl, hd.1]
  unfold fX9_count fX9_count_b0 fX10_countOf fX10_countOf_b0
  rw [e0, e1, e2, e3, e4, e5, e6, e7, e8]
  by_cases q0 : a0 = 0
  · rw [if_pos q0, if_pos q0]; exact ⟨_, rfl, rfl⟩
  · rw [if_neg q0, if_neg q0]
    by_cases q1 : a0 = 1
    · rw [if_pos q1, if_pos q1]; exact ⟨_, rfl, rfl⟩
    · rw [if_neg q1, if_neg q1]
      by_cases q2 : a0 = 2
      · rw [if_pos q2, if_pos q2]; exact ⟨_, rfl, rfl⟩
      · rw [if_neg q2, if_neg q2]
        by_cases q3 : a0 = 3
        · rw [if_pos q3, if_pos q3]; exact ⟨_, rfl, rfl⟩
        · rw [if_neg q3, if_neg q3]
          by_cases q4 : a0 = 4
          · rw [if_pos q4, if_pos q4]; exact ⟨_, rfl, rfl⟩
          · rw [if_neg q4, if_neg q4]
            by_cases q5 : a0 = 5
            · rw [if_pos q5, if_pos q5]; exact ⟨_, rfl, rfl⟩
            · rw [if_neg q5, if_neg q5]
              by_cases q6 : a0 = 6
              · rw [if_pos q6, if_pos q6]; exact ⟨_, rfl, rfl⟩
              · rw [if_neg q6, if_neg q6]
                by_cases q7 : a0 = 7
                · rw [if_pos q7, if_pos q7]; exact ⟨_, rfl, rfl⟩
                · rw [if_neg q7, if_neg q7]
                  by_cases q8 : a0 = 8
                  · rw [if_pos q8, if_pos q8]; exact ⟨_, rfl, rfl⟩
                  · rw [if_neg q8, if_neg q8]; exact ⟨_, rfl, rfl⟩
/-- two loops, round by round -/
theorem lock {fc : Int64 × Int32 × Sg → Option ((Int64 × Int32 × Sg) ⊕ (Int64 × Sg))} {fm : Int32 × Sg → Option ((Int32 × Sg) ⊕ Sg)} (D : Int64 → Sg → Sg → Prop) (N : Nat) (hN : N < 1000) (hs : ∀ k h σ τ, k < N → D h σ τ → ∃ h1 σ1 τ1, fc (h, yI (k : Int), σ) = some (.inl (h1, yI ((k + 1 : Nat) : Int), σ1)) ∧ fm (yI (k : Int), τ) = some (.inl (yI ((k + 1 : Nat) : Int), τ1)) ∧ D h1 σ1 τ1) (he : ∀ h σ τ, D h σ τ → fc (h, yI (N : Int), σ) = some (.inr (h, σ)) ∧ fm (yI (N : Int), τ) = some (.inr τ)) {h : Int64} {σ τ : Sg} (d : D h σ τ) : ∃ h' σ' τ', lp fc FU (h, (0 : Int32), σ) = some (h', σ') ∧ lp fm FU ((0 : Int32), τ) = some τ' ∧ D h' σ' τ' := by
  suffices H : ∀ (j k : Nat) (h : Int64) (σ τ : Sg) (n : Nat), k + j = N → j < n → D h σ τ → ∃ h' σ' τ', lp fc n (h, yI (k : Int), σ) = some (h', σ') ∧ lp fm n (yI (k : Int), τ) = some τ' ∧ D h' σ' τ' from H N 0 h σ τ FU (Nat.zero_add N) (FU_b (by omega)) d
  intro j
  induction j with
  | zero =>
    intro k h σ τ n hk hn d
    obtain ⟨n, rfl⟩ : ∃ n', n = n' + 1 := ⟨n - 1, by omega⟩
    have e : k = N := by omega
    subst e
    obtain ⟨e1, e2⟩ := he h σ τ d
    exact ⟨h, σ, τ, lp_en e1, lp_en e2, d⟩
  | succ j ih =>
    intro k h σ τ n hk hn d
    obtain ⟨n, rfl⟩ : ∃ n', n = n' + 1 := ⟨n - 1, by omega⟩
    obtain ⟨h1, σ1, τ1, e1, e2, d1⟩ := hs k h σ τ (by omega) d
    obtain ⟨h', σ', τ', r1, r2, r3⟩ := ih (k + 1) h1 σ1 τ1 n (by omega) (by omega) d1
    exact ⟨h', σ', τ', (lp_st e1).trans r1, (lp_st e2).trans r2, r3⟩
/-- both have said the same so far; m0 is what lasts of the model's -/
def DJ (n : Nat) (m0 : Mm) (h : Int64) (σ τ : Sg) : Prop := Inv n σ τ ∧ cM τ = m0 ∧ rJ τ 0 51 = h
theorem f10_say {τ : Sg} {v h : Int64} (e : rJ τ 0 51 = h) : fX10_say v τ = some (wJ τ 0 51 ((31 : Int64) * h + v)) := by
  unfold fX10_say fX10_say_b0
  rw [e]
theorem DJ_say {n : Nat} {m0 : Mm} {h : Int64} {σ τ : Sg} (d : DJ n m0 h σ τ) (v : Int64) : DJ n m0 v σ (wJ τ 0 51 v) := by
  obtain ⟨d1, d2, d3⟩ := d
  refine ⟨?_, ?_, rJ_sv⟩
  · unfold Inv cM at d1 ⊢
    rw [core_J]; exact d1
  · unfold cM at d2 ⊢
    rw [core_J]; exact d2
theorem J_51 {τ τ' : Sg} {h : Int64} (e : rJ τ 0 51 = h) (j : τ'.2.1 = τ.2.1) : rJ τ' 0 51 = h := by
  rw [← e]
  exact congrFun (congrFun j 0) 51
/-- after a call that looks only -/
theorem DJ_go {n : Nat} {m0 : Mm} {h : Int64} {σ τ σ' τ' : Sg} (d : DJ n m0 h σ τ) (i : Inv n σ' τ') (m : cM τ' = cM τ) (j : τ'.2.1 = τ.2.1) : DJ n m0 h σ' τ' := ⟨i, m.trans d.2.1, J_51 d.2.2 j⟩
theorem dig_sq {n : Nat} {m0 : Mm} {h : Int64} {σ τ : Sg} (d : DJ n m0 h σ τ) : ∃ h' σ' τ', lp (fun s : Int64 × Int32 × Sg => fX9_digest_b6 s.1 s.2.1 s.2.2) FU (h, (0 : Int32), σ) = some (h', σ') ∧ lp (fun s : Int32 × Sg => fX10_digest_b9 s.1 s.2) FU ((0 : Int32), τ) = some τ' ∧ DJ n m0 h' σ' τ' := by
  have hS := d.1.2.1.S
  rw [d.2.1] at hS
  obtain ⟨N, hN⟩ := Int.eq_ofNat_of_zero_le hS.2.1
  have eC : ∀ {h σ τ}, DJ n m0 h σ τ → rI σ 4 5 = yI (N : Int) ∧ rI τ 0 9 * rI τ 0 10 = yI (N : Int) := fun {h σ τ} d => by
    have hS2 := d.1.2.1.S
    refine ⟨by rw [cC_r (o := 4) (k := 5) rfl, hS2.1, d.2.1, hN], by rw [cM_r (o := 0) (k := 9) rfl, cM_r (o := 0) (k := 10) rfl, yI_mul, d.2.1, hN]⟩
  refine lock (DJ n m0) N (by omega) (fun c h σ τ hc d => ?_) (fun h σ τ d => ?_) d
  · obtain ⟨e1, e2⟩ := eC d
    obtain ⟨h', σ', τ', r1, r2, r3⟩ := lock (fc := fun s : Int64 × Int32 × Sg => fX9_digest_b20 s.1 (yI (c : Int)) s.2.1 s.2.2) (fm := fun s : Int32 × Sg => fX10_digest_b24 (yI (c : Int)) s.1 s.2) (DJ n m0) 3 (by omega) (fun k h σ τ hk d => by
      obtain ⟨r, q1, q2⟩ := square_eq d.1 (c := c) (by rw [d.2.1, hN]; omega) (yI (k : Int))
      refine ⟨(31 : Int64) * h + r.toInt64, σ, _, ?_, ?_, DJ_say d _⟩
      · dsimp only
        unfold fX9_digest_b20
        rw [if_neg (gtn (v := 2) (b := 2) rfl (by omega) (by omega) (by omega)), b1 q1, add1]
      · dsimp only
        unfold fX10_digest_b24
        rw [if_neg (gen (v := 3) (b := 3) rfl (by omega) (by omega) (by omega)), b1 q2]
        dsimp only
        rw [b1 (f10_say d.2.2), add1]) (fun h σ τ d => ⟨by
        dsimp only
        unfold fX9_digest_b20
        rw [if_pos (gtp (v := 2) (b := 2) rfl (by omega) (by omega) (by omega))], by
        dsimp only
        unfold fX10_digest_b24
        rw [if_pos (gep (v := 3) (b := 3) rfl (by omega) (by omega) (by omega))]⟩) d
    refine ⟨h', σ', τ', ?_, ?_, r3⟩
    · dsimp only
      unfold fX9_digest_b6
      rw [e1, if_neg (fun q => by have := (yI_le (by omega) (by omega) (by omega) (by omega)).mp q; omega), b1 r1, add1]
    · dsimp only
      unfold fX10_digest_b9
      rw [e2, if_neg (fun q => by have := (yI_le (by omega) (by omega) (by omega) (by omega)).mp q; omega), b1 r2, add1]
  · obtain ⟨e1, e2⟩ := eC d
    refine ⟨?_, ?_⟩
    · dsimp only
      unfold fX9_digest_b6
      rw [e1, if_pos ((yI_le (by omega) (by omega) (by omega) (by omega)).mpr (Int.le_refl _))]
    · dsimp only
      unfold fX10_digest_b9
      rw [e2, if_pos ((yI_le (by omega) (by omega) (by omega) (by omega)).mpr (Int.le_refl _))]
