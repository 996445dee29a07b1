/-! ===== fault ===== -/
theorem f10_faultOf {τ : Sg} {p : Nat → Int} {L : Nat} (hL : rI τ 0 1 = yI (L : Int)) (L64 : L ≤ 64) (hp : ∀ k, k < L → rI τ 1 k = yI (p k) ∧ 1 ≤ p k ∧ p k ≤ 126) : ∃ k τ', fX10_faultOf τ = some (yI ((k : Nat) : Int), τ') ∧ wrg p L k ∧ mFr τ τ' ∧ ∀ s, k = L → scn p L = some s → PM τ' s ∧ AR τ' s (scw p L) (scf p L) := by
  have H : ∃ t, lp (fun s : Int32 × Sg => fX10_faultOf_b27 s.1 s.2) FU ((0 : Int32), wI (wI (wI (wI (wI τ 0 2 0) 0 3 0) 0 4 0) 0 5 (-1)) 0 6 0) = some t ∧ (∃ k τ', t = (yI ((k : Nat) : Int), τ') ∧ wrg p L k ∧ mFr τ τ' ∧ ∀ s, k = L → scn p L = some s → PM τ' s ∧ AR τ' s (scw p L) (scf p L)) := by
    refine lp_for (fun k st => st.1 = yI (k : Int) ∧ mFr τ st.2 ∧ ∃ s, scn p k = some s ∧ PM st.2 s ∧ AR st.2 s (scw p k) (scf p k)) L _ ?_ ?_ ⟨rfl, mFr_0 (mFr_0 (mFr_0 (mFr_0 (mFr_0 (mFr_r τ) (by omega) (by omega)) (by omega) (by omega)) (by omega) (by omega)) (by omega) (by omega)) (by omega) (by omega), _, rfl, ?_, fun i hi => absurd hi (Nat.not_lt_zero i)⟩ (FU_b (by omega))
    · rintro k ⟨x, t⟩ hk ⟨h1, h2, s, h3, h4, h5⟩
      dsimp only at h1 h2 h4 h5
      subst h1
      obtain ⟨e2, e3, e4⟩ := hp k hk
      obtain ⟨r, t', r1, r2, r3, r4⟩ := f10_go (scn_ok k s h3) h4 e3 e4
      have fr : mFr τ t' := fun o j a b c => by rw [r2 o j a b c, h2 o j a b c]
      have hsc : scn p (k + 1) = stp (p k) s := by
        show (scn p k).bind (stp (p k)) = _
        rw [h3]; rfl
      have hw : scw p (k + 1) = lw (p k) s (scw p k) := by
        show (match scn p k with | none => scw p k | some s => lw (p k) s (scw p k)) = _
        rw [h3]
      have hf : scf p (k + 1) = lf (p k) s (scf p k) := by
        show (match scn p k with | none => scf p k | some s => lf (p k) s (scf p k)) = _
        rw [h3]
      dsimp only
      unfold fX10_faultOf_b27
      rw [h2 0 1 (by omega) (by omega) (by omega), hL, if_neg (fun q => by have := (yI_le (by omega) (by omega) (by omega) (by omega)).mp q; omega), if_pos (inb_n (by omega) (by omega)), yI_cln (by omega), h2 1 k (by omega) (by omega) (by omega), e2, b1 r1]
      dsimp only
      cases e : stp (p k) s with
      | none =>
        rw [if_pos (r4 e)]
        exact ⟨_, rfl, k, t', rfl, ⟨by omega, by rw [h3]; exact Option.some_ne_none s, Or.inr (hsc.trans e)⟩, fr, fun _ q => by omega⟩
      | some s' =>
        obtain ⟨z1, z2, z3⟩ := r3 s' e
        rw [if_neg (by rw [z1]; decide), add1]
        refine ⟨_, rfl, rfl, fr, s', hsc.trans e, z2, ?_⟩
        rw [hw, hf]
        exact z3 _ _ h5
    · rintro ⟨x, t⟩ ⟨h1, h2, s, h3, h4, h5⟩
      dsimp only at h1 h2 h4 h5
      subst h1
      refine ⟨(yI (L : Int), t), ?_, L, t, rfl, ⟨Nat.le_refl _, by rw [h3]; exact Option.some_ne_none s, Or.inl rfl⟩, h2, fun s' _ e => ?_⟩
      · dsimp only
        unfold fX10_faultOf_b27
        rw [h2 0 1 (by omega) (by omega) (by omega), hL, if_pos ((yI_le (by omega) (by omega) (by omega) (by omega)).mpr (Int.le_refl _))]
      · rw [h3] at e; cases e; exact ⟨h4, h5⟩
    · refine ⟨?_, ?_, ?_, ?_, ?_⟩
      · dsimp only
        rw [rI_k (by omega), rI_k (by omega), rI_k (by omega), rI_k (by omega), rI_s]; rfl
      · dsimp only
        rw [rI_k (by omega), rI_k (by omega), rI_s]; rfl
      · dsimp only
        rw [rI_k (by omega), rI_k (by omega), rI_k (by omega), rI_s]; rfl
      · dsimp only
        rw [rI_k (by omega), rI_s]; rfl
      · dsimp only
        rw [rI_s]; rfl
  obtain ⟨t, k1, k, τ', rfl, k3, k4, k5⟩ := H
  refine ⟨k, τ', ?_, k3, k4, k5⟩
  unfold fX10_faultOf fX10_faultOf_b0
  rw [b1 k1]
theorem pFr_core {σ σ' : Sg} (h : pFr σ σ') : cC σ' = cC σ := funext fun a => funext fun b => by
  by_cases e : a = 1 ∧ 2 ≤ b
  · have hn : ¬ nsC a b = true := by
      rw [e.1]
      unfold nsC
      rw [show decide (2 ≤ b) = true from decide_eq_true e.2]
      decide
    show core nsC σ' a b = core nsC σ a b
    unfold core
    rw [if_neg hn, if_neg hn]
  · exact core_e (h a b e)
theorem mFr_core {τ τ' : Sg} (h : mFr τ τ') : cM τ' = cM τ := funext fun a => funext fun b => by
  by_cases e : a = 2 ∨ a = 3 ∨ (a = 0 ∧ 2 ≤ b ∧ b ≤ 6)
  · have hn : ¬ nsM a b = true := by
      rcases e with rfl | rfl | ⟨rfl, e1, e2⟩
      · unfold nsM; simp
      · unfold nsM; simp
      · rcases (show b = 2 ∨ b = 3 ∨ b = 4 ∨ b = 5 ∨ b = 6 by omega) with rfl | rfl | rfl | rfl | rfl <;> decide
    show core nsM τ' a b = core nsM τ a b
    unfold core
    rw [if_neg hn, if_neg hn]
  · exact core_e (h a b (by omega) (by omega) (by omega))
theorem VP.rd {σ τ : Sg} (hp : VP (cC σ) (cM τ)) {L : Nat} (hL : cM τ 0 1 = (L : Int)) : rI σ 1 1 = yI (L : Int) ∧ rI τ 0 1 = yI (L : Int) ∧ L ≤ 64 ∧ (∀ k, k < L → rI σ 2 k = yI (cM τ 1 k) ∧ 1 ≤ cM τ 1 k ∧ cM τ 1 k ≤ 126) ∧ ∀ k, k < L → rI τ 1 k = yI (cM τ 1 k) ∧ 1 ≤ cM τ 1 k ∧ cM τ 1 k ≤ 126 := by
  have := hp.2.2.1
  refine ⟨by rw [cC_r (o := 1) (k := 1) rfl, hp.1, hL], by rw [cM_r (o := 0) (k := 1) rfl, hL], by omega, fun k hk => ?_, fun k hk => ?_⟩
  · obtain ⟨x1, x2, x3⟩ := hp.2.2.2 k (by omega)
    exact ⟨by rw [cC_r (o := 2) (k := k) rfl, x1], x2, x3⟩
  · obtain ⟨x1, x2, x3⟩ := hp.2.2.2 k (by omega)
    exact ⟨cM_r (o := 1) (k := k) rfl, x2, x3⟩
theorem s_fault : SimI Inv fX9_fault fX10_fault := fun n σ τ _ h => by
  obtain ⟨L, hL⟩ := Int.eq_ofNat_of_zero_le h.1.2.1
  obtain ⟨e1, e2, e3, e4, e5⟩ := h.1.rd hL
  obtain ⟨k, σ', k1, k2, k3, -⟩ := f6_firstWrong e1 e3 e4
  obtain ⟨k', τ', g1, g2, g3, -⟩ := f10_faultOf e2 e3 e5
  have ek := wrg_u k2 g2
  subst ek
  refine ⟨yI (k : Int), σ', τ', ?_, ?_, ?_⟩
  · unfold fX9_fault fX9_fault_b0
    rw [b1 k1]
  · unfold fX10_fault fX10_fault_b0
    rw [b1 g1]
  · unfold Inv
    rw [pFr_core k3, mFr_core g3]
    exact IV_n h
