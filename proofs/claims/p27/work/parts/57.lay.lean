/-! ===== all letters laid ===== -/
theorem f7_letters {σ : Sg} {p : Nat → Int} {L : Nat} (hL : rI σ 1 1 = yI (L : Int)) (L64 : L ≤ 64) (hp : ∀ k, k < L → rI σ 2 k = yI (p k) ∧ 1 ≤ p k ∧ p k ≤ 126) {s : SS} (hs : scn p L = some s) : ∃ t, lp (fun s : Int32 × Sg => fX7_lay_b12 s.1 s.2) FU ((0 : Int32), wI (wI σ 4 5 0) 4 6 0) = some t ∧ (LYS t s (scw p L) (scf p L) ∧ lFr σ t) := by
  refine lp_all (fun k st => st.1 = yI (k : Int) ∧ lFr σ st.2 ∧ ∃ s, scn p k = some s ∧ LYS st.2 s (scw p k) (scf p k)) L _ ?_ ?_ ⟨rfl, fun o j a b d => by show rI (wI (wI σ 4 5 0) 4 6 0) o j = _; rw [rI_o a, rI_o a], _, rfl, ?_, ?_, fun q => absurd rfl q, fun i hi => absurd hi (Nat.not_lt_zero i)⟩ (FU_b (by omega))
  · rintro k ⟨x, t⟩ hk ⟨h1, h2, s0, h3, h4⟩
    dsimp only at h1 h2 h4
    subst h1
    obtain ⟨e2, e3, e4⟩ := hp k hk
    have hsc : scn p (k + 1) = stp (p k) s0 := by
      show (scn p k).bind (stp (p k)) = _
      rw [h3]; rfl
    have hw : scw p (k + 1) = lw (p k) s0 (scw p k) := by
      show (match scn p k with | none => scw p k | some s => lw (p k) s (scw p k)) = _
      rw [h3]
    have hf : scf p (k + 1) = lf (p k) s0 (scf p k) := by
      show (match scn p k with | none => scf p k | some s => lf (p k) s (scf p k)) = _
      rw [h3]
    cases e : stp (p k) s0 with
    | none =>
      have := scn_no (hsc.trans e) (L - (k + 1))
      rw [show k + 1 + (L - (k + 1)) = L by omega, hs] at this
      cases this
    | some s' =>
      obtain ⟨t', r1, r2, r3⟩ := f7_layLetter (scn_ok k s0 h3) e e3 e4 h4
      have hc : fX6_codeAt (yI (k : Int)) t = some (yI (p k), t) := by
        unfold fX6_codeAt fX6_codeAt_b0
        rw [if_neg (ltn (v := 0) (b := 0) rfl (by omega) (by omega) (by omega)), h2 1 1 (by omega) (by omega) (by omega), hL, if_neg (fun q => by have := (yI_le (by omega) (by omega) (by omega) (by omega)).mp q; omega), if_pos (inb_n (by omega) (by omega)), yI_cln (by omega), h2 2 k (by omega) (by omega) (by omega), e2]
      refine ⟨(yI ((k + 1 : Nat) : Int), t'), ?_, rfl, fun o j a b d => by rw [r3 o j a b d, h2 o j a b d], s', hsc.trans e, ?_⟩
      · dsimp only
        unfold fX7_lay_b12
        rw [h2 1 1 (by omega) (by omega) (by omega), hL, if_neg (fun q => by have := (yI_le (by omega) (by omega) (by omega) (by omega)).mp q; omega), b1 hc]
        dsimp only
        rw [b1 r1, add1]
      · rw [hw, hf]; exact r2
  · rintro ⟨x, t⟩ ⟨h1, h2, s0, h3, h4⟩
    dsimp only at h1 h2 h4
    subst h1
    rw [hs] at h3; cases h3
    refine ⟨t, ?_, h4, h2⟩
    dsimp only
    unfold fX7_lay_b12
    rw [h2 1 1 (by omega) (by omega) (by omega), hL, if_pos ((yI_le (by omega) (by omega) (by omega) (by omega)).mpr (Int.le_refl _))]
  · show rI (wI (wI σ 4 5 0) 4 6 0) 4 5 = _
    rw [rI_k (by omega), rI_s]; rfl
  · show rI (wI (wI σ 4 5 0) 4 6 0) 4 6 = _
    rw [rI_s]; rfl
