/-! ===== letters: the page grows ===== -/
theorem IV_page {n : Nat} {c c' m m' : Mm} (h : IV n c m) (hc : ∀ o j, ¬ (o = 1 ∧ j = 1) → o ≠ 2 → c' o j = c o j) (hm : ∀ o j, ¬ (o = 0 ∧ j = 1) → o ≠ 1 → m' o j = m o j) (v : VP c' m') : IV (n + 1) c' m' := by
  obtain ⟨hp, hq, hv, hcc, hl, hd, hi, hg⟩ := h
  have mo : ∀ o, o ≠ 0 → o ≠ 1 → m' o = m o := fun o h0 h1 => funext fun k => hm o k (by omega) h1
  have mz : ∀ k, k ≠ 1 → m' 0 k = m 0 k := fun k h => hm 0 k (by omega) (by omega)
  have co : ∀ o, o ≠ 1 → o ≠ 2 → c' o = c o := fun o h1 h2 => funext fun k => hc o k (by omega) h2
  have s : SE m m' := ⟨mz 9 (by omega), mz 10 (by omega), mz 11 (by omega), mo 4 (by omega) (by omega), mo 5 (by omega) (by omega)⟩
  have kk : CE m m' := ⟨mz 17 (by omega), mz 18 (by omega), mz 19 (by omega)⟩
  have c0 := co 0 (by omega) (by omega)
  exact ⟨v, VQ_n (VQ_f hq (by rw [c0]) (mz 12 (by omega)) s (co 4 (by omega) (by omega)) (co 5 (by omega) (by omega)) (co 6 (by omega) (by omega)) (co 7 (by omega) (by omega)) (co 8 (by omega) (by omega)) (fun i _ => co _ (by omega) (by omega))), VB_f hv (by rw [c0]) (mz 15 (by omega)) s (mo 6 (by omega) (by omega)) (fun i _ => co _ (by omega) (by omega)), VC_f hcc (co 41 (by omega) (by omega)) kk, VL_f hl (by rw [co 49 (by omega) (by omega)]) (co 50 (by omega) (by omega)) (co 51 (by omega) (by omega)) (co 52 (by omega) (by omega)) (mz 20 (by omega)) (mo 7 (by omega) (by omega)), VD_f hd (by rw [c0]) (mz 40 (by omega)), VI_f hi (co 53 (by omega) (by omega)) (co 54 (by omega) (by omega)) (co 55 (by omega) (by omega)) (co 57 (by omega) (by omega)) (fun k h1 h2 => mz k (by omega)) (mz 12 (by omega)) (mz 15 (by omega)) (mz 20 (by omega)) (mo 15 (by omega) (by omega)) (mo 16 (by omega) (by omega)) (mo 6 (by omega) (by omega)) (mo 7 (by omega) (by omega)), VG_f hg hv.2.2.1 s kk (mo 6 (by omega) (by omega)) (mz 15 (by omega)) (co 65 (by omega) (by omega)) (co 66 (by omega) (by omega)) (fun i _ => co _ (by omega) (by omega))⟩
theorem f6_put (w : Int64) {σ : Sg} {L n : Nat} (hL : rI σ 1 1 = yI (L : Int)) (hn : n ≤ 8) (h64 : L + n ≤ 64) : ∃ t, lp (fun s : Int32 × Sg => fX6_append_b91 w (yI (n : Int)) s.1 s.2) FU ((0 : Int32), σ) = some t ∧ rI t 1 1 = yI ((L + n : Nat) : Int) ∧ (∀ j : Nat, j < n → rI t 2 (L + j) = yI (bw w.toBitVec.toNat j : Int)) ∧ (∀ j : Nat, j < L → rI t 2 j = rI σ 2 j) ∧ ∀ o j, ¬ (o = 1 ∧ j = 1) → o ≠ 2 → rI t o j = rI σ o j := by
  refine lp_all (fun k s => s.1 = yI (k : Int) ∧ rI s.2 1 1 = yI ((L + k : Nat) : Int) ∧ (∀ j : Nat, j < k → rI s.2 2 (L + j) = yI (bw w.toBitVec.toNat j : Int)) ∧ (∀ j : Nat, j < L → rI s.2 2 j = rI σ 2 j) ∧ ∀ o j, ¬ (o = 1 ∧ j = 1) → o ≠ 2 → rI s.2 o j = rI σ o j) n _ ?_ ?_ ⟨rfl, hL, fun j hj => absurd hj (Nat.not_lt_zero _), fun _ _ => rfl, fun _ _ _ _ => rfl⟩ (FU_b (by omega))
  · rintro k ⟨x, t⟩ hk ⟨h1, h2, h3, h4, h5⟩
    dsimp only at h1 h2 h3 h4 h5
    subst h1
    refine ⟨(yI ((k + 1 : Nat) : Int), wI (wI t 2 (L + k) (yI (bw w.toBitVec.toNat k : Int))) 1 1 (yI ((L + k + 1 : Nat) : Int))), ?_, rfl, ?_, fun j hj => ?_, fun j hj => ?_, fun o j o1 o2 => ?_⟩
    · dsimp only
      unfold fX6_append_b91
      rw [if_neg (fun q => by have := (yI_le (by omega) (by omega) (by omega) (by omega)).mp q; omega), b1 (f6_byteOf w (by omega) t)]
      dsimp only
      rw [h2, if_pos (inb_n (by omega) (by omega)), yI_cln (by omega), rI_o (by omega), h2, add1, add1]
    · exact rI_s
    · show rI (wI (wI t 2 (L + k) _) 1 1 _) 2 (L + j) = _
      rw [rI_o (by omega)]
      by_cases e : j = k
      · rw [e, rI_s]
      · rw [rI_k (by omega)]; exact h3 j (by omega)
    · show rI (wI (wI t 2 (L + k) _) 1 1 _) 2 j = _
      rw [rI_o (by omega), rI_k (by omega)]; exact h4 j hj
    · show rI (wI (wI t 2 (L + k) _) 1 1 _) o j = _
      rw [rI_wI, if_neg o1, rI_o o2]; exact h5 o j o1 o2
  · rintro ⟨x, t⟩ ⟨h1, h2, h3, h4, h5⟩
    dsimp only at h1 h2 h3 h4 h5
    subst h1
    refine ⟨t, ?_, h2, h3, h4, h5⟩
    dsimp only
    unfold fX6_append_b91
    rw [if_pos ((yI_le (by omega) (by omega) (by omega) (by omega)).mpr (Int.le_refl _))]
theorem f10_put (w : Int64) {σ : Sg} {L n : Nat} (hL : rI σ 0 1 = yI (L : Int)) (hn : n ≤ 8) (h64 : L + n ≤ 64) : ∃ t, lp (fun s : Int32 × Sg => fX10_letters_b108 w (yI (n : Int)) s.1 s.2) FU ((0 : Int32), σ) = some t ∧ rI t 0 1 = yI ((L + n : Nat) : Int) ∧ (∀ j : Nat, j < n → rI t 1 (L + j) = yI (bw w.toBitVec.toNat j : Int)) ∧ (∀ j : Nat, j < L → rI t 1 j = rI σ 1 j) ∧ ∀ o j, ¬ (o = 0 ∧ j = 1) → o ≠ 1 → rI t o j = rI σ o j := by
  refine lp_all (fun k s => s.1 = yI (k : Int) ∧ rI s.2 0 1 = yI ((L + k : Nat) : Int) ∧ (∀ j : Nat, j < k → rI s.2 1 (L + j) = yI (bw w.toBitVec.toNat j : Int)) ∧ (∀ j : Nat, j < L → rI s.2 1 j = rI σ 1 j) ∧ ∀ o j, ¬ (o = 0 ∧ j = 1) → o ≠ 1 → rI s.2 o j = rI σ o j) n _ ?_ ?_ ⟨rfl, hL, fun j hj => absurd hj (Nat.not_lt_zero _), fun _ _ => rfl, fun _ _ _ _ => rfl⟩ (FU_b (by omega))
  · rintro k ⟨x, t⟩ hk ⟨h1, h2, h3, h4, h5⟩
    dsimp only at h1 h2 h3 h4 h5
    subst h1
    refine ⟨(yI ((k + 1 : Nat) : Int), wI (wI t 1 (L + k) (yI (bw w.toBitVec.toNat k : Int))) 0 1 (yI ((L + k + 1 : Nat) : Int))), ?_, rfl, ?_, fun j hj => ?_, fun j hj => ?_, fun o j o1 o2 => ?_⟩
    · dsimp only
      unfold fX10_letters_b108
      rw [if_neg (fun q => by have := (yI_le (by omega) (by omega) (by omega) (by omega)).mp q; omega), h2, if_pos (inb_n (by omega) (by omega)), yI_cln (by omega), rI_o (by omega), h2, add1, add1, and255L, lushr_8k w (by omega)]
    · exact rI_s
    · show rI (wI (wI t 1 (L + k) _) 0 1 _) 1 (L + j) = _
      rw [rI_o (by omega)]
      by_cases e : j = k
      · rw [e, rI_s]
      · rw [rI_k (by omega)]; exact h3 j (by omega)
    · show rI (wI (wI t 1 (L + k) _) 0 1 _) 1 j = _
      rw [rI_o (by omega), rI_k (by omega)]; exact h4 j hj
    · show rI (wI (wI t 1 (L + k) _) 0 1 _) o j = _
      rw [rI_wI, if_neg o1, rI_o o2]; exact h5 o j o1 o2
  · rintro ⟨x, t⟩ ⟨h1, h2, h3, h4, h5⟩
    dsimp only at h1 h2 h3 h4 h5
    subst h1
    refine ⟨t, ?_, h2, h3, h4, h5⟩
    dsimp only
    unfold fX10_letters_b108
    rw [if_pos ((yI_le (by omega) (by omega) (by omega) (by omega)).mpr (Int.le_refl _))]
theorem s_letters (w : Int64) : SimI Inv (fX9_letters w) (fX10_letters w) := fun n σ τ hn h => by
  have hp := h.1
  obtain ⟨L, hL⟩ := Int.eq_ofNat_of_zero_le hp.2.1
  have L64 := hp.2.2.1
  have e1 : rI σ 1 1 = yI (L : Int) := by rw [cC_r (o := 1) (k := 1) rfl, hp.1, hL]
  have e2 : rI τ 0 1 = yI (L : Int) := by rw [cM_r (o := 0) (k := 1) rfl, hL]
  obtain ⟨t1, a1, a2⟩ := f6_scan w σ
  obtain ⟨t2, d1, x, d2, d3⟩ := f10_scan w τ
  have u0 : ∀ r σ', fX6_append w σ = some (r, σ') → fX9_letters w σ = some (r, σ') := fun r σ' e => by
    unfold fX9_letters fX9_letters_b0
    rw [e]; rfl
  cases e : sc w.toBitVec.toNat 8 with
  | none =>
    rw [e] at a2 d2
    refine ⟨-102, σ, τ, u0 _ _ ?_, ?_, Inv_n n σ τ h⟩
    · unfold fX6_append fX6_append_b0
      rw [b1 a1, a2]; rfl
    · unfold fX10_letters fX10_letters_b0
      rw [b1 d1, d2]
      dsimp only
      rw [if_pos rfl, if_pos rfl]
  | some k =>
    have hk := sc_ok e
    have hx := d3 k e
    rw [e] at a2 d2
    rw [hx] at d2
    by_cases q : L + k ≤ 64
    · obtain ⟨σ', k1, k2, k3, k4, k5⟩ := f6_put w e1 hk.1 q
      obtain ⟨τ', g1, g2, g3, g4, g5⟩ := f10_put w e2 hk.1 q
      refine ⟨yI ((L + k : Nat) : Int), σ', τ', u0 _ _ ?_, ?_, ?_⟩
      · unfold fX6_append fX6_append_b0
        rw [b1 a1, a2]
        show (if (rI σ 1 1) + yI (k : Int) ≤ (64 : Int32) then _ else _) = _
        rw [e1, addn, if_pos (lep (v := 64) (b := 64) rfl (by omega) (by omega) (by omega)), b1 k1, k2]
      · unfold fX10_letters fX10_letters_b0
        rw [b1 d1, d2]
        dsimp only
        rw [if_neg (c := some k = none) (fun q => by cases q), if_neg (show ¬ (1 : Int32) = 0 by decide), e2, addn, if_pos (lep (v := 64) (b := 64) rfl (by omega) (by omega) (by omega)), b1 g1, g2]
      · refine IV_page h (fun o j o1 o2 => core_e (k5 o j o1 o2)) (fun o j o1 o2 => core_e (g5 o j o1 o2)) ⟨?_, ?_, ?_, fun j hj => ?_⟩
        · show core nsC _ 1 1 = core nsM _ 0 1
          rw [core_g rfl, core_g rfl, k2, g2]
        · show 0 ≤ core nsM _ 0 1
          rw [core_g rfl, g2, yI_int (by omega) (by omega)]; omega
        · show core nsM _ 0 1 ≤ 64
          rw [core_g rfl, g2, yI_int (by omega) (by omega)]; omega
        · have hj' : (j : Int) < ((L + k : Nat) : Int) := by
            have : (j : Int) < core nsM τ' 0 1 := hj
            rwa [core_g rfl, g2, yI_int (by omega) (by omega)] at this
          show core nsC σ' 2 j = core nsM τ' 1 j ∧ 1 ≤ core nsM τ' 1 j ∧ core nsM τ' 1 j ≤ 126
          rw [core_g rfl, core_g rfl]
          by_cases lj : j < L
          · have := hp.2.2.2 j (by omega)
            rw [k4 j lj, g4 j lj]
            have z : core nsC σ 2 j = core nsM τ 1 j ∧ 1 ≤ core nsM τ 1 j ∧ core nsM τ 1 j ≤ 126 := this
            rwa [core_g rfl, core_g rfl] at z
          · obtain ⟨i, rfl⟩ : ∃ i, j = L + i := ⟨j - L, by omega⟩
            have hb := hk.2 i (by omega)
            rw [k3 i (by omega), g3 i (by omega), yI_int (by omega) (by omega)]
            omega
    · refine ⟨-104, σ, τ, u0 _ _ ?_, ?_, Inv_n n σ τ h⟩
      · unfold fX6_append fX6_append_b0
        rw [b1 a1, a2]
        show (if (rI σ 1 1) + yI (k : Int) ≤ (64 : Int32) then _ else _) = _
        rw [e1, addn, if_neg (len (v := 64) (b := 64) rfl (by omega) (by omega) (by omega))]
      · unfold fX10_letters fX10_letters_b0
        rw [b1 d1, d2]
        dsimp only
        rw [if_neg (c := some k = none) (fun q => by cases q), if_neg (show ¬ (1 : Int32) = 0 by decide), e2, addn, if_neg (len (v := 64) (b := 64) rfl (by omega) (by omega) (by omega))]
