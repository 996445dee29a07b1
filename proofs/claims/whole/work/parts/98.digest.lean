/-! ===== digest: the lines, the page, the numbers ===== -/
def hsn (f : Nat → Int64) (h : Int64) : Nat → Int64
  | 0 => h
  | k + 1 => (31 : Int64) * hsn f h k + f k
theorem f10_diglines {n : Nat} {m0 : Mm} {h : Int64} {σ τ : Sg} (d : DJ n m0 h σ τ) {L : Nat} (hL : m0 0 20 = (L : Int)) (L10 : L ≤ 10) : ∃ t, lp (fun s : Int32 × Sg => fX10_digest_b107 s.1 s.2) FU ((0 : Int32), τ) = some t ∧ (DJ n m0 (hsn (fun k => (yI (m0 7 k)).toInt64) h (3 * L)) σ t) := by
  refine lp_all (fun (k : Nat) (s : Int32 × Sg) => s.1 = yI (k : Int) ∧ DJ n m0 (hsn (fun k => (yI (m0 7 k)).toInt64) h k) σ s.2) (3 * L) _ ?_ ?_ (by exact ⟨rfl, d⟩) (FU_b (by omega))
  · rintro k ⟨x, t⟩ hk ⟨h1, h2⟩
    dsimp only at h1 h2
    subst h1
    have e20 : rI t 0 20 = yI (L : Int) := by rw [cM_r (o := 0) (k := 20) rfl, h2.2.1, hL]
    have e7 : rI t 7 k = yI (m0 7 k) := by rw [cM_r (o := 7) (k := k) rfl, h2.2.1]
    refine ⟨(yI ((k + 1 : Nat) : Int), _), ?_, rfl, DJ_say h2 _⟩
    dsimp only
    unfold fX10_digest_b107
    rw [e20, mul3, if_neg (fun q => by have := (yI_le (by omega) (by omega) (by omega) (by omega)).mp q; omega), if_pos (inb_n (by omega) (by omega)), yI_cln (by omega), e7, b1 (f10_say h2.2.2), add1]
    rfl
  · rintro ⟨x, t⟩ ⟨h1, h2⟩
    dsimp only at h1 h2
    subst h1
    have e20 : rI t 0 20 = yI (L : Int) := by rw [cM_r (o := 0) (k := 20) rfl, h2.2.1, hL]
    refine ⟨t, ?_, h2⟩
    dsimp only
    unfold fX10_digest_b107
    rw [e20, mul3, if_pos ((yI_le (by omega) (by omega) (by omega) (by omega)).mpr (Int.le_refl _))]
theorem f9_diglines {n : Nat} {m0 : Mm} {h : Int64} {σ τ : Sg} (d : DJ n m0 h σ τ) {L : Nat} (hL : m0 0 20 = (L : Int)) (L10 : L ≤ 10) : lp (fun s : Int64 × Int32 × Sg => fX9_digest_b210 s.1 s.2.1 s.2.2) FU (h, (0 : Int32), σ) = some (hsn (fun k => (yI (m0 7 k)).toInt64) h (3 * L), σ) := by
  have vl := d.1.2.2.2.2.1
  rw [d.2.1] at vl
  have e49 : rI σ 49 3 = yI (L : Int) := by rw [cC_r (o := 49) (k := 3) rfl, vl.1, hL]
  obtain ⟨t, k1, k2⟩ : ∃ t, lp (fun s : Int64 × Int32 × Sg => fX9_digest_b210 s.1 s.2.1 s.2.2) FU (h, (0 : Int32), σ) = some t ∧ (t = (hsn (fun k => (yI (m0 7 k)).toInt64) h (3 * L), σ)) := by
    refine lp_all (fun k s => s.1 = hsn (fun k => (yI (m0 7 k)).toInt64) h (3 * k) ∧ s.2.1 = yI (k : Int) ∧ s.2.2 = σ) L _ ?_ ?_ ⟨rfl, rfl, rfl⟩ (FU_b (by omega))
    · rintro k ⟨x, y, s⟩ hk ⟨h1, h2, h3⟩
      dsimp only at h1 h2 h3
      subst h1 h2 h3
      obtain ⟨-, c0, c1, c2⟩ := vl.2.2.2 k (by rw [hL]; omega)
      have r0 : rI s 50 k = yI (m0 7 (3 * k)) := by rw [cC_r (o := 50) (k := k) rfl, c0]
      have r1 : rI s 51 k = yI (m0 7 (3 * k + 1)) := by rw [cC_r (o := 51) (k := k) rfl, c1]
      have r2 : rI s 52 k = yI (m0 7 (3 * k + 2)) := by rw [cC_r (o := 52) (k := k) rfl, c2]
      refine ⟨(hsn (fun k => (yI (m0 7 k)).toInt64) h (3 * (k + 1)), yI ((k + 1 : Nat) : Int), s), ?_, rfl, rfl, rfl⟩
      dsimp only
      unfold fX9_digest_b210
      rw [e49, if_neg (fun q => by have := (yI_le (by omega) (by omega) (by omega) (by omega)).mp q; omega), if_pos (inb_n (by omega) (by omega)), if_pos (inb_n (by omega) (by omega)), if_pos (inb_n (by omega) (by omega)), yI_cln (by omega), r0, r1, r2, add1]
      rfl
    · rintro ⟨x, y, s⟩ ⟨h1, h2, h3⟩
      dsimp only at h1 h2 h3
      subst h1 h2 h3
      refine ⟨_, ?_, rfl⟩
      dsimp only
      unfold fX9_digest_b210
      rw [e49, if_pos ((yI_le (by omega) (by omega) (by omega) (by omega)).mpr (Int.le_refl _))]
  rw [k1, k2]
theorem dig_page {n : Nat} {m0 : Mm} {h : Int64} {σ τ : Sg} (d : DJ n m0 h σ τ) : ∃ h' σ' τ', lp (fun s : Int64 × Int32 × Sg => fX9_digest_b280 s.1 s.2.1 s.2.2) FU (h, (0 : Int32), σ) = some (h', σ') ∧ lp (fun s : Int32 × Sg => fX10_digest_b136 s.1 s.2) FU ((0 : Int32), τ) = some τ' ∧ DJ n m0 h' σ' τ' := by
  have v := d.1.1
  rw [d.2.1] at v
  obtain ⟨L, hL⟩ := Int.eq_ofNat_of_zero_le v.2.1
  have L64 := v.2.2.1
  have eC : ∀ {h σ τ}, DJ n m0 h σ τ → rI σ 1 1 = yI (L : Int) ∧ rI τ 0 1 = yI (L : Int) := fun {h σ τ} d => by
    have v := d.1.1
    exact ⟨by rw [cC_r (o := 1) (k := 1) rfl, v.1, d.2.1, hL], by rw [cM_r (o := 0) (k := 1) rfl, d.2.1, hL]⟩
  refine lock (DJ n m0) L (by omega) (fun k h σ τ hk d => ?_) (fun h σ τ d => ?_) d
  · obtain ⟨e1, e2⟩ := eC d
    have v := d.1.1
    have vk := (v.2.2.2 k (by rw [d.2.1, hL]; omega)).1
    have r1 : rI σ 2 k = yI (cM τ 1 k) := by rw [cC_r (o := 2) (k := k) rfl, vk]
    have r2 : rI τ 1 k = yI (cM τ 1 k) := cM_r (o := 1) (k := k) rfl
    have hc : fX6_codeAt (yI (k : Int)) σ = some (yI (cM τ 1 k), σ) := by
      unfold fX6_codeAt fX6_codeAt_b0
      rw [if_neg (ltn (v := 0) (b := 0) rfl (by omega) (by omega) (by omega)), e1, if_neg (fun q => by have := (yI_le (by omega) (by omega) (by omega) (by omega)).mp q; omega), if_pos (inb_n (by omega) (by omega)), yI_cln (by omega), r1]
    refine ⟨(31 : Int64) * h + (yI (cM τ 1 k)).toInt64, σ, _, ?_, ?_, DJ_say d _⟩
    · dsimp only
      unfold fX9_digest_b280
      rw [e1, if_neg (fun q => by have := (yI_le (by omega) (by omega) (by omega) (by omega)).mp q; omega), b1 hc, add1]
    · dsimp only
      unfold fX10_digest_b136
      rw [e2, if_neg (fun q => by have := (yI_le (by omega) (by omega) (by omega) (by omega)).mp q; omega), if_pos (inb_n (by omega) (by omega)), yI_cln (by omega), r2, b1 (f10_say d.2.2), add1]
  · obtain ⟨e1, e2⟩ := eC d
    refine ⟨?_, ?_⟩
    · dsimp only
      unfold fX9_digest_b280
      rw [e1, if_pos ((yI_le (by omega) (by omega) (by omega) (by omega)).mpr (Int.le_refl _))]
    · dsimp only
      unfold fX10_digest_b136
      rw [e2, if_pos ((yI_le (by omega) (by omega) (by omega) (by omega)).mpr (Int.le_refl _))]
theorem dig_count {n : Nat} {m0 : Mm} {h : Int64} {σ τ : Sg} (d : DJ n m0 h σ τ) : ∃ h' σ' τ', lp (fun s : Int64 × Int32 × Sg => fX9_digest_b315 s.1 s.2.1 s.2.2) FU (h, (0 : Int32), σ) = some (h', σ') ∧ lp (fun s : Int32 × Sg => fX10_digest_b163 s.1 s.2) FU ((0 : Int32), τ) = some τ' ∧ DJ n m0 h' σ' τ' := by
  refine lock (DJ n m0) 9 (by omega) (fun k h σ τ hk d => ?_) (fun h σ τ d => ⟨by
    dsimp only
    unfold fX9_digest_b315
    rw [if_pos (gtp (v := 8) (b := 8) rfl (by omega) (by omega) (by omega))], by
    dsimp only
    unfold fX10_digest_b163
    rw [if_pos (gep (v := 9) (b := 9) rfl (by omega) (by omega) (by omega))]⟩) d
  obtain ⟨r, q1, q2⟩ := count_eq d.1 (yI (k : Int))
  refine ⟨(31 : Int64) * h + r.toInt64, σ, _, ?_, ?_, DJ_say d _⟩
  · dsimp only
    unfold fX9_digest_b315
    rw [if_neg (gtn (v := 8) (b := 8) rfl (by omega) (by omega) (by omega)), b1 q1, add1]
  · dsimp only
    unfold fX10_digest_b163
    rw [if_neg (gen (v := 9) (b := 9) rfl (by omega) (by omega) (by omega)), b1 q2]
    dsimp only
    rw [b1 (f10_say d.2.2), add1]
theorem s_digest : SimJ Inv fX9_digest fX10_digest := fun n σ τ hn h => by
  have d0 : DJ n (cM τ) 569 σ (wJ τ 0 51 569) := by
    refine ⟨?_, ?_, rJ_sv⟩
    · unfold Inv cM at h ⊢
      rw [core_J]; exact h
    · unfold cM
      rw [core_J]
  obtain ⟨h1, σ1, τ1, a1, c1, d1⟩ := dig_sq d0
  obtain ⟨h2, σ2, τ2, a2, c2, d2⟩ := dig_bergs d1
  obtain ⟨h3, σ3, τ3, a3, c3, d3⟩ := dig_season hn d2
  have vl := d3.1.2.2.2.2.1
  rw [d3.2.1] at vl
  obtain ⟨L, hL⟩ := Int.eq_ofNat_of_zero_le vl.2.1
  have L10 := vl.2.2.1
  have a4 := f9_diglines d3 hL (by omega)
  obtain ⟨τ4, c4, d4⟩ := f10_diglines d3 hL (by omega)
  obtain ⟨h5, σ5, τ5, a5, c5, d5⟩ := dig_page d4
  obtain ⟨h6, σ6, τ6, a6, c6, d6⟩ := dig_count d5
  refine ⟨h6, σ6, τ6, ?_, ?_, Inv_n n _ _ d6.1⟩
  · unfold fX9_digest fX9_digest_b0
    rw [b1 a1]
    dsimp only
    rw [b1 a2]
    dsimp only
    rw [b1 a3]
    dsimp only
    rw [b1 a4]
    dsimp only
    rw [b1 a5]
    dsimp only
    rw [b1 a6]
  · unfold fX10_digest fX10_digest_b0
    rw [b1 c1, b1 c2, b1 c3, b1 c4, b1 c5, b1 c6, d6.2.2]
