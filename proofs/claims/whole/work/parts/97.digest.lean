/-! ===== digest: the bergs, the season ===== -/
theorem tow_3 {n : Nat} {m0 : Mm} {h : Int64} {σ τ : Sg} (d : DJ n m0 h σ τ) {b k : Nat} (hb : (b : Int) < cM τ 0 15) (hk : k < 4) : ∃ r σ1 τ1, fX9_tow (yI (b : Int)) 3 0 (yI (k : Int)) σ = some (r, σ1) ∧ fX10_tellTow (yI (b : Int)) 3 0 (yI (k : Int)) τ = some (r, τ1) ∧ DJ n m0 h σ1 τ1 := by
  obtain ⟨b5, s⟩ := Inv_b d.1 hb
  have hv := d.1.2.2.1
  have g1 := f9_isBerg (σ := σ) (a := (b : Int)) (by omega) (by omega) hv.e.1 hv.2.1 hv.2.2.1
  have g3 := f9_isTugs (σ := σ) (a := ((3 : Nat) : Int)) (by omega) (by omega)
  obtain ⟨τ', r1, r2⟩ := f10_tellTow b5 s (tugs := 3) (sk := 0) (w := k) (by omega) (by omega) (by omega) (Or.inl (by omega))
  obtain ⟨σ', u1, u2⟩ := f9_tow58 b5 s (tugs := 3) (sk := 0) (w := k) (by omega) (by omega) (by omega) (Or.inl (by omega))
  refine ⟨_, σ', τ', ?_, r1, DJ_go d (Inv_kT d.1 u2 r2) (mT_core r2) (kj_tellTow (J := τ.2.1) rfl _ r1)⟩
  unfold fX9_tow fX9_tow_b0 fX9_tow_b29 fX9_tow_b30
  rw [bt g1 ⟨by omega, hb⟩]
  dsimp only
  rw [if_pos (ltp (v := 10) (b := 10) rfl (by omega) (by omega) (by omega)), show (3 : Int32) = yI ((3 : Nat) : Int) from rfl, bt g3 ⟨by omega, by omega⟩]
  dsimp only
  rw [if_pos rfl, if_neg (ltn (v := 0) (b := 0) rfl (by omega) (by omega) (by omega)), if_pos (show yI (k : Int) ≤ yI ((3 : Nat) : Int) from lep (v := yI ((3 : Nat) : Int)) (b := 3) rfl (by omega) (by omega) (by omega))]
  exact u1
theorem dig_berg {n : Nat} {m0 : Mm} {h : Int64} {σ τ : Sg} (d : DJ n m0 h σ τ) {b : Nat} (hb : (b : Int) < m0 0 15) : ∃ h' σ' τ', fX9_digest_b55 h (yI (b : Int)) σ = some (.inl (h', yI ((b + 1 : Nat) : Int), σ')) ∧ fX10_sayBerg (yI (b : Int)) τ = some τ' ∧ DJ n m0 h' σ' τ' := by
  have hbt : ∀ {h σ τ}, DJ n m0 h σ τ → (b : Int) < cM τ 0 15 := fun {h σ τ} d => by rw [d.2.1]; exact hb
  obtain ⟨b5, -⟩ := Inv_b d.1 (hbt d)
  have hv := d.1.2.2.1
  have e9 := hv.e.1
  have B5 := hv.2.2.1
  have hb0 := hbt d
  -- what the berg is
  obtain ⟨h1, σ1, τ1, r1, r2, d1⟩ := lock (fc := fun s : Int64 × Int32 × Sg => fX9_digest_b66 s.1 (yI (b : Int)) s.2.1 s.2.2) (fm := fun s : Int32 × Sg => fX10_sayBerg_b2 (yI (b : Int)) s.1 s.2) (DJ n m0) 5 (by omega) (fun k h σ τ hk d => by
    have q1 := about_eq d.1 (hbt d) hk
    refine ⟨(31 : Int64) * h + (rI τ 6 (5 * b + k)).toInt64, σ, _, ?_, ?_, DJ_say d _⟩
    · dsimp only
      unfold fX9_digest_b66
      rw [if_neg (gtn (v := 4) (b := 4) rfl (by omega) (by omega) (by omega)), b1 q1, add1]
    · dsimp only
      unfold fX10_sayBerg_b2
      rw [if_neg (gen (v := 5) (b := 5) rfl (by omega) (by omega) (by omega)), mul5, addn, if_pos (inb_n (by omega) (by omega)), yI_cln (by omega), b1 (f10_say d.2.2), add1]) (fun h σ τ d => ⟨by
      dsimp only
      unfold fX9_digest_b66
      rw [if_pos (gtp (v := 4) (b := 4) rfl (by omega) (by omega) (by omega))], by
      dsimp only
      unfold fX10_sayBerg_b2
      rw [if_pos (gep (v := 5) (b := 5) rfl (by omega) (by omega) (by omega))]⟩) d
  -- its ways
  obtain ⟨-, s1⟩ := Inv_b d1.1 (hbt d1)
  have hv1 := d1.1.2.2.1
  have g1 := f9_isBerg (σ := σ1) (a := (b : Int)) (by omega) (by omega) hv1.e.1 hv1.2.1 hv1.2.2.1
  have w1 := f9_waysOf b5 s1 ⟨by omega, hbt d1⟩ g1
  obtain ⟨τ2, w2, w3⟩ := f10_waysOf b5 s1
  have d2 := DJ_go d1 (Inv_kT d1.1 (kT_r σ1) w3) (mT_core w3) (kj_waysOf (J := τ1.2.1) rfl _ w2)
  have d3 := DJ_say d2 ((31 : Int64) * h1 + (yI (qcn (cM τ1) (qsq (cM τ1) b) : Int)).toInt64)
  -- its tow
  obtain ⟨h4, σ4, τ4, r3, r4, d4⟩ := lock (fc := fun s : Int64 × Int32 × Sg => fX9_digest_b109 s.1 (yI (b : Int)) s.2.1 s.2.2) (fm := fun s : Int32 × Sg => fX10_sayBerg_b40 (yI (b : Int)) s.1 s.2) (DJ n m0) 4 (by omega) (fun k h σ τ hk d => by
    obtain ⟨r, σ', τ', q1, q2, q3⟩ := tow_3 d (hbt d) hk
    refine ⟨(31 : Int64) * h + r.toInt64, σ', _, ?_, ?_, DJ_say q3 _⟩
    · dsimp only
      unfold fX9_digest_b109
      rw [if_neg (gtn (v := 3) (b := 3) rfl (by omega) (by omega) (by omega)), b1 q1, add1]
    · dsimp only
      unfold fX10_sayBerg_b40
      rw [if_neg (gen (v := 4) (b := 4) rfl (by omega) (by omega) (by omega)), b1 q2]
      dsimp only
      rw [b1 (f10_say q3.2.2), add1]) (fun h σ τ d => ⟨by
      dsimp only
      unfold fX9_digest_b109
      rw [if_pos (gtp (v := 3) (b := 3) rfl (by omega) (by omega) (by omega))], by
      dsimp only
      unfold fX10_sayBerg_b40
      rw [if_pos (gep (v := 4) (b := 4) rfl (by omega) (by omega) (by omega))]⟩) d3
  -- its best
  obtain ⟨h5, σ5, τ5, r5, r6, d5⟩ := lock (fc := fun s : Int64 × Int32 × Sg => fX9_digest_b141 s.1 (yI (b : Int)) s.2.1 s.2.2) (fm := fun s : Int32 × Sg => fX10_sayBerg_b66 (yI (b : Int)) s.1 s.2) (DJ n m0) 3 (by omega) (fun k h σ τ hk d => by
    have hv := d.1.2.2.1
    have g1 := f9_isBerg (σ := σ) (a := (b : Int)) (by omega) (by omega) hv.e.1 hv.2.1 hv.2.2.1
    obtain ⟨r, σ', τ', q1, q2, q3, q4, -⟩ := best_eq (w := k) d.1 (hbt d) (by omega) ⟨by omega, hbt d⟩ g1
    have q5 := DJ_go d q3 q4 (kj_tellBest (J := τ.2.1) rfl _ q2)
    refine ⟨(31 : Int64) * h + r.toInt64, σ', _, ?_, ?_, DJ_say q5 _⟩
    · dsimp only
      unfold fX9_digest_b141
      rw [if_neg (gtn (v := 2) (b := 2) rfl (by omega) (by omega) (by omega)), b1 q1, add1]
    · dsimp only
      unfold fX10_sayBerg_b66
      rw [if_neg (gen (v := 3) (b := 3) rfl (by omega) (by omega) (by omega)), b1 q2]
      dsimp only
      rw [b1 (f10_say q5.2.2), add1]) (fun h σ τ d => ⟨by
      dsimp only
      unfold fX9_digest_b141
      rw [if_pos (gtp (v := 2) (b := 2) rfl (by omega) (by omega) (by omega))], by
      dsimp only
      unfold fX10_sayBerg_b66
      rw [if_pos (gep (v := 3) (b := 3) rfl (by omega) (by omega) (by omega))]⟩) d4
  refine ⟨h5, σ5, τ5, ?_, ?_, d5⟩
  · unfold fX9_digest_b55
    rw [e9, if_neg (fun q => by have := (yI_le (by omega) (by omega) (by omega) (by omega)).mp q; omega), b1 r1]
    dsimp only
    rw [b1 w1]
    dsimp only
    rw [b1 r3]
    dsimp only
    rw [b1 r5, add1]
  · unfold fX10_sayBerg fX10_sayBerg_b0
    rw [b1 r2, b1 w2]
    dsimp only
    rw [b1 (f10_say d2.2.2), b1 r4, b1 r6]
theorem dig_bergs {n : Nat} {m0 : Mm} {h : Int64} {σ τ : Sg} (d : DJ n m0 h σ τ) : ∃ h' σ' τ', lp (fun s : Int64 × Int32 × Sg => fX9_digest_b55 s.1 s.2.1 s.2.2) FU (h, (0 : Int32), σ) = some (h', σ') ∧ lp (fun s : Int32 × Sg => fX10_digest_b54 s.1 s.2) FU ((0 : Int32), τ) = some τ' ∧ DJ n m0 h' σ' τ' := by
  have hv := d.1.2.2.1
  have v1 := hv.2.1
  have v2 := hv.2.2.1
  rw [d.2.1] at v1 v2
  obtain ⟨B, hB⟩ := Int.eq_ofNat_of_zero_le v1
  have eC : ∀ {h σ τ}, DJ n m0 h σ τ → rI σ 0 9 = yI (B : Int) ∧ rI τ 0 15 = yI (B : Int) := fun {h σ τ} d => by
    have hv := d.1.2.2.1
    exact ⟨by rw [hv.e.1, d.2.1, hB], by rw [hv.e.2, d.2.1, hB]⟩
  refine lock (DJ n m0) B (by omega) (fun b h σ τ hb d => ?_) (fun h σ τ d => ?_) d
  · obtain ⟨h', σ', τ', r1, r2, r3⟩ := dig_berg d (b := b) (by omega)
    refine ⟨h', σ', τ', r1, ?_, r3⟩
    dsimp only
    unfold fX10_digest_b54
    rw [(eC d).2, if_neg (fun q => by have := (yI_le (by omega) (by omega) (by omega) (by omega)).mp q; omega), b1 r2, add1]
  · obtain ⟨e1, e2⟩ := eC d
    refine ⟨?_, ?_⟩
    · dsimp only
      unfold fX9_digest_b55
      rw [e1, if_pos ((yI_le (by omega) (by omega) (by omega) (by omega)).mpr (Int.le_refl _))]
    · dsimp only
      unfold fX10_digest_b54
      rw [e2, if_pos ((yI_le (by omega) (by omega) (by omega) (by omega)).mpr (Int.le_refl _))]
theorem dig_season {n : Nat} {m0 : Mm} {h : Int64} {σ τ : Sg} (hn : n < 512) (d : DJ n m0 h σ τ) : ∃ h' σ' τ', lp (fun s : Int64 × Int32 × Sg => fX9_digest_b176 s.1 s.2.1 s.2.2) FU (h, (0 : Int32), σ) = some (h', σ') ∧ lp (fun s : Int32 × Sg => fX10_digest_b75 s.1 s.2) FU ((0 : Int32), τ) = some τ' ∧ DJ n m0 h' σ' τ' := by
  have v1 := d.1.2.2.1.2.1
  rw [d.2.1] at v1
  obtain ⟨B, hB⟩ := Int.eq_ofNat_of_zero_le v1
  have lk : ∀ τ' : Sg, fX10_lacks τ' = some (if cM τ' 0 12 = 0 then 1 else 0, τ') → True := fun _ _ => trivial
  by_cases s0 : m0 0 12 = 0
  · refine lock (DJ n m0) 0 (by omega) (fun k h σ τ hk d => absurd hk (Nat.not_lt_zero k)) (fun h σ τ d => ?_) d
    obtain ⟨es, s1, s2⟩ := f9_seas d.1.2.1 hn
    have hl := f10_lacks d.1.2.1
    rw [d.2.1] at es hl
    refine ⟨?_, ?_⟩
    · dsimp only
      unfold fX9_digest_b176
      rw [if_neg (gtn (v := 5) (b := 5) rfl (by omega) (by omega) (by omega)), es, if_pos (lep (v := 0) (b := 0) rfl (by omega) (by omega) (by omega))]
    · dsimp only
      unfold fX10_digest_b75
      rw [if_neg (gen (v := 6) (b := 6) rfl (by omega) (by omega) (by omega)), bt hl s0]
  · refine lock (DJ n m0) 6 (by omega) (fun k h σ τ hk d => ?_) (fun h σ τ d => ⟨by
      dsimp only
      unfold fX9_digest_b176
      rw [if_pos (gtp (v := 5) (b := 5) rfl (by omega) (by omega) (by omega))], by
      dsimp only
      unfold fX10_digest_b75
      rw [if_pos (gep (v := 6) (b := 6) rfl (by omega) (by omega) (by omega))]⟩) d
    obtain ⟨es, s1, s2⟩ := f9_seas d.1.2.1 hn
    have hl := f10_lacks d.1.2.1
    have hBt : cM τ 0 15 = (B : Int) := by rw [d.2.1, hB]
    have s0t : cM τ 0 12 ≠ 0 := by rw [d.2.1]; exact s0
    obtain ⟨τ', r1, r2⟩ := f10_seasonOf (T := 5) (w := k) d.1 hBt (by omega) (by omega)
    obtain ⟨σ', u1, u2⟩ := f9_season (T := 5) (w := k) d.1 hn hBt s0t (by omega) (by omega) (by omega)
    have d' := DJ_go d (Inv_sT u2 r2) (sT_core r2) (kj_seasonOf (J := τ.2.1) rfl _ r1)
    refine ⟨(31 : Int64) * h + (yI (tellS (cM τ) B 5 k)).toInt64, σ', _, ?_, ?_, DJ_say d' _⟩
    · dsimp only
      unfold fX9_digest_b176
      rw [if_neg (gtn (v := 5) (b := 5) rfl (by omega) (by omega) (by omega)), es, if_neg (len (v := 0) (b := 0) rfl (by omega) (by omega) (by omega)), show (5 : Int32) = yI ((5 : Nat) : Int) from rfl, b1 u1, add1]
    · dsimp only
      unfold fX10_digest_b75
      rw [if_neg (gen (v := 6) (b := 6) rfl (by omega) (by omega) (by omega)), bf hl s0t]
      dsimp only
      rw [show (5 : Int32) = yI ((5 : Nat) : Int) from rfl, b1 r1]
      dsimp only
      rw [b1 (f10_say d'.2.2), add1]
