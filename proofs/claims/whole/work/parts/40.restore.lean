/-! ===== restore ===== -/
theorem f2_giveBack {σ : Sg} {B : Nat} (hB : B ≤ 5) (e : rI σ 53 3 = yI (B : Int)) : ∃ t, fX2_giveBack 40 σ = some t ∧ (∀ b : Nat, b < B → rI t (76 + b) 2 = rI σ 54 b ∧ rI t (76 + b) 3 = rI σ 55 b) ∧ (∀ j : Nat, j < 3 → rI t 41 j = rI σ 57 j) ∧ ∀ o j, o ≠ 41 → ¬ (76 ≤ o ∧ (j = 2 ∨ j = 3)) → rI t o j = rI σ o j := by
  have H : ∃ t, lp (fun s : Int32 × Sg => fX2_giveBack_b2 40 s.1 s.2) FU ((0 : Int32), σ) = some t ∧ ((∀ b : Nat, b < B → rI t (76 + b) 2 = rI σ 54 b ∧ rI t (76 + b) 3 = rI σ 55 b) ∧ ∀ o j, ¬ (76 ≤ o ∧ (j = 2 ∨ j = 3)) → rI t o j = rI σ o j) := by
    refine lp_all (fun k s1 => s1.1 = yI (k : Int) ∧ (∀ b : Nat, b < k → rI s1.2 (76 + b) 2 = rI σ 54 b ∧ rI s1.2 (76 + b) 3 = rI σ 55 b) ∧ ∀ o j, ¬ (76 ≤ o ∧ (j = 2 ∨ j = 3)) → rI s1.2 o j = rI σ o j) B _ ?_ ?_ ⟨rfl, fun b hb => absurd hb (Nat.not_lt_zero _), fun _ _ _ => rfl⟩ (FU_b (by omega))
    · rintro k ⟨x, t⟩ hk ⟨h1, h2, h3⟩
      dsimp only at h1 h2 h3
      subst h1
      refine ⟨(yI ((k + 1 : Nat) : Int), wI (wI t (76 + k) 2 (rI t 54 k)) (76 + k) 3 (rI t 55 k)), ?_, rfl, fun b hb => ?_, fun o j ho => ?_⟩
      · dsimp only
        unfold fX2_giveBack_b2
        rw [h3 53 3 (by omega), e, if_neg (fun q => by have := (yI_le (by omega) (by omega) (by omega) (by omega)).mp q; omega)]
        simp (disch := omega) only [rI_o, yI_cln, add1]
        rw [if_pos (inb_n (by omega) (by omega)), if_pos (inb_n (by omega) (by omega)), if_pos (inb_n (by omega) (by omega)), if_pos (inb_n (by omega) (by omega))]
      · dsimp only
        by_cases ek : b = k
        · rw [ek, rI_k (by omega), rI_s, rI_s, h3 _ _ (by omega), h3 _ _ (by omega)]
          exact ⟨rfl, rfl⟩
        · rw [rI_o (by omega), rI_o (by omega), rI_o (by omega), rI_o (by omega)]
          exact h2 b (by omega)
      · show rI (wI (wI t (76 + k) 2 (rI t 54 k)) (76 + k) 3 (rI t 55 k)) o j = _
        rw [rI_wI, if_neg (by omega), rI_wI, if_neg (by omega)]; exact h3 o j ho
    · rintro ⟨x, t⟩ ⟨h1, h2, h3⟩
      dsimp only at h1 h2 h3
      subst h1
      refine ⟨t, ?_, h2, h3⟩
      dsimp only
      unfold fX2_giveBack_b2
      rw [h3 53 3 (by omega), e, if_pos ((yI_le (by omega) (by omega) (by omega) (by omega)).mpr (Int.le_refl _))]
  obtain ⟨t, h1, h2, h3⟩ := H
  refine ⟨wC t 57 ((0 : Int32)).toNatClampNeg 41 ((0 : Int32)).toNatClampNeg ((3 : Int32)).toNatClampNeg, ?_, fun b hb => ?_, fun j hj => ?_, fun o j o1 o2 => ?_⟩
  · unfold fX2_giveBack fX2_giveBack_b0
    rw [b1 h1]
    unfold fX1_copy fX1_copy_b0
    rw [if_pos cpB_3, b1 rfl]
  · rw [wC3, if_neg (by omega), wC3, if_neg (by omega)]; exact h2 b hb
  · rw [wC3, if_pos ⟨rfl, hj⟩, h3 57 j (by omega)]
  · rw [wC3, if_neg (by omega), h3 o j o2]
theorem IV_restore {n : Nat} {c c' m m' : Mm} (h : IV n c m) (q1 : 0 ≤ m 0 43) (q2 : m 0 44 = m 0 12) (hc : ∀ o j, o ≠ 41 → ¬ (o = 49 ∧ j = 3) → o ≠ 65 → ¬ (o = 0 ∧ j = 9) → ¬ (76 ≤ o ∧ (j = 2 ∨ j = 3)) → c' o j = c o j) (cb : ∀ b : Nat, (b : Int) < m 0 43 → c' (76 + b) 2 = c 54 b ∧ c' (76 + b) 3 = c 55 b) (ck : ∀ j : Nat, j < 3 → c' 41 j = c 57 j) (c49 : c' 49 3 = m 0 48) (c65 : ∀ b : Nat, b < 5 → c' 65 b = 0) (c9 : c' 0 9 = m 0 43) (hm : ∀ o j, o ≠ 6 → o ≠ 7 → ¬ (o = 0 ∧ 15 ≤ j ∧ j ≤ 20) → m' o j = m o j) (m6 : ∀ j : Nat, j < 25 → m' 6 j = m 15 j) (m7 : ∀ j : Nat, j < 30 → m' 7 j = m 16 j) (m15 : m' 0 15 = m 0 43) (m17 : m' 0 17 = m 0 45) (m18 : m' 0 18 = m 0 46) (m19 : m' 0 19 = m 0 47) (m20 : m' 0 20 = m 0 48) : IV (n + 1) c' m' := by
  obtain ⟨hp, hq, hv, hcc, hl, hd, hi, hg⟩ := h
  rcases hi with ⟨i1, -⟩ | ⟨i1, i2, i3, i4, i5, i6⟩
  · omega
  obtain ⟨w1, w2, w3, w4, w5, w6, w7, w8, w9, w10, w11⟩ := i6 q2
  have mo : ∀ o, o ≠ 0 → o ≠ 6 → o ≠ 7 → m' o = m o := fun o h0 h1 h2 => funext fun k => hm o k h1 h2 (by omega)
  have mz : ∀ k, ¬ (15 ≤ k ∧ k ≤ 20) → m' 0 k = m 0 k := fun k h => hm 0 k (by omega) (by omega) (by omega)
  have co : ∀ o, o ≠ 0 → o ≠ 41 → o ≠ 49 → o ≠ 65 → o < 76 → c' o = c o := fun o h1 h2 h3 h4 h5 => funext fun k => hc o k h2 (by omega) h4 (by omega) (by omega)
  have cz : ∀ k, k ≠ 9 → c' 0 k = c 0 k := fun k h => hc 0 k (by omega) (by omega) (by omega) (by omega) (by omega)
  have s : SE m m' := ⟨mz 9 (by omega), mz 10 (by omega), mz 11 (by omega), mo 4 (by omega) (by omega) (by omega), mo 5 (by omega) (by omega) (by omega)⟩
  have hv5 := hv.2.2.1
  have hl10 := hl.2.2.1
  refine ⟨VP_f hp (by rw [co 1 (by omega) (by omega) (by omega) (by omega) (by omega)]) (co 2 (by omega) (by omega) (by omega) (by omega) (by omega)) (mz 1 (by omega)) (mo 1 (by omega) (by omega) (by omega)), VQ_n (VQ_f hq (cz 10 (by omega)) (mz 12 (by omega)) s (co 4 (by omega) (by omega) (by omega) (by omega) (by omega)) (co 5 (by omega) (by omega) (by omega) (by omega) (by omega)) (co 6 (by omega) (by omega) (by omega) (by omega) (by omega)) (co 7 (by omega) (by omega) (by omega) (by omega) (by omega)) (co 8 (by omega) (by omega) (by omega) (by omega) (by omega)) (fun i _ => co _ (by omega) (by omega) (by omega) (by omega) (by omega))), ⟨c9.trans m15.symm, by rw [m15]; exact i1, by rw [m15]; exact i2, fun b hb => ?_⟩, ⟨(ck 0 (by omega)).trans (w6.trans m17.symm), (ck 1 (by omega)).trans (w7.trans m18.symm), (ck 2 (by omega)).trans (w8.trans m19.symm), by rw [m17, m18, m19]; exact w9⟩, ⟨c49.trans m20.symm, by rw [m20]; exact w4, by rw [m20]; omega, fun k hk => ?_⟩, VD_f hd (cz 11 (by omega)) (mz 40 (by omega)), ?_, VG_0 (by rw [m15]; exact i2) c65⟩
  · rw [m15] at hb
    obtain ⟨v1, v2⟩ := hv.2.2.2 b (by omega)
    obtain ⟨x1, x2, x3, x4, x5, x6, x7, x8, x9⟩ := w10 b hb
    obtain ⟨y1, y2⟩ := cb b hb
    obtain ⟨a1, a2, a3, a4, a5, a6, a7, a8, a9, a10, a11⟩ := v1
    obtain ⟨d1, d2, d3, d4, d5, d6⟩ := v2
    have n0 : m' 6 (5 * b) = m 6 (5 * b) := (m6 _ (by omega)).trans x3
    have n1 : m' 6 (5 * b + 1) = m 6 (5 * b + 1) := (m6 _ (by omega)).trans x4
    have n4 : m' 6 (5 * b + 4) = m 6 (5 * b + 4) := (m6 _ (by omega)).trans x5
    have n2 : m' 6 (5 * b + 2) = m 15 (5 * b + 2) := m6 _ (by omega)
    have n3 : m' 6 (5 * b + 3) = m 15 (5 * b + 3) := m6 _ (by omega)
    have cs : ∀ j, j ≠ 2 → j ≠ 3 → c' (76 + b) j = c (76 + b) j := fun j j2 j3 => hc _ _ (by omega) (by omega) (by omega) (by omega) (by omega)
    constructor
    · unfold VB1 qsq
      rw [n0, n1, n2, n3, n4, s.1, s.2.1, s.2.2.2.1]
      exact ⟨a1, a2, a3, a4, a5, x6, x7, x8, x9, a10, a11⟩
    · unfold VB2
      rw [n0, n1, n2, n3, n4, y1, y2, cs 0 (by omega) (by omega), cs 1 (by omega) (by omega), cs 4 (by omega) (by omega), cs 5 (by omega) (by omega)]
      exact ⟨d1, d2, x1, x2, d5, d6⟩
  · rw [m20] at hk
    obtain ⟨a1, a2, a3, a4⟩ := hl.2.2.2 k (by omega)
    have e : ∀ j : Nat, j < 3 → m' 7 (3 * k + j) = m 7 (3 * k + j) := fun j hj => (m7 _ (by omega)).trans (w11 _ (by omega))
    have e0 := e 0 (by omega)
    rw [Nat.add_zero] at e0
    unfold VL1
    rw [e0, e 1 (by omega), e 2 (by omega), co 50 (by omega) (by omega) (by omega) (by omega) (by omega), co 51 (by omega) (by omega) (by omega) (by omega) (by omega), co 52 (by omega) (by omega) (by omega) (by omega) (by omega)]
    exact ⟨a1, a2, a3, a4⟩
  · unfold VI
    rw [mz 43 (by omega), mz 44 (by omega), mz 12 (by omega), co 53 (by omega) (by omega) (by omega) (by omega) (by omega)]
    refine Or.inr ⟨i1, i2, i3, i4, i5, fun _ => ?_⟩
    unfold VI2
    rw [mz 43 (by omega), m15, mz 48 (by omega), m20, mz 45 (by omega), mz 46 (by omega), mz 47 (by omega), co 53 (by omega) (by omega) (by omega) (by omega) (by omega), co 57 (by omega) (by omega) (by omega) (by omega) (by omega), mo 16 (by omega) (by omega) (by omega)]
    refine ⟨w1, Int.le_refl _, w3, w4, Int.le_refl _, w6, w7, w8, w9, fun b hb => ?_, fun k hk => (m7 k (by omega)).symm⟩
    obtain ⟨x1, x2, x3, x4, x5, x6, x7, x8, x9⟩ := w10 b hb
    unfold VI1
    rw [mo 15 (by omega) (by omega) (by omega), co 54 (by omega) (by omega) (by omega) (by omega) (by omega), co 55 (by omega) (by omega) (by omega) (by omega) (by omega)]
    exact ⟨x1, x2, (m6 _ (by omega)).symm, (m6 _ (by omega)).symm, (m6 _ (by omega)).symm, x6, x7, x8, x9⟩
theorem s_restore : SimI Inv fX9_restore fX10_restore := fun n σ τ hn h => by
  have hI := h
  obtain ⟨hp, hq, hv, hcc, hl, hd, hi, hg⟩ := h
  obtain ⟨es, s1, s2⟩ := f9_seas hq hn
  have r53 : rI σ 53 5 = yI (cC σ 53 5) := cC_r rfl
  have r43 : rI τ 0 43 = yI (cM τ 0 43) := cM_r rfl
  have r44 : rI τ 0 44 = yI (cM τ 0 44) := cM_r rfl
  have r12 : rI τ 0 12 = yI (cM τ 0 12) := cM_r rfl
  rcases hi with ⟨i1, i2⟩ | ⟨i1, i2, i3, i4, i5, i6⟩
  · refine ⟨-103, σ, τ, ?_, ?_, Inv_n n σ τ hI⟩
    · unfold fX9_restore fX9_restore_b0
      rw [r53, if_pos (eqp (v := 0) (b := 0) rfl i2)]
    · unfold fX10_restore fX10_restore_b0
      rw [r43, if_pos (eqp (v := -1) (b := -1) rfl i1)]
  · by_cases q : cM τ 0 44 = cM τ 0 12
    · obtain ⟨w1, w2, w3, w4, w5, w6, w7, w8, w9, w10, w11⟩ := i6 q
      obtain ⟨B, hB⟩ := Int.eq_ofNat_of_zero_le i1
      have B5 : B ≤ 5 := by omega
      have h48 := hl.2.2.1
      have e53 : rI σ 53 3 = yI (B : Int) := by rw [cC_r (o := 53) (k := 3) rfl, w1, hB]
      obtain ⟨t, k1, k2, k3, k4⟩ := f2_giveBack (σ := σ) B5 e53
      obtain ⟨σ1, f1, f2, f3⟩ := f3_forgetAll (wI t 49 3 (yI (cM τ 0 48)))
      obtain ⟨t3, a1, a2, a3⟩ := cp_loop (f := fun s => fX10_restore_b24 s.1 s.2) (N := 25) (s := 15) (d := 6) (v := 25) rfl (by omega) (by omega) (fun x σ => rfl) τ
      obtain ⟨t7, d1, d2, d3⟩ := cp_loop (f := fun s => fX10_restore_b50 s.1 s.2) (N := 30) (s := 16) (d := 7) (v := 30) rfl (by omega) (by omega) (fun x σ => rfl) t3
      have e49 : rI t 49 3 = yI (cM τ 0 20) := by rw [k4 49 3 (by omega) (by omega), cC_r (o := 49) (k := 3) rfl, hl.1]
      have e534 : rI t 53 4 = yI (cM τ 0 48) := by rw [k4 53 4 (by omega) (by omega), cC_r (o := 53) (k := 4) rfl, w3]
      have ecut : fX4_cutTo (rI t 53 4) t = some (wI t 49 3 (yI (cM τ 0 48))) := by
        unfold fX4_cutTo fX4_cutTo_b0
        rw [e49, e534, imin_z (by omega) (by omega) (by omega) (by omega), yI_0, imax_z (by omega) (by omega) (by omega) (by omega), show max 0 (min (cM τ 0 20) (cM τ 0 48)) = cM τ 0 48 by omega]
      have fr : ∀ o j, o ≠ 41 → ¬ (o = 49 ∧ j = 3) → o ≠ 65 → ¬ (76 ≤ o ∧ (j = 2 ∨ j = 3)) → rI σ1 o j = rI σ o j := fun o j o1 o2 o3 o4 => by rw [f3 o j o3, rI_wI, if_neg o2, k4 o j o1 o4]
      have u1 : fX9_restore σ = some (yI (B : Int), wI σ1 0 9 (yI (B : Int))) := by
        unfold fX9_restore fX9_restore_b0
        rw [r53, i5, if_neg (yI_nl (v := 0) (b := 0) rfl (by omega) (by omega) (by omega)), es, if_pos (by rw [q]), b1 k1, b1 ecut, b1 f1, rI_s, fr 53 3 (by omega) (by omega) (by omega) (by omega), e53]
      have f9 : ∀ k, rI t7 0 k = rI τ 0 k := fun k => by rw [d3 0 k (by omega), a3 0 k (by omega)]
      have e43 : rI τ 0 43 = yI (B : Int) := by rw [r43, hB]
      have u2 : fX10_restore τ = some (yI (B : Int), wI (wI (wI (wI (wI t7 0 17 (rI τ 0 45)) 0 18 (rI τ 0 46)) 0 19 (rI τ 0 47)) 0 20 (rI τ 0 48)) 0 15 (yI (B : Int))) := by
        unfold fX10_restore fX10_restore_b0
        rw [e43, if_neg (yI_nl (v := -1) (b := -1) rfl (by omega) (by omega) (by omega)), r44, r12, if_pos (by rw [q]), b1 a1, b1 d1]
        simp (disch := omega) only [rI_k, f9, rI_s, e43]
      refine ⟨_, _, _, u1, u2, ?_⟩
      refine IV_restore hI i1 q (fun o j o1 o2 o3 o4 o5 => core_e ?_) (fun b hb => ⟨?_, ?_⟩) (fun j hj => ?_) ?_ (fun b hb => ?_) ?_ (fun o j o1 o2 o3 => core_e ?_) (fun j hj => ?_) (fun j hj => ?_) ?_ ?_ ?_ ?_ ?_
      · rw [rI_wI, if_neg o4, fr o j o1 o2 o3 o5]
      · show core nsC _ (76 + b) 2 = core nsC _ 54 b
        rw [core_g (nsC_hi (by omega)), core_g rfl, rI_o (by omega), f3 _ _ (by omega), rI_o (by omega), (k2 b (by omega)).1]
      · show core nsC _ (76 + b) 3 = core nsC _ 55 b
        rw [core_g (nsC_hi (by omega)), core_g rfl, rI_o (by omega), f3 _ _ (by omega), rI_o (by omega), (k2 b (by omega)).2]
      · show core nsC _ 41 j = core nsC _ 57 j
        rw [core_g rfl, core_g rfl, rI_o (by omega), f3 _ _ (by omega), rI_o (by omega), k3 j hj]
      · show core nsC _ 49 3 = _
        rw [core_g rfl, rI_o (by omega), f3 _ _ (by omega), rI_s, yI_int (by omega) (by omega)]
      · show core nsC _ 65 b = 0
        rw [core_g rfl, rI_o (by omega), f2 b hb]; rfl
      · show core nsC _ 0 9 = _
        rw [core_g rfl, rI_s, yI_int (by omega) (by omega), hB]
      · rw [rI_wI, if_neg (by omega), rI_wI, if_neg (by omega), rI_wI, if_neg (by omega), rI_wI, if_neg (by omega), rI_wI, if_neg (by omega), d3 o j o2, a3 o j o1]
      · show core nsM _ 6 j = core nsM _ 15 j
        rw [core_g rfl, core_g rfl]
        simp (disch := omega) only [rI_o]
        rw [d3 6 j (by omega), a2 j hj]
      · show core nsM _ 7 j = core nsM _ 16 j
        rw [core_g rfl, core_g rfl]
        simp (disch := omega) only [rI_o]
        rw [d2 j hj, a3 16 j (by omega)]
      · show core nsM _ 0 15 = _
        rw [core_g rfl, rI_s, yI_int (by omega) (by omega), hB]
      · show core nsM _ 0 17 = core nsM _ 0 45
        rw [core_g rfl, core_g rfl]
        simp (disch := omega) only [rI_k, rI_s]
      · show core nsM _ 0 18 = core nsM _ 0 46
        rw [core_g rfl, core_g rfl]
        simp (disch := omega) only [rI_k, rI_s]
      · show core nsM _ 0 19 = core nsM _ 0 47
        rw [core_g rfl, core_g rfl]
        simp (disch := omega) only [rI_k, rI_s]
      · show core nsM _ 0 20 = core nsM _ 0 48
        rw [core_g rfl, core_g rfl]
        simp (disch := omega) only [rI_k, rI_s]
    · refine ⟨-103, σ, τ, ?_, ?_, Inv_n n σ τ hI⟩
      · unfold fX9_restore fX9_restore_b0
        rw [r53, i5, if_neg (yI_nl (v := 0) (b := 0) rfl (by omega) (by omega) (by omega)), es, if_neg (fun e => q (yI_inj (by omega) (by omega) (by omega) (by omega) e))]
      · unfold fX10_restore fX10_restore_b0
        rw [r43, if_neg (yI_nl (v := -1) (b := -1) rfl (by omega) (by omega) (by omega)), r44, r12, if_neg (fun e => q (yI_inj (by omega) (by omega) (by omega) (by omega) e))]
