/-! ===== image, restore ===== -/
theorem cp_loop {f : Int32 × Sg → Option ((Int32 × Sg) ⊕ Sg)} {N s d : Nat} {v : Int32} (hv : v.toInt = (N : Int)) (hN : N ≤ 30) (hsd : s ≠ d) (hf : ∀ x σ, f (x, σ) = if v ≤ x then some (.inr σ) else if inb x N = true then (if inb x N = true then some (.inl (x + 1, wI σ d x.toNatClampNeg (rI σ s x.toNatClampNeg))) else none) else none) (τ : Sg) : ∃ t, lp f FU ((0 : Int32), τ) = some t ∧ (∀ j : Nat, j < N → rI t d j = rI τ s j) ∧ ∀ o j, o ≠ d → rI t o j = rI τ o j := by
  refine lp_all (fun k s1 => s1.1 = yI (k : Int) ∧ (∀ b : Nat, b < k → rI s1.2 d b = rI τ s b) ∧ ∀ o j, o ≠ d → rI s1.2 o j = rI τ o j) N _ ?_ ?_ ⟨rfl, fun b hb => absurd hb (Nat.not_lt_zero _), fun _ _ _ => rfl⟩ (FU_b (by omega))
  · rintro k ⟨x, t⟩ hk ⟨h1, h2, h3⟩
    dsimp only at h1 h2 h3
    subst h1
    refine ⟨(yI ((k + 1 : Nat) : Int), wI t d k (rI t s k)), ?_, rfl, fun b hb => ?_, fun o j ho => ?_⟩
    · rw [hf, if_neg (gen hv (by omega) (by omega) (by omega)), if_pos (inb_n (by omega) hk), if_pos (inb_n (by omega) hk), yI_cln (by omega), add1]
    · by_cases e : b = k
      · rw [e]
        show rI (wI t d k (rI t s k)) d k = rI τ s k
        rw [rI_s]; exact h3 s k hsd
      · show rI (wI t d k (rI t s k)) d b = rI τ s b
        rw [rI_k e]; exact h2 b (by omega)
    · show rI (wI t d k (rI t s k)) o j = rI τ o j
      rw [rI_o ho]; exact h3 o j ho
  · rintro ⟨x, t⟩ ⟨h1, h2, h3⟩
    dsimp only at h1 h2 h3
    subst h1
    exact ⟨t, by rw [hf, if_pos (gep hv (by omega) (by omega) (by omega))], h2, h3⟩
theorem cpB_3 : cpB (0 : Int32) (0 : Int32) (3 : Int32) 3 3 = true := rfl
theorem wC3 {σ : Sg} {a d o j : Nat} : rI (wC σ a ((0 : Int32)).toNatClampNeg d ((0 : Int32)).toNatClampNeg ((3 : Int32)).toNatClampNeg) o j = if o = d ∧ j < 3 then rI σ a j else rI σ o j := by
  rw [show ((0 : Int32)).toNatClampNeg = 0 from rfl, show ((3 : Int32)).toNatClampNeg = 3 from rfl, rI_wC]
  by_cases h : o = d ∧ j < 3
  · rw [if_pos h, if_pos (by omega), Nat.zero_add, Nat.sub_zero]
  · rw [if_neg h, if_neg (by omega)]
theorem f2_keep {σ : Sg} {B : Nat} (hB : B ≤ 5) : ∃ t, fX2_keep (yI (B : Int)) 40 σ = some t ∧ rI t 53 3 = yI (B : Int) ∧ (∀ b : Nat, b < B → rI t 54 b = rI σ (76 + b) 2 ∧ rI t 55 b = rI σ (76 + b) 3) ∧ (∀ j : Nat, j < 3 → rI t 57 j = rI σ 41 j) ∧ ∀ o j, o ≠ 54 → o ≠ 55 → o ≠ 57 → ¬ (o = 53 ∧ j = 3) → rI t o j = rI σ o j := by
  have em : imin (yI (B : Int)) (5 : Int32) = yI (B : Int) := by
    rw [show (5 : Int32) = yI 5 from rfl, imin_z (by omega) (by omega) (by omega) (by omega)]; congr 1; omega
  have H : ∃ t, lp (fun s : Int32 × Sg => fX2_keep_b13 40 s.1 s.2) FU ((0 : Int32), wI σ 53 3 (yI (B : Int))) = some t ∧ ((∀ b : Nat, b < B → rI t 54 b = rI σ (76 + b) 2 ∧ rI t 55 b = rI σ (76 + b) 3) ∧ ∀ o j, o ≠ 54 → o ≠ 55 → rI t o j = rI (wI σ 53 3 (yI (B : Int))) o j) := by
    refine lp_all (fun k s1 => s1.1 = yI (k : Int) ∧ (∀ b : Nat, b < k → rI s1.2 54 b = rI σ (76 + b) 2 ∧ rI s1.2 55 b = rI σ (76 + b) 3) ∧ ∀ o j, o ≠ 54 → o ≠ 55 → rI s1.2 o j = rI (wI σ 53 3 (yI (B : Int))) o j) B _ ?_ ?_ ⟨rfl, fun b hb => absurd hb (Nat.not_lt_zero _), fun _ _ _ _ => rfl⟩ (FU_b (by omega))
    · rintro k ⟨x, t⟩ hk ⟨h1, h2, h3⟩
      dsimp only at h1 h2 h3
      subst h1
      refine ⟨(yI ((k + 1 : Nat) : Int), wI (wI t 54 k (rI t (76 + k) 2)) 55 k (rI t (76 + k) 3)), ?_, rfl, fun b hb => ?_, fun o j ho1 ho2 => ?_⟩
      · dsimp only
        unfold fX2_keep_b13
        rw [h3 53 3 (by omega) (by omega), rI_s, if_neg (fun q => by have := (yI_le (by omega) (by omega) (by omega) (by omega)).mp q; omega)]
        simp (disch := omega) only [rI_o, yI_cln, add1]
        rw [if_pos (inb_n (by omega) (by omega)), if_pos (inb_n (by omega) (by omega)), if_pos (inb_n (by omega) (by omega)), if_pos (inb_n (by omega) (by omega))]
      · dsimp only
        by_cases e : b = k
        · rw [e, rI_o (by omega), rI_s, rI_s, h3 _ _ (by omega) (by omega), h3 _ _ (by omega) (by omega), rI_o (by omega), rI_o (by omega)]
          exact ⟨rfl, rfl⟩
        · rw [rI_o (by omega), rI_k e, rI_k e, rI_o (by omega)]
          exact h2 b (by omega)
      · show rI (wI (wI t 54 k (rI t (76 + k) 2)) 55 k (rI t (76 + k) 3)) o j = _
        rw [rI_o ho2, rI_o ho1]; exact h3 o j ho1 ho2
    · rintro ⟨x, t⟩ ⟨h1, h2, h3⟩
      dsimp only at h1 h2 h3
      subst h1
      refine ⟨t, ?_, h2, h3⟩
      dsimp only
      unfold fX2_keep_b13
      rw [h3 53 3 (by omega) (by omega), rI_s, if_pos ((yI_le (by omega) (by omega) (by omega) (by omega)).mpr (Int.le_refl _))]
  obtain ⟨t, h1, h2, h3⟩ := H
  refine ⟨wC t 41 ((0 : Int32)).toNatClampNeg 57 ((0 : Int32)).toNatClampNeg ((3 : Int32)).toNatClampNeg, ?_, ?_, fun b hb => ?_, fun j hj => ?_, fun o j o1 o2 o3 o4 => ?_⟩
  · unfold fX2_keep fX2_keep_b0
    rw [em, b1 h1]
    unfold fX1_copy fX1_copy_b0
    rw [if_pos cpB_3, b1 rfl]
  · rw [wC3, if_neg (by omega), h3 53 3 (by omega) (by omega), rI_s]
  · rw [wC3, if_neg (by omega), wC3, if_neg (by omega)]; exact h2 b hb
  · rw [wC3, if_pos ⟨rfl, hj⟩, h3 41 j (by omega) (by omega), rI_o (by omega)]
  · rw [wC3, if_neg (by omega), h3 o j o1 o2, rI_wI, if_neg o4]
theorem IV_image {n : Nat} {c c' m m' : Mm} (h : IV n c m) (hs : m 0 12 ≠ 0) (hc : ∀ o j, o ≠ 53 → o ≠ 54 → o ≠ 55 → o ≠ 57 → c' o j = c o j) (c3 : c' 53 3 = m 0 15) (c4 : c' 53 4 = m 0 20) (c5 : c' 53 5 = m 0 12) (cb : ∀ b : Nat, (b : Int) < m 0 15 → c' 54 b = c (76 + b) 2 ∧ c' 55 b = c (76 + b) 3) (ck : ∀ j : Nat, j < 3 → c' 57 j = c 41 j) (hm : ∀ o j, o ≠ 15 → o ≠ 16 → ¬ (o = 0 ∧ 43 ≤ j ∧ j ≤ 48) → m' o j = m o j) (m15 : ∀ j : Nat, j < 25 → m' 15 j = m 6 j) (m16 : ∀ j : Nat, j < 30 → m' 16 j = m 7 j) (m43 : m' 0 43 = m 0 15) (m44 : m' 0 44 = m 0 12) (m45 : m' 0 45 = m 0 17) (m46 : m' 0 46 = m 0 18) (m47 : m' 0 47 = m 0 19) (m48 : m' 0 48 = m 0 20) : IV (n + 1) c' m' := by
  obtain ⟨hp, hq, hv, hcc, hl, hd, hi, hg⟩ := h
  have mo : ∀ o, o ≠ 0 → o ≠ 15 → o ≠ 16 → m' o = m o := fun o h0 h1 h2 => funext fun k => hm o k h1 h2 (by omega)
  have mz : ∀ k, k < 43 → m' 0 k = m 0 k := fun k h => hm 0 k (by omega) (by omega) (by omega)
  have co : ∀ o, o ≠ 53 → o ≠ 54 → o ≠ 55 → o ≠ 57 → c' o = c o := fun o h1 h2 h3 h4 => funext fun k => hc o k h1 h2 h3 h4
  have s : SE m m' := ⟨mz 9 (by omega), mz 10 (by omega), mz 11 (by omega), mo 4 (by omega) (by omega) (by omega), mo 5 (by omega) (by omega) (by omega)⟩
  have kk : CE m m' := ⟨mz 17 (by omega), mz 18 (by omega), mz 19 (by omega)⟩
  have k : ∀ o, o ≠ 53 → o ≠ 54 → o ≠ 55 → o ≠ 57 → c' o = c o := co
  have hv5 := hv.2.2.1
  have hv0 := hv.2.1
  have hl10 := hl.2.2.1
  refine ⟨VP_f hp (by rw [co 1 (by omega) (by omega) (by omega) (by omega)]) (co 2 (by omega) (by omega) (by omega) (by omega)) (mz 1 (by omega)) (mo 1 (by omega) (by omega) (by omega)), VQ_n (VQ_f hq (by rw [co 0 (by omega) (by omega) (by omega) (by omega)]) (mz 12 (by omega)) s (co 4 (by omega) (by omega) (by omega) (by omega)) (co 5 (by omega) (by omega) (by omega) (by omega)) (co 6 (by omega) (by omega) (by omega) (by omega)) (co 7 (by omega) (by omega) (by omega) (by omega)) (co 8 (by omega) (by omega) (by omega) (by omega)) (fun i _ => co _ (by omega) (by omega) (by omega) (by omega))), VB_f hv (by rw [co 0 (by omega) (by omega) (by omega) (by omega)]) (mz 15 (by omega)) s (mo 6 (by omega) (by omega) (by omega)) (fun i _ => co _ (by omega) (by omega) (by omega) (by omega)), VC_f hcc (co 41 (by omega) (by omega) (by omega) (by omega)) kk, VL_f hl (by rw [co 49 (by omega) (by omega) (by omega) (by omega)]) (co 50 (by omega) (by omega) (by omega) (by omega)) (co 51 (by omega) (by omega) (by omega) (by omega)) (co 52 (by omega) (by omega) (by omega) (by omega)) (mz 20 (by omega)) (mo 7 (by omega) (by omega) (by omega)), VD_f hd (by rw [co 0 (by omega) (by omega) (by omega) (by omega)]) (mz 40 (by omega)), ?_, VG_f hg hv5 s kk (mo 6 (by omega) (by omega) (by omega)) (mz 15 (by omega)) (co 65 (by omega) (by omega) (by omega) (by omega)) (co 66 (by omega) (by omega) (by omega) (by omega)) (fun i _ => co _ (by omega) (by omega) (by omega) (by omega))⟩
  unfold VI
  rw [m43, m44, mz 12 (by omega), c5]
  have h12 := hq.2.1
  refine Or.inr ⟨hv0, hv5, by omega, Int.le_refl _, rfl, fun _ => ?_⟩
  unfold VI2
  rw [m43, m45, m46, m47, m48, mz 15 (by omega), mz 20 (by omega), c3, c4, ck 0 (by omega), ck 1 (by omega), ck 2 (by omega), mo 7 (by omega) (by omega) (by omega)]
  refine ⟨rfl, Int.le_refl _, rfl, hl.2.1, Int.le_refl _, hcc.1, hcc.2.1, hcc.2.2.1, hcc.2.2.2, fun b hb => ?_, fun j hj => m16 j (by omega)⟩
  obtain ⟨v1, v2⟩ := hv.2.2.2 b hb
  obtain ⟨x1, x2⟩ := cb b hb
  unfold VI1
  rw [x1, x2, m15 _ (by omega), m15 _ (by omega), m15 _ (by omega), m15 _ (by omega), m15 _ (by omega), mo 6 (by omega) (by omega) (by omega)]
  exact ⟨v2.2.2.1, v2.2.2.2.1, rfl, rfl, rfl, v1.2.2.2.2.2.1, v1.2.2.2.2.2.2.1, v1.2.2.2.2.2.2.2.1, v1.2.2.2.2.2.2.2.2.1⟩
theorem VQ.z {n : Nat} {c m : Mm} (h : VQ n c m) : m 0 9 = 0 ↔ m 0 12 = 0 := by
  rcases h.2.2.2 with ⟨a, b, -⟩ | ⟨a, b, -⟩
  · rw [a, b]
  · have := b.1; omega
theorem f10_lacks {n : Nat} {σ τ : Sg} (h : VQ n (cC σ) (cM τ)) : fX10_lacks τ = some (if cM τ 0 12 = 0 then 1 else 0, τ) := by
  have b := core_b (ns := nsM) τ 0 9
  unfold fX10_lacks fX10_lacks_b0
  rw [cM_r (o := 0) (k := 9) rfl]
  by_cases q : cM τ 0 12 = 0
  · rw [if_pos q, if_pos (eqp (v := 0) (b := 0) rfl (h.z.mpr q))]
  · rw [if_neg q, if_neg (yI_nl (v := 0) (b := 0) rfl b.1 b.2 (fun e => q (h.z.mp e)))]
theorem f9_seas {n : Nat} {σ τ : Sg} (h : VQ n (cC σ) (cM τ)) (hn : n < 512) : rI σ 0 10 = yI (cM τ 0 12) ∧ 0 ≤ cM τ 0 12 ∧ cM τ 0 12 < 1000 := by
  refine ⟨by rw [cC_r (o := 0) (k := 10) rfl, h.1], h.2.1, ?_⟩
  have := h.2.2.1
  omega
theorem s_image : SimI Inv fX9_image fX10_image := fun n σ τ hn h => by
  have hq := h.2.1
  have hv := h.2.2.1
  have hl := h.2.2.2.2.1
  have gl := f10_lacks hq
  obtain ⟨es, s1, s2⟩ := f9_seas hq hn
  by_cases q : cM τ 0 12 = 0
  · refine ⟨-103, σ, τ, ?_, ?_, Inv_n n σ τ h⟩
    · unfold fX9_image fX9_image_b0
      rw [es, if_pos (eqp (v := 0) (b := 0) rfl q)]
    · unfold fX10_image fX10_image_b0
      rw [bt gl q]
  · obtain ⟨B, hB⟩ := Int.eq_ofNat_of_zero_le hv.2.1
    have B5 : B ≤ 5 := by have := hv.2.2.1; omega
    obtain ⟨t, k1, k2, k3, k4, k5⟩ := f2_keep (σ := σ) B5
    obtain ⟨t5, a1, a2, a3⟩ := cp_loop (f := fun s => fX10_image_b12 s.1 s.2) (N := 25) (s := 6) (d := 15) (v := 25) rfl (by omega) (by omega) (fun x σ => rfl) τ
    obtain ⟨t9, d1, d2, d3⟩ := cp_loop (f := fun s => fX10_image_b38 s.1 s.2) (N := 30) (s := 7) (d := 16) (v := 30) rfl (by omega) (by omega) (fun x σ => rfl) t5
    have e9 : rI σ 0 9 = yI (B : Int) := by rw [hv.e.1, hB]
    have e15 : rI τ 0 15 = yI (B : Int) := by rw [hv.e.2, hB]
    have u1 : fX9_image σ = some (yI (B : Int), wI (wI t 53 4 (rI t 49 3)) 53 5 (rI t 0 10)) := by
      unfold fX9_image fX9_image_b0
      rw [es, if_neg (yI_nl (v := 0) (b := 0) rfl (by omega) (by omega) q), e9, b1 k1]
      simp (disch := omega) only [rI_o]
      rw [k5 0 9 (by omega) (by omega) (by omega) (by omega), e9]
    have f9 : ∀ k, rI t9 0 k = rI τ 0 k := fun k => by rw [d3 0 k (by omega), a3 0 k (by omega)]
    have u2 : fX10_image τ = some (yI (B : Int), wI (wI (wI (wI (wI (wI t9 0 45 (rI τ 0 17)) 0 46 (rI τ 0 18)) 0 47 (rI τ 0 19)) 0 48 (rI τ 0 20)) 0 43 (rI τ 0 15)) 0 44 (rI τ 0 12)) := by
      unfold fX10_image fX10_image_b0
      rw [bf gl q]
      dsimp only
      rw [b1 a1, b1 d1]
      simp (disch := omega) only [rI_k, f9]
      rw [e15]
    refine ⟨_, _, _, u1, u2, ?_⟩
    refine IV_image h q (fun o j o1 o2 o3 o4 => core_e ?_) ?_ ?_ ?_ (fun b hb => ⟨?_, ?_⟩) (fun j hj => ?_) (fun o j o1 o2 o3 => core_e ?_) (fun j hj => ?_) (fun j hj => ?_) ?_ ?_ ?_ ?_ ?_ ?_
    · rw [rI_o o1, rI_o o1, k5 o j o2 o3 o4 (by omega)]
    · show core nsC _ 53 3 = _
      rw [core_g rfl, rI_k (by omega), rI_k (by omega), k2, yI_int (by omega) (by omega), hB]
    · show core nsC _ 53 4 = _
      rw [core_g rfl, rI_k (by omega), rI_s, k5 49 3 (by omega) (by omega) (by omega) (by omega), ← hl.1]
      exact (core_g rfl).symm
    · show core nsC _ 53 5 = _
      rw [core_g rfl, rI_s, k5 0 10 (by omega) (by omega) (by omega) (by omega), ← hq.1]
      exact (core_g rfl).symm
    · show core nsC _ 54 b = core nsC _ (76 + b) 2
      rw [core_g rfl, rI_o (by omega), rI_o (by omega), (k3 b (by omega)).1, core_g (nsC_hi (by omega))]
    · show core nsC _ 55 b = core nsC _ (76 + b) 3
      rw [core_g rfl, rI_o (by omega), rI_o (by omega), (k3 b (by omega)).2, core_g (nsC_hi (by omega))]
    · show core nsC _ 57 j = core nsC _ 41 j
      rw [core_g rfl, rI_o (by omega), rI_o (by omega), k4 j hj, core_g rfl]
    · rw [rI_wI, if_neg (by omega), rI_wI, if_neg (by omega), rI_wI, if_neg (by omega), rI_wI, if_neg (by omega), rI_wI, if_neg (by omega), rI_wI, if_neg (by omega), d3 o j o2, a3 o j o1]
    · show core nsM _ 15 j = core nsM _ 6 j
      rw [core_g rfl, core_g rfl]
      simp (disch := omega) only [rI_o]
      rw [d3 15 j (by omega), a2 j hj]
    · show core nsM _ 16 j = core nsM _ 7 j
      rw [core_g rfl, core_g rfl]
      simp (disch := omega) only [rI_o]
      rw [d2 j hj, a3 7 j (by omega)]
    · show core nsM _ 0 43 = core nsM _ 0 15
      rw [core_g rfl, core_g rfl]
      simp (disch := omega) only [rI_k, rI_s]
    · show core nsM _ 0 44 = core nsM _ 0 12
      rw [core_g rfl, core_g rfl]
      simp (disch := omega) only [rI_k, rI_s]
    · show core nsM _ 0 45 = core nsM _ 0 17
      rw [core_g rfl, core_g rfl]
      simp (disch := omega) only [rI_k, rI_s]
    · show core nsM _ 0 46 = core nsM _ 0 18
      rw [core_g rfl, core_g rfl]
      simp (disch := omega) only [rI_k, rI_s]
    · show core nsM _ 0 47 = core nsM _ 0 19
      rw [core_g rfl, core_g rfl]
      simp (disch := omega) only [rI_k, rI_s]
    · show core nsM _ 0 48 = core nsM _ 0 20
      rw [core_g rfl, core_g rfl]
      simp (disch := omega) only [rI_k, rI_s]
