/-! ===== image, restore ===== -/
theorem cp_loop {f : Int32 × Sg → Option ((Int32 × Sg) ⊕ Sg)} {N s d : Nat} {v : Int32} (hv : v.toInt = (N : Int)) (hN : N ≤ 30) (hsd : s ≠ d) (hf : ∀ x σ, f (x, σ) = if v ≤ x then some (.inr σ) else if inb x N = true then (if inb x N = true then some (.inl (x + 1, wI σ d x.toNatClampNeg (rI σ s x.toNatClampNeg))) else none) else none) (τ : Sg) : ∃ t, lp f FU ((0 : Int32), τ) = some t ∧ (∀ j : Nat, j < N → rI t d j = rI τ s j) ∧ ∀ o j, o ≠ d → rI t o j = rI τ o j := by
  refine lp_all (fun k s1 => s1.1 = yI (k : Int) ∧ (∀ b : Nat, b < k → rI s1.2 d b = rI τ s b) ∧ ∀ o j, o ≠ d → rI s1.2 o j = rI τ o j) N _ ?_ ?_ ⟨rfl, fun b hb => absurd hb (Nat.not_lt_zero _), fun _ _ _ => rfl⟩ (FU_b (by omega))
  · rintro k ⟨x, t⟩ hk ⟨h1, h2, h3⟩
    dsimp only at h1 h2 h3
    subst h1
    refine ⟨(yI ((k + 1 : Nat) : Int), wI t d k (rI t s k)), ?_, rfl, fun b hb => ?_, fun o j ho => ?_⟩
    · rw [hf, if_neg (gen hv (by omega) (by omega) (by omega)), if_pos (inb_n (by omega) hk), if_pos (inb_n (by omega) hk), yI_cln (by omega), add1]
    · by_cases e : b = k
      · rw [e]
        show rI (wI t d k (rI t s k)) d k = rI τ s k
        rw [rI_s]; exact h3 s k hsd
      · show rI (wI t d k (rI t s k)) d b = rI τ s b
        rw [rI_k e]; exact h2 b (by omega)
    · show rI (wI t d k (rI t s k)) o j = rI τ o j
      rw [rI_o ho]; exact h3 o j ho
  · rintro ⟨x, t⟩ ⟨h1, h2, h3⟩
    dsimp only at h1 h2 h3
    subst h1
    exact ⟨t, by rw [hf, if_pos (gep hv (by omega) (by omega) (by omega))], h2, h3⟩
theorem cpB_3 : cpB (0 : Int32) (0 : Int32) (3 : Int32) 3 3 = true := rfl
theorem wC3 {σ : Sg} {a d o j : Nat} : rI (wC σ a ((0 : Int32)).toNatClampNeg d ((0 : Int32)).toNatClampNeg ((3 : Int32)).toNatClampNeg) o j = if o = d ∧ j < 3 then rI σ a j else rI σ o j := by
  rw [show ((0 : Int32)).toNatClampNeg = 0 from rfl, show ((3 : Int32)).toNatClampNeg = 3 from rfl, rI_wC]
  by_cases h : o = d ∧ j < 3
  · rw [if_pos h, if_pos (by omega), Nat.zero_add, Nat.sub_zero]
  · rw [if_neg h, if_neg (by omega)]
theorem IV_image {n : Nat} {c c' m m' : Mm} (h : IV n c m) (hs : m 0 12 ≠ 0) (hc : ∀ o j, o ≠ 53 → o ≠ 54 → o ≠ 55 → o ≠ 57 → c' o j = c o j) (c3 : c' 53 3 = m 0 15) (c4 : c' 53 4 = m 0 20) (c5 : c' 53 5 = m 0 12) (cb : ∀ b : Nat, (b : Int) < m 0 15 → c' 54 b = c (76 + b) 2 ∧ c' 55 b = c (76 + b) 3) (ck : ∀ j : Nat, j < 3 → c' 57 j = c 41 j) (hm : ∀ o j, o ≠ 15 → o ≠ 16 → ¬ (o = 0 ∧ 43 ≤ j ∧ j ≤ 48) → m' o j = m o j) (m15 : ∀ j : Nat, j < 25 → m' 15 j = m 6 j) (m16 : ∀ j : Nat, j < 30 → m' 16 j = m 7 j) (m43 : m' 0 43 = m 0 15) (m44 : m' 0 44 = m 0 12) (m45 : m' 0 45 = m 0 17) (m46 : m' 0 46 = m 0 18) (m47 : m' 0 47 = m 0 19) (m48 : m' 0 48 = m 0 20) : IV (n + 1) c' m' := by
  obtain ⟨hp, hq, hv, hcc, hl, hd, hi, hg⟩ := h
  have mo : ∀ o, o ≠ 0 → o ≠ 15 → o ≠ 16 → m' o = m o := fun o h0 h1 h2 => funext fun k => hm o k h1 h2 (by omega)
  have mz : ∀ k, k < 43 → m' 0 k = m 0 k := fun k h => hm 0 k (by omega) (by omega) (by omega)
  have co : ∀ o, o ≠ 53 → o ≠ 54 → o ≠ 55 → o ≠ 57 → c' o = c o := fun o h1 h2 h3 h4 => funext fun k => hc o k h1 h2 h3 h4
  have s : SE m m' := ⟨mz 9 (by omega), mz 10 (by omega), mz 11 (by omega), mo 4 (by omega) (by omega) (by omega), mo 5 (by omega) (by omega) (by omega)⟩
  have kk : CE m m' := ⟨mz 17 (by omega), mz 18 (by omega), mz 19 (by omega)⟩
  have k : ∀ o, o ≠ 53 → o ≠ 54 → o ≠ 55 → o ≠ 57 → c' o = c o := co
  have hv5 := hv.2.2.1
  have hv0 := hv.2.1
  have hl10 := hl.2.2.1
  refine ⟨VP_f hp (by rw [co 1 (by omega) (by omega) (by omega) (by omega)]) (co 2 (by omega) (by omega) (by omega) (by omega)) (mz 1 (by omega)) (mo 1 (by omega) (by omega) (by omega)), VQ_n (VQ_f hq (by rw [co 0 (by omega) (by omega) (by omega) (by omega)]) (mz 12 (by omega)) s (co 4 (by omega) (by omega) (by omega) (by omega)) (co 5 (by omega) (by omega) (by omega) (by omega)) (co 6 (by omega) (by omega) (by omega) (by omega)) (co 7 (by omega) (by omega) (by omega) (by omega)) (co 8 (by omega) (by omega) (by omega) (by omega)) (fun i _ => co _ (by omega) (by omega) (by omega) (by omega))), VB_f hv (by rw [co 0 (by omega) (by omega) (by omega) (by omega)]) (mz 15 (by omega)) s (mo 6 (by omega) (by omega) (by omega)) (fun i _ => co _ (by omega) (by omega) (by omega) (by omega)), VC_f hcc (co 41 (by omega) (by omega) (by omega) (by omega)) kk, VL_f hl (by rw [co 49 (by omega) (by omega) (by omega) (by omega)]) (co 50 (by omega) (by omega) (by omega) (by omega)) (co 51 (by omega) (by omega) (by omega) (by omega)) (co 52 (by omega) (by omega) (by omega) (by omega)) (mz 20 (by omega)) (mo 7 (by omega) (by omega) (by omega)), VD_f hd (by rw [co 0 (by omega) (by omega) (by omega) (by omega)]) (mz 40 (by omega)), ?_, VG_f hg hv5 s kk (mo 6 (by omega) (by omega) (by omega)) (mz 15 (by omega)) (co 65 (by omega) (by omega) (by omega) (by omega)) (co 66 (by omega) (by omega) (by omega) (by omega)) (fun i _ => co _ (by omega) (by omega) (by omega) (by omega))⟩
  unfold VI
  rw [m43, m44, mz 12 (by omega), c5]
  have h12 := hq.2.1
  refine Or.inr ⟨hv0, hv5, by omega, Int.le_refl _, rfl, fun _ => ?_⟩
  unfold VI2
  rw [m43, m45, m46, m47, m48, mz 15 (by omega), mz 20 (by omega), c3, c4, ck 0 (by omega), ck 1 (by omega), ck 2 (by omega), mo 7 (by omega) (by omega) (by omega)]
  refine ⟨rfl, Int.le_refl _, rfl, hl.2.1, Int.le_refl _, hcc.1, hcc.2.1, hcc.2.2.1, hcc.2.2.2, fun b hb => ?_, fun j hj => m16 j (by omega)⟩
  obtain ⟨v1, v2⟩ := hv.2.2.2 b hb
  obtain ⟨x1, x2⟩ := cb b hb
  unfold VI1
  rw [x1, x2, m15 _ (by omega), m15 _ (by omega), m15 _ (by omega), m15 _ (by omega), m15 _ (by omega), mo 6 (by omega) (by omega) (by omega)]
  exact ⟨v2.2.2.1, v2.2.2.2.1, rfl, rfl, rfl, v1.2.2.2.2.2.1, v1.2.2.2.2.2.2.1, v1.2.2.2.2.2.2.2.1, v1.2.2.2.2.2.2.2.2.1⟩
theorem VQ.z {n : Nat} {c m : Mm} (h : VQ n c m) : m 0 9 = 0 ↔ m 0 12 = 0 := by
  rcases h.2.2.2 with ⟨a, b, -⟩ | ⟨a, b, -⟩
  · rw [a, b]
  · have := b.1; omega
theorem f10_lacks {n : Nat} {σ τ : Sg} (h : VQ n (cC σ) (cM τ)) : fX10_lacks τ = some (if cM τ 0 12 = 0 then 1 else 0, τ) := by
  have b := core_b (ns := nsM) τ 0 9
  unfold fX10_lacks fX10_lacks_b0
  rw [cM_r (o := 0) (k := 9) rfl]
  by_cases q : cM τ 0 12 = 0
  · rw [if_pos q, if_pos (eqp (v := 0) (b := 0) rfl (h.z.mpr q))]
  · rw [if_neg q, if_neg (yI_nl (v := 0) (b := 0) rfl b.1 b.2 (fun e => q (h.z.mp e)))]
theorem f9_seas {n : Nat} {σ τ : Sg} (h : VQ n (cC σ) (cM τ)) (hn : n < 512) : rI σ 0 10 = yI (cM τ 0 12) ∧ 0 ≤ cM τ 0 12 ∧ cM τ 0 12 < 1000 := by
  refine ⟨by rw [cC_r (o := 0) (k := 10) rfl, h.1], h.2.1, ?_⟩
  have := h.2.2.1
  omega
