/-! ===== restore ===== -/
theorem IV_restore {n : Nat} {c c' m m' : Mm} (h : IV n c m) (q1 : 0 ≤ m 0 43) (q2 : m 0 44 = m 0 12) (hc : ∀ o j, o ≠ 41 → ¬ (o = 49 ∧ j = 3) → o ≠ 65 → ¬ (o = 0 ∧ j = 9) → ¬ (76 ≤ o ∧ (j = 2 ∨ j = 3)) → c' o j = c o j) (cb : ∀ b : Nat, (b : Int) < m 0 43 → c' (76 + b) 2 = c 54 b ∧ c' (76 + b) 3 = c 55 b) (ck : ∀ j : Nat, j < 3 → c' 41 j = c 57 j) (c49 : c' 49 3 = m 0 48) (c65 : ∀ b : Nat, b < 5 → c' 65 b = 0) (c9 : c' 0 9 = m 0 43) (hm : ∀ o j, o ≠ 6 → o ≠ 7 → ¬ (o = 0 ∧ 15 ≤ j ∧ j ≤ 20) → m' o j = m o j) (m6 : ∀ j : Nat, j < 25 → m' 6 j = m 15 j) (m7 : ∀ j : Nat, j < 30 → m' 7 j = m 16 j) (m15 : m' 0 15 = m 0 43) (m17 : m' 0 17 = m 0 45) (m18 : m' 0 18 = m 0 46) (m19 : m' 0 19 = m 0 47) (m20 : m' 0 20 = m 0 48) : IV (n + 1) c' m' := by
  obtain ⟨hp, hq, hv, hcc, hl, hd, hi, hg⟩ := h
  rcases hi with ⟨i1, -⟩ | ⟨i1, i2, i3, i4, i5, i6⟩
  · omega
  obtain ⟨w1, w2, w3, w4, w5, w6, w7, w8, w9, w10, w11⟩ := i6 q2
  have mo : ∀ o, o ≠ 0 → o ≠ 6 → o ≠ 7 → m' o = m o := fun o h0 h1 h2 => funext fun k => hm o k h1 h2 (by omega)
  have mz : ∀ k, ¬ (15 ≤ k ∧ k ≤ 20) → m' 0 k = m 0 k := fun k h => hm 0 k (by omega) (by omega) (by omega)
  have co : ∀ o, o ≠ 0 → o ≠ 41 → o ≠ 49 → o ≠ 65 → o < 76 → c' o = c o := fun o h1 h2 h3 h4 h5 => funext fun k => hc o k h2 (by omega) h4 (by omega) (by omega)
  have cz : ∀ k, k ≠ 9 → c' 0 k = c 0 k := fun k h => hc 0 k (by omega) (by omega) (by omega) (by omega) (by omega)
  have s : SE m m' := ⟨mz 9 (by omega), mz 10 (by omega), mz 11 (by omega), mo 4 (by omega) (by omega) (by omega), mo 5 (by omega) (by omega) (by omega)⟩
  have hv5 := hv.2.2.1
  have hl10 := hl.2.2.1
  refine ⟨VP_f hp (by rw [co 1 (by omega) (by omega) (by omega) (by omega) (by omega)]) (co 2 (by omega) (by omega) (by omega) (by omega) (by omega)) (mz 1 (by omega)) (mo 1 (by omega) (by omega) (by omega)), VQ_n (VQ_f hq (cz 10 (by omega)) (mz 12 (by omega)) s (co 4 (by omega) (by omega) (by omega) (by omega) (by omega)) (co 5 (by omega) (by omega) (by omega) (by omega) (by omega)) (co 6 (by omega) (by omega) (by omega) (by omega) (by omega)) (co 7 (by omega) (by omega) (by omega) (by omega) (by omega)) (co 8 (by omega) (by omega) (by omega) (by omega) (by omega)) (fun i _ => co _ (by omega) (by omega) (by omega) (by omega) (by omega))), ⟨c9.trans m15.symm, by rw [m15]; exact i1, by rw [m15]; exact i2, fun b hb => ?_⟩, ⟨(ck 0 (by omega)).trans (w6.trans m17.symm), (ck 1 (by omega)).trans (w7.trans m18.symm), (ck 2 (by omega)).trans (w8.trans m19.symm), by rw [m17, m18, m19]; exact w9⟩, ⟨c49.trans m20.symm, by rw [m20]; exact w4, by rw [m20]; omega, fun k hk => ?_⟩, VD_f hd (cz 11 (by omega)) (mz 40 (by omega)), ?_, VG_0 (by rw [m15]; exact i2) c65⟩
  · rw [m15] at hb
    obtain ⟨v1, v2⟩ := hv.2.2.2 b (by omega)
    obtain ⟨x1, x2, x3, x4, x5, x6, x7, x8, x9⟩ := w10 b hb
    obtain ⟨y1, y2⟩ := cb b hb
    obtain ⟨a1, a2, a3, a4, a5, a6, a7, a8, a9, a10, a11⟩ := v1
    obtain ⟨d1, d2, d3, d4, d5, d6⟩ := v2
    have n0 : m' 6 (5 * b) = m 6 (5 * b) := (m6 _ (by omega)).trans x3
    have n1 : m' 6 (5 * b + 1) = m 6 (5 * b + 1) := (m6 _ (by omega)).trans x4
    have n4 : m' 6 (5 * b + 4) = m 6 (5 * b + 4) := (m6 _ (by omega)).trans x5
    have n2 : m' 6 (5 * b + 2) = m 15 (5 * b + 2) := m6 _ (by omega)
    have n3 : m' 6 (5 * b + 3) = m 15 (5 * b + 3) := m6 _ (by omega)
    have cs : ∀ j, j ≠ 2 → j ≠ 3 → c' (76 + b) j = c (76 + b) j := fun j j2 j3 => hc _ _ (by omega) (by omega) (by omega) (by omega) (by omega)
    constructor
    · unfold VB1 qsq
      rw [n0, n1, n2, n3, n4, s.1, s.2.1, s.2.2.2.1]
      exact ⟨a1, a2, a3, a4, a5, x6, x7, x8, x9, a10, a11⟩
    · unfold VB2
      rw [n0, n1, n2, n3, n4, y1, y2, cs 0 (by omega) (by omega), cs 1 (by omega) (by omega), cs 4 (by omega) (by omega), cs 5 (by omega) (by omega)]
      exact ⟨d1, d2, x1, x2, d5, d6⟩
  · rw [m20] at hk
    obtain ⟨a1, a2, a3, a4⟩ := hl.2.2.2 k (by omega)
    have e : ∀ j : Nat, j < 3 → m' 7 (3 * k + j) = m 7 (3 * k + j) := fun j hj => (m7 _ (by omega)).trans (w11 _ (by omega))
    have e0 := e 0 (by omega)
    rw [Nat.add_zero] at e0
    unfold VL1
    rw [e0, e 1 (by omega), e 2 (by omega), co 50 (by omega) (by omega) (by omega) (by omega) (by omega), co 51 (by omega) (by omega) (by omega) (by omega) (by omega), co 52 (by omega) (by omega) (by omega) (by omega) (by omega)]
    exact ⟨a1, a2, a3, a4⟩
  · unfold VI
    rw [mz 43 (by omega), mz 44 (by omega), mz 12 (by omega), co 53 (by omega) (by omega) (by omega) (by omega) (by omega)]
    refine Or.inr ⟨i1, i2, i3, i4, i5, fun _ => ?_⟩
    unfold VI2
    rw [mz 43 (by omega), m15, mz 48 (by omega), m20, mz 45 (by omega), mz 46 (by omega), mz 47 (by omega), co 53 (by omega) (by omega) (by omega) (by omega) (by omega), co 57 (by omega) (by omega) (by omega) (by omega) (by omega), mo 16 (by omega) (by omega) (by omega)]
    refine ⟨w1, Int.le_refl _, w3, w4, Int.le_refl _, w6, w7, w8, w9, fun b hb => ?_, fun k hk => (m7 k (by omega)).symm⟩
    obtain ⟨x1, x2, x3, x4, x5, x6, x7, x8, x9⟩ := w10 b hb
    unfold VI1
    rw [mo 15 (by omega) (by omega) (by omega), co 54 (by omega) (by omega) (by omega) (by omega) (by omega), co 55 (by omega) (by omega) (by omega) (by omega) (by omega)]
    exact ⟨x1, x2, (m6 _ (by omega)).symm, (m6 _ (by omega)).symm, (m6 _ (by omega)).symm, x6, x7, x8, x9⟩
