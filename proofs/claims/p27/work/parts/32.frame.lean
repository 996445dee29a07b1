/-! ===== what a write leaves as it was ===== -/
theorem up_o {m : Mm} {o k a : Nat} {x : Int} (h : a ≠ o) : up m o k x a = m a := funext fun _ => if_neg (fun q => h q.1)
def SE (m m' : Mm) : Prop := m' 0 9 = m 0 9 ∧ m' 0 10 = m 0 10 ∧ m' 0 11 = m 0 11 ∧ m' 4 = m 4 ∧ m' 5 = m 5
theorem SE.R {m m' : Mm} (h : SE m m') : qR m' = qR m := by unfold qR; rw [h.1]
theorem SE.W {m m' : Mm} (h : SE m m') : qW m' = qW m := by unfold qW; rw [h.2.1]
theorem SE.H {m m' : Mm} (h : SE m m') : qH m' = qH m := by unfold qH; rw [h.2.2.1]
theorem SE.L {m m' : Mm} (h : SE m m') : qL m' = qL m := by funext c; unfold qL; rw [h.2.2.2.1]
theorem SE.F {m m' : Mm} (h : SE m m') : qF m' = qF m := by funext c; unfold qF; rw [h.W, h.H]
theorem SE.to {m m' : Mm} (h : SE m m') : qto m' = qto m := by
  have e : qok m' = qok m := by funext c x; unfold qok; rw [h.L, h.F]
  funext c w; unfold qto; rw [h.R, h.W, e]
theorem SE.one {m m' : Mm} (h : SE m m') : qone m' = qone m := by
  funext r c w; unfold qone; rw [h.to, h.H]
theorem SE.sf {m m' : Mm} (h : SE m m') (r : Nat → List (List Nat)) (c : Nat) : ∀ k, qsf m' r c k = qsf m r c k
  | 0 => rfl
  | k + 1 => by
    show qone m' r c (3 - k) ++ qsf m' r c k = qone m r c (3 - k) ++ qsf m r c k
    rw [h.one, h.sf r c k]
theorem SE.wy {m m' : Mm} (h : SE m m') : ∀ d, qwy m' d = qwy m d
  | 0 => rfl
  | d + 1 => by
    funext c
    show qsf m' (qwy m' d) c 4 = qsf m (qwy m d) c 4
    rw [h.wy d, h.sf]
theorem SE.ws {m m' : Mm} (h : SE m m') : qws m' = qws m := by funext c; unfold qws; rw [h.F, h.wy]
theorem SE.cn {m m' : Mm} (h : SE m m') : qcn m' = qcn m := by funext c; unfold qcn; rw [h.L, h.H, h.ws]
theorem SE.nx {m m' : Mm} (h : SE m m') : qnx m' = qnx m := by funext c w; unfold qnx; rw [h.to, h.L, h.cn]
theorem SE.go {m m' : Mm} (h : SE m m') : qgo m' = qgo m := by funext c w; unfold qgo; rw [h.to]
theorem SE.st {m m' : Mm} (h : SE m m') : qst m' = qst m := by funext E c w T; unfold qst; rw [h.L, h.2.2.2.2]
theorem SE.tw {m m' : Mm} (h : SE m m') (E : QE) : ∀ l c T, qtw m' E l c T = qtw m E l c T
  | [], _, _ => rfl
  | w :: l, c, T => by
    show qtw m' E l (qgo m' c w) (qst m' E c w T) = qtw m E l (qgo m c w) (qst m E c w T)
    rw [h.go, h.st, h.tw E l]
def CE (m m' : Mm) : Prop := m' 0 17 = m 0 17 ∧ m' 0 18 = m 0 18 ∧ m' 0 19 = m 0 19
theorem SE.best {m m' : Mm} (h : SE m m') (k : CE m m') : qbest m' = qbest m := by
  funext E c T
  have e : qup m' E c T = qup m E c T := by
    funext B l; unfold qup qgain; rw [h.tw, k.1, k.2.1, k.2.2]
  unfold qbest; rw [h.ws, e]
theorem SE.bb {m m' : Mm} (h : SE m m') (k : CE m m') {b : Nat} (hb : ∀ j : Nat, j < 5 → m' 6 (5 * b + j) = m 6 (5 * b + j)) (size tugs sk : Nat) : qbb m' b size tugs sk = qbb m b size tugs sk := by
  have h0 := hb 0 (by omega)
  rw [Nat.add_zero] at h0
  unfold qbb qE qT qsq
  rw [h.best k, h0, hb 1 (by omega), hb 3 (by omega), hb 4 (by omega)]
theorem SE.g {m m' : Mm} (h : SE m m') (k : CE m m') {b : Nat} (hb : ∀ j : Nat, j < 5 → m' 6 (5 * b + j) = m 6 (5 * b + j)) (e : Nat) : qg m' b e = qg m b e := by
  unfold qg; rw [h.bb k hb]; unfold qsz; rw [hb 2 (by omega)]
theorem VP_f {c c' m m' : Mm} (h : VP c m) (h1 : c' 1 1 = c 1 1) (h2 : c' 2 = c 2) (h3 : m' 0 1 = m 0 1) (h4 : m' 1 = m 1) : VP c' m' := by
  unfold VP; rw [h1, h2, h3, h4]; exact h
theorem VS_f {m m' : Mm} (h : VS m) (s : SE m m') : VS m' := by
  unfold VS; rw [s.H, s.1, s.2.1, s.2.2.1, s.2.2.2.1, s.2.2.2.2]; exact h
theorem VS.rw {m : Mm} (h : VS m) : m 0 9 * m 0 10 ≤ 30 := by
  obtain ⟨a, b, c, d, -⟩ := h
  have e : m 0 9 * m 0 10 ≤ 5 * 6 := Int.mul_le_mul b d (by omega) (by omega)
  omega
theorem VT_f {c c' m m' : Mm} (h : VT c m) (v : VS m) (s : SE m m') (h4 : c' 4 = c 4) (h5 : c' 5 = c 5) (h6 : c' 6 = c 6) (h7 : c' 7 = c 7) (h8 : c' 8 = c 8) (hn : ∀ i, i < 30 → c' (10 + i) = c (10 + i)) : VT c' m' := by
  unfold VT
  rw [h4, h5, h6, h7, h8, s.1, s.2.1, s.2.2.1, s.2.2.2.1, s.2.2.2.2, s.F, s.cn, s.nx]
  refine ⟨h.1, h.2.1, h.2.2.1, fun i hi => ?_⟩
  have := v.rw
  rw [hn i (by omega)]
  exact h.2.2.2 i hi
theorem VQ_f {n : Nat} {c c' m m' : Mm} (h : VQ n c m) (h0 : c' 0 10 = c 0 10) (h1 : m' 0 12 = m 0 12) (s : SE m m') (h4 : c' 4 = c 4) (h5 : c' 5 = c 5) (h6 : c' 6 = c 6) (h7 : c' 7 = c 7) (h8 : c' 8 = c 8) (hn : ∀ i, i < 30 → c' (10 + i) = c (10 + i)) : VQ n c' m' := by
  unfold VQ
  rw [h0, h1]
  refine ⟨h.1, h.2.1, h.2.2.1, ?_⟩
  rcases h.2.2.2 with ⟨a, b, d, e⟩ | ⟨a, b, d⟩
  · exact Or.inl ⟨a, s.1.trans b, s.2.1.trans d, by rw [h4]; exact e⟩
  · exact Or.inr ⟨a, VS_f b s, VT_f d b s h4 h5 h6 h7 h8 hn⟩
theorem VQ_n {n : Nat} {c m : Mm} (h : VQ n c m) : VQ (n + 1) c m := ⟨h.1, h.2.1, by have := h.2.2.1; omega, h.2.2.2⟩
theorem VB1_f {m m' : Mm} {b : Nat} (h : VB1 m b) (s : SE m m') (hb : ∀ j : Nat, j < 5 → m' 6 (5 * b + j) = m 6 (5 * b + j)) : VB1 m' b := by
  have h0 := hb 0 (by omega)
  rw [Nat.add_zero] at h0
  unfold VB1 qsq
  rw [h0, hb 1 (by omega), hb 2 (by omega), hb 3 (by omega), hb 4 (by omega), s.1, s.2.1, s.2.2.2.1]
  exact h
theorem VB2_f {c c' m m' : Mm} {b : Nat} (h : VB2 c m b) (hc : c' (76 + b) = c (76 + b)) (hb : ∀ j : Nat, j < 5 → m' 6 (5 * b + j) = m 6 (5 * b + j)) : VB2 c' m' b := by
  have h0 := hb 0 (by omega)
  rw [Nat.add_zero] at h0
  unfold VB2
  rw [h0, hb 1 (by omega), hb 2 (by omega), hb 3 (by omega), hb 4 (by omega), hc]
  exact h
theorem VB_f {c c' m m' : Mm} (h : VB c m) (h0 : c' 0 9 = c 0 9) (h1 : m' 0 15 = m 0 15) (s : SE m m') (h6 : m' 6 = m 6) (hc : ∀ b, b < 5 → c' (76 + b) = c (76 + b)) : VB c' m' := by
  unfold VB
  rw [h0, h1]
  refine ⟨h.1, h.2.1, h.2.2.1, fun b hb => ?_⟩
  have h5 := h.2.2.1
  exact ⟨VB1_f (h.2.2.2 b hb).1 s (fun j _ => by rw [h6]), VB2_f (h.2.2.2 b hb).2 (hc b (by omega)) (fun j _ => by rw [h6])⟩
theorem VC_f {c c' m m' : Mm} (h : VC c m) (h0 : c' 41 = c 41) (k : CE m m') : VC c' m' := by
  unfold VC; rw [h0, k.1, k.2.1, k.2.2]; exact h
theorem VL_f {c c' m m' : Mm} (h : VL c m) (h0 : c' 49 3 = c 49 3) (h1 : c' 50 = c 50) (h2 : c' 51 = c 51) (h3 : c' 52 = c 52) (h4 : m' 0 20 = m 0 20) (h5 : m' 7 = m 7) : VL c' m' := by
  unfold VL VL1; rw [h0, h1, h2, h3, h4, h5]; exact h
theorem VD_f {c c' m m' : Mm} (h : VD c m) (h0 : c' 0 11 = c 0 11) (h1 : m' 0 40 = m 0 40) : VD c' m' := by
  unfold VD; rw [h0, h1]; exact h
theorem VI_f {c c' m m' : Mm} (h : VI c m) (h0 : c' 53 = c 53) (h1 : c' 54 = c 54) (h2 : c' 55 = c 55) (h3 : c' 57 = c 57) (h4 : ∀ k, 43 ≤ k → k ≤ 48 → m' 0 k = m 0 k) (h5 : m' 0 12 = m 0 12) (h6 : m' 0 15 = m 0 15) (h7 : m' 0 20 = m 0 20) (h8 : m' 15 = m 15) (h9 : m' 16 = m 16) (h10 : m' 6 = m 6) (h11 : m' 7 = m 7) : VI c' m' := by
  unfold VI VI2 VI1
  rw [h0, h1, h2, h3, h4 43 (by omega) (by omega), h4 44 (by omega) (by omega), h4 45 (by omega) (by omega), h4 46 (by omega) (by omega), h4 47 (by omega) (by omega), h4 48 (by omega) (by omega), h5, h6, h7, h8, h9, h10, h11]
  exact h
theorem VG1_f {c c' m m' : Mm} {b : Nat} (h : VG1 c m b) (s : SE m m') (k : CE m m') (hb : ∀ j : Nat, j < 5 → m' 6 (5 * b + j) = m 6 (5 * b + j)) (h0 : c' 66 b = c 66 b) (h1 : c' (60 + b) = c (60 + b)) : VG1 c' m' b := by
  unfold VG1 qsq
  rw [h0, h1, s.cn, hb 1 (by omega)]
  exact ⟨h.1, fun hn e h2 h3 => by rw [s.g k hb]; exact h.2 hn e h2 h3⟩
theorem VG_f {c c' m m' : Mm} (h : VG c m) (h5 : m 0 15 ≤ 5) (s : SE m m') (k : CE m m') (h6 : m' 6 = m 6) (h7 : m' 0 15 = m 0 15) (h0 : c' 65 = c 65) (h1 : c' 66 = c 66) (h2 : ∀ b, b < 5 → c' (60 + b) = c (60 + b)) : VG c' m' := fun b hb hn => by
  rw [h7] at hb
  rw [h0] at hn
  exact VG1_f (h b hb hn) s k (fun j _ => by rw [h6]) (by rw [h1]) (h2 b (by omega))
theorem SE_r (m : Mm) : SE m m := ⟨rfl, rfl, rfl, rfl, rfl⟩
theorem CE_r (m : Mm) : CE m m := ⟨rfl, rfl, rfl⟩
/-! the two least calls -/
theorem f9_isBerg {σ : Sg} {a B : Int} (h1 : -2147483648 ≤ a) (h2 : a < 2147483648) (hB : rI σ 0 9 = yI B) (h3 : 0 ≤ B) (h4 : B ≤ 5) : fX9_isBerg (yI a) σ = some (if 0 ≤ a ∧ a < B then 1 else 0, σ) := by
  simp (disch := omega) only [fX9_isBerg, fX9_isBerg_b0, hB, yI_0, yI_lt, yI_le]
  by_cases h : a < 0
  · rw [if_pos h, if_neg (by omega)]
  · rw [if_neg h]
    by_cases k : B ≤ a
    · rw [if_pos k, if_neg (by omega)]
    · rw [if_neg k, if_pos (by omega)]
