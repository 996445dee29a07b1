/-! ===== the model's layWays: the best way; how many ways ===== -/
theorem TT_9 {d : Nat} (h : d ≤ 9) : TT d ≤ 436905 := by
  rcases (show d = 0 ∨ d = 1 ∨ d = 2 ∨ d = 3 ∨ d = 4 ∨ d = 5 ∨ d = 6 ∨ d = 7 ∨ d = 8 ∨ d = 9 by omega) with rfl | rfl | rfl | rfl | rfl | rfl | rfl | rfl | rfl | rfl <;> decide
/-- what a tow leaves as it was, at the model's -/
def mT (τ τ' : Sg) : Prop := ∀ o j, o ≠ 8 → o ≠ 9 → o ≠ 10 → ¬ (o = 0 ∧ 22 ≤ j ∧ j ≤ 37) → rI τ' o j = rI τ o j
theorem mT_r (τ : Sg) : mT τ τ := fun _ _ _ _ _ _ => rfl
theorem mT_t {a b c : Sg} (h : mT a b) (k : mT b c) : mT a c := fun o j a b c d => by rw [k o j a b c d, h o j a b c d]
theorem mT_core {τ τ' : Sg} (h : mT τ τ') : cM τ' = cM τ := funext fun a => funext fun b => by
  by_cases e : a = 8 ∨ a = 9 ∨ a = 10 ∨ (a = 0 ∧ 22 ≤ b ∧ b ≤ 37)
  · have hn : ¬ nsM a b = true := by
      rcases e with rfl | rfl | rfl | ⟨rfl, e1, e2⟩
      · unfold nsM; simp
      · unfold nsM; simp
      · unfold nsM; simp
      · unfold nsM
        have x1 : (b == 1) = false := beq_false_of_ne (by omega)
        have x2 : decide (b ≤ 20) = false := decide_eq_false (by omega)
        have x3 : decide (40 ≤ b) = false := decide_eq_false (by omega)
        rw [x1, x2, x3, Bool.and_false, Bool.false_and]
        decide
    show core nsM τ' a b = core nsM τ a b
    unfold core
    rw [if_neg hn, if_neg hn]
  · exact core_e (h a b (by omega) (by omega) (by omega) (by omega))
theorem f10_lay {β : Type} {m : Mm} {c0 b : Nat} {x2 x3 x4 : Int32} {I : β → Sg → Prop} {u : β → List Nat → β} {κ : β → Nat} {M : Nat} {τ : Sg} {b0 : β} (v : VS m) (wi : WY m c0 (yI (b : Int)) x2 x3 x4 I u κ M) (hb : b < 5) (h6 : rI τ 6 (5 * b + 1) = yI (c0 : Int)) (hc : c0 < qR m * qW m) (hH : c0 ≠ qH m) (hk : κ b0 + (qws m c0).length ≤ M) (hi : I b0 (wI (wI (wI (wI τ 0 37 0) 0 29 (-1)) 9 0 (yI (c0 : Int))) 8 0 (-1))) : ∃ τ', fX10_layWays (yI (b : Int)) x2 x3 x4 τ = some τ' ∧ I ((qws m c0).foldl u b0) τ' := by
  have f9 := q9 v hc
  have f1 : 1 ≤ qF m c0 := by
    by_cases z : qF m c0 = 0
    · exact absurd (qF_0 v z) hH
    · omega
  obtain ⟨K, τ', r1, r2, r3, -⟩ := f10_walk v wi (qF m c0) [] c0 b0 (wI (wI (wI (wI τ 0 37 0) 0 29 (-1)) 9 0 (yI (c0 : Int))) 8 0 (-1)) trivial rfl hc f1 rfl (by show 0 + qF m c0 ≤ 9; omega) (by show rI _ 9 0 = _; rw [rI_o (by omega), rI_s]) (by show rI _ 8 0 = _; rw [rI_s]; rfl) hk hi
  have e : (qwy m (qF m c0) c0).map (([] : List Nat) ++ ·) = qws m c0 := List.map_id' _
  rw [e] at r3
  have K9 := TT_9 f9
  refine ⟨τ', ?_, r3⟩
  unfold fX10_layWays fX10_layWays_b0
  simp (disch := omega) only [mul5, add1, yI_cln, rI_o, h6]
  rw [if_pos (inb_n (by omega) (by omega))]
  have hf : FU = (FU - K - 1 + 1) + K := by
    have : 500000 ≤ FU := by decide
    omega
  have run := r2 (FU - K - 1 + 1)
  rw [← hf] at run
  refine b1 (run.trans (lp_en ?_))
  show fX10_layWays_b36 _ _ _ _ (yI ((0 : Nat) - 1 : Int)) τ' = _
  unfold fX10_layWays_b36
  rw [if_pos (show yI ((0 : Nat) - 1 : Int) < 0 by decide)]
theorem VB1_q {m : Mm} {b : Nat} (v : VS m) (h : VB1 m b) : m 6 (5 * b) = ((m 6 (5 * b)).toNat : Int) ∧ m 6 (5 * b + 1) = (qsq m b : Int) ∧ m 6 (5 * b + 2) = (qsz m b : Int) ∧ m 6 (5 * b + 3) = ((m 6 (5 * b + 3)).toNat : Int) ∧ m 6 (5 * b + 4) = ((m 6 (5 * b + 4)).toNat : Int) ∧ qsz m b ≤ 999 ∧ (m 6 (5 * b + 3)).toNat ≤ 99 ∧ qsq m b < qR m * qW m ∧ qL m (qsq m b) ≤ 9 ∧ qsq m b ≠ qH m := by
  obtain ⟨h1, h2, h3, h4, h5, h6, h7, h8, h9, h10, h11⟩ := h
  rw [v.RW] at h4
  have e4 : 0 ≤ m 6 (5 * b + 4) := by
    by_cases q : m 6 (5 * b) = 2
    · have := h10 q; omega
    · have := h11 q; omega
  have es : qsq m b < qR m * qW m := by unfold qsq; omega
  have el := qL_b v es
  refine ⟨by omega, by unfold qsq; omega, by unfold qsz; omega, by omega, by omega, by unfold qsz; omega, by omega, es, by omega, fun q => ?_⟩
  have := qL_H v
  rw [← q] at this
  omega
theorem qE_b {m : Mm} {b tugs sk dr : Nat} (h : VB1 m b) (t1 : 1 ≤ tugs) (t11 : tugs ≤ 11) (s1 : sk ≤ 1) (d1 : dr ≤ 1) : EB (qE m b tugs sk dr) := by
  obtain ⟨h1, h2, h3, h4, h5, h6, h7, h8, h9, h10, h11⟩ := h
  unfold qE EB
  dsimp only
  refine ⟨by omega, fun q => ?_, ?_, t1, t11, s1, d1⟩
  · have := h10 (by omega); omega
  · by_cases q : m 6 (5 * b) = 2
    · have := h10 q; omega
    · have := h11 q; omega
theorem ws_b {m : Mm} (v : VS m) {c : Nat} (hc : c < qR m * qW m) (h11 : qL m c ≤ 9) (hH : c ≠ qH m) : (qws m c).length = qcn m c ∧ (qws m c).length ≤ 262144 := by
  have e : qcn m c = (qws m c).length := by unfold qcn; rw [if_neg (by omega), if_neg hH]
  have := qcn_b v hc
  omega
theorem qup_1 {m : Mm} {E : QE} {c : Nat} {T : QT} (B : QB) (l : List Nat) : (qup m E c T B l).1 = B.1 + 1 := by
  unfold qup
  dsimp only
  by_cases q : B.1 = 0 ∨ B.2.1 < qgain m E.2.2.1 E.2.2.2.1 (qtw m E l c T).1 (qtw m E l c T).2.2.1 ∨ (qgain m E.2.2.1 E.2.2.2.1 (qtw m E l c T).1 (qtw m E l c T).2.2.1 = B.2.1 ∧ (qtw m E l c T).2.2.1 < B.2.2.1)
  · rw [if_pos q]
  · rw [if_neg q]
theorem f10_lay_t {τ : Sg} {m : Mm} {b size tugs sk : Nat} (v : VS m) (gm : GM τ m) (gc : GC τ m) (hb : b < 5) (w : VB1 m b) (h6 : ∀ j, j < 5 → rI τ 6 (5 * b + j) = yI (m 6 (5 * b + j))) (hs : size ≤ 999) (t1 : 1 ≤ tugs) (t11 : tugs ≤ 11) (s1 : sk ≤ 1) : ∃ τ', fX10_layWays (yI (b : Int)) (yI (size : Int)) (yI (tugs : Int)) (yI (sk : Int)) τ = some τ' ∧ BM τ' (qbb m b size tugs sk) ∧ BB (qbb m b size tugs sk) ∧ mT τ τ' ∧ (qbb m b size tugs sk).1 = (qws m (qsq m b)).length := by
  obtain ⟨w0, w1, w2, w3, w4, w5, w6, w7, w8, w9⟩ := VB1_q v w
  have eb := qE_b (tugs := tugs) (sk := sk) (dr := 0) w t1 t11 s1 (by omega)
  have tb : TB (qT m b size 0) := ⟨hs, w6, by show size + 0 ≤ 999; omega, by show 0 < 2147483648; omega⟩
  have e6 := h6 0 (by omega)
  rw [Nat.add_zero] at e6
  obtain ⟨lw, l2⟩ := ws_b v w7 w8 w9
  have wi : WY m (qsq m b) (yI (b : Int)) (yI (size : Int)) (yI (tugs : Int)) (yI (sk : Int)) (fun B t => BM t B ∧ BB B ∧ rI t 0 29 = yI (-1) ∧ mT τ t) (qup m (qE m b tugs sk 0) (qsq m b) (qT m b size 0)) (fun B => B.1) 300000 := by
    refine ⟨fun B t t' hI f => ?_, fun B t hI => ?_, qup_1, fun B t l hk hI pl l9 => ?_⟩
    · obtain ⟨i1, i2, i3, i4⟩ := hI
      exact ⟨BM_f i1 (fun j _ _ => f 0 j (by omega) (by omega)) (fun j => f 10 j (by omega) (by omega)), i2, by rw [f 0 29 (by omega) (by omega), i3], fun o j a b c d => by rw [f o j a b, i4 o j a b c d]⟩
    · obtain ⟨i1, i2, i3, i4⟩ := hI
      exact GM_f gm (fun o j q => i4 o j (by omega) (by omega) (by omega) (by omega))
    · obtain ⟨i1, i2, i3, i4⟩ := hI
      have gm2 : GM t m := GM_f gm (fun o j q => i4 o j (by omega) (by omega) (by omega) (by omega))
      have gc2 : GC t m := ⟨by rw [i4 0 17 (by omega) (by omega) (by omega) (by omega), gc.1], by rw [i4 0 18 (by omega) (by omega) (by omega) (by omega), gc.2.1], by rw [i4 0 19 (by omega) (by omega) (by omega) (by omega), gc.2.2.1], gc.2.2.2⟩
      have br : BR t b (qE m b tugs sk 0) (qT m b size 0).2.1 := by
        refine ⟨?_, ?_, ?_⟩
        · rw [i4 6 _ (by omega) (by omega) (by omega) (by omega), e6, w0]; rfl
        · rw [i4 6 _ (by omega) (by omega) (by omega) (by omega), h6 3 (by omega), w3]; rfl
        · rw [i4 6 _ (by omega) (by omega) (by omega) (by omega), h6 4 (by omega), w4]; rfl
      obtain ⟨t', r1, r2, r3, r4, r5⟩ := f10_tryWay (T := qT m b size 0) v gm2 gc2 hb br eb rfl tb rfl i3 pl l9 i1 i2 (by have : B.1 < 300000 := hk; omega)
      refine ⟨t', r1, ⟨r2, r3, r4, fun o j a b c d => by rw [r5 o j c (by omega), i4 o j a b c d]⟩, fun j => ⟨r5 8 j (by omega) (by omega), r5 9 j (by omega) (by omega)⟩⟩
  obtain ⟨τ', r1, r2, r3, r4, r5⟩ := f10_lay (τ := τ) (b0 := qB0) v wi hb (by rw [h6 1 (by omega), w1]) w7 w9 (by show 0 + _ ≤ _; omega) ⟨⟨by rw [rI_o (by omega), rI_o (by omega), rI_k (by omega), rI_s]; rfl, fun q => absurd rfl q⟩, fun q => absurd rfl q, by rw [rI_o (by omega), rI_o (by omega), rI_s]; rfl, fun o j a b c d => by rw [rI_o a, rI_o b, rI_wI, if_neg (by omega), rI_wI, if_neg (by omega)]⟩
  refine ⟨τ', r1, r2, r3, r5, ?_⟩
  show ((qws m (qsq m b)).foldl _ qB0).1 = _
  have := k_fold (κ := fun B : QB => B.1) (qup_1 (m := m) (E := qE m b tugs sk 0) (c := qsq m b) (T := qT m b size 0)) (qws m (qsq m b)) qB0
  rw [this]
  exact Nat.zero_add _
theorem f10_lay_0 {τ : Sg} {m : Mm} {b : Nat} (v : VS m) (gm : GM τ m) (hb : b < 5) (w : VB1 m b) (h6 : ∀ j, j < 5 → rI τ 6 (5 * b + j) = yI (m 6 (5 * b + j))) (x2 x4 : Int32) : ∃ τ', fX10_layWays (yI (b : Int)) x2 0 x4 τ = some τ' ∧ rI τ' 0 37 = yI ((qws m (qsq m b)).length : Int) ∧ mT τ τ' := by
  obtain ⟨w0, w1, w2, w3, w4, w5, w6, w7, w8, w9⟩ := VB1_q v w
  obtain ⟨lw, l2⟩ := ws_b v w7 w8 w9
  have wi : WY m (qsq m b) (yI (b : Int)) x2 0 x4 (fun (N : Nat) t => rI t 0 37 = yI (N : Int) ∧ mT τ t) (fun N _ => N + 1) (fun N : Nat => N) 300000 := by
    refine ⟨fun B t t' hI f => ⟨by rw [f 0 37 (by omega) (by omega), hI.1], fun o j a b c d => by rw [f o j a b, hI.2 o j a b c d]⟩, fun B t hI => GM_f gm (fun o j q => hI.2 o j (by omega) (by omega) (by omega) (by omega)), fun _ _ => rfl, fun B t l hk hI pl l9 => ?_⟩
    exact ⟨_, f10_try0 hI.1, ⟨rI_s, fun o j a b c d => by rw [rI_wI, if_neg (by omega), hI.2 o j a b c d]⟩, fun j => ⟨by rw [rI_o (by omega)], by rw [rI_o (by omega)]⟩⟩
  obtain ⟨τ', r1, r2, r3⟩ := f10_lay (τ := τ) (b0 := (0 : Nat)) v wi hb (by rw [h6 1 (by omega), w1]) w7 w9 (by show 0 + _ ≤ _; omega) ⟨by rw [rI_o (by omega), rI_o (by omega), rI_k (by omega), rI_s]; rfl, fun o j a b c d => by rw [rI_o a, rI_o b, rI_wI, if_neg (by omega), rI_wI, if_neg (by omega)]⟩
  refine ⟨τ', r1, ?_, r3⟩
  have := k_fold (κ := fun N : Nat => N) (u := fun N (_ : List Nat) => N + 1) (fun _ _ => rfl) (qws m (qsq m b)) 0
  rw [r2]
  congr 2
  exact this.trans (Nat.zero_add _)
