/-! ===== what the class answers, the shadow of its state held fast ===== -/
theorem Inv_k {n : Nat} {σ σ' τ : Sg} (h : Inv n σ τ) (k : kT σ σ') : Inv n σ' τ := Inv_kT h k (mT_r τ)
theorem Inv_c {n : Nat} {σ τ τ' : Sg} (h : Inv n σ τ') (e : cM τ' = cM τ) : Inv n σ τ := by
  unfold Inv at h ⊢
  rw [← e]; exact h
theorem a_has {n : Nat} {σ τ : Sg} (h : Inv n σ τ) {a : Int} (h1 : -2147483648 ≤ a) (h2 : a < 2147483648) : fX7_has (yI a) σ = some (if 0 ≤ a ∧ a < cM τ 0 9 * cM τ 0 10 then 1 else 0, σ) := by
  have hS := h.2.1.S
  exact f7_has h1 h2 (by rw [cC_r (o := 4) (k := 5) rfl, hS.1]) hS.2.1 hS.2.2
theorem a_square {n : Nat} {σ τ : Sg} (h : Inv n σ τ) {c : Nat} (hc : (c : Int) < cM τ 0 9 * cM τ 0 10) : fX9_square (yI (c : Int)) (0 : Int32) σ = some (yI (cM τ 4 c), σ) ∧ fX9_square (yI (c : Int)) (1 : Int32) σ = some (yI (cM τ 5 c), σ) ∧ fX9_square (yI (c : Int)) (2 : Int32) σ = some (yI (qF (cM τ) c : Int), σ) ∧ fX9_square (yI (c : Int)) (3 : Int32) σ = some (-102, σ) := by
  have hq := h.2.1
  obtain ⟨vs, vt⟩ := hq.sea (by omega)
  have h30 := vs.rw
  obtain ⟨e5, e6, e7, -⟩ := vt.2.2.2 c hc
  have i1 : inb (yI (c : Int)) 30 = true := inb_n (by omega) (by omega)
  have i2 : (yI (c : Int)).toNatClampNeg = c := yI_cln (by omega)
  have r5 : rI σ 5 c = yI (cM τ 4 c) := by rw [cC_r (o := 5) (k := c) rfl, e5]
  have r6 : rI σ 6 c = yI (cM τ 5 c) := by rw [cC_r (o := 6) (k := c) rfl, e6]
  have r7 : rI σ 7 c = yI (qF (cM τ) c : Int) := by rw [cC_r (o := 7) (k := c) rfl, e7]
  have g := a_has h (a := (c : Int)) (by omega) (by omega)
  have hP : 0 ≤ (c : Int) ∧ (c : Int) < cM τ 0 9 * cM τ 0 10 := ⟨by omega, hc⟩
  unfold fX9_square fX9_square_b0
  refine ⟨?_, ?_, ?_, ?_⟩
  · rw [bt g hP]; dsimp only; rw [if_pos rfl, if_pos i1, i2, r5]
  · rw [bt g hP]; dsimp only; rw [if_neg (show ¬ (1 : Int32) = 0 by decide), if_pos rfl, if_pos i1, i2, r6]
  · rw [bt g hP]; dsimp only; rw [if_neg (show ¬ (2 : Int32) = 0 by decide), if_neg (show ¬ (2 : Int32) = 1 by decide), if_pos rfl, if_pos i1, i2, r7]
  · rw [bt g hP]; dsimp only; rw [if_neg (show ¬ (3 : Int32) = 0 by decide), if_neg (show ¬ (3 : Int32) = 1 by decide), if_neg (show ¬ (3 : Int32) = 2 by decide)]
theorem a_square_no {n : Nat} {σ τ : Sg} (h : Inv n σ τ) {a : Int} (h1 : -2147483648 ≤ a) (h2 : a < 2147483648) (hc : cM τ 0 9 * cM τ 0 10 ≤ a) : fX9_square (yI a) (0 : Int32) σ = some (-101, σ) := by
  unfold fX9_square fX9_square_b0
  rw [bf (a_has h h1 h2) (by omega)]
theorem a_isBerg {n : Nat} {σ τ : Sg} (h : Inv n σ τ) {a : Int} (h1 : -2147483648 ≤ a) (h2 : a < 2147483648) : fX9_isBerg (yI a) σ = some (if 0 ≤ a ∧ a < cM τ 0 15 then 1 else 0, σ) := f9_isBerg h1 h2 h.2.2.1.e.1 h.2.2.1.2.1 h.2.2.1.2.2.1
theorem a_as {n : Nat} {σ τ : Sg} (h : Inv n σ τ) {b w : Nat} (hb : (b : Int) < cM τ 0 15) (hw : w ≤ 4) : fX9_as (yI (b : Int)) (yI (w : Int)) σ = some (if (w : Int) = 0 ∨ (w : Int) = cM τ 6 (5 * b) ∨ ((w : Int) = 1 ∧ cM τ 6 (5 * b) = 4) then yI (b : Int) else -1, σ) := by
  have hv := h.2.2.1
  have h5 := hv.2.2.1
  have g1 := a_isBerg h (a := (b : Int)) (by omega) (by omega)
  have g4 := f9_isKind (σ := σ) (a := (w : Int)) (by omega) (by omega)
  obtain ⟨r0, -⟩ := hv.r hb
  obtain ⟨v1, v2⟩ := hv.2.2.2 b hb
  have e5 : rI σ (76 + b) 5 = yI (if cM τ 6 (5 * b) = 1 ∨ cM τ 6 (5 * b) = 4 then 1 else 0) := by rw [cC_r (nsC_hi (by omega)), v2.2.2.2.2.2]
  have e0 : rI τ 6 (5 * b) = yI (cM τ 6 (5 * b)) := cM_r rfl
  have hA : fX0_isA (76 + b) (yI (w : Int)) σ = some (if (w : Int) = 0 ∨ (w : Int) = cM τ 6 (5 * b) ∨ ((w : Int) = 1 ∧ cM τ 6 (5 * b) = 4) then 1 else 0, σ) := by
    have z0 := v1.1
    have z4 := v1.2.1
    unfold fX0_isA fX0_isA_b0 fX0_isA_b24
    rw [r0, e0, e5]
    generalize cM τ 6 (5 * b) = k at *
    by_cases q0 : (w : Int) = 0
    · rw [if_pos (by rw [q0]; rfl), if_pos (Or.inl q0)]
    · rw [if_neg (yI_ne0 (by omega) (by omega) q0)]
      by_cases q1 : (w : Int) = k
      · rw [if_pos (by rw [q1]), if_pos (Or.inr (Or.inl q1))]
      · rw [if_neg (fun q => q1 (yI_inj (by omega) (by omega) (by omega) (by omega) q))]
        by_cases q2 : (w : Int) = 1
        · rw [if_pos (by rw [q2]; rfl)]
          by_cases q3 : k = 4
          · rw [if_pos (Or.inr q3), if_neg (by decide), if_pos (Or.inr (Or.inr ⟨q2, q3⟩))]
          · rw [if_neg (c := k = 1 ∨ k = 4) (by omega), if_pos (show yI 0 = 0 from rfl), if_neg (by omega)]
        · rw [if_neg (yI_nl (v := 1) (b := 1) rfl (by omega) (by omega) q2), if_neg (by omega)]
  unfold fX9_as fX9_as_b0
  rw [bt g1 ⟨by omega, hb⟩]
  dsimp only
  rw [bt g4 ⟨by omega, by omega⟩]
  dsimp only
  rw [if_pos (inb_n (by omega) (by omega)), yI_cln (by omega)]
  by_cases q : (w : Int) = 0 ∨ (w : Int) = cM τ 6 (5 * b) ∨ ((w : Int) = 1 ∧ cM τ 6 (5 * b) = 4)
  · rw [bt hA q, if_pos q]
  · rw [bf hA q, if_neg q]
theorem a_ways {n : Nat} {σ τ : Sg} (h : Inv n σ τ) {b : Nat} (hb : (b : Int) < cM τ 0 15) : fX9_ways (yI (b : Int)) σ = some (yI (qcn (cM τ) (qsq (cM τ) b) : Int), σ) := by
  obtain ⟨b5, s⟩ := Inv_b h hb
  exact f9_waysOf b5 s (P := 0 ≤ (b : Int) ∧ (b : Int) < cM τ 0 15) ⟨by omega, hb⟩ (a_isBerg h (by omega) (by omega))
theorem a_best {n : Nat} {σ τ : Sg} (h : Inv n σ τ) {b w : Nat} (hb : (b : Int) < cM τ 0 15) (hw : w ≤ 2) : ∃ σ', fX9_best (yI (b : Int)) (yI (w : Int)) σ = some (yI (if qcn (cM τ) (qsq (cM τ) b) = 0 then -100001 else tellB (qg (cM τ) b) w), σ') ∧ Inv n σ' τ := by
  obtain ⟨b5, s⟩ := Inv_b h hb
  obtain ⟨r, σ', τ', u1, u2, u3, u4, -⟩ := best_eq h hb hw (P := 0 ≤ (b : Int) ∧ (b : Int) < cM τ 0 15) ⟨by omega, hb⟩ (a_isBerg h (by omega) (by omega))
  obtain ⟨τ2, v1, v2⟩ := f10_tellBest b5 s hw
  rw [u2] at v1
  have e := congrArg Prod.fst (Option.some.inj v1)
  have e' : r = yI (if qcn (cM τ) (qsq (cM τ) b) = 0 then -100001 else tellB (qg (cM τ) b) w) := e
  exact ⟨σ', by rw [u1, e'], Inv_c u3 u4⟩
theorem a_tow {n : Nat} {σ τ : Sg} (h : Inv n σ τ) {b t sk w : Nat} (hb : (b : Int) < cM τ 0 15) (t1 : 1 ≤ t) (t11 : t ≤ 11) (s1 : sk ≤ 1) (hw : w ≤ 3 ∨ (10 ≤ w ∧ w ≤ 18)) : ∃ σ', fX9_tow (yI (b : Int)) (yI (t : Int)) (yI (sk : Int)) (yI (w : Int)) σ = some (yI (if qcn (cM τ) (qsq (cM τ) b) = 0 then -100001 else tell (qbb (cM τ) b (qsz (cM τ) b) t sk) w), σ') ∧ Inv n σ' τ := by
  obtain ⟨b5, s⟩ := Inv_b h hb
  obtain ⟨σ', u1, u2⟩ := f9_tow58 b5 s t1 t11 s1 hw
  have g1 := a_isBerg h (a := (b : Int)) (by omega) (by omega)
  have g3 := f9_isTugs (σ := σ) (a := (t : Int)) (by omega) (by omega)
  refine ⟨σ', ?_, Inv_k h u2⟩
  unfold fX9_tow fX9_tow_b0 fX9_tow_b29
  rw [bt g1 ⟨by omega, hb⟩]
  dsimp only
  have L : (if yI (w : Int) < (10 : Int32) then fX9_tow_b30 (yI (b : Int)) (yI (t : Int)) (yI (sk : Int)) (yI (w : Int)) 0 σ else if (19 : Int32) ≤ yI (w : Int) then fX9_tow_b30 (yI (b : Int)) (yI (t : Int)) (yI (sk : Int)) (yI (w : Int)) 0 σ else fX9_tow_b30 (yI (b : Int)) (yI (t : Int)) (yI (sk : Int)) (yI (w : Int)) 1 σ) = fX9_tow_b30 (yI (b : Int)) (yI (t : Int)) (yI (sk : Int)) (yI (w : Int)) (if 10 ≤ w ∧ w ≤ 18 then 1 else 0) σ := by
    by_cases q : w < 10
    · rw [if_pos (ltp (v := 10) (b := 10) rfl (by omega) (by omega) (by omega)), if_neg (by omega)]
    · rw [if_neg (ltn (v := 10) (b := 10) rfl (by omega) (by omega) (by omega)), if_neg (gen (v := 19) (b := 19) rfl (by omega) (by omega) (by omega)), if_pos (by omega)]
  rw [L]
  unfold fX9_tow_b30
  rw [bt g3 ⟨by omega, by omega⟩]
  dsimp only
  by_cases q : 10 ≤ w ∧ w ≤ 18
  · rw [if_pos q, if_neg (show ¬ (1 : Int32) = 0 by decide), u1]
  · rw [if_neg q, if_pos rfl, if_neg (ltn (v := 0) (b := 0) rfl (by omega) (by omega) (by omega)), if_pos (lep (v := 3) (b := 3) rfl (by omega) (by omega) (by omega)), u1]
/-- a tow again by drawn days -/
def qdr (m : Mm) (b t sk q : Nat) : QT := qtw m (qE m b t sk 1) (qbb m b (qsz m b) t sk).2.2.2.2 (qsq m b) (qT m b (qsz m b) q)
theorem a_drawn {n : Nat} {σ τ : Sg} (h : Inv n σ τ) {b t sk q w : Nat} (hb : (b : Int) < cM τ 0 15) (t1 : 1 ≤ t) (t11 : t ≤ 11) (s1 : sk ≤ 1) (hq : q < 2147483648) (hw : w ≤ 2) : ∃ σ', fX9_drawn (yI (b : Int)) (yI (t : Int)) (yI (sk : Int)) (yI (q : Int)) (yI (w : Int)) σ = some (yI (if qcn (cM τ) (qsq (cM τ) b) = 0 then -1 else ((if w = 0 then (qdr (cM τ) b t sk q).1 else if w = 1 then (qdr (cM τ) b t sk q).2.2.1 else (qdr (cM τ) b t sk q).2.2.2 : Nat) : Int)), σ') ∧ Inv n σ' τ := by
  obtain ⟨b5, s⟩ := Inv_b h hb
  obtain ⟨v, gm, gc, gk, wb, kb, hrow, -⟩ := id s
  obtain ⟨w0, w1, w2, w3, w4, w5, w6, w7, w8, w9⟩ := VB1_q v wb
  have g1 := a_isBerg h (a := (b : Int)) (by omega) (by omega)
  have g3 := f9_isTugs (σ := σ) (a := (t : Int)) (by omega) (by omega)
  have hh := f9_hasWay b5 s
  unfold fX9_drawn fX9_drawn_b0
  rw [bt g1 ⟨by omega, hb⟩]
  dsimp only
  rw [bt g3 ⟨by omega, by omega⟩]
  dsimp only
  rw [if_neg (ltn (v := 0) (b := 0) rfl (by omega) (by omega) (by omega)), if_neg (ltn (v := 0) (b := 0) rfl (by omega) (by omega) (by omega)), if_pos (lep (v := 2) (b := 2) rfl (by omega) (by omega) (by omega))]
  by_cases z : qcn (cM τ) (qsq (cM τ) b) = 0
  · rw [bf hh (fun y => y z), if_pos z]
    exact ⟨σ, rfl, h⟩
  · obtain ⟨k1, k2, k3⟩ := ws_best b5 s w5 (tugs := t) (sk := sk) t1 t11 s1 z
    obtain ⟨σ1, u1, u2, u3, u4, ⟨u5, u6, u7⟩, u8⟩ := f8_seek v gk b5 wb kb w5 (tugs := t) (sk := sk) t1 t11 s1
    obtain ⟨-, a1, a2, a3, a4, a5⟩ := u2.2 k2
    rw [bt hh z, if_neg z]
    dsimp only
    unfold qdr
    generalize hl : (qbb (cM τ) b (qsz (cM τ) b) t sk).2.2.2.2 = l at *
    obtain ⟨σ2, x1, x2, x3, x4, x5⟩ := f8_towAgain (q := q) v (GK_k v gk u4) b5 wb (KB_k kb u4) w5 t1 t11 s1 hq u5 u6 u7 u8 a5 k1 k3 a4
    rw [if_pos (inb_n (by omega) b5), if_pos (inb_n (by omega) b5), yI_cln (by omega), kb.2.2.1, w2, b1 u1, b1 x1, x2, x3, x4, lN_yI]
    have IN := Inv_k h (kT_t u4 x5)
    by_cases q0 : w = 0
    · rw [if_pos (eqp (v := 0) (b := 0) rfl (by omega)), if_pos q0]
      exact ⟨σ2, rfl, IN⟩
    · rw [if_neg (yI_nl (v := 0) (b := 0) rfl (by omega) (by omega) (by omega)), if_neg q0]
      by_cases q1 : w = 1
      · rw [if_pos (eqp (v := 1) (b := 1) rfl (by omega)), if_pos q1]
        exact ⟨σ2, rfl, IN⟩
      · rw [if_neg (yI_nl (v := 1) (b := 1) rfl (by omega) (by omega) (by omega)), if_neg q1]
        exact ⟨σ2, rfl, IN⟩
theorem a_came_no {n : Nat} {σ τ : Sg} (h : Inv n σ τ) {b t sk : Nat} (hb : (b : Int) < cM τ 0 15) (t1 : 1 ≤ t) (t11 : t ≤ 11) (s1 : sk ≤ 1) (z : qcn (cM τ) (qsq (cM τ) b) = 0) : fX9_came (yI (b : Int)) (yI (t : Int)) (yI (sk : Int)) (0 : Int32) (0 : Int32) σ = some (-103, σ) := by
  obtain ⟨b5, s⟩ := Inv_b h hb
  have g1 := a_isBerg h (a := (b : Int)) (by omega) (by omega)
  have g3 := f9_isTugs (σ := σ) (a := (t : Int)) (by omega) (by omega)
  have hh := f9_hasWay b5 s
  unfold fX9_came fX9_came_b0
  rw [bt g1 ⟨by omega, hb⟩]
  dsimp only
  rw [bt g3 ⟨by omega, by omega⟩]
  dsimp only
  rw [if_neg (show ¬ (0 : Int32) < 0 by decide), if_neg (show ¬ (999 : Int32) < 0 by decide), if_neg (show ¬ (0 : Int32) < 0 by decide), if_pos (show (0 : Int32) ≤ 2 by decide), bf hh (fun y => y z)]
theorem a_more {n : Nat} {σ τ : Sg} (h : Inv n σ τ) (hn : n < 512) {B T : Nat} (hB : cM τ 0 15 = (B : Int)) (s0 : cM τ 0 12 ≠ 0) (T1 : 1 ≤ T) (T10 : T ≤ 10) : ∃ σ', fX9_more (yI (T : Int)) σ = some (yI (tellS (cM τ) B (T + 1) 0) - yI (tellS (cM τ) B T 0), σ') ∧ Inv n σ' τ := by
  obtain ⟨es, s1, s2⟩ := f9_seas h.2.1 hn
  obtain ⟨σ1, u1, u2⟩ := f9_season (T := T + 1) (w := 0) h hn hB s0 (by omega) (by omega) (by omega)
  obtain ⟨σ2, u3, u4⟩ := f9_season (T := T) (w := 0) u2 hn hB s0 (by omega) (by omega) (by omega)
  refine ⟨σ2, ?_, u4⟩
  unfold fX9_more fX9_more_b0
  rw [es, if_neg (yI_nl (v := 0) (b := 0) rfl (by omega) (by omega) s0), if_neg (ltn (v := 1) (b := 1) rfl (by omega) (by omega) (by omega)), if_pos (ltp (v := 11) (b := 11) rfl (by omega) (by omega) (by omega)), add1, show (0 : Int32) = yI ((0 : Nat) : Int) from rfl, b1 u1]
  dsimp only
  rw [b1 u3]
/-! ===== what it refuses ===== -/
theorem a_no {n : Nat} {σ τ : Sg} (h : Inv n σ τ) (hn : n < 512) (s0 : cM τ 0 12 ≠ 0) {B : Nat} (hB : cM τ 0 15 = (B : Int)) : fX9_as (yI (B : Int)) (0 : Int32) σ = some (-101, σ) ∧ fX9_about (yI (B : Int)) (0 : Int32) σ = some (-101, σ) ∧ fX9_change (yI (B : Int)) (2 : Int32) (10 : Int32) σ = some (-101, σ) ∧ fX9_coin (3 : Int32) (1 : Int32) σ = some (-102, σ) ∧ fX9_coin (0 : Int32) (0 : Int32) σ = some (-102, σ) ∧ fX9_coin (1 : Int32) (10 : Int32) σ = some (-102, σ) ∧ fX9_tow (yI (B : Int)) (1 : Int32) (0 : Int32) (0 : Int32) σ = some (-100101, σ) ∧ fX9_ways (-1 : Int32) σ = some (-101, σ) ∧ fX9_best (yI (B : Int)) (0 : Int32) σ = some (-100101, σ) ∧ fX9_season (0 : Int32) (0 : Int32) σ = some (-102, σ) ∧ fX9_season (12 : Int32) (0 : Int32) σ = some (-102, σ) ∧ fX9_season (1 : Int32) (6 : Int32) σ = some (-102, σ) ∧ fX9_more (11 : Int32) σ = some (-102, σ) ∧ fX9_drawn (yI (B : Int)) (1 : Int32) (0 : Int32) (0 : Int32) (0 : Int32) σ = some (-101, σ) ∧ fX9_came (yI (B : Int)) (1 : Int32) (0 : Int32) (0 : Int32) (0 : Int32) σ = some (-101, σ) := by
  have B5 := h.2.2.1.2.2.1
  have g := a_isBerg h (a := (B : Int)) (by omega) (by omega)
  have nB : ¬ (0 ≤ (B : Int) ∧ (B : Int) < cM τ 0 15) := by omega
  have g1 := a_isBerg h (a := (-1 : Int)) (by omega) (by omega)
  obtain ⟨es, s1, s2⟩ := f9_seas h.2.1 hn
  have sn : ¬ yI (cM τ 0 12) = 0 := yI_nl (v := 0) (b := 0) rfl (by omega) (by omega) s0
  refine ⟨?_, ?_, ?_, ?_, ?_, ?_, ?_, ?_, ?_, ?_, ?_, ?_, ?_, ?_, ?_⟩
  · unfold fX9_as fX9_as_b0; rw [bf g nB]
  · unfold fX9_about fX9_about_b0; rw [bf g nB]
  · unfold fX9_change fX9_change_b0; rw [bf g nB]
  · unfold fX9_coin fX9_coin_b0
    rw [show (3 : Int32) = yI 3 from rfl, show (1 : Int32) = yI 1 from rfl, bf (f1_mayBe (by omega) (by omega) (by omega) (by omega)) (by omega)]
  · unfold fX9_coin fX9_coin_b0
    rw [show (0 : Int32) = yI 0 from rfl]
    have e := f1_mayBe (σ := σ) (a := 0) (v := 0) (by omega) (by omega) (by omega) (by omega)
    rw [b1 (e.trans (by rw [if_neg (by unfold loC; omega)]))]
    rfl
  · unfold fX9_coin fX9_coin_b0
    have e := f1_mayBe (σ := σ) (a := 1) (v := 10) (by omega) (by omega) (by omega) (by omega)
    rw [show (1 : Int32) = yI 1 from rfl, show (10 : Int32) = yI 10 from rfl, bf e (by unfold hiC; omega)]
  · unfold fX9_tow fX9_tow_b0; rw [bf g nB]
  · unfold fX9_ways fX9_ways_b0; rw [show (-1 : Int32) = yI (-1) from rfl, bf g1 (by omega)]
  · unfold fX9_best fX9_best_b0; rw [bf g nB]
  · unfold fX9_season fX9_season_b0
    rw [es, if_neg sn]
    have e : fX9_isTugs (0 : Int32) σ = some (0, σ) := by
      have := f9_isTugs (σ := σ) (a := 0) (by omega) (by omega)
      rw [if_neg (by omega)] at this
      exact this
    rw [b1 e]
    rfl
  · unfold fX9_season fX9_season_b0
    rw [es, if_neg sn]
    have e := f9_isTugs (σ := σ) (a := 12) (by omega) (by omega)
    rw [show (12 : Int32) = yI 12 from rfl, bf e (by omega)]
  · unfold fX9_season fX9_season_b0
    rw [es, if_neg sn]
    have e := f9_isTugs (σ := σ) (a := 1) (by omega) (by omega)
    rw [show (1 : Int32) = yI 1 from rfl, bt e (by omega)]
    dsimp only
    rw [if_neg (show ¬ (6 : Int32) < 0 by decide), if_neg (show ¬ (6 : Int32) ≤ 5 by decide)]
  · unfold fX9_more fX9_more_b0
    rw [es, if_neg sn, if_neg (show ¬ (11 : Int32) < 1 by decide), if_neg (show ¬ (11 : Int32) < 11 by decide)]
  · unfold fX9_drawn fX9_drawn_b0; rw [bf g nB]
  · unfold fX9_came fX9_came_b0; rw [bf g nB]
theorem a_no0 {n : Nat} {σ τ : Sg} (h : Inv n σ τ) {B : Nat} (hB : cM τ 0 15 = (B : Int)) (B0 : B ≠ 0) : fX9_tow (0 : Int32) (12 : Int32) (0 : Int32) (0 : Int32) σ = some (-100102, σ) ∧ fX9_tow (0 : Int32) (1 : Int32) (0 : Int32) (4 : Int32) σ = some (-100102, σ) ∧ fX9_tow (0 : Int32) (1 : Int32) (1 : Int32) (19 : Int32) σ = some (-100102, σ) ∧ fX9_best (0 : Int32) (3 : Int32) σ = some (-100102, σ) ∧ fX9_drawn (0 : Int32) (1 : Int32) (0 : Int32) (-1 : Int32) (0 : Int32) σ = some (-102, σ) ∧ fX9_drawn (0 : Int32) (1 : Int32) (0 : Int32) (0 : Int32) (3 : Int32) σ = some (-102, σ) := by
  have g := a_isBerg h (a := 0) (by omega) (by omega)
  have qb : 0 ≤ (0 : Int) ∧ (0 : Int) < cM τ 0 15 := by omega
  have gb : fX9_isBerg (0 : Int32) σ = some (1, σ) := by
    have := g
    rw [if_pos qb] at this
    exact this
  have t12 : fX9_isTugs (12 : Int32) σ = some (0, σ) := by
    have := f9_isTugs (σ := σ) (a := 12) (by omega) (by omega)
    rw [if_neg (by omega)] at this
    exact this
  have t1 : fX9_isTugs (1 : Int32) σ = some (1, σ) := by
    have := f9_isTugs (σ := σ) (a := 1) (by omega) (by omega)
    rw [if_pos (by omega)] at this
    exact this
  refine ⟨?_, ?_, ?_, ?_, ?_, ?_⟩
  · unfold fX9_tow fX9_tow_b0
    rw [b1 gb]
    dsimp only
    rw [if_neg (show ¬ (1 : Int32) = 0 by decide), if_pos (show (0 : Int32) < 10 by decide)]
    unfold fX9_tow_b29 fX9_tow_b30
    rw [b1 t12]
    rfl
  · unfold fX9_tow fX9_tow_b0
    rw [b1 gb]
    dsimp only
    rw [if_neg (show ¬ (1 : Int32) = 0 by decide), if_pos (show (4 : Int32) < 10 by decide)]
    unfold fX9_tow_b29 fX9_tow_b30
    rw [b1 t1]
    dsimp only
    rw [if_neg (show ¬ (1 : Int32) = 0 by decide), if_pos rfl, if_neg (show ¬ (4 : Int32) < 0 by decide), if_neg (show ¬ (4 : Int32) ≤ 3 by decide)]
  · unfold fX9_tow fX9_tow_b0
    rw [b1 gb]
    dsimp only
    rw [if_neg (show ¬ (1 : Int32) = 0 by decide), if_neg (show ¬ (19 : Int32) < 10 by decide), if_pos (show (19 : Int32) ≤ 19 by decide)]
    unfold fX9_tow_b29 fX9_tow_b30
    rw [b1 t1]
    dsimp only
    rw [if_neg (show ¬ (1 : Int32) = 0 by decide), if_pos rfl, if_neg (show ¬ (19 : Int32) < 0 by decide), if_neg (show ¬ (19 : Int32) ≤ 3 by decide)]
  · unfold fX9_best fX9_best_b0
    rw [b1 gb]
    dsimp only
    rw [if_neg (show ¬ (1 : Int32) = 0 by decide), if_neg (show ¬ (3 : Int32) < 0 by decide), if_neg (show ¬ (3 : Int32) ≤ 2 by decide)]
  · unfold fX9_drawn fX9_drawn_b0
    rw [b1 gb]
    dsimp only
    rw [if_neg (show ¬ (1 : Int32) = 0 by decide), b1 t1]
    dsimp only
    rw [if_neg (show ¬ (1 : Int32) = 0 by decide), if_pos (show (-1 : Int32) < 0 by decide)]
  · unfold fX9_drawn fX9_drawn_b0
    rw [b1 gb]
    dsimp only
    rw [if_neg (show ¬ (1 : Int32) = 0 by decide), b1 t1]
    dsimp only
    rw [if_neg (show ¬ (1 : Int32) = 0 by decide), if_neg (show ¬ (0 : Int32) < 0 by decide), if_neg (show ¬ (3 : Int32) < 0 by decide), if_neg (show ¬ (3 : Int32) ≤ 2 by decide)]
