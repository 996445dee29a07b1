/-! ===== tow, ways ===== -/
def BS (σ τ : Sg) (b : Nat) : Prop := VS (cM τ) ∧ GM τ (cM τ) ∧ GC τ (cM τ) ∧ GK σ (cM τ) ∧ VB1 (cM τ) b ∧ KB σ (cM τ) b ∧ (∀ j, j < 5 → rI τ 6 (5 * b + j) = yI (cM τ 6 (5 * b + j))) ∧ rI σ 8 (qsq (cM τ) b) = yI (qcn (cM τ) (qsq (cM τ) b) : Int)
theorem Inv_sea {n : Nat} {σ τ : Sg} (h : Inv n σ τ) {b : Nat} (hb : (b : Int) < cM τ 0 15) : VS (cM τ) ∧ VT (cC σ) (cM τ) := by
  have w := (h.2.2.1.2.2.2 b hb).1
  exact h.2.1.sea (by have := w.2.2.1; have := w.2.2.2.1; omega)
theorem GM_c {τ : Sg} (v : VS (cM τ)) : GM τ (cM τ) := by
  refine ⟨by rw [cM_r (o := 0) (k := 9) rfl, v.R.1], by rw [cM_r (o := 0) (k := 10) rfl, v.W.1], by rw [cM_r (o := 0) (k := 11) rfl, v.H.1], fun i hi => ⟨by rw [cM_r (o := 4) (k := i) rfl, (qL_b v hi).1], cM_r (o := 5) (k := i) rfl⟩⟩
theorem GK_c {n : Nat} {σ τ : Sg} (h : Inv n σ τ) (v : VS (cM τ)) (t : VT (cC σ) (cM τ)) : GK σ (cM τ) := by
  have b30 := v.b30
  have hc := h.2.2.2.1
  refine ⟨by rw [cC_r (o := 4) (k := 7) rfl, t.2.2.1, v.H.1], fun i hi => ?_, by rw [cC_r (o := 41) (k := 0) rfl, hc.1], by rw [cC_r (o := 41) (k := 1) rfl, hc.2.1], by rw [cC_r (o := 41) (k := 2) rfl, hc.2.2.1], hc.2.2.2⟩
  obtain ⟨t1, t2, t3, t4, t5⟩ := t.2.2.2 i (by rw [v.RW]; omega)
  exact ⟨by rw [cC_r (o := 5) (k := i) rfl, t1, (qL_b v hi).1], by rw [cC_r (o := 6) (k := i) rfl, t2], fun w hw => by rw [cC_r (o := 10 + i) (k := w) (nsC_mid (by omega) (by omega)), t5 w hw]⟩
theorem Inv_b {n : Nat} {σ τ : Sg} (h : Inv n σ τ) {b : Nat} (hb : (b : Int) < cM τ 0 15) : b < 5 ∧ BS σ τ b := by
  obtain ⟨v, t⟩ := Inv_sea h hb
  have hv := h.2.2.1
  have hc := h.2.2.2.1
  obtain ⟨w, k0, k1, k2, k3, k4, k5⟩ := hv.2.2.2 b hb
  have hsq := (VB1_q v w).2.2.2.2.2.2.2.1
  have e : ∀ j, rI σ (76 + b) j = yI (cC σ (76 + b) j) := fun j => cC_r (nsC_hi (by omega))
  refine ⟨by have := hv.2.2.1; omega, v, GM_c v, ⟨cM_r (o := 0) (k := 17) rfl, cM_r (o := 0) (k := 18) rfl, cM_r (o := 0) (k := 19) rfl, hc.2.2.2⟩, GK_c h v t, w, ⟨by rw [e, k0], by rw [e, k1], by rw [e, k2], by rw [e, k3], by rw [e, k4], by rw [e, k5]⟩, fun j hj => cM_r (o := 6) (k := 5 * b + j) rfl, ?_⟩
  rw [cC_r (o := 8) (k := qsq (cM τ) b) rfl, (t.2.2.2 (qsq (cM τ) b) (by rw [v.RW]; omega)).2.2.2.1]
theorem f9_hasWay {σ τ : Sg} {b : Nat} (hb : b < 5) (s : BS σ τ b) : fX9_hasWay (yI (b : Int)) σ = some (if qcn (cM τ) (qsq (cM τ) b) ≠ 0 then 1 else 0, σ) := by
  obtain ⟨v, -, -, -, w, kb, -, h8⟩ := s
  obtain ⟨w0, w1, w2, w3, w4, w5, w6, w7, w8, w9⟩ := VB1_q v w
  have b30 := v.b30
  have cb := qcn_b v w7
  unfold fX9_hasWay fX9_hasWay_b0
  rw [if_pos (inb_n (by omega) hb), yI_cln (by omega), kb.2.1, w1, if_pos (inb_n (by omega) (by omega)), yI_cln (by omega), h8]
  by_cases z : qcn (cM τ) (qsq (cM τ) b) = 0
  · rw [if_pos (lep (v := 0) (b := 0) rfl (by omega) (by omega) (by omega)), if_neg (fun q => q z)]
  · rw [if_neg (len (v := 0) (b := 0) rfl (by omega) (by omega) (by omega)), if_pos z]
theorem f9_isTugs {σ : Sg} {a : Int} (h1 : -2147483648 ≤ a) (h2 : a < 2147483648) : fX9_isTugs (yI a) σ = some (if 1 ≤ a ∧ a ≤ 11 then 1 else 0, σ) := by
  unfold fX9_isTugs fX9_isTugs_b0
  by_cases q : a < 1
  · rw [if_pos (ltp (v := 1) (b := 1) rfl h1 h2 q), if_neg (by omega)]
  · rw [if_neg (ltn (v := 1) (b := 1) rfl h1 h2 (by omega))]
    by_cases q2 : 11 < a
    · rw [if_pos (gtp (v := 11) (b := 11) rfl h1 h2 q2), if_neg (by omega)]
    · rw [if_neg (gtn (v := 11) (b := 11) rfl h1 h2 (by omega)), if_pos (by omega)]
theorem f10_areTugs {σ : Sg} {a : Int} (h1 : -2147483648 ≤ a) (h2 : a < 2147483648) : fX10_areTugs (yI a) σ = some (if 1 ≤ a ∧ a ≤ 11 then 1 else 0, σ) := by
  unfold fX10_areTugs fX10_areTugs_b0
  rw [in_zz h1 h2 (show (1 : Int64).toInt = 1 from rfl) (show (11 : Int64).toInt = 11 from rfl) σ, btB]
theorem f10_ownSize {σ τ : Sg} {b : Nat} (hb : b < 5) (s : BS σ τ b) : fX10_ownSize (yI (b : Int)) τ = some (yI (qsz (cM τ) b : Int), τ) := by
  obtain ⟨v, -, -, -, w, kb, h6, -⟩ := s
  have w2 := (VB1_q v w).2.2.1
  unfold fX10_ownSize fX10_ownSize_b0
  rw [mul5, add2, if_pos (inb_n (by omega) (by omega)), yI_cln (by omega), h6 2 (by omega), w2]
theorem LW_g {σ : Sg} {o : Nat} : ∀ (l : List Nat) (i j : Nat), LW σ o l i → j < l.length → rI σ o (i + j) = yI (l.getD j 0 : Int)
  | [], _, _, _, h => absurd h (Nat.not_lt_zero _)
  | w :: l, i, 0, h, _ => h.1
  | w :: l, i, j + 1, h, hj => by
    rw [show i + (j + 1) = i + 1 + j by omega]
    exact LW_g l (i + 1) j h.2 (by rw [List.length_cons] at hj; omega)
/-- what is told of a tow -/
def tell (B : QB) (w : Nat) : Int := if w = 0 then (B.2.2.2.1 : Int) else if w = 1 then (B.2.2.1 : Int) else if w = 2 then B.2.1 else if w = 3 then (B.2.2.2.2.length : Int) else if w - 10 < B.2.2.2.2.length then (B.2.2.2.2.getD (w - 10) 0 : Int) else -1
theorem f10_tellTow {σ τ : Sg} {b tugs sk w : Nat} (hb : b < 5) (s : BS σ τ b) (t1 : 1 ≤ tugs) (t11 : tugs ≤ 11) (s1 : sk ≤ 1) (hw : w ≤ 3 ∨ (10 ≤ w ∧ w ≤ 18)) : ∃ τ', fX10_tellTow (yI (b : Int)) (yI (tugs : Int)) (yI (sk : Int)) (yI (w : Int)) τ = some (yI (if qcn (cM τ) (qsq (cM τ) b) = 0 then -100001 else tell (qbb (cM τ) b (qsz (cM τ) b) tugs sk) w), τ') ∧ mT τ τ' := by
  obtain ⟨v, gm, gc, gk, wb, kb, h6, -⟩ := id s
  obtain ⟨w0, w1, w2, w3, w4, w5, w6, w7, w8, w9⟩ := VB1_q v wb
  obtain ⟨lw, l2⟩ := ws_b v w7 w8 w9
  obtain ⟨τ', r1, r2, r3, r4, r5⟩ := f10_lay_t v gm gc hb wb h6 w5 t1 t11 s1
  refine ⟨τ', ?_, r4⟩
  unfold fX10_tellTow fX10_tellTow_b0
  rw [b1 (f10_ownSize hb s)]
  dsimp only
  rw [b1 r1, r2.1, r5, lw]
  generalize hB : qbb (cM τ) b (qsz (cM τ) b) tugs sk = B at *
  rw [lw] at l2
  by_cases z : qcn (cM τ) (qsq (cM τ) b) = 0
  · rw [if_pos (eqp (v := 0) (b := 0) rfl (by omega)), if_pos z]; rfl
  · have n0 : B.1 ≠ 0 := by rw [r5, lw]; exact z
    obtain ⟨a1, a2, a3, a4, a5⟩ := r2.2 n0
    obtain ⟨c1, c2, c3, c4, c5, c6⟩ := r3 n0
    rw [if_neg (yI_nl (v := 0) (b := 0) rfl (by omega) (by omega) (by omega)), if_neg z, a1, a2, a3, a4]
    unfold tell
    by_cases q0 : w = 0
    · rw [if_pos (eqp (v := 0) (b := 0) rfl (by omega)), if_pos q0]
    · rw [if_neg (yI_nl (v := 0) (b := 0) rfl (by omega) (by omega) (by omega)), if_neg q0]
      by_cases q1 : w = 1
      · rw [if_pos (eqp (v := 1) (b := 1) rfl (by omega)), if_pos q1]
      · rw [if_neg (yI_nl (v := 1) (b := 1) rfl (by omega) (by omega) (by omega)), if_neg q1]
        by_cases q2 : w = 2
        · rw [if_pos (eqp (v := 2) (b := 2) rfl (by omega)), if_pos q2]
        · rw [if_neg (yI_nl (v := 2) (b := 2) rfl (by omega) (by omega) (by omega)), if_neg q2]
          by_cases q3 : w = 3
          · rw [if_pos (eqp (v := 3) (b := 3) rfl (by omega)), if_pos q3]
          · rw [if_neg (yI_nl (v := 3) (b := 3) rfl (by omega) (by omega) (by omega)), if_neg q3, show yI (w : Int) - (10 : Int32) = yI ((w - 10 : Nat) : Int) from by rw [show (10 : Int32) = yI 10 from rfl, yI_sub]; congr 1; omega]
            by_cases q4 : w - 10 < B.2.2.2.2.length
            · have g := LW_g B.2.2.2.2 0 (w - 10) a5 q4
              rw [Nat.zero_add] at g
              rw [if_neg (fun y => by have := (yI_le (by omega) (by omega) (by omega) (by omega)).mp y; omega), if_pos (inb_n (by omega) (by omega)), yI_cln (by omega), g, if_pos q4]
            · rw [if_pos ((yI_le (by omega) (by omega) (by omega) (by omega)).mpr (by omega)), if_neg q4]; rfl
theorem f9_tow58 {σ τ : Sg} {b tugs sk w : Nat} (hb : b < 5) (s : BS σ τ b) (t1 : 1 ≤ tugs) (t11 : tugs ≤ 11) (s1 : sk ≤ 1) (hw : w ≤ 3 ∨ (10 ≤ w ∧ w ≤ 18)) : ∃ σ', fX9_tow_b58 (yI (b : Int)) (yI (tugs : Int)) (yI (sk : Int)) (yI (w : Int)) σ = some (yI (if qcn (cM τ) (qsq (cM τ) b) = 0 then -100001 else tell (qbb (cM τ) b (qsz (cM τ) b) tugs sk) w), σ') ∧ kT σ σ' := by
  obtain ⟨v, gm, gc, gk, wb, kb, h6, -⟩ := id s
  obtain ⟨w0, w1, w2, w3, w4, w5, w6, w7, w8, w9⟩ := VB1_q v wb
  obtain ⟨lw, l2⟩ := ws_b v w7 w8 w9
  have hh := f9_hasWay hb s
  unfold fX9_tow_b58
  by_cases z : qcn (cM τ) (qsq (cM τ) b) = 0
  · refine ⟨σ, ?_, kT_r σ⟩
    rw [bf hh (fun q => q z)]
    dsimp only
    rw [if_pos z]; rfl
  · obtain ⟨σ', r1, r2, r3, r4, -, -⟩ := f8_seek v gk hb wb kb w5 t1 t11 s1
    obtain ⟨τ', -, -, -, -, r5⟩ := f10_lay_t v gm gc hb wb h6 w5 t1 t11 s1
    refine ⟨σ', ?_, r4⟩
    rw [bt hh z]
    dsimp only
    rw [if_pos (inb_n (by omega) hb), if_pos (inb_n (by omega) hb), yI_cln (by omega), kb.2.2.1, w2, b1 r1, if_neg z]
    generalize hB : qbb (cM τ) b (qsz (cM τ) b) tugs sk = B at *
    have n0 : B.1 ≠ 0 := by rw [r5, lw]; exact z
    obtain ⟨a0, a1, a2, a3, a4, a5⟩ := r2.2 n0
    obtain ⟨c1, c2, c3, c4, c5, c6⟩ := r3 n0
    rw [a1, a2, a3, a4]
    unfold tell
    by_cases q0 : w = 0
    · rw [if_pos (eqp (v := 0) (b := 0) rfl (by omega)), if_pos q0]
    · rw [if_neg (yI_nl (v := 0) (b := 0) rfl (by omega) (by omega) (by omega)), if_neg q0]
      by_cases q1 : w = 1
      · rw [if_pos (eqp (v := 1) (b := 1) rfl (by omega)), if_pos q1]
      · rw [if_neg (yI_nl (v := 1) (b := 1) rfl (by omega) (by omega) (by omega)), if_neg q1]
        by_cases q2 : w = 2
        · rw [if_pos (eqp (v := 2) (b := 2) rfl (by omega)), if_pos q2]
        · rw [if_neg (yI_nl (v := 2) (b := 2) rfl (by omega) (by omega) (by omega)), if_neg q2]
          by_cases q3 : w = 3
          · rw [if_pos (eqp (v := 3) (b := 3) rfl (by omega)), if_pos q3]
          · rw [if_neg (yI_nl (v := 3) (b := 3) rfl (by omega) (by omega) (by omega)), if_neg q3, show yI (w : Int) - (10 : Int32) = yI ((w - 10 : Nat) : Int) from by rw [show (10 : Int32) = yI 10 from rfl, yI_sub]; congr 1; omega]
            unfold fX8_stepAt fX8_stepAt_b0
            rw [if_neg (ltn (v := 0) (b := 0) rfl (by omega) (by omega) (by omega)), a4]
            by_cases q4 : w - 10 < B.2.2.2.2.length
            · have g := LW_g B.2.2.2.2 0 (w - 10) a5 q4
              rw [Nat.zero_add] at g
              rw [if_neg (fun y => by have := (yI_le (by omega) (by omega) (by omega) (by omega)).mp y; omega), if_pos (inb_n (by omega) (by omega)), yI_cln (by omega), g, if_pos q4]
              rfl
            · rw [if_pos ((yI_le (by omega) (by omega) (by omega) (by omega)).mpr (by omega)), if_neg q4]; rfl
theorem Inv_kT {n : Nat} {σ τ σ' τ' : Sg} (h : Inv n σ τ) (k : kT σ σ') (l : mT τ τ') : Inv n σ' τ' := by
  unfold Inv
  rw [kT_core k, mT_core l]
  exact h
theorem bool_n {x : Int32} (h : isB x = true) : ∃ s : Nat, s ≤ 1 ∧ x = yI (s : Int) := by
  rcases isB_or h with rfl | rfl
  · exact ⟨0, by omega, rfl⟩
  · exact ⟨1, by omega, rfl⟩
theorem s_tow (a0 a1 a2 a3 : Int32) (hB : isB a2 = true) : SimI Inv (fX9_tow a0 a1 a2 a3) (fX10_tow a0 a1 a2 a3) := fun n σ τ _ h => by
  obtain ⟨b, h1, h2, rfl⟩ := yI_ex a0
  obtain ⟨t, h3, h4, rfl⟩ := yI_ex a1
  obtain ⟨sk, hs, rfl⟩ := bool_n hB
  obtain ⟨w, h5, h6, rfl⟩ := yI_ex a3
  have hv := h.2.2.1
  have g1 := f9_isBerg (σ := σ) h1 h2 hv.e.1 hv.2.1 hv.2.2.1
  have g2 := f10_isBerg (τ := τ) h1 h2 hv.e.2 hv.2.1 hv.2.2.1
  have g3 := f9_isTugs (σ := σ) h3 h4
  have g4 := f10_areTugs (σ := τ) h3 h4
  have g5 := in_zz h5 h6 (show (0 : Int64).toInt = 0 from rfl) (show (3 : Int64).toInt = 3 from rfl) τ
  have g6 := in_zz h5 h6 (show (10 : Int64).toInt = 10 from rfl) (show (18 : Int64).toInt = 18 from rfl) τ
  unfold fX9_tow fX9_tow_b0 fX9_tow_b29 fX10_tow fX10_tow_b0
  by_cases qb : 0 ≤ b ∧ b < cM τ 0 15
  · have L : (if yI w < (10 : Int32) then fX9_tow_b30 (yI b) (yI t) (yI (sk : Int)) (yI w) 0 σ else if (19 : Int32) ≤ yI w then fX9_tow_b30 (yI b) (yI t) (yI (sk : Int)) (yI w) 0 σ else fX9_tow_b30 (yI b) (yI t) (yI (sk : Int)) (yI w) 1 σ) = fX9_tow_b30 (yI b) (yI t) (yI (sk : Int)) (yI w) (if 10 ≤ w ∧ w ≤ 18 then 1 else 0) σ := by
      by_cases q : w < 10
      · rw [if_pos (ltp (v := 10) (b := 10) rfl h5 h6 q), if_neg (by omega)]
      · rw [if_neg (ltn (v := 10) (b := 10) rfl h5 h6 (by omega))]
        by_cases q2 : 19 ≤ w
        · rw [if_pos (gep (v := 19) (b := 19) rfl h5 h6 q2), if_neg (by omega)]
        · rw [if_neg (gen (v := 19) (b := 19) rfl h5 h6 (by omega)), if_pos (by omega)]
    rw [bt g1 qb, bt g2 qb]
    dsimp only
    rw [L]
    unfold fX9_tow_b30 fX10_tow_b46
    by_cases qt : 1 ≤ t ∧ t ≤ 11
    · rw [bt g3 qt, bt g4 qt]
      dsimp only
      obtain ⟨b, rfl⟩ := Int.eq_ofNat_of_zero_le qb.1
      obtain ⟨t, rfl⟩ := Int.eq_ofNat_of_zero_le (show 0 ≤ t by omega)
      obtain ⟨b5, s⟩ := Inv_b h qb.2
      have OK : ∀ w' : Nat, w = (w' : Int) → (w' ≤ 3 ∨ (10 ≤ w' ∧ w' ≤ 18)) → ∃ r σ' τ', fX9_tow_b58 (yI (b : Int)) (yI (t : Int)) (yI (sk : Int)) (yI w) σ = some (r, σ') ∧ (Option.bind (fX10_tellTow (yI (b : Int)) (yI (t : Int)) (yI (sk : Int)) (yI w) τ) fun p7 => some (p7.1, p7.2)) = some (r, τ') ∧ Inv (n + 1) σ' τ' := fun w' e hw => by
        subst e
        obtain ⟨τ', r1, r2⟩ := f10_tellTow b5 s (tugs := t) (sk := sk) (by omega) (by omega) hs hw
        obtain ⟨σ', u1, u2⟩ := f9_tow58 b5 s (tugs := t) (sk := sk) (by omega) (by omega) hs hw
        exact ⟨_, σ', τ', u1, by rw [b1 r1], Inv_n n _ _ (Inv_kT h u2 r2)⟩
      by_cases q1 : 0 ≤ w ∧ w ≤ 3
      · rw [if_neg (c := 10 ≤ w ∧ w ≤ 18) (by omega), if_pos rfl, if_neg (ltn (v := 0) (b := 0) rfl h5 h6 (by omega)), if_pos (lep (v := 3) (b := 3) rfl h5 h6 (by omega)), bt g5 q1]
        dsimp only
        exact OK w.toNat (by omega) (by omega)
      · rw [bf g5 q1]
        dsimp only
        by_cases q2 : 10 ≤ w ∧ w ≤ 18
        · rw [if_pos q2, if_neg (show ¬ (1 : Int32) = 0 by decide), bt g6 q2]
          dsimp only
          exact OK w.toNat (by omega) (by omega)
        · rw [if_neg q2, if_pos rfl, bf g6 q2]
          dsimp only
          refine ⟨-100102, σ, τ, ?_, rfl, Inv_n n σ τ h⟩
          by_cases q3 : w < 0
          · rw [if_pos (ltp (v := 0) (b := 0) rfl h5 h6 q3)]
          · rw [if_neg (ltn (v := 0) (b := 0) rfl h5 h6 (by omega)), if_neg (len (v := 3) (b := 3) rfl h5 h6 (by omega))]
    · rw [bf g3 qt, bf g4 qt]
      exact ⟨-100102, σ, τ, rfl, rfl, Inv_n n σ τ h⟩
  · rw [bf g1 qb, bf g2 qb]
    exact ⟨-100101, σ, τ, rfl, rfl, Inv_n n σ τ h⟩
theorem f10_waysOf {σ τ : Sg} {b : Nat} (hb : b < 5) (s : BS σ τ b) : ∃ τ', fX10_waysOf (yI (b : Int)) τ = some (yI (qcn (cM τ) (qsq (cM τ) b) : Int), τ') ∧ mT τ τ' := by
  obtain ⟨v, gm, gc, gk, wb, kb, h6, -⟩ := id s
  obtain ⟨w0, w1, w2, w3, w4, w5, w6, w7, w8, w9⟩ := VB1_q v wb
  obtain ⟨lw, l2⟩ := ws_b v w7 w8 w9
  obtain ⟨τ', r1, r2, r3⟩ := f10_lay_0 v gm hb wb h6 (yI (qsz (cM τ) b : Int)) 0
  refine ⟨τ', ?_, r3⟩
  unfold fX10_waysOf fX10_waysOf_b0
  rw [b1 (f10_ownSize hb s)]
  dsimp only
  rw [b1 r1, r2, lw]
theorem f9_waysOf {σ τ : Sg} {b : Nat} (hb : b < 5) (s : BS σ τ b) {P : Prop} [Decidable P] (hP : P) (hx : fX9_isBerg (yI (b : Int)) σ = some (if P then 1 else 0, σ)) : fX9_ways (yI (b : Int)) σ = some (yI (qcn (cM τ) (qsq (cM τ) b) : Int), σ) := by
  obtain ⟨v, -, -, -, w, kb, -, h8⟩ := s
  obtain ⟨w0, w1, w2, w3, w4, w5, w6, w7, w8, w9⟩ := VB1_q v w
  have b30 := v.b30
  unfold fX9_ways fX9_ways_b0
  rw [bt hx hP]
  dsimp only
  rw [if_pos (inb_n (by omega) hb), yI_cln (by omega), kb.2.1, w1, if_pos (inb_n (by omega) (by omega)), yI_cln (by omega), h8]
theorem s_ways (a0 : Int32) : SimI Inv (fX9_ways a0) (fX10_ways a0) := fun n σ τ _ h => by
  obtain ⟨b, h1, h2, rfl⟩ := yI_ex a0
  have hv := h.2.2.1
  have g1 := f9_isBerg (σ := σ) h1 h2 hv.e.1 hv.2.1 hv.2.2.1
  have g2 := f10_isBerg (τ := τ) h1 h2 hv.e.2 hv.2.1 hv.2.2.1
  by_cases qb : 0 ≤ b ∧ b < cM τ 0 15
  · obtain ⟨b, rfl⟩ := Int.eq_ofNat_of_zero_le qb.1
    obtain ⟨b5, s⟩ := Inv_b h qb.2
    obtain ⟨τ', r1, r2⟩ := f10_waysOf b5 s
    refine ⟨_, σ, τ', f9_waysOf b5 s qb g1, ?_, Inv_n n _ _ (Inv_kT h (kT_r σ) r2)⟩
    unfold fX10_ways fX10_ways_b0
    rw [bt g2 qb]
    dsimp only
    rw [b1 r1]
  · unfold fX9_ways fX9_ways_b0 fX10_ways fX10_ways_b0
    rw [bf g1 qb, bf g2 qb]
    exact ⟨-101, σ, τ, rfl, rfl, Inv_n n σ τ h⟩
