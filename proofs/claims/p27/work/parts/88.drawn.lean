/-! ===== drawn ===== -/
theorem f10_lead {m : Mm} {L : Nat} (v : VS m) (L9 : L ≤ 9) (x1 x2 x3 x4 x5 : Int32) : ∀ (l : List Nat) (c i : Nat) (τ : Sg) (n : Nat), l.length < n → i + l.length = L → VW m l c → LW τ 10 l i → GM τ m → rI τ 0 33 = yI (L : Int) → ∃ τ', lp (fun s : Int32 × Int32 × Sg => fX10_drawn_b75 x1 x2 x3 x4 x5 s.1 s.2.1 s.2.2) n (yI (c : Int), yI (i : Int), τ) = some τ' ∧ PL τ' m l c i ∧ (∀ j, j < i → rI τ' 8 j = rI τ 8 j ∧ rI τ' 9 j = rI τ 9 j) ∧ ∀ o j, o ≠ 8 → o ≠ 9 → rI τ' o j = rI τ o j
  | [], c, i, τ, n, hn, hL, vw, lw, gm, h33 => by
    obtain ⟨n, rfl⟩ : ∃ n', n = n' + 1 := ⟨n - 1, by omega⟩
    have hL2 : i + 0 = L := hL
    refine ⟨τ, lp_en ?_, trivial, fun _ _ => ⟨rfl, rfl⟩, fun _ _ _ _ => rfl⟩
    dsimp only
    unfold fX10_drawn_b75
    rw [h33, if_pos ((yI_le (by omega) (by omega) (by omega) (by omega)).mpr (by omega))]
  | w :: l, c, i, τ, n, hn, hL, vw, lw, gm, h33 => by
    obtain ⟨n, rfl⟩ : ∃ n', n = n' + 1 := ⟨n - 1, by omega⟩
    rw [List.length_cons] at hL hn
    obtain ⟨⟨hc, hw, hx, hq, hg⟩, vw2⟩ := vw
    have b30 := v.b30
    have ht := f10_to (τ := wI (wI τ 9 i (yI (c : Int))) 8 i (yI (w : Int))) v (GM_f gm (fun o j q => by rw [rI_o (by omega), rI_o (by omega)])) hc hw
    rw [hq, oZ_some] at ht
    obtain ⟨τ', r1, r2, r3, r4⟩ := f10_lead v L9 x1 x2 x3 x4 x5 l (qgo m c w) (i + 1) (wI (wI τ 9 i (yI (c : Int))) 8 i (yI (w : Int))) n (by omega) (by omega) vw2 (LW_f l _ lw.2 (fun j _ _ => by rw [rI_o (by omega), rI_o (by omega)])) (GM_f gm (fun o j q => by rw [rI_o (by omega), rI_o (by omega)])) (by rw [rI_o (by omega), rI_o (by omega), h33])
    refine ⟨τ', ?_, ⟨⟨?_, ?_, hw, hc⟩, r2⟩, fun j hj => ⟨?_, ?_⟩, fun o j a b => by rw [r4 o j a b, rI_o a, rI_o b]⟩
    · rw [← r1]
      refine lp_st ?_
      dsimp only
      unfold fX10_drawn_b75
      simp (disch := omega) only [h33, yI_cln, rI_o, rI_s, lw.1]
      rw [if_neg (fun q => by have := (yI_le (by omega) (by omega) (by omega) (by omega)).mp q; omega), if_pos (inb_n (by omega) (by omega)), b1 ht, add1]
      rw [if_pos (inb_n (by omega) (by omega)), if_pos (inb_n (by omega) (by omega)), if_pos (inb_n (by omega) (by omega))]
    · rw [(r3 i (by omega)).1, rI_s]
    · rw [(r3 i (by omega)).2, rI_o (by omega), rI_s]
    · rw [(r3 j (by omega)).1, rI_k (by omega), rI_o (by omega)]
    · rw [(r3 j (by omega)).2, rI_o (by omega), rI_k (by omega)]
theorem f10_again {τ : Sg} {m : Mm} {b size tugs sk q : Nat} {l : List Nat} (v : VS m) (gm : GM τ m) (hb : b < 5) (w : VB1 m b) (h6 : ∀ j, j < 5 → rI τ 6 (5 * b + j) = yI (m 6 (5 * b + j))) (hs : size ≤ 999) (t1 : 1 ≤ tugs) (t11 : tugs ≤ 11) (s1 : sk ≤ 1) (hq : q < 2147483648) (l9 : l.length ≤ 9) (pl : PL τ m l (qsq m b) 0) (h33 : rI τ 0 33 = yI (l.length : Int)) : ∃ τ1 τ', fX10_begin (yI (b : Int)) (yI (size : Int)) (yI (tugs : Int)) (yI (sk : Int)) τ = some τ1 ∧ fX10_towAll (rI (wI τ1 0 29 (yI (q : Int))) 0 33) (wI τ1 0 29 (yI (q : Int))) = some τ' ∧ TM τ' (qE m b tugs sk 1) (qtw m (qE m b tugs sk 1) l (qsq m b) (qT m b size q)) ∧ mT τ τ' := by
  obtain ⟨w0, w1, w2, w3, w4, w5, w6, w7, w8, w9⟩ := VB1_q v w
  have eb := qE_b (tugs := tugs) (sk := sk) (dr := 1) w t1 t11 s1 (by omega)
  have tb : TB (qT m b size q) := ⟨hs, w6, by show size + 0 ≤ 999; omega, hq⟩
  have e6 := h6 0 (by omega)
  rw [Nat.add_zero] at e6
  obtain ⟨τ1, r1, ⟨r22, r23, r24, r25, r26, r27, r28⟩, r3⟩ := f10_begin (τ := τ) (b := b) (k := yI ((qE m b tugs sk 1).1 : Int)) (f := yI ((qT m b size q).2.1 : Int)) (ev := yI ((qE m b tugs sk 1).2.1 : Int)) hb (by rw [e6, w0]; rfl) (by rw [h6 3 (by omega), w3]; rfl) (by rw [h6 4 (by omega), w4]; rfl) (yI (size : Int)) (yI (tugs : Int)) s1
  have e33 : rI (wI τ1 0 29 (yI (q : Int))) 0 33 = yI (l.length : Int) := by rw [rI_k (by omega), r3 0 33 (by omega), h33]
  have em : EM (wI τ1 0 29 (yI (q : Int))) (qE m b tugs sk 1) := ⟨by rw [rI_k (by omega), r22], by rw [rI_k (by omega), r25], by rw [rI_k (by omega), r27]; rfl, by rw [rI_k (by omega), r28]; rfl, fun z => by have : (1 : Nat) = 0 := z; omega⟩
  have tm : TM (wI τ1 0 29 (yI (q : Int))) (qE m b tugs sk 1) (qT m b size q) := ⟨by rw [rI_k (by omega), r23]; rfl, by rw [rI_k (by omega), r24], by rw [rI_k (by omega), r26]; rfl, fun _ => by rw [rI_s]; rfl⟩
  have f1 : ∀ o j, ¬ (o = 0 ∧ 22 ≤ j ∧ j ≤ 29) → rI (wI τ1 0 29 (yI (q : Int))) o j = rI τ o j := fun o j n => by rw [rI_wI, if_neg (by omega), r3 o j (by omega)]
  obtain ⟨τ', s1', s2, s3, s4⟩ := f10_towAll (L := l.length) v eb (by omega) l (qsq m b) 0 (qT m b size q) (wI τ1 0 29 (yI (q : Int))) FU (FU_b (by omega)) (by omega) (PL_f l _ 0 pl (fun j _ _ => ⟨f1 8 j (by omega), f1 9 j (by omega)⟩)) tb (GM_f gm (fun o j z => f1 o j (by omega))) em tm
  refine ⟨τ1, τ', r1, ?_, s3, fun o j a c d e => by rw [s4 o j (by omega), f1 o j (by omega)]⟩
  unfold fX10_towAll fX10_towAll_b0
  rw [e33, show (0 : Int32) = yI ((0 : Nat) : Int) from rfl, b1 s1']
theorem ws_best {σ τ : Sg} {b size tugs sk : Nat} (hb : b < 5) (s : BS σ τ b) (hs : size ≤ 999) (t1 : 1 ≤ tugs) (t11 : tugs ≤ 11) (s1 : sk ≤ 1) (z : qcn (cM τ) (qsq (cM τ) b) ≠ 0) : VW (cM τ) (qbb (cM τ) b size tugs sk).2.2.2.2 (qsq (cM τ) b) ∧ (qbb (cM τ) b size tugs sk).1 ≠ 0 ∧ (qbb (cM τ) b size tugs sk).2.2.2.2.length ≤ 9 := by
  have bb := qbb_b hb s hs t1 t11 s1
  have v := s.1
  obtain ⟨w0, w1, w2, w3, w4, w5, w6, w7, w8, w9⟩ := VB1_q v s.2.2.2.2.1
  have n0 : (qbb (cM τ) b size tugs sk).1 ≠ 0 := by rw [bb.2]; exact z
  refine ⟨?_, n0, (bb.1 n0).2.2.2.2.1⟩
  have hin : (qbb (cM τ) b size tugs sk).2.2.2.2 ∈ qws (cM τ) (qsq (cM τ) b) := best_in (qws (cM τ) (qsq (cM τ) b)) qB0 (fun _ h => h) (fun q => absurd rfl q) n0
  exact qwy_vw v _ _ _ w7 (by omega) rfl hin
theorem s_drawn (a0 a1 a2 a3 a4 : Int32) (hB : isB a2 = true) : SimI Inv (fX9_drawn a0 a1 a2 a3 a4) (fX10_drawn a0 a1 a2 a3 a4) := fun n σ τ _ h => by
  obtain ⟨b, h1, h2, rfl⟩ := yI_ex a0
  obtain ⟨t, h3, h4, rfl⟩ := yI_ex a1
  obtain ⟨sk, hs, rfl⟩ := bool_n hB
  obtain ⟨q, h7, h8, rfl⟩ := yI_ex a3
  obtain ⟨w, h5, h6, rfl⟩ := yI_ex a4
  have hv := h.2.2.1
  have g1 := f9_isBerg (σ := σ) h1 h2 hv.e.1 hv.2.1 hv.2.2.1
  have g2 := f10_isBerg (τ := τ) h1 h2 hv.e.2 hv.2.1 hv.2.2.1
  have g3 := f9_isTugs (σ := σ) h3 h4
  have g4 := f10_areTugs (σ := τ) h3 h4
  have g5 := in_zz h5 h6 (show (0 : Int64).toInt = 0 from rfl) (show (2 : Int64).toInt = 2 from rfl) τ
  unfold fX9_drawn fX9_drawn_b0 fX10_drawn fX10_drawn_b0
  by_cases qb : 0 ≤ b ∧ b < cM τ 0 15
  · rw [bt g1 qb, bt g2 qb]
    dsimp only
    by_cases qt : 1 ≤ t ∧ t ≤ 11
    · rw [bt g3 qt, bt g4 qt]
      dsimp only
      by_cases qq : q < 0
      · rw [if_pos (ltp (v := 0) (b := 0) rfl h7 h8 qq), if_pos (ltp (v := 0) (b := 0) rfl h7 h8 qq)]
        exact ⟨-102, σ, τ, rfl, rfl, Inv_n n σ τ h⟩
      · rw [if_neg (ltn (v := 0) (b := 0) rfl h7 h8 (by omega)), if_neg (ltn (v := 0) (b := 0) rfl h7 h8 (by omega))]
        by_cases qw : 0 ≤ w ∧ w ≤ 2
        · rw [if_neg (ltn (v := 0) (b := 0) rfl h5 h6 (by omega)), if_pos (lep (v := 2) (b := 2) rfl h5 h6 (by omega)), bt g5 qw]
          dsimp only
          obtain ⟨b, rfl⟩ := Int.eq_ofNat_of_zero_le qb.1
          obtain ⟨t, rfl⟩ := Int.eq_ofNat_of_zero_le (show 0 ≤ t by omega)
          obtain ⟨q, rfl⟩ := Int.eq_ofNat_of_zero_le (show 0 ≤ q by omega)
          obtain ⟨w, rfl⟩ := Int.eq_ofNat_of_zero_le qw.1
          obtain ⟨b5, s⟩ := Inv_b h qb.2
          obtain ⟨v, gm, gc, gk, wb, kb, hrow, -⟩ := id s
          obtain ⟨w0, w1, w2, w3, w4, w5, w6, w7, w8, w9⟩ := VB1_q v wb
          obtain ⟨lw, l2⟩ := ws_b v w7 w8 w9
          have hh := f9_hasWay b5 s
          obtain ⟨τ1, r1, r2, r3, r4, r5⟩ := f10_lay_t v gm gc b5 wb hrow w5 (tugs := t) (sk := sk) (by omega) (by omega) hs
          rw [b1 (f10_ownSize b5 s)]
          dsimp only
          rw [b1 r1, r2.1, r5, lw]
          by_cases z : qcn (cM τ) (qsq (cM τ) b) = 0
          · rw [bf hh (fun y => y z), if_pos (eqp (v := 0) (b := 0) rfl (by omega))]
            exact ⟨-1, σ, τ1, rfl, rfl, Inv_n n _ _ (Inv_kT h (kT_r σ) r4)⟩
          · obtain ⟨k1, k2, k3⟩ := ws_best b5 s w5 (tugs := t) (sk := sk) (by omega) (by omega) hs z
            obtain ⟨σ1, u1, u2, u3, u4, ⟨u5, u6, u7⟩, u8⟩ := f8_seek v gk b5 wb kb w5 (tugs := t) (sk := sk) (by omega) (by omega) hs
            obtain ⟨-, a1, a2, a3, a4, a5⟩ := u2.2 k2
            obtain ⟨c1, c2, c3, c4, c5⟩ := r2.2 k2
            rw [bt hh z, if_neg (yI_nl (v := 0) (b := 0) rfl (by omega) (by omega) (by omega))]
            dsimp only
            generalize hl : (qbb (cM τ) b (qsz (cM τ) b) t sk).2.2.2.2 = l at *
            obtain ⟨σ2, x1, x2, x3, x4, x5⟩ := f8_towAgain (q := q) v (GK_k v gk u4) b5 wb (KB_k kb u4) w5 (by omega) (by omega) hs (by omega) u5 u6 u7 u8 a5 k1 k3 a4
            rw [if_pos (inb_n (by omega) b5), if_pos (inb_n (by omega) b5), yI_cln (by omega), kb.2.2.1, w2, b1 u1, b1 x1, x2, x3, x4, lN_yI]
            have s2 := BS_m s r4
            have gm2 : GM τ1 (cM τ) := by have := s2.2.1; rw [mT_core r4] at this; exact this
            have row2 := s2.2.2.2.2.2.2.1
            rw [mT_core r4] at row2
            obtain ⟨τ2, y1, y2, -, y4⟩ := f10_lead (L := l.length) v k3 (yI (b : Int)) (yI (t : Int)) (yI (sk : Int)) (yI (q : Int)) (yI (w : Int)) l (qsq (cM τ) b) 0 τ1 FU (FU_b (by omega)) (by omega) k1 c5 gm2 c4
            have m2 : mT τ1 τ2 := fun o j a b' c d => y4 o j a b'
            have s3 := BS_m s2 m2
            have own := f10_ownSize b5 s3
            rw [mT_core m2, mT_core r4] at own
            have row3 := s3.2.2.2.2.2.2.1
            rw [mT_core m2, mT_core r4] at row3
            have gm3 : GM τ2 (cM τ) := by have := s3.2.1; rw [mT_core m2, mT_core r4] at this; exact this
            obtain ⟨τ3, τ4, d1, d2, d3, d4⟩ := f10_again (q := q) v gm3 b5 wb row3 w5 (tugs := t) (sk := sk) (by omega) (by omega) hs (by omega) k3 y2 (by rw [y4 0 33 (by omega) (by omega), c4])
            rw [mul5, add1, if_pos (inb_n (by omega) (by omega)), yI_cln (by omega), row2 1 (by omega), w1, show (0 : Int32) = yI ((0 : Nat) : Int) from rfl, b1 y1, b1 own]
            dsimp only
            rw [b1 d1, b1 d2, d3.1, d3.2.2.1, d3.2.2.2 (by show (1 : Nat) ≠ 0; omega)]
            have IN := Inv_n n _ _ (Inv_kT h (kT_t u4 x5) (mT_t (mT_t r4 m2) d4))
            by_cases q0 : w = 0
            · rw [if_pos (show yI (w : Int) = yI ((0 : Nat) : Int) from by rw [q0]), if_pos (show yI (w : Int) = yI ((0 : Nat) : Int) from by rw [q0])]
              exact ⟨_, σ2, τ4, rfl, rfl, IN⟩
            · rw [if_neg (yI_nl (v := yI ((0 : Nat) : Int)) (b := 0) rfl (by omega) (by omega) (by omega)), if_neg (yI_nl (v := yI ((0 : Nat) : Int)) (b := 0) rfl (by omega) (by omega) (by omega))]
              by_cases q1 : w = 1
              · rw [if_pos (eqp (v := 1) (b := 1) rfl (by omega)), if_pos (eqp (v := 1) (b := 1) rfl (by omega))]
                exact ⟨_, σ2, τ4, rfl, rfl, IN⟩
              · rw [if_neg (yI_nl (v := 1) (b := 1) rfl (by omega) (by omega) (by omega)), if_neg (yI_nl (v := 1) (b := 1) rfl (by omega) (by omega) (by omega))]
                exact ⟨_, σ2, τ4, rfl, rfl, IN⟩
        · refine ⟨-102, σ, τ, ?_, ?_, Inv_n n σ τ h⟩
          · by_cases y : w < 0
            · rw [if_pos (ltp (v := 0) (b := 0) rfl h5 h6 y)]
            · rw [if_neg (ltn (v := 0) (b := 0) rfl h5 h6 (by omega)), if_neg (len (v := 2) (b := 2) rfl h5 h6 (by omega))]
          · rw [bf g5 qw]
    · rw [bf g3 qt, bf g4 qt]
      exact ⟨-102, σ, τ, rfl, rfl, Inv_n n σ τ h⟩
  · rw [bf g1 qb, bf g2 qb]
    exact ⟨-101, σ, τ, rfl, rfl, Inv_n n σ τ h⟩
