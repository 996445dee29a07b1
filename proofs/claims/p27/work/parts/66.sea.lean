/-! ===== sea, both sides ===== -/
theorem VS_new {m : Mm} {R W H : Nat} {w f : Nat → Int} (e9 : m 0 9 = (R : Int)) (e10 : m 0 10 = (W : Int)) (e11 : m 0 11 = (H : Int)) (r1 : 2 ≤ R) (r2 : R ≤ 5) (w1 : 2 ≤ W) (w2 : W ≤ 6) (hH : H < R * W) (e4 : ∀ i, i < R * W → m 4 i = w i ∧ m 5 i = f i) (gH : w H = 10) (g : ∀ i, i < R * W → 0 ≤ w i ∧ w i ≤ 11 ∧ -1 ≤ f i ∧ f i ≤ 3 ∧ (w i = 10 → (i : Int) = (H : Int))) : VS m ∧ qR m = R ∧ qW m = W ∧ qH m = H := by
  have qr : qR m = R := by unfold qR; rw [e9]; rfl
  have qw : qW m = W := by unfold qW; rw [e10]; rfl
  have qh : qH m = H := by unfold qH; rw [e11]; rfl
  have en : m 0 9 * m 0 10 = ((R * W : Nat) : Int) := by rw [e9, e10]; rfl
  refine ⟨?_, qr, qw, qh⟩
  unfold VS
  rw [en, qh, e9, e10, e11]
  refine ⟨by omega, by omega, by omega, by omega, by omega, by omega, by rw [(e4 H hH).1]; exact gH, fun i hi => ?_⟩
  have hi2 : i < R * W := by omega
  obtain ⟨a1, a2, a3, a4, a5⟩ := g i hi2
  rw [(e4 i hi2).1, (e4 i hi2).2]
  exact ⟨a1, a2, a3, a4, fun q => by have := a5 q; omega⟩
theorem qnx_b {m : Mm} (v : VS m) {i w : Nat} (hi : i < qR m * qW m) : -1 ≤ qnx m i w ∧ qnx m i w < 30 := by
  obtain ⟨-, w1, w2⟩ := v.W
  obtain ⟨-, r1, r2⟩ := v.R
  have b30 := v.b30
  unfold qnx
  cases hq : qto m i w with
  | none => dsimp only; omega
  | some x =>
    have xb := qbes_b r1 r2 w1 w2 hi (qto_i hq).1
    dsimp only
    by_cases z : qL m i = 11 ∨ qcn m x = 0
    · rw [if_pos z]; omega
    · rw [if_neg z]; omega
theorem f6_isSea {σ σ1 : Sg} {k L : Nat} (k1 : fX6_firstWrong σ = some (yI (k : Int), σ1)) (c1 : rI σ1 1 1 = yI (L : Int)) (L64 : L ≤ 64) (kL : k ≤ L) {s : SS} (hs : k = L → PS σ1 s ∧ okS s) : fX6_isSea σ = some (if k = L ∧ isS s then 1 else 0, σ1) := by
  unfold fX6_isSea fX6_isSea_b0
  rw [b1 k1]
  dsimp only
  rw [c1]
  by_cases q : k = L
  · obtain ⟨ps, ok⟩ := hs q
    obtain ⟨R, W, M, H, F⟩ := s
    obtain ⟨h1, h2, h3, h4, h5, h6, h7⟩ := ok
    obtain ⟨p1, p2, p3, p4, p5⟩ := ps
    dsimp only at h1 h2 h3 h4 h5 h6 h7 p1 p2 p3 p4 p5
    rw [if_pos (by rw [q]), p1, p2, p3, p4]
    have W6 : W ≤ 6 := by
      by_cases z : R = 0
      · rw [h2 z]; omega
      · exact (h3 (by omega)).2.1
    by_cases a : R < 1
    · rw [if_pos (ltp (v := 1) (b := 1) rfl (by omega) (by omega) (by omega)), if_neg (fun c => by have : 1 ≤ R := c.2.1; omega)]
    · rw [if_neg (ltn (v := 1) (b := 1) rfl (by omega) (by omega) (by omega))]
      by_cases b : M = W
      · rw [if_pos (by rw [b])]
        by_cases d : H = -1
        · rw [if_pos d, if_neg (show ¬ yI 0 = 1 by decide), if_neg (fun c => c.2.2.2 d)]
        · rw [if_neg d, if_pos (show yI 1 = 1 from rfl), if_pos ⟨q, by omega, b, d⟩]
      · rw [if_neg (fun c => b (by have := yI_inj (by omega) (by omega) (by omega) (by omega) c; omega)), if_neg (fun c => b c.2.2.1)]
  · rw [if_neg (fun c => q (by have := yI_inj (by omega) (by omega) (by omega) (by omega) c; omega)), if_neg (fun c => q c.1)]
theorem f10_notsea {τ τ1 : Sg} {k L : Nat} (k1 : fX10_faultOf τ = some (yI (k : Int), τ1)) (c1 : rI τ1 0 1 = yI (L : Int)) (L64 : L ≤ 64) (kL : k ≤ L) {s : SS} (hs : k = L → PM τ1 s ∧ okS s) (no : ¬ (k = L ∧ isS s)) : fX10_sea τ = some (-103, τ1) := by
  unfold fX10_sea fX10_sea_b0
  rw [b1 k1]
  dsimp only
  rw [c1]
  by_cases q : k = L
  · obtain ⟨ps, ok⟩ := hs q
    obtain ⟨R, W, M, H, F⟩ := s
    obtain ⟨h1, h2, h3, h4, h5, h6, h7⟩ := ok
    obtain ⟨p1, p2, p3, p4, p5⟩ := ps
    dsimp only at h1 h2 h3 h4 h5 h6 h7 p1 p2 p3 p4 p5
    have W6 : W ≤ 6 := by
      by_cases z : R = 0
      · rw [h2 z]; omega
      · exact (h3 (by omega)).2.1
    rw [if_neg (fun c => by have := (yI_lt (by omega) (by omega) (by omega) (by omega)).mp c; omega), p1, p2, p3, p4]
    by_cases a : R = 0
    · rw [if_pos (eqp (v := 0) (b := 0) rfl (by omega))]
    · rw [if_neg (yI_nl (v := 0) (b := 0) rfl (by omega) (by omega) (by omega))]
      by_cases b : M = W
      · rw [if_pos (by rw [b])]
        by_cases d : H = -1
        · rw [if_pos (eqp (v := -1) (b := -1) rfl d)]
        · exact absurd ⟨q, by show 1 ≤ R; omega, b, d⟩ no
      · rw [if_neg (fun c => b (by have := yI_inj (by omega) (by omega) (by omega) (by omega) c; omega))]
  · rw [if_pos ((yI_lt (by omega) (by omega) (by omega) (by omega)).mpr (by omega))]
theorem s_sea : SimI Inv fX9_sea fX10_sea := fun n σ τ hn h => by
  obtain ⟨L, hL⟩ := Int.eq_ofNat_of_zero_le h.1.2.1
  obtain ⟨e1, e2, e3, e4, e5⟩ := h.1.rd hL
  obtain ⟨k, σ1, k1, k2, k3, k4⟩ := f6_firstWrong e1 e3 e4
  obtain ⟨k', τ1, g1, g2, g3, g4⟩ := f10_faultOf e2 e3 e5
  have ek := wrg_u k2 g2
  subst ek
  have c1 : rI σ1 1 1 = yI (L : Int) := by rw [k3 1 1 (by omega), e1]
  have c2 : rI τ1 0 1 = yI (L : Int) := by rw [g3 0 1 (by omega) (by omega) (by omega), e2]
  have bad : ∀ s : SS, (k = L → scn (fun j => cM τ 1 j) L = some s) → ¬ (k = L ∧ isS s) → ∃ r σ' τ', fX9_sea σ = some (r, σ') ∧ fX10_sea τ = some (r, τ') ∧ Inv (n + 1) σ' τ' := fun s hs no => by
    refine ⟨-103, σ1, τ1, ?_, f10_notsea g1 c2 e3 k2.1 (fun q => ⟨(g4 s q (hs q)).1, scn_ok L s (hs q)⟩) no, ?_⟩
    · unfold fX9_sea fX9_sea_b0
      rw [b1 (f6_isSea k1 c1 e3 k2.1 (fun q => ⟨k4 s q (hs q), scn_ok L s (hs q)⟩)), if_neg no]
      dsimp only
      rw [if_pos rfl]
    · unfold Inv
      rw [pFr_core k3, mFr_core g3]
      exact IV_n h
  by_cases q : k = L
  · cases hs : scn (fun j => cM τ 1 j) L with
    | none =>
      have := k2.2.1
      rw [q] at this
      exact absurd hs this
    | some s =>
      by_cases i : isS s
      · have ps := k4 s q hs
        obtain ⟨pm, ar⟩ := g4 s q hs
        have ok := scn_ok L s hs
        have gd := scn_gd L s hs
        have e12 : rI τ1 0 12 = yI (cM τ 0 12) := by rw [g3 0 12 (by omega) (by omega) (by omega), cM_r (o := 0) (k := 12) rfl]
        obtain ⟨τ', m1, ⟨m9, m10, m11, m15, m20, m12, m01⟩, m3, m4⟩ := f10_newsea hs i c2 q pm ar g1 e3 e12
        obtain ⟨-, s1, s2⟩ := f9_seas h.2.1 hn
        have isea := f6_isSea k1 c1 e3 k2.1 (fun q => ⟨k4 s q hs, ok⟩)
        rw [if_pos ⟨q, i⟩] at isea
        obtain ⟨h1, h2, h3, h4, h5, h6, h7⟩ := ok
        have hW := h3 i.1
        obtain ⟨gd1, gd2⟩ := gd
        obtain ⟨hh1, hh2, hh3⟩ := gd1 i.2.2
        have ea : atS s = (s.1 + 1) * s.2.1 := by
          unfold atS
          rw [i.2.1, Nat.add_mul, Nat.mul_comm s.1 s.2.1]; omega
        rw [ea] at gd2 hh2
        obtain ⟨H, hH⟩ := Int.eq_ofNat_of_zero_le hh1
        have N30 : (s.1 + 1) * s.2.1 ≤ 5 * 6 := Nat.mul_le_mul (by omega) hW.2.1
        rw [hH, Int.toNat_natCast] at hh3
        rw [hH] at hh2 m11
        have n9 : cM τ' 0 9 = ((s.1 + 1 : Nat) : Int) := core_y rfl m9 (by omega) (by omega)
        have n10 : cM τ' 0 10 = (s.2.1 : Int) := core_y rfl m10 (by omega) (by omega)
        have n11 : cM τ' 0 11 = (H : Int) := core_y rfl m11 (by omega) (by omega)
        have n4 : ∀ j, j < (s.1 + 1) * s.2.1 → cM τ' 4 j = scw (fun j => cM τ 1 j) L j ∧ cM τ' 5 j = scf (fun j => cM τ 1 j) L j := fun j hj => by
          obtain ⟨b1', b2', b3', b4', -⟩ := gd2 j hj
          exact ⟨core_y (o := 4) (k := j) rfl (m3 j hj).1 (by omega) (by omega), core_y (o := 5) (k := j) rfl (m3 j hj).2 (by omega) (by omega)⟩
        obtain ⟨vs, qr, qw, qh⟩ := VS_new (m := cM τ') n9 n10 n11 (by have := i.1; omega) (by omega) hW.1 hW.2.1 (by omega) n4 hh3 (fun j hj => by rw [← hH]; exact gd2 j hj)
        obtain ⟨t, l1, ⟨l2, l3, l4⟩, l5, l6⟩ := f7_lay (m := cM τ') hs i c1 e3 (fun j hj => by rw [k3 2 j (by omega)]; exact e4 j hj) vs qr qw (by rw [qh, hH]) n4
        have lc : ∀ o j, ¬ (4 ≤ o ∧ o < 40) → ¬ (o = 1 ∧ 2 ≤ j) → rI t o j = rI σ o j := fun o j a b => by rw [l6 o j a, k3 o j b]
        have hl := h.2.2.2.2.1
        have hl2 := hl.2.2.1
        have hl1 := hl.2.1
        have e49 : rI t 49 3 = yI (cM τ 0 20) := by rw [lc 49 3 (by omega) (by omega), cC_r (o := 49) (k := 3) rfl, hl.1]
        have e010 : rI t 0 10 = yI (cM τ 0 12) := by rw [lc 0 10 (by omega) (by omega), cC_r (o := 0) (k := 10) rfl, h.2.1.1]
        have ecut : fX4_cutTo 0 (wI (wI t 1 1 0) 0 9 0) = some (wI (wI (wI t 1 1 0) 0 9 0) 49 3 (yI 0)) := by
          unfold fX4_cutTo fX4_cutTo_b0
          rw [rI_o (by omega), rI_o (by omega), e49, yI_0, imin_z (by omega) (by omega) (by omega) (by omega), imax_z (by omega) (by omega) (by omega) (by omega), show max 0 (min (cM τ 0 20) 0) = 0 by omega]
        have esea : fX9_sea σ = some (yI (((s.1 + 1) * s.2.1 : Nat) : Int), wI (wI (wI (wI t 1 1 0) 0 9 0) 49 3 (yI 0)) 0 10 (yI (cM τ 0 12 + 1))) := by
          unfold fX9_sea fX9_sea_b0
          rw [b1 isea]
          dsimp only
          rw [if_neg (show ¬ (1 : Int32) = 0 by decide), b1 l1]
          unfold fX6_clear fX6_clear_b0
          rw [b1 rfl]
          dsimp only
          rw [b1 ecut]
          simp (disch := omega) only [rI_o, rI_k, l2, e010]
          rw [yI_1, yI_add]
        refine ⟨_, _, τ', esea, m1, ?_⟩
        have fo : ∀ o j, o ≠ 0 → o ≠ 1 → o ≠ 49 → rI (wI (wI (wI (wI t 1 1 0) 0 9 0) 49 3 (yI 0)) 0 10 (yI (cM τ 0 12 + 1))) o j = rI t o j := fun o j a b c => by
          rw [rI_o a, rI_o c, rI_o a, rI_o b]
        refine IV_sea h vs ⟨?_, ?_, ?_, fun j hj => ?_⟩ ?_ ?_ ?_ ?_ ?_ ?_ (fun j hj => ?_) ⟨?_, ?_, ?_⟩ ?_ ?_ ?_ ?_ ?_ ?_ ?_
        · rw [n9, n10]
          exact core_y (o := 4) (k := 5) rfl (by rw [fo 4 5 (by omega) (by omega) (by omega), l2]; rfl) (by have := N30; omega) (by omega)
        · rw [n10]
          exact core_y (o := 4) (k := 6) rfl (by rw [fo 4 6 (by omega) (by omega) (by omega), l3]) (by omega) (by omega)
        · rw [n11]
          exact core_y (o := 4) (k := 7) rfl (by rw [fo 4 7 (by omega) (by omega) (by omega), l4, hH]) (by omega) (by omega)
        · have hj2 : j < (s.1 + 1) * s.2.1 := by
            rw [n9, n10] at hj
            exact Int.ofNat_lt.mp hj
          have hj3 : j < qR (cM τ') * qW (cM τ') := by rw [qr, qw]; exact hj2
          obtain ⟨x1, x2, x3, x4, x5⟩ := l5 j hj2
          obtain ⟨y1, y2, y3, y4, -⟩ := vs.2.2.2.2.2.2.2 j hj
          have y5 := q9 vs hj3
          have y6 := qcn_b vs hj3
          refine ⟨core_y (o := 5) (k := j) rfl (by rw [fo 5 j (by omega) (by omega) (by omega), x1]) (by omega) (by omega), core_y (o := 6) (k := j) rfl (by rw [fo 6 j (by omega) (by omega) (by omega), x2]) (by omega) (by omega), core_y (o := 7) (k := j) rfl (by rw [fo 7 j (by omega) (by omega) (by omega), x3]) (by omega) (by omega), core_y (o := 8) (k := j) rfl (by rw [fo 8 j (by omega) (by omega) (by omega), x4]) (by omega) (by omega), fun w hw => ?_⟩
          have y7 := qnx_b (w := w) vs hj3
          exact core_y (o := 10 + j) (k := w) (nsC_mid (by omega) (by omega)) (by rw [fo (10 + j) w (by omega) (by omega) (by omega), x5 w hw]) (by omega) (by omega)
        · exact core_y (o := 1) (k := 1) (x := 0) rfl (by rw [rI_o (by omega), rI_o (by omega), rI_o (by omega), rI_s]; rfl) (by omega) (by omega)
        · exact core_y (o := 0) (k := 1) rfl m01 (by omega) (by omega)
        · rw [h.2.1.1]
          exact core_y (o := 0) (k := 10) rfl rI_s (by omega) (by omega)
        · exact core_y (o := 0) (k := 12) rfl m12 (by omega) (by omega)
        · exact core_y (o := 0) (k := 9) (x := 0) rfl (by rw [rI_k (by omega), rI_o (by omega), rI_s]; rfl) (by omega) (by omega)
        · exact core_y (o := 0) (k := 15) rfl m15 (by omega) (by omega)
        · exact core_e (by rw [fo 41 j (by omega) (by omega) (by omega), lc 41 j (by omega) (by omega)])
        · exact core_e (by rw [m4 0 17 (by omega) (by omega) (by omega), g3 0 17 (by omega) (by omega) (by omega)])
        · exact core_e (by rw [m4 0 18 (by omega) (by omega) (by omega), g3 0 18 (by omega) (by omega) (by omega)])
        · exact core_e (by rw [m4 0 19 (by omega) (by omega) (by omega), g3 0 19 (by omega) (by omega) (by omega)])
        · exact core_y (o := 49) (k := 3) (x := 0) rfl (by rw [rI_o (by omega), rI_s]) (by omega) (by omega)
        · exact core_y (o := 0) (k := 20) rfl m20 (by omega) (by omega)
        · exact core_e (by rw [rI_k (by omega), rI_o (by omega), rI_k (by omega), rI_o (by omega), lc 0 11 (by omega) (by omega)])
        · exact core_e (by rw [m4 0 40 (by omega) (by omega) (by omega), g3 0 40 (by omega) (by omega) (by omega)])
        · exact core_e (by rw [m4 0 43 (by omega) (by omega) (by omega), g3 0 43 (by omega) (by omega) (by omega)])
        · exact core_e (by rw [m4 0 44 (by omega) (by omega) (by omega), g3 0 44 (by omega) (by omega) (by omega)])
        · exact core_e (by rw [fo 53 5 (by omega) (by omega) (by omega), lc 53 5 (by omega) (by omega)])
      · exact bad s (fun _ => hs) (fun c => i c.2)
  · exact bad (0, 0, 0, 0, 0) (fun c => absurd c q) (fun c => q c.1)
