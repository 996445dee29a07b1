/-! ===== letters, fault, sea, bergs, coins: what the class answers, with a ghost beside it ===== -/
theorem l_letters (w : Int64) {n k L : Nat} {σ τ : Sg} (h : Inv n σ τ) (hL : cM τ 0 1 = (L : Int)) (e : sc w.toBitVec.toNat 8 = some k) (q : L + k ≤ 64) : ∃ σ' τ', fX9_letters w σ = some (yI ((L + k : Nat) : Int), σ') ∧ Inv (n + 1) σ' τ' ∧ cM τ' 0 1 = ((L + k : Nat) : Int) ∧ (∀ j, j < k → cM τ' 1 (L + j) = (bw w.toBitVec.toNat j : Int)) ∧ (∀ j, j < L → cM τ' 1 j = cM τ 1 j) ∧ ∀ o j, ¬ (o = 0 ∧ j = 1) → o ≠ 1 → cM τ' o j = cM τ o j := by
  have hp := h.1
  have e1 : rI σ 1 1 = yI (L : Int) := by rw [cC_r (o := 1) (k := 1) rfl, hp.1, hL]
  have e2 : rI τ 0 1 = yI (L : Int) := by rw [cM_r (o := 0) (k := 1) rfl, hL]
  obtain ⟨t1, a1, a2⟩ := f6_scan w σ
  have hk := sc_ok e
  rw [e] at a2
  obtain ⟨σ', k1, k2, k3, k4, k5⟩ := f6_put w e1 hk.1 q
  obtain ⟨τ', g1, g2, g3, g4, g5⟩ := f10_put w e2 hk.1 q
  have y1 : cM τ' 0 1 = ((L + k : Nat) : Int) := by
    show core nsM _ 0 1 = _
    rw [core_g rfl, g2, yI_int (by omega) (by omega)]
  have y2 : ∀ j, j < k → cM τ' 1 (L + j) = (bw w.toBitVec.toNat j : Int) := fun j hj => by
    have hb := hk.2 j hj
    show core nsM _ 1 (L + j) = _
    rw [core_g rfl, g3 j hj, yI_int (by omega) (by omega)]
  have y3 : ∀ j, j < L → cM τ' 1 j = cM τ 1 j := fun j hj => core_e (g4 j hj)
  refine ⟨σ', τ', ?_, IV_page h (fun o j o1 o2 => core_e (k5 o j o1 o2)) (fun o j o1 o2 => core_e (g5 o j o1 o2)) ⟨?_, ?_, ?_, fun j hj => ?_⟩, y1, y2, y3, fun o j o1 o2 => core_e (g5 o j o1 o2)⟩
  · have u : fX6_append w σ = some (yI ((L + k : Nat) : Int), σ') := by
      unfold fX6_append fX6_append_b0
      rw [b1 a1, a2]
      show (if (rI σ 1 1) + yI (k : Int) ≤ (64 : Int32) then _ else _) = _
      rw [e1, addn, if_pos (lep (v := 64) (b := 64) rfl (by omega) (by omega) (by omega)), b1 k1, k2]
    unfold fX9_letters fX9_letters_b0
    rw [u]
    rfl
  · show core nsC _ 1 1 = core nsM _ 0 1
    rw [core_g rfl, core_g rfl, k2, g2]
  · rw [y1]; omega
  · rw [y1]; omega
  · rw [y1] at hj
    by_cases lj : j < L
    · have z : cC σ' 2 j = cC σ 2 j := core_e (k4 j lj)
      rw [y3 j lj, z]
      exact hp.2.2.2 j (by omega)
    · obtain ⟨i, rfl⟩ : ∃ i, j = L + i := ⟨j - L, by omega⟩
      have hb := hk.2 i (by omega)
      rw [y2 i (by omega)]
      refine ⟨?_, by omega, by omega⟩
      show core nsC σ' 2 (L + i) = _
      rw [core_g rfl, k3 i (by omega), yI_int (by omega) (by omega)]
theorem l_fault {n L : Nat} {σ τ : Sg} (h : Inv n σ τ) (hL : cM τ 0 1 = (L : Int)) (hs : scn (fun j => cM τ 1 j) L ≠ none) : ∃ σ', fX9_fault σ = some (yI (L : Int), σ') ∧ Inv n σ' τ := by
  obtain ⟨e1, e2, e3, e4, e5⟩ := h.1.rd hL
  obtain ⟨k, σ', k1, k2, k3, -⟩ := f6_firstWrong e1 e3 e4
  have ek := wrg_u k2 ⟨Nat.le_refl L, hs, Or.inl rfl⟩
  subst ek
  refine ⟨σ', ?_, ?_⟩
  · unfold fX9_fault fX9_fault_b0
    rw [b1 k1]
  · unfold Inv
    rw [pFr_core k3]
    exact h
theorem l_sea {n L : Nat} {σ τ : Sg} {s : SS} (hn : n < 512) (h : Inv n σ τ) (hL : cM τ 0 1 = (L : Int)) (hs : scn (fun j => cM τ 1 j) L = some s) (i : isS s) (z12 : cM τ 0 12 = 0) : ∃ σ' τ', fX9_sea σ = some (yI (((s.1 + 1) * s.2.1 : Nat) : Int), σ') ∧ Inv (n + 1) σ' τ' ∧ cM τ' 0 9 = ((s.1 + 1 : Nat) : Int) ∧ cM τ' 0 10 = (s.2.1 : Int) ∧ cM τ' 0 11 = s.2.2.2.1 ∧ (∀ j, j < (s.1 + 1) * s.2.1 → cM τ' 4 j = scw (fun j => cM τ 1 j) L j ∧ cM τ' 5 j = scf (fun j => cM τ 1 j) L j) ∧ cM τ' 0 12 = cM τ 0 12 + 1 ∧ cM τ' 0 15 = 0 ∧ cM τ' 0 17 = cM τ 0 17 ∧ cM τ' 0 18 = cM τ 0 18 ∧ cM τ' 0 19 = cM τ 0 19 := by
  obtain ⟨e1, e2, e3, e4, e5⟩ := h.1.rd hL
  obtain ⟨k, σ1, k1, k2, k3, k4⟩ := f6_firstWrong e1 e3 e4
  obtain ⟨k', τ1, g1, g2, g3, g4⟩ := f10_faultOf e2 e3 e5
  have ek := wrg_u k2 g2
  subst ek
  have q := wrg_u k2 ⟨Nat.le_refl L, by rw [hs]; exact (fun x => by cases x), Or.inl rfl⟩
  have c1 : rI σ1 1 1 = yI (L : Int) := by rw [k3 1 1 (by omega), e1]
  have c2 : rI τ1 0 1 = yI (L : Int) := by rw [g3 0 1 (by omega) (by omega) (by omega), e2]
  have ps := k4 s q hs
  obtain ⟨pm, ar⟩ := g4 s q hs
  have ok := scn_ok L s hs
  have gd := scn_gd L s hs
  have e12 : rI τ1 0 12 = yI (cM τ 0 12) := by rw [g3 0 12 (by omega) (by omega) (by omega), cM_r (o := 0) (k := 12) rfl]
  obtain ⟨τ', m1, ⟨m9, m10, m11, m15, m20, m12, m01⟩, m3, m4⟩ := f10_newsea hs i c2 q pm ar g1 e3 e12
  obtain ⟨-, s1, s2⟩ := f9_seas h.2.1 hn
  have isea := f6_isSea k1 c1 e3 k2.1 (fun q => ⟨k4 s q hs, ok⟩)
  rw [if_pos ⟨q, i⟩] at isea
  obtain ⟨h1, h2, h3, h4, h5, h6, h7⟩ := ok
  have hW := h3 i.1
  obtain ⟨gd1, gd2⟩ := gd
  obtain ⟨hh1, hh2, hh3⟩ := gd1 i.2.2
  have ea : atS s = (s.1 + 1) * s.2.1 := by
    unfold atS
    rw [i.2.1, Nat.add_mul, Nat.mul_comm s.1 s.2.1]; omega
  rw [ea] at gd2 hh2
  obtain ⟨H, hH⟩ := Int.eq_ofNat_of_zero_le hh1
  have N30 : (s.1 + 1) * s.2.1 ≤ 5 * 6 := Nat.mul_le_mul (by omega) hW.2.1
  rw [hH, Int.toNat_natCast] at hh3
  rw [hH] at hh2 m11
  have n9 : cM τ' 0 9 = ((s.1 + 1 : Nat) : Int) := core_y rfl m9 (by omega) (by omega)
  have n10 : cM τ' 0 10 = (s.2.1 : Int) := core_y rfl m10 (by omega) (by omega)
  have n11 : cM τ' 0 11 = (H : Int) := core_y rfl m11 (by omega) (by omega)
  have n4 : ∀ j, j < (s.1 + 1) * s.2.1 → cM τ' 4 j = scw (fun j => cM τ 1 j) L j ∧ cM τ' 5 j = scf (fun j => cM τ 1 j) L j := fun j hj => by
    obtain ⟨b1', b2', b3', b4', -⟩ := gd2 j hj
    exact ⟨core_y (o := 4) (k := j) rfl (m3 j hj).1 (by omega) (by omega), core_y (o := 5) (k := j) rfl (m3 j hj).2 (by omega) (by omega)⟩
  obtain ⟨vs, qr, qw, qh⟩ := VS_new (m := cM τ') n9 n10 n11 (by have := i.1; omega) (by omega) hW.1 hW.2.1 (by omega) n4 hh3 (fun j hj => by rw [← hH]; exact gd2 j hj)
  obtain ⟨t, l1, ⟨l2, l3, l4⟩, l5, l6⟩ := f7_lay (m := cM τ') hs i c1 e3 (fun j hj => by rw [k3 2 j (by omega)]; exact e4 j hj) vs qr qw (by rw [qh, hH]) n4
  have lc : ∀ o j, ¬ (4 ≤ o ∧ o < 40) → ¬ (o = 1 ∧ 2 ≤ j) → rI t o j = rI σ o j := fun o j a b => by rw [l6 o j a, k3 o j b]
  have hl := h.2.2.2.2.1
  have hl2 := hl.2.2.1
  have hl1 := hl.2.1
  have e49 : rI t 49 3 = yI (cM τ 0 20) := by rw [lc 49 3 (by omega) (by omega), cC_r (o := 49) (k := 3) rfl, hl.1]
  have e010 : rI t 0 10 = yI (cM τ 0 12) := by rw [lc 0 10 (by omega) (by omega), cC_r (o := 0) (k := 10) rfl, h.2.1.1]
  have ecut : fX4_cutTo 0 (wI (wI t 1 1 0) 0 9 0) = some (wI (wI (wI t 1 1 0) 0 9 0) 49 3 (yI 0)) := by
    unfold fX4_cutTo fX4_cutTo_b0
    rw [rI_o (by omega), rI_o (by omega), e49, yI_0, imin_z (by omega) (by omega) (by omega) (by omega), imax_z (by omega) (by omega) (by omega) (by omega), show max 0 (min (cM τ 0 20) 0) = 0 by omega]
  have esea : fX9_sea σ = some (yI (((s.1 + 1) * s.2.1 : Nat) : Int), wI (wI (wI (wI t 1 1 0) 0 9 0) 49 3 (yI 0)) 0 10 (yI (cM τ 0 12 + 1))) := by
    unfold fX9_sea fX9_sea_b0
    rw [b1 isea]
    dsimp only
    rw [if_neg (show ¬ (1 : Int32) = 0 by decide), b1 l1]
    unfold fX6_clear fX6_clear_b0
    rw [b1 rfl]
    dsimp only
    rw [b1 ecut]
    simp (disch := omega) only [rI_o, rI_k, l2, e010]
    rw [yI_1, yI_add]
  refine ⟨_, τ', esea, ?_, n9, n10, by rw [n11, hH], n4, ?_, ?_, ?_, ?_, ?_⟩
  rotate_left
  · exact core_y (o := 0) (k := 12) (x := cM τ 0 12 + 1) rfl m12 (by omega) (by omega)
  · exact core_y (o := 0) (k := 15) (x := 0) rfl m15 (by omega) (by omega)
  · exact core_e (by rw [m4 0 17 (by omega) (by omega) (by omega), g3 0 17 (by omega) (by omega) (by omega)])
  · exact core_e (by rw [m4 0 18 (by omega) (by omega) (by omega), g3 0 18 (by omega) (by omega) (by omega)])
  · exact core_e (by rw [m4 0 19 (by omega) (by omega) (by omega), g3 0 19 (by omega) (by omega) (by omega)])
  have fo : ∀ o j, o ≠ 0 → o ≠ 1 → o ≠ 49 → rI (wI (wI (wI (wI t 1 1 0) 0 9 0) 49 3 (yI 0)) 0 10 (yI (cM τ 0 12 + 1))) o j = rI t o j := fun o j a b c => by
    rw [rI_o a, rI_o c, rI_o a, rI_o b]
  refine IV_sea h vs ⟨?_, ?_, ?_, fun j hj => ?_⟩ ?_ ?_ ?_ ?_ ?_ ?_ (fun j hj => ?_) ⟨?_, ?_, ?_⟩ ?_ ?_ ?_ ?_ ?_ ?_ ?_
  · rw [n9, n10]
    exact core_y (o := 4) (k := 5) rfl (by rw [fo 4 5 (by omega) (by omega) (by omega), l2]; rfl) (by have := N30; omega) (by omega)
  · rw [n10]
    exact core_y (o := 4) (k := 6) rfl (by rw [fo 4 6 (by omega) (by omega) (by omega), l3]) (by omega) (by omega)
  · rw [n11]
    exact core_y (o := 4) (k := 7) rfl (by rw [fo 4 7 (by omega) (by omega) (by omega), l4, hH]) (by omega) (by omega)
  · have hj2 : j < (s.1 + 1) * s.2.1 := by
      rw [n9, n10] at hj
      exact Int.ofNat_lt.mp hj
    have hj3 : j < qR (cM τ') * qW (cM τ') := by rw [qr, qw]; exact hj2
    obtain ⟨x1, x2, x3, x4, x5⟩ := l5 j hj2
    obtain ⟨y1, y2, y3, y4, -⟩ := vs.2.2.2.2.2.2.2 j hj
    have y5 := q9 vs hj3
    have y6 := qcn_b vs hj3
    refine ⟨core_y (o := 5) (k := j) rfl (by rw [fo 5 j (by omega) (by omega) (by omega), x1]) (by omega) (by omega), core_y (o := 6) (k := j) rfl (by rw [fo 6 j (by omega) (by omega) (by omega), x2]) (by omega) (by omega), core_y (o := 7) (k := j) rfl (by rw [fo 7 j (by omega) (by omega) (by omega), x3]) (by omega) (by omega), core_y (o := 8) (k := j) rfl (by rw [fo 8 j (by omega) (by omega) (by omega), x4]) (by omega) (by omega), fun w hw => ?_⟩
    have y7 := qnx_b (w := w) vs hj3
    exact core_y (o := 10 + j) (k := w) (nsC_mid (by omega) (by omega)) (by rw [fo (10 + j) w (by omega) (by omega) (by omega), x5 w hw]) (by omega) (by omega)
  · exact core_y (o := 1) (k := 1) (x := 0) rfl (by rw [rI_o (by omega), rI_o (by omega), rI_o (by omega), rI_s]; rfl) (by omega) (by omega)
  · exact core_y (o := 0) (k := 1) rfl m01 (by omega) (by omega)
  · rw [h.2.1.1]
    exact core_y (o := 0) (k := 10) rfl rI_s (by omega) (by omega)
  · exact core_y (o := 0) (k := 12) rfl m12 (by omega) (by omega)
  · exact core_y (o := 0) (k := 9) (x := 0) rfl (by rw [rI_k (by omega), rI_o (by omega), rI_s]; rfl) (by omega) (by omega)
  · exact core_y (o := 0) (k := 15) rfl m15 (by omega) (by omega)
  · exact core_e (by rw [fo 41 j (by omega) (by omega) (by omega), lc 41 j (by omega) (by omega)])
  · exact core_e (by rw [m4 0 17 (by omega) (by omega) (by omega), g3 0 17 (by omega) (by omega) (by omega)])
  · exact core_e (by rw [m4 0 18 (by omega) (by omega) (by omega), g3 0 18 (by omega) (by omega) (by omega)])
  · exact core_e (by rw [m4 0 19 (by omega) (by omega) (by omega), g3 0 19 (by omega) (by omega) (by omega)])
  · exact core_y (o := 49) (k := 3) (x := 0) rfl (by rw [rI_o (by omega), rI_s]) (by omega) (by omega)
  · exact core_y (o := 0) (k := 20) rfl m20 (by omega) (by omega)
  · exact core_e (by rw [rI_k (by omega), rI_o (by omega), rI_k (by omega), rI_o (by omega), lc 0 11 (by omega) (by omega)])
  · exact core_e (by rw [m4 0 40 (by omega) (by omega) (by omega), g3 0 40 (by omega) (by omega) (by omega)])
  · exact core_e (by rw [m4 0 43 (by omega) (by omega) (by omega), g3 0 43 (by omega) (by omega) (by omega)])
  · exact core_e (by rw [m4 0 44 (by omega) (by omega) (by omega), g3 0 44 (by omega) (by omega) (by omega)])
  · exact core_e (by rw [fo 53 5 (by omega) (by omega) (by omega), lc 53 5 (by omega) (by omega)])
theorem l_berg {n b : Nat} {σ τ : Sg} (h : Inv n σ τ) (hb : cM τ 0 15 = (b : Int)) (q5 : b < 5) {k s z f x : Int} (qk : 0 ≤ k ∧ k ≤ 4) (qs : (0 ≤ s ∧ s < cM τ 0 9 * cM τ 0 10) ∧ cM τ 4 s.toNat ≤ 9) (qz : 10 ≤ z ∧ z ≤ 999) (qf : 0 ≤ f ∧ f ≤ 99) (qx : (k = 2 → 2 ≤ x ∧ x ≤ 9) ∧ (k ≠ 2 → x = 0)) : ∃ σ' τ', fX9_berg (yI k) (yI s) (yI z) (yI f) (yI x) σ = some (yI (b : Int), σ') ∧ Inv (n + 1) σ' τ' ∧ cM τ' = up (up (up (up (up (up (cM τ) 6 (5 * b) k) 6 (5 * b + 1) s) 6 (5 * b + 2) z) 6 (5 * b + 3) f) 6 (5 * b + 4) x) 0 15 ((b + 1 : Nat) : Int) := by
  have hq := h.2.1
  have hv := h.2.2.1
  have hS := hq.S
  have h1 : -2147483648 ≤ k := by omega
  have h2 : k < 2147483648 := by omega
  have h3 : -2147483648 ≤ s := by omega
  have h4 : s < 2147483648 := by have := hS.2.2; omega
  have h5 : -2147483648 ≤ z := by omega
  have h6 : z < 2147483648 := by omega
  have h7 : -2147483648 ≤ f := by omega
  have h8 : f < 2147483648 := by omega
  have h9 : -2147483648 ≤ x := by omega
  have h10 : x < 2147483648 := by omega
  have e0 : rI σ 4 5 = yI (cM τ 0 9 * cM τ 0 10) := by rw [cC_r (o := 4) (k := 5) rfl, hS.1]
  have g1 := f9_isKind (σ := σ) h1 h2
  have g3 := f7_has h3 h4 e0 hS.2.1 hS.2.2
  have g5 := f9_isSize (σ := σ) h5 h6
  have g7 := f9_isFoot (σ := σ) h7 h8
  have g9 := f0_mayBreak (σ := σ) h1 h2 h9 h10
  have gw : fX7_hasWarmth (yI s) σ = some (if (0 ≤ s ∧ s < cM τ 0 9 * cM τ 0 10) ∧ cM τ 4 s.toNat ≤ 9 then 1 else 0, σ) := by
    unfold fX7_hasWarmth fX7_hasWarmth_b0
    by_cases q : 0 ≤ s ∧ s < cM τ 0 9 * cM τ 0 10
    · obtain ⟨i, rfl⟩ := Int.eq_ofNat_of_zero_le q.1
      obtain ⟨vs, vt⟩ := hq.sea (by omega)
      obtain ⟨e5, -⟩ := vt.2.2.2 i q.2
      obtain ⟨w1, w2, -⟩ := vs.2.2.2.2.2.2.2 i q.2
      rw [bt g3 q]
      dsimp only
      rw [if_pos (inb_t h4 (by omega) (by omega)), yI_cln (by omega), cC_r (o := 5) (k := i) rfl, e5, Int.toNat_natCast]
      by_cases q2 : cM τ 4 i ≤ 9
      · rw [if_neg (gen (v := 10) (b := 10) rfl (by omega) (by omega) (by omega)), if_pos ⟨q, q2⟩]
      · rw [if_pos (gep (v := 10) (b := 10) rfl (by omega) (by omega) (by omega)), if_neg (fun q3 => q2 q3.2)]
    · rw [bf g3 q, if_neg (fun q3 => q q3.1)]
  have e9 : rI σ 0 9 = yI (b : Int) := by rw [hv.e.1, hb]
  have u1 : fX9_berg (yI k) (yI s) (yI z) (yI f) (yI x) σ = if b < 5 then some (yI (b : Int), wI (wI (wI (wI (wI (wI (wI (wI σ (76 + b) 0 (yI k)) (76 + b) 1 (yI s)) (76 + b) 2 (yI z)) (76 + b) 3 (yI f)) (76 + b) 4 (yI x)) (76 + b) 5 (yI (if k = 1 ∨ k = 4 then 1 else 0))) 65 b 0) 0 9 (yI ((b + 1 : Nat) : Int))) else some (-104, σ) := by
    unfold fX9_berg fX9_berg_b0
    rw [bt g1 qk]
    dsimp only
    rw [bt gw qs]
    dsimp only
    rw [bt g5 qz]
    dsimp only
    rw [bt g7 qf]
    dsimp only
    rw [bt g9 qx]
    dsimp only
    rw [e9]
    by_cases q5 : b < 5
    · rw [if_pos (ltp (v := 5) (b := 5) rfl (by omega) (by omega) (by omega)), if_pos (inb_n (by omega) q5), yI_cln (by omega), b1 (f0_become h1 h2 _ _ _ _)]
      simp (disch := omega) only [rI_o, e9]
      rw [b1 (f3_forget q5)]
      simp (disch := omega) only [rI_o, e9, rI_s, add1]
      rw [if_pos q5, show yI ((b + 1 : Nat) : Int) - 1 = yI (b : Int) from by rw [yI_1, yI_sub]; congr 1; omega]
    · rw [if_neg (ltn (v := 5) (b := 5) rfl (by omega) (by omega) (by omega)), if_neg q5]
  rw [if_pos q5] at u1
  have bq : 0 ≤ (if k = 1 ∨ k = 4 then (1 : Int) else 0) ∧ (if k = 1 ∨ k = 4 then (1 : Int) else 0) ≤ 1 := by omega
  have ec : cC (wI (wI (wI (wI (wI (wI (wI (wI σ (76 + b) 0 (yI k)) (76 + b) 1 (yI s)) (76 + b) 2 (yI z)) (76 + b) 3 (yI f)) (76 + b) 4 (yI x)) (76 + b) 5 (yI (if k = 1 ∨ k = 4 then 1 else 0))) 65 b 0) 0 9 (yI ((b + 1 : Nat) : Int))) = up (up (up (up (up (up (up (up (cC σ) (76 + b) 0 k) (76 + b) 1 s) (76 + b) 2 z) (76 + b) 3 f) (76 + b) 4 x) (76 + b) 5 (if k = 1 ∨ k = 4 then 1 else 0)) 65 b 0) 0 9 ((b + 1 : Nat) : Int) := by
    show core nsC _ = _
    rw [core_wz rfl (by omega) (by omega), show (0 : Int32) = yI 0 from rfl, core_wz (nsC_low (by omega) (by omega)) (by omega) (by omega), core_wz (nsC_hi (by omega)) (by omega) (by omega), core_wz (nsC_hi (by omega)) h9 h10, core_wz (nsC_hi (by omega)) h7 h8, core_wz (nsC_hi (by omega)) h5 h6, core_wz (nsC_hi (by omega)) h3 h4, core_wz (nsC_hi (by omega)) h1 h2]
  have em : cM (wI (wI (wI (wI (wI (wI τ 6 (5 * b) (yI k)) 6 (5 * b + 1) (yI s)) 6 (5 * b + 2) (yI z)) 6 (5 * b + 3) (yI f)) 6 (5 * b + 4) (yI x)) 0 15 (yI ((b + 1 : Nat) : Int))) = up (up (up (up (up (up (cM τ) 6 (5 * b) k) 6 (5 * b + 1) s) 6 (5 * b + 2) z) 6 (5 * b + 3) f) 6 (5 * b + 4) x) 0 15 ((b + 1 : Nat) : Int) := by
    show core nsM _ = _
    rw [core_wz rfl (by omega) (by omega), core_wz rfl h9 h10, core_wz rfl h7 h8, core_wz rfl h5 h6, core_wz rfl h3 h4, core_wz rfl h1 h2]
  refine ⟨_, wI (wI (wI (wI (wI (wI τ 6 (5 * b) (yI k)) 6 (5 * b + 1) (yI s)) 6 (5 * b + 2) (yI z)) 6 (5 * b + 3) (yI f)) 6 (5 * b + 4) (yI x)) 0 15 (yI ((b + 1 : Nat) : Int)), u1, ?_, em⟩
  unfold Inv
  rw [ec, em]
  exact IV_berg h hb q5 qk qs.1 qs.2 qz qf qx
theorem l_berg_no {n : Nat} {σ τ : Sg} (h : Inv n σ τ) {k z f x : Int} {s : Nat} (qk : 0 ≤ k ∧ k ≤ 4) (qs : (s : Int) < cM τ 0 9 * cM τ 0 10) (q9 : 9 < cM τ 4 s) : fX9_berg (yI k) (yI (s : Int)) (yI z) (yI f) (yI x) σ = some (-101, σ) := by
  have hq := h.2.1
  have hS := hq.S
  have e0 : rI σ 4 5 = yI (cM τ 0 9 * cM τ 0 10) := by rw [cC_r (o := 4) (k := 5) rfl, hS.1]
  have h4 : (s : Int) < 2147483648 := by have := hS.2.2; omega
  have g1 := f9_isKind (σ := σ) (a := k) (by omega) (by omega)
  have g3 := f7_has (show -2147483648 ≤ (s : Int) by omega) h4 e0 hS.2.1 hS.2.2
  obtain ⟨vs, vt⟩ := hq.sea (by omega)
  obtain ⟨e5, -⟩ := vt.2.2.2 s qs
  obtain ⟨w1, w2, -⟩ := vs.2.2.2.2.2.2.2 s qs
  have gw : fX7_hasWarmth (yI (s : Int)) σ = some (0, σ) := by
    unfold fX7_hasWarmth fX7_hasWarmth_b0
    rw [bt g3 ⟨by omega, qs⟩]
    dsimp only
    rw [if_pos (inb_n (by omega) (by omega)), yI_cln (by omega), cC_r (o := 5) (k := s) rfl, e5, if_pos (gep (v := 10) (b := 10) rfl (by omega) (by omega) (by omega))]
  unfold fX9_berg fX9_berg_b0
  rw [bt g1 qk]
  dsimp only
  rw [b1 gw]
  dsimp only
  rw [if_pos rfl]
theorem l_coin {n : Nat} {σ τ : Sg} (h : Inv n σ τ) {a : Nat} {v : Int} (h3 : -2147483648 ≤ v) (h4 : v < 2147483648) (qa : a ≤ 2) (qv : loC a ≤ v ∧ v ≤ hiC a) : ∃ σ' τ', fX9_coin (yI (a : Int)) (yI v) σ = some (yI (cM τ 0 (17 + a)), σ') ∧ Inv (n + 1) σ' τ' ∧ cM τ' 0 (17 + a) = v ∧ (∀ o k, ¬ (o = 0 ∧ k = 17 + a) → cM τ' o k = cM τ o k) := by
  have hc := h.2.2.2.1
  have g1 := f1_mayBe (σ := σ) (a := (a : Int)) (v := v) (by omega) (by omega) h3 h4
  obtain ⟨σ1, k1, k2, k3⟩ := f3_forgetAll σ
  have u1 : fX9_coin (yI (a : Int)) (yI v) σ = some (rI σ 41 a, wI σ1 41 a (yI v)) := by
    unfold fX9_coin fX9_coin_b0
    rw [bt g1 ⟨⟨by omega, by omega⟩, qv⟩]
    dsimp only
    rw [b1 k1]
    unfold fX1_put fX1_put_b0
    rw [if_pos (inb_n (by omega) (by omega)), if_pos (inb_n (by omega) (by omega)), yI_cln (by omega), k3 41 _ (by omega), b1 rfl]
  have r0 : rI σ 41 0 = yI (cM τ 0 17) := by rw [cC_r (o := 41) (k := 0) rfl, hc.1]
  have r1 : rI σ 41 1 = yI (cM τ 0 18) := by rw [cC_r (o := 41) (k := 1) rfl, hc.2.1]
  have r2 : rI σ 41 2 = yI (cM τ 0 19) := by rw [cC_r (o := 41) (k := 2) rfl, hc.2.2.1]
  have eo : rI σ 41 a = yI (cM τ 0 (17 + a)) := by
    rcases (show a = 0 ∨ a = 1 ∨ a = 2 by omega) with rfl | rfl | rfl
    · exact r0
    · exact r1
    · exact r2
  rw [eo] at u1
  have key := coin_ok h h3 h4 (a := (a : Int)) ⟨by omega, by omega⟩ qv k2 k3 (x := if (a : Int) = 0 then yI v else rI τ 0 17) (y := if (a : Int) = 1 then yI v else rI τ 0 18) (w := if (a : Int) = 2 then yI v else rI τ 0 19) ⟨rfl, rfl, rfl⟩
  rw [Int.toNat_natCast] at key
  refine ⟨_, _, u1, key, ?_, fun o k ho => core_e ?_⟩
  · show core nsM _ 0 (17 + a) = v
    rcases (show a = 0 ∨ a = 1 ∨ a = 2 by omega) with rfl | rfl | rfl
    · rw [core_g rfl, rI_k (by omega), rI_k (by omega), rI_s, if_pos (show ((0 : Nat) : Int) = 0 from rfl), yI_int h3 h4]
    · rw [core_g rfl, rI_k (by omega), rI_s, if_pos (show ((1 : Nat) : Int) = 1 from rfl), yI_int h3 h4]
    · rw [core_g rfl, rI_s, if_pos (show ((2 : Nat) : Int) = 2 from rfl), yI_int h3 h4]
  · by_cases c0 : o = 0
    · subst c0
      have ka : k ≠ 17 + a := fun q => ho ⟨rfl, q⟩
      by_cases c19 : k = 19
      · subst c19
        rw [rI_s, if_neg (by omega)]
      · rw [rI_k c19]
        by_cases c18 : k = 18
        · subst c18
          rw [rI_s, if_neg (by omega)]
        · rw [rI_k c18]
          by_cases c17 : k = 17
          · subst c17
            rw [rI_s, if_neg (by omega)]
          · rw [rI_k c17]
    · rw [rI_o c0, rI_o c0, rI_o c0]
/-- the ghost at the start -/
def σX10 : Sg := wI (wI (wI (wI σz 0 43 (-1)) 0 17 3) 0 18 1) 0 19 20
theorem iX9 : cC σX9 1 1 = 0 ∧ cC σX9 0 10 = 0 ∧ cC σX9 4 5 = 0 ∧ cC σX9 0 9 = 0 ∧ cC σX9 41 0 = 3 ∧ cC σX9 41 1 = 1 ∧ cC σX9 41 2 = 20 ∧ cC σX9 49 3 = 0 ∧ cC σX9 0 11 = 0 ∧ cC σX9 53 5 = 0 := by decide +kernel
theorem iX10 : cM σX10 0 1 = 0 ∧ cM σX10 0 12 = 0 ∧ cM σX10 0 9 = 0 ∧ cM σX10 0 10 = 0 ∧ cM σX10 0 15 = 0 ∧ cM σX10 0 17 = 3 ∧ cM σX10 0 18 = 1 ∧ cM σX10 0 19 = 20 ∧ cM σX10 0 20 = 0 ∧ cM σX10 0 40 = 0 ∧ cM σX10 0 43 = -1 := by decide +kernel
theorem Inv_0 : Inv 0 σX9 σX10 := by
  obtain ⟨a1, a2, a3, a4, a5, a6, a7, a8, a9, a10⟩ := iX9
  obtain ⟨c1, c2, c3, c4, c5, c6, c7, c8, c9, c10, c11⟩ := iX10
  refine ⟨⟨by rw [a1, c1], by rw [c1]; omega, by rw [c1]; omega, fun k hk => by rw [c1] at hk; omega⟩, ⟨by rw [a2, c2], by rw [c2]; omega, by rw [c2]; omega, Or.inl ⟨c2, c3, c4, a3⟩⟩, ⟨by rw [a4, c5], by rw [c5]; omega, by rw [c5]; omega, fun b hb => by rw [c5] at hb; omega⟩, ⟨by rw [a5, c6], by rw [a6, c7], by rw [a7, c8], by rw [c6, c7, c8]; unfold VK; omega⟩, ⟨by rw [a8, c9], by rw [c9]; omega, by rw [c9]; omega, fun k hk => by rw [c9] at hk; omega⟩, ⟨by rw [a9, c10], by rw [c10]; omega, by rw [c10]; omega⟩, Or.inl ⟨c11, a10⟩, fun b hb => by rw [c5] at hb; omega⟩
