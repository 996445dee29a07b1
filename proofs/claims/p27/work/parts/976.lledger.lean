/-! ===== the law's ledger of one berg ===== -/
/-- after j entries weighed: tugs, skirt and gain of the best -/
def PB (m : Mm) (k j : Nat) (x y z : Int32) : Prop := ((qcn m (qsq m k) = 0 ∨ j = 0) ∧ x = 0 ∧ y = 0 ∧ z = -100001) ∨ ((qcn m (qsq m k) ≠ 0 ∧ j ≠ 0) ∧ x = yI ((bst (qg m k) j / 2 : Nat) : Int) ∧ y = yI ((bst (qg m k) j % 2 : Nat) : Int) ∧ z = yI (qg m k (bst (qg m k) j)))
theorem L_b499 {xs : Nat → Int32} {Ln w2 w4 w5 w6 w8 nw B k j t sk : Nat} {m : Mm} {s : LwS} {x10 x11 x12 x13 : Int32} {G : Int} (g : GB m B) (hk : k < B) (B3 : B ≤ 3) (n68 : w6 ≠ w8) (he : 2 * t + sk = j + 2) (hj : j < 22) (s1 : sk ≤ 1) (hn : (qbb m k (qsz m k) t sk).1 = qcn m (qsq m k)) (cb : qcn m (qsq m k) ≤ 262144) (gs : gS s w6 (qbb m k (qsz m k) t sk)) (pb : PB m k j x11 x12 x13) (hG : rT s w8 (12 * k + t) = yI G) (G1 : -100001 ≤ G) (G2 : G ≤ 9000) : ∃ y11 y12 y13 s', fL_law_b499 xs Ln w2 w4 w5 w6 w8 (yI (k : Int)) x10 x11 x12 x13 (yI (t : Int)) (yI (sk : Int)) nw s = some (.inl (y11, y12, y13, yI ((sk + 1 : Nat) : Int), s')) ∧ PB m k (j + 1) y11 y12 y13 ∧ fr w8 s s' ∧ (∀ i, i ≠ 12 * k + t → rT s' w8 i = rT s w8 i) ∧ rT s' w8 (12 * k + t) = yI (if qcn m (qsq m k) = 0 then G else max G (qg m k (2 * t + sk))) := by
  have t11 : t ≤ 11 := by omega
  unfold fL_law_b499
  rw [k5, gs.1, hn]
  by_cases z : qcn m (qsq m k) = 0
  · rw [if_pos (show yI (qcn m (qsq m k) : Int) = 0 by rw [z]; rfl), if_pos z]
    refine ⟨x11, x12, x13, s, ?_, ?_, fr_r _ _, fun _ _ => rfl, hG⟩
    · unfold fL_law_b565
      rw [add1]
    · rcases pb with ⟨-, p⟩ | ⟨p, -⟩
      · exact Or.inl ⟨Or.inl z, p⟩
      · exact absurd z p.1
  · have eg : qg m k (2 * t + sk) = (qbb m k (qsz m k) t sk).2.1 := by
      unfold qg
      rw [show (2 * t + sk) / 2 = t by omega, show (2 * t + sk) % 2 = sk by omega]
    have ge := g k hk z (2 * t + sk) (by omega) (by omega)
    obtain ⟨-, -, f3, -⟩ := gs.2 (by rw [hn]; exact z)
    rw [← eg] at f3
    rw [if_neg (yI_ne0 (by omega) (by omega) (by omega)), if_neg z, mul12, addn, k2, if_pos (inb_n (by omega) (by omega)), f3, yI_cln (by omega), hG]
    -- the ledger's own best
    have T542 : ∀ s1 : LwS, rT s1 w6 2 = yI (qg m k (2 * t + sk)) → ∃ y11 y12 y13, fL_law_b542 xs Ln w2 w4 w5 w6 w8 (yI (k : Int)) x10 x11 x12 x13 (yI (t : Int)) (yI (sk : Int)) nw s1 = some (.inl (y11, y12, y13, yI ((sk + 1 : Nat) : Int), s1)) ∧ PB m k (j + 1) y11 y12 y13 := fun s1 h1 => by
      unfold fL_law_b542 fL_law_b565
      rw [k2, h1, add1]
      rcases pb with ⟨p, rfl, rfl, rfl⟩ | ⟨p, rfl, rfl, rfl⟩
      · have j0 : j = 0 := p.resolve_left z
        rw [if_neg (len (v := -100001) (b := -100001) rfl (by omega) (by omega) (by omega))]
        refine ⟨_, _, _, rfl, Or.inr ⟨⟨z, by omega⟩, ?_⟩⟩
        have e1 : bst (qg m k) (j + 1) = 2 := by
          rw [j0]
          show (if qg m k 2 < qg m k (0 + 2) then 0 + 2 else 2) = 2
          rw [if_neg (Int.lt_irrefl _)]
        rw [e1]
        have e2 : t = 1 ∧ sk = 0 := by omega
        rw [e2.1, e2.2]
        exact ⟨rfl, rfl, rfl⟩
      · have bb := bst_b (qg m k) j
        have gb := g k hk z (bst (qg m k) j) (by omega) (by omega)
        have e1 : bst (qg m k) (j + 1) = if qg m k (bst (qg m k) j) < qg m k (j + 2) then j + 2 else bst (qg m k) j := rfl
        by_cases y : qg m k (2 * t + sk) ≤ qg m k (bst (qg m k) j)
        · rw [if_pos ((yI_le (by omega) (by omega) (by omega) (by omega)).mpr y)]
          refine ⟨_, _, _, rfl, Or.inr ⟨⟨z, by omega⟩, ?_⟩⟩
          rw [e1, ← he, if_neg (by omega)]
          exact ⟨rfl, rfl, rfl⟩
        · rw [if_neg (fun q => y ((yI_le (by omega) (by omega) (by omega) (by omega)).mp q))]
          refine ⟨_, _, _, rfl, Or.inr ⟨⟨z, by omega⟩, ?_⟩⟩
          rw [e1, ← he, if_pos (by omega), show (2 * t + sk) / 2 = t by omega, show (2 * t + sk) % 2 = sk by omega]
          exact ⟨rfl, rfl, rfl⟩
    by_cases y : qg m k (2 * t + sk) ≤ G
    · rw [if_pos ((yI_le (by omega) (by omega) (by omega) (by omega)).mpr y)]
      obtain ⟨y11, y12, y13, a1, a2⟩ := T542 s f3
      refine ⟨y11, y12, y13, s, a1, a2, fr_r _ _, fun _ _ => rfl, ?_⟩
      rw [hG, Int.max_eq_left y]
    · rw [if_neg (fun q => y ((yI_le (by omega) (by omega) (by omega) (by omega)).mp q)), if_pos (inb_n (by omega) (by omega))]
      obtain ⟨y11, y12, y13, a1, a2⟩ := T542 (wT s w8 (12 * k + t) (yI (qg m k (2 * t + sk)))) (by rw [rT_o n68]; exact f3)
      refine ⟨y11, y12, y13, _, a1, a2, fr_w (fr_r _ _), fun i hi => rT_k hi, ?_⟩
      rw [rT_s, Int.max_eq_right (by omega)]
/-- the law's state with its rows of scratch left out -/
def KR (w6 w8 nw : Nat) (s s' : LwS) : Prop := ∀ o j, o ≠ w6 → o ≠ w8 → o < nw → rT s' o j = rT s o j
theorem L_b442 {xs : Nat → Int32} {Ln n w2 w4 w5 w6 w8 nw B k j t sk : Nat} {s : LwS} {τ : Sg} {x11 x12 x13 : Int32} {G : Int} (h : Inv n s.1 τ) (vs : VS (cM τ)) (lk : LK w2 w4 w5 B s τ) (hk : k < B) (n26 : w2 ≠ w6) (n46 : w4 ≠ w6) (n56 : w5 ≠ w6) (n68 : w6 ≠ w8) (l2 : w2 < nw) (l4 : w4 < nw) (l5 : w5 < nw) (l6 : w6 < nw) (l8 : w8 < nw) (he : 2 * t + sk = j + 2) (hj : j < 22) (s1 : sk ≤ 1) (hu : s.2.2 + 1 ≤ 6100) (pb : PB (cM τ) k j x11 x12 x13) (hG : rT s w8 (12 * k + t) = yI G) (G1 : -100001 ≤ G) (G2 : G ≤ 9000) : ∃ y11 y12 y13 s', fL_law_b442 xs Ln w2 w4 w5 w6 w8 (yI (k : Int)) (yI ((5 * k : Nat) : Int)) x11 x12 x13 (yI (t : Int)) (yI (sk : Int)) nw s = some (.inl (y11, y12, y13, yI ((sk + 1 : Nat) : Int), s')) ∧ PB (cM τ) k (j + 1) y11 y12 y13 ∧ s'.1 = s.1 ∧ s'.2.2 = s.2.2 + 1 ∧ KR w6 w8 nw s s' ∧ (∀ i, i ≠ 12 * k + t → rT s' w8 i = rT s w8 i) ∧ rT s' w8 (12 * k + t) = yI (if qcn (cM τ) (qsq (cM τ) k) = 0 then G else max G (qg (cM τ) k (2 * t + sk))) := by
  have hB3 := lk.2.1.1
  have h15 := lk.2.1.2.2.1
  have hb : (k : Int) < cM τ 0 15 := by rw [h15]; omega
  obtain ⟨b5, bs⟩ := Inv_b h hb
  obtain ⟨v, gm, gc, gk, wb, kb, hrow, -⟩ := id bs
  obtain ⟨w0', w1', w2', w3', w4', w5', w6', w7', w8', w9'⟩ := VB1_q v wb
  have vk := h.2.2.2.1.2.2.2
  have t1 : 1 ≤ t := by omega
  have t11 : t ≤ 11 := by omega
  have eb := qE_b (tugs := t) (sk := sk) (dr := 0) wb t1 t11 s1 (by omega)
  obtain ⟨s2, p1, p2, p3, p4, p5⟩ := L_best (s := eT s) (w0 := w2) (w1 := w4) (w5 := w5) (w6 := w6) (nw := nw) (E := qE (cM τ) k t sk 0) v vk eb rfl rfl n26 (by omega) n46 (by omega) n56 (by omega) (by omega) (by omega) w7' w9' w5' w6' (LK_HB v wb (LK_f lk (fun _ => rfl) (fun _ => rfl) (fun _ => rfl)) hk)
  obtain ⟨bb, bn⟩ := qbb_b b5 bs (size := qsz (cM τ) k) (tugs := t) (sk := sk) w5' t1 t11 s1
  have eqb : qbest (cM τ) (qE (cM τ) k t sk 0) (qsq (cM τ) k) (qsz (cM τ) k, (cM τ 6 (5 * k + 3)).toNat, 0, 0) = qbb (cM τ) k (qsz (cM τ) k) t sk := rfl
  rw [eqb] at p3 p4
  obtain ⟨s3, es3⟩ : ∃ s3, s3 = uT s s2 1 := ⟨_, rfl⟩
  have c3 : s3.1 = s.1 := by rw [es3]; exact p2.1
  have u3 : s3.2.2 = s.2.2 + 1 := by rw [es3]; rfl
  have r3 : ∀ o j, o ≠ w6 → o < nw → rT s3 o j = rT s o j := fun o j h1 h2 => by
    rw [es3, rT_u, p2.2 _ _ h1 (by omega)]; rfl
  have g3 : gS s3 w6 (qbb (cM τ) k (qsz (cM τ) k) t sk) := by rw [es3]; exact p3
  have cb := qcn_b v w7'
  have P1 : fL_best w2 w4 (yI ((5 * k : Nat) : Int)) (yI (t : Int)) (yI (sk : Int)) w5 w6 nw (eT s) = some s2 := p1
  have E0 : fL_law_b442 xs Ln w2 w4 w5 w6 w8 (yI (k : Int)) (yI ((5 * k : Nat) : Int)) x11 x12 x13 (yI (t : Int)) (yI (sk : Int)) nw s = fL_law_b499 xs Ln w2 w4 w5 w6 w8 (yI (k : Int)) (yI ((5 * k : Nat) : Int)) x11 x12 x13 (yI (t : Int)) (yI (sk : Int)) nw s3 := by
    have X : ∀ y0 : Int32, y0 = yI (sk : Int) → fL_law_b466 xs Ln w2 w4 w5 w6 w8 (yI (k : Int)) (yI ((5 * k : Nat) : Int)) x11 x12 x13 (yI (t : Int)) (yI (sk : Int)) y0 (yI (t : Int)) (yI ((5 * k : Nat) : Int)) w4 w2 nw s = fL_law_b499 xs Ln w2 w4 w5 w6 w8 (yI (k : Int)) (yI ((5 * k : Nat) : Int)) x11 x12 x13 (yI (t : Int)) (yI (sk : Int)) nw s3 := fun y0 hy => by
      unfold fL_law_b466
      rw [hy, if_pos (show decide (s.2.2 + 1 ≤ 6100) = true from decide_eq_true hu), b1 P1, ← es3]
      by_cases q : t = 1
      · rw [if_pos (eqp (v := 1) (b := 1) rfl (by omega))]
        by_cases q0 : sk = 0
        · have aw := a_ways (b := k) (show Inv n s3.1 τ by rw [c3]; exact h) hb
          rw [if_pos (eqp (v := 0) (b := 0) rfl (by omega)), b1 aw]
          dsimp only
          rw [k5, rT_c, g3.1, bn, if_pos rfl]
          rfl
        · rw [if_neg (yI_nl (v := 0) (b := 0) rfl (by omega) (by omega) (by omega))]
      · rw [if_neg (yI_nl (v := 1) (b := 1) rfl (by omega) (by omega) (by omega))]
    unfold fL_law_b442
    rw [if_neg (gen (v := 2) (b := 2) rfl (by omega) (by omega) (by omega))]
    by_cases q : sk = 1
    · rw [if_pos (eqp (v := 1) (b := 1) rfl (by omega))]
      exact X 1 (by rw [q]; rfl)
    · rw [if_neg (yI_nl (v := 1) (b := 1) rfl (by omega) (by omega) (by omega))]
      exact X 0 (by rw [show sk = 0 by omega]; rfl)
  obtain ⟨y11, y12, y13, s', a1, a2, a3, a4, a5⟩ := L_b499 (xs := xs) (Ln := Ln) (w2 := w2) (w4 := w4) (w5 := w5) (nw := nw) (x10 := yI ((5 * k : Nat) : Int)) (Inv_GB h h15) hk hB3 n68 he hj s1 bn cb g3 pb (by rw [r3 _ _ (Ne.symm n68) l8]; exact hG) G1 G2
  refine ⟨y11, y12, y13, s', by rw [E0]; exact a1, a2, by rw [a3.1, c3], by rw [a3.2.1, u3], fun o j h1 h2 h3 => by rw [a3.2.2 _ _ h2, r3 _ _ h1 h3], fun i hi => by rw [a4 i hi, r3 _ _ (Ne.symm n68) l8], a5⟩
/-- both with a skirt and without, for so many tugs -/
theorem L_b419 {xs : Nat → Int32} {Ln n w2 w4 w5 w6 w8 nw B k t : Nat} {s : LwS} {τ : Sg} {x11 x12 x13 : Int32} (h : Inv n s.1 τ) (vs : VS (cM τ)) (lk : LK w2 w4 w5 B s τ) (hk : k < B) (n26 : w2 ≠ w6) (n46 : w4 ≠ w6) (n56 : w5 ≠ w6) (n28 : w2 ≠ w8) (n48 : w4 ≠ w8) (n58 : w5 ≠ w8) (n68 : w6 ≠ w8) (l2 : w2 < nw) (l4 : w4 < nw) (l5 : w5 < nw) (l6 : w6 < nw) (l8 : w8 < nw) (t1 : 1 ≤ t) (t11 : t ≤ 11) (hu : s.2.2 + 2 ≤ 6100) (pb : PB (cM τ) k (2 * (t - 1)) x11 x12 x13) : ∃ y11 y12 y13 s', fL_law_b419 xs Ln w2 w4 w5 w6 w8 (yI (k : Int)) (yI ((5 * k : Nat) : Int)) x11 x12 x13 (yI (t : Int)) nw s = some (.inl (y11, y12, y13, yI ((t + 1 : Nat) : Int), s')) ∧ PB (cM τ) k (2 * t) y11 y12 y13 ∧ s'.1 = s.1 ∧ s'.2.2 = s.2.2 + 2 ∧ KR w6 w8 nw s s' ∧ (∀ i, i ≠ 12 * k + t → rT s' w8 i = rT s w8 i) ∧ rT s' w8 (12 * k + t) = yI (if qcn (cM τ) (qsq (cM τ) k) = 0 then -100001 else sG (cM τ) k t) := by
  have hB3 := lk.2.1.1
  have h15 := lk.2.1.2.2.1
  have g := Inv_GB h h15
  obtain ⟨s0, es0⟩ : ∃ s0, s0 = wT s w8 (12 * k + t) (-100001) := ⟨_, rfl⟩
  have c0 : s0.1 = s.1 := by rw [es0]; rfl
  have u0 : s0.2.2 = s.2.2 := by rw [es0]; rfl
  have r0 : ∀ o j, o ≠ w8 → rT s0 o j = rT s o j := fun o j ho => by rw [es0, rT_o ho]
  have lk0 : LK w2 w4 w5 B s0 τ := LK_f lk (fun j => r0 _ _ n28) (fun j => r0 _ _ n48) (fun j => r0 _ _ n58)
  obtain ⟨a11, a12, a13, s1, p1, p2, p3, p4, p5, p6, p7⟩ := L_b442 (xs := xs) (Ln := Ln) (nw := nw) (w8 := w8) (t := t) (sk := 0) (j := 2 * (t - 1)) (G := -100001) (s := s0) (by rw [c0]; exact h) vs lk0 hk n26 n46 n56 n68 l2 l4 l5 l6 l8 (by omega) (by omega) (by omega) (by omega) pb (by rw [es0, rT_s]; rfl) (by omega) (by omega)
  have lk1 : LK w2 w4 w5 B s1 τ := LK_f lk0 (fun j => p5 _ _ n26 n28 l2) (fun j => p5 _ _ n46 n48 l4) (fun j => p5 _ _ n56 n58 l5)
  have Gb : -100001 ≤ (if qcn (cM τ) (qsq (cM τ) k) = 0 then (-100001 : Int) else max (-100001) (qg (cM τ) k (2 * t + 0))) ∧ (if qcn (cM τ) (qsq (cM τ) k) = 0 then (-100001 : Int) else max (-100001) (qg (cM τ) k (2 * t + 0))) ≤ 9000 := by
    by_cases z : qcn (cM τ) (qsq (cM τ) k) = 0
    · rw [if_pos z]; omega
    · have := g k hk z (2 * t + 0) (by omega) (by omega)
      rw [if_neg z]; omega
  obtain ⟨d11, d12, d13, s2, q1, q2, q3, q4, q5, q6, q7⟩ := L_b442 (xs := xs) (Ln := Ln) (nw := nw) (w8 := w8) (t := t) (sk := 1) (j := 2 * (t - 1) + 1) (s := s1) (by rw [p3, c0]; exact h) vs lk1 hk n26 n46 n56 n68 l2 l4 l5 l6 l8 (by omega) (by omega) (by omega) (by omega) p2 p7 Gb.1 Gb.2
  have LP : lp (fun s => fL_law_b442 xs Ln w2 w4 w5 w6 w8 (yI (k : Int)) (yI ((5 * k : Nat) : Int)) s.1 s.2.1 s.2.2.1 (yI (t : Int)) s.2.2.2.1 nw s.2.2.2.2) FU (x11, x12, x13, (0 : Int32), s0) = some (.inr (d11, d12, d13, s2)) := by
    obtain ⟨N, hN⟩ : ∃ N, FU = N + 3 := ⟨FU - 3, by decide +kernel⟩
    have S1 : lp (fun s => fL_law_b442 xs Ln w2 w4 w5 w6 w8 (yI (k : Int)) (yI ((5 * k : Nat) : Int)) s.1 s.2.1 s.2.2.1 (yI (t : Int)) s.2.2.2.1 nw s.2.2.2.2) (N + 3) (x11, x12, x13, (0 : Int32), s0) = lp (fun s => fL_law_b442 xs Ln w2 w4 w5 w6 w8 (yI (k : Int)) (yI ((5 * k : Nat) : Int)) s.1 s.2.1 s.2.2.1 (yI (t : Int)) s.2.2.2.1 nw s.2.2.2.2) (N + 2) (a11, a12, a13, yI ((0 + 1 : Nat) : Int), s1) := lp_st p1
    have S2 : lp (fun s => fL_law_b442 xs Ln w2 w4 w5 w6 w8 (yI (k : Int)) (yI ((5 * k : Nat) : Int)) s.1 s.2.1 s.2.2.1 (yI (t : Int)) s.2.2.2.1 nw s.2.2.2.2) (N + 2) (a11, a12, a13, yI ((0 + 1 : Nat) : Int), s1) = lp (fun s => fL_law_b442 xs Ln w2 w4 w5 w6 w8 (yI (k : Int)) (yI ((5 * k : Nat) : Int)) s.1 s.2.1 s.2.2.1 (yI (t : Int)) s.2.2.2.1 nw s.2.2.2.2) (N + 1) (d11, d12, d13, yI ((1 + 1 : Nat) : Int), s2) := lp_st q1
    rw [hN, S1, S2]
    refine lp_en ?_
    dsimp only
    unfold fL_law_b442
    rw [if_pos (gep (v := 2) (b := 2) rfl (by omega) (by omega) (by omega))]
  refine ⟨d11, d12, d13, s2, ?_, by rw [show 2 * t = 2 * (t - 1) + 1 + 1 by omega]; exact q2, by rw [q3, p3, c0], by rw [q4, p4, u0], fun o j h1 h2 h3 => by rw [q5 o j h1 h2 h3, p5 o j h1 h2 h3, r0 _ _ h2], fun i hi => by rw [q6 i hi, p6 i hi, es0, rT_k hi], ?_⟩
  · unfold fL_law_b419
    rw [if_neg (gen (v := 12) (b := 12) rfl (by omega) (by omega) (by omega)), mul12, addn, if_pos (inb_n (by omega) (by omega)), yI_cln (by omega), ← es0, b1 LP, add1]
    rfl
  · rw [q7]
    by_cases z : qcn (cM τ) (qsq (cM τ) k) = 0
    · rw [if_pos z, if_pos z, if_pos z]
    · have g1 := g k hk z (2 * t) (by omega) (by omega)
      rw [if_neg z, if_neg z, if_neg z]
      unfold sG
      rw [if_neg (by omega), if_neg z, Nat.add_zero, Int.max_eq_right (show -100001 ≤ qg (cM τ) k (2 * t) by omega)]
