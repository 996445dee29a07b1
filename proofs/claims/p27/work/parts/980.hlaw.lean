/-! ===== the law answers true ===== -/
theorem sqd_end {W H R F : Nat} (r2 : 2 ≤ R) (w : 2 ≤ W) (hH : H < R * W) : sqd W H (R * W) F = (R - 1, W, W, (H : Int), F) := by
  obtain ⟨d, rfl⟩ : ∃ d, R = d + 1 := ⟨R - 1, by omega⟩
  have e : (d + 1) * W - 1 = W - 1 + W * d := by rw [Nat.add_mul, Nat.mul_comm d W]; omega
  have a : ((d + 1) * W - 1) / W = d := by rw [e, Nat.add_mul_div_left _ _ (by omega), Nat.div_eq_of_lt (by omega)]; omega
  have b : ((d + 1) * W - 1) % W + 1 = W := by rw [e, Nat.add_mul_mod_self_left, Nat.mod_eq_of_lt (by omega)]; omega
  have c : ¬ (d + 1) * W - 1 < W := by
    have : W * 1 ≤ W * d := Nat.mul_le_mul_left _ (by omega)
    omega
  unfold sqd
  rw [if_neg (by omega), a, b, if_neg c, if_pos hH]
  rfl
theorem hlaw (xs : Nat → Int32) (Ln : Nat) (hLn : Ln ≤ 260) : ∃ s' : LwS, fL_law_b8 xs Ln 0 (σX9, σz, 100) = some (1, s') := by
  obtain ⟨c1', c2', c3', c4', c5', c6', c7', c8', c9', c10', c11'⟩ := iX10
  obtain ⟨s5, es5⟩ : ∃ s5 : LwS, s5 = nT (nT (nT (nT (nT (σX9, σz, 100) 0) 1) 2) 3) 4 := ⟨_, rfl⟩
  have u5 : s5.2.2 = 105 := by rw [es5]; rfl
  have v5 : s5.1 = σX9 := by rw [es5]; rfl
  obtain ⟨R, W, H, n, cw, cf, s6, a1, ⟨r2, r5, w2, w6, hH⟩, n64, ⟨lq1, lq2, lq3, lq4, lq5⟩, F, pg⟩ := L_seaText (xs := xs) (s := eT s5) (w2 := 0) (w3 := 1) hLn (by omega)
  have n4 : 2 * 2 ≤ R * W := Nat.mul_le_mul r2 w2
  have n30 : R * W ≤ 5 * 6 := Nat.mul_le_mul r5 w6
  obtain ⟨s7, es7⟩ : ∃ s7, s7 = uT s5 s6 0 := ⟨_, rfl⟩
  have i7 : Inv 0 (eT s7).1 σX10 := by
    show Inv 0 s7.1 σX10
    rw [es7]
    show Inv 0 s6.1 σX10
    rw [lq1.1]
    show Inv 0 s5.1 σX10
    rw [v5]
    exact Inv_0
  have t7 : ∀ o j, rT s7 o j = rT s6 o j := fun o j => by rw [es7]; rfl
  have u7 : s7.2.2 = 105 := by rw [es7]; show s5.2.2 + 0 = 105; omega
  obtain ⟨s8, τ1, b1', b2, b3, b4, b5, b6, b7, b8⟩ := L_write (s := eT s7) i7 c1' (pgl_f pg (fun j => t7 1 j)) n64
  obtain ⟨s9, es9⟩ : ∃ s9, s9 = uT s7 s8 0 := ⟨_, rfl⟩
  have i9 : Inv n s9.1 τ1 := by rw [es9]; exact b2
  have t9 : ∀ o j, rT s9 o j = rT s6 o j := fun o j => by
    rw [es9]
    show s8.2.1.1 o j = _
    rw [b3]
    exact t7 o j
  have u9 : s9.2.2 = 105 := by rw [es9]; show s7.2.2 + 0 = 105; omega
  obtain ⟨σ2, d1, d2⟩ := l_fault i9 b4 (by rw [b5]; exact fun q => by cases q)
  have se := sqd_end (F := F) r2 w2 hH
  have iS : isS (sqd W H (R * W) F) := by
    rw [se]
    exact ⟨show 1 ≤ R - 1 by omega, rfl, show (H : Int) ≠ -1 by omega⟩
  obtain ⟨σ3, τ2, e1, e2, e3, e4, e5, e6, e7, e8, e9, e10, e11⟩ := l_sea (by omega) d2 b4 b5 iS (by rw [b8 0 12 (by omega) (by omega)]; exact c2')
  rw [se] at e1 e3 e4 e5 e6
  dsimp only at e1 e3 e4 e5 e6
  rw [show R - 1 + 1 = R by omega] at e1 e3 e6
  rw [b6, b7] at e6
  rw [b8 0 12 (by omega) (by omega), c2'] at e7
  rw [b8 0 17 (by omega) (by omega), c6'] at e9
  rw [b8 0 18 (by omega) (by omega), c7'] at e10
  rw [b8 0 19 (by omega) (by omega), c8'] at e11
  have vs : VS (cM τ2) := by
    rcases e2.2.1.2.2.2 with q | q
    · have := q.1; omega
    · exact q.2.1
  have qr : qR (cM τ2) = R := by unfold qR; rw [e3]; rfl
  have qw : qW (cM τ2) = W := by unfold qW; rw [e4]; rfl
  have qh : qH (cM τ2) = H := by unfold qH; rw [e5]; rfl
  obtain ⟨s10, es10⟩ : ∃ s10, s10 = cS (cS s9 σ2) σ3 := ⟨_, rfl⟩
  have t10 : ∀ o j, rT s10 o j = rT s6 o j := fun o j => by rw [es10]; exact t9 o j
  have u10 : s10.2.2 = 105 := by rw [es10]; exact u9
  have i10 : Inv (n + 1) s10.1 τ2 := by rw [es10]; exact e2
  have mp : MP 0 s10 (cM τ2) := by
    refine ⟨by rw [t10, qr]; exact lq2, by rw [t10, qw]; exact lq3, by rw [t10, qh]; exact lq4, fun i hi => ?_⟩
    have hi2 := hi
    rw [qr, qw] at hi2
    obtain ⟨x1, x2⟩ := lq5 i hi2
    obtain ⟨x3, x4⟩ := e6 i hi2
    have v4 := (vs.2.2.2.2.2.2.2 i (by rw [vs.RW]; omega)).1
    rw [t10, t10, x1, x2]
    refine ⟨?_, by rw [x4]⟩
    unfold qL
    rw [Int.toNat_of_nonneg v4, x3]
  have sq := L_squares (xs := xs) (Ln := Ln) (w2 := 0) (w4 := 2) (w5 := 3) (w6 := 4) (nw := 5) i10 vs mp
  obtain ⟨B, s11, τ3, f1, f2, f3, f4, f5, f6⟩ := L_bergs (xs := xs) (s := eT s10) (w2 := 0) (w4 := 2) hLn (by omega) i10 vs mp e8
  obtain ⟨s12, es12⟩ : ∃ s12, s12 = uT s10 s11 0 := ⟨_, rfl⟩
  have t12 : ∀ o j, rT s12 o j = rT s11 o j := fun o j => by rw [es12]; rfl
  have u12 : s12.2.2 = 105 := by rw [es12]; show s10.2.2 + 0 = 105; omega
  obtain ⟨x, hx⟩ := L_cell (xs := xs) (a := 10) hLn (by omega) (eT s12)
  have A9 : ∃ k : Nat, k < 9 ∧ fL_at x (9 : Int32) (eT s12) = some (yI (k : Int), eT s12) := L_at _ (by omega) (by omega) _
  obtain ⟨p, p1, p2⟩ := A9
  obtain ⟨s13, es13⟩ : ∃ s13, s13 = wT s12 3 0 (yI ((1 + p : Nat) : Int)) := ⟨_, rfl⟩
  obtain ⟨y, hy⟩ := L_cell (xs := xs) (a := 10) hLn (by omega) (eT s13)
  have A2 : ∃ k : Nat, k < 2 ∧ fL_at (ishr y 20) (2 : Int32) (eT s13) = some (yI (k : Int), eT s13) := L_at _ (by omega) (by omega) _
  have A10 : ∃ k : Nat, k < 10 ∧ fL_at (ishr y 4) (10 : Int32) (eT s13) = some (yI (k : Int), eT s13) := L_at _ (by omega) (by omega) _
  have B2 : ∃ k : Nat, k < 2 ∧ fL_at (ishr y 4) (2 : Int32) (eT s13) = some (yI (k : Int), eT s13) := L_at _ (by omega) (by omega) _
  obtain ⟨d, dd1, dd2⟩ := A2
  obtain ⟨g, g1, g2⟩ := A10
  obtain ⟨g', g1', g2'⟩ := B2
  have fo : ∀ o j, o ≠ 2 → o ≠ 3 → rT s13 o j = rT s10 o j := fun o j h2 h3 => by rw [es13, rT_o h3, t12, f4 o j h2]; rfl
  have qr3 : qR (cM τ3) = qR (cM τ2) := by unfold qR; rw [f6 0 9 (by omega) (by omega)]
  have qw3 : qW (cM τ3) = qW (cM τ2) := by unfold qW; rw [f6 0 10 (by omega) (by omega)]
  have qh3 : qH (cM τ3) = qH (cM τ2) := by unfold qH; rw [f6 0 11 (by omega) (by omega)]
  have vs3 : VS (cM τ3) := VS_f vs ⟨f6 0 9 (by omega) (by omega), f6 0 10 (by omega) (by omega), f6 0 11 (by omega) (by omega), funext fun j => f6 4 j (by omega) (by omega), funext fun j => f6 5 j (by omega) (by omega)⟩
  have mp3 : MP 0 s13 (cM τ3) := by
    refine ⟨by rw [fo _ _ (by omega) (by omega), qr3]; exact mp.1, by rw [fo _ _ (by omega) (by omega), qw3]; exact mp.2.1, by rw [fo _ _ (by omega) (by omega), qh3]; exact mp.2.2.1, fun i hi => ?_⟩
    rw [qr3, qw3] at hi
    obtain ⟨x1, x2⟩ := mp.2.2.2 i hi
    rw [fo _ _ (by omega) (by omega), fo _ _ (by omega) (by omega), x1, x2]
    refine ⟨?_, by rw [f6 5 i (by omega) (by omega)]⟩
    unfold qL
    rw [f6 4 i (by omega) (by omega)]
  have bg3 : BG 2 B s13 τ3 := by
    obtain ⟨g1, g2, g3, g4⟩ := f3
    have fo2 : ∀ j, rT s13 2 j = rT s11 2 j := fun j => by rw [es13, rT_o (by omega), t12]
    exact ⟨g1, by rw [fo2]; exact g2, g3, fun i hi => by rw [fo2]; exact g4 i hi⟩
  have i13 : Inv (n + 1 + 3) s13.1 τ3 := by rw [es13, es12]; exact f2
  have u13 : s13.2.2 = 105 := by rw [es13]; exact u12
  have q12 : cM τ3 0 12 ≠ 0 := by rw [f6 0 12 (by omega) (by omega), e7]; omega
  have E17 : cM τ3 0 17 = 3 := by rw [f6 0 17 (by omega) (by omega)]; exact e9
  have E18 : cM τ3 0 18 = 1 := by rw [f6 0 18 (by omega) (by omega)]; exact e10
  have E19 : cM τ3 0 19 = 20 := by rw [f6 0 19 (by omega) (by omega)]; exact e11
  have rp : rT s13 3 0 = yI ((1 + p : Nat) : Int) := by rw [es13, rT_s]
  have eRW : yI (R : Int) * yI (W : Int) = yI ((R * W : Nat) : Int) := yI_mul _ _
  unfold fL_law_b8
  rw [if_pos (show decide (((σX9, σz, 100) : LwS).2.2 + 1 ≤ 6100) = true from decide_eq_true (by show 100 + 1 ≤ 6100; omega)), if_pos (show decide (((nT (σX9, σz, 100) 0) : LwS).2.2 + 1 ≤ 6100) = true from decide_eq_true (by show 101 + 1 ≤ 6100; omega)), if_pos (show decide (((nT (nT (σX9, σz, 100) 0) (0 + 1)) : LwS).2.2 + 1 ≤ 6100) = true from decide_eq_true (by show 102 + 1 ≤ 6100; omega)), if_pos (show decide (((nT (nT (nT (σX9, σz, 100) 0) (0 + 1)) (0 + 1 + 1)) : LwS).2.2 + 1 ≤ 6100) = true from decide_eq_true (by show 103 + 1 ≤ 6100; omega)), if_pos (show decide (((nT (nT (nT (nT (σX9, σz, 100) 0) (0 + 1)) (0 + 1 + 1)) (0 + 1 + 1 + 1)) : LwS).2.2 + 1 ≤ 6100) = true from decide_eq_true (by show 104 + 1 ≤ 6100; omega))]
  rw [show nT (nT (nT (nT (nT (σX9, σz, 100) 0) (0 + 1)) ((0 + 1) + 1)) (((0 + 1) + 1) + 1)) ((((0 + 1) + 1) + 1) + 1) = s5 from es5.symm]
  rw [b1 (show fL_seaText xs Ln (0 : Int32) 0 (0 + 1) (eT s5) = _ from a1)]
  dsimp only
  rw [← es7, b1 (show fL_write (0 + 1) (yI (n : Int)) (eT s7) = _ from b1')]
  dsimp only
  rw [if_neg (show ¬ (1 : Int32) = 0 by decide), ← es9, b1 d1]
  dsimp only
  rw [if_pos rfl, b1 (show fX9_sea (cS s9 σ2).1 = _ from e1)]
  dsimp only
  rw [← es10, k0, k1, show rT s10 0 0 = yI (R : Int) from (t10 0 0).trans lq2, show rT s10 0 1 = yI (W : Int) from (t10 0 1).trans lq3, eRW, if_pos rfl, b1 (show lp (fun s => fL_law_b82 xs Ln 0 ((0 + 1) + 1) (((0 + 1) + 1) + 1) ((((0 + 1) + 1) + 1) + 1) s.1 (((((0 + 1) + 1) + 1) + 1) + 1) s.2) FU ((0 : Int32), s10) = _ from sq)]
  show ∃ s', (Option.bind (fL_bergs xs Ln (7 : Int32) (3 : Int32) 0 2 (eT s10)) _) = some (1, s')
  rw [b1 f1]
  dsimp only
  rw [if_neg (show ¬ (1 : Int32) = 0 by decide), ← es12, b1 (show fL_cell xs Ln (10 : Int32) (eT s12) = _ from hx)]
  dsimp only
  rw [uT_e, b1 p2]
  dsimp only
  rw [uT_e, show (1 : Int32) + yI (p : Int) = yI ((1 + p : Nat) : Int) from addn 1 p, show wT s12 (0 + 1 + 1 + 1) 0 (yI ((1 + p : Nat) : Int)) = s13 from es13.symm, b1 (show fL_cell xs Ln (10 : Int32) (eT s13) = _ from hy)]
  dsimp only
  rw [uT_e, b1 (show fL_cell xs Ln (10 : Int32) (eT s13) = _ from hy)]
  dsimp only
  rw [uT_e, b1 dd2]
  dsimp only
  rw [uT_e]
  by_cases q : d = 0
  · rw [if_pos (show yI (d : Int) = 0 by rw [q]; rfl)]
    exact L_b217 hLn i13 (by omega) q12 vs3 mp3 bg3 E17 E18 E19 rp (by omega) (by omega) g2 (by omega) (by omega)
  · rw [if_neg (yI_ne0 (by omega) (by omega) (by omega))]
    exact L_b217 hLn i13 (by omega) q12 vs3 mp3 bg3 E17 E18 E19 rp (by omega) (by omega) g2' (by omega) (by omega)
