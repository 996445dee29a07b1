/-! ===== the law's whole body ===== -/
theorem L_b217 {xs : Nat → Int32} {Ln n B p w : Nat} {s : LwS} {τ : Sg} {y0 y1 : Int32} (hLn : Ln ≤ 260) (h : Inv n s.1 τ) (hn : n + 3 < 512) (q12 : cM τ 0 12 ≠ 0) (vs : VS (cM τ)) (mp : MP 0 s (cM τ)) (bg : BG 2 B s τ) (e17 : cM τ 0 17 = 3) (e18 : cM τ 0 18 = 1) (e19 : cM τ 0 19 = 20) (rp : rT s 3 0 = yI (p : Int)) (p1 : 1 ≤ p) (p9 : p ≤ 9) (hw : fL_at y1 y0 (eT s) = some (yI (w : Int), eT s)) (w9 : w ≤ 9) (hu : s.2.2 ≤ 200) : ∃ s', fL_law_b217 xs Ln 0 2 3 4 y0 y1 (1 : Int32) 3 5 s = some (1, s') := by
  have hRW := vs.RW
  have b30 := vs.b30
  obtain ⟨s1, es1⟩ : ∃ s1, s1 = wT s 3 1 (yI (w : Int)) := ⟨_, rfl⟩
  obtain ⟨x, hx⟩ := L_cell (xs := xs) (a := 10) hLn (by omega) (eT s1)
  have A100 : ∃ k : Nat, k < 100 ∧ fL_at (ishr x 8) (100 : Int32) (eT s1) = some (yI (k : Int), eT s1) := L_at _ (by omega) (by omega) _
  obtain ⟨c, c1, c2⟩ := A100
  obtain ⟨s2, es2⟩ : ∃ s2, s2 = wT s1 3 2 (yI (c : Int)) := ⟨_, rfl⟩
  have i2 : Inv n s2.1 τ := by rw [es2, es1]; exact h
  have u2 : s2.2.2 = s.2.2 := by rw [es2, es1]; rfl
  have r2 : ∀ o j, o ≠ 3 → rT s2 o j = rT s o j := fun o j ho => by rw [es2, rT_o ho, es1, rT_o ho]
  have r30 : rT s2 3 0 = yI (p : Int) := by rw [es2, rT_k (by omega), es1, rT_k (by omega), rp]
  have r31 : rT s2 3 1 = yI (w : Int) := by rw [es2, rT_k (by omega), es1, rT_s]
  have r32 : rT s2 3 2 = yI (c : Int) := by rw [es2, rT_s]
  obtain ⟨σ1, τ1, a1, a2, a3, a4⟩ := l_coin (a := 0) (v := (p : Int)) i2 (by omega) (by omega) (by omega) (by unfold loC hiC; omega)
  obtain ⟨σ2, τ2, b1', b2, b3, b4⟩ := l_coin (a := 1) (v := (w : Int)) a2 (by omega) (by omega) (by omega) (by unfold loC hiC; omega)
  obtain ⟨σ3, τ3, d1, d2, d3, d4⟩ := l_coin (a := 2) (v := (c : Int)) b2 (by omega) (by omega) (by omega) (by unfold loC hiC; omega)
  rw [show 17 + 0 = 17 from rfl] at a1 a3 a4
  rw [show 17 + 1 = 18 from rfl] at b1' b3 b4
  rw [show 17 + 2 = 19 from rfl] at d1 d3 d4
  have fm : ∀ o j, ¬ (o = 0 ∧ 17 ≤ j ∧ j ≤ 19) → cM τ3 o j = cM τ o j := fun o j ho => by
    rw [d4 o j (by omega), b4 o j (by omega), a4 o j (by omega)]
  have m17 : cM τ3 0 17 = (p : Int) := by rw [d4 0 17 (by omega), b4 0 17 (by omega), a3]
  have m18 : cM τ3 0 18 = (w : Int) := by rw [d4 0 18 (by omega), b3]
  have m19 : cM τ3 0 19 = (c : Int) := d3
  have o18 : cM τ1 0 18 = 1 := by rw [a4 0 18 (by omega), e18]
  have o19 : cM τ2 0 19 = 20 := by rw [b4 0 19 (by omega), a4 0 19 (by omega), e19]
  rw [e17] at a1
  rw [o18] at b1'
  rw [o19] at d1
  have se : SE (cM τ) (cM τ3) := ⟨fm 0 9 (by omega), fm 0 10 (by omega), fm 0 11 (by omega), funext fun j => fm 4 j (by omega), funext fun j => fm 5 j (by omega)⟩
  have vs3 := VS_f vs se
  have qr : qR (cM τ3) = qR (cM τ) := by unfold qR; rw [fm 0 9 (by omega)]
  have qw : qW (cM τ3) = qW (cM τ) := by unfold qW; rw [fm 0 10 (by omega)]
  have qh : qH (cM τ3) = qH (cM τ) := by unfold qH; rw [fm 0 11 (by omega)]
  obtain ⟨s3, es3⟩ : ∃ s3, s3 = nT (cS (cS (cS s2 σ1) σ2) σ3) 5 := ⟨_, rfl⟩
  have i3 : Inv (n + 1 + 1 + 1) s3.1 τ3 := by rw [es3]; exact d2
  have u3 : s3.2.2 = s.2.2 + 1 := by rw [es3]; show s2.2.2 + 1 = _; rw [u2]
  have r3 : ∀ o j, o ≠ 5 → rT s3 o j = rT s2 o j := fun o j ho => by rw [es3, rT_n ho]; rfl
  have lk : LK 0 2 3 B s3 τ3 := by
    refine ⟨⟨?_, ?_, ?_, fun i hi => ⟨?_, ?_⟩⟩, ⟨bg.1, ?_, ?_, fun i hi => ?_⟩, ?_, ?_, ?_⟩
    · rw [r3 _ _ (by omega), r2 _ _ (by omega), mp.1, qr]
    · rw [r3 _ _ (by omega), r2 _ _ (by omega), mp.2.1, qw]
    · rw [r3 _ _ (by omega), r2 _ _ (by omega), mp.2.2.1, qh]
    · rw [qr, qw] at hi
      rw [r3 _ _ (by omega), r2 _ _ (by omega), (mp.2.2.2 i hi).1]
      unfold qL
      rw [fm 4 i (by omega)]
    · rw [qr, qw] at hi
      rw [r3 _ _ (by omega), r2 _ _ (by omega), (mp.2.2.2 i hi).2, fm 5 i (by omega)]
    · rw [r3 _ _ (by omega), r2 _ _ (by omega), bg.2.1]
    · rw [fm 0 15 (by omega), bg.2.2.1]
    · rw [r3 _ _ (by omega), r2 _ _ (by omega), bg.2.2.2 i hi, fm 6 i (by omega)]
    · rw [r3 _ _ (by omega), r30, m17]
    · rw [r3 _ _ (by omega), r31, m18]
    · rw [r3 _ _ (by omega), r32, m19]
  obtain ⟨s4, f1, f2, f3, f4, f5⟩ := L_b290s (xs := xs) (Ln := Ln) (w2 := 0) (w4 := 2) (w5 := 3) (w6 := 4) (w8 := 5) (nw := 6) hLn i3 vs3 lk (by omega) (by omega) (by omega) (by omega) (by omega) (by omega) (by omega) (by omega) (by omega) (by omega) (by omega) (by omega) (by omega)
  have q12' : cM τ3 0 12 ≠ 0 := by rw [fm 0 12 (by omega)]; exact q12
  obtain ⟨t, g1, g2, g3⟩ := L_turns (xs := xs) (Ln := Ln) (w2 := 0) (w4 := 2) (w5 := 3) (w8 := 5) (nw := 6) hLn f2 (by omega) q12' f4 f5 (by omega) (by omega) (by omega) (by omega) (by omega)
  have h15 := g3.2.1.2.2.1
  have hB3 := g3.2.1.1
  have r25 : rT t 2 25 = yI (B : Int) := g3.2.1.2.1
  have eRW : yI (qR (cM τ3) : Int) * yI (qW (cM τ3) : Int) = yI ((qR (cM τ3) * qW (cM τ3) : Nat) : Int) := yI_mul _ _
  have b30' := vs3.b30
  have hRW' := vs3.RW
  have z1 := a_square_no g2 (a := ((qR (cM τ3) * qW (cM τ3) : Nat) : Int)) (by omega) (by omega) (by rw [hRW']; omega)
  obtain ⟨-, -, -, z2⟩ := a_square g2 (c := 0) (by rw [hRW']; have := vs3.H.2; omega)
  obtain ⟨n1, n2, n3, n4, n5, n6, n7, n8, n9, n10, n11, n12, n13, n14, n15⟩ := a_no g2 (by omega) q12' h15
  unfold fL_law_b217
  rw [b1 hw]
  dsimp only
  rw [uT_e, if_pos (show inb 1 3 = true from rfl), k1, ← es1, b1 (show fL_cell xs Ln (10 : Int32) (eT s1) = _ from hx)]
  dsimp only
  rw [uT_e, b1 c2]
  dsimp only
  rw [uT_e, k2, ← es2, k0, r30, b1 (show fX9_coin (0 : Int32) (yI (p : Int)) s2.1 = _ from a1)]
  dsimp only
  rw [if_pos (show yI 3 = (3 : Int32) from rfl), rT_c, r31, b1 (show fX9_coin (1 : Int32) (yI (w : Int)) (cS s2 σ1).1 = _ from b1')]
  dsimp only
  rw [if_pos (show yI 1 = (1 : Int32) from rfl), rT_c, rT_c, r32, b1 (show fX9_coin (2 : Int32) (yI (c : Int)) (cS (cS s2 σ1) σ2).1 = _ from d1)]
  dsimp only
  rw [if_pos (show yI 20 = (20 : Int32) from rfl), if_pos (show decide ((cS (cS (cS s2 σ1) σ2) σ3).2.2 + 1 ≤ 6100) = true from decide_eq_true (by show s2.2.2 + 1 ≤ 6100; omega)), ← es3]
  rw [b1 (show lp (fun s => fL_law_b290 xs Ln 0 2 3 4 5 s.1 (5 + 1) s.2) FU ((0 : Int32), s3) = _ from f1)]
  show ∃ s', (Option.bind (lp (fun s => fL_law_b667 xs Ln 0 2 5 s.1 (5 + 1) s.2) FU ((0 : Int32), s4)) _) = some (1, s')
  rw [b1 (show lp (fun s => fL_law_b667 xs Ln 0 2 5 s.1 (5 + 1) s.2) FU ((0 : Int32), s4) = _ from g1)]
  show ∃ s', (Option.bind (fX9_square ((rT t 0 0) * (rT t 0 1)) (0 : Int32) t.1) _) = some (1, s')
  rw [k25, g3.1.1, g3.1.2.1, eRW, b1 z1]
  dsimp only
  rw [cSs, if_pos rfl, b1 (show fX9_square (0 : Int32) (3 : Int32) t.1 = _ from z2)]
  dsimp only
  rw [cSs, if_pos rfl, r25, b1 n1]
  dsimp only
  rw [cSs, if_pos rfl, r25, b1 n2]
  dsimp only
  rw [cSs, if_pos rfl, r25, b1 n3]
  dsimp only
  rw [cSs, if_pos rfl, b1 n4]
  dsimp only
  rw [cSs, if_pos rfl, b1 n5]
  dsimp only
  rw [cSs, if_pos rfl, b1 n6]
  dsimp only
  rw [cSs, if_pos rfl, r25, b1 n7]
  dsimp only
  rw [cSs, if_pos rfl, b1 n8]
  dsimp only
  rw [cSs, if_pos rfl, r25, b1 n9]
  dsimp only
  rw [cSs, if_pos rfl, b1 n10]
  dsimp only
  rw [cSs, if_pos rfl, b1 n11]
  dsimp only
  rw [cSs, if_pos rfl, b1 n12]
  dsimp only
  rw [cSs, if_pos rfl, b1 n13]
  dsimp only
  rw [cSs, if_pos rfl, r25, b1 n14]
  dsimp only
  rw [cSs, if_pos rfl, r25, b1 n15]
  dsimp only
  rw [cSs, if_pos rfl, r25]
  by_cases q : B = 0
  · rw [if_pos (show yI (B : Int) = 0 by rw [q]; rfl)]
    exact ⟨_, rfl⟩
  · obtain ⟨o1, o2, o3, o4, o5, o6⟩ := a_no0 g2 h15 q
    rw [if_neg (yI_ne0 (by omega) (by omega) (by omega)), b1 o1]
    dsimp only
    rw [cSs, if_pos rfl, b1 o2]
    dsimp only
    rw [cSs, if_pos rfl, b1 o3]
    dsimp only
    rw [cSs, if_pos rfl, b1 o4]
    dsimp only
    rw [cSs, if_pos rfl, b1 o5]
    dsimp only
    rw [cSs, if_pos rfl, b1 o6]
    dsimp only
    rw [if_pos rfl]
    exact ⟨_, rfl⟩
