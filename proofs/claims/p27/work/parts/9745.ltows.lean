/-! ===== tows of one berg ===== -/
theorem msk (x : Int32) : ∃ q : Nat, q < 2147483648 ∧ x &&& (2147483647 : Int32) = yI (q : Int) := by
  refine ⟨(x &&& 2147483647).toBitVec.toNat, ?_, ?_⟩
  · have : (x &&& (2147483647 : Int32)).toBitVec.toNat = x.toBitVec.toNat &&& 2147483647 := by
      rw [Int32.toBitVec_and, BitVec.toNat_and]; rfl
    rw [this]
    exact Nat.lt_of_le_of_lt (Nat.and_le_right) (by decide)
  · rw [← yI_nat]
    show _ = Int32.ofNat _
    apply Int32.toBitVec_inj.mp
    rw [Int32.toBitVec_ofNat', BitVec.ofNat_toNat, BitVec.setWidth_eq]
theorem qtw_tb {m : Mm} {E : QE} (v : VS m) : ∀ (l : List Nat) (c : Nat) (T : QT), VW m l c → TB T → TB (qtw m E l c T)
  | [], _, _, _, tb => tb
  | w :: l, c, T, vw, tb => qtw_tb v l (qgo m c w) (qst m E c w T) vw.2 (qst_b (qL_b v vw.1.1).2.1 tb).1
theorem L_tows {xs : Nat → Int32} {Ln n w2 w4 w5 nw B k : Nat} {s : LwS} {τ : Sg} (hLn : Ln ≤ 260) (h : Inv n s.1 τ) (vs : VS (cM τ)) (lk : LK w2 w4 w5 B s τ) (hk : k < B) (hu : s.2.2 = 0) (n2 : w2 < nw) (n4 : w4 < nw) (n5 : w5 < nw) : ∃ s', fL_tows xs Ln w2 w4 w5 (yI (k : Int)) nw s = some (1, s') ∧ Inv n s'.1 τ ∧ ∀ o j, o < nw → rT s' o j = rT s o j := by
  have hB3 := lk.2.1.1
  have h15 := lk.2.1.2.2.1
  have hb : (k : Int) < cM τ 0 15 := by rw [h15]; omega
  obtain ⟨b5, bs⟩ := Inv_b h hb
  obtain ⟨v, gm, gc, gk, wb, kb, hrow, -⟩ := id bs
  obtain ⟨w0', w1', w2', w3', w4', w5', w6', w7', w8', w9'⟩ := VB1_q v wb
  have vk := h.2.2.2.1.2.2.2
  obtain ⟨x, hx⟩ := L_cell (xs := xs) (a := 13 + k) hLn (by omega) (eT (nT s nw))
  have A11 : ∃ k : Nat, k < 11 ∧ fL_at x (11 : Int32) (eT (nT s nw)) = some (yI (k : Int), eT (nT s nw)) := L_at _ (by omega) (by omega) _
  have A2 : ∃ k : Nat, k < 2 ∧ fL_at (ishr x 4) (2 : Int32) (eT (nT s nw)) = some (yI (k : Int), eT (nT s nw)) := L_at _ (by omega) (by omega) _
  obtain ⟨t0, t1, t2⟩ := A11
  obtain ⟨d, d1, d2⟩ := A2
  obtain ⟨s1, es1⟩ : ∃ s1, s1 = nT s nw := ⟨_, rfl⟩
  have lk1 : LK w2 w4 w5 B s1 τ := LK_f lk (fun j => by rw [es1]; exact rT_n (by omega)) (fun j => by rw [es1]; exact rT_n (by omega)) (fun j => by rw [es1]; exact rT_n (by omega))
  have c1 : s1.1 = s.1 := by rw [es1]; rfl
  have u1 : s1.2.2 = 1 := by rw [es1]; show s.2.2 + 1 = 1; omega
  have r1 : ∀ o j, o < nw → rT s1 o j = rT s o j := fun o j ho => by rw [es1]; exact rT_n (by omega)
  have GO : ∀ t sk : Nat, 1 ≤ t → t ≤ 11 → sk ≤ 1 → ∃ s', fL_tows_b44 xs Ln w2 w4 w5 (yI (k : Int)) nw (yI (t : Int)) (yI (sk : Int)) (nw + 1) s1 = some (1, s') ∧ Inv n s'.1 τ ∧ ∀ o j, o < nw → rT s' o j = rT s o j := fun t sk t1 t11 s1' => by
    obtain ⟨y, hy⟩ := L_cell (xs := xs) (a := 16 + k) hLn (by omega) (eT s1)
    obtain ⟨sd, sd1, sd2⟩ := msk y
    have eb := qE_b (tugs := t) (sk := sk) (dr := 0) wb t1 t11 s1' (by omega)
    obtain ⟨s2, p1, p2, p3, p4, p5⟩ := L_best (s := eT s1) (w0 := w2) (w1 := w4) (w5 := w5) (w6 := nw) (nw := nw + 1) (E := qE (cM τ) k t sk 0) v vk eb rfl rfl (by omega) (by omega) (by omega) (by omega) (by omega) (by omega) (by omega) (by omega) w7' w9' w5' w6' (LK_HB v wb (LK_f lk1 (fun _ => rfl) (fun _ => rfl) (fun _ => rfl)) hk)
    obtain ⟨bb, bn⟩ := qbb_b b5 bs (size := qsz (cM τ) k) (tugs := t) (sk := sk) w5' t1 t11 s1'
    have eqb : qbest (cM τ) (qE (cM τ) k t sk 0) (qsq (cM τ) k) (qsz (cM τ) k, (cM τ 6 (5 * k + 3)).toNat, 0, 0) = qbb (cM τ) k (qsz (cM τ) k) t sk := rfl
    rw [eqb] at p3 p4
    obtain ⟨s3, es3⟩ : ∃ s3, s3 = uT s1 s2 1 := ⟨_, rfl⟩
    have c3 : s3.1 = s.1 := by rw [es3]; exact p2.1.trans c1
    have u3 : s3.2.2 = 2 := by rw [es3]; show s1.2.2 + 1 = 2; omega
    have r3 : ∀ o j, o < nw → rT s3 o j = rT s o j := fun o j ho => by
      rw [es3, rT_u, p2.2 _ _ (by omega) (by omega)]; exact r1 o j ho
    have g3 : gS s3 nw (qbb (cM τ) k (qsz (cM τ) k) t sk) := by rw [es3]; exact p3
    have gq : rT s3 nw 3 = yI (qF (cM τ) (qsq (cM τ) k) : Int) := by rw [es3]; exact p5
    have i3 : Inv n s3.1 τ := by rw [c3]; exact h
    have q9 := q9 v w7'
    have cb := qcn_b v w7'
    have P1 : fL_best w2 w4 ((5 : Int32) * yI (k : Int)) (yI (t : Int)) (yI (sk : Int)) w5 nw (nw + 1) (eT s1) = some s2 := by rw [mul5]; exact p1
    unfold fL_tows_b44
    rw [show (16 : Int32) + yI (k : Int) = yI ((16 + k : Nat) : Int) from addn 16 k, b1 hy]
    dsimp only
    rw [uT_e, if_pos (show decide (s1.2.2 + 1 ≤ 3) = true from decide_eq_true (by omega)), b1 P1, ← es3, k5, g3.1, bn, sd2]
    by_cases z : qcn (cM τ) (qsq (cM τ) k) = 0
    · rw [if_pos (show yI (qcn (cM τ) (qsq (cM τ) k) : Int) = 0 by rw [z]; rfl)]
      obtain ⟨σ1, a1, a2⟩ := a_tow (w := 0) i3 hb t1 t11 s1' (by omega)
      rw [if_pos z] at a1
      obtain ⟨σ2, a3, a4⟩ := a_tow (w := 10) a2 hb t1 t11 s1' (by omega)
      rw [if_pos z] at a3
      obtain ⟨σ3, a5, a6⟩ := a_drawn (w := 0) (q := sd) a4 hb t1 t11 s1' sd1 (by omega)
      rw [if_pos z] at a5
      have a7 := a_came_no a6 hb t1 t11 s1' z
      rw [b1 (show fX9_tow (yI (k : Int)) (yI (t : Int)) (yI (sk : Int)) (0 : Int32) s3.1 = _ from a1)]
      dsimp only
      rw [if_pos (show yI (-100001) = (-100001 : Int32) from rfl), b1 (show fX9_tow (yI (k : Int)) (yI (t : Int)) (yI (sk : Int)) (10 : Int32) (cS s3 σ1).1 = _ from a3)]
      dsimp only
      rw [if_pos (show yI (-100001) = (-100001 : Int32) from rfl), b1 (show fX9_drawn (yI (k : Int)) (yI (t : Int)) (yI (sk : Int)) (yI (sd : Int)) (0 : Int32) (cS (cS s3 σ1) σ2).1 = _ from a5)]
      dsimp only
      rw [if_pos (show yI (-1) = (-1 : Int32) from rfl), b1 (show fX9_came (yI (k : Int)) (yI (t : Int)) (yI (sk : Int)) (0 : Int32) (0 : Int32) (cS (cS (cS s3 σ1) σ2) σ3).1 = _ from a7)]
      dsimp only
      rw [if_pos rfl]
      exact ⟨_, rfl, a6, fun o j ho => r3 o j ho⟩
    · have n0 : (qbb (cM τ) k (qsz (cM τ) k) t sk).1 ≠ 0 := by rw [bn]; exact z
      rw [if_neg (yI_ne0 (by omega) (by omega) (by omega))]
      obtain ⟨b1', b2, b3, b4, b5', b6⟩ := bb n0
      obtain ⟨f1, f2, f3, f4⟩ := g3.2 n0
      obtain ⟨l1, l2, l3⟩ := best_l v w7' w9' w8' n0
      -- how the law's rows stay
      have L1 : ∃ u, lp (fun s => fL_tows_b160 xs Ln w2 w4 (yI (k : Int)) nw (yI (t : Int)) (yI (sk : Int)) (yI (sd : Int)) s.1 (nw + 1) s.2) FU ((0 : Int32), s3) = some u ∧ ∃ s', u = .inr s' ∧ Inv n s'.1 τ ∧ s'.2 = s3.2 := by
        refine lp_all (fun i st => st.1 = yI (i : Int) ∧ Inv n st.2.1 τ ∧ st.2.2 = s3.2) 4 _ ?_ ?_ ⟨rfl, i3, rfl⟩ (FU_b (by omega))
        · rintro i ⟨x, u⟩ hi ⟨e1, e2, e3⟩
          dsimp only at e1 e2 e3
          subst e1
          obtain ⟨σ1, a1, a2⟩ := a_tow (w := i) e2 hb t1 t11 s1' (by omega)
          rw [if_neg z] at a1
          refine ⟨(yI ((i + 1 : Nat) : Int), cS u σ1), ?_, rfl, a2, e3⟩
          dsimp only
          unfold fL_tows_b160
          rw [if_neg (gen (v := 4) (b := 4) rfl (by omega) (by omega) (by omega)), b1 a1]
          dsimp only
          rw [if_pos (inb_n (by omega) (by omega)), yI_cln (by omega), rT_c, show rT u nw i = rT s3 nw i from by unfold rT; rw [e3], add1]
          refine if_pos ?_
          unfold tell
          rcases (show i = 0 ∨ i = 1 ∨ i = 2 ∨ i = 3 by omega) with rfl | rfl | rfl | rfl
          · rw [f1]; rfl
          · rw [f2]; rfl
          · rw [f3]; rfl
          · rw [gq]
            show yI ((qbb (cM τ) k (qsz (cM τ) k) t sk).2.2.2.2.length : Int) = _
            rw [← l1]; rfl
        · rintro ⟨x, u⟩ ⟨e1, e2, e3⟩
          dsimp only at e1 e2 e3
          subst e1
          refine ⟨.inr u, ?_, u, rfl, e2, e3⟩
          dsimp only
          unfold fL_tows_b160
          rw [if_pos (gep (v := 4) (b := 4) rfl (by omega) (by omega) (by omega))]
      obtain ⟨u4, q1, s4, rfl, i4, e4⟩ := L1
      have r4 : ∀ o j, rT s4 o j = rT s3 o j := fun o j => by unfold rT; rw [e4]
      have cvb := cv_b _ l2
      have hp : 2 ^ (2 * (qbb (cM τ) k (qsz (cM τ) k) t sk).2.2.2.2.length) ≤ 2 ^ (2 * 9) := Nat.pow_le_pow_right (by omega) (by rw [show (qbb (cM τ) k (qsz (cM τ) k) t sk).2.2.2.2.length = qF (cM τ) (qsq (cM τ) k) from l1]; omega)
      have hcv : cv (qbb (cM τ) k (qsz (cM τ) k) t sk).2.2.2.2 < 2147483648 := Nat.lt_of_lt_of_le cvb (Nat.le_trans hp (by decide))
      have dgl : dg (cv (qbb (cM τ) k (qsz (cM τ) k) t sk).2.2.2.2) (qF (cM τ) (qsq (cM τ) k)) = (qbb (cM τ) k (qsz (cM τ) k) t sk).2.2.2.2 := by
        have := dg_cv0 (qbb (cM τ) k (qsz (cM τ) k) t sk).2.2.2.2 l2
        rw [show (qbb (cM τ) k (qsz (cM τ) k) t sk).2.2.2.2.length = qF (cM τ) (qsq (cM τ) k) from l1] at this
        exact this
      have ll : (qbb (cM τ) k (qsz (cM τ) k) t sk).2.2.2.2.length = qF (cM τ) (qsq (cM τ) k) := l1
      have vw : VW (cM τ) (qbb (cM τ) k (qsz (cM τ) k) t sk).2.2.2.2 (qsq (cM τ) k) := l3
      have L2 : ∃ u, lp (fun s => fL_tows_b197 xs Ln w2 w4 (yI (k : Int)) nw (yI (t : Int)) (yI (sk : Int)) (yI (sd : Int)) s.1 (nw + 1) s.2) FU ((0 : Int32), s4) = some u ∧ ∃ s', u = .inr s' ∧ Inv n s'.1 τ ∧ s'.2 = s3.2 := by
        refine lp_all (fun i st => st.1 = yI (i : Int) ∧ Inv n st.2.1 τ ∧ st.2.2 = s3.2) 9 _ ?_ ?_ ⟨rfl, i4, e4⟩ (FU_b (by omega))
        · rintro i ⟨x, u⟩ hi ⟨e1, e2, e3⟩
          dsimp only at e1 e2 e3
          subst e1
          obtain ⟨σ1, a1, a2⟩ := a_tow (w := 10 + i) e2 hb t1 t11 s1' (by omega)
          rw [if_neg z] at a1
          refine ⟨(yI ((i + 1 : Nat) : Int), cS u σ1), ?_, rfl, a2, e3⟩
          have ru : ∀ j, rT (cS u σ1) nw j = rT s3 nw j := fun j => by
            show u.2.1.1 nw j = s3.2.1.1 nw j
            rw [e3]
          dsimp only
          unfold fL_tows_b197 fL_tows_b250
          rw [if_neg (gen (v := 9) (b := 9) rfl (by omega) (by omega) (by omega)), show (10 : Int32) + yI (i : Int) = yI ((10 + i : Nat) : Int) from addn 10 i, b1 a1]
          dsimp only
          rw [k3, k4, ru, ru, gq, f4, add1]
          have et : tell (qbb (cM τ) k (qsz (cM τ) k) t sk) (10 + i) = if i < qF (cM τ) (qsq (cM τ) k) then ((qbb (cM τ) k (qsz (cM τ) k) t sk).2.2.2.2.getD i 0 : Int) else -1 := by
            unfold tell
            rw [if_neg (by omega), if_neg (by omega), if_neg (by omega), if_neg (by omega), Nat.add_sub_cancel_left, ll]
          rw [et]
          by_cases c : i < qF (cM τ) (qsq (cM τ) k)
          · have dgi := dg_get (cv (qbb (cM τ) k (qsz (cM τ) k) t sk).2.2.2.2) (qF (cM τ) (qsq (cM τ) k)) i c
            have hd : cv (qbb (cM τ) k (qsz (cM τ) k) t sk).2.2.2.2 / 2 ^ (2 * (qF (cM τ) (qsq (cM τ) k) - 1 - i)) ≤ cv (qbb (cM τ) k (qsz (cM τ) k) t sk).2.2.2.2 := Nat.div_le_self _ _
            rw [dgl] at dgi
            rw [if_neg (fun q => by have := (yI_le (by omega) (by omega) (by omega) (by omega)).mp q; omega), if_pos c, show (yI (qF (cM τ) (qsq (cM τ) k) : Int) - (1 : Int32)) - yI (i : Int) = yI ((qF (cM τ) (qsq (cM τ) k) - 1 - i : Nat) : Int) from by rw [yI_1, yI_sub, yI_sub]; congr 1; omega, show (2 : Int32) * yI ((qF (cM τ) (qsq (cM τ) k) - 1 - i : Nat) : Int) = yI ((2 * (qF (cM τ) (qsq (cM τ) k) - 1 - i) : Nat) : Int) from by rw [show (2 : Int32) = yI 2 from rfl, yI_mul]; rfl, ishr_y hcv (by omega), and3_y (by omega), dgi, if_pos rfl]
          · rw [if_pos ((yI_le (by omega) (by omega) (by omega) (by omega)).mpr (by omega)), if_neg c, if_pos (show yI (-1) = (-1 : Int32) from rfl)]
        · rintro ⟨x, u⟩ ⟨e1, e2, e3⟩
          dsimp only at e1 e2 e3
          subst e1
          refine ⟨.inr u, ?_, u, rfl, e2, e3⟩
          dsimp only
          unfold fL_tows_b197
          rw [if_pos (gep (v := 9) (b := 9) rfl (by omega) (by omega) (by omega))]
      obtain ⟨u5, q2, s5, rfl, i5, e5⟩ := L2
      have r5 : ∀ o j, rT s5 o j = rT s3 o j := fun o j => by unfold rT; rw [e5]
      have u5 : s5.2.2 = 2 := by rw [e5]; exact u3
      have lk5 : LK w2 w4 w5 B s5 τ := LK_f lk (fun j => by rw [r5, r3 _ _ n2]) (fun j => by rw [r5, r3 _ _ n4]) (fun j => by rw [r5, r3 _ _ n5])
      obtain ⟨s6, es6⟩ : ∃ s6, s6 = wT (wT (nT s5 (nw + 1)) (nw + 1) 0 (yI (qsz (cM τ) k : Int))) (nw + 1) 1 (yI ((cM τ 6 (5 * k + 3)).toNat : Int)) := ⟨_, rfl⟩
      have r6 : ∀ o j, o ≠ nw + 1 → rT s6 o j = rT s5 o j := fun o j ho => by rw [es6, rT_o ho, rT_o ho, rT_n ho]
      have lk6 : LK w2 w4 w5 B s6 τ := LK_f lk5 (fun j => r6 _ _ (by omega)) (fun j => r6 _ _ (by omega)) (fun j => r6 _ _ (by omega))
      obtain ⟨hm, hbr, -, -, -, -⟩ := LK_HB (t := t) (sk := sk) (dr := 1) v wb lk6 hk
      have eb1 := qE_b (tugs := t) (sk := sk) (dr := 1) wb t1 t11 s1' (by omega)
      have tb : TB (qT (cM τ) k (qsz (cM τ) k) sd) := ⟨w5', w6', by show qsz (cM τ) k + 0 ≤ 999; omega, sd1⟩
      have cw : CW (nw + 1) s6 (qT (cM τ) k (qsz (cM τ) k) sd) := ⟨by rw [es6, rT_k (by omega), rT_s]; rfl, by rw [es6, rT_s]; rfl, by rw [es6, rT_k (by omega), rT_k (by omega), rT_nn]; rfl⟩
      obtain ⟨s7, q3, q4, q5⟩ := L_dwalk (xs := xs) (Ln := Ln) (w2 := w2) (w3 := w4) (w6 := nw) (w11 := nw + 1) (nw := nw + 1 + 1) (b := k) (code := cv (qbb (cM τ) k (qsz (cM τ) k) t sk).2.2.2.2) (L := qF (cM τ) (qsq (cM τ) k)) (E := qE (cM τ) k t sk 1) v eb1 rfl (by omega) (by omega) (by omega) b5 hcv q9 (yI (sd : Int)) (qF (cM τ) (qsq (cM τ) k)) (qsq (cM τ) k) 0 (qT (cM τ) k (qsz (cM τ) k) sd) s6 FU (FU_b (by omega)) (by omega) (by rw [dgl]; exact vw) tb cw hm hbr (by rw [r6 _ _ (by omega), r5, gq]) (by rw [r6 _ _ (by omega), r5, f4])
      rw [dgl] at q3 q4
      have eqd : qtw (cM τ) (qE (cM τ) k t sk 1) (qbb (cM τ) k (qsz (cM τ) k) t sk).2.2.2.2 (qsq (cM τ) k) (qT (cM τ) k (qsz (cM τ) k) sd) = qdr (cM τ) k t sk sd := rfl
      rw [eqd] at q3 q4
      have Q3 : lp (fun s => fL_tows_b308 xs Ln w2 w4 (yI (k : Int)) nw (yI (t : Int)) (yI (sk : Int)) (yI (sd : Int)) (nw + 1) s.1 s.2.1 s.2.2.1 (nw + 1 + 1) s.2.2.2) FU (yI (qsq (cM τ) k : Int), lN sd, (0 : Int32), s6) = some (lN (qdr (cM τ) k t sk sd).2.2.2, s7) := q3
      have i7 : Inv n s7.1 τ := by rw [q5.1, es6]; exact i5
      obtain ⟨σ1, a1, a2⟩ := a_drawn (w := 0) (q := sd) i7 hb t1 t11 s1' sd1 (by omega)
      rw [if_neg z, if_pos rfl] at a1
      obtain ⟨σ2, a3, a4⟩ := a_drawn (w := 1) (q := sd) a2 hb t1 t11 s1' sd1 (by omega)
      rw [if_neg z, if_neg (show ¬ 1 = 0 by omega), if_pos rfl] at a3
      obtain ⟨σ3, a5, a6⟩ := a_drawn (w := 2) (q := sd) a4 hb t1 t11 s1' sd1 (by omega)
      rw [if_neg z, if_neg (show ¬ 2 = 0 by omega), if_neg (show ¬ 2 = 1 by omega)] at a5
      have sb : (qdr (cM τ) k t sk sd).2.2.2 < 2147483648 := (qtw_tb (E := qE (cM τ) k t sk 1) v _ _ _ vw tb).2.2.2
      have ra : rT s5 w4 (5 * k + 1) = yI (qsq (cM τ) k : Int) := by rw [lk5.2.1.2.2.2 _ (by omega), w1']
      have rb : rT s5 w4 (5 * k + 2) = yI (qsz (cM τ) k : Int) := by rw [lk5.2.1.2.2.2 _ (by omega), w2']
      have rc : rT s5 w4 (5 * k + 3) = yI ((cM τ 6 (5 * k + 3)).toNat : Int) := by rw [lk5.2.1.2.2.2 _ (by omega), ← w3']
      rw [b1 q1]
      show ∃ s', (Option.bind (lp (fun s => fL_tows_b197 xs Ln w2 w4 (yI (k : Int)) nw (yI (t : Int)) (yI (sk : Int)) (yI (sd : Int)) s.1 (nw + 1) s.2) FU ((0 : Int32), s4)) _) = some (1, s') ∧ _
      rw [b1 q2]
      show ∃ s', (if decide (s5.2.2 + 1 ≤ 3) = true then _ else _) = some (1, s') ∧ _
      rw [if_pos (show decide (s5.2.2 + 1 ≤ 3) = true from decide_eq_true (by omega)), mul5, add1, add2, add3, if_pos (inb_n (by omega) (by omega)), if_pos (inb_n (by omega) (by omega)), if_pos (inb_n (by omega) (by omega)), yI_cln (by omega), yI_cln (by omega), yI_cln (by omega), k0, k1, k2, rT_n (show w4 ≠ nw + 1 by omega), rT_n (show w4 ≠ nw + 1 by omega), rT_o (show w4 ≠ nw + 1 by omega), rT_n (show w4 ≠ nw + 1 by omega), ra, rb, rc, ← es6, yI_lN sd1, b1 Q3]
      dsimp only
      rw [b1 (show fX9_drawn (yI (k : Int)) (yI (t : Int)) (yI (sk : Int)) (yI (sd : Int)) (0 : Int32) s7.1 = _ from a1)]
      dsimp only
      rw [rT_c, q4.1, if_pos rfl, b1 (show fX9_drawn (yI (k : Int)) (yI (t : Int)) (yI (sk : Int)) (yI (sd : Int)) (1 : Int32) (cS s7 σ1).1 = _ from a3)]
      dsimp only
      rw [rT_c, rT_c, q4.2.2, if_pos rfl, b1 (show fX9_drawn (yI (k : Int)) (yI (t : Int)) (yI (sk : Int)) (yI (sd : Int)) (2 : Int32) (cS (cS s7 σ1) σ2).1 = _ from a5)]
      dsimp only
      rw [yI_lN sb, if_pos (lg_self _)]
      refine ⟨_, rfl, a6, fun o j ho => ?_⟩
      show rT s7 o j = _
      rw [q5.2.2 _ _ (by omega), r6 _ _ (by omega), r5, r3 _ _ ho]
  unfold fL_tows fL_tows_b0
  rw [if_pos (show decide (s.2.2 + 1 ≤ 3) = true from decide_eq_true (by omega)), show (13 : Int32) + yI (k : Int) = yI ((13 + k : Nat) : Int) from addn 13 k, b1 hx]
  dsimp only
  rw [uT_e, b1 t2]
  dsimp only
  rw [uT_e, b1 d2]
  dsimp only
  rw [uT_e, ← es1, show (1 : Int32) + yI (t0 : Int) = yI ((1 + t0 : Nat) : Int) from addn 1 t0]
  by_cases q : d = 0
  · rw [if_pos (show yI (d : Int) = 0 by rw [q]; rfl)]
    exact GO (1 + t0) 1 (by omega) (by omega) (by omega)
  · rw [if_neg (yI_ne0 (by omega) (by omega) (by omega))]
    exact GO (1 + t0) 0 (by omega) (by omega) (by omega)
