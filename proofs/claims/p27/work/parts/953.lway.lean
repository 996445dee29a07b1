/-! ===== a row of steps, as the law walks it ===== -/
theorem ysh : ∀ n, n < 32 → ((nI n &&& 31).toBitVec.smod 32).toNat = n := by decide +kernel
theorem ishr_y {a j : Nat} (ha : a < 2147483648) (hj : j < 32) : ishr (yI (a : Int)) (yI (j : Int)) = yI ((a / 2 ^ j : Nat) : Int) := by
  unfold ishr
  rw [← yI_nat, ← yI_nat, ← yI_nat, pk_shrN ha _ j (ysh j hj)]
theorem ishl_y {a j : Nat} (hj : j < 32) (h : a * 2 ^ j < 2147483648) : ishl (yI (a : Int)) (yI (j : Int)) = yI ((a * 2 ^ j : Nat) : Int) := by
  unfold ishl
  rw [← yI_nat, ← yI_nat, ← yI_nat, pk_shlN _ j (ysh j hj) (by omega)]
theorem and3_y {a : Nat} (ha : a < 2147483648) : yI (a : Int) &&& (3 : Int32) = yI ((a % 4 : Nat) : Int) := by
  rw [← yI_nat, ← yI_nat, pk_andN (by omega) 2 rfl]
theorem and1_y {a : Nat} (ha : a < 2147483648) : yI (a : Int) &&& (1 : Int32) = yI ((a % 2 : Nat) : Int) := by
  rw [← yI_nat, ← yI_nat, pk_andN (by omega) 1 rfl]
/-- the figures of base 4, the highest of k first -/
def dg (code : Nat) : Nat → List Nat
  | 0 => []
  | k + 1 => code / 2 ^ (2 * k) % 4 :: dg code k
theorem dg_len (code : Nat) : ∀ k, (dg code k).length = k
  | 0 => rfl
  | k + 1 => by show (dg code k).length + 1 = _; rw [dg_len code k]
/-- the sea's numbers as the law holds them -/
def MP (q : Nat) (s : LwS) (m : Mm) : Prop := rT s q 0 = yI (qR m : Int) ∧ rT s q 1 = yI (qW m : Int) ∧ rT s q 2 = yI (qH m : Int) ∧ ∀ i, i < qR m * qW m → rT s q (3 + i) = yI (qL m i : Int) ∧ rT s q (33 + i) = yI (m 5 i)
theorem MP_f {q w : Nat} {s s' : LwS} {m : Mm} (h : MP q s m) (n : q ≠ w) (f : fr w s s') : MP q s' m := ⟨by rw [f.2.2 _ _ n, h.1], by rw [f.2.2 _ _ n, h.2.1], by rw [f.2.2 _ _ n, h.2.2.1], fun i hi => by rw [f.2.2 _ _ n, f.2.2 _ _ n]; exact h.2.2.2 i hi⟩
def CW (w : Nat) (s : LwS) (T : QT) : Prop := rT s w 0 = yI (T.1 : Int) ∧ rT s w 1 = yI (T.2.1 : Int) ∧ rT s w 2 = yI (T.2.2.1 : Int)
def BRw (q i : Nat) (s : LwS) (E : QE) : Prop := rT s q i = yI (E.1 : Int) ∧ rT s q (i + 4) = yI (E.2.1 : Int)
theorem BRw_f {q i w : Nat} {s s' : LwS} {E : QE} (h : BRw q i s E) (n : q ≠ w) (f : fr w s s') : BRw q i s' E := ⟨by rw [f.2.2 _ _ n, h.1], by rw [f.2.2 _ _ n, h.2]⟩
/-- the days of one step -/
theorem L_drun {m : Mm} {E : QE} {w0 w1 w7 i c z : Nat} (v : VS m) (eb : EB E) (dr0 : E.2.2.2.2 = 0) (h07 : w0 ≠ w7) (h17 : w1 ≠ w7) (hi : i + 4 ≤ 25) (hc : c < qR m * qW m) (hz : z ≤ 2000) (x3 x5 x9 x11 : Int32) : ∀ (k j : Nat) (T : QT) (s : LwS) (n : Nat), k < n → j + k = z → TB T → CW w7 s T → MP w0 s m → BRw w1 i s E → ∃ s', lp (fun s => fL_way_b113 w0 w1 (yI (i : Int)) x3 (yI (E.2.2.2.1 : Int)) x5 w7 (yI (c : Int)) x9 x11 (yI (z : Int)) s.1 s.2) n (yI (j : Int), s) = some s' ∧ CW w7 s' (qrun E (qL m c) k T) ∧ fr w7 s s'
  | 0, j, T, s, n, hn, hj, tb, cw, mp, br => by
    obtain ⟨n, rfl⟩ : ∃ q, n = q + 1 := ⟨n - 1, by omega⟩
    refine ⟨s, lp_en ?_, cw, fr_r _ _⟩
    dsimp only
    unfold fL_way_b113
    rw [if_pos ((yI_le (by omega) (by omega) (by omega) (by omega)).mpr (by omega))]
  | k + 1, j, T, s, n, hn, hj, tb, cw, mp, br => by
    obtain ⟨n, rfl⟩ : ∃ q, n = q + 1 := ⟨n - 1, by omega⟩
    have b30 := v.b30
    have l11 := (qL_b v hc).2.1
    obtain ⟨t1, t2, t3, t4⟩ := id tb
    obtain ⟨c0, c1, c2⟩ := id cw
    have ebs := eb
    obtain ⟨e1, e2, e3, e4, e5, e6, e7⟩ := ebs
    show ∃ s', _ ∧ CW w7 s' (if T.1 = 0 then T else qrun E (qL m c) k (qday E (qL m c) T)) ∧ _
    by_cases y : T.1 = 0
    · rw [if_pos y]
      refine ⟨s, lp_en ?_, cw, fr_r _ _⟩
      dsimp only
      unfold fL_way_b113
      rw [k0]
      rw [if_neg (fun q => by have := (yI_le (by omega) (by omega) (by omega) (by omega)).mp q; omega), c0, if_pos (lep (v := 0) (b := 0) rfl (by omega) (by omega) (by omega))]
    · rw [if_neg y]
      have hd : qday E (qL m c) T = qdy E.1 E.2.1 E.2.2.2.1 (qL m c) T.1 T.2.1 T.2.2.1 T.2.2.2 := by
        unfold qday qdw
        rw [if_pos dr0]
      obtain ⟨s1, r1, ⟨r2, r3, r4⟩, r5⟩ := L_day (s := eT s) (bq := w1) (wq := w7) (i := i) (k := E.1) (ev := E.2.1) (sk := E.2.2.2.1) (w := qL m c) (S := T.1) (F := T.2.1) (D := T.2.2.1) (q := T.2.2.2) h17 hi e1 e2 e3 e6 t1 t2 (by omega) (by omega) br.1 br.2 c0 c1 c2
      have f1 := fr_e r5
      have tb2 := (qday_b (E := E) (w := qL m c) l11 tb (by omega)).1
      have st : fL_way_b113 w0 w1 (yI (i : Int)) x3 (yI (E.2.2.2.1 : Int)) x5 w7 (yI (c : Int)) x9 x11 (yI (z : Int)) (yI (j : Int)) s = some (.inl (yI ((j + 1 : Nat) : Int), uT s s1 0)) := by
        unfold fL_way_b113
        rw [k0]
        rw [if_neg (fun q => by have := (yI_le (by omega) (by omega) (by omega) (by omega)).mp q; omega), c0, if_neg (len (v := 0) (b := 0) rfl (by omega) (by omega) (by omega)), show (3 : Int32) = yI ((3 : Nat) : Int) from rfl, addn, if_pos (inb_n (by omega) (by omega)), yI_cln (by omega), (mp.2.2.2 c hc).1, b1 r1, add1]
      obtain ⟨s2, q1, q2, q3⟩ := L_drun v eb dr0 h07 h17 hi hc hz x3 x5 x9 x11 k (j + 1) (qday E (qL m c) T) (uT s s1 0) n (by omega) (by omega) tb2 ⟨by rw [rT_u, r2, hd], by rw [rT_u, r3, hd], by rw [rT_u, r4, hd]; rfl⟩ (MP_f mp h07 f1) (BRw_f br h17 f1)
      exact ⟨s2, by rw [lp_st st]; exact q1, q2, fr_t f1 q3⟩
/-- what a row of steps leaves; none: it isn't a way -/
def wlk (m : Mm) (E : QE) : List Nat → Nat → QT → Option (Nat × QT)
  | [], c, T => some (c, T)
  | w :: l, c, T => match qto m c w with
    | none => none
    | some x => wlk m E l x (qst m E c w T)
theorem dg4 (code k : Nat) : code / 2 ^ (2 * k) % 4 < 4 := Nat.mod_lt _ (by decide)
theorem L_walk {m : Mm} {E : QE} {w0 w1 w7 i code : Nat} (v : VS m) (eb : EB E) (dr0 : E.2.2.2.2 = 0) (h07 : w0 ≠ w7) (h17 : w1 ≠ w7) (hi : i + 4 ≤ 25) (hcode : code < 2147483648) : ∀ (k c : Nat) (T : QT) (s : LwS) (n : Nat), k < n → k ≤ 9 → c < qR m * qW m → TB T → CW w7 s T → MP w0 s m → BRw w1 i s E → ∃ (o : LwS ⊕ (Int32 × LwS)) (s' : LwS), lp (fun s => fL_way_b36 w0 w1 (yI (i : Int)) (yI (E.2.2.1 : Int)) (yI (E.2.2.2.1 : Int)) (yI (code : Int)) w7 s.1 s.2.1 s.2.2) n (yI (c : Int), yI ((k : Int) - 1), s) = some o ∧ fr w7 s s' ∧ (match wlk m E (dg code k) c T with
      | none => o = .inl s'
      | some r => o = .inr (yI (r.1 : Int), s') ∧ CW w7 s' r.2 ∧ r.1 < qR m * qW m)
  | 0, c, T, s, n, hn, hk, hc, tb, cw, mp, br => by
    obtain ⟨n, rfl⟩ : ∃ q, n = q + 1 := ⟨n - 1, by omega⟩
    refine ⟨.inr (yI (c : Int), s), s, lp_en ?_, fr_r _ _, rfl, cw, hc⟩
    dsimp only
    unfold fL_way_b36
    rw [if_pos (ltp (v := 0) (b := 0) rfl (by omega) (by omega) (by omega))]
  | k + 1, c, T, s, n, hn, hk, hc, tb, cw, mp, br => by
    obtain ⟨n, rfl⟩ : ∃ q, n = q + 1 := ⟨n - 1, by omega⟩
    have b30 := v.b30
    obtain ⟨-, w1', w2'⟩ := v.W
    obtain ⟨-, r1', r2'⟩ := v.R
    have l11 := (qL_b v hc).2.1
    have hH := v.H.2
    obtain ⟨m0, m1, m2, m3⟩ := id mp
    have d4 := dg4 code k
    have hd : code / 2 ^ (2 * k) ≤ code := Nat.div_le_self _ _
    have edig : (ishr (yI (code : Int)) ((2 : Int32) * yI (k : Int))) &&& (3 : Int32) = yI ((code / 2 ^ (2 * k) % 4 : Nat) : Int) := by
      rw [show (2 : Int32) * yI (k : Int) = yI ((2 * k : Nat) : Int) from by rw [show (2 : Int32) = yI 2 from rfl, yI_mul]; rfl, ishr_y hcode (by omega), and3_y (by omega)]
    have ex9 : ((k + 1 : Nat) : Int) - 1 = (k : Int) := by omega
    rw [ex9]
    show ∃ (o : LwS ⊕ (Int32 × LwS)) (s' : LwS), _ ∧ _ ∧ (match (match qto m c (code / 2 ^ (2 * k) % 4) with | none => none | some x => wlk m E (dg code k) x (qst m E c (code / 2 ^ (2 * k) % 4) T)) with | none => o = .inl s' | some r => o = .inr (yI (r.1 : Int), s') ∧ CW w7 s' r.2 ∧ r.1 < qR m * qW m)
    generalize hw : code / 2 ^ (2 * k) % 4 = w at *
    have hb := L_beside (s := eT s) (q := w0) (c := c) (w := w) m0 m1 b30 (by omega) w2' (by omega) d4
    have fc := L_far (s := eT s) (q := w0) (c := c) m1 m2 (by omega) w2' (by omega) (by omega)
    have q9c := q9 v hc
    have lv : ∀ s' : LwS, s' = s → fL_way_b36 w0 w1 (yI (i : Int)) (yI (E.2.2.1 : Int)) (yI (E.2.2.2.1 : Int)) (yI (code : Int)) w7 (yI (c : Int)) (yI (k : Int)) s = some (.inr (.inl s')) → qto m c w = none → ∃ (o : LwS ⊕ (Int32 × LwS)) (s'' : LwS), lp (fun s => fL_way_b36 w0 w1 (yI (i : Int)) (yI (E.2.2.1 : Int)) (yI (E.2.2.2.1 : Int)) (yI (code : Int)) w7 s.1 s.2.1 s.2.2) (n + 1) (yI (c : Int), yI (k : Int), s) = some o ∧ fr w7 s s'' ∧ (match (match qto m c w with | none => none | some x => wlk m E (dg code k) x (qst m E c w T)) with | none => o = .inl s'' | some r => o = .inr (yI (r.1 : Int), s'') ∧ CW w7 s'' r.2 ∧ r.1 < qR m * qW m) := fun s' e h1 h2 => by
      subst e
      refine ⟨.inl s', s', lp_en h1, fr_r _ _, ?_⟩
      rw [h2]
    have START : fL_way_b36 w0 w1 (yI (i : Int)) (yI (E.2.2.1 : Int)) (yI (E.2.2.2.1 : Int)) (yI (code : Int)) w7 (yI (c : Int)) (yI (k : Int)) s = fL_way_b36 w0 w1 (yI (i : Int)) (yI (E.2.2.1 : Int)) (yI (E.2.2.2.1 : Int)) (yI (code : Int)) w7 (yI (c : Int)) (yI (k : Int)) s := rfl
    conv at START => rhs; unfold fL_way_b36
    rw [if_neg (ltn (v := 0) (b := 0) rfl (by omega) (by omega) (by omega)), edig, b1 hb] at START
    dsimp only at START
    cases hq : qbes (qR m) (qW m) c w with
    | none =>
      have qn : qto m c w = none := by unfold qto; rw [hq]; rfl
      rw [hq, oZ_none, if_pos (show yI (-1) < 0 by decide)] at START
      exact lv (uT s (eT s) 0) rfl START qn
    | some x =>
      have hx := qbes_b r1' r2' w1' w2' hc hq
      have lx := (qL_b v hx).2.1
      have fx := L_far (s := eT s) (q := w0) (c := x) m1 m2 (by omega) w2' (by omega) (by omega)
      have q9x := q9 v hx
      rw [hq, oZ_some, if_neg (ltn (v := 0) (b := 0) rfl (by omega) (by omega) (by omega)), show (3 : Int32) = yI ((3 : Nat) : Int) from rfl, addn, if_pos (inb_n (by omega) (by omega)), yI_cln (by omega), rT_u, rT_e, (m3 x hx).1] at START
      by_cases y : qL m x = 11
      · have qn : qto m c w = none := by unfold qto; rw [hq]; show qok m c x = none; unfold qok; rw [if_pos (Or.inl y)]
        rw [if_pos (eqp (v := 11) (b := 11) rfl (by omega))] at START
        exact lv (uT s (eT s) 0) rfl START qn
      · rw [if_neg (yI_nl (v := 11) (b := 11) rfl (by omega) (by omega) (by omega)), uT_e, b1 fx] at START
        dsimp only at START
        rw [uT_e, b1 fc] at START
        dsimp only at START
        rw [uT_e] at START
        by_cases u : qF m c ≤ qF m x
        · have qn : qto m c w = none := by unfold qto; rw [hq]; show qok m c x = none; unfold qok; rw [if_pos (Or.inr u)]
          rw [if_neg (fun q => by have := (yI_lt (a := (qfar (qW m) (qH m) x : Int)) (b := (qfar (qW m) (qH m) c : Int)) (by omega) (by unfold qF at q9x; omega) (by omega) (by unfold qF at q9c; omega)).mp q; unfold qF at u; omega)] at START
          exact lv s rfl START qn
        · have qs : qto m c w = some x := by unfold qto; rw [hq]; show qok m c x = some x; unfold qok; rw [if_neg (by omega)]
          rw [if_pos ((yI_lt (a := (qfar (qW m) (qH m) x : Int)) (b := (qfar (qW m) (qH m) c : Int)) (by omega) (by unfold qF at q9x; omega) (by omega) (by unfold qF at q9c; omega)).mpr (by unfold qF at u; omega))] at START
          have f5 := v.2.2.2.2.2.2.2 c (by rw [v.RW]; omega)
          have dd := L_daysOf (s := eT s) (q := w0) (c := c) (w := w) (S := T.1) (t := E.2.2.1) (fl := m 5 c) (m3 c hc).2 f5.2.2.1 f5.2.2.2.1 (by omega) d4 tb.1 eb.2.2.2.1 eb.2.2.2.2.1
          rw [k0, cw.1, b1 dd] at START
          dsimp only at START
          rw [uT_e] at START
          have zb : qtk (m 5 c) E.2.2.1 w T.1 ≤ 2000 := by
            have hdd : T.1 / (20 * E.2.2.1) ≤ T.1 := Nat.div_le_self _ _
            have := tb.1
            unfold qtk
            by_cases g1 : m 5 c = (w : Int)
            · rw [if_pos g1]; omega
            · rw [if_neg g1]
              by_cases g2 : m 5 c ≠ -1 ∧ (m 5 c + 2) % 4 = (w : Int)
              · rw [if_pos g2]; omega
              · rw [if_neg g2]; omega
          obtain ⟨s1, u1, u2, u3⟩ := L_drun v eb dr0 h07 h17 hi hc zb (yI (E.2.2.1 : Int)) (yI (code : Int)) (yI (k : Int)) (yI (x : Int)) (qtk (m 5 c) E.2.2.1 w T.1) 0 T s FU (FU_b (by omega)) (by omega) tb cw mp br
          rw [show (0 : Int32) = yI ((0 : Nat) : Int) from rfl, b1 u1, show (-1 : Int32) = yI (-1) from rfl, yI_add, show (k : Int) + -1 = (k : Int) - 1 from rfl] at START
          have tb2 := (qst_b (m := m) (E := E) (c := c) (w := w) l11 tb).1
          obtain ⟨o, s2, p1, p2, p3⟩ := L_walk v eb dr0 h07 h17 hi hcode k x (qst m E c w T) s1 n (by omega) (by omega) hx tb2 u2 (MP_f mp h07 u3) (BRw_f br h17 u3)
          refine ⟨o, s2, by rw [lp_st START]; exact p1, fr_t u3 p2, ?_⟩
          rw [qs]
          exact p3
/-- the whole row of steps -/
theorem L_way {m : Mm} {E : QE} {w0 w1 w7 i code k c S F : Nat} {s : LwS} (v : VS m) (eb : EB E) (dr0 : E.2.2.2.2 = 0) (h07 : w0 ≠ w7) (h17 : w1 ≠ w7) (hi : i + 4 ≤ 25) (hcode : code < 2147483648) (hk : k ≤ 9) (hc : c < qR m * qW m) (hS : S ≤ 999) (hF : F ≤ 99) (mp : MP w0 s m) (br : BRw w1 i s E) (b1' : rT s w1 (i + 1) = yI (c : Int)) (b2' : rT s w1 (i + 2) = yI (S : Int)) (b3' : rT s w1 (i + 3) = yI (F : Int)) : ∃ r s', fL_way w0 w1 (yI (i : Int)) (yI (E.2.2.1 : Int)) (yI (E.2.2.2.1 : Int)) (yI (code : Int)) (yI (k : Int)) w7 s = some (r, s') ∧ fr w7 s s' ∧ (match wlk m E (dg code k) c (S, F, 0, 0) with
      | none => r = 0
      | some q => r = (if q.1 = qH m then 1 else 0) ∧ CW w7 s' q.2) := by
  have b30 := v.b30
  have hH := v.H.2
  have s0 : fr w7 s (wT (wT (wT s w7 0 (yI (S : Int))) w7 1 (yI (F : Int))) w7 2 (0 : Int32)) := fr_w (fr_w (fr_w (fr_r w7 s)))
  obtain ⟨o, s1, p1, p2, p3⟩ := L_walk (w0 := w0) (w1 := w1) (w7 := w7) (i := i) (code := code) v eb dr0 h07 h17 hi hcode k c (S, F, 0, 0) (wT (wT (wT s w7 0 (yI (S : Int))) w7 1 (yI (F : Int))) w7 2 (0 : Int32)) FU (FU_b (by omega)) hk hc ⟨hS, hF, by show S + 0 ≤ 999; omega, by show 0 < 2147483648; omega⟩ ⟨by rw [rT_k (by omega), rT_k (by omega), rT_s], by rw [rT_k (by omega), rT_s], by rw [rT_s]; rfl⟩ (MP_f mp h07 s0) (BRw_f br h17 s0)
  have GO : fL_way w0 w1 (yI (i : Int)) (yI (E.2.2.1 : Int)) (yI (E.2.2.2.1 : Int)) (yI (code : Int)) (yI (k : Int)) w7 s = (el (fun t18 => some ((0 : Int32), t18)) (fun t18 => if t18.1 = (rT t18.2 w0 2) then (some ((1 : Int32), t18.2)) else (some ((0 : Int32), t18.2))) o) := by
    unfold fL_way fL_way_b0
    simp only [k0, k1, k2]
    rw [add1, add2, add3, if_pos (inb_n (by omega) (by omega)), if_pos (inb_n (by omega) (by omega)), if_pos (inb_n (by omega) (by omega)), yI_cln (by omega), yI_cln (by omega), yI_cln (by omega), rT_o h17, b1', b2', b3', yI_1, yI_sub, b1 p1]
  cases hwl : wlk m E (dg code k) c (S, F, 0, 0) with
  | none =>
    rw [hwl] at p3
    have e : o = .inl s1 := p3
    subst e
    exact ⟨0, s1, GO, fr_t s0 p2, rfl⟩
  | some q =>
    rw [hwl] at p3
    obtain ⟨e, cw, hq⟩ : o = .inr (yI (q.1 : Int), s1) ∧ CW w7 s1 q.2 ∧ q.1 < qR m * qW m := p3
    subst e
    have mp1 := MP_f (MP_f mp h07 s0) h07 p2
    refine ⟨if q.1 = qH m then 1 else 0, s1, ?_, fr_t s0 p2, rfl, cw⟩
    rw [GO]
    show (if yI (q.1 : Int) = rT s1 w0 2 then some ((1 : Int32), s1) else some ((0 : Int32), s1)) = _
    rw [mp1.2.2.1]
    by_cases y : q.1 = qH m
    · rw [if_pos (by rw [y]), if_pos y]
    · rw [if_neg (fun u => y (by have := yI_inj (by omega) (by omega) (by omega) (by omega) u; omega)), if_neg y]
