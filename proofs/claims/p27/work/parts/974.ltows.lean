/-! ===== tows as the law walks them, the drawn days among them ===== -/
theorem lg_self (x : Int64) : lg_cmp x x = 0 := by
  unfold lg_cmp
  rw [if_neg (Int64.lt_irrefl), if_pos rfl]
theorem best_l {m : Mm} {E : QE} {c : Nat} {T : QT} (v : VS m) (hc : c < qR m * qW m) (hH : c ≠ qH m) (h9 : qL m c ≤ 9) (n0 : (qbest m E c T).1 ≠ 0) : (qbest m E c T).2.2.2.2.length = qF m c ∧ A4l (qbest m E c T).2.2.2.2 ∧ VW m (qbest m E c T).2.2.2.2 c := by
  have hin : (qbest m E c T).2.2.2.2 ∈ qws m c := best_in (qws m c) qB0 (fun _ h => h) (fun q => absurd rfl q) n0
  have vw := qwy_vw v _ _ _ hc (by omega) rfl hin
  have h0 : qF m c ≠ 0 := fun q => hH (qF_0 v q)
  have e := en_ways v rfl rfl (qF m c) c hc rfl (up_side (m := m) (c := c))
  rw [if_neg h0] at e
  have hin2 : (qbest m E c T).2.2.2.2 ∈ qwy m (qF m c) c := hin
  rw [← e, List.mem_filter, ← enL_r, List.mem_map] at hin2
  obtain ⟨⟨b, -, hb⟩, -⟩ := hin2
  refine ⟨by rw [← hb]; exact bp_len _ _ _ _, ?_, vw⟩
  rw [← hb]
  refine bp_4 ?_ ?_ _ _
  · by_cases x : c / qW m ≤ qH m / qW m
    · rw [if_pos x]
      by_cases y : c % qW m ≤ qH m % qW m
      · rw [if_pos y]; decide
      · rw [if_neg y]; decide
    · rw [if_neg x]
      by_cases y : c % qW m ≤ qH m % qW m
      · rw [if_pos y]; decide
      · rw [if_neg y]; decide
  · by_cases x : c / qW m ≤ qH m / qW m
    · rw [if_pos x]
      by_cases y : c % qW m ≤ qH m % qW m
      · rw [if_pos y]; decide
      · rw [if_neg y]; decide
    · rw [if_neg x]
      by_cases y : c % qW m ≤ qH m % qW m
      · rw [if_pos y]; decide
      · rw [if_neg y]; decide
theorem L_seed {q : Nat} (hq : q < 2147483648) : ((lN q * (1103515245 : Int64)) + (12345 : Int64)) - ((lN q * (1103515245 : Int64)) + (12345 : Int64)) / (2147483648 : Int64) * (2147483648 : Int64) = lN (qsd q) := by
  have e1 : (lN q * (1103515245 : Int64)) + (12345 : Int64) = lN (1103515245 * q + 12345) := by
    rw [show (1103515245 : Int64) = lN 1103515245 from rfl, show (12345 : Int64) = lN 12345 from rfl, lN_mul, lN_add, Nat.mul_comm]
  rw [e1, show (2147483648 : Int64) = lN 2147483648 from rfl, pk_lRem (by omega) (by omega) (by omega)]; rfl
theorem L_seed3 {q : Nat} (hq : q < 2147483648) : (lN q / (65536 : Int64) - lN q / (65536 : Int64) / (3 : Int64) * (3 : Int64)).toInt32 = yI ((q / 65536 % 3 : Nat) : Int) := by
  rw [show (65536 : Int64) = lN 65536 from rfl, pk_lDiv (by omega) (by omega) (by omega), show (3 : Int64) = lN 3 from rfl, pk_lRem (by omega) (by omega) (by omega), lN_yI]
theorem L_ddrun {xs : Nat → Int32} {Ln : Nat} {m : Mm} {E : QE} {w2 w3 w6 w11 nw b c z : Nat} (v : VS m) (eb : EB E) (dr1 : E.2.2.2.2 = 1) (h2 : w2 ≠ w11) (h3 : w3 ≠ w11) (hb : b < 5) (hc : c < qR m * qW m) (hz : z ≤ 2000) (x8 x10 x15 x16 : Int32) : ∀ (k j : Nat) (T : QT) (s : LwS) (n : Nat), k < n → j + k = z → TB T → CW w11 s T → MP w2 s m → BRw w3 (5 * b) s E → ∃ s', lp (fun s => fL_tows_b356 xs Ln w2 w3 (yI (b : Int)) w6 x8 (yI (E.2.2.2.1 : Int)) x10 w11 (yI (c : Int)) s.1 x15 x16 (yI (z : Int)) s.2.1 nw s.2.2) n (lN T.2.2.2, yI (j : Int), s) = some (lN (qrun E (qL m c) k T).2.2.2, s') ∧ CW w11 s' (qrun E (qL m c) k T) ∧ fr w11 s s'
  | 0, j, T, s, n, hn, hj, tb, cw, mp, br => by
    obtain ⟨n, rfl⟩ : ∃ q, n = q + 1 := ⟨n - 1, by omega⟩
    refine ⟨s, lp_en ?_, cw, fr_r _ _⟩
    dsimp only
    unfold fL_tows_b356
    rw [if_pos ((yI_le (by omega) (by omega) (by omega) (by omega)).mpr (by omega))]
    rfl
  | k + 1, j, T, s, n, hn, hj, tb, cw, mp, br => by
    obtain ⟨n, rfl⟩ : ∃ q, n = q + 1 := ⟨n - 1, by omega⟩
    have b30 := v.b30
    have l11 := (qL_b v hc).2.1
    obtain ⟨t1, t2, t3, t4⟩ := id tb
    obtain ⟨c0, c1, c2⟩ := id cw
    have ebs := eb
    obtain ⟨e1, e2, e3, e4, e5, e6, e7⟩ := ebs
    show ∃ s', _ = some (lN (if T.1 = 0 then T else qrun E (qL m c) k (qday E (qL m c) T)).2.2.2, s') ∧ CW w11 s' (if T.1 = 0 then T else qrun E (qL m c) k (qday E (qL m c) T)) ∧ _
    by_cases y : T.1 = 0
    · rw [if_pos y]
      refine ⟨s, lp_en ?_, cw, fr_r _ _⟩
      dsimp only
      unfold fL_tows_b356
      rw [k0]
      rw [if_neg (fun q => by have := (yI_le (by omega) (by omega) (by omega) (by omega)).mp q; omega), c0, if_pos (lep (v := 0) (b := 0) rfl (by omega) (by omega) (by omega))]
    · rw [if_neg y]
      have x3 : qsd T.2.2.2 / 65536 % 3 < 3 := Nat.mod_lt _ (by omega)
      have hd : qday E (qL m c) T = qdy E.1 E.2.1 E.2.2.2.1 (qL m c + qsd T.2.2.2 / 65536 % 3 - 1) T.1 T.2.1 T.2.2.1 (qsd T.2.2.2) := by
        unfold qday qdw
        rw [dr1, if_neg (show ¬ 1 = 0 by omega)]
      have ew : (if 0 ≤ (yI (qL m c : Int) + yI ((qsd T.2.2.2 / 65536 % 3 : Nat) : Int)) - (1 : Int32) then (yI (qL m c : Int) + yI ((qsd T.2.2.2 / 65536 % 3 : Nat) : Int)) - (1 : Int32) else 0) = yI ((qL m c + qsd T.2.2.2 / 65536 % 3 - 1 : Nat) : Int) := by
        generalize qsd T.2.2.2 / 65536 % 3 = x at *
        rw [addn, yI_1, yI_sub]
        by_cases q : 1 ≤ qL m c + x
        · rw [if_pos (gep (v := 0) (b := 0) rfl (by omega) (by omega) (by omega))]; congr 1; omega
        · rw [if_neg (gen (v := 0) (b := 0) rfl (by omega) (by omega) (by omega)), show qL m c + x - 1 = 0 by omega]; rfl
      obtain ⟨s1, r1, ⟨r2, r3, r4⟩, r5⟩ := L_day (s := eT s) (bq := w3) (wq := w11) (i := 5 * b) (k := E.1) (ev := E.2.1) (sk := E.2.2.2.1) (w := qL m c + qsd T.2.2.2 / 65536 % 3 - 1) (S := T.1) (F := T.2.1) (D := T.2.2.1) (q := qsd T.2.2.2) h3 (by omega) e1 e2 e3 e6 t1 t2 (by omega) (by omega) br.1 br.2 c0 c1 c2
      have f1 := fr_e r5
      have tb2 := (qday_b (E := E) (w := qL m c) l11 tb (by omega)).1
      have sd : (qday E (qL m c) T).2.2.2 = qsd T.2.2.2 := by rw [hd]; rfl
      have st : fL_tows_b356 xs Ln w2 w3 (yI (b : Int)) w6 x8 (yI (E.2.2.2.1 : Int)) x10 w11 (yI (c : Int)) (lN T.2.2.2) x15 x16 (yI (z : Int)) (yI (j : Int)) nw s = some (.inl (lN (qsd T.2.2.2), yI ((j + 1 : Nat) : Int), uT s s1 0)) := by
        have G : ∀ y0 : Int32, y0 = yI ((qL m c + qsd T.2.2.2 / 65536 % 3 - 1 : Nat) : Int) → fL_tows_b424 xs Ln w2 w3 (yI (b : Int)) w6 x8 (yI (E.2.2.2.1 : Int)) x10 w11 (yI (c : Int)) (lN (qsd T.2.2.2)) x15 x16 (yI (z : Int)) (yI (j : Int)) y0 ((5 : Int32) * yI (b : Int)) w3 nw s = some (.inl (lN (qsd T.2.2.2), yI ((j + 1 : Nat) : Int), uT s s1 0)) := fun y0 hy => by
          unfold fL_tows_b424
          rw [hy, mul5, b1 r1, add1]
        unfold fL_tows_b356
        rw [k0]
        rw [if_neg (fun q => by have := (yI_le (by omega) (by omega) (by omega) (by omega)).mp q; omega), c0, if_neg (len (v := 0) (b := 0) rfl (by omega) (by omega) (by omega)), pl3, if_pos (inb_n (by omega) (by omega)), yI_cln (by omega), (mp.2.2.2 c hc).1, L_seed t4, L_seed3 (qsd_b _)]
        by_cases q : 0 ≤ (yI (qL m c : Int) + yI ((qsd T.2.2.2 / 65536 % 3 : Nat) : Int)) - (1 : Int32)
        · rw [if_pos q]
          exact G _ (by rw [← ew, if_pos q])
        · rw [if_neg q]
          exact G _ (by rw [← ew, if_neg q])
      obtain ⟨s2, q1, q2, q3⟩ := L_ddrun (xs := xs) (Ln := Ln) (w6 := w6) (nw := nw) v eb dr1 h2 h3 hb hc hz x8 x10 x15 x16 k (j + 1) (qday E (qL m c) T) (uT s s1 0) n (by omega) (by omega) tb2 ⟨by rw [rT_u, r2, hd], by rw [rT_u, r3, hd], by rw [rT_u, r4, hd]; rfl⟩ (MP_f mp h2 f1) (BRw_f br h3 f1)
      rw [sd] at q1
      exact ⟨s2, by rw [lp_st st]; exact q1, q2, fr_t f1 q3⟩
theorem L_dwalk {xs : Nat → Int32} {Ln : Nat} {m : Mm} {E : QE} {w2 w3 w6 w11 nw b code L : Nat} (v : VS m) (eb : EB E) (dr1 : E.2.2.2.2 = 1) (h2 : w2 ≠ w11) (h3 : w3 ≠ w11) (h6 : w6 ≠ w11) (hb : b < 5) (hcode : code < 2147483648) (L9 : L ≤ 9) (x10 : Int32) : ∀ (k c i : Nat) (T : QT) (s : LwS) (n : Nat), k < n → i + k = L → VW m (dg code k) c → TB T → CW w11 s T → MP w2 s m → BRw w3 (5 * b) s E → rT s w6 3 = yI (L : Int) → rT s w6 4 = yI (code : Int) → ∃ s', lp (fun s => fL_tows_b308 xs Ln w2 w3 (yI (b : Int)) w6 (yI (E.2.2.1 : Int)) (yI (E.2.2.2.1 : Int)) x10 w11 s.1 s.2.1 s.2.2.1 nw s.2.2.2) n (yI (c : Int), lN T.2.2.2, yI (i : Int), s) = some (lN (qtw m E (dg code k) c T).2.2.2, s') ∧ CW w11 s' (qtw m E (dg code k) c T) ∧ fr w11 s s'
  | 0, c, i, T, s, n, hn, hi, vw, tb, cw, mp, br, g3, g4 => by
    obtain ⟨n, rfl⟩ : ∃ q, n = q + 1 := ⟨n - 1, by omega⟩
    refine ⟨s, lp_en ?_, cw, fr_r _ _⟩
    dsimp only
    unfold fL_tows_b308
    rw [k3, g3, if_pos ((yI_le (by omega) (by omega) (by omega) (by omega)).mpr (by omega))]
    rfl
  | k + 1, c, i, T, s, n, hn, hi, vw, tb, cw, mp, br, g3, g4 => by
    obtain ⟨n, rfl⟩ : ∃ q, n = q + 1 := ⟨n - 1, by omega⟩
    have b30 := v.b30
    obtain ⟨-, w1', w2'⟩ := v.W
    obtain ⟨⟨hc, -, -, hq, hg⟩, vw2⟩ := vw
    have d4 := dg4 code k
    have l11 := (qL_b v hc).2.1
    have hd : code / 2 ^ (2 * k) ≤ code := Nat.div_le_self _ _
    have edig : (ishr (yI (code : Int)) ((2 : Int32) * ((yI (L : Int) - (1 : Int32)) - yI (i : Int)))) &&& (3 : Int32) = yI ((code / 2 ^ (2 * k) % 4 : Nat) : Int) := by
      rw [show (yI (L : Int) - (1 : Int32)) - yI (i : Int) = yI (k : Int) from by rw [yI_1, yI_sub, yI_sub]; congr 1; omega, show (2 : Int32) * yI (k : Int) = yI ((2 * k : Nat) : Int) from by rw [show (2 : Int32) = yI 2 from rfl, yI_mul]; rfl, ishr_y hcode (by omega), and3_y (by omega)]
    show ∃ s', _ = some (lN (qtw m E (dg code k) (qgo m c (code / 2 ^ (2 * k) % 4)) (qst m E c (code / 2 ^ (2 * k) % 4) T)).2.2.2, s') ∧ CW w11 s' (qtw m E (dg code k) (qgo m c (code / 2 ^ (2 * k) % 4)) (qst m E c (code / 2 ^ (2 * k) % 4) T)) ∧ _
    generalize hw : code / 2 ^ (2 * k) % 4 = w at *
    have f5 := v.2.2.2.2.2.2.2 c (by rw [v.RW]; omega)
    have dd := L_daysOf (s := eT s) (q := w2) (c := c) (w := w) (S := T.1) (t := E.2.2.1) (fl := m 5 c) (mp.2.2.2 c hc).2 f5.2.2.1 f5.2.2.2.1 (by omega) d4 tb.1 eb.2.2.2.1 eb.2.2.2.2.1
    have zb : qtk (m 5 c) E.2.2.1 w T.1 ≤ 2000 := by
      have hdd : T.1 / (20 * E.2.2.1) ≤ T.1 := Nat.div_le_self _ _
      have := tb.1
      unfold qtk
      by_cases g1 : m 5 c = (w : Int)
      · rw [if_pos g1]; omega
      · rw [if_neg g1]
        by_cases g2 : m 5 c ≠ -1 ∧ (m 5 c + 2) % 4 = (w : Int)
        · rw [if_pos g2]; omega
        · rw [if_neg g2]; omega
    obtain ⟨s1, u1, u2, u3⟩ := L_ddrun (xs := xs) (Ln := Ln) (w6 := w6) (nw := nw) v eb dr1 h2 h3 hb hc zb (yI (E.2.2.1 : Int)) x10 (yI (i : Int)) (yI (w : Int)) (qtk (m 5 c) E.2.2.1 w T.1) 0 T s FU (FU_b (by omega)) (by omega) tb cw mp br
    have hbs := L_beside (s := eT s1) (q := w2) (c := c) (w := w) (MP_f mp h2 u3).1 (MP_f mp h2 u3).2.1 b30 (by omega) w2' (by omega) d4
    rw [(qto_i hq).1, oZ_some] at hbs
    have tb2 := (qst_b (m := m) (E := E) (c := c) (w := w) l11 tb).1
    have st : fL_tows_b308 xs Ln w2 w3 (yI (b : Int)) w6 (yI (E.2.2.1 : Int)) (yI (E.2.2.2.1 : Int)) x10 w11 (yI (c : Int)) (lN T.2.2.2) (yI (i : Int)) nw s = some (.inl (yI (qgo m c w : Int), lN (qst m E c w T).2.2.2, yI ((i + 1 : Nat) : Int), s1)) := by
      unfold fL_tows_b308
      rw [k3, k4, g3, if_neg (fun q => by have := (yI_le (by omega) (by omega) (by omega) (by omega)).mp q; omega), g4, edig, k0, cw.1, b1 dd]
      dsimp only
      rw [uT_e, show (0 : Int32) = yI ((0 : Nat) : Int) from rfl, b1 u1]
      dsimp only
      rw [b1 hbs, add1]
      rfl
    obtain ⟨s2, q1, q2, q3⟩ := L_dwalk (xs := xs) (Ln := Ln) (nw := nw) v eb dr1 h2 h3 h6 hb hcode L9 x10 k (qgo m c w) (i + 1) (qst m E c w T) s1 n (by omega) (by omega) vw2 tb2 u2 (MP_f mp h2 u3) (BRw_f br h3 u3) (by rw [u3.2.2 _ _ h6, g3]) (by rw [u3.2.2 _ _ h6, g4])
    exact ⟨s2, by rw [lp_st st]; exact q1, q2, fr_t u3 q3⟩
/-- what the law holds of sea, bergs, coins -/
def LK (w2 w4 w5 B : Nat) (s : LwS) (τ : Sg) : Prop := MP w2 s (cM τ) ∧ BG w4 B s τ ∧ rT s w5 0 = yI (cM τ 0 17) ∧ rT s w5 1 = yI (cM τ 0 18) ∧ rT s w5 2 = yI (cM τ 0 19)
theorem LK_f {w2 w4 w5 B : Nat} {s s' : LwS} {τ : Sg} (h : LK w2 w4 w5 B s τ) (f2 : ∀ j, rT s' w2 j = rT s w2 j) (f4 : ∀ j, rT s' w4 j = rT s w4 j) (f5 : ∀ j, rT s' w5 j = rT s w5 j) : LK w2 w4 w5 B s' τ := by
  obtain ⟨h1, ⟨g1, g2, g3, g4⟩, h3, h4, h5⟩ := h
  exact ⟨⟨by rw [f2, h1.1], by rw [f2, h1.2.1], by rw [f2, h1.2.2.1], fun i hi => by rw [f2, f2]; exact h1.2.2.2 i hi⟩, ⟨g1, by rw [f4, g2], g3, fun i hi => by rw [f4]; exact g4 i hi⟩, by rw [f5, h3], by rw [f5, h4], by rw [f5, h5]⟩
theorem LK_HB {w2 w4 w5 B k t sk dr : Nat} {s : LwS} {τ : Sg} (vs : VS (cM τ)) (hb : VB1 (cM τ) k) (h : LK w2 w4 w5 B s τ) (hk : k < B) : HB w2 w4 w5 (5 * k) (qsq (cM τ) k) (qsz (cM τ) k) (cM τ 6 (5 * k + 3)).toNat s (cM τ) (qE (cM τ) k t sk dr) := by
  obtain ⟨w0, w1, w2', w3, w4', w5', w6, w7, w8, w9⟩ := VB1_q vs hb
  obtain ⟨h1, ⟨g1, g2, g3, g4⟩, h3, h4, h5⟩ := h
  refine ⟨h1, ⟨?_, ?_⟩, ?_, ?_, ?_, h3, h4, h5⟩
  · rw [g4 _ (by omega), w0]; rfl
  · rw [g4 _ (by omega), w4']; rfl
  · rw [g4 _ (by omega), w1]
  · rw [g4 _ (by omega), w2']
  · rw [g4 _ (by omega), w3]; rfl
