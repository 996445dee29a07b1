/-! ===== the class's step ===== -/
theorem rJ_sv {σ : Sg} {o k : Nat} {v : Int64} : rJ (wJ σ o k v) o k = v := by rw [rJ_wJ, if_pos ⟨rfl, rfl⟩]
theorem f8_drawn {σ : Sg} {w q : Nat} (hw : w ≤ 11) (hq : q < 2147483648) (h : rJ σ 3 16 = lN q) : fX8_drawnWarmth (yI (w : Int)) σ = some (yI ((qdw 1 w q).1 : Int), wJ σ 3 16 (lN (qdw 1 w q).2)) := by
  have e1 : ((1103515245 : Int64) * lN q) + (12345 : Int64) = lN (1103515245 * q + 12345) := by
    rw [show (1103515245 : Int64) = lN 1103515245 from rfl, show (12345 : Int64) = lN 12345 from rfl, lN_mul, lN_add]
  have e2 : lN (1103515245 * q + 12345) - lN (1103515245 * q + 12345) / (2147483648 : Int64) * (2147483648 : Int64) = lN (qsd q) := by
    rw [show (2147483648 : Int64) = lN 2147483648 from rfl, pk_lRem (by omega) (by omega) (by omega)]; rfl
  have hb := qsd_b q
  have hs : rJ (wJ σ 3 16 (lN (qsd q))) 3 16 = lN (qsd q) := rJ_sv
  unfold fX8_drawnWarmth fX8_drawnWarmth_b0
  rw [h, e1, e2, hs, show (65536 : Int64) = lN 65536 from rfl, pk_lDiv (by omega) (by omega) (by omega), show (3 : Int64) = lN 3 from rfl, pk_lRem (by omega) (by omega) (by omega), lN_yI, addn]
  unfold qdw
  rw [if_neg (show ¬ 1 = 0 by omega)]
  dsimp only
  have x3 : qsd q / 65536 % 3 < 3 := Nat.mod_lt _ (by omega)
  generalize qsd q / 65536 % 3 = x at *
  have hx : yI ((w + x : Nat) : Int) - (1 : Int32) = yI ((w + x : Nat) : Int) - yI ((1 : Nat) : Int) := rfl
  rw [hx, imax_n (by omega) (by omega)]
theorem f8_days {σ : Sg} {c w s tg : Nat} {fl : Int} (hc : c < 30) (h8 : rI σ 3 8 = yI (tg : Int)) (h6 : rI σ 6 c = yI fl) (t1 : 1 ≤ tg) (t11 : tg ≤ 11) (f1 : -1 ≤ fl) (f3 : fl ≤ 3) (hw : w < 4) (hs : s ≤ 999) : fX8_daysOfStep (yI (c : Int)) (yI (w : Int)) (yI (s : Int)) σ = some (yI (qtk fl tg w s : Int), σ) ∧ qtk fl tg w s ≤ 60 := by
  have e20 : (20 : Int32) * yI (tg : Int) = yI ((20 * tg : Nat) : Int) := by
    rw [show (20 : Int32) = yI 20 from rfl, yI_mul]; rfl
  have ex : s / (20 * tg) ≤ 49 := by
    have : s / (20 * tg) ≤ s / 20 := Nat.div_le_div_left (by omega) (by omega)
    omega
  have ed : yI (s : Int) / yI ((20 * tg : Nat) : Int) = yI ((s / (20 * tg) : Nat) : Int) := divn (by omega) (by omega) (by omega)
  have e1 : ∀ x : Nat, (1 : Int32) + yI (x : Int) = yI ((1 + x : Nat) : Int) := fun x => addn 1 x
  have em : ∀ x : Nat, x ≤ 100 → imax (1 : Int32) (yI (x : Int)) = yI ((max 1 x : Nat) : Int) := fun x hx => by
    rw [show (1 : Int32) = yI 1 from rfl, imax_z (by omega) (by omega) (by omega) (by omega)]
    congr 1; omega
  have en : ∀ x : Nat, 1 ≤ x → x ≤ 100 → imax (1 : Int32) (yI (x : Int)) = yI (x : Int) := fun x h1 hx => by
    rw [em x hx, show max 1 x = x by omega]
  unfold fX8_daysOfStep fX8_daysOfStep_b0 fX8_daysOfStep_b55
  rw [h8, e20, if_neg (yI_nl (v := 0) (b := 0) rfl (by omega) (by omega) (by omega)), if_pos (inb_n (by omega) hc), yI_cln (by omega), h6, ed, e1]
  unfold qtk
  generalize s / (20 * tg) = x at *
  by_cases q : fl = (w : Int)
  · rw [if_pos (by rw [q]), if_pos q, show yI ((1 + x : Nat) : Int) + (-1 : Int32) = yI (x : Int) from by rw [yI_m1, yI_add]; congr 1; omega, em _ (by omega)]
    exact ⟨rfl, by omega⟩
  · rw [if_neg (fun z => q (yI_inj (by omega) (by omega) (by omega) (by omega) z)), if_neg q]
    by_cases q1 : fl = -1
    · rw [if_pos (eqp (v := -1) (b := -1) rfl q1), if_neg (fun z => z.1 q1), en _ (by omega) (by omega)]
      exact ⟨rfl, by omega⟩
    · rw [if_neg (yI_nl (v := -1) (b := -1) rfl (by omega) (by omega) q1), show yI fl + (2 : Int32) = yI (fl + 2) from by rw [show (2 : Int32) = yI 2 from rfl, yI_add], show (4 : Int32) = yI 4 from rfl, yI_rem (by omega) (by omega) (by omega) (by omega)]
      by_cases q2 : (fl + 2) % 4 = (w : Int)
      · rw [if_pos (by rw [q2]), if_pos ⟨q1, q2⟩, add1, en _ (by omega) (by omega)]
        exact ⟨rfl, by omega⟩
      · rw [if_neg (fun z => q2 (yI_inj (by omega) (by omega) (by omega) (by omega) z)), if_neg (fun z => q2 z.2), en _ (by omega) (by omega)]
        exact ⟨rfl, by omega⟩
/-- only the seed has moved -/
def sFr (σ σ' : Sg) : Prop := (∀ o j, rI σ' o j = rI σ o j) ∧ ∀ o j, rR σ' o j = rR σ o j
theorem sFr_r (σ : Sg) : sFr σ σ := ⟨fun _ _ => rfl, fun _ _ => rfl⟩
theorem EC_s {σ σ' : Sg} {E : QE} {o : Nat} (h : EC σ E o) (f : sFr σ σ') : EC σ' E o := by
  obtain ⟨c1, c2, c3, c4, c5, c6, c7, c8⟩ := h
  exact ⟨by rw [f.2, c1], c2, by rw [f.1, c3], by rw [f.1, c4], by rw [f.1, c5], by rw [f.1, c6], by rw [f.1, c7], by rw [f.1, c8]⟩
theorem f8_run {E : QE} {o c w : Nat} (eb : EB E) (hc : c < 30) (hw : w ≤ 11) (x1 : Int32) {z : Nat} (hz : z ≤ 2000) : ∀ (k : Nat) (T : QT) (σ : Sg) (n : Nat), k < n → T.2.2.1 + k = z → TB T → EC σ E o → SQ σ E T.2.2.2 → rI σ 5 c = yI (w : Int) → ∃ σ', lp (fun s : Int32 × Int32 × Int32 × Sg => fX8_pass_b37 x1 (yI (c : Int)) s.1 s.2.1 s.2.2.1 (yI (z : Int)) s.2.2.2) n (yI (T.1 : Int), yI (T.2.1 : Int), yI (T.2.2.1 : Int), σ) = some (yI ((qrun E w k T).1 : Int), yI ((qrun E w k T).2.1 : Int), yI ((qrun E w k T).2.2.1 : Int), σ') ∧ sFr σ σ' ∧ SQ σ' E (qrun E w k T).2.2.2
  | 0, T, σ, n, hn, hz0, tb, ec, sq, h5 => by
    obtain ⟨n, rfl⟩ : ∃ n', n = n' + 1 := ⟨n - 1, by omega⟩
    refine ⟨σ, ?_, sFr_r σ, sq⟩
    refine lp_en ?_
    dsimp only
    unfold fX8_pass_b37
    rw [if_pos ((yI_le (by omega) (by omega) (by omega) (by omega)).mpr (by omega))]
    rfl
  | k + 1, T, σ, n, hn, hz0, tb, ec, sq, h5 => by
    obtain ⟨n, rfl⟩ : ∃ n', n = n' + 1 := ⟨n - 1, by omega⟩
    obtain ⟨t1, t2, t3, t4⟩ := tb
    show ∃ σ', lp _ (n + 1) _ = some (yI ((if T.1 = 0 then T else qrun E w k (qday E w T)).1 : Int), yI ((if T.1 = 0 then T else qrun E w k (qday E w T)).2.1 : Int), yI ((if T.1 = 0 then T else qrun E w k (qday E w T)).2.2.1 : Int), σ') ∧ sFr σ σ' ∧ SQ σ' E (if T.1 = 0 then T else qrun E w k (qday E w T)).2.2.2
    by_cases z0 : T.1 = 0
    · rw [if_pos z0]
      refine ⟨σ, lp_en ?_, sFr_r σ, sq⟩
      dsimp only
      unfold fX8_pass_b37
      rw [if_neg (fun q => by have := (yI_le (by omega) (by omega) (by omega) (by omega)).mp q; omega), if_pos (lep (v := 0) (b := 0) rfl (by omega) (by omega) (by omega))]
    · rw [if_neg z0]
      have c8 := ec.2.2.2.2.2.2.2
      have hd := qday_b (E := E) (w := w) hw ⟨t1, t2, t3, t4⟩ (by omega)
      have ST : ∃ σ1, fX8_pass_b37 x1 (yI (c : Int)) (yI (T.1 : Int)) (yI (T.2.1 : Int)) (yI (T.2.2.1 : Int)) (yI (z : Int)) σ = some (.inl (yI ((qday E w T).1 : Int), yI ((qday E w T).2.1 : Int), yI ((qday E w T).2.2.1 : Int), σ1)) ∧ sFr σ σ1 ∧ SQ σ1 E (qday E w T).2.2.2 := by
        unfold fX8_pass_b37
        rw [if_neg (fun q => by have := (yI_le (by omega) (by omega) (by omega) (by omega)).mp q; omega), if_neg (len (v := 0) (b := 0) rfl (by omega) (by omega) (by omega)), c8, if_pos (inb_n (by omega) hc), yI_cln (by omega), h5, add1, hd.2.2]
        have hq := qdw_b (dr := E.2.2.2.2) (w := w) t4
        by_cases q : E.2.2.2.2 = 0
        · rw [if_pos (eqp (v := 0) (b := 0) rfl (by omega))]
          have ew : qdw E.2.2.2.2 w T.2.2.2 = (w, T.2.2.2) := by unfold qdw; rw [if_pos q]
          refine ⟨σ, ?_, sFr_r σ, fun y => absurd q y⟩
          rw [f8_day ec eb (by omega) t1 (by omega) t2 t3 t4]
          unfold qday
          rw [ew]
        · rw [if_neg (yI_nl (v := 0) (b := 0) rfl (by have := eb.2.2.2.2.2.2; omega) (by have := eb.2.2.2.2.2.2; omega) (by omega)), if_pos (inb_n (by omega) hc), b1 (f8_drawn hw t4 (sq q))]
          dsimp only
          have e1 : E.2.2.2.2 = 1 := by have := eb.2.2.2.2.2.2; omega
          have fr : sFr σ (wJ σ 3 16 (lN (qdw 1 w T.2.2.2).2)) := ⟨fun _ _ => rfl, fun _ _ => rfl⟩
          rw [e1] at hq
          refine ⟨wJ σ 3 16 (lN (qdw 1 w T.2.2.2).2), ?_, fr, fun _ => ?_⟩
          · rw [f8_day (EC_s ec fr) eb (by omega) t1 (by omega) t2 t3 hq.2]
            unfold qday
            rw [e1]
          · rw [rJ_sv]
            unfold qday
            rw [e1]
            rfl
      obtain ⟨σ1, s1, s2, s3⟩ := ST
      obtain ⟨σ', r1, r2, r3⟩ := f8_run eb hc hw x1 hz k (qday E w T) σ1 n (by omega) (by rw [hd.2.2]; omega) hd.1 (EC_s ec s2) s3 (by rw [s2.1, h5])
      refine ⟨σ', ?_, ⟨fun a b => by rw [r2.1, s2.1], fun a b => by rw [r2.2, s2.2]⟩, r3⟩
      rw [← r1]
      exact lp_st s1
/-- a step of the class: the cells behind it -/
theorem f8_pass {σ : Sg} {m : Mm} {E : QE} {o a c w : Nat} {T : QT} (eb : EB E) (ec : EC σ E o) (tb : TB T) (sq : SQ σ E T.2.2.2) (ha : a < 9) (hc : c < 30) (hw : w < 4) (h42 : rI σ 42 a = yI (T.1 : Int)) (h43 : rI σ 43 a = yI (T.2.1 : Int)) (h44 : rI σ 44 a = yI (T.2.2.1 : Int)) (h5 : rI σ 5 c = yI (qL m c : Int)) (l11 : qL m c ≤ 11) (h6 : rI σ 6 c = yI (m 5 c)) (f1 : -1 ≤ m 5 c) (f3 : m 5 c ≤ 3) : ∃ σ', fX8_pass (yI (a : Int)) (yI (c : Int)) (yI (w : Int)) σ = some σ' ∧ (rI σ' 42 (a + 1) = yI ((qst m E c w T).1 : Int) ∧ rI σ' 43 (a + 1) = yI ((qst m E c w T).2.1 : Int) ∧ rI σ' 44 (a + 1) = yI ((qst m E c w T).2.2.1 : Int)) ∧ SQ σ' E (qst m E c w T).2.2.2 ∧ (∀ x j, ¬ ((x = 42 ∨ x = 43 ∨ x = 44) ∧ j = a + 1) → rI σ' x j = rI σ x j) ∧ ∀ x j, rR σ' x j = rR σ x j := by
  obtain ⟨t1, t2, t3, t4⟩ := tb
  obtain ⟨d1, d2⟩ := f8_days (s := T.1) hc ec.2.2.2.2.2.1 h6 eb.2.2.2.1 eb.2.2.2.2.1 f1 f3 hw t1
  obtain ⟨σ1, r1, r2, r3⟩ := f8_run (z := T.2.2.1 + qtk (m 5 c) E.2.2.1 w T.1) eb hc l11 (yI (a : Int)) (by omega) (qtk (m 5 c) E.2.2.1 w T.1) T σ FU (FU_b (by omega)) rfl ⟨t1, t2, t3, t4⟩ ec sq h5
  refine ⟨wI (wI (wI σ1 42 (a + 1) (yI ((qst m E c w T).1 : Int))) 43 (a + 1) (yI ((qst m E c w T).2.1 : Int))) 44 (a + 1) (yI ((qst m E c w T).2.2.1 : Int)), ?_, ⟨?_, ?_, ?_⟩, r3, fun x j hn => ?_, fun x j => r2.2 x j⟩
  · unfold fX8_pass fX8_pass_b0
    rw [if_pos (inb_n (by omega) (by omega)), if_pos (inb_n (by omega) (by omega)), if_pos (inb_n (by omega) (by omega)), yI_cln (by omega), h42, b1 d1]
    dsimp only
    rw [h43, h44, addn, b1 r1, add1, if_pos (inb_n (by omega) (by omega)), if_pos (inb_n (by omega) (by omega)), if_pos (inb_n (by omega) (by omega)), yI_cln (by omega)]
    rfl
  · rw [rI_o (by omega), rI_o (by omega), rI_s]
  · rw [rI_o (by omega), rI_s]
  · rw [rI_s]
  · rw [rI_wI, if_neg (by omega), rI_wI, if_neg (by omega), rI_wI, if_neg (by omega), r2.1]
