/-! ===== the model's day ===== -/
def EM (τ : Sg) (E : QE) : Prop := rI τ 0 22 = yI (E.1 : Int) ∧ rI τ 0 25 = yI (E.2.1 : Int) ∧ rI τ 0 27 = yI (E.2.2.2.1 : Int) ∧ rI τ 0 28 = yI (E.2.2.1 : Int) ∧ (E.2.2.2.2 = 0 → rI τ 0 29 = yI (-1))
def TM (τ : Sg) (E : QE) (T : QT) : Prop := rI τ 0 23 = yI (T.1 : Int) ∧ rI τ 0 24 = yI (T.2.1 : Int) ∧ rI τ 0 26 = yI (T.2.2.1 : Int) ∧ (E.2.2.2.2 ≠ 0 → rI τ 0 29 = yI (T.2.2.2 : Int))
def dFr (τ τ' : Sg) : Prop := ∀ o j, ¬ (o = 0 ∧ (j = 23 ∨ j = 24 ∨ j = 26 ∨ j = 29)) → rI τ' o j = rI τ o j
theorem dFr_r (τ : Sg) : dFr τ τ := fun _ _ _ => rfl
theorem dFr_t {a b c : Sg} (h : dFr a b) (k : dFr b c) : dFr a c := fun o j q => by rw [k o j q, h o j q]
theorem and31 (n : Nat) : (lN n &&& (2147483647 : Int64)).toInt32 = yI ((n % 2147483648 : Nat) : Int) := by
  rw [Int64.toInt32_and, lN_i, show (2147483647 : Int64).toInt32 = (2147483647 : Int32) from rfl, pk_and (nI n) 31 rfl, yI_nat]
  have e : (nI n).toBitVec.toNat = n % 2 ^ 32 := BitVec.toNat_ofNat n 32
  rw [e]
  congr 2
  omega
theorem f10_draw {τ : Sg} {q : Nat} (hq : q < 2147483648) (h : rI τ 0 29 = yI (q : Int)) : fX10_draw 3 τ = some (yI ((qsd q / 65536 % 3 : Nat) : Int), wI τ 0 29 (yI (qsd q : Int))) := by
  have e1 : (((1103515245 : Int64) * (yI (q : Int)).toInt64) + (12345 : Int64)) = lN (1103515245 * q + 12345) := by
    rw [yI_lN hq, show (1103515245 : Int64) = lN 1103515245 from rfl, show (12345 : Int64) = lN 12345 from rfl, lN_mul, lN_add]
  have e2 : yI (((1103515245 * q + 12345) % 2147483648 : Nat) : Int) = yI (qsd q : Int) := rfl
  have hb := qsd_b q
  unfold fX10_draw fX10_draw_b0
  rw [if_neg (show ¬ (3 : Int32) = 0 by decide), h, e1, and31, e2, rI_s, show (65536 : Int32) = yI ((65536 : Nat) : Int) from rfl, divn hb (by omega) (by omega), show (3 : Int32) = yI ((3 : Nat) : Int) from rfl, yI_rem (by omega) (by omega) (by omega) (by omega)]
  rfl
theorem f10_brk {τ : Sg} {k ev s d : Nat} (k4 : k ≤ 4) (h2 : k = 2 → 2 ≤ ev) (h9 : ev ≤ 9) (hs : s ≤ 999) (hd : d ≤ 1100) (a22 : rI τ 0 22 = yI (k : Int)) (a25 : rI τ 0 25 = yI (ev : Int)) (a23 : rI τ 0 23 = yI (s : Int)) (a26 : rI τ 0 26 = yI (d : Int)) : ∃ τ', fX10_day_b183 τ = some τ' ∧ (rI τ' 0 23 = yI (((if k = 2 ∧ (d + 1) % ev = 0 then s - (s + 9) / 10 else s) : Nat) : Int) ∧ rI τ' 0 26 = yI ((d + 1 : Nat) : Int)) ∧ ∀ o j, ¬ (o = 0 ∧ (j = 23 ∨ j = 26)) → rI τ' o j = rI τ o j := by
  unfold fX10_day_b183
  rw [a26, add1]
  simp (disch := omega) only [rI_k, a22, a25, a23, rI_s]
  by_cases q : k = 2
  · have e2 := h2 q
    rw [if_pos (eqp (v := 2) (b := 2) rfl (by omega)), if_neg (yI_nl (v := 0) (b := 0) rfl (by omega) (by omega) (by omega)), yI_rem (by omega) (by omega) (by omega) (by omega), show ((d + 1 : Nat) : Int) % (ev : Int) = (((d + 1) % ev : Nat) : Int) from rfl]
    have hm : (d + 1) % ev < 9 := Nat.lt_of_lt_of_le (Nat.mod_lt _ (by omega)) h9
    by_cases z : (d + 1) % ev = 0
    · rw [if_pos (eqp (v := 0) (b := 0) rfl (by omega)), if_pos (c := k = 2 ∧ (d + 1) % ev = 0) ⟨q, z⟩, show yI (s : Int) + (9 : Int32) = yI ((s + 9 : Nat) : Int) from addn s 9, show (10 : Int32) = yI ((10 : Nat) : Int) from rfl, divn (by omega) (by omega) (by omega), yI_sub, show (s : Int) - (((s + 9) / 10 : Nat) : Int) = ((s - (s + 9) / 10 : Nat) : Int) by omega]
      exact ⟨_, rfl, ⟨rI_s, by rw [rI_k (by omega), rI_s]⟩, fun o j hn => by rw [rI_wI, if_neg (by omega), rI_wI, if_neg (by omega)]⟩
    · rw [if_neg (yI_nl (v := 0) (b := 0) rfl (by omega) (by omega) (by omega)), if_neg (c := k = 2 ∧ (d + 1) % ev = 0) (fun c => z c.2)]
      exact ⟨_, rfl, ⟨by rw [rI_k (by omega), a23], rI_s⟩, fun o j hn => by rw [rI_wI, if_neg (by omega)]⟩
  · rw [if_neg (yI_nl (v := 2) (b := 2) rfl (by omega) (by omega) (by omega)), if_neg (c := k = 2 ∧ (d + 1) % ev = 0) (fun c => q c.1)]
    exact ⟨_, rfl, ⟨by rw [rI_k (by omega), a23], rI_s⟩, fun o j hn => by rw [rI_wI, if_neg (by omega)]⟩
theorem f10_foot {τ : Sg} {k ev s d f1 : Nat} (k4 : k ≤ 4) (h2 : k = 2 → 2 ≤ ev) (h9 : ev ≤ 9) (hs : s ≤ 999) (hf : f1 ≤ 99) (hd : d ≤ 1100) (a22 : rI τ 0 22 = yI (k : Int)) (a25 : rI τ 0 25 = yI (ev : Int)) (a23 : rI τ 0 23 = yI (s : Int)) (a26 : rI τ 0 26 = yI (d : Int)) : ∃ τ', fX10_day_b144 (yI (f1 : Int)) τ = some τ' ∧ (rI τ' 0 23 = yI (((if k = 2 ∧ (d + 1) % ev = 0 then (if f1 = 0 ∧ k ≠ 4 then s - s / 5 else s) - ((if f1 = 0 ∧ k ≠ 4 then s - s / 5 else s) + 9) / 10 else (if f1 = 0 ∧ k ≠ 4 then s - s / 5 else s)) : Nat) : Int) ∧ rI τ' 0 24 = yI (((if f1 = 0 ∧ k ≠ 4 then 9 else f1) : Nat) : Int) ∧ rI τ' 0 26 = yI ((d + 1 : Nat) : Int)) ∧ ∀ o j, ¬ (o = 0 ∧ (j = 23 ∨ j = 24 ∨ j = 26)) → rI τ' o j = rI τ o j := by
  have C : ¬ (f1 = 0 ∧ k ≠ 4) → ∃ τ', fX10_day_b183 (wI τ 0 24 (yI (f1 : Int))) = some τ' ∧ (rI τ' 0 23 = yI (((if k = 2 ∧ (d + 1) % ev = 0 then (if f1 = 0 ∧ k ≠ 4 then s - s / 5 else s) - ((if f1 = 0 ∧ k ≠ 4 then s - s / 5 else s) + 9) / 10 else (if f1 = 0 ∧ k ≠ 4 then s - s / 5 else s)) : Nat) : Int) ∧ rI τ' 0 24 = yI (((if f1 = 0 ∧ k ≠ 4 then 9 else f1) : Nat) : Int) ∧ rI τ' 0 26 = yI ((d + 1 : Nat) : Int)) ∧ ∀ o j, ¬ (o = 0 ∧ (j = 23 ∨ j = 24 ∨ j = 26)) → rI τ' o j = rI τ o j := fun nz => by
    rw [if_neg nz, if_neg nz]
    obtain ⟨τ', r1, ⟨r2, r3⟩, r4⟩ := f10_brk (τ := wI τ 0 24 (yI (f1 : Int))) k4 h2 h9 hs hd (by rw [rI_k (by omega), a22]) (by rw [rI_k (by omega), a25]) (by rw [rI_k (by omega), a23]) (by rw [rI_k (by omega), a26])
    exact ⟨τ', r1, ⟨r2, by rw [r4 0 24 (by omega), rI_s], r3⟩, fun o j hn => by rw [r4 o j (by omega), rI_wI, if_neg (by omega)]⟩
  unfold fX10_day_b144
  simp (disch := omega) only [rI_s, rI_k, a22, a23]
  by_cases z : f1 = 0
  · rw [if_pos (eqp (v := 0) (b := 0) rfl (by omega))]
    by_cases z4 : k = 4
    · rw [if_pos (eqp (v := 4) (b := 4) rfl (by omega))]
      exact C (fun c => c.2 z4)
    · rw [if_neg (yI_nl (v := 4) (b := 4) rfl (by omega) (by omega) (by omega)), div5 (by omega), if_pos (c := f1 = 0 ∧ k ≠ 4) ⟨z, z4⟩, if_pos (c := f1 = 0 ∧ k ≠ 4) ⟨z, z4⟩]
      obtain ⟨τ', r1, ⟨r2, r3⟩, r4⟩ := f10_brk (τ := wI (wI (wI τ 0 24 (yI (f1 : Int))) 0 23 (yI ((s - s / 5 : Nat) : Int))) 0 24 9) (s := s - s / 5) k4 h2 h9 (by omega) hd (by rw [rI_k (by omega), rI_k (by omega), rI_k (by omega), a22]) (by rw [rI_k (by omega), rI_k (by omega), rI_k (by omega), a25]) (by rw [rI_k (by omega), rI_s]) (by rw [rI_k (by omega), rI_k (by omega), rI_k (by omega), a26])
      exact ⟨τ', r1, ⟨r2, by rw [r4 0 24 (by omega), rI_s]; rfl, r3⟩, fun o j hn => by rw [r4 o j (by omega), rI_wI, if_neg (by omega), rI_wI, if_neg (by omega), rI_wI, if_neg (by omega)]⟩
  · rw [if_neg (yI_nl (v := 0) (b := 0) rfl (by omega) (by omega) (by omega))]
    exact C (fun c => z c.1)
theorem f10_day34 {τ : Sg} {k ev sk w s f d q : Nat} (k4 : k ≤ 4) (h2 : k = 2 → 2 ≤ ev) (h9 : ev ≤ 9) (s1 : sk ≤ 1) (hw : w ≤ 12) (hs : s ≤ 999) (hf : f ≤ 99) (hd : d ≤ 1000) (a22 : rI τ 0 22 = yI (k : Int)) (a25 : rI τ 0 25 = yI (ev : Int)) (a27 : rI τ 0 27 = yI (sk : Int)) (a23 : rI τ 0 23 = yI (s : Int)) (a24 : rI τ 0 24 = yI (f : Int)) (a26 : rI τ 0 26 = yI (d : Int)) : ∃ τ', fX10_day_b34 (yI (w : Int)) τ = some τ' ∧ (rI τ' 0 23 = yI ((qdy k ev sk w s f d q).1 : Int) ∧ rI τ' 0 24 = yI ((qdy k ev sk w s f d q).2.1 : Int) ∧ rI τ' 0 26 = yI ((d + 1 : Nat) : Int)) ∧ ∀ o j, ¬ (o = 0 ∧ (j = 23 ∨ j = 24 ∨ j = 26)) → rI τ' o j = rI τ o j := by
  have m1 := qm1_b (kind := k) hw hs
  have mb := qmelt_b (kind := k) (sk := sk) hw hs
  -- foot and size written
  have A : ∀ x : Nat, x = s - qmelt k sk w s → ∃ τ', fX10_day_b122 (yI (w : Int)) (yI (x : Int)) τ = some τ' ∧ (rI τ' 0 23 = yI ((qdy k ev sk w s f d q).1 : Int) ∧ rI τ' 0 24 = yI ((qdy k ev sk w s f d q).2.1 : Int) ∧ rI τ' 0 26 = yI ((d + 1 : Nat) : Int)) ∧ ∀ o j, ¬ (o = 0 ∧ (j = 23 ∨ j = 24 ∨ j = 26)) → rI τ' o j = rI τ o j := fun x hx => by
    have B : ∃ τ', fX10_day_b144 (yI ((f - w : Nat) : Int)) (wI τ 0 23 (yI (x : Int))) = some τ' ∧ (rI τ' 0 23 = yI ((qdy k ev sk w s f d q).1 : Int) ∧ rI τ' 0 24 = yI ((qdy k ev sk w s f d q).2.1 : Int) ∧ rI τ' 0 26 = yI ((d + 1 : Nat) : Int)) ∧ ∀ o j, ¬ (o = 0 ∧ (j = 23 ∨ j = 24 ∨ j = 26)) → rI τ' o j = rI τ o j := by
      obtain ⟨τ', r1, r2, r3⟩ := f10_foot (τ := wI τ 0 23 (yI (x : Int))) (s := x) (f1 := f - w) (d := d) k4 h2 h9 (by omega) (by omega) (by omega) (by rw [rI_k (by omega), a22]) (by rw [rI_k (by omega), a25]) rI_s (by rw [rI_k (by omega), a26])
      refine ⟨τ', r1, ?_, fun o j hn => by rw [r3 o j hn, rI_wI, if_neg (by omega)]⟩
      rw [hx] at r2
      exact r2
    unfold fX10_day_b122
    simp (disch := omega) only [rI_k, a24]
    by_cases z : f ≤ w
    · rw [if_pos ((yI_le (by omega) (by omega) (by omega) (by omega)).mpr (by omega)), show (0 : Int32) = yI ((f - w : Nat) : Int) from by rw [show f - w = 0 by omega]; rfl]
      exact B
    · rw [if_neg (fun c => by have := (yI_le (by omega) (by omega) (by omega) (by omega)).mp c; omega), yI_sub, show (f : Int) - (w : Int) = ((f - w : Nat) : Int) by omega]
      exact B
  have D : ∀ x y : Nat, y ≤ x → x ≤ 200 → x - y = qmelt k sk w s → ∃ τ', fX10_day_b101 (yI (w : Int)) (yI (y : Int)) (yI (x : Int)) τ = some τ' ∧ (rI τ' 0 23 = yI ((qdy k ev sk w s f d q).1 : Int) ∧ rI τ' 0 24 = yI ((qdy k ev sk w s f d q).2.1 : Int) ∧ rI τ' 0 26 = yI ((d + 1 : Nat) : Int)) ∧ ∀ o j, ¬ (o = 0 ∧ (j = 23 ∨ j = 24 ∨ j = 26)) → rI τ' o j = rI τ o j := fun x y hxy hx he => by
    unfold fX10_day_b101
    rw [a23, yI_sub, show (x : Int) - (y : Int) = ((x - y : Nat) : Int) by omega, he]
    by_cases z : s ≤ qmelt k sk w s
    · rw [if_pos ((yI_le (by omega) (by omega) (by omega) (by omega)).mpr (by omega)), show (0 : Int32) = yI ((s - qmelt k sk w s : Nat) : Int) from by rw [show s - qmelt k sk w s = 0 by omega]; rfl]
      exact A _ rfl
    · rw [if_neg (fun c => by have := (yI_le (by omega) (by omega) (by omega) (by omega)).mp c; omega), yI_sub, show (s : Int) - (qmelt k sk w s : Int) = ((s - qmelt k sk w s : Nat) : Int) by omega]
      exact A _ rfl
  have G : ∀ x : Nat, x = qm1 k w s → ∃ τ', fX10_day_b85 (yI (w : Int)) (yI (x : Int)) τ = some τ' ∧ (rI τ' 0 23 = yI ((qdy k ev sk w s f d q).1 : Int) ∧ rI τ' 0 24 = yI ((qdy k ev sk w s f d q).2.1 : Int) ∧ rI τ' 0 26 = yI ((d + 1 : Nat) : Int)) ∧ ∀ o j, ¬ (o = 0 ∧ (j = 23 ∨ j = 24 ∨ j = 26)) → rI τ' o j = rI τ o j := fun x hx => by
    unfold fX10_day_b85
    rw [a27]
    by_cases z : sk = 0
    · rw [if_pos (eqp (v := 0) (b := 0) rfl (by omega))]
      exact D x 0 (by omega) (by omega) (by rw [qmelt_1, if_pos z, hx]; rfl)
    · rw [if_neg (yI_nl (v := 0) (b := 0) rfl (by omega) (by omega) (by omega)), show (3 : Int32) = yI ((3 : Nat) : Int) from rfl, divn (by omega) (by omega) (by omega)]
      exact D x (x / 3) (by omega) (by omega) (by rw [qmelt_1, if_neg z, hx])
  obtain ⟨b1', b2', b3'⟩ := felt_b (kind := k) hw hs
  have K : ∀ g : Nat, g = (if k = 3 then w + 1 else w) → ∃ τ', fX10_day_b50 (yI (w : Int)) (yI (g : Int)) 1 τ = some τ' ∧ (rI τ' 0 23 = yI ((qdy k ev sk w s f d q).1 : Int) ∧ rI τ' 0 24 = yI ((qdy k ev sk w s f d q).2.1 : Int) ∧ rI τ' 0 26 = yI ((d + 1 : Nat) : Int)) ∧ ∀ o j, ¬ (o = 0 ∧ (j = 23 ∨ j = 24 ∨ j = 26)) → rI τ' o j = rI τ o j := fun g hg => by
    have eq1 : qm1 k w s = if k = 1 ∨ k = 4 then (1 + g * s / 100 + 1) / 2 else 1 + g * s / 100 := by
      unfold qm1; dsimp only; rw [← hg]
    rw [← hg] at b1' b2' b3'
    have e : (1 : Int32) + (yI (g : Int) * yI (s : Int)) / (100 : Int32) = yI ((1 + g * s / 100 : Nat) : Int) := by
      rw [yI_mul, show (g : Int) * (s : Int) = ((g * s : Nat) : Int) from rfl, show (100 : Int32) = yI ((100 : Nat) : Int) from rfl, divn (by omega) (by omega) (by omega), show (1 : Int32) = yI ((1 : Nat) : Int) from rfl, addn]
    unfold fX10_day_b50 fX10_day_b76
    rw [a22, a23, e, add1, show (2 : Int32) = yI ((2 : Nat) : Int) from rfl, divn (by omega) (by omega) (by omega)]
    by_cases q1 : k = 1
    · rw [if_pos (eqp (v := 1) (b := 1) rfl (by omega))]
      exact G _ (by rw [eq1, if_pos (Or.inl q1)])
    · rw [if_neg (yI_nl (v := 1) (b := 1) rfl (by omega) (by omega) (by omega))]
      by_cases q4 : k = 4
      · rw [if_pos (eqp (v := 4) (b := 4) rfl (by omega))]
        exact G _ (by rw [eq1, if_pos (Or.inr q4)])
      · rw [if_neg (yI_nl (v := 4) (b := 4) rfl (by omega) (by omega) (by omega))]
        exact G _ (by rw [eq1, if_neg (by omega)])
  unfold fX10_day_b34
  rw [a22]
  by_cases q3 : k = 3
  · rw [if_pos (eqp (v := 3) (b := 3) rfl (by omega)), add1]
    exact K _ (by rw [if_pos q3])
  · rw [if_neg (yI_nl (v := 3) (b := 3) rfl (by omega) (by omega) (by omega))]
    exact K _ (by rw [if_neg q3])
theorem f10_day {τ : Sg} {E : QE} {T : QT} {c w : Nat} (eb : EB E) (em : EM τ E) (tm : TM τ E T) (tb : TB T) (hc : c < 30) (hw : w ≤ 11) (h4 : rI τ 4 c = yI (w : Int)) : ∃ τ', fX10_day (yI (c : Int)) τ = some τ' ∧ EM τ' E ∧ TM τ' E (qday E w T) ∧ dFr τ τ' := by
  obtain ⟨m1, m2, m3, m4, m5⟩ := em
  obtain ⟨t1, t2, t3, t4⟩ := tm
  obtain ⟨b1', b2', b3', b4'⟩ := tb
  obtain ⟨k4, e2, e9, -, -, s1, d1⟩ := eb
  unfold fX10_day fX10_day_b0
  rw [if_pos (inb_n (by omega) hc), yI_cln (by omega), h4]
  by_cases q : E.2.2.2.2 = 0
  · have ew : qdw E.2.2.2.2 w T.2.2.2 = (w, T.2.2.2) := by unfold qdw; rw [if_pos q]
    rw [m5 q, if_pos (ltp (v := 0) (b := 0) rfl (by omega) (by omega) (by omega))]
    obtain ⟨τ', r1, ⟨r2, r3, r4⟩, r5⟩ := f10_day34 (w := w) (d := T.2.2.1) (q := T.2.2.2) k4 e2 e9 s1 (by omega) b1' b2' (by omega) m1 m2 m3 t1 t2 t3
    refine ⟨τ', r1, ⟨by rw [r5 0 22 (by omega), m1], by rw [r5 0 25 (by omega), m2], by rw [r5 0 27 (by omega), m3], by rw [r5 0 28 (by omega), m4], fun y => by rw [r5 0 29 (by omega), m5 y]⟩, ?_, fun o j hn => r5 o j (by omega)⟩
    unfold qday
    rw [ew]
    exact ⟨r2, r3, r4, fun y => absurd q y⟩
  · have t29 := t4 q
    have e1 : E.2.2.2.2 = 1 := by omega
    have hq := qsd_b T.2.2.2
    have x3 : qsd T.2.2.2 / 65536 % 3 < 3 := Nat.mod_lt _ (by omega)
    have ew : qdw E.2.2.2.2 w T.2.2.2 = (w + qsd T.2.2.2 / 65536 % 3 - 1, qsd T.2.2.2) := by unfold qdw; rw [if_neg q]
    have G : ∃ τ', fX10_day_b33 (yI ((w + qsd T.2.2.2 / 65536 % 3 - 1 : Nat) : Int)) (wI τ 0 29 (yI (qsd T.2.2.2 : Int))) = some τ' ∧ EM τ' E ∧ TM τ' E (qday E w T) ∧ dFr τ τ' := by
      obtain ⟨τ', r1, ⟨r2, r3, r4⟩, r5⟩ := f10_day34 (τ := wI τ 0 29 (yI (qsd T.2.2.2 : Int))) (w := w + qsd T.2.2.2 / 65536 % 3 - 1) (d := T.2.2.1) (q := qsd T.2.2.2) k4 e2 e9 s1 (by omega) b1' b2' (by omega) (by rw [rI_k (by omega), m1]) (by rw [rI_k (by omega), m2]) (by rw [rI_k (by omega), m3]) (by rw [rI_k (by omega), t1]) (by rw [rI_k (by omega), t2]) (by rw [rI_k (by omega), t3])
      refine ⟨τ', r1, ⟨by rw [r5 0 22 (by omega), rI_k (by omega), m1], by rw [r5 0 25 (by omega), rI_k (by omega), m2], by rw [r5 0 27 (by omega), rI_k (by omega), m3], by rw [r5 0 28 (by omega), rI_k (by omega), m4], fun y => absurd y q⟩, ?_, fun o j hn => by rw [r5 o j (by omega), rI_wI, if_neg (by omega)]⟩
      unfold qday
      rw [ew]
      exact ⟨r2, r3, r4, fun _ => by rw [r5 0 29 (by omega), rI_s]; rfl⟩
    rw [t29, if_neg (ltn (v := 0) (b := 0) rfl (by omega) (by omega) (by omega)), b1 (f10_draw b4' t29)]
    dsimp only
    generalize qsd T.2.2.2 / 65536 % 3 = x at *
    have ex : yI (w : Int) + (yI (x : Int) - (1 : Int32)) = yI ((w : Int) + ((x : Int) - 1)) := by
      rw [show (1 : Int32) = yI 1 from rfl, yI_sub, yI_add]
    rw [ex]
    by_cases z : 0 ≤ (w : Int) + ((x : Int) - 1)
    · rw [if_pos (show (0 : Int32) ≤ yI ((w : Int) + ((x : Int) - 1)) from gep (v := 0) (b := 0) rfl (by omega) (by omega) z), show (w : Int) + ((x : Int) - 1) = ((w + x - 1 : Nat) : Int) by omega]
      exact G
    · rw [if_neg (gen (v := 0) (b := 0) rfl (by omega) (by omega) (by omega)), show (0 : Int32) = yI ((w + x - 1 : Nat) : Int) from by rw [show w + x - 1 = 0 by omega]; rfl]
      exact G
