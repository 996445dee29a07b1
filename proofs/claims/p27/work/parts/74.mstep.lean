/-! ===== the model's step, and a way towed ===== -/
theorem EM_f {τ τ' : Sg} {E : QE} (h : EM τ E) (f : ∀ j, 22 ≤ j → j ≤ 29 → rI τ' 0 j = rI τ 0 j) : EM τ' E := ⟨by rw [f 22 (by omega) (by omega), h.1], by rw [f 25 (by omega) (by omega), h.2.1], by rw [f 27 (by omega) (by omega), h.2.2.1], by rw [f 28 (by omega) (by omega), h.2.2.2.1], fun q => by rw [f 29 (by omega) (by omega), h.2.2.2.2 q]⟩
theorem f10_drun {E : QE} {c w z : Nat} (eb : EB E) (hc : c < 30) (hw : w ≤ 11) (hz : z ≤ 100) : ∀ (k i : Nat) (T : QT) (τ : Sg) (n : Nat), k < n → i + k = z → TB T → EM τ E → TM τ E T → rI τ 4 c = yI (w : Int) → ∃ τ', lp (fun s : Int32 × Sg => fX10_step_b79 (yI (c : Int)) (yI (z : Int)) s.1 s.2) n (yI (i : Int), τ) = some τ' ∧ EM τ' E ∧ TM τ' E (qrun E w k T) ∧ dFr τ τ'
  | 0, i, T, τ, n, hn, hz0, tb, em, tm, h4 => by
    obtain ⟨n, rfl⟩ : ∃ n', n = n' + 1 := ⟨n - 1, by omega⟩
    refine ⟨τ, lp_en ?_, em, tm, dFr_r τ⟩
    dsimp only
    unfold fX10_step_b79
    rw [if_pos ((yI_le (by omega) (by omega) (by omega) (by omega)).mpr (by omega))]
  | k + 1, i, T, τ, n, hn, hz0, tb, em, tm, h4 => by
    obtain ⟨n, rfl⟩ : ∃ n', n = n' + 1 := ⟨n - 1, by omega⟩
    have t1 := tb.1
    show ∃ τ', lp _ (n + 1) _ = some τ' ∧ EM τ' E ∧ TM τ' E (if T.1 = 0 then T else qrun E w k (qday E w T)) ∧ dFr τ τ'
    by_cases z0 : T.1 = 0
    · rw [if_pos z0]
      refine ⟨τ, lp_en ?_, em, tm, dFr_r τ⟩
      dsimp only
      unfold fX10_step_b79
      rw [if_neg (fun q => by have := (yI_le (by omega) (by omega) (by omega) (by omega)).mp q; omega), tm.1, if_pos (lep (v := 0) (b := 0) rfl (by omega) (by omega) (by omega))]
    · rw [if_neg z0]
      have hd := qday_b (E := E) (w := w) hw tb (by omega)
      obtain ⟨τ1, r1, r2, r3, r4⟩ := f10_day eb em tm tb hc hw h4
      obtain ⟨τ', s1, s2, s3, s4⟩ := f10_drun eb hc hw hz k (i + 1) (qday E w T) τ1 n (by omega) (by omega) hd.1 r2 r3 (by rw [r4 4 c (by omega), h4])
      refine ⟨τ', ?_, s2, s3, dFr_t r4 s4⟩
      rw [← s1]
      refine lp_st ?_
      dsimp only
      unfold fX10_step_b79
      rw [if_neg (fun q => by have := (yI_le (by omega) (by omega) (by omega) (by omega)).mp q; omega), tm.1, if_neg (len (v := 0) (b := 0) rfl (by omega) (by omega) (by omega)), b1 r1, add1]
theorem f10_step {τ : Sg} {m : Mm} {E : QE} {T : QT} {c w : Nat} (eb : EB E) (em : EM τ E) (tm : TM τ E T) (tb : TB T) (hc : c < 30) (hw : w < 4) (h4 : rI τ 4 c = yI (qL m c : Int)) (l11 : qL m c ≤ 11) (h5 : rI τ 5 c = yI (m 5 c)) (f1 : -1 ≤ m 5 c) (f3 : m 5 c ≤ 3) : ∃ τ', fX10_step (yI (c : Int)) (yI (w : Int)) τ = some τ' ∧ EM τ' E ∧ TM τ' E (qst m E c w T) ∧ dFr τ τ' := by
  have t1 := tb.1
  have e20 : (20 : Int32) * yI (E.2.2.1 : Int) = yI ((20 * E.2.2.1 : Nat) : Int) := by
    rw [show (20 : Int32) = yI 20 from rfl, yI_mul]; rfl
  have g1 := eb.2.2.2.1
  have g11 := eb.2.2.2.2.1
  have ex : T.1 / (20 * E.2.2.1) ≤ 49 := by
    have : T.1 / (20 * E.2.2.1) ≤ T.1 / 20 := Nat.div_le_div_left (by omega) (by omega)
    omega
  have ed : yI (T.1 : Int) / yI ((20 * E.2.2.1 : Nat) : Int) = yI ((T.1 / (20 * E.2.2.1) : Nat) : Int) := divn (by omega) (by omega) (by omega)
  have A : ∀ z : Nat, z = qtk (m 5 c) E.2.2.1 w T.1 → z ≤ 100 → ∃ τ', fX10_step_b75 (yI (c : Int)) (yI (z : Int)) τ = some τ' ∧ EM τ' E ∧ TM τ' E (qst m E c w T) ∧ dFr τ τ' := fun z hz z1 => by
    obtain ⟨τ', s1, s2, s3, s4⟩ := f10_drun (E := E) (c := c) (w := qL m c) (z := z) eb hc l11 z1 z 0 T τ FU (FU_b (by omega)) (by omega) tb em tm h4
    refine ⟨τ', ?_, s2, ?_, s4⟩
    · unfold fX10_step_b75
      rw [show (0 : Int32) = yI ((0 : Nat) : Int) from rfl, b1 s1]
    · rw [hz] at s3
      exact s3
  have e1 : (1 : Int32) + yI ((T.1 / (20 * E.2.2.1) : Nat) : Int) = yI ((1 + T.1 / (20 * E.2.2.1) : Nat) : Int) := addn 1 _
  -- days in all: y is the fair current's day, u the foul one's
  have B : ∀ x y u : Nat, y ≤ x → x ≤ 60 → u ≤ 1 → max 1 (x - y + u) = qtk (m 5 c) E.2.2.1 w T.1 → ∃ τ', fX10_step_b63 (yI (c : Int)) (yI (u : Int)) (yI (x : Int) - yI (y : Int)) τ = some τ' ∧ EM τ' E ∧ TM τ' E (qst m E c w T) ∧ dFr τ τ' := fun x y u h1 h2 h3 h4 => by
    unfold fX10_step_b63
    rw [yI_sub, yI_add, show (x : Int) - (y : Int) + (u : Int) = ((x - y + u : Nat) : Int) by omega]
    by_cases z : 1 ≤ x - y + u
    · rw [if_pos (show (1 : Int32) ≤ yI ((x - y + u : Nat) : Int) from gep (v := 1) (b := 1) rfl (by omega) (by omega) (by omega))]
      exact A _ (by omega) (by omega)
    · rw [if_neg (gen (v := 1) (b := 1) rfl (by omega) (by omega) (by omega))]
      exact A 1 (by omega) (by omega)
  unfold fX10_step fX10_step_b0
  rw [em.2.2.2.1, e20, if_neg (yI_nl (v := 0) (b := 0) rfl (by omega) (by omega) (by omega)), if_pos (inb_n (by omega) hc), yI_cln (by omega), h5, tm.1, ed, e1]
  have eq := qtk.eq_1 (m 5 c) E.2.2.1 w T.1
  generalize T.1 / (20 * E.2.2.1) = x at *
  have C : ∀ y : Nat, y ≤ 1 → (m 5 c = (w : Int) → y = 1) → (m 5 c ≠ (w : Int) → y = 0) → ∃ τ', fX10_step_b31 (yI (c : Int)) (yI (w : Int)) (yI (y : Int)) (yI ((1 + x : Nat) : Int)) τ = some τ' ∧ EM τ' E ∧ TM τ' E (qst m E c w T) ∧ dFr τ τ' := fun y y1 hy1 hy0 => by
    unfold fX10_step_b31 fX10_step_b62
    rw [if_pos (inb_n (by omega) hc), yI_cln (by omega), h5]
    by_cases q1 : m 5 c = -1
    · rw [if_pos (eqp (v := -1) (b := -1) rfl q1)]
      have y0 := hy0 (by omega)
      refine B _ y 0 (by omega) (by omega) (by omega) ?_
      rw [eq, if_neg (show ¬ m 5 c = (w : Int) by omega), if_neg (fun z => z.1 q1), y0]
      omega
    · rw [if_neg (yI_nl (v := -1) (b := -1) rfl (by omega) (by omega) q1), if_pos (inb_n (by omega) hc), show yI (w : Int) + (2 : Int32) = yI ((w : Int) + 2) from by rw [show (2 : Int32) = yI 2 from rfl, yI_add], show (4 : Int32) = yI 4 from rfl, yI_rem (by omega) (by omega) (by omega) (by omega)]
      by_cases q2 : m 5 c = ((w : Int) + 2) % 4
      · rw [if_pos (by rw [q2])]
        have y0 := hy0 (by omega)
        refine B _ y 1 (by omega) (by omega) (by omega) ?_
        rw [eq, if_neg (show ¬ m 5 c = (w : Int) by omega), if_pos ⟨q1, by omega⟩, y0]
        omega
      · rw [if_neg (fun z => q2 (yI_inj (by omega) (by omega) (by omega) (by omega) z))]
        refine B _ y 0 (by omega) (by omega) (by omega) ?_
        rw [eq]
        by_cases q3 : m 5 c = (w : Int)
        · rw [if_pos q3, hy1 q3]
          omega
        · rw [if_neg q3, if_neg (fun z => by omega), hy0 q3]
          omega
  by_cases q : m 5 c = (w : Int)
  · rw [if_pos (by rw [q])]
    exact C 1 (by omega) (fun _ => rfl) (fun z => absurd q z)
  · rw [if_neg (fun z => q (yI_inj (by omega) (by omega) (by omega) (by omega) z))]
    exact C 0 (by omega) (fun z => absurd z q) (fun _ => rfl)
theorem qst_b {m : Mm} {E : QE} {c w : Nat} {T : QT} (hl : qL m c ≤ 11) (h : TB T) : TB (qst m E c w T) ∧ (qst m E c w T).1 ≤ T.1 ∧ T.2.2.1 ≤ (qst m E c w T).2.2.1 := qrun_b hl _ T h
theorem qrun_0 {E : QE} {w : Nat} {T : QT} (h : T.1 = 0) : ∀ k, qrun E w k T = T
  | 0 => rfl
  | k + 1 => by
    show (if T.1 = 0 then T else qrun E w k (qday E w T)) = T
    rw [if_pos h]
theorem qtw_0 {m : Mm} {E : QE} {T : QT} (h : T.1 = 0) : ∀ (l : List Nat) (c : Nat), qtw m E l c T = T
  | [], _ => rfl
  | w :: l, c => by
    show qtw m E l (qgo m c w) (qst m E c w T) = T
    have e : qst m E c w T = T := qrun_0 h _
    rw [e]
    exact qtw_0 h l _
/-- the places and steps of a way, as the model writes them down -/
def PL (τ : Sg) (m : Mm) : List Nat → Nat → Nat → Prop
  | [], _, _ => True
  | w :: l, c, i => (rI τ 8 i = yI (w : Int) ∧ rI τ 9 i = yI (c : Int) ∧ w < 4 ∧ c < qR m * qW m) ∧ PL τ m l (qgo m c w) (i + 1)
theorem PL_f {τ τ' : Sg} {m : Mm} : ∀ (l : List Nat) (c i : Nat), PL τ m l c i → (∀ j, i ≤ j → j < i + l.length → rI τ' 8 j = rI τ 8 j ∧ rI τ' 9 j = rI τ 9 j) → PL τ' m l c i
  | [], _, _, _, _ => trivial
  | w :: l, c, i, h, f => by
    have e := f i (Nat.le_refl _) (by rw [List.length_cons]; omega)
    exact ⟨⟨by rw [e.1]; exact h.1.1, by rw [e.2]; exact h.1.2.1, h.1.2.2⟩, PL_f l _ _ h.2 (fun j a b => f j (by omega) (by rw [List.length_cons]; omega))⟩
theorem GM_f {τ τ' : Sg} {m : Mm} (h : GM τ m) (f : ∀ o j, (o = 0 ∧ 9 ≤ j ∧ j ≤ 11) ∨ o = 4 ∨ o = 5 → rI τ' o j = rI τ o j) : GM τ' m := ⟨by rw [f 0 9 (by omega), h.1], by rw [f 0 10 (by omega), h.2.1], by rw [f 0 11 (by omega), h.2.2.1], fun i hi => by rw [f 4 i (by omega), f 5 i (by omega)]; exact h.2.2.2 i hi⟩
theorem f10_towAll {m : Mm} {E : QE} {L : Nat} (v : VS m) (eb : EB E) (L10 : L ≤ 10) : ∀ (l : List Nat) (c i : Nat) (T : QT) (τ : Sg) (n : Nat), l.length < n → i + l.length = L → PL τ m l c i → TB T → GM τ m → EM τ E → TM τ E T → ∃ τ', lp (fun s : Int32 × Sg => fX10_towAll_b2 (yI (L : Int)) s.1 s.2) n (yI (i : Int), τ) = some τ' ∧ EM τ' E ∧ TM τ' E (qtw m E l c T) ∧ dFr τ τ'
  | [], c, i, T, τ, n, hn, hL, pl, tb, gm, em, tm => by
    obtain ⟨n, rfl⟩ : ∃ n', n = n' + 1 := ⟨n - 1, by omega⟩
    have hL2 : i + 0 = L := hL
    refine ⟨τ, lp_en ?_, em, tm, dFr_r τ⟩
    dsimp only
    unfold fX10_towAll_b2
    rw [if_pos ((yI_le (by omega) (by omega) (by omega) (by omega)).mpr (by omega))]
  | w :: l, c, i, T, τ, n, hn, hL, pl, tb, gm, em, tm => by
    obtain ⟨n, rfl⟩ : ∃ n', n = n' + 1 := ⟨n - 1, by omega⟩
    rw [List.length_cons] at hL hn
    have t1 := tb.1
    by_cases z0 : T.1 = 0
    · rw [qtw_0 z0]
      refine ⟨τ, lp_en ?_, em, tm, dFr_r τ⟩
      dsimp only
      unfold fX10_towAll_b2
      rw [if_neg (fun q => by have := (yI_le (by omega) (by omega) (by omega) (by omega)).mp q; omega), tm.1, if_pos (lep (v := 0) (b := 0) rfl (by omega) (by omega) (by omega))]
    · obtain ⟨⟨p1, p2, p3, p4⟩, p5⟩ := pl
      have b30 := v.b30
      obtain ⟨l1, l2, -⟩ := qL_b v p4
      obtain ⟨-, -, f1, f3, -⟩ := v.2.2.2.2.2.2.2 c (by rw [v.RW]; omega)
      obtain ⟨τ1, r1, r2, r3, r4⟩ := f10_step (m := m) eb em tm tb (c := c) (w := w) (by omega) p3 (gm.2.2.2 c p4).1 l2 (gm.2.2.2 c p4).2 f1 f3
      have fr : ∀ o j, o ≠ 0 → rI τ1 o j = rI τ o j := fun o j a => r4 o j (by omega)
      obtain ⟨τ', s1, s2, s3, s4⟩ := f10_towAll v eb L10 l (qgo m c w) (i + 1) (qst m E c w T) τ1 n (by omega) (by omega) (PL_f l _ _ p5 (fun j _ _ => ⟨fr 8 j (by omega), fr 9 j (by omega)⟩)) (qst_b l2 tb).1 (GM_f gm (fun o j q => r4 o j (by omega))) r2 r3
      refine ⟨τ', ?_, s2, s3, dFr_t r4 s4⟩
      rw [← s1]
      refine lp_st ?_
      dsimp only
      unfold fX10_towAll_b2
      rw [if_neg (fun q => by have := (yI_le (by omega) (by omega) (by omega) (by omega)).mp q; omega), tm.1, if_neg (len (v := 0) (b := 0) rfl (by omega) (by omega) (by omega)), if_pos (inb_n (by omega) (by omega)), if_pos (inb_n (by omega) (by omega)), yI_cln (by omega), p1, p2, b1 r1, add1]
