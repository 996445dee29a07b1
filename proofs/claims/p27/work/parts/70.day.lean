/-! ===== a day of a tow: bounds, and the class's ===== -/
def TB (T : QT) : Prop := T.1 ≤ 999 ∧ T.2.1 ≤ 99 ∧ T.1 + T.2.2.1 ≤ 999 ∧ T.2.2.2 < 2147483648
def EB (E : QE) : Prop := E.1 ≤ 4 ∧ (E.1 = 2 → 2 ≤ E.2.1) ∧ E.2.1 ≤ 9 ∧ 1 ≤ E.2.2.1 ∧ E.2.2.1 ≤ 11 ∧ E.2.2.2.1 ≤ 1 ∧ E.2.2.2.2 ≤ 1
def qm1 (kind w s : Nat) : Nat :=
  let a := 1 + (if kind = 3 then w + 1 else w) * s / 100
  if kind = 1 ∨ kind = 4 then (a + 1) / 2 else a
theorem qmelt_1 (kind sk w s : Nat) : qmelt kind sk w s = if sk = 0 then qm1 kind w s else qm1 kind w s - qm1 kind w s / 3 := rfl
theorem felt_b {kind w s : Nat} (hw : w ≤ 12) (hs : s ≤ 999) : (if kind = 3 then w + 1 else w) ≤ 13 ∧ (if kind = 3 then w + 1 else w) * s ≤ 12987 ∧ (if kind = 3 then w + 1 else w) * s / 100 ≤ 129 := by
  have h1 : (if kind = 3 then w + 1 else w) ≤ 13 := by
    by_cases q : kind = 3
    · rw [if_pos q]; omega
    · rw [if_neg q]; omega
  generalize (if kind = 3 then w + 1 else w) = f at *
  have h2 : f * s ≤ 13 * 999 := Nat.mul_le_mul h1 hs
  generalize f * s = x at *
  omega
theorem qm1_b {kind w s : Nat} (hw : w ≤ 12) (hs : s ≤ 999) : 1 ≤ qm1 kind w s ∧ qm1 kind w s ≤ 130 := by
  have := (felt_b (kind := kind) hw hs).2.2
  unfold qm1
  dsimp only
  generalize (if kind = 3 then w + 1 else w) * s / 100 = x at *
  by_cases q : kind = 1 ∨ kind = 4
  · rw [if_pos q]; omega
  · rw [if_neg q]; omega
theorem qmelt_b {kind sk w s : Nat} (hw : w ≤ 12) (hs : s ≤ 999) : 1 ≤ qmelt kind sk w s ∧ qmelt kind sk w s ≤ 130 := by
  have := qm1_b (kind := kind) hw hs
  rw [qmelt_1]
  by_cases q : sk = 0
  · rw [if_pos q]; exact this
  · rw [if_neg q]; omega
theorem qsd_b (q : Nat) : qsd q < 2147483648 := Nat.mod_lt _ (by decide)
theorem qdw_b {dr w q : Nat} (hq : q < 2147483648) : (qdw dr w q).1 ≤ w + 1 ∧ (qdw dr w q).2 < 2147483648 := by
  unfold qdw
  by_cases h : dr = 0
  · rw [if_pos h]; exact ⟨by dsimp only; omega, hq⟩
  · rw [if_neg h]
    refine ⟨?_, qsd_b q⟩
    dsimp only
    omega
theorem qdy_b {kind ev sk w s f d q : Nat} (hw : w ≤ 12) (h1 : s ≤ 999) (h0 : 0 < s) (h2 : f ≤ 99) (h3 : s + d ≤ 999) (h4 : q < 2147483648) : TB (qdy kind ev sk w s f d q) ∧ (qdy kind ev sk w s f d q).1 < s ∧ (qdy kind ev sk w s f d q).2.2.1 = d + 1 := by
  have hm := qmelt_b (kind := kind) (sk := sk) hw h1
  unfold qdy
  dsimp only
  generalize qmelt kind sk w s = u at *
  generalize hs2 : (if f - w = 0 ∧ kind ≠ 4 then s - u - (s - u) / 5 else s - u) = s2
  have b2 : s2 ≤ s - u := by
    rw [← hs2]
    by_cases z : f - w = 0 ∧ kind ≠ 4
    · rw [if_pos z]; omega
    · rw [if_neg z]; omega
  generalize hs3 : (if kind = 2 ∧ (d + 1) % ev = 0 then s2 - (s2 + 9) / 10 else s2) = s3
  have b3 : s3 ≤ s2 := by
    rw [← hs3]
    by_cases z : kind = 2 ∧ (d + 1) % ev = 0
    · rw [if_pos z]; omega
    · rw [if_neg z]; omega
  generalize hf : (if f - w = 0 ∧ kind ≠ 4 then 9 else f - w) = f2
  have bf : f2 ≤ 99 := by
    rw [← hf]
    by_cases z : f - w = 0 ∧ kind ≠ 4
    · rw [if_pos z]; omega
    · rw [if_neg z]; omega
  refine ⟨⟨?_, bf, ?_, h4⟩, ?_, rfl⟩
  · dsimp only; omega
  · dsimp only; omega
  · omega
theorem qday_b {E : QE} {w : Nat} {T : QT} (hw : w ≤ 11) (h : TB T) (h0 : 0 < T.1) : TB (qday E w T) ∧ (qday E w T).1 < T.1 ∧ (qday E w T).2.2.1 = T.2.2.1 + 1 := by
  obtain ⟨h1, h2, h3, h4⟩ := h
  have hd := qdw_b (dr := E.2.2.2.2) (w := w) h4
  exact qdy_b (by omega) h1 h0 h2 h3 hd.2
theorem qrun_b {E : QE} {w : Nat} (hw : w ≤ 11) : ∀ (k : Nat) (T : QT), TB T → TB (qrun E w k T) ∧ (qrun E w k T).1 ≤ T.1 ∧ T.2.2.1 ≤ (qrun E w k T).2.2.1
  | 0, T, h => ⟨h, Nat.le_refl _, Nat.le_refl _⟩
  | k + 1, T, h => by
    show TB (if T.1 = 0 then T else qrun E w k (qday E w T)) ∧ (if T.1 = 0 then T else qrun E w k (qday E w T)).1 ≤ T.1 ∧ T.2.2.1 ≤ (if T.1 = 0 then T else qrun E w k (qday E w T)).2.2.1
    by_cases z : T.1 = 0
    · rw [if_pos z]; exact ⟨h, Nat.le_refl _, Nat.le_refl _⟩
    · rw [if_neg z]
      obtain ⟨a, b, c⟩ := qday_b (E := E) hw h (by omega)
      obtain ⟨a', b', c'⟩ := qrun_b hw k _ a
      exact ⟨a', by omega, by omega⟩
/-- the class's tow at work: the berg is object o -/
def EC (σ : Sg) (E : QE) (o : Nat) : Prop := rR σ 3 7 = o ∧ isSh layC o (0, 0, slX0) = true ∧ rI σ o 0 = yI (E.1 : Int) ∧ rI σ o 4 = yI (E.2.1 : Int) ∧ rI σ o 5 = yI (if E.1 = 1 ∨ E.1 = 4 then 1 else 0) ∧ rI σ 3 8 = yI (E.2.2.1 : Int) ∧ rI σ 3 9 = yI (E.2.2.2.1 : Int) ∧ rI σ 3 15 = yI (E.2.2.2.2 : Int)
def SQ (σ : Sg) (E : QE) (q : Nat) : Prop := E.2.2.2.2 ≠ 0 → rJ σ 3 16 = lN q
theorem f0_meltOf {σ : Sg} {o k w s : Nat} (h0 : rI σ o 0 = yI (k : Int)) (h5 : rI σ o 5 = yI (if k = 1 ∨ k = 4 then 1 else 0)) (k4 : k ≤ 4) (hw : w ≤ 12) (hs : s ≤ 999) : fX0_meltOf o (yI (w : Int)) (yI (s : Int)) σ = some (yI (qm1 k w s : Int), σ) := by
  obtain ⟨b1', b2', b3'⟩ := felt_b (kind := k) hw hs
  have A : ∀ f : Nat, f = (if k = 3 then w + 1 else w) → fX0_meltOf_b15 o (yI (s : Int)) (yI (f : Int)) σ = some (yI (qm1 k w s : Int), σ) := fun f hf => by
    unfold qm1
    dsimp only
    rw [← hf] at b1' b2' b3' ⊢
    have e : (1 : Int32) + (yI (f : Int) * yI (s : Int)) / (100 : Int32) = yI ((1 + f * s / 100 : Nat) : Int) := by
      rw [yI_mul, show (f : Int) * (s : Int) = ((f * s : Nat) : Int) from rfl, show (100 : Int32) = yI ((100 : Nat) : Int) from rfl, divn (by omega) (by omega) (by omega), show (1 : Int32) = yI ((1 : Nat) : Int) from rfl, addn]
    unfold fX0_meltOf_b15
    rw [h5, e]
    generalize f * s / 100 = x at *
    by_cases q : k = 1 ∨ k = 4
    · rw [if_pos q, if_pos q, if_neg (show ¬ yI 1 = 0 by decide), add1, show (2 : Int32) = yI ((2 : Nat) : Int) from rfl, divn (by omega) (by omega) (by omega)]
    · rw [if_neg q, if_neg q, if_pos (show yI 0 = 0 from rfl)]
  unfold fX0_meltOf fX0_meltOf_b0
  rw [h0]
  by_cases q : k = 3
  · rw [if_pos (eqp (v := 3) (b := 3) rfl (by omega)), add1]
    exact A _ (by rw [if_pos q])
  · rw [if_neg (yI_nl (v := 3) (b := 3) rfl (by omega) (by omega) (by omega))]
    exact A _ (by rw [if_neg q])
theorem f0_breaksOn {σ : Sg} {o k ev d : Nat} (h0 : rI σ o 0 = yI (k : Int)) (h4 : rI σ o 4 = yI (ev : Int)) (k4 : k ≤ 4) (h2 : k = 2 → 2 ≤ ev) (h9 : ev ≤ 9) (hd : d ≤ 1100) : fX0_breaksOn o (yI (d : Int)) σ = some (if k = 2 ∧ d % ev = 0 then 1 else 0, σ) := by
  unfold fX0_breaksOn fX0_breaksOn_b0
  rw [h0, h4]
  by_cases q : k = 2
  · have e2 := h2 q
    rw [if_pos (eqp (v := 2) (b := 2) rfl (by omega)), if_neg (len (v := 0) (b := 0) rfl (by omega) (by omega) (by omega)), if_neg (yI_nl (v := 0) (b := 0) rfl (by omega) (by omega) (by omega)), yI_rem (by omega) (by omega) (by omega) (by omega), show (d : Int) % (ev : Int) = ((d % ev : Nat) : Int) from rfl]
    have hm : d % ev < 9 := Nat.lt_of_lt_of_le (Nat.mod_lt _ (by omega)) h9
    by_cases z : d % ev = 0
    · rw [if_pos (eqp (v := 0) (b := 0) rfl (by omega)), if_pos ⟨q, z⟩]
    · rw [if_neg (yI_nl (v := 0) (b := 0) rfl (by omega) (by omega) (by omega)), if_neg (fun c => z c.2)]
  · rw [if_neg (yI_nl (v := 2) (b := 2) rfl (by omega) (by omega) (by omega)), if_neg (fun c => q c.1)]
theorem imax_n {a b : Nat} (ha : a < 100000) (hb : b < 100000) : imax (0 : Int32) (yI (a : Int) - yI (b : Int)) = yI ((a - b : Nat) : Int) := by
  rw [yI_sub, yI_0, imax_z (by omega) (by omega) (by omega) (by omega)]
  congr 1
  omega
theorem f8_day {σ : Sg} {E : QE} {o : Nat} (ec : EC σ E o) (eb : EB E) {w s f d q : Nat} (hw : w ≤ 12) (h1 : s ≤ 999) (h0 : 0 < s) (h2 : f ≤ 99) (h3 : s + d ≤ 999) (h4 : q < 2147483648) (x1 x2 x7 : Int32) : fX8_pass_b84 x1 x2 (yI (s : Int)) (yI (f : Int)) (yI ((d + 1 : Nat) : Int)) x7 (yI (w : Int)) σ = some (.inl (yI ((qdy E.1 E.2.1 E.2.2.2.1 w s f d q).1 : Int), yI ((qdy E.1 E.2.1 E.2.2.2.1 w s f d q).2.1 : Int), yI ((d + 1 : Nat) : Int), σ)) := by
  obtain ⟨c1, c2, c3, c4, c5, c6, c7, c8⟩ := ec
  obtain ⟨k4, e2, e9, t1, t11, s1, d1⟩ := eb
  obtain ⟨k, ev, tg, sk, dr⟩ := E
  dsimp only at c3 c4 c5 c6 c7 c8 k4 e2 e9 t1 t11 s1 d1 ⊢
  have m1 := qm1_b (kind := k) hw h1
  have mb := qmelt_b (kind := k) (sk := sk) hw h1
  -- the end: the break
  have A : ∀ s2 f2 : Nat, s2 ≤ 999 → fX8_pass_b167 x1 x2 (yI (s2 : Int)) (yI (f2 : Int)) (yI ((d + 1 : Nat) : Int)) x7 σ = some (.inl (yI (((if k = 2 ∧ (d + 1) % ev = 0 then s2 - (s2 + 9) / 10 else s2) : Nat) : Int), yI (f2 : Int), yI ((d + 1 : Nat) : Int), σ)) := fun s2 f2 hs2 => by
    unfold fX8_pass_b167 fX8_pass_b192
    rw [c1, if_pos c2]
    have hb := f0_breaksOn (σ := σ) (d := d + 1) c3 c4 k4 e2 e9 (by omega)
    by_cases z : k = 2 ∧ (d + 1) % ev = 0
    · rw [bt hb z, if_pos z, show yI (s2 : Int) + (9 : Int32) = yI ((s2 + 9 : Nat) : Int) from addn s2 9, show (10 : Int32) = yI ((10 : Nat) : Int) from rfl, divn (by omega) (by omega) (by omega), yI_sub, show (s2 : Int) - (((s2 + 9) / 10 : Nat) : Int) = ((s2 - (s2 + 9) / 10 : Nat) : Int) by omega]
    · rw [bf hb z, if_neg z]
  have B : ∀ u : Nat, u = qmelt k sk w s → fX8_pass_b121 x1 x2 (yI (f : Int)) (yI ((d + 1 : Nat) : Int)) x7 (yI (w : Int)) (yI (u : Int)) (yI (s : Int)) 0 σ = some (.inl (yI ((qdy k ev sk w s f d q).1 : Int), yI ((qdy k ev sk w s f d q).2.1 : Int), yI ((d + 1 : Nat) : Int), σ)) := fun u hu => by
    unfold qdy
    dsimp only
    rw [← hu] at mb ⊢
    unfold fX8_pass_b121
    rw [imax_n (by omega) (by omega), imax_n (by omega) (by omega)]
    by_cases z : f - w = 0
    · rw [if_pos (eqp (v := 0) (b := 0) rfl (by omega)), c1, if_pos c2, c3]
      by_cases z4 : k = 4
      · rw [if_pos (eqp (v := 4) (b := 4) rfl (by omega)), A _ _ (by omega), if_neg (c := f - w = 0 ∧ k ≠ 4) (fun c => c.2 z4), if_neg (c := f - w = 0 ∧ k ≠ 4) (fun c => c.2 z4)]
      · rw [if_neg (yI_nl (v := 4) (b := 4) rfl (by omega) (by omega) (by omega)), div5 (by omega), show (9 : Int32) = yI ((9 : Nat) : Int) from rfl, A _ _ (by omega), if_pos (c := f - w = 0 ∧ k ≠ 4) ⟨z, z4⟩, if_pos (c := f - w = 0 ∧ k ≠ 4) ⟨z, z4⟩]
    · rw [if_neg (yI_nl (v := 0) (b := 0) rfl (by omega) (by omega) (by omega)), A _ _ (by omega), if_neg (c := f - w = 0 ∧ k ≠ 4) (fun c => z c.1), if_neg (c := f - w = 0 ∧ k ≠ 4) (fun c => z c.1)]
  unfold fX8_pass_b84
  rw [c1, if_pos c2, b1 (f0_meltOf c3 c5 k4 hw h1)]
  dsimp only
  rw [c7]
  by_cases z : sk = 0
  · rw [if_pos (eqp (v := 0) (b := 0) rfl (by omega))]
    exact B _ (by rw [qmelt_1, if_pos z])
  · rw [if_neg (yI_nl (v := 0) (b := 0) rfl (by omega) (by omega) (by omega)), div3 (by omega)]
    exact B _ (by rw [qmelt_1, if_neg z])
