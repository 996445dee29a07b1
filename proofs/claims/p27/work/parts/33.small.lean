/-! ===== tests, and calls that only look ===== -/
theorem t0 {P : Prop} [Decidable P] : ((if P then (1 : Int32) else 0) = 0) ↔ ¬ P := by
  by_cases h : P
  · rw [if_pos h]; exact ⟨fun q => absurd q (by decide), fun q => absurd h q⟩
  · rw [if_neg h]; exact ⟨fun _ => h, fun _ => rfl⟩
/-- a test and what hangs on it -/
theorem bt {P : Prop} [Decidable P] {σ : Sg} {B : Type} {x : Option (Int32 × Sg)} {f g : Int32 × Sg → Option B} (hx : x = some ((if P then (1 : Int32) else 0), σ)) (h : P) : (Option.bind x fun p => if p.1 = 0 then f p else g p) = g (1, σ) := by
  rw [hx, if_pos h]
  show (if (1 : Int32) = 0 then f (1, σ) else g (1, σ)) = _
  rw [if_neg (by decide)]
theorem bf {P : Prop} [Decidable P] {σ : Sg} {B : Type} {x : Option (Int32 × Sg)} {f g : Int32 × Sg → Option B} (hx : x = some ((if P then (1 : Int32) else 0), σ)) (h : ¬ P) : (Option.bind x fun p => if p.1 = 0 then f p else g p) = f (0, σ) := by
  rw [hx, if_neg h]
  show (if (0 : Int32) = 0 then f (0, σ) else g (0, σ)) = _
  rw [if_pos rfl]
theorem b1 {A B : Type} {x : Option A} {y : A} {k : A → Option B} (hx : x = some y) : Option.bind x k = k y := by rw [hx]; rfl
theorem btB {P : Prop} [Decidable P] {σ : Sg} : (Option.bind (some ((if P then (1 : Int32) else 0), σ)) fun p => if isB p.1 = true then some (p.1, p.2) else none) = some ((if P then (1 : Int32) else 0), σ) := by
  show (if isB (if P then (1 : Int32) else 0) = true then some ((if P then (1 : Int32) else 0), σ) else none) = _
  rw [if_pos isB_ite]
theorem VQ.S {n : Nat} {c m : Mm} (h : VQ n c m) : c 4 5 = m 0 9 * m 0 10 ∧ 0 ≤ m 0 9 * m 0 10 ∧ m 0 9 * m 0 10 ≤ 30 := by
  rcases h.2.2.2 with ⟨-, b, d, e⟩ | ⟨-, b, d⟩
  · rw [b, d, e]; decide
  · refine ⟨d.1, ?_, b.rw⟩
    obtain ⟨h1, -, h2, -⟩ := b
    exact Int.mul_nonneg (by omega) (by omega)
theorem VQ.sea {n : Nat} {c m : Mm} (h : VQ n c m) (k : 0 < m 0 9 * m 0 10) : VS m ∧ VT c m := by
  rcases h.2.2.2 with ⟨-, b, -⟩ | ⟨-, b, d⟩
  · rw [b] at k; omega
  · exact ⟨b, d⟩
theorem VS.W {m : Mm} (h : VS m) : m 0 10 = (qW m : Int) ∧ 2 ≤ qW m ∧ qW m ≤ 6 := by
  obtain ⟨h1, h2, h3, h4, -⟩ := h
  unfold qW; omega
theorem VS.R {m : Mm} (h : VS m) : m 0 9 = (qR m : Int) ∧ 2 ≤ qR m ∧ qR m ≤ 5 := by
  obtain ⟨h1, h2, h3, h4, -⟩ := h
  unfold qR; omega
theorem VS.RW {m : Mm} (h : VS m) : m 0 9 * m 0 10 = ((qR m * qW m : Nat) : Int) := by
  rw [h.R.1, h.W.1]; rfl
theorem VS.H {m : Mm} (h : VS m) : m 0 11 = (qH m : Int) ∧ qH m < qR m * qW m := by
  have e := h.RW
  obtain ⟨h1, h2, h3, h4, h5, h6, -⟩ := h
  have e2 : m 0 11 = (qH m : Int) := by unfold qH; omega
  refine ⟨e2, ?_⟩
  rw [e, e2] at h6
  omega
theorem VS.b30 {m : Mm} (h : VS m) : qR m * qW m ≤ 30 := by
  have := h.rw; rw [h.RW] at this; omega
theorem f9_isBerg' {σ : Sg} {a B : Int} (h1 : -2147483648 ≤ a) (h2 : a < 2147483648) (hB : rI σ 0 9 = yI B) (h3 : 0 ≤ B) (h4 : B ≤ 5) : fX9_isBerg (yI a) σ = some (if 0 ≤ a ∧ a < B then 1 else 0, σ) := f9_isBerg h1 h2 hB h3 h4
theorem f10_isBerg {τ : Sg} {a B : Int} (h1 : -2147483648 ≤ a) (h2 : a < 2147483648) (hB : rI τ 0 15 = yI B) (h3 : 0 ≤ B) (h4 : B ≤ 5) : fX10_isBerg (yI a) τ = some (if 0 ≤ a ∧ a < B then 1 else 0, τ) := by
  have e : (yI (B - 1)).toInt64.toInt = B - 1 := yI_l (by omega) (by omega)
  have hx : fX10_in (yI a).toInt64 0 (yI (B - 1)).toInt64 τ = some (if 0 ≤ a ∧ a < B then 1 else 0, τ) := by
    rw [in_zz h1 h2 (show (0 : Int64).toInt = 0 from rfl) e]
    congr 2
    by_cases h : 0 ≤ a ∧ a < B
    · rw [if_pos h, if_pos (by omega)]
    · rw [if_neg h, if_neg (by omega)]
  unfold fX10_isBerg fX10_isBerg_b0
  rw [hB, show yI B - 1 = yI (B - 1) from by rw [yI_1, yI_sub], hx, btB]
theorem f9_isKind {σ : Sg} {a : Int} (h1 : -2147483648 ≤ a) (h2 : a < 2147483648) : fX0_isKind (yI a) σ = some (if 0 ≤ a ∧ a ≤ 4 then 1 else 0, σ) := by
  unfold fX0_isKind fX0_isKind_b0
  simp (disch := omega) only [yI_0, yI_lit, yI_lt]
  by_cases h : a < 0
  · rw [if_pos h, if_neg (by omega)]
  · rw [if_neg h]
    by_cases k : 4 < a
    · rw [if_pos k, if_neg (by omega)]
    · rw [if_neg k, if_pos (by omega)]
theorem f7_has {σ : Sg} {a S : Int} (h1 : -2147483648 ≤ a) (h2 : a < 2147483648) (hS : rI σ 4 5 = yI S) (h3 : 0 ≤ S) (h4 : S ≤ 30) : fX7_has (yI a) σ = some (if 0 ≤ a ∧ a < S then 1 else 0, σ) := by
  unfold fX7_has fX7_has_b0
  rw [hS]
  simp (disch := omega) only [yI_0, yI_lt, yI_le]
  by_cases h : a < 0
  · rw [if_pos h, if_neg (by omega)]
  · rw [if_neg h]
    by_cases k : S ≤ a
    · rw [if_pos k, if_neg (by omega)]
    · rw [if_neg k, if_pos (by omega)]
theorem f10_isSquare {τ : Sg} {a S : Int} (h1 : -2147483648 ≤ a) (h2 : a < 2147483648) (hS : rI τ 0 9 * rI τ 0 10 = yI S) (h3 : 0 ≤ S) (h4 : S ≤ 30) : fX10_isSquare (yI a) τ = some (if 0 ≤ a ∧ a < S then 1 else 0, τ) := by
  have e : (yI (S - 1)).toInt64.toInt = S - 1 := yI_l (by omega) (by omega)
  have hx : fX10_in (yI a).toInt64 0 (yI (S - 1)).toInt64 τ = some (if 0 ≤ a ∧ a < S then 1 else 0, τ) := by
    rw [in_zz h1 h2 (show (0 : Int64).toInt = 0 from rfl) e]
    congr 2
    by_cases h : 0 ≤ a ∧ a < S
    · rw [if_pos h, if_pos (by omega)]
    · rw [if_neg h, if_neg (by omega)]
  unfold fX10_isSquare fX10_isSquare_b0
  rw [hS, show yI S - 1 = yI (S - 1) from by rw [yI_1, yI_sub], hx, btB]
theorem f10_size {τ : Sg} {a : Int} (h1 : -2147483648 < a) (h2 : a < 2147483648) : fX10_size (yI a) τ = some (yI (a.natAbs : Int), τ) := by
  unfold fX10_size fX10_size_b0
  simp (disch := omega) only [yI_0, yI_le]
  by_cases h : 0 ≤ a
  · rw [if_pos h]; congr 3; omega
  · rw [if_neg h, yI_neg]; congr 3; omega
theorem f10_farOf {τ : Sg} {W H c : Nat} (hW : rI τ 0 10 = yI (W : Int)) (hH : rI τ 0 11 = yI (H : Int)) (w1 : 0 < W) (w2 : W ≤ 6) (h3 : H ≤ 30) (h4 : c ≤ 30) : fX10_farOf (yI (c : Int)) τ = some (yI (qfar W H c : Int), τ) := by
  have hd : ∀ x : Nat, x ≤ 30 → yI (x : Int) / yI (W : Int) = yI ((x / W : Nat) : Int) := fun x hx => by
    rw [yI_div (by omega) (by omega) (by omega) (by omega)]; rfl
  have hr : ∀ x : Nat, x ≤ 30 → yI (x : Int) - yI (x : Int) / yI (W : Int) * yI (W : Int) = yI ((x % W : Nat) : Int) := fun x hx => by
    rw [yI_rem (by omega) (by omega) (by omega) (by omega)]; rfl
  have b1 : c / W ≤ 30 := Nat.le_trans (Nat.div_le_self _ _) h4
  have b2 : H / W ≤ 30 := Nat.le_trans (Nat.div_le_self _ _) h3
  have b3 : c % W < 6 := Nat.lt_of_lt_of_le (Nat.mod_lt _ w1) w2
  have b4 : H % W < 6 := Nat.lt_of_lt_of_le (Nat.mod_lt _ w1) w2
  unfold fX10_farOf fX10_farOf_b0
  have n0 : ¬ yI (W : Int) = 0 := yI_ne0 (by omega) (by omega) (by omega)
  unfold qfar qad
  have dc := hd c h4
  have dH := hd H h3
  have rc := hr c h4
  have rH := hr H h3
  clear hd hr
  generalize c / W = p at *
  generalize H / W = q at *
  generalize c % W = r at *
  generalize H % W = s at *
  rw [hW, hH, if_neg n0, if_neg n0, dc, dH, yI_sub, f10_size (by omega) (by omega)]
  show (if rI τ 0 10 = 0 then none else if rI τ 0 10 = 0 then none else Option.bind (fX10_size ((yI (c : Int) - yI (c : Int) / rI τ 0 10 * rI τ 0 10) - (rI τ 0 11 - rI τ 0 11 / rI τ 0 10 * rI τ 0 10)) τ) fun p7 => some (yI (((p : Int) - (q : Int)).natAbs : Int) + p7.1, p7.2)) = _
  rw [hW, hH, if_neg n0, if_neg n0, rc, rH, yI_sub, f10_size (by omega) (by omega)]
  show some (yI (((p : Int) - (q : Int)).natAbs : Int) + yI (((r : Int) - (s : Int)).natAbs : Int), τ) = _
  rw [yI_add]
  congr 3
  omega
/-- what both sides tell of a square -/
theorem square_eq {n : Nat} {σ τ : Sg} (h : Inv n σ τ) {c : Nat} (hc : (c : Int) < cM τ 0 9 * cM τ 0 10) (a1 : Int32) : ∃ r, fX9_square (yI (c : Int)) a1 σ = some (r, σ) ∧ fX10_tellSquare (yI (c : Int)) a1 τ = some (r, τ) := by
  obtain ⟨hp, hq, hb, -⟩ := h
  obtain ⟨vs, vt⟩ := hq.sea (by omega)
  have hS := hq.S
  have h30 := vs.rw
  have e0 : rI σ 4 5 = yI (cM τ 0 9 * cM τ 0 10) := by rw [cC_r (o := 4) (k := 5) rfl, hS.1]
  obtain ⟨e5, e6, e7, -⟩ := vt.2.2.2 c hc
  have i1 : inb (yI (c : Int)) 30 = true := inb_n (by omega) (by omega)
  have i2 : (yI (c : Int)).toNatClampNeg = c := yI_cln (by omega)
  have r5 : rI σ 5 c = rI τ 4 c := by rw [cC_r (o := 5) (k := c) rfl, cM_r (o := 4) (k := c) rfl, e5]
  have r6 : rI σ 6 c = rI τ 5 c := by rw [cC_r (o := 6) (k := c) rfl, cM_r (o := 5) (k := c) rfl, e6]
  have r7 : rI σ 7 c = yI (qF (cM τ) c : Int) := by rw [cC_r (o := 7) (k := c) rfl, e7]
  have w1 : rI τ 0 10 = yI (qW (cM τ) : Int) := by rw [cM_r (o := 0) (k := 10) rfl, vs.W.1]
  have w2 : rI τ 0 11 = yI (qH (cM τ) : Int) := by rw [cM_r (o := 0) (k := 11) rfl, vs.H.1]
  have hw := vs.W.2
  have hh := vs.H.2
  have h3 := vs.b30
  have f := f10_farOf (c := c) w1 w2 (by omega) (by omega) (by omega) (by omega)
  have g := f7_has (σ := σ) (a := (c : Int)) (by omega) (by omega) e0 (by omega) (by omega)
  have hP : 0 ≤ (c : Int) ∧ (c : Int) < cM τ 0 9 * cM τ 0 10 := ⟨by omega, hc⟩
  unfold fX9_square fX9_square_b0 fX10_tellSquare fX10_tellSquare_b0
  rw [bt g hP]
  dsimp only
  simp only [i1, i2, if_pos, r5, r6, r7]
  by_cases q0 : a1 = 0
  · rw [if_pos q0, if_pos q0]; exact ⟨_, rfl, rfl⟩
  · rw [if_neg q0, if_neg q0]
    by_cases q1 : a1 = 1
    · rw [if_pos q1, if_pos q1]; exact ⟨_, rfl, rfl⟩
    · rw [if_neg q1, if_neg q1]
      by_cases q2 : a1 = 2
      · rw [if_pos q2, if_pos q2, f]; exact ⟨_, rfl, rfl⟩
      · rw [if_neg q2, if_neg q2]; exact ⟨_, rfl, rfl⟩
theorem s_square (a0 a1 : Int32) : SimI Inv (fX9_square a0 a1) (fX10_square a0 a1) := SimI_same Inv_n fun n σ τ _ h => by
  obtain ⟨a, h1, h2, rfl⟩ := yI_ex a0
  have hS := h.2.1.S
  have e0 : rI σ 4 5 = yI (cM τ 0 9 * cM τ 0 10) := by rw [cC_r (o := 4) (k := 5) rfl, hS.1]
  have e1 : rI τ 0 9 * rI τ 0 10 = yI (cM τ 0 9 * cM τ 0 10) := by rw [cM_r (o := 0) (k := 9) rfl, cM_r (o := 0) (k := 10) rfl, yI_mul]
  have g1 := f7_has h1 h2 e0 hS.2.1 hS.2.2
  have g2 := f10_isSquare h1 h2 e1 hS.2.1 hS.2.2
  by_cases hc : 0 ≤ a ∧ a < cM τ 0 9 * cM τ 0 10
  · obtain ⟨c, rfl⟩ := Int.eq_ofNat_of_zero_le hc.1
    obtain ⟨r, k1, k2⟩ := square_eq h hc.2 a1
    refine ⟨r, k1, ?_⟩
    unfold fX10_square fX10_square_b0
    rw [bt g2 hc]
    dsimp only
    rw [k2]; rfl
  · refine ⟨-101, ?_, ?_⟩
    · unfold fX9_square fX9_square_b0
      rw [bf g1 hc]
    · unfold fX10_square fX10_square_b0
      rw [bf g2 hc]
