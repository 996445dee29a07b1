/-! ===== a day, as the law reckons it ===== -/
theorem remn {a b : Nat} (ha : a < 2147483648) (h0 : 0 < b) (hb : b < 2147483648) : yI (a : Int) - yI (a : Int) / yI (b : Int) * yI (b : Int) = yI ((a % b : Nat) : Int) := by
  rw [yI_rem (by omega) (by omega) (by omega) (by omega)]; rfl
theorem tens (S : Nat) : S / 10 + (if S % 10 = 0 then 0 else 1) = (S + 9) / 10 := by
  by_cases z : S % 10 = 0
  · rw [if_pos z]; omega
  · rw [if_neg z]; omega
/-- what the old layers take -/
theorem L_brk {s : LwS} {bq wq i k ev S D : Nat} (hi : i + 4 ≤ 25) (k4 : k ≤ 4) (h2 : k = 2 → 2 ≤ ev) (h9 : ev ≤ 9) (hS : S ≤ 999) (hD : D ≤ 2000) (b0 : rT s bq i = yI (k : Int)) (b4 : rT s bq (i + 4) = yI (ev : Int)) (w0 : rT s wq 0 = yI (S : Int)) (w2 : rT s wq 2 = yI (D : Int)) : ∃ s', fL_day_b151 bq (yI (i : Int)) wq s = some s' ∧ (rT s' wq 0 = yI ((if k = 2 ∧ D % ev = 0 then S - (S + 9) / 10 else S : Nat) : Int) ∧ rT s' wq 1 = rT s wq 1 ∧ rT s' wq 2 = yI (D : Int)) ∧ fr wq s s' := by
  unfold fL_day_b151
  simp only [k0, k2]
  rw [if_pos (inb_n (by omega) (by omega)), yI_cln (by omega), b0]
  by_cases z : k = 2
  · have hev := h2 z
    rw [if_pos (eqp (v := 2) (b := 2) rfl (by omega)), add4, if_pos (inb_n (by omega) (by omega)), yI_cln (by omega), b4, w0, w2, if_neg (yI_ne0 (by omega) (by omega) (by omega)), remn (by omega) (by omega) (by omega)]
    have dm := Nat.mod_lt D (show ev > 0 by omega)
    by_cases y : D % ev = 0
    · rw [if_pos (eqp (v := 0) (b := 0) rfl (by omega)), if_pos (c := k = 2 ∧ D % ev = 0) ⟨z, y⟩, show (10 : Int32) = yI ((10 : Nat) : Int) from rfl, remn (by omega) (by omega) (by omega), divn (by omega) (by omega) (by omega)]
      have T := tens S
      have B : ∀ e : Nat, e ≤ 1 → S / 10 + e = (S + 9) / 10 → ∃ s', fL_day_b198 (yI (e : Int)) (yI ((S / 10 : Nat) : Int)) (yI (S : Int)) (0 : Int32) wq s = some s' ∧ (rT s' wq 0 = yI ((S - (S + 9) / 10 : Nat) : Int) ∧ rT s' wq 1 = rT s wq 1 ∧ rT s' wq 2 = yI (D : Int)) ∧ fr wq s s' := fun e e1 e2 => by
        unfold fL_day_b198
        rw [if_pos (show inb 0 3 = true from rfl), k0, addn, e2, yI_sub]
        refine ⟨_, rfl, ⟨?_, ?_, ?_⟩, fr_w (fr_r _ _)⟩
        · rw [rT_s]; congr 1; omega
        · rw [rT_k (by omega)]
        · rw [rT_k (by omega), w2]
      by_cases x : S % 10 = 0
      · rw [if_pos (lep (v := 0) (b := 0) rfl (by omega) (by omega) (by omega))]
        rw [if_pos x] at T
        exact B 0 (by omega) T
      · rw [if_neg (len (v := 0) (b := 0) rfl (by omega) (by omega) (by omega))]
        rw [if_neg x] at T
        exact B 1 (by omega) T
    · rw [if_neg (yI_nl (v := 0) (b := 0) rfl (by omega) (by omega) (by omega)), if_neg (c := k = 2 ∧ D % ev = 0) (fun u => y u.2)]
      exact ⟨s, rfl, ⟨w0, rfl, w2⟩, fr_r _ _⟩
  · rw [if_neg (yI_nl (v := 2) (b := 2) rfl (by omega) (by omega) (by omega)), if_neg (c := k = 2 ∧ D % ev = 0) (fun u => z u.1)]
    exact ⟨s, rfl, ⟨w0, rfl, w2⟩, fr_r _ _⟩
theorem L_foot {s : LwS} {bq wq i k ev S D f1 : Nat} (hb : bq ≠ wq) (hi : i + 4 ≤ 25) (k4 : k ≤ 4) (h2 : k = 2 → 2 ≤ ev) (h9 : ev ≤ 9) (hS : S ≤ 999) (hf : f1 ≤ 99) (hD : D ≤ 2000) (b0 : rT s bq i = yI (k : Int)) (b4 : rT s bq (i + 4) = yI (ev : Int)) (w0 : rT s wq 0 = yI (S : Int)) (w2 : rT s wq 2 = yI (D : Int)) : ∃ s', fL_day_b117 bq (yI (i : Int)) wq (yI (f1 : Int)) (1 : Int32) wq s = some s' ∧ (rT s' wq 0 = yI ((if k = 2 ∧ D % ev = 0 then (if f1 = 0 ∧ k ≠ 4 then S - S / 5 else S) - ((if f1 = 0 ∧ k ≠ 4 then S - S / 5 else S) + 9) / 10 else (if f1 = 0 ∧ k ≠ 4 then S - S / 5 else S) : Nat) : Int) ∧ rT s' wq 1 = yI ((if f1 = 0 ∧ k ≠ 4 then 9 else f1 : Nat) : Int) ∧ rT s' wq 2 = yI (D : Int)) ∧ fr wq s s' := by
  unfold fL_day_b117
  simp only [k0, k1]
  rw [if_pos (show inb 1 3 = true from rfl), rT_s]
  have f1' := fr_w (k := 1) (v := yI (f1 : Int)) (fr_r wq s)
  by_cases z : f1 = 0
  · rw [if_pos (eqp (v := 0) (b := 0) rfl (by omega)), if_pos (inb_n (by omega) (by omega)), yI_cln (by omega), rT_o hb, b0]
    by_cases y : k = 4
    · rw [if_pos (eqp (v := 4) (b := 4) rfl (by omega)), if_neg (c := f1 = 0 ∧ k ≠ 4) (fun u => u.2 y), if_neg (c := f1 = 0 ∧ k ≠ 4) (fun u => u.2 y)]
      obtain ⟨s', r1, ⟨r2, r3, r4⟩, r5⟩ := L_brk (s := wT s wq 1 (yI (f1 : Int))) (bq := bq) (wq := wq) (i := i) (S := S) (D := D) hi k4 h2 h9 hS hD (by rw [rT_o hb, b0]) (by rw [rT_o hb, b4]) (by rw [rT_k (by omega), w0]) (by rw [rT_k (by omega), w2])
      exact ⟨s', r1, ⟨r2, by rw [r3, rT_s], r4⟩, fr_t f1' r5⟩
    · rw [if_neg (yI_nl (v := 4) (b := 4) rfl (by omega) (by omega) (by omega)), if_pos (c := f1 = 0 ∧ k ≠ 4) ⟨z, y⟩, if_pos (c := f1 = 0 ∧ k ≠ 4) ⟨z, y⟩, rT_k (by omega), w0, show (5 : Int32) = yI ((5 : Nat) : Int) from rfl, divn (by omega) (by omega) (by omega), yI_sub, show (S : Int) - ((S / 5 : Nat) : Int) = ((S - S / 5 : Nat) : Int) by omega]
      obtain ⟨s', r1, ⟨r2, r3, r4⟩, r5⟩ := L_brk (s := wT (wT (wT s wq 1 (yI (f1 : Int))) wq 0 (yI ((S - S / 5 : Nat) : Int))) wq 1 (9 : Int32)) (bq := bq) (wq := wq) (i := i) (S := S - S / 5) (D := D) hi k4 h2 h9 (by omega) hD (by rw [rT_o hb, rT_o hb, rT_o hb, b0]) (by rw [rT_o hb, rT_o hb, rT_o hb, b4]) (by rw [rT_k (by omega), rT_s]) (by rw [rT_k (by omega), rT_k (by omega), rT_k (by omega), w2])
      exact ⟨s', r1, ⟨r2, by rw [r3, rT_s]; rfl, r4⟩, fr_t (fr_w (fr_w f1')) r5⟩
  · rw [if_neg (yI_nl (v := 0) (b := 0) rfl (by omega) (by omega) (by omega)), if_neg (c := f1 = 0 ∧ k ≠ 4) (fun u => z u.1), if_neg (c := f1 = 0 ∧ k ≠ 4) (fun u => z u.1)]
    obtain ⟨s', r1, ⟨r2, r3, r4⟩, r5⟩ := L_brk (s := wT s wq 1 (yI (f1 : Int))) (bq := bq) (wq := wq) (i := i) (S := S) (D := D) hi k4 h2 h9 hS hD (by rw [rT_o hb, b0]) (by rw [rT_o hb, b4]) (by rw [rT_k (by omega), w0]) (by rw [rT_k (by omega), w2])
    exact ⟨s', r1, ⟨r2, by rw [r3, rT_s], r4⟩, fr_t f1' r5⟩
theorem L_day72 {s : LwS} {bq wq i k ev S D F M w : Nat} (hb : bq ≠ wq) (hi : i + 4 ≤ 25) (k4 : k ≤ 4) (h2 : k = 2 → 2 ≤ ev) (h9 : ev ≤ 9) (hS : S ≤ 999) (hF : F ≤ 99) (hD : D ≤ 2000) (hM : M ≤ 1000) (hw : w ≤ 12) (b0 : rT s bq i = yI (k : Int)) (b4 : rT s bq (i + 4) = yI (ev : Int)) (w0 : rT s wq 0 = yI (S : Int)) (w1 : rT s wq 1 = yI (F : Int)) (w2 : rT s wq 2 = yI (D : Int)) : ∃ s', fL_day_b72 bq (yI (i : Int)) (yI (w : Int)) wq (yI (M : Int)) s = some s' ∧ (rT s' wq 0 = yI ((if k = 2 ∧ D % ev = 0 then (if F - w = 0 ∧ k ≠ 4 then (S - M) - (S - M) / 5 else S - M) - ((if F - w = 0 ∧ k ≠ 4 then (S - M) - (S - M) / 5 else S - M) + 9) / 10 else (if F - w = 0 ∧ k ≠ 4 then (S - M) - (S - M) / 5 else S - M) : Nat) : Int) ∧ rT s' wq 1 = yI ((if F - w = 0 ∧ k ≠ 4 then 9 else F - w : Nat) : Int) ∧ rT s' wq 2 = yI (D : Int)) ∧ fr wq s s' := by
  have B95 : ∃ s', fL_day_b95 bq (yI (i : Int)) (yI (w : Int)) wq (yI ((S - M : Nat) : Int)) (0 : Int32) wq s = some s' ∧ (rT s' wq 0 = yI ((if k = 2 ∧ D % ev = 0 then (if F - w = 0 ∧ k ≠ 4 then (S - M) - (S - M) / 5 else S - M) - ((if F - w = 0 ∧ k ≠ 4 then (S - M) - (S - M) / 5 else S - M) + 9) / 10 else (if F - w = 0 ∧ k ≠ 4 then (S - M) - (S - M) / 5 else S - M) : Nat) : Int) ∧ rT s' wq 1 = yI ((if F - w = 0 ∧ k ≠ 4 then 9 else F - w : Nat) : Int) ∧ rT s' wq 2 = yI (D : Int)) ∧ fr wq s s' := by
    unfold fL_day_b95
    simp only [k0, k1]
    rw [if_pos (show inb 0 3 = true from rfl), rT_k (by omega), w1]
    have f1' := fr_w (k := 0) (v := yI ((S - M : Nat) : Int)) (fr_r wq s)
    obtain ⟨s', r1, r2, r3⟩ := L_foot (s := wT s wq 0 (yI ((S - M : Nat) : Int))) (bq := bq) (wq := wq) (i := i) (S := S - M) (D := D) (f1 := F - w) hb hi k4 h2 h9 (by omega) (by omega) hD (by rw [rT_o hb, b0]) (by rw [rT_o hb, b4]) (by rw [rT_s]) (by rw [rT_k (by omega), w2])
    refine ⟨s', ?_, r2, fr_t f1' r3⟩
    by_cases z : F ≤ w
    · rw [if_pos ((yI_le (by omega) (by omega) (by omega) (by omega)).mpr (by omega))]
      rw [show F - w = 0 by omega] at r1
      exact r1
    · rw [if_neg (fun y => by have := (yI_le (by omega) (by omega) (by omega) (by omega)).mp y; omega), yI_sub, show (F : Int) - (w : Int) = ((F - w : Nat) : Int) by omega]
      exact r1
  unfold fL_day_b72
  simp only [k0]
  rw [w0]
  by_cases z : S ≤ M
  · rw [if_pos ((yI_le (by omega) (by omega) (by omega) (by omega)).mpr (by omega))]
    obtain ⟨s', r1, r2⟩ := B95
    refine ⟨s', ?_, r2⟩
    rw [show S - M = 0 by omega] at r1
    exact r1
  · rw [if_neg (fun y => by have := (yI_le (by omega) (by omega) (by omega) (by omega)).mp y; omega), yI_sub, show (S : Int) - (M : Int) = ((S - M : Nat) : Int) by omega]
    exact B95
/-- a day: what it leaves is what both sides reckon -/
theorem L_day {s : LwS} {bq wq i k ev sk w S F D q : Nat} (hb : bq ≠ wq) (hi : i + 4 ≤ 25) (k4 : k ≤ 4) (h2 : k = 2 → 2 ≤ ev) (h9 : ev ≤ 9) (s1 : sk ≤ 1) (hS : S ≤ 999) (hF : F ≤ 99) (hD : D ≤ 1500) (hw : w ≤ 12) (b0 : rT s bq i = yI (k : Int)) (b4 : rT s bq (i + 4) = yI (ev : Int)) (w0 : rT s wq 0 = yI (S : Int)) (w1 : rT s wq 1 = yI (F : Int)) (w2 : rT s wq 2 = yI (D : Int)) : ∃ s', fL_day bq (yI (i : Int)) (yI (w : Int)) (yI (sk : Int)) wq s = some s' ∧ (rT s' wq 0 = yI ((qdy k ev sk w S F D q).1 : Int) ∧ rT s' wq 1 = yI ((qdy k ev sk w S F D q).2.1 : Int) ∧ rT s' wq 2 = yI ((D + 1 : Nat) : Int)) ∧ fr wq s s' := by
  have mb := qmelt_b (kind := k) (sk := sk) hw hS
  have f0 : fr wq s (wT s wq 2 (yI ((D + 1 : Nat) : Int))) := fr_w (fr_r wq s)
  obtain ⟨s', r1, r2, r3⟩ := L_day72 (s := wT s wq 2 (yI ((D + 1 : Nat) : Int))) (bq := bq) (wq := wq) (i := i) (k := k) (ev := ev) (S := S) (D := D + 1) (F := F) (M := qmelt k sk w S) (w := w) hb hi k4 h2 h9 hS hF (by omega) (by omega) hw (by rw [rT_o hb, b0]) (by rw [rT_o hb, b4]) (by rw [rT_k (by omega), w0]) (by rw [rT_k (by omega), w1]) rT_s
  refine ⟨s', ?_, r2, fr_t f0 r3⟩
  have fb := felt_b (kind := k) hw hS
  have q1b := qm1_b (kind := k) hw hS
  have B59 : fL_day_b59 bq (yI (i : Int)) (yI (w : Int)) (yI (sk : Int)) wq (yI (qm1 k w S : Int)) (wT s wq 2 (yI ((D + 1 : Nat) : Int))) = some s' := by
    unfold fL_day_b59
    rw [qmelt_1] at r1
    by_cases z : sk = 0
    · rw [if_pos (eqp (v := 0) (b := 0) rfl (by omega))]
      rw [if_pos z] at r1
      exact r1
    · rw [if_neg (yI_nl (v := 0) (b := 0) rfl (by omega) (by omega) (by omega))]
      rw [if_neg z] at r1
      rw [show (3 : Int32) = yI ((3 : Nat) : Int) from rfl, divn (by omega) (by omega) (by omega), yI_sub, show (qm1 k w S : Int) - ((qm1 k w S / 3 : Nat) : Int) = ((qm1 k w S - qm1 k w S / 3 : Nat) : Int) by omega]
      exact r1
  have B22 : fL_day_b22 bq (yI (i : Int)) (yI (w : Int)) (yI (sk : Int)) wq (yI ((if k = 3 then w + 1 else w : Nat) : Int)) (wT s wq 2 (yI ((D + 1 : Nat) : Int))) = some s' := by
    unfold fL_day_b22
    simp only [k0]
    rw [if_pos (inb_n (by omega) (by omega)), yI_cln (by omega), rT_o hb, b0, rT_k (by omega), w0, yI_mul, show ((if k = 3 then w + 1 else w : Nat) : Int) * (S : Int) = (((if k = 3 then w + 1 else w) * S : Nat) : Int) from rfl, show (100 : Int32) = yI ((100 : Nat) : Int) from rfl, divn (by omega) (by omega) (by omega), add1]
    have eq1 : qm1 k w S = if k = 1 ∨ k = 4 then ((1 + (if k = 3 then w + 1 else w) * S / 100) + 1) / 2 else 1 + (if k = 3 then w + 1 else w) * S / 100 := rfl
    generalize (if k = 3 then w + 1 else w) * S / 100 = a at *
    have H2 : fL_day_b48 bq (yI (i : Int)) (yI (w : Int)) (yI (sk : Int)) wq (yI ((a + 1 : Nat) : Int)) (wT s wq 2 (yI ((D + 1 : Nat) : Int))) = fL_day_b59 bq (yI (i : Int)) (yI (w : Int)) (yI (sk : Int)) wq (yI (((1 + a + 1) / 2 : Nat) : Int)) (wT s wq 2 (yI ((D + 1 : Nat) : Int))) := by
      unfold fL_day_b48
      rw [show (2 : Int32) = yI ((2 : Nat) : Int) from rfl, remn (by omega) (by omega) (by omega), divn (by omega) (by omega) (by omega), addn, show (a + 1) / 2 + (a + 1) % 2 = (1 + a + 1) / 2 by omega]
    by_cases z : k = 1
    · rw [if_pos (eqp (v := 1) (b := 1) rfl (by omega)), H2]
      rw [eq1, if_pos (Or.inl z)] at B59
      exact B59
    · rw [if_neg (yI_nl (v := 1) (b := 1) rfl (by omega) (by omega) (by omega)), if_pos (inb_n (by omega) (by omega))]
      by_cases y : k = 4
      · rw [if_pos (eqp (v := 4) (b := 4) rfl (by omega)), H2]
        rw [eq1, if_pos (Or.inr y)] at B59
        exact B59
      · rw [if_neg (yI_nl (v := 4) (b := 4) rfl (by omega) (by omega) (by omega))]
        rw [eq1, if_neg (by omega), show 1 + a = a + 1 by omega] at B59
        exact B59
  unfold fL_day fL_day_b0
  simp only [k2]
  rw [if_pos (inb_n (by omega) (by omega)), yI_cln (by omega), w2, add1, rT_o hb, b0]
  by_cases z : k = 3
  · rw [if_pos (eqp (v := 3) (b := 3) rfl (by omega)), add1]
    rw [if_pos z] at B22
    exact B22
  · rw [if_neg (yI_nl (v := 3) (b := 3) rfl (by omega) (by omega) (by omega))]
    rw [if_neg z] at B22
    exact B22
