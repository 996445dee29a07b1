/-! ===== letOff: what both sides reckon, and the class ===== -/
def wv (q o : Nat) : Nat → Nat → Nat
  | 0, v => v
  | t + 1, v => max (10 * wv q o t (v - v / 5 - q)) (o * wv q o t ((v - q) - (v - q) / 3) + (10 - o) * wv q o t (v - q))
def ofN (q o t v : Nat) : Nat := 10 * wv q o t (v - v / 5 - q)
def heN (q o t v : Nat) : Nat := o * wv q o t ((v - q) - (v - q) / 3) + (10 - o) * wv q o t (v - q)
theorem wv_s (q o t v : Nat) : wv q o (t + 1) v = max (ofN q o t v) (heN q o t v) := rfl
theorem wv_b {q o : Nat} (ho : o ≤ 9) : ∀ (t v : Nat), v ≤ 999 → wv q o t v ≤ 999 * 10 ^ t
  | 0, v, h => by
    rw [Nat.pow_zero, Nat.mul_one]; exact h
  | t + 1, v, h => by
    have h1 := wv_b (q := q) ho t (v - v / 5 - q) (by omega)
    have h2 := wv_b (q := q) ho t ((v - q) - (v - q) / 3) (by omega)
    have h3 := wv_b (q := q) ho t (v - q) (by omega)
    have e1 : o * wv q o t ((v - q) - (v - q) / 3) ≤ o * (999 * 10 ^ t) := Nat.mul_le_mul_left _ h2
    have e2 : (10 - o) * wv q o t (v - q) ≤ (10 - o) * (999 * 10 ^ t) := Nat.mul_le_mul_left _ h3
    have e3 : o * (999 * 10 ^ t) + (10 - o) * (999 * 10 ^ t) = 10 * (999 * 10 ^ t) := by
      rw [← Nat.add_mul]; congr 1; omega
    have e4 : 999 * 10 ^ (t + 1) = 10 * (999 * 10 ^ t) := by rw [Nat.pow_succ]; omega
    rw [wv_s, e4]
    unfold ofN heN
    omega
theorem p10 {t : Nat} (h : t ≤ 9) : 10 ^ t ≤ 1000000000 := by
  have : 10 ^ t ≤ 10 ^ 9 := Nat.pow_le_pow_right (by decide) h
  exact this
theorem wv_l {q o t v : Nat} (ho : o ≤ 9) (h : v ≤ 999) (ht : t ≤ 9) : wv q o t v < 2 ^ 50 := by
  have h1 := wv_b (q := q) ho t v h
  have h2 := p10 ht
  have h3 : 999 * 10 ^ t ≤ 999 * 1000000000 := Nat.mul_le_mul_left _ h2
  omega
theorem oh_l {q o t v : Nat} (ho : o ≤ 9) (h : v ≤ 999) (ht : t ≤ 9) : ofN q o t v < 2 ^ 60 ∧ heN q o t v < 2 ^ 60 := by
  have h1 := wv_l (q := q) ho (v := v - v / 5 - q) (by omega) ht
  have h2 := wv_l (q := q) ho (v := (v - q) - (v - q) / 3) (by omega) ht
  have h3 := wv_l (q := q) ho (v := v - q) (by omega) ht
  have e1 : o * wv q o t ((v - q) - (v - q) / 3) ≤ 9 * wv q o t ((v - q) - (v - q) / 3) := Nat.mul_le_mul_right _ ho
  have e2 : (10 - o) * wv q o t (v - q) ≤ 10 * wv q o t (v - q) := Nat.mul_le_mul_right _ (by omega)
  unfold ofN heN
  omega
theorem lg_le {a b : Nat} (ha : a < 2 ^ 63) (hb : b < 2 ^ 63) : lg_cmp (lN a) (lN b) ≤ 0 ↔ a ≤ b := by
  unfold lg_cmp
  by_cases h : b < a
  · rw [if_pos ((pk_lLT hb ha).mpr h)]
    exact ⟨fun q => absurd q (by decide), fun q => by omega⟩
  · rw [if_neg (fun q => h ((pk_lLT hb ha).mp q))]
    by_cases k : a = b
    · rw [if_pos (by rw [k])]; exact ⟨fun _ => by omega, fun _ => by decide⟩
    · rw [if_neg (fun q => k ((pk_lEQ ha hb).mp q))]; exact ⟨fun _ => by omega, fun _ => by decide⟩
theorem lmax_n {a b : Nat} (ha : a < 2 ^ 63) (hb : b < 2 ^ 63) : lmax (lN a) (lN b) = lN (max a b) := by
  unfold lmax
  by_cases h : b < a
  · rw [if_pos ((pk_lLT hb ha).mpr h), Nat.max_eq_left (by omega)]
  · rw [if_neg (fun q => h ((pk_lLT hb ha).mp q)), Nat.max_eq_right (by omega)]
theorem melt_z {x q : Nat} (hx : x < 1000) (hq : q < 1000) : imax (0 : Int32) (yI (x : Int) - yI (q : Int)) = yI ((x - q : Nat) : Int) := by
  rw [yI_sub, show (0 : Int32) = yI 0 from rfl, imax_z (by omega) (by omega) (by omega) (by omega)]; congr 1; omega
theorem div5 {v : Nat} (hv : v < 1000) : yI (v : Int) - yI (v : Int) / (5 : Int32) = yI ((v - v / 5 : Nat) : Int) := by
  rw [show (5 : Int32) = yI ((5 : Nat) : Int) from rfl, divn (by omega) (by omega) (by omega), yI_sub]; congr 1; omega
theorem div3 {v : Nat} (hv : v < 1000) : yI (v : Int) - yI (v : Int) / (3 : Int32) = yI ((v - v / 3 : Nat) : Int) := by
  rw [show (3 : Int32) = yI ((3 : Nat) : Int) from rfl, divn (by omega) (by omega) (by omega), yI_sub]; congr 1; omega
theorem ten_o {o : Nat} (ho : o ≤ 9) : ((10 : Int32) - yI (o : Int)).toInt64 = lN (10 - o) := by
  rw [show (10 : Int32) = yI 10 from rfl, yI_sub, show (10 : Int) - (o : Int) = ((10 - o : Nat) : Int) by omega, yI_lN (by omega)]
theorem f5_off {σ : Sg} {q o t v : Nat} (hv : v ≤ 999) (hq : q ≤ 99) (hg : ∀ i, i ≤ v → rJ σ 75 i = lN (wv q o t i)) : fX5_letOffNow (yI (v : Int)) (yI (q : Int)) σ = some (lN (ofN q o t v), σ) := by
  unfold fX5_letOffNow fX5_letOffNow_b0
  rw [div5 (by omega), melt_z (by omega) (by omega), if_pos (inb_n (by omega) (by omega)), yI_cln (by omega), hg _ (by omega), show (10 : Int64) = lN 10 from rfl, lN_mul]; rfl
theorem f5_held {σ : Sg} {q o t v : Nat} (hv : v ≤ 999) (hq : q ≤ 99) (ho : o ≤ 9) (hg : ∀ i, i ≤ v → rJ σ 75 i = lN (wv q o t i)) : fX5_heldNow (yI (v : Int)) (yI (q : Int)) (yI (o : Int)) σ = some (lN (heN q o t v), σ) := by
  unfold fX5_heldNow fX5_heldNow_b0
  rw [melt_z (by omega) (by omega), div3 (by omega), if_pos (inb_n (by omega) (by omega)), if_pos (inb_n (by omega) (by omega)), yI_cln (by omega), yI_cln (by omega), hg _ (by omega), hg _ (by omega), ten_o ho, yI_lN (by omega), lN_mul, lN_mul, lN_add]; rfl
theorem f5_day {σ : Sg} {q o t z : Nat} (hz : z ≤ 999) (hq : q ≤ 99) (ho : o ≤ 9) (ht : t ≤ 8) {x2 x7 : Int32} {x5 : Int64} (hg : ∀ i, i ≤ z → rJ σ 75 i = lN (wv q o t i)) : ∃ s', lp (fun s : Int32 × Sg => fX5_reckon_b72 (yI (z : Int)) x2 (yI (q : Int)) (yI (o : Int)) x5 x7 s.1 s.2) FU (yI (z : Int), σ) = some s' ∧ (∀ i, i ≤ z → rJ s' 75 i = lN (wv q o (t + 1) i)) ∧ ∀ a b, rI s' a b = rI σ a b := by
  refine lp_all (fun k s => s.1 = yI ((z : Int) - (k : Int)) ∧ (∀ i, i ≤ z → rJ s.2 75 i = lN (wv q o (if z < i + k then t + 1 else t) i)) ∧ ∀ a b, rI s.2 a b = rI σ a b) (z + 1) _ ?_ ?_ ⟨by rw [show (z : Int) - ((0 : Nat) : Int) = (z : Int) by omega], fun i hi => by rw [if_neg (by omega)]; exact hg i hi, fun _ _ => rfl⟩ (FU_b (by omega))
  · rintro k ⟨x, s⟩ hk ⟨h1, h2, h3⟩
    dsimp only at h1 h2 h3
    subst h1
    obtain ⟨v, hv⟩ : ∃ v, v + k = z := ⟨z - k, by omega⟩
    rw [show (z : Int) - (k : Int) = (v : Int) by omega]
    have hg2 : ∀ i, i ≤ v → rJ s 75 i = lN (wv q o t i) := fun i hi => by
      rw [h2 i (by omega), if_neg (by omega)]
    have lo := oh_l (q := q) (t := t) ho (v := v) (by omega) (by omega)
    refine ⟨(yI ((z : Int) - ((k + 1 : Nat) : Int)), wJ s 75 v (lN (wv q o (t + 1) v))), ?_, rfl, fun i hi => ?_, fun a b => h3 a b⟩
    · dsimp only
      unfold fX5_reckon_b72
      rw [if_neg (ltn (v := 0) (b := 0) rfl (by omega) (by omega) (by omega)), b1 (f5_off (by omega) hq hg2)]
      dsimp only
      rw [b1 (f5_held (by omega) hq ho hg2)]
      dsimp only
      rw [if_pos (inb_n (by omega) (by omega)), yI_cln (by omega), lmax_n (by omega) (by omega), show (-1 : Int32) = yI (-1) from rfl, yI_add, wv_s, show (v : Int) + -1 = (z : Int) - ((k + 1 : Nat) : Int) by omega]
    · show rJ (wJ s 75 v (lN (wv q o (t + 1) v))) 75 i = _
      rw [rJ_wJ]
      by_cases e : i = v
      · rw [if_pos ⟨rfl, e⟩, e, if_pos (by omega)]
      · rw [if_neg (fun z => e z.2), h2 i hi]
        by_cases l : z < i + k
        · rw [if_pos l, if_pos (by omega)]
        · rw [if_neg l, if_neg (by omega)]
  · rintro ⟨x, s⟩ ⟨h1, h2, h3⟩
    dsimp only at h1 h2 h3
    subst h1
    refine ⟨s, ?_, fun i hi => ?_, h3⟩
    · dsimp only
      unfold fX5_reckon_b72
      rw [if_pos (ltp (v := 0) (b := 0) rfl (by omega) (by omega) (by omega))]
    · rw [h2 i hi, if_pos (by omega)]
/-- whether the first day's best is to let off -/
def leN (q o z t : Nat) : Nat := if t = 0 then 0 else if heN q o (t - 1) z < ofN q o (t - 1) z then 1 else 0
theorem f5_reckon {σ : Sg} {q o z d : Nat} (hz : z ≤ 999) (hq : q ≤ 99) (ho : o ≤ 9) (hd : d ≤ 9) : ∃ s', fX5_reckon (yI (z : Int)) (yI (d : Int)) (yI (q : Int)) (yI (o : Int)) σ = some s' ∧ rJ s' 74 1 = lN (wv q o d z / Nat.gcd (wv q o d z) (10 ^ d)) ∧ rJ s' 74 2 = lN (10 ^ d / Nat.gcd (wv q o d z) (10 ^ d)) ∧ rI s' 74 3 = yI (leN q o z d : Int) ∧ cC s' = cC σ := by
  have H1 : ∃ t, lp (fun s : Int32 × Sg => fX5_reckon_b3 (yI (z : Int)) (yI (d : Int)) (yI (q : Int)) (yI (o : Int)) s.1 s.2) FU ((0 : Int32), σ) = some t ∧ ((∀ i, i ≤ z → rJ t 75 i = lN i) ∧ ∀ a b, rI t a b = rI σ a b) := by
    refine lp_all (fun k s => s.1 = yI (k : Int) ∧ (∀ i, i < k → rJ s.2 75 i = lN i) ∧ ∀ a b, rI s.2 a b = rI σ a b) (z + 1) _ ?_ ?_ ⟨rfl, fun i hi => absurd hi (Nat.not_lt_zero _), fun _ _ => rfl⟩ (FU_b (by omega))
    · rintro k ⟨x, s⟩ hk ⟨h1, h2, h3⟩
      dsimp only at h1 h2 h3
      subst h1
      refine ⟨(yI ((k + 1 : Nat) : Int), wJ s 75 k (lN k)), ?_, rfl, fun i hi => ?_, fun a b => h3 a b⟩
      · dsimp only
        unfold fX5_reckon_b3
        rw [if_neg (fun c => by have := (yI_lt (by omega) (by omega) (by omega) (by omega)).mp c; omega), if_pos (inb_n (by omega) (by omega)), yI_cln (by omega), add1, yI_lN (by omega)]
      · show rJ (wJ s 75 k (lN k)) 75 i = _
        rw [rJ_wJ]
        by_cases e : i = k
        · rw [if_pos ⟨rfl, e⟩, e]
        · rw [if_neg (fun z => e z.2)]; exact h2 i (by omega)
    · rintro ⟨x, s⟩ ⟨h1, h2, h3⟩
      dsimp only at h1 h2 h3
      subst h1
      refine ⟨s, ?_, fun i hi => h2 i (by omega), h3⟩
      dsimp only
      unfold fX5_reckon_b3
      rw [if_pos ((yI_lt (by omega) (by omega) (by omega) (by omega)).mpr (by omega))]
  obtain ⟨t2, k1, k2, k3⟩ := H1
  have H2 : ∃ t, lp (fun s : Int64 × Int32 × Sg => fX5_reckon_b36 (yI (z : Int)) (yI (d : Int)) (yI (q : Int)) (yI (o : Int)) s.1 s.2.1 s.2.2) FU ((1 : Int64), (0 : Int32), wI t2 74 3 0) = some t ∧ (t.1 = lN (10 ^ d) ∧ (∀ i, i ≤ z → rJ t.2 75 i = lN (wv q o d i)) ∧ rI t.2 74 3 = yI (leN q o z d : Int) ∧ ∀ a b, a ≠ 74 → rI t.2 a b = rI σ a b) := by
    refine lp_all (fun k s => s.1 = lN (10 ^ k) ∧ s.2.1 = yI (k : Int) ∧ (∀ i, i ≤ z → rJ s.2.2 75 i = lN (wv q o k i)) ∧ rI s.2.2 74 3 = yI (leN q o z k : Int) ∧ ∀ a b, a ≠ 74 → rI s.2.2 a b = rI σ a b) d _ ?_ ?_ ⟨by rw [Nat.pow_zero]; rfl, rfl, fun i hi => k2 i hi, by show rI (wI t2 74 3 0) 74 3 = _; rw [rI_s]; unfold leN; rw [if_pos rfl]; rfl, fun a b ha => by show rI (wI t2 74 3 0) a b = _; rw [rI_o ha]; exact k3 a b⟩ (FU_b (by omega))
    · rintro k ⟨x, y, s⟩ hk ⟨h1, h2, h3, h4, h5⟩
      dsimp only at h1 h2 h3 h4 h5
      subst h1 h2
      have lo := oh_l (q := q) (t := k) ho (v := z) hz (by omega)
      have H : ∀ y : Nat, y ≤ 1 → ∃ s', fX5_reckon_b66 (yI (z : Int)) (yI (d : Int)) (yI (q : Int)) (yI (o : Int)) (lN (10 ^ k)) (yI (k : Int)) (yI (y : Int)) s = some (.inl (lN (10 ^ (k + 1)), yI ((k + 1 : Nat) : Int), s')) ∧ (∀ i, i ≤ z → rJ s' 75 i = lN (wv q o (k + 1) i)) ∧ rI s' 74 3 = yI (y : Int) ∧ ∀ a b, a ≠ 74 → rI s' a b = rI σ a b := fun y hy => by
        obtain ⟨s', j1, j2, j3⟩ := f5_day (σ := wI s 74 3 (yI (y : Int))) (x2 := yI (d : Int)) (x7 := yI (k : Int)) (x5 := lN (10 ^ k)) hz hq ho (t := k) (by omega) h3
        refine ⟨s', ?_, j2, by rw [j3, rI_s], fun a b ha => by rw [j3, rI_o ha]; exact h5 a b ha⟩
        have hB : isB (yI (y : Int)) = true := by
          rcases (show y = 0 ∨ y = 1 by omega) with rfl | rfl <;> rfl
        unfold fX5_reckon_b66
        rw [if_pos hB, b1 j1, add1, show (10 : Int64) = lN 10 from rfl, lN_mul, Nat.pow_succ]
      by_cases c : heN q o k z < ofN q o k z
      · obtain ⟨s', j1, j2, j3, j4⟩ := H 1 (by omega)
        refine ⟨(lN (10 ^ (k + 1)), yI ((k + 1 : Nat) : Int), s'), ?_, rfl, rfl, j2, ?_, j4⟩
        · dsimp only
          unfold fX5_reckon_b36
          rw [if_neg (fun q => by have := (yI_le (by omega) (by omega) (by omega) (by omega)).mp q; omega), b1 (f5_off hz hq h3)]
          dsimp only
          rw [b1 (f5_held hz hq ho h3)]
          dsimp only
          rw [if_neg (fun q => by have := (lg_le (by omega) (by omega)).mp q; omega)]
          exact j1
        · show rI s' 74 3 = _
          rw [j3]; unfold leN
          rw [if_neg (by omega), Nat.add_sub_cancel, if_pos c]
      · obtain ⟨s', j1, j2, j3, j4⟩ := H 0 (by omega)
        refine ⟨(lN (10 ^ (k + 1)), yI ((k + 1 : Nat) : Int), s'), ?_, rfl, rfl, j2, ?_, j4⟩
        · dsimp only
          unfold fX5_reckon_b36
          rw [if_neg (fun q => by have := (yI_le (by omega) (by omega) (by omega) (by omega)).mp q; omega), b1 (f5_off hz hq h3)]
          dsimp only
          rw [b1 (f5_held hz hq ho h3)]
          dsimp only
          rw [if_pos ((lg_le (by omega) (by omega)).mpr (by omega))]
          exact j1
        · show rI s' 74 3 = _
          rw [j3]; unfold leN
          rw [if_neg (by omega), Nat.add_sub_cancel, if_neg c]
    · rintro ⟨x, y, s⟩ ⟨h1, h2, h3, h4, h5⟩
      dsimp only at h1 h2 h3 h4 h5
      subst h1 h2
      refine ⟨(lN (10 ^ d), s), ?_, rfl, h3, h4, h5⟩
      dsimp only
      unfold fX5_reckon_b36
      rw [if_pos ((yI_le (by omega) (by omega) (by omega) (by omega)).mpr (Int.le_refl _))]
  obtain ⟨⟨x, s⟩, m1, m2, m3, m4, m5⟩ := H2
  dsimp only at m2 m3 m4 m5
  subst m2
  have w1 := wv_l (q := q) ho hz hd
  have w2 := p10 hd
  have w3 : 0 < 10 ^ d := Nat.pow_pos (by decide)
  have gp : 0 < Nat.gcd (wv q o d z) (10 ^ d) := Nat.gcd_pos_of_pos_right _ w3
  have gl : Nat.gcd (wv q o d z) (10 ^ d) ≤ 10 ^ d := Nat.gcd_le_right _ w3
  have gc := f9_common (σ := s) (a := wv q o d z) (b := 10 ^ d) (by omega) (by omega)
  refine ⟨wJ (wJ s 74 1 (lN (wv q o d z / Nat.gcd (wv q o d z) (10 ^ d)))) 74 2 (lN (10 ^ d / Nat.gcd (wv q o d z) (10 ^ d))), ?_, ?_, ?_, ?_, ?_⟩
  · unfold fX5_reckon fX5_reckon_b0
    rw [b1 k1, b1 m1]
    dsimp only
    rw [if_pos (inb_n (by omega) (by omega)), yI_cln (by omega), m3 z (Nat.le_refl _), b1 gc]
    dsimp only
    generalize Nat.gcd (wv q o d z) (10 ^ d) = g at *
    rw [if_neg (fun q => by have := (lg_z (by omega)).mp q; omega), if_pos (inb_n (by omega) (by omega)), if_neg (lN_ne (by omega) (by omega)), m3 z (Nat.le_refl _)]
    unfold fX5_reckon_b157
    rw [if_neg (fun q => by have := (lg_z (by omega)).mp q; omega), if_neg (lN_ne (by omega) (by omega)), pk_lDiv (by omega) gp (by omega), pk_lDiv (by omega) gp (by omega)]
  · rw [rJ_wJ, if_neg (by omega), rJ_wJ, if_pos ⟨rfl, rfl⟩]
  · rw [rJ_wJ, if_pos ⟨rfl, rfl⟩]
  · exact m4
  · funext a b
    show core nsC _ a b = core nsC _ a b
    by_cases e : a = 74
    · rw [e]
      have hn : ¬ nsC 74 b = true := fun q => Bool.noConfusion (q : false = true)
      unfold core
      rw [if_neg hn, if_neg hn]
    · exact core_e (m5 a b e)
