/-! ===== letOff: what both sides reckon, and the class ===== -/
def wv (q o : Nat) : Nat → Nat → Nat
  | 0, v => v
  | t + 1, v => max (10 * wv q o t (v - v / 5 - q)) (o * wv q o t ((v - q) - (v - q) / 3) + (10 - o) * wv q o t (v - q))
def ofN (q o t v : Nat) : Nat := 10 * wv q o t (v - v / 5 - q)
def heN (q o t v : Nat) : Nat := o * wv q o t ((v - q) - (v - q) / 3) + (10 - o) * wv q o t (v - q)
theorem wv_s (q o t v : Nat) : wv q o (t + 1) v = max (ofN q o t v) (heN q o t v) := rfl
theorem wv_b {q o : Nat} (ho : o ≤ 9) : ∀ (t v : Nat), v ≤ 999 → wv q o t v ≤ 999 * 10 ^ t
  | 0, v, h => by
    rw [Nat.pow_zero, Nat.mul_one]; exact h
  | t + 1, v, h => by
    have h1 := wv_b (q := q) ho t (v - v / 5 - q) (by omega)
    have h2 := wv_b (q := q) ho t ((v - q) - (v - q) / 3) (by omega)
    have h3 := wv_b (q := q) ho t (v - q) (by omega)
    have e1 : o * wv q o t ((v - q) - (v - q) / 3) ≤ o * (999 * 10 ^ t) := Nat.mul_le_mul_left _ h2
    have e2 : (10 - o) * wv q o t (v - q) ≤ (10 - o) * (999 * 10 ^ t) := Nat.mul_le_mul_left _ h3
    have e3 : o * (999 * 10 ^ t) + (10 - o) * (999 * 10 ^ t) = 10 * (999 * 10 ^ t) := by
      rw [← Nat.add_mul]; congr 1; omega
    have e4 : 999 * 10 ^ (t + 1) = 10 * (999 * 10 ^ t) := by rw [Nat.pow_succ]; omega
    rw [wv_s, e4]
    unfold ofN heN
    omega
theorem p10 {t : Nat} (h : t ≤ 9) : 10 ^ t ≤ 1000000000 := by
  have : 10 ^ t ≤ 10 ^ 9 := Nat.pow_le_pow_right (by decide) h
  exact this
theorem wv_l {q o t v : Nat} (ho : o ≤ 9) (h : v ≤ 999) (ht : t ≤ 9) : wv q o t v < 2 ^ 50 := by
  have h1 := wv_b (q := q) ho t v h
  have h2 := p10 ht
  have h3 : 999 * 10 ^ t ≤ 999 * 1000000000 := Nat.mul_le_mul_left _ h2
  omega
theorem oh_l {q o t v : Nat} (ho : o ≤ 9) (h : v ≤ 999) (ht : t ≤ 9) : ofN q o t v < 2 ^ 60 ∧ heN q o t v < 2 ^ 60 := by
  have h1 := wv_l (q := q) ho (v := v - v / 5 - q) (by omega) ht
  have h2 := wv_l (q := q) ho (v := (v - q) - (v - q) / 3) (by omega) ht
  have h3 := wv_l (q := q) ho (v := v - q) (by omega) ht
  have e1 : o * wv q o t ((v - q) - (v - q) / 3) ≤ 9 * wv q o t ((v - q) - (v - q) / 3) := Nat.mul_le_mul_right _ ho
  have e2 : (10 - o) * wv q o t (v - q) ≤ 10 * wv q o t (v - q) := Nat.mul_le_mul_right _ (by omega)
  unfold ofN heN
  omega
theorem lg_le {a b : Nat} (ha : a < 2 ^ 63) (hb : b < 2 ^ 63) : lg_cmp (lN a) (lN b) ≤ 0 ↔ a ≤ b := by
  unfold lg_cmp
  by_cases h : b < a
  · rw [if_pos ((pk_lLT hb ha).mpr h)]
    exact ⟨fun q => absurd q (by decide), fun q => by omega⟩
  · rw [if_neg (fun q => h ((pk_lLT hb ha).mp q))]
    by_cases k : a = b
    · rw [if_pos (by rw [k])]; exact ⟨fun _ => by omega, fun _ => by decide⟩
    · rw [if_neg (fun q => k ((pk_lEQ ha hb).mp q))]; exact ⟨fun _ => by omega, fun _ => by decide⟩
theorem lmax_n {a b : Nat} (ha : a < 2 ^ 63) (hb : b < 2 ^ 63) : lmax (lN a) (lN b) = lN (max a b) := by
  unfold lmax
  by_cases h : b < a
  · rw [if_pos ((pk_lLT hb ha).mpr h), Nat.max_eq_left (by omega)]
  · rw [if_neg (fun q => h ((pk_lLT hb ha).mp q)), Nat.max_eq_right (by omega)]
theorem melt_z {x q : Nat} (hx : x < 1000) (hq : q < 1000) : imax (0 : Int32) (yI (x : Int) - yI (q : Int)) = yI ((x - q : Nat) : Int) := by
  rw [yI_sub, show (0 : Int32) = yI 0 from rfl, imax_z (by omega) (by omega) (by omega) (by omega)]; congr 1; omega
theorem div5 {v : Nat} (hv : v < 1000) : yI (v : Int) - yI (v : Int) / (5 : Int32) = yI ((v - v / 5 : Nat) : Int) := by
  rw [show (5 : Int32) = yI ((5 : Nat) : Int) from rfl, divn (by omega) (by omega) (by omega), yI_sub]; congr 1; omega
theorem div3 {v : Nat} (hv : v < 1000) : yI (v : Int) - yI (v : Int) / (3 : Int32) = yI ((v - v / 3 : Nat) : Int) := by
  rw [show (3 : Int32) = yI ((3 : Nat) : Int) from rfl, divn (by omega) (by omega) (by omega), yI_sub]; congr 1; omega
theorem ten_o {o : Nat} (ho : o ≤ 9) : ((10 : Int32) - yI (o : Int)).toInt64 = lN (10 - o) := by
  rw [show (10 : Int32) = yI 10 from rfl, yI_sub, show (10 : Int) - (o : Int) = ((10 - o : Nat) : Int) by omega, yI_lN (by omega)]
/-- whether the first day's best is to let off -/
def leN (q o z t : Nat) : Nat := if t = 0 then 0 else if heN q o (t - 1) z < ofN q o (t - 1) z then 1 else 0
