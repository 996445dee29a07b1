/-! ===== a season, in plain numbers ===== -/
def mx (f : Nat → Int) : Nat → Int
  | 0 => f 0
  | t + 1 => max (mx f t) (f (t + 1))
theorem mx_le {f : Nat → Int} : ∀ (t j : Nat), j ≤ t → f j ≤ mx f t
  | 0, j, h => by
    have : j = 0 := by omega
    subst this
    exact Int.le_refl _
  | t + 1, j, h => by
    show f j ≤ max (mx f t) (f (t + 1))
    by_cases q : j = t + 1
    · rw [q]; omega
    · have := mx_le (f := f) t j (by omega)
      omega
theorem mx_at {f : Nat → Int} : ∀ t : Nat, ∃ j, j ≤ t ∧ f j = mx f t
  | 0 => ⟨0, Nat.le_refl _, rfl⟩
  | t + 1 => by
    obtain ⟨j, h1, h2⟩ := mx_at (f := f) t
    show ∃ j, j ≤ t + 1 ∧ f j = max (mx f t) (f (t + 1))
    by_cases q : mx f t ≤ f (t + 1)
    · exact ⟨t + 1, Nat.le_refl _, by omega⟩
    · exact ⟨j, by omega, by omega⟩
/-- the first that reaches the most, from one on -/
def fws (f : Nat → Int) (t : Nat) : Nat → Nat → Nat
  | 0, own => own
  | k + 1, own => if f own = mx f t then own else fws f t k (own + 1)
def few (f : Nat → Int) (t : Nat) : Nat := fws f t t 0
theorem fws_b (f : Nat → Int) (t : Nat) : ∀ k own, fws f t k own ≤ own + k
  | 0, own => Nat.le_refl _
  | k + 1, own => by
    show (if f own = mx f t then own else fws f t k (own + 1)) ≤ own + (k + 1)
    by_cases q : f own = mx f t
    · rw [if_pos q]; omega
    · rw [if_neg q]
      have := fws_b f t k (own + 1)
      omega
theorem few_b (f : Nat → Int) (t : Nat) : few f t ≤ t := by
  have := fws_b f t t 0
  unfold few; omega
def sG (m : Mm) (b t : Nat) : Int := if t = 0 then 0 else if qcn m (qsq m b) = 0 then -100000000 else max (qg m b (2 * t)) (qg m b (2 * t + 1))
/-- the most by the last j of B bergs -/
def sM (m : Mm) (B : Nat) : Nat → Nat → Int
  | 0, _ => 0
  | j + 1, t => mx (fun own => sG m (B - (j + 1)) own + sM m B j (t - own)) t
abbrev sf (m : Mm) (B b t : Nat) (own : Nat) : Int := sG m b own + sM m B (B - (b + 1)) (t - own)
theorem sM_b {m : Mm} {B b t : Nat} (h : b < B) : sM m B (B - b) t = mx (sf m B b t) t := by
  obtain ⟨j, hj⟩ : ∃ j, B - b = j + 1 := ⟨B - b - 1, by omega⟩
  rw [hj]
  show mx (fun own => sG m (B - (j + 1)) own + sM m B j (t - own)) t = _
  have e1 : B - (j + 1) = b := by omega
  have e2 : B - (b + 1) = j := by omega
  unfold sf
  rw [e1, e2]
/-- the tugs left over for berg b -/
def lft (m : Mm) (B tugs : Nat) : Nat → Nat
  | 0 => tugs
  | b + 1 => lft m B tugs b - few (sf m B b (lft m B tugs b)) (lft m B tugs b)
theorem lft_b (m : Mm) (B tugs : Nat) : ∀ b, lft m B tugs b ≤ tugs
  | 0 => Nat.le_refl _
  | b + 1 => by
    have := lft_b m B tugs b
    show lft m B tugs b - _ ≤ tugs
    omega
/-- bounds of what a berg gains, for all bergs -/
def GB (m : Mm) (B : Nat) : Prop := ∀ b, b < B → qcn m (qsq m b) ≠ 0 → ∀ e, 2 ≤ e → e < 24 → -100000 < qg m b e ∧ qg m b e ≤ 9000
theorem sG_b {m : Mm} {B b t : Nat} (g : GB m B) (h : b < B) (ht : t ≤ 11) : -100000000 ≤ sG m b t ∧ sG m b t ≤ 9000 := by
  unfold sG
  by_cases q : t = 0
  · rw [if_pos q]; omega
  · rw [if_neg q]
    by_cases z : qcn m (qsq m b) = 0
    · rw [if_pos z]; omega
    · rw [if_neg z]
      have a1 := g b h z (2 * t) (by omega) (by omega)
      have a2 := g b h z (2 * t + 1) (by omega) (by omega)
      omega
theorem sM_r {m : Mm} {B : Nat} (g : GB m B) : ∀ (j t : Nat), j ≤ B → t ≤ 11 → 0 ≤ sM m B j t ∧ sM m B j t ≤ 9000 * (j : Int)
  | 0, t, _, _ => by
    show (0 : Int) ≤ 0 ∧ (0 : Int) ≤ 9000 * ((0 : Nat) : Int)
    omega
  | j + 1, t, hj, ht => by
    show 0 ≤ mx (fun own => sG m (B - (j + 1)) own + sM m B j (t - own)) t ∧ mx (fun own => sG m (B - (j + 1)) own + sM m B j (t - own)) t ≤ 9000 * ((j + 1 : Nat) : Int)
    have h0 := mx_le (f := fun own => sG m (B - (j + 1)) own + sM m B j (t - own)) t 0 (Nat.zero_le _)
    obtain ⟨i, i1, i2⟩ := mx_at (f := fun own => sG m (B - (j + 1)) own + sM m B j (t - own)) t
    have r0 := sM_r g j (t - 0) (by omega) (by omega)
    have ri := sM_r g j (t - i) (by omega) (by omega)
    have gi := sG_b (b := B - (j + 1)) (t := i) g (by omega) (by omega)
    have g0 : sG m (B - (j + 1)) 0 = 0 := by unfold sG; rw [if_pos rfl]
    rw [g0] at h0
    generalize mx (fun own => sG m (B - (j + 1)) own + sM m B j (t - own)) t = X at *
    omega
theorem sM_c {m : Mm} {B b t : Nat} (g : GB m B) (h5 : B ≤ 5) (ht : t ≤ 11) : 0 ≤ sM m B (B - b) t ∧ sM m B (B - b) t ≤ 45000 := by
  have := sM_r g (B - b) t (by omega) ht
  omega
/-- a berg that has no way gets none -/
theorem sM_no {m : Mm} {B b t : Nat} (g : GB m B) (h5 : B ≤ 5) (h : b < B) (ht : t ≤ 11) (z : qcn m (qsq m b) = 0) : sM m B (B - b) t = sM m B (B - (b + 1)) t := by
  rw [sM_b h]
  have h0 := mx_le (f := sf m B b t) t 0 (Nat.zero_le _)
  obtain ⟨i, i1, i2⟩ := mx_at (f := sf m B b t) t
  have g0 : sf m B b t 0 = sM m B (B - (b + 1)) t := by
    show sG m b 0 + sM m B (B - (b + 1)) (t - 0) = _
    have : sG m b 0 = 0 := by unfold sG; rw [if_pos rfl]
    rw [this, Nat.sub_zero]; omega
  rw [g0] at h0
  by_cases q : i = 0
  · rw [q, g0] at i2
    exact i2.symm
  · have e : sf m B b t i = -100000000 + sM m B (B - (b + 1)) (t - i) := by
      show sG m b i + _ = _
      have : sG m b i = -100000000 := by unfold sG; rw [if_neg q, if_pos z]
      rw [this]
    have r1 := sM_c (b := b + 1) (t := t - i) g h5 (by omega)
    have r2 := sM_c (b := b + 1) (t := t) g h5 ht
    omega
