/-! ===== all ways to deal tugs out to three, against the season reckoned berg by berg ===== -/
theorem fws_p (f : Nat → Int) (t : Nat) : ∀ (k own : Nat), own + k = t → (∃ j, own ≤ j ∧ j ≤ t ∧ f j = mx f t) → f (fws f t k own) = mx f t ∧ ∀ j, own ≤ j → j < fws f t k own → f j ≠ mx f t
  | 0, own, h, ⟨j, h1, h2, h3⟩ => by
    have e : j = own := by omega
    subst e
    exact ⟨h3, fun i a b => by have b' : i < j := b; omega⟩
  | k + 1, own, h, ⟨j, h1, h2, h3⟩ => by
    show f (if f own = mx f t then own else fws f t k (own + 1)) = mx f t ∧ ∀ j, own ≤ j → j < (if f own = mx f t then own else fws f t k (own + 1)) → f j ≠ mx f t
    by_cases q : f own = mx f t
    · rw [if_pos q]; exact ⟨q, fun i a b => by omega⟩
    · rw [if_neg q]
      have hj : own + 1 ≤ j := by
        by_cases e : j = own
        · rw [e] at h3; exact absurd h3 q
        · omega
      obtain ⟨r1, r2⟩ := fws_p f t k (own + 1) (by omega) ⟨j, hj, h2, h3⟩
      refine ⟨r1, fun i a b => ?_⟩
      by_cases e : i = own
      · rw [e]; exact q
      · exact r2 i (by omega) b
theorem few_p (f : Nat → Int) (t : Nat) : f (few f t) = mx f t ∧ ∀ j, j < few f t → f j ≠ mx f t := by
  obtain ⟨j, h1, h2⟩ := mx_at (f := f) t
  obtain ⟨r1, r2⟩ := fws_p f t t 0 (by omega) ⟨j, by omega, h1, h2⟩
  exact ⟨r1, fun i b => r2 i (by omega) b⟩
/-- a berg that may have tugs -/
def okb (m : Mm) (B b : Nat) : Prop := b < B ∧ qcn m (qsq m b) ≠ 0
/-- the share that is taken for berg b out of t -/
def gb (m : Mm) (B b t : Nat) : Nat := if b < B then few (sf m B b t) t else 0
theorem sG_0 (m : Mm) (b : Nat) : sG m b 0 = 0 := by unfold sG; rw [if_pos rfl]
theorem sM_z (m : Mm) {B b : Nat} (h : B ≤ b) (t : Nat) : sM m B (B - b) t = 0 := by
  rw [show B - b = 0 by omega]; rfl
theorem gb_1 {m : Mm} {B b t : Nat} (g : GB m B) (B5 : B ≤ 5) (ht : t ≤ 11) : gb m B b t ≤ t ∧ sG m b (gb m B b t) + sM m B (B - (b + 1)) (t - gb m B b t) = sM m B (B - b) t ∧ (gb m B b t = 0 ∨ okb m B b) := by
  unfold gb
  by_cases h : b < B
  · rw [if_pos h]
    have fb := few_b (sf m B b t) t
    obtain ⟨p1, p2⟩ := few_p (sf m B b t) t
    refine ⟨fb, by rw [sM_b h]; exact p1, ?_⟩
    by_cases z : qcn m (qsq m b) = 0
    · refine Or.inl ?_
      by_cases q : few (sf m B b t) t = 0
      · exact q
      · exfalso
        have e : sf m B b t (few (sf m B b t) t) = -100000000 + sM m B (B - (b + 1)) (t - few (sf m B b t) t) := by
          show sG m b _ + _ = _
          have : sG m b (few (sf m B b t) t) = -100000000 := by
            generalize few (sf m B b t) t = y at *
            unfold sG; rw [if_neg q, if_pos z]
          rw [this]
        have r1 := sM_c (b := b + 1) (t := t - few (sf m B b t) t) g B5 (by omega)
        have r2 := sM_c (b := b) (t := t) g B5 ht
        rw [sM_b h] at r2
        omega
    · exact Or.inr ⟨h, z⟩
  · rw [if_neg h, sG_0, sM_z m (by omega), sM_z m (by omega)]
    exact ⟨Nat.zero_le _, rfl, Or.inl rfl⟩
theorem gb_2 {m : Mm} {B b t a : Nat} (ha : a ≤ t) (ok : a = 0 ∨ okb m B b) : sG m b a + sM m B (B - (b + 1)) (t - a) ≤ sM m B (B - b) t := by
  by_cases h : b < B
  · rw [sM_b h]
    exact mx_le (f := sf m B b t) t a ha
  · rcases ok with q | q
    · rw [q, sG_0, sM_z m (by omega), sM_z m (by omega)]; decide
    · exact absurd q.1 h
theorem gb_3 {m : Mm} {B b t a : Nat} (ha : a ≤ t) (ok : a = 0 ∨ okb m B b) (e : sG m b a + sM m B (B - (b + 1)) (t - a) = sM m B (B - b) t) : gb m B b t ≤ a := by
  unfold gb
  by_cases h : b < B
  · rw [if_pos h]
    rw [sM_b h] at e
    by_cases q : few (sf m B b t) t ≤ a
    · exact q
    · exact absurd e ((few_p (sf m B b t) t).2 a (by omega))
  · rw [if_neg h]; exact Nat.zero_le _
/-! three shares as one number -/
def s0 (c : Nat) : Nat := c / 144
def s1 (c : Nat) : Nat := c / 12 % 12
def s2 (c : Nat) : Nat := c % 12
/-- the deal c is one of T tugs -/
def may (m : Mm) (B T c : Nat) : Prop := s0 c + s1 c + s2 c ≤ T ∧ (s0 c = 0 ∨ okb m B 0) ∧ (s1 c = 0 ∨ okb m B 1) ∧ (s2 c = 0 ∨ okb m B 2)
def pays (m : Mm) (c : Nat) : Int := sG m 0 (s0 c) + sG m 1 (s1 c) + sG m 2 (s2 c)
def g0 (m : Mm) (B T : Nat) : Nat := gb m B 0 T
def g1 (m : Mm) (B T : Nat) : Nat := gb m B 1 (T - g0 m B T)
def g2 (m : Mm) (B T : Nat) : Nat := gb m B 2 (T - g0 m B T - g1 m B T)
def cB (m : Mm) (B T : Nat) : Nat := 144 * g0 m B T + 12 * g1 m B T + g2 m B T
theorem g_le {m : Mm} {B T : Nat} (g : GB m B) (B3 : B ≤ 3) (T11 : T ≤ 11) : g0 m B T + g1 m B T + g2 m B T ≤ T := by
  have a := (gb_1 (b := 0) (t := T) g (by omega) T11).1
  have a' : g0 m B T ≤ T := a
  have b := (gb_1 (b := 1) (t := T - g0 m B T) g (by omega) (by omega)).1
  have b' : g1 m B T ≤ T - g0 m B T := b
  have c := (gb_1 (b := 2) (t := T - g0 m B T - g1 m B T) g (by omega) (by omega)).1
  have c' : g2 m B T ≤ T - g0 m B T - g1 m B T := c
  omega
theorem cB_s {m : Mm} {B T : Nat} (g : GB m B) (B3 : B ≤ 3) (T11 : T ≤ 11) : s0 (cB m B T) = g0 m B T ∧ s1 (cB m B T) = g1 m B T ∧ s2 (cB m B T) = g2 m B T := by
  have h := g_le g B3 T11
  unfold cB s0 s1 s2
  generalize g0 m B T = x at *
  generalize g1 m B T = y at *
  generalize g2 m B T = z at *
  omega
theorem deal_in {m : Mm} {B T : Nat} (g : GB m B) (B3 : B ≤ 3) (T11 : T ≤ 11) : may m B T (cB m B T) ∧ pays m (cB m B T) = sM m B B T := by
  obtain ⟨e0, e1, e2⟩ := cB_s g B3 T11
  have hle := g_le g B3 T11
  obtain ⟨a1, a2, a3⟩ := gb_1 (b := 0) (t := T) g (by omega) T11
  obtain ⟨b1, b2, b3⟩ := gb_1 (b := 1) (t := T - g0 m B T) g (by omega) (by omega)
  obtain ⟨c1, c2, c3⟩ := gb_1 (b := 2) (t := T - g0 m B T - g1 m B T) g (by omega) (by omega)
  unfold may pays
  rw [e0, e1, e2]
  refine ⟨⟨hle, a3, b3, c3⟩, ?_⟩
  have z3 := sM_z m (B := B) (b := 2 + 1) B3 (T - g0 m B T - g1 m B T - gb m B 2 (T - g0 m B T - g1 m B T))
  rw [z3] at c2
  rw [Nat.sub_zero] at a2
  have a2' : sG m 0 (g0 m B T) + sM m B (B - 1) (T - g0 m B T) = sM m B B T := a2
  have b2' : sG m 1 (g1 m B T) + sM m B (B - 2) (T - g0 m B T - g1 m B T) = sM m B (B - 1) (T - g0 m B T) := b2
  have c2' : sG m 2 (g2 m B T) + 0 = sM m B (B - 2) (T - g0 m B T - g1 m B T) := c2
  omega
theorem deal_le {m : Mm} {B T c : Nat} (B3 : B ≤ 3) (h : may m B T c) : pays m c ≤ sM m B B T ∧ (pays m c = sM m B B T → g0 m B T ≤ s0 c ∧ (g0 m B T = s0 c → g1 m B T ≤ s1 c ∧ (g1 m B T = s1 c → g2 m B T ≤ s2 c))) := by
  obtain ⟨hs, h0, h1, h2⟩ := h
  unfold pays
  have a := gb_2 (b := 0) (t := T) (a := s0 c) (by omega) h0
  have b := gb_2 (b := 1) (t := T - s0 c) (a := s1 c) (by omega) h1
  have d := gb_2 (b := 2) (t := T - s0 c - s1 c) (a := s2 c) (by omega) h2
  have z3 := sM_z m (B := B) (b := 2 + 1) B3 (T - s0 c - s1 c - s2 c)
  rw [z3] at d
  rw [Nat.sub_zero] at a
  refine ⟨?_, fun e => ?_⟩
  · have e1 : B - (0 + 1) = B - 1 := rfl
    have e2 : B - (1 + 1) = B - 2 := rfl
    rw [e1] at a
    rw [e2] at b
    omega
  · have e1 : B - (0 + 1) = B - 1 := rfl
    have e2 : B - (1 + 1) = B - 2 := rfl
    rw [e1] at a
    rw [e2] at b
    have x0 := gb_3 (b := 0) (t := T) (a := s0 c) (by omega) h0 (by rw [Nat.sub_zero, e1]; omega)
    refine ⟨x0, fun q0 => ?_⟩
    have x1 := gb_3 (b := 1) (t := T - s0 c) (a := s1 c) (by omega) h1 (by rw [e2]; omega)
    rw [← q0] at x1
    refine ⟨x1, fun q1 => ?_⟩
    have x2 := gb_3 (b := 2) (t := T - s0 c - s1 c) (a := s2 c) (by omega) h2 (by rw [z3]; omega)
    rw [← q0, ← q1] at x2
    exact x2
theorem deal_first {m : Mm} {B T c : Nat} (g : GB m B) (B3 : B ≤ 3) (T11 : T ≤ 11) (hc : c < 1728) (h : may m B T c) (e : pays m c = sM m B B T) : cB m B T ≤ c := by
  obtain ⟨x0, x1⟩ := (deal_le B3 h).2 e
  have hle := g_le g B3 T11
  have e0 : c = 144 * s0 c + 12 * s1 c + s2 c := by unfold s0 s1 s2; omega
  have b1 : s1 c < 12 := Nat.mod_lt _ (by decide)
  have b2 : s2 c < 12 := Nat.mod_lt _ (by decide)
  unfold cB
  by_cases q0 : g0 m B T = s0 c
  · obtain ⟨y1, y2⟩ := x1 q0
    by_cases q1 : g1 m B T = s1 c
    · have := y2 q1
      omega
    · omega
  · omega
/-- what a walk over the deals below c has found: the most, and the first deal that gives it -/
def scD (m : Mm) (B T c : Nat) (most : Int) (best : Nat) : Prop := best < c ∧ may m B T best ∧ pays m best = most ∧ (∀ d, d < c → may m B T d → pays m d ≤ most) ∧ ∀ d, d < best → may m B T d → pays m d < most
theorem may_0 (m : Mm) (B T : Nat) : may m B T 0 ∧ pays m 0 = 0 := by
  unfold may pays
  have e0 : s0 0 = 0 := rfl
  have e1 : s1 0 = 0 := rfl
  have e2 : s2 0 = 0 := rfl
  rw [e0, e1, e2, sG_0, sG_0, sG_0]
  exact ⟨⟨Nat.zero_le _, Or.inl rfl, Or.inl rfl, Or.inl rfl⟩, rfl⟩
theorem scD_0 (m : Mm) (B T : Nat) : scD m B T 1 0 0 := by
  obtain ⟨h1, h2⟩ := may_0 m B T
  refine ⟨by omega, h1, h2, fun d hd _ => ?_, fun d hd => absurd hd (Nat.not_lt_zero d)⟩
  have : d = 0 := by omega
  rw [this, h2]; exact Int.le_refl _
theorem scD_no {m : Mm} {B T c best : Nat} {most : Int} (h : scD m B T c most best) (n : may m B T c → pays m c ≤ most) : scD m B T (c + 1) most best := by
  obtain ⟨h1, h2, h3, h4, h5⟩ := h
  refine ⟨by omega, h2, h3, fun d hd hm => ?_, h5⟩
  by_cases e : d = c
  · rw [e] at hm ⊢; exact n hm
  · exact h4 d (by omega) hm
theorem scD_yes {m : Mm} {B T c best : Nat} {most : Int} (h : scD m B T c most best) (hm : may m B T c) (n : most < pays m c) : scD m B T (c + 1) (pays m c) c := by
  obtain ⟨h1, h2, h3, h4, h5⟩ := h
  refine ⟨by omega, hm, rfl, fun d hd hd2 => ?_, fun d hd hd2 => ?_⟩
  · by_cases e : d = c
    · rw [e]; exact Int.le_refl _
    · have := h4 d (by omega) hd2; omega
  · have := h4 d hd hd2; omega
/-- the whole walk finds the season's most, and its deal -/
theorem scD_end {m : Mm} {B T best : Nat} {most : Int} (g : GB m B) (B3 : B ≤ 3) (T11 : T ≤ 11) (h : scD m B T 1728 most best) : most = sM m B B T ∧ best = cB m B T := by
  obtain ⟨h1, h2, h3, h4, h5⟩ := h
  obtain ⟨d1, d2⟩ := deal_in g B3 T11
  have hle := g_le g B3 T11
  have cl : cB m B T < 1728 := by unfold cB; omega
  have a1 := h4 _ cl d1
  have a2 := (deal_le B3 h2).1
  have em : most = sM m B B T := by omega
  refine ⟨em, ?_⟩
  have b1 := deal_first g B3 T11 h1 h2 (by omega)
  by_cases q : cB m B T < best
  · have := h5 _ q d1; omega
  · omega
/-- the deal is the one that is told -/
theorem gvn_g {m : Mm} {B T k : Nat} (B3 : B ≤ 3) (hk : k < B) : (gvn m B T (k + 1)) = if k = 0 then g0 m B T else if k = 1 then g1 m B T else g2 m B T := by
  have e0 : 0 < B → few (sf m B 0 T) T = g0 m B T := fun h => by unfold g0 gb; rw [if_pos h]
  rcases (show k = 0 ∨ k = 1 ∨ k = 2 by omega) with rfl | rfl | rfl
  · rw [if_pos rfl]; exact e0 hk
  · rw [if_neg (by omega), if_pos rfl]
    show few (sf m B 1 (T - few (sf m B 0 T) T)) (T - few (sf m B 0 T) T) = _
    rw [e0 (by omega)]
    unfold g1 gb
    rw [if_pos hk]
  · rw [if_neg (by omega), if_neg (by omega)]
    show few (sf m B 2 (T - few (sf m B 0 T) T - few (sf m B 1 (T - few (sf m B 0 T) T)) (T - few (sf m B 0 T) T))) (T - few (sf m B 0 T) T - few (sf m B 1 (T - few (sf m B 0 T) T)) (T - few (sf m B 0 T) T)) = _
    rw [e0 (by omega)]
    have e1 : few (sf m B 1 (T - g0 m B T)) (T - g0 m B T) = g1 m B T := by unfold g1 gb; rw [if_pos (by omega)]
    rw [e1]
    unfold g2 gb
    rw [if_pos hk]
