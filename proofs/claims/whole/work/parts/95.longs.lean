/-! ===== the model's functions that write no long leave the longs as they are ===== -/
def KJ {A : Type} (J : Nat → Nat → Int64) (g : A → Sg) (x : Option A) : Prop := ∀ a, x = some a → (g a).2.1 = J
def jg0 (a : Sg) : Sg := a
def jg1 (a : Int32 × Sg) : Sg := a.2
def jg2 (a : Int32 × Int32 × Sg) : Sg := a.2.2
def jg3 (a : Int32 × Int32 × Int32 × Sg) : Sg := a.2.2.2
theorem kj_none {A : Type} {J : Nat → Nat → Int64} {g : A → Sg} : KJ J g none := fun _ h => by cases h
theorem kj_some {A : Type} {J : Nat → Nat → Int64} {g : A → Sg} {a : A} (h : (g a).2.1 = J) : KJ J g (some a) := fun _ e => by cases e; exact h
theorem kj_ite {A : Type} {J : Nat → Nat → Int64} {g : A → Sg} {P : Prop} {i : Decidable P} {x y : Option A} (h : KJ J g x) (k : KJ J g y) : KJ J g (@ite _ P i x y) := by
  by_cases q : P
  · rw [if_pos q]; exact h
  · rw [if_neg q]; exact k
theorem kj_bind {A B : Type} {J : Nat → Nat → Int64} {g : A → Sg} {g' : B → Sg} {x : Option B} {k : B → Option A} (h : KJ J g' x) (h2 : ∀ a, (g' a).2.1 = J → KJ J g (k a)) : KJ J g (Option.bind x k) := by
  cases x with
  | none => exact kj_none
  | some b => exact h2 b (h b rfl)
theorem kj_b0 {A : Type} {J : Nat → Nat → Int64} {g : A → Sg} {x : Option Sg} {k : Sg → Option A} (h : KJ J jg0 x) (h2 : ∀ a : Sg, a.2.1 = J → KJ J g (k a)) : KJ J g (Option.bind x k) := kj_bind h h2
theorem kj_b1 {A : Type} {J : Nat → Nat → Int64} {g : A → Sg} {x : Option (Int32 × Sg)} {k : Int32 × Sg → Option A} (h : KJ J jg1 x) (h2 : ∀ a : Int32 × Sg, a.2.2.1 = J → KJ J g (k a)) : KJ J g (Option.bind x k) := kj_bind h h2
theorem kj_b2 {A : Type} {J : Nat → Nat → Int64} {g : A → Sg} {x : Option (Int32 × Int32 × Sg)} {k : Int32 × Int32 × Sg → Option A} (h : KJ J jg2 x) (h2 : ∀ a : Int32 × Int32 × Sg, a.2.2.2.1 = J → KJ J g (k a)) : KJ J g (Option.bind x k) := kj_bind h h2
theorem kj_b3 {A : Type} {J : Nat → Nat → Int64} {g : A → Sg} {x : Option (Int32 × Int32 × Int32 × Sg)} {k : Int32 × Int32 × Int32 × Sg → Option A} (h : KJ J jg3 x) (h2 : ∀ a : Int32 × Int32 × Int32 × Sg, a.2.2.2.2.1 = J → KJ J g (k a)) : KJ J g (Option.bind x k) := kj_bind h h2
theorem kj_lp {S T : Type} {J : Nat → Nat → Int64} {gs : S → Sg} {gt : T → Sg} {f : S → Option (S ⊕ T)} (h : ∀ s, (gs s).2.1 = J → KJ J (el gs gt) (f s)) : ∀ (n : Nat) (s : S), (gs s).2.1 = J → KJ J gt (lp f n s)
  | 0, _, _ => kj_none
  | n + 1, s, hs => fun a e => by
    cases hf : f s with
    | none =>
      have e2 : lp f (n + 1) s = none := by
        show (match f s with | none => none | some (.inl s') => lp f n s' | some (.inr t) => some t) = _
        rw [hf]
      rw [e2] at e; cases e
    | some o =>
      cases o with
      | inl s' =>
        rw [lp_st hf] at e
        exact kj_lp h n s' (h s hs _ hf) a e
      | inr t =>
        rw [lp_en hf] at e
        cases e
        exact h s hs _ hf

theorem kj_l10 {J : Nat → Nat → Int64} {f : Int32 × Sg → Option ((Int32 × Sg) ⊕ (Sg))} {n : Nat} {s : Int32 × Sg} (h0 : s.2.2.1 = J) (h : ∀ s : Int32 × Sg, s.2.2.1 = J → KJ J (el jg1 jg0) (f s)) : KJ J jg0 (lp f n s) := kj_lp (gs := jg1) (gt := jg0) h n s h0
theorem kj_l11 {J : Nat → Nat → Int64} {f : Int32 × Sg → Option ((Int32 × Sg) ⊕ (Int32 × Sg))} {n : Nat} {s : Int32 × Sg} (h0 : s.2.2.1 = J) (h : ∀ s : Int32 × Sg, s.2.2.1 = J → KJ J (el jg1 jg1) (f s)) : KJ J jg1 (lp f n s) := kj_lp (gs := jg1) (gt := jg1) h n s h0
theorem kj_l12 {J : Nat → Nat → Int64} {f : Int32 × Sg → Option ((Int32 × Sg) ⊕ (Int32 × Int32 × Sg))} {n : Nat} {s : Int32 × Sg} (h0 : s.2.2.1 = J) (h : ∀ s : Int32 × Sg, s.2.2.1 = J → KJ J (el jg1 jg2) (f s)) : KJ J jg2 (lp f n s) := kj_lp (gs := jg1) (gt := jg2) h n s h0
theorem kj_l13 {J : Nat → Nat → Int64} {f : Int32 × Sg → Option ((Int32 × Sg) ⊕ (Int32 × Int32 × Int32 × Sg))} {n : Nat} {s : Int32 × Sg} (h0 : s.2.2.1 = J) (h : ∀ s : Int32 × Sg, s.2.2.1 = J → KJ J (el jg1 jg3) (f s)) : KJ J jg3 (lp f n s) := kj_lp (gs := jg1) (gt := jg3) h n s h0
theorem kj_l20 {J : Nat → Nat → Int64} {f : Int32 × Int32 × Sg → Option ((Int32 × Int32 × Sg) ⊕ (Sg))} {n : Nat} {s : Int32 × Int32 × Sg} (h0 : s.2.2.2.1 = J) (h : ∀ s : Int32 × Int32 × Sg, s.2.2.2.1 = J → KJ J (el jg2 jg0) (f s)) : KJ J jg0 (lp f n s) := kj_lp (gs := jg2) (gt := jg0) h n s h0
theorem kj_l21 {J : Nat → Nat → Int64} {f : Int32 × Int32 × Sg → Option ((Int32 × Int32 × Sg) ⊕ (Int32 × Sg))} {n : Nat} {s : Int32 × Int32 × Sg} (h0 : s.2.2.2.1 = J) (h : ∀ s : Int32 × Int32 × Sg, s.2.2.2.1 = J → KJ J (el jg2 jg1) (f s)) : KJ J jg1 (lp f n s) := kj_lp (gs := jg2) (gt := jg1) h n s h0
theorem kj_l22 {J : Nat → Nat → Int64} {f : Int32 × Int32 × Sg → Option ((Int32 × Int32 × Sg) ⊕ (Int32 × Int32 × Sg))} {n : Nat} {s : Int32 × Int32 × Sg} (h0 : s.2.2.2.1 = J) (h : ∀ s : Int32 × Int32 × Sg, s.2.2.2.1 = J → KJ J (el jg2 jg2) (f s)) : KJ J jg2 (lp f n s) := kj_lp (gs := jg2) (gt := jg2) h n s h0
theorem kj_l23 {J : Nat → Nat → Int64} {f : Int32 × Int32 × Sg → Option ((Int32 × Int32 × Sg) ⊕ (Int32 × Int32 × Int32 × Sg))} {n : Nat} {s : Int32 × Int32 × Sg} (h0 : s.2.2.2.1 = J) (h : ∀ s : Int32 × Int32 × Sg, s.2.2.2.1 = J → KJ J (el jg2 jg3) (f s)) : KJ J jg3 (lp f n s) := kj_lp (gs := jg2) (gt := jg3) h n s h0
theorem kj_l30 {J : Nat → Nat → Int64} {f : Int32 × Int32 × Int32 × Sg → Option ((Int32 × Int32 × Int32 × Sg) ⊕ (Sg))} {n : Nat} {s : Int32 × Int32 × Int32 × Sg} (h0 : s.2.2.2.2.1 = J) (h : ∀ s : Int32 × Int32 × Int32 × Sg, s.2.2.2.2.1 = J → KJ J (el jg3 jg0) (f s)) : KJ J jg0 (lp f n s) := kj_lp (gs := jg3) (gt := jg0) h n s h0
theorem kj_l31 {J : Nat → Nat → Int64} {f : Int32 × Int32 × Int32 × Sg → Option ((Int32 × Int32 × Int32 × Sg) ⊕ (Int32 × Sg))} {n : Nat} {s : Int32 × Int32 × Int32 × Sg} (h0 : s.2.2.2.2.1 = J) (h : ∀ s : Int32 × Int32 × Int32 × Sg, s.2.2.2.2.1 = J → KJ J (el jg3 jg1) (f s)) : KJ J jg1 (lp f n s) := kj_lp (gs := jg3) (gt := jg1) h n s h0
theorem kj_l32 {J : Nat → Nat → Int64} {f : Int32 × Int32 × Int32 × Sg → Option ((Int32 × Int32 × Int32 × Sg) ⊕ (Int32 × Int32 × Sg))} {n : Nat} {s : Int32 × Int32 × Int32 × Sg} (h0 : s.2.2.2.2.1 = J) (h : ∀ s : Int32 × Int32 × Int32 × Sg, s.2.2.2.2.1 = J → KJ J (el jg3 jg2) (f s)) : KJ J jg2 (lp f n s) := kj_lp (gs := jg3) (gt := jg2) h n s h0
theorem kj_l33 {J : Nat → Nat → Int64} {f : Int32 × Int32 × Int32 × Sg → Option ((Int32 × Int32 × Int32 × Sg) ⊕ (Int32 × Int32 × Int32 × Sg))} {n : Nat} {s : Int32 × Int32 × Int32 × Sg} (h0 : s.2.2.2.2.1 = J) (h : ∀ s : Int32 × Int32 × Int32 × Sg, s.2.2.2.2.1 = J → KJ J (el jg3 jg3) (f s)) : KJ J jg3 (lp f n s) := kj_lp (gs := jg3) (gt := jg3) h n s h0
theorem kj_in_b0 {x0 : Int64} {x2 : Int64} {x4 : Int64} {σ : Sg} {J : Nat → Nat → Int64} (h : σ.2.1 = J) : KJ J jg1 (fX10_in_b0 x0 x2 x4 σ) := by
  unfold fX10_in_b0
  repeat' (first | assumption | with_reducible exact kj_none | with_reducible apply kj_some | with_reducible apply kj_ite | with_reducible apply kj_b0 | with_reducible apply kj_b1 | with_reducible apply kj_b2 | with_reducible apply kj_b3 | intro _ _)
theorem kj_in {a0 : Int64} {a1 : Int64} {a2 : Int64} {σ : Sg} {J : Nat → Nat → Int64} (h : σ.2.1 = J) : KJ J jg1 (fX10_in a0 a1 a2 σ) := by
  unfold fX10_in
  repeat' (first | assumption | with_reducible exact kj_none | with_reducible apply kj_some | with_reducible apply kj_in_b0 | with_reducible apply kj_ite | with_reducible apply kj_b0 | with_reducible apply kj_b1 | with_reducible apply kj_b2 | with_reducible apply kj_b3 | intro _ _)
theorem kj_lacks_b0 {σ : Sg} {J : Nat → Nat → Int64} (h : σ.2.1 = J) : KJ J jg1 (fX10_lacks_b0 σ) := by
  unfold fX10_lacks_b0
  repeat' (first | assumption | with_reducible exact kj_none | with_reducible apply kj_some | with_reducible apply kj_ite | with_reducible apply kj_b0 | with_reducible apply kj_b1 | with_reducible apply kj_b2 | with_reducible apply kj_b3 | intro _ _)
theorem kj_lacks {σ : Sg} {J : Nat → Nat → Int64} (h : σ.2.1 = J) : KJ J jg1 (fX10_lacks σ) := by
  unfold fX10_lacks
  repeat' (first | assumption | with_reducible exact kj_none | with_reducible apply kj_some | with_reducible apply kj_lacks_b0 | with_reducible apply kj_ite | with_reducible apply kj_b0 | with_reducible apply kj_b1 | with_reducible apply kj_b2 | with_reducible apply kj_b3 | intro _ _)
theorem kj_isSquare_b0 {x1 : Int32} {σ : Sg} {J : Nat → Nat → Int64} (h : σ.2.1 = J) : KJ J jg1 (fX10_isSquare_b0 x1 σ) := by
  unfold fX10_isSquare_b0
  repeat' (first | assumption | with_reducible exact kj_none | with_reducible apply kj_some | with_reducible apply kj_in | with_reducible apply kj_ite | with_reducible apply kj_b0 | with_reducible apply kj_b1 | with_reducible apply kj_b2 | with_reducible apply kj_b3 | intro _ _)
theorem kj_isSquare {a0 : Int32} {σ : Sg} {J : Nat → Nat → Int64} (h : σ.2.1 = J) : KJ J jg1 (fX10_isSquare a0 σ) := by
  unfold fX10_isSquare
  repeat' (first | assumption | with_reducible exact kj_none | with_reducible apply kj_some | with_reducible apply kj_isSquare_b0 | with_reducible apply kj_ite | with_reducible apply kj_b0 | with_reducible apply kj_b1 | with_reducible apply kj_b2 | with_reducible apply kj_b3 | intro _ _)
theorem kj_size_b0 {x0 : Int32} {σ : Sg} {J : Nat → Nat → Int64} (h : σ.2.1 = J) : KJ J jg1 (fX10_size_b0 x0 σ) := by
  unfold fX10_size_b0
  repeat' (first | assumption | with_reducible exact kj_none | with_reducible apply kj_some | with_reducible apply kj_ite | with_reducible apply kj_b0 | with_reducible apply kj_b1 | with_reducible apply kj_b2 | with_reducible apply kj_b3 | intro _ _)
theorem kj_size {a0 : Int32} {σ : Sg} {J : Nat → Nat → Int64} (h : σ.2.1 = J) : KJ J jg1 (fX10_size a0 σ) := by
  unfold fX10_size
  repeat' (first | assumption | with_reducible exact kj_none | with_reducible apply kj_some | with_reducible apply kj_size_b0 | with_reducible apply kj_ite | with_reducible apply kj_b0 | with_reducible apply kj_b1 | with_reducible apply kj_b2 | with_reducible apply kj_b3 | intro _ _)
theorem kj_farOf_b0 {x1 : Int32} {σ : Sg} {J : Nat → Nat → Int64} (h : σ.2.1 = J) : KJ J jg1 (fX10_farOf_b0 x1 σ) := by
  unfold fX10_farOf_b0
  repeat' (first | assumption | with_reducible exact kj_none | with_reducible apply kj_some | with_reducible apply kj_size | with_reducible apply kj_ite | with_reducible apply kj_b0 | with_reducible apply kj_b1 | with_reducible apply kj_b2 | with_reducible apply kj_b3 | intro _ _)
theorem kj_farOf {a0 : Int32} {σ : Sg} {J : Nat → Nat → Int64} (h : σ.2.1 = J) : KJ J jg1 (fX10_farOf a0 σ) := by
  unfold fX10_farOf
  repeat' (first | assumption | with_reducible exact kj_none | with_reducible apply kj_some | with_reducible apply kj_farOf_b0 | with_reducible apply kj_ite | with_reducible apply kj_b0 | with_reducible apply kj_b1 | with_reducible apply kj_b2 | with_reducible apply kj_b3 | intro _ _)
theorem kj_tellSquare_b0 {x1 : Int32} {x2 : Int32} {σ : Sg} {J : Nat → Nat → Int64} (h : σ.2.1 = J) : KJ J jg1 (fX10_tellSquare_b0 x1 x2 σ) := by
  unfold fX10_tellSquare_b0
  repeat' (first | assumption | with_reducible exact kj_none | with_reducible apply kj_some | with_reducible apply kj_farOf | with_reducible apply kj_ite | with_reducible apply kj_b0 | with_reducible apply kj_b1 | with_reducible apply kj_b2 | with_reducible apply kj_b3 | intro _ _)
theorem kj_tellSquare {a0 : Int32} {a1 : Int32} {σ : Sg} {J : Nat → Nat → Int64} (h : σ.2.1 = J) : KJ J jg1 (fX10_tellSquare a0 a1 σ) := by
  unfold fX10_tellSquare
  repeat' (first | assumption | with_reducible exact kj_none | with_reducible apply kj_some | with_reducible apply kj_tellSquare_b0 | with_reducible apply kj_ite | with_reducible apply kj_b0 | with_reducible apply kj_b1 | with_reducible apply kj_b2 | with_reducible apply kj_b3 | intro _ _)
theorem kj_draw_b0 {x1 : Int32} {σ : Sg} {J : Nat → Nat → Int64} (h : σ.2.1 = J) : KJ J jg1 (fX10_draw_b0 x1 σ) := by
  unfold fX10_draw_b0
  repeat' (first | assumption | with_reducible exact kj_none | with_reducible apply kj_some | with_reducible apply kj_ite | with_reducible apply kj_b0 | with_reducible apply kj_b1 | with_reducible apply kj_b2 | with_reducible apply kj_b3 | intro _ _)
theorem kj_draw {a0 : Int32} {σ : Sg} {J : Nat → Nat → Int64} (h : σ.2.1 = J) : KJ J jg1 (fX10_draw a0 σ) := by
  unfold fX10_draw
  repeat' (first | assumption | with_reducible exact kj_none | with_reducible apply kj_some | with_reducible apply kj_draw_b0 | with_reducible apply kj_ite | with_reducible apply kj_b0 | with_reducible apply kj_b1 | with_reducible apply kj_b2 | with_reducible apply kj_b3 | intro _ _)
theorem kj_day_b183 {σ : Sg} {J : Nat → Nat → Int64} (h : σ.2.1 = J) : KJ J jg0 (fX10_day_b183 σ) := by
  unfold fX10_day_b183
  repeat' (first | assumption | with_reducible exact kj_none | with_reducible apply kj_some | with_reducible apply kj_ite | with_reducible apply kj_b0 | with_reducible apply kj_b1 | with_reducible apply kj_b2 | with_reducible apply kj_b3 | intro _ _)
theorem kj_day_b144 {y0 : Int32} {σ : Sg} {J : Nat → Nat → Int64} (h : σ.2.1 = J) : KJ J jg0 (fX10_day_b144 y0 σ) := by
  unfold fX10_day_b144
  repeat' (first | assumption | with_reducible exact kj_none | with_reducible apply kj_some | with_reducible apply kj_day_b183 | with_reducible apply kj_ite | with_reducible apply kj_b0 | with_reducible apply kj_b1 | with_reducible apply kj_b2 | with_reducible apply kj_b3 | intro _ _)
theorem kj_day_b122 {x2 : Int32} {y0 : Int32} {σ : Sg} {J : Nat → Nat → Int64} (h : σ.2.1 = J) : KJ J jg0 (fX10_day_b122 x2 y0 σ) := by
  unfold fX10_day_b122
  repeat' (first | assumption | with_reducible exact kj_none | with_reducible apply kj_some | with_reducible apply kj_day_b144 | with_reducible apply kj_ite | with_reducible apply kj_b0 | with_reducible apply kj_b1 | with_reducible apply kj_b2 | with_reducible apply kj_b3 | intro _ _)
theorem kj_day_b101 {x2 : Int32} {y0 : Int32} {y1 : Int32} {σ : Sg} {J : Nat → Nat → Int64} (h : σ.2.1 = J) : KJ J jg0 (fX10_day_b101 x2 y0 y1 σ) := by
  unfold fX10_day_b101
  repeat' (first | assumption | with_reducible exact kj_none | with_reducible apply kj_some | with_reducible apply kj_day_b122 | with_reducible apply kj_ite | with_reducible apply kj_b0 | with_reducible apply kj_b1 | with_reducible apply kj_b2 | with_reducible apply kj_b3 | intro _ _)
theorem kj_day_b85 {x2 : Int32} {y0 : Int32} {σ : Sg} {J : Nat → Nat → Int64} (h : σ.2.1 = J) : KJ J jg0 (fX10_day_b85 x2 y0 σ) := by
  unfold fX10_day_b85
  repeat' (first | assumption | with_reducible exact kj_none | with_reducible apply kj_some | with_reducible apply kj_day_b101 | with_reducible apply kj_ite | with_reducible apply kj_b0 | with_reducible apply kj_b1 | with_reducible apply kj_b2 | with_reducible apply kj_b3 | intro _ _)
theorem kj_day_b76 {x2 : Int32} {x3 : Int32} {σ : Sg} {J : Nat → Nat → Int64} (h : σ.2.1 = J) : KJ J jg0 (fX10_day_b76 x2 x3 σ) := by
  unfold fX10_day_b76
  repeat' (first | assumption | with_reducible exact kj_none | with_reducible apply kj_some | with_reducible apply kj_day_b85 | with_reducible apply kj_ite | with_reducible apply kj_b0 | with_reducible apply kj_b1 | with_reducible apply kj_b2 | with_reducible apply kj_b3 | intro _ _)
theorem kj_day_b50 {x2 : Int32} {y0 : Int32} {y1 : Int32} {σ : Sg} {J : Nat → Nat → Int64} (h : σ.2.1 = J) : KJ J jg0 (fX10_day_b50 x2 y0 y1 σ) := by
  unfold fX10_day_b50
  repeat' (first | assumption | with_reducible exact kj_none | with_reducible apply kj_some | with_reducible apply kj_day_b85 | with_reducible apply kj_day_b76 | with_reducible apply kj_ite | with_reducible apply kj_b0 | with_reducible apply kj_b1 | with_reducible apply kj_b2 | with_reducible apply kj_b3 | intro _ _)
theorem kj_day_b34 {x2 : Int32} {σ : Sg} {J : Nat → Nat → Int64} (h : σ.2.1 = J) : KJ J jg0 (fX10_day_b34 x2 σ) := by
  unfold fX10_day_b34
  repeat' (first | assumption | with_reducible exact kj_none | with_reducible apply kj_some | with_reducible apply kj_day_b50 | with_reducible apply kj_ite | with_reducible apply kj_b0 | with_reducible apply kj_b1 | with_reducible apply kj_b2 | with_reducible apply kj_b3 | intro _ _)
theorem kj_day_b33 {y0 : Int32} {σ : Sg} {J : Nat → Nat → Int64} (h : σ.2.1 = J) : KJ J jg0 (fX10_day_b33 y0 σ) := by
  unfold fX10_day_b33
  repeat' (first | assumption | with_reducible exact kj_none | with_reducible apply kj_some | with_reducible apply kj_day_b34 | with_reducible apply kj_ite | with_reducible apply kj_b0 | with_reducible apply kj_b1 | with_reducible apply kj_b2 | with_reducible apply kj_b3 | intro _ _)
theorem kj_day_b0 {x1 : Int32} {σ : Sg} {J : Nat → Nat → Int64} (h : σ.2.1 = J) : KJ J jg0 (fX10_day_b0 x1 σ) := by
  unfold fX10_day_b0
  repeat' (first | assumption | with_reducible exact kj_none | with_reducible apply kj_some | with_reducible apply kj_draw | with_reducible apply kj_day_b34 | with_reducible apply kj_day_b33 | with_reducible apply kj_ite | with_reducible apply kj_b0 | with_reducible apply kj_b1 | with_reducible apply kj_b2 | with_reducible apply kj_b3 | intro _ _)
theorem kj_day {a0 : Int32} {σ : Sg} {J : Nat → Nat → Int64} (h : σ.2.1 = J) : KJ J jg0 (fX10_day a0 σ) := by
  unfold fX10_day
  repeat' (first | assumption | with_reducible exact kj_none | with_reducible apply kj_some | with_reducible apply kj_day_b0 | with_reducible apply kj_ite | with_reducible apply kj_b0 | with_reducible apply kj_b1 | with_reducible apply kj_b2 | with_reducible apply kj_b3 | intro _ _)
theorem kj_step_b79 {x1 : Int32} {x3 : Int32} {x4 : Int32} {σ : Sg} {J : Nat → Nat → Int64} (h : σ.2.1 = J) : KJ J (el jg1 jg0) (fX10_step_b79 x1 x3 x4 σ) := by
  unfold fX10_step_b79
  repeat' (first | assumption | with_reducible exact kj_none | with_reducible apply kj_some | with_reducible apply kj_day | with_reducible apply kj_ite | with_reducible apply kj_b0 | with_reducible apply kj_b1 | with_reducible apply kj_b2 | with_reducible apply kj_b3 | intro _ _)
theorem kj_step_b75 {x1 : Int32} {y0 : Int32} {σ : Sg} {J : Nat → Nat → Int64} (h : σ.2.1 = J) : KJ J jg0 (fX10_step_b75 x1 y0 σ) := by
  unfold fX10_step_b75
  repeat' (first | assumption | with_reducible exact kj_none | with_reducible apply kj_some | with_reducible apply kj_step_b79 | with_reducible apply kj_ite | with_reducible apply kj_b0 | with_reducible apply kj_b1 | with_reducible apply kj_b2 | with_reducible apply kj_b3 | with_reducible apply kj_l10 | with_reducible apply kj_l11 | with_reducible apply kj_l12 | with_reducible apply kj_l13 | with_reducible apply kj_l20 | with_reducible apply kj_l21 | with_reducible apply kj_l22 | with_reducible apply kj_l23 | with_reducible apply kj_l30 | with_reducible apply kj_l31 | with_reducible apply kj_l32 | with_reducible apply kj_l33 | intro _ _)
theorem kj_step_b63 {x1 : Int32} {y0 : Int32} {y1 : Int32} {σ : Sg} {J : Nat → Nat → Int64} (h : σ.2.1 = J) : KJ J jg0 (fX10_step_b63 x1 y0 y1 σ) := by
  unfold fX10_step_b63
  repeat' (first | assumption | with_reducible exact kj_none | with_reducible apply kj_some | with_reducible apply kj_step_b75 | with_reducible apply kj_ite | with_reducible apply kj_b0 | with_reducible apply kj_b1 | with_reducible apply kj_b2 | with_reducible apply kj_b3 | intro _ _)
theorem kj_step_b62 {x1 : Int32} {y0 : Int32} {σ : Sg} {J : Nat → Nat → Int64} (h : σ.2.1 = J) : KJ J jg0 (fX10_step_b62 x1 y0 σ) := by
  unfold fX10_step_b62
  repeat' (first | assumption | with_reducible exact kj_none | with_reducible apply kj_some | with_reducible apply kj_step_b63 | with_reducible apply kj_ite | with_reducible apply kj_b0 | with_reducible apply kj_b1 | with_reducible apply kj_b2 | with_reducible apply kj_b3 | intro _ _)
theorem kj_step_b31 {x1 : Int32} {x2 : Int32} {y0 : Int32} {y1 : Int32} {σ : Sg} {J : Nat → Nat → Int64} (h : σ.2.1 = J) : KJ J jg0 (fX10_step_b31 x1 x2 y0 y1 σ) := by
  unfold fX10_step_b31
  repeat' (first | assumption | with_reducible exact kj_none | with_reducible apply kj_some | with_reducible apply kj_step_b63 | with_reducible apply kj_step_b62 | with_reducible apply kj_ite | with_reducible apply kj_b0 | with_reducible apply kj_b1 | with_reducible apply kj_b2 | with_reducible apply kj_b3 | intro _ _)
theorem kj_step_b0 {x1 : Int32} {x2 : Int32} {σ : Sg} {J : Nat → Nat → Int64} (h : σ.2.1 = J) : KJ J jg0 (fX10_step_b0 x1 x2 σ) := by
  unfold fX10_step_b0
  repeat' (first | assumption | with_reducible exact kj_none | with_reducible apply kj_some | with_reducible apply kj_step_b31 | with_reducible apply kj_ite | with_reducible apply kj_b0 | with_reducible apply kj_b1 | with_reducible apply kj_b2 | with_reducible apply kj_b3 | intro _ _)
theorem kj_step {a0 : Int32} {a1 : Int32} {σ : Sg} {J : Nat → Nat → Int64} (h : σ.2.1 = J) : KJ J jg0 (fX10_step a0 a1 σ) := by
  unfold fX10_step
  repeat' (first | assumption | with_reducible exact kj_none | with_reducible apply kj_some | with_reducible apply kj_step_b0 | with_reducible apply kj_ite | with_reducible apply kj_b0 | with_reducible apply kj_b1 | with_reducible apply kj_b2 | with_reducible apply kj_b3 | intro _ _)
theorem kj_to_b51 {x1 : Int32} {x3 : Int32} {y0 : Int32} {y1 : Int32} {σ : Sg} {J : Nat → Nat → Int64} (h : σ.2.1 = J) : KJ J jg1 (fX10_to_b51 x1 x3 y0 y1 σ) := by
  unfold fX10_to_b51
  repeat' (first | assumption | with_reducible exact kj_none | with_reducible apply kj_some | with_reducible apply kj_in | with_reducible apply kj_farOf | with_reducible apply kj_ite | with_reducible apply kj_b0 | with_reducible apply kj_b1 | with_reducible apply kj_b2 | with_reducible apply kj_b3 | intro _ _)
theorem kj_to_b24 {x1 : Int32} {x2 : Int32} {y0 : Int32} {y1 : Int32} {σ : Sg} {J : Nat → Nat → Int64} (h : σ.2.1 = J) : KJ J jg1 (fX10_to_b24 x1 x2 y0 y1 σ) := by
  unfold fX10_to_b24
  repeat' (first | assumption | with_reducible exact kj_none | with_reducible apply kj_some | with_reducible apply kj_to_b51 | with_reducible apply kj_ite | with_reducible apply kj_b0 | with_reducible apply kj_b1 | with_reducible apply kj_b2 | with_reducible apply kj_b3 | intro _ _)
theorem kj_to_b0 {x1 : Int32} {x2 : Int32} {σ : Sg} {J : Nat → Nat → Int64} (h : σ.2.1 = J) : KJ J jg1 (fX10_to_b0 x1 x2 σ) := by
  unfold fX10_to_b0
  repeat' (first | assumption | with_reducible exact kj_none | with_reducible apply kj_some | with_reducible apply kj_to_b24 | with_reducible apply kj_ite | with_reducible apply kj_b0 | with_reducible apply kj_b1 | with_reducible apply kj_b2 | with_reducible apply kj_b3 | intro _ _)
theorem kj_to {a0 : Int32} {a1 : Int32} {σ : Sg} {J : Nat → Nat → Int64} (h : σ.2.1 = J) : KJ J jg1 (fX10_to a0 a1 σ) := by
  unfold fX10_to
  repeat' (first | assumption | with_reducible exact kj_none | with_reducible apply kj_some | with_reducible apply kj_to_b0 | with_reducible apply kj_ite | with_reducible apply kj_b0 | with_reducible apply kj_b1 | with_reducible apply kj_b2 | with_reducible apply kj_b3 | intro _ _)
theorem kj_begin_b0 {x1 : Int32} {x2 : Int32} {x3 : Int32} {x4 : Int32} {σ : Sg} {J : Nat → Nat → Int64} (h : σ.2.1 = J) : KJ J jg0 (fX10_begin_b0 x1 x2 x3 x4 σ) := by
  unfold fX10_begin_b0
  repeat' (first | assumption | with_reducible exact kj_none | with_reducible apply kj_some | with_reducible apply kj_ite | with_reducible apply kj_b0 | with_reducible apply kj_b1 | with_reducible apply kj_b2 | with_reducible apply kj_b3 | intro _ _)
theorem kj_begin {a0 : Int32} {a1 : Int32} {a2 : Int32} {a3 : Int32} {σ : Sg} {J : Nat → Nat → Int64} (h : σ.2.1 = J) : KJ J jg0 (fX10_begin a0 a1 a2 a3 σ) := by
  unfold fX10_begin
  repeat' (first | assumption | with_reducible exact kj_none | with_reducible apply kj_some | with_reducible apply kj_begin_b0 | with_reducible apply kj_ite | with_reducible apply kj_b0 | with_reducible apply kj_b1 | with_reducible apply kj_b2 | with_reducible apply kj_b3 | intro _ _)
theorem kj_towAll_b2 {x1 : Int32} {x2 : Int32} {σ : Sg} {J : Nat → Nat → Int64} (h : σ.2.1 = J) : KJ J (el jg1 jg0) (fX10_towAll_b2 x1 x2 σ) := by
  unfold fX10_towAll_b2
  repeat' (first | assumption | with_reducible exact kj_none | with_reducible apply kj_some | with_reducible apply kj_step | with_reducible apply kj_ite | with_reducible apply kj_b0 | with_reducible apply kj_b1 | with_reducible apply kj_b2 | with_reducible apply kj_b3 | intro _ _)
theorem kj_towAll_b0 {x1 : Int32} {σ : Sg} {J : Nat → Nat → Int64} (h : σ.2.1 = J) : KJ J jg0 (fX10_towAll_b0 x1 σ) := by
  unfold fX10_towAll_b0
  repeat' (first | assumption | with_reducible exact kj_none | with_reducible apply kj_some | with_reducible apply kj_towAll_b2 | with_reducible apply kj_ite | with_reducible apply kj_b0 | with_reducible apply kj_b1 | with_reducible apply kj_b2 | with_reducible apply kj_b3 | with_reducible apply kj_l10 | with_reducible apply kj_l11 | with_reducible apply kj_l12 | with_reducible apply kj_l13 | with_reducible apply kj_l20 | with_reducible apply kj_l21 | with_reducible apply kj_l22 | with_reducible apply kj_l23 | with_reducible apply kj_l30 | with_reducible apply kj_l31 | with_reducible apply kj_l32 | with_reducible apply kj_l33 | intro _ _)
theorem kj_towAll {a0 : Int32} {σ : Sg} {J : Nat → Nat → Int64} (h : σ.2.1 = J) : KJ J jg0 (fX10_towAll a0 σ) := by
  unfold fX10_towAll
  repeat' (first | assumption | with_reducible exact kj_none | with_reducible apply kj_some | with_reducible apply kj_towAll_b0 | with_reducible apply kj_ite | with_reducible apply kj_b0 | with_reducible apply kj_b1 | with_reducible apply kj_b2 | with_reducible apply kj_b3 | intro _ _)
theorem kj_tryWay_b135 {x5 : Int32} {x7 : Int32} {σ : Sg} {J : Nat → Nat → Int64} (h : σ.2.1 = J) : KJ J (el jg1 jg0) (fX10_tryWay_b135 x5 x7 σ) := by
  unfold fX10_tryWay_b135
  repeat' (first | assumption | with_reducible exact kj_none | with_reducible apply kj_some | with_reducible apply kj_ite | with_reducible apply kj_b0 | with_reducible apply kj_b1 | with_reducible apply kj_b2 | with_reducible apply kj_b3 | intro _ _)
theorem kj_tryWay_b104 {x5 : Int32} {x6 : Int32} {σ : Sg} {J : Nat → Nat → Int64} (h : σ.2.1 = J) : KJ J jg0 (fX10_tryWay_b104 x5 x6 σ) := by
  unfold fX10_tryWay_b104
  repeat' (first | assumption | with_reducible exact kj_none | with_reducible apply kj_some | with_reducible apply kj_tryWay_b135 | with_reducible apply kj_ite | with_reducible apply kj_b0 | with_reducible apply kj_b1 | with_reducible apply kj_b2 | with_reducible apply kj_b3 | with_reducible apply kj_l10 | with_reducible apply kj_l11 | with_reducible apply kj_l12 | with_reducible apply kj_l13 | with_reducible apply kj_l20 | with_reducible apply kj_l21 | with_reducible apply kj_l22 | with_reducible apply kj_l23 | with_reducible apply kj_l30 | with_reducible apply kj_l31 | with_reducible apply kj_l32 | with_reducible apply kj_l33 | intro _ _)
theorem kj_tryWay_b64 {x5 : Int32} {y0 : Int32} {y1 : Int32} {σ : Sg} {J : Nat → Nat → Int64} (h : σ.2.1 = J) : KJ J jg0 (fX10_tryWay_b64 x5 y0 y1 σ) := by
  unfold fX10_tryWay_b64
  repeat' (first | assumption | with_reducible exact kj_none | with_reducible apply kj_some | with_reducible apply kj_tryWay_b104 | with_reducible apply kj_ite | with_reducible apply kj_b0 | with_reducible apply kj_b1 | with_reducible apply kj_b2 | with_reducible apply kj_b3 | intro _ _)
theorem kj_tryWay_b0 {x1 : Int32} {x2 : Int32} {x3 : Int32} {x4 : Int32} {x5 : Int32} {σ : Sg} {J : Nat → Nat → Int64} (h : σ.2.1 = J) : KJ J jg0 (fX10_tryWay_b0 x1 x2 x3 x4 x5 σ) := by
  unfold fX10_tryWay_b0
  repeat' (first | assumption | with_reducible exact kj_none | with_reducible apply kj_some | with_reducible apply kj_begin | with_reducible apply kj_towAll | with_reducible apply kj_tryWay_b64 | with_reducible apply kj_ite | with_reducible apply kj_b0 | with_reducible apply kj_b1 | with_reducible apply kj_b2 | with_reducible apply kj_b3 | intro _ _)
theorem kj_tryWay {a0 : Int32} {a1 : Int32} {a2 : Int32} {a3 : Int32} {a4 : Int32} {σ : Sg} {J : Nat → Nat → Int64} (h : σ.2.1 = J) : KJ J jg0 (fX10_tryWay a0 a1 a2 a3 a4 σ) := by
  unfold fX10_tryWay
  repeat' (first | assumption | with_reducible exact kj_none | with_reducible apply kj_some | with_reducible apply kj_tryWay_b0 | with_reducible apply kj_ite | with_reducible apply kj_b0 | with_reducible apply kj_b1 | with_reducible apply kj_b2 | with_reducible apply kj_b3 | intro _ _)
theorem kj_layWays_b155 {x1 : Int32} {x2 : Int32} {x3 : Int32} {x4 : Int32} {x5 : Int32} {σ : Sg} {J : Nat → Nat → Int64} (h : σ.2.1 = J) : KJ J (el jg1 jg0) (fX10_layWays_b155 x1 x2 x3 x4 x5 σ) := by
  unfold fX10_layWays_b155
  repeat' (first | assumption | with_reducible exact kj_none | with_reducible apply kj_some | with_reducible apply kj_ite | with_reducible apply kj_b0 | with_reducible apply kj_b1 | with_reducible apply kj_b2 | with_reducible apply kj_b3 | intro _ _)
theorem kj_layWays_b85 {x1 : Int32} {x2 : Int32} {x3 : Int32} {x4 : Int32} {x5 : Int32} {y0 : Int32} {σ : Sg} {J : Nat → Nat → Int64} (h : σ.2.1 = J) : KJ J (el jg1 jg0) (fX10_layWays_b85 x1 x2 x3 x4 x5 y0 σ) := by
  unfold fX10_layWays_b85
  repeat' (first | assumption | with_reducible exact kj_none | with_reducible apply kj_some | with_reducible apply kj_tryWay | with_reducible apply kj_layWays_b155 | with_reducible apply kj_ite | with_reducible apply kj_b0 | with_reducible apply kj_b1 | with_reducible apply kj_b2 | with_reducible apply kj_b3 | intro _ _)
theorem kj_layWays_b36 {x1 : Int32} {x2 : Int32} {x3 : Int32} {x4 : Int32} {x5 : Int32} {σ : Sg} {J : Nat → Nat → Int64} (h : σ.2.1 = J) : KJ J (el jg1 jg0) (fX10_layWays_b36 x1 x2 x3 x4 x5 σ) := by
  unfold fX10_layWays_b36
  repeat' (first | assumption | with_reducible exact kj_none | with_reducible apply kj_some | with_reducible apply kj_to | with_reducible apply kj_layWays_b85 | with_reducible apply kj_ite | with_reducible apply kj_b0 | with_reducible apply kj_b1 | with_reducible apply kj_b2 | with_reducible apply kj_b3 | intro _ _)
theorem kj_layWays_b0 {x1 : Int32} {x2 : Int32} {x3 : Int32} {x4 : Int32} {σ : Sg} {J : Nat → Nat → Int64} (h : σ.2.1 = J) : KJ J jg0 (fX10_layWays_b0 x1 x2 x3 x4 σ) := by
  unfold fX10_layWays_b0
  repeat' (first | assumption | with_reducible exact kj_none | with_reducible apply kj_some | with_reducible apply kj_layWays_b36 | with_reducible apply kj_ite | with_reducible apply kj_b0 | with_reducible apply kj_b1 | with_reducible apply kj_b2 | with_reducible apply kj_b3 | with_reducible apply kj_l10 | with_reducible apply kj_l11 | with_reducible apply kj_l12 | with_reducible apply kj_l13 | with_reducible apply kj_l20 | with_reducible apply kj_l21 | with_reducible apply kj_l22 | with_reducible apply kj_l23 | with_reducible apply kj_l30 | with_reducible apply kj_l31 | with_reducible apply kj_l32 | with_reducible apply kj_l33 | intro _ _)
theorem kj_layWays {a0 : Int32} {a1 : Int32} {a2 : Int32} {a3 : Int32} {σ : Sg} {J : Nat → Nat → Int64} (h : σ.2.1 = J) : KJ J jg0 (fX10_layWays a0 a1 a2 a3 σ) := by
  unfold fX10_layWays
  repeat' (first | assumption | with_reducible exact kj_none | with_reducible apply kj_some | with_reducible apply kj_layWays_b0 | with_reducible apply kj_ite | with_reducible apply kj_b0 | with_reducible apply kj_b1 | with_reducible apply kj_b2 | with_reducible apply kj_b3 | intro _ _)
theorem kj_ownSize_b0 {x1 : Int32} {σ : Sg} {J : Nat → Nat → Int64} (h : σ.2.1 = J) : KJ J jg1 (fX10_ownSize_b0 x1 σ) := by
  unfold fX10_ownSize_b0
  repeat' (first | assumption | with_reducible exact kj_none | with_reducible apply kj_some | with_reducible apply kj_ite | with_reducible apply kj_b0 | with_reducible apply kj_b1 | with_reducible apply kj_b2 | with_reducible apply kj_b3 | intro _ _)
theorem kj_ownSize {a0 : Int32} {σ : Sg} {J : Nat → Nat → Int64} (h : σ.2.1 = J) : KJ J jg1 (fX10_ownSize a0 σ) := by
  unfold fX10_ownSize
  repeat' (first | assumption | with_reducible exact kj_none | with_reducible apply kj_some | with_reducible apply kj_ownSize_b0 | with_reducible apply kj_ite | with_reducible apply kj_b0 | with_reducible apply kj_b1 | with_reducible apply kj_b2 | with_reducible apply kj_b3 | intro _ _)
theorem kj_tellTow_b0 {x1 : Int32} {x2 : Int32} {x3 : Int32} {x4 : Int32} {σ : Sg} {J : Nat → Nat → Int64} (h : σ.2.1 = J) : KJ J jg1 (fX10_tellTow_b0 x1 x2 x3 x4 σ) := by
  unfold fX10_tellTow_b0
  repeat' (first | assumption | with_reducible exact kj_none | with_reducible apply kj_some | with_reducible apply kj_layWays | with_reducible apply kj_ownSize | with_reducible apply kj_ite | with_reducible apply kj_b0 | with_reducible apply kj_b1 | with_reducible apply kj_b2 | with_reducible apply kj_b3 | intro _ _)
theorem kj_tellTow {a0 : Int32} {a1 : Int32} {a2 : Int32} {a3 : Int32} {σ : Sg} {J : Nat → Nat → Int64} (h : σ.2.1 = J) : KJ J jg1 (fX10_tellTow a0 a1 a2 a3 σ) := by
  unfold fX10_tellTow
  repeat' (first | assumption | with_reducible exact kj_none | with_reducible apply kj_some | with_reducible apply kj_tellTow_b0 | with_reducible apply kj_ite | with_reducible apply kj_b0 | with_reducible apply kj_b1 | with_reducible apply kj_b2 | with_reducible apply kj_b3 | intro _ _)
theorem kj_waysOf_b0 {x1 : Int32} {σ : Sg} {J : Nat → Nat → Int64} (h : σ.2.1 = J) : KJ J jg1 (fX10_waysOf_b0 x1 σ) := by
  unfold fX10_waysOf_b0
  repeat' (first | assumption | with_reducible exact kj_none | with_reducible apply kj_some | with_reducible apply kj_layWays | with_reducible apply kj_ownSize | with_reducible apply kj_ite | with_reducible apply kj_b0 | with_reducible apply kj_b1 | with_reducible apply kj_b2 | with_reducible apply kj_b3 | intro _ _)
theorem kj_waysOf {a0 : Int32} {σ : Sg} {J : Nat → Nat → Int64} (h : σ.2.1 = J) : KJ J jg1 (fX10_waysOf a0 σ) := by
  unfold fX10_waysOf
  repeat' (first | assumption | with_reducible exact kj_none | with_reducible apply kj_some | with_reducible apply kj_waysOf_b0 | with_reducible apply kj_ite | with_reducible apply kj_b0 | with_reducible apply kj_b1 | with_reducible apply kj_b2 | with_reducible apply kj_b3 | intro _ _)
theorem kj_tellBest_b83 {x1 : Int32} {x2 : Int32} {x3 : Int32} {x5 : Int32} {y0 : Int32} {σ : Sg} {J : Nat → Nat → Int64} (h : σ.2.1 = J) : KJ J (el jg3 jg2) (fX10_tellBest_b83 x1 x2 x3 x5 y0 σ) := by
  unfold fX10_tellBest_b83
  repeat' (first | assumption | with_reducible exact kj_none | with_reducible apply kj_some | with_reducible apply kj_ite | with_reducible apply kj_b0 | with_reducible apply kj_b1 | with_reducible apply kj_b2 | with_reducible apply kj_b3 | intro _ _)
theorem kj_tellBest_b68 {x1 : Int32} {x2 : Int32} {x4 : Int32} {x5 : Int32} {x6 : Int32} {y0 : Int32} {σ : Sg} {J : Nat → Nat → Int64} (h : σ.2.1 = J) : KJ J (el jg3 jg2) (fX10_tellBest_b68 x1 x2 x4 x5 x6 y0 σ) := by
  unfold fX10_tellBest_b68
  repeat' (first | assumption | with_reducible exact kj_none | with_reducible apply kj_some | with_reducible apply kj_tellBest_b83 | with_reducible apply kj_ite | with_reducible apply kj_b0 | with_reducible apply kj_b1 | with_reducible apply kj_b2 | with_reducible apply kj_b3 | intro _ _)
theorem kj_tellBest_b49 {x1 : Int32} {x2 : Int32} {x3 : Int32} {x4 : Int32} {x5 : Int32} {y0 : Int32} {y1 : Int32} {y2 : Int32} {σ : Sg} {J : Nat → Nat → Int64} (h : σ.2.1 = J) : KJ J (el jg3 jg2) (fX10_tellBest_b49 x1 x2 x3 x4 x5 y0 y1 y2 σ) := by
  unfold fX10_tellBest_b49
  repeat' (first | assumption | with_reducible exact kj_none | with_reducible apply kj_some | with_reducible apply kj_tellTow | with_reducible apply kj_tellBest_b68 | with_reducible apply kj_ite | with_reducible apply kj_b0 | with_reducible apply kj_b1 | with_reducible apply kj_b2 | with_reducible apply kj_b3 | intro _ _)
theorem kj_tellBest_b21 {x1 : Int32} {x2 : Int32} {x3 : Int32} {x4 : Int32} {x5 : Int32} {σ : Sg} {J : Nat → Nat → Int64} (h : σ.2.1 = J) : KJ J (el jg3 jg2) (fX10_tellBest_b21 x1 x2 x3 x4 x5 σ) := by
  unfold fX10_tellBest_b21
  repeat' (first | assumption | with_reducible exact kj_none | with_reducible apply kj_some | with_reducible apply kj_tellBest_b49 | with_reducible apply kj_ite | with_reducible apply kj_b0 | with_reducible apply kj_b1 | with_reducible apply kj_b2 | with_reducible apply kj_b3 | intro _ _)
theorem kj_tellBest_b0 {x1 : Int32} {x2 : Int32} {σ : Sg} {J : Nat → Nat → Int64} (h : σ.2.1 = J) : KJ J jg1 (fX10_tellBest_b0 x1 x2 σ) := by
  unfold fX10_tellBest_b0
  repeat' (first | assumption | with_reducible exact kj_none | with_reducible apply kj_some | with_reducible apply kj_waysOf | with_reducible apply kj_tellBest_b21 | with_reducible apply kj_ite | with_reducible apply kj_b0 | with_reducible apply kj_b1 | with_reducible apply kj_b2 | with_reducible apply kj_b3 | with_reducible apply kj_l10 | with_reducible apply kj_l11 | with_reducible apply kj_l12 | with_reducible apply kj_l13 | with_reducible apply kj_l20 | with_reducible apply kj_l21 | with_reducible apply kj_l22 | with_reducible apply kj_l23 | with_reducible apply kj_l30 | with_reducible apply kj_l31 | with_reducible apply kj_l32 | with_reducible apply kj_l33 | intro _ _)
theorem kj_tellBest {a0 : Int32} {a1 : Int32} {σ : Sg} {J : Nat → Nat → Int64} (h : σ.2.1 = J) : KJ J jg1 (fX10_tellBest a0 a1 σ) := by
  unfold fX10_tellBest
  repeat' (first | assumption | with_reducible exact kj_none | with_reducible apply kj_some | with_reducible apply kj_tellBest_b0 | with_reducible apply kj_ite | with_reducible apply kj_b0 | with_reducible apply kj_b1 | with_reducible apply kj_b2 | with_reducible apply kj_b3 | intro _ _)
theorem kj_seasonOf_b113 {x1 : Int32} {x2 : Int32} {x3 : Int32} {x4 : Int32} {x5 : Int32} {y0 : Int32} {y1 : Int32} {σ : Sg} {J : Nat → Nat → Int64} (h : σ.2.1 = J) : KJ J (el jg1 jg0) (fX10_seasonOf_b113 x1 x2 x3 x4 x5 y0 y1 σ) := by
  unfold fX10_seasonOf_b113
  repeat' (first | assumption | with_reducible exact kj_none | with_reducible apply kj_some | with_reducible apply kj_ite | with_reducible apply kj_b0 | with_reducible apply kj_b1 | with_reducible apply kj_b2 | with_reducible apply kj_b3 | intro _ _)
theorem kj_seasonOf_b86 {x1 : Int32} {x2 : Int32} {x3 : Int32} {x4 : Int32} {x5 : Int32} {x6 : Int32} {y0 : Int32} {σ : Sg} {J : Nat → Nat → Int64} (h : σ.2.1 = J) : KJ J (el jg1 jg0) (fX10_seasonOf_b86 x1 x2 x3 x4 x5 x6 y0 σ) := by
  unfold fX10_seasonOf_b86
  repeat' (first | assumption | with_reducible exact kj_none | with_reducible apply kj_some | with_reducible apply kj_seasonOf_b113 | with_reducible apply kj_ite | with_reducible apply kj_b0 | with_reducible apply kj_b1 | with_reducible apply kj_b2 | with_reducible apply kj_b3 | intro _ _)
theorem kj_seasonOf_b64 {x1 : Int32} {x2 : Int32} {x3 : Int32} {x4 : Int32} {x5 : Int32} {y0 : Int32} {σ : Sg} {J : Nat → Nat → Int64} (h : σ.2.1 = J) : KJ J (el jg1 jg0) (fX10_seasonOf_b64 x1 x2 x3 x4 x5 y0 σ) := by
  unfold fX10_seasonOf_b64
  repeat' (first | assumption | with_reducible exact kj_none | with_reducible apply kj_some | with_reducible apply kj_tellTow | with_reducible apply kj_seasonOf_b86 | with_reducible apply kj_ite | with_reducible apply kj_b0 | with_reducible apply kj_b1 | with_reducible apply kj_b2 | with_reducible apply kj_b3 | intro _ _)
theorem kj_seasonOf_b38 {x1 : Int32} {x2 : Int32} {x3 : Int32} {x4 : Int32} {x5 : Int32} {σ : Sg} {J : Nat → Nat → Int64} (h : σ.2.1 = J) : KJ J (el jg1 jg0) (fX10_seasonOf_b38 x1 x2 x3 x4 x5 σ) := by
  unfold fX10_seasonOf_b38
  repeat' (first | assumption | with_reducible exact kj_none | with_reducible apply kj_some | with_reducible apply kj_tellTow | with_reducible apply kj_seasonOf_b64 | with_reducible apply kj_ite | with_reducible apply kj_b0 | with_reducible apply kj_b1 | with_reducible apply kj_b2 | with_reducible apply kj_b3 | intro _ _)
theorem kj_seasonOf_b23 {x1 : Int32} {x2 : Int32} {x3 : Int32} {y0 : Int32} {σ : Sg} {J : Nat → Nat → Int64} (h : σ.2.1 = J) : KJ J (el jg1 jg0) (fX10_seasonOf_b23 x1 x2 x3 y0 σ) := by
  unfold fX10_seasonOf_b23
  repeat' (first | assumption | with_reducible exact kj_none | with_reducible apply kj_some | with_reducible apply kj_seasonOf_b38 | with_reducible apply kj_ite | with_reducible apply kj_b0 | with_reducible apply kj_b1 | with_reducible apply kj_b2 | with_reducible apply kj_b3 | with_reducible apply kj_l10 | with_reducible apply kj_l11 | with_reducible apply kj_l12 | with_reducible apply kj_l13 | with_reducible apply kj_l20 | with_reducible apply kj_l21 | with_reducible apply kj_l22 | with_reducible apply kj_l23 | with_reducible apply kj_l30 | with_reducible apply kj_l31 | with_reducible apply kj_l32 | with_reducible apply kj_l33 | intro _ _)
theorem kj_seasonOf_b2 {x1 : Int32} {x2 : Int32} {x3 : Int32} {σ : Sg} {J : Nat → Nat → Int64} (h : σ.2.1 = J) : KJ J (el jg1 jg0) (fX10_seasonOf_b2 x1 x2 x3 σ) := by
  unfold fX10_seasonOf_b2
  repeat' (first | assumption | with_reducible exact kj_none | with_reducible apply kj_some | with_reducible apply kj_waysOf | with_reducible apply kj_seasonOf_b23 | with_reducible apply kj_ite | with_reducible apply kj_b0 | with_reducible apply kj_b1 | with_reducible apply kj_b2 | with_reducible apply kj_b3 | intro _ _)
theorem kj_seasonOf_b128 {x1 : Int32} {x2 : Int32} {x3 : Int32} {σ : Sg} {J : Nat → Nat → Int64} (h : σ.2.1 = J) : KJ J (el jg1 jg0) (fX10_seasonOf_b128 x1 x2 x3 σ) := by
  unfold fX10_seasonOf_b128
  repeat' (first | assumption | with_reducible exact kj_none | with_reducible apply kj_some | with_reducible apply kj_ite | with_reducible apply kj_b0 | with_reducible apply kj_b1 | with_reducible apply kj_b2 | with_reducible apply kj_b3 | intro _ _)
theorem kj_seasonOf_b236 {x1 : Int32} {x2 : Int32} {x3 : Int32} {x4 : Int32} {x6 : Int32} {y0 : Int32} {σ : Sg} {J : Nat → Nat → Int64} (h : σ.2.1 = J) : KJ J (el jg2 jg1) (fX10_seasonOf_b236 x1 x2 x3 x4 x6 y0 σ) := by
  unfold fX10_seasonOf_b236
  repeat' (first | assumption | with_reducible exact kj_none | with_reducible apply kj_some | with_reducible apply kj_ite | with_reducible apply kj_b0 | with_reducible apply kj_b1 | with_reducible apply kj_b2 | with_reducible apply kj_b3 | intro _ _)
theorem kj_seasonOf_b182 {x1 : Int32} {x2 : Int32} {x3 : Int32} {x4 : Int32} {x5 : Int32} {x6 : Int32} {σ : Sg} {J : Nat → Nat → Int64} (h : σ.2.1 = J) : KJ J (el jg2 jg1) (fX10_seasonOf_b182 x1 x2 x3 x4 x5 x6 σ) := by
  unfold fX10_seasonOf_b182
  repeat' (first | assumption | with_reducible exact kj_none | with_reducible apply kj_some | with_reducible apply kj_seasonOf_b236 | with_reducible apply kj_ite | with_reducible apply kj_b0 | with_reducible apply kj_b1 | with_reducible apply kj_b2 | with_reducible apply kj_b3 | intro _ _)
theorem kj_seasonOf_b168 {x1 : Int32} {x2 : Int32} {x3 : Int32} {x4 : Int32} {σ : Sg} {J : Nat → Nat → Int64} (h : σ.2.1 = J) : KJ J (el jg1 jg0) (fX10_seasonOf_b168 x1 x2 x3 x4 σ) := by
  unfold fX10_seasonOf_b168
  repeat' (first | assumption | with_reducible exact kj_none | with_reducible apply kj_some | with_reducible apply kj_seasonOf_b182 | with_reducible apply kj_ite | with_reducible apply kj_b0 | with_reducible apply kj_b1 | with_reducible apply kj_b2 | with_reducible apply kj_b3 | with_reducible apply kj_l10 | with_reducible apply kj_l11 | with_reducible apply kj_l12 | with_reducible apply kj_l13 | with_reducible apply kj_l20 | with_reducible apply kj_l21 | with_reducible apply kj_l22 | with_reducible apply kj_l23 | with_reducible apply kj_l30 | with_reducible apply kj_l31 | with_reducible apply kj_l32 | with_reducible apply kj_l33 | intro _ _)
theorem kj_seasonOf_b161 {x1 : Int32} {x2 : Int32} {x3 : Int32} {σ : Sg} {J : Nat → Nat → Int64} (h : σ.2.1 = J) : KJ J (el jg1 jg0) (fX10_seasonOf_b161 x1 x2 x3 σ) := by
  unfold fX10_seasonOf_b161
  repeat' (first | assumption | with_reducible exact kj_none | with_reducible apply kj_some | with_reducible apply kj_seasonOf_b168 | with_reducible apply kj_ite | with_reducible apply kj_b0 | with_reducible apply kj_b1 | with_reducible apply kj_b2 | with_reducible apply kj_b3 | with_reducible apply kj_l10 | with_reducible apply kj_l11 | with_reducible apply kj_l12 | with_reducible apply kj_l13 | with_reducible apply kj_l20 | with_reducible apply kj_l21 | with_reducible apply kj_l22 | with_reducible apply kj_l23 | with_reducible apply kj_l30 | with_reducible apply kj_l31 | with_reducible apply kj_l32 | with_reducible apply kj_l33 | intro _ _)
theorem kj_seasonOf_b282 {x1 : Int32} {x2 : Int32} {σ : Sg} {J : Nat → Nat → Int64} (h : σ.2.1 = J) : KJ J jg1 (fX10_seasonOf_b282 x1 x2 σ) := by
  unfold fX10_seasonOf_b282
  repeat' (first | assumption | with_reducible exact kj_none | with_reducible apply kj_some | with_reducible apply kj_ite | with_reducible apply kj_b0 | with_reducible apply kj_b1 | with_reducible apply kj_b2 | with_reducible apply kj_b3 | intro _ _)
theorem kj_seasonOf_b314 {x2 : Int32} {x3 : Int32} {x4 : Int32} {x5 : Int32} {σ : Sg} {J : Nat → Nat → Int64} (h : σ.2.1 = J) : KJ J (el jg1 jg1) (fX10_seasonOf_b314 x2 x3 x4 x5 σ) := by
  unfold fX10_seasonOf_b314
  repeat' (first | assumption | with_reducible exact kj_none | with_reducible apply kj_some | with_reducible apply kj_ite | with_reducible apply kj_b0 | with_reducible apply kj_b1 | with_reducible apply kj_b2 | with_reducible apply kj_b3 | intro _ _)
theorem kj_seasonOf_b305 {x2 : Int32} {x3 : Int32} {x4 : Int32} {x5 : Int32} {σ : Sg} {J : Nat → Nat → Int64} (h : σ.2.1 = J) : KJ J (el jg3 jg1) (fX10_seasonOf_b305 x2 x3 x4 x5 σ) := by
  unfold fX10_seasonOf_b305
  repeat' (first | assumption | with_reducible exact kj_none | with_reducible apply kj_some | with_reducible apply kj_seasonOf_b314 | with_reducible apply kj_ite | with_reducible apply kj_b0 | with_reducible apply kj_b1 | with_reducible apply kj_b2 | with_reducible apply kj_b3 | with_reducible apply kj_l10 | with_reducible apply kj_l11 | with_reducible apply kj_l12 | with_reducible apply kj_l13 | with_reducible apply kj_l20 | with_reducible apply kj_l21 | with_reducible apply kj_l22 | with_reducible apply kj_l23 | with_reducible apply kj_l30 | with_reducible apply kj_l31 | with_reducible apply kj_l32 | with_reducible apply kj_l33 | intro _ _)
theorem kj_seasonOf_b0 {x1 : Int32} {x2 : Int32} {σ : Sg} {J : Nat → Nat → Int64} (h : σ.2.1 = J) : KJ J jg1 (fX10_seasonOf_b0 x1 x2 σ) := by
  unfold fX10_seasonOf_b0
  repeat' (first | assumption | with_reducible exact kj_none | with_reducible apply kj_some | with_reducible apply kj_seasonOf_b2 | with_reducible apply kj_seasonOf_b128 | with_reducible apply kj_seasonOf_b161 | with_reducible apply kj_seasonOf_b282 | with_reducible apply kj_seasonOf_b305 | with_reducible apply kj_ite | with_reducible apply kj_b0 | with_reducible apply kj_b1 | with_reducible apply kj_b2 | with_reducible apply kj_b3 | with_reducible apply kj_l10 | with_reducible apply kj_l11 | with_reducible apply kj_l12 | with_reducible apply kj_l13 | with_reducible apply kj_l20 | with_reducible apply kj_l21 | with_reducible apply kj_l22 | with_reducible apply kj_l23 | with_reducible apply kj_l30 | with_reducible apply kj_l31 | with_reducible apply kj_l32 | with_reducible apply kj_l33 | intro _ _)
theorem kj_seasonOf {a0 : Int32} {a1 : Int32} {σ : Sg} {J : Nat → Nat → Int64} (h : σ.2.1 = J) : KJ J jg1 (fX10_seasonOf a0 a1 σ) := by
  unfold fX10_seasonOf
  repeat' (first | assumption | with_reducible exact kj_none | with_reducible apply kj_some | with_reducible apply kj_seasonOf_b0 | with_reducible apply kj_ite | with_reducible apply kj_b0 | with_reducible apply kj_b1 | with_reducible apply kj_b2 | with_reducible apply kj_b3 | intro _ _)
theorem kj_countOf_b0 {x1 : Int32} {σ : Sg} {J : Nat → Nat → Int64} (h : σ.2.1 = J) : KJ J jg1 (fX10_countOf_b0 x1 σ) := by
  unfold fX10_countOf_b0
  repeat' (first | assumption | with_reducible exact kj_none | with_reducible apply kj_some | with_reducible apply kj_ite | with_reducible apply kj_b0 | with_reducible apply kj_b1 | with_reducible apply kj_b2 | with_reducible apply kj_b3 | intro _ _)
theorem kj_countOf {a0 : Int32} {σ : Sg} {J : Nat → Nat → Int64} (h : σ.2.1 = J) : KJ J jg1 (fX10_countOf a0 σ) := by
  unfold fX10_countOf
  repeat' (first | assumption | with_reducible exact kj_none | with_reducible apply kj_some | with_reducible apply kj_countOf_b0 | with_reducible apply kj_ite | with_reducible apply kj_b0 | with_reducible apply kj_b1 | with_reducible apply kj_b2 | with_reducible apply kj_b3 | intro _ _)
