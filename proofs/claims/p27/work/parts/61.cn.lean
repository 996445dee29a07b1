/-! ===== how many ways, step by step ===== -/
theorem qto_i {m : Mm} {c w x : Nat} (h : qto m c w = some x) : qbes (qR m) (qW m) c w = some x ∧ qL m x ≠ 11 ∧ qF m x < qF m c := by
  unfold qto at h
  obtain ⟨y, h1, h2⟩ := Option.bind_eq_some_iff.mp h
  unfold qok at h2
  by_cases q : qL m y = 11 ∨ qF m c ≤ qF m y
  · rw [if_pos q] at h2; cases h2
  · rw [if_neg q] at h2; cases h2
    exact ⟨h1, fun z => q (Or.inl z), by omega⟩
theorem qto_f {m : Mm} {c w x : Nat} (w1 : 2 ≤ qW m) (w2 : qW m ≤ 6) (h : qto m c w = some x) : qF m x + 1 = qF m c := by
  obtain ⟨h1, h2, h3⟩ := qto_i h
  have := qfar_1 (H := qH m) w1 w2 h1
  unfold qF at h3 ⊢
  omega
def cw (m : Mm) (c w : Nat) : Nat := match qto m c w with
  | none => 0
  | some x => qcn m x
theorem qcn_s {m : Mm} {c : Nat} (w1 : 2 ≤ qW m) (w2 : qW m ≤ 6) (h11 : qL m c ≠ 11) (hH : c ≠ qH m) : qcn m c = cw m c 0 + (cw m c 1 + (cw m c 2 + (cw m c 3 + 0))) := by
  have e : qcn m c = (qws m c).length := by unfold qcn; rw [if_neg h11, if_neg hH]
  rw [e]
  unfold qws
  cases hF : qF m c with
  | zero =>
    have z : ∀ w, cw m c w = 0 := fun w => by
      unfold cw
      cases hq : qto m c w with
      | none => rfl
      | some x =>
        have := (qto_i hq).2.2
        omega
    rw [z, z, z, z]; rfl
  | succ d =>
    have o : ∀ w, (qone m (qwy m d) c w).length = cw m c w := fun w => by
      unfold qone cw
      cases hq : qto m c w with
      | none => rfl
      | some x =>
        obtain ⟨q1, q2, q3⟩ := qto_i hq
        have q4 := qto_f w1 w2 hq
        dsimp only
        unfold qcn
        rw [if_neg q2]
        by_cases hx : x = qH m
        · rw [if_pos hx, if_pos hx]; rfl
        · rw [if_neg hx, if_neg hx, List.length_map]
          unfold qws
          rw [show qF m x = d by omega]
    show (qone m (qwy m d) c 0 ++ (qone m (qwy m d) c 1 ++ (qone m (qwy m d) c 2 ++ (qone m (qwy m d) c 3 ++ [])))).length = _
    rw [List.length_append, List.length_append, List.length_append, List.length_append, o, o, o, o]
    rfl
