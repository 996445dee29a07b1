/-! ===== steps on the sea ===== -/
theorem qbes_b {R W c w x : Nat} (r1 : 2 ≤ R) (r2 : R ≤ 5) (w1 : 2 ≤ W) (w2 : W ≤ 6) (hc : c < R * W) (h : qbes R W c w = some x) : x < R * W := by
  unfold qbes at h
  by_cases e0 : w = 0
  · rw [if_pos e0] at h
    by_cases q : W ≤ c
    · rw [if_pos q] at h; cases h; omega
    · rw [if_neg q] at h; cases h
  · rw [if_neg e0] at h
    by_cases e1 : w = 1
    · rw [if_pos e1] at h
      by_cases q : c % W + 1 < W
      · rw [if_pos q] at h; cases h
        rcases (show W = 2 ∨ W = 3 ∨ W = 4 ∨ W = 5 ∨ W = 6 by omega) with rfl | rfl | rfl | rfl | rfl <;> omega
      · rw [if_neg q] at h; cases h
    · rw [if_neg e1] at h
      by_cases e2 : w = 2
      · rw [if_pos e2] at h
        by_cases q : c + W < R * W
        · rw [if_pos q] at h; cases h; exact q
        · rw [if_neg q] at h; cases h
      · rw [if_neg e2] at h
        by_cases q : 0 < c % W
        · rw [if_pos q] at h; cases h; omega
        · rw [if_neg q] at h; cases h
theorem qfar_1 {R W H c w x : Nat} (w1 : 2 ≤ W) (w2 : W ≤ 6) (h : qbes R W c w = some x) : qfar W H x + 1 = qfar W H c ∨ qfar W H x = qfar W H c + 1 := by
  unfold qbes at h
  unfold qfar qad
  by_cases e0 : w = 0
  · rw [if_pos e0] at h
    by_cases q : W ≤ c
    · rw [if_pos q] at h; cases h
      rcases (show W = 2 ∨ W = 3 ∨ W = 4 ∨ W = 5 ∨ W = 6 by omega) with rfl | rfl | rfl | rfl | rfl <;> omega
    · rw [if_neg q] at h; cases h
  · rw [if_neg e0] at h
    by_cases e1 : w = 1
    · rw [if_pos e1] at h
      by_cases q : c % W + 1 < W
      · rw [if_pos q] at h; cases h
        rcases (show W = 2 ∨ W = 3 ∨ W = 4 ∨ W = 5 ∨ W = 6 by omega) with rfl | rfl | rfl | rfl | rfl <;> omega
      · rw [if_neg q] at h; cases h
    · rw [if_neg e1] at h
      by_cases e2 : w = 2
      · rw [if_pos e2] at h
        by_cases q : c + W < R * W
        · rw [if_pos q] at h; cases h
          rcases (show W = 2 ∨ W = 3 ∨ W = 4 ∨ W = 5 ∨ W = 6 by omega) with rfl | rfl | rfl | rfl | rfl <;> omega
        · rw [if_neg q] at h; cases h
      · rw [if_neg e2] at h
        by_cases q : 0 < c % W
        · rw [if_pos q] at h; cases h
          rcases (show W = 2 ∨ W = 3 ∨ W = 4 ∨ W = 5 ∨ W = 6 by omega) with rfl | rfl | rfl | rfl | rfl <;> omega
        · rw [if_neg q] at h; cases h
