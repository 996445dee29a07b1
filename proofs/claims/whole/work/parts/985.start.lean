/-! ===== the two new objects ===== -/
theorem iX9 : cC σX9 1 1 = 0 ∧ cC σX9 0 10 = 0 ∧ cC σX9 4 5 = 0 ∧ cC σX9 0 9 = 0 ∧ cC σX9 41 0 = 3 ∧ cC σX9 41 1 = 1 ∧ cC σX9 41 2 = 20 ∧ cC σX9 49 3 = 0 ∧ cC σX9 0 11 = 0 ∧ cC σX9 53 5 = 0 := by decide +kernel
theorem iX10 : cM σX10 0 1 = 0 ∧ cM σX10 0 12 = 0 ∧ cM σX10 0 9 = 0 ∧ cM σX10 0 10 = 0 ∧ cM σX10 0 15 = 0 ∧ cM σX10 0 17 = 3 ∧ cM σX10 0 18 = 1 ∧ cM σX10 0 19 = 20 ∧ cM σX10 0 20 = 0 ∧ cM σX10 0 40 = 0 ∧ cM σX10 0 43 = -1 := by decide +kernel
theorem Inv_0 : Inv 0 σX9 σX10 := by
  obtain ⟨a1, a2, a3, a4, a5, a6, a7, a8, a9, a10⟩ := iX9
  obtain ⟨c1, c2, c3, c4, c5, c6, c7, c8, c9, c10, c11⟩ := iX10
  refine ⟨⟨by rw [a1, c1], by rw [c1]; omega, by rw [c1]; omega, fun k hk => by rw [c1] at hk; omega⟩, ⟨by rw [a2, c2], by rw [c2]; omega, by rw [c2]; omega, Or.inl ⟨c2, c3, c4, a3⟩⟩, ⟨by rw [a4, c5], by rw [c5]; omega, by rw [c5]; omega, fun b hb => by rw [c5] at hb; omega⟩, ⟨by rw [a5, c6], by rw [a6, c7], by rw [a7, c8], by rw [c6, c7, c8]; unfold VK; omega⟩, ⟨by rw [a8, c9], by rw [c9]; omega, by rw [c9]; omega, fun k hk => by rw [c9] at hk; omega⟩, ⟨by rw [a9, c10], by rw [c10]; omega, by rw [c10]; omega⟩, Or.inl ⟨c11, a10⟩, fun b hb => by rw [c5] at hb; omega⟩
theorem sim : Sim Inv := ⟨s_letters, s_blank, s_fault, s_sea, s_square, s_berg, s_as, s_about, s_change, s_coin, s_tow, s_ways, s_best, s_season, s_more, s_drawn, s_came, s_letOff, s_line, s_claims, s_image, s_restore, s_count, s_digest⟩
