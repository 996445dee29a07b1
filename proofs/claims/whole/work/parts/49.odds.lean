/-! ===== letOff: refusals ===== -/
theorem s_letOff (a0 a1 a2 a3 a4 : Int32) : SimJ Inv (fX9_letOff a0 a1 a2 a3 a4) (fX10_letOff a0 a1 a2 a3 a4) := fun n σ τ _ h => by
  obtain ⟨z, h1, h2, rfl⟩ := yI_ex a0
  obtain ⟨d, h3, h4, rfl⟩ := yI_ex a1
  obtain ⟨q, h5, h6, rfl⟩ := yI_ex a2
  obtain ⟨o, h7, h8, rfl⟩ := yI_ex a3
  obtain ⟨w, h9, h10, rfl⟩ := yI_ex a4
  have g1 := in_zz h1 h2 (show (0 : Int64).toInt = 0 from rfl) (show (999 : Int64).toInt = 999 from rfl) τ
  have g2 := in_zz h3 h4 (show (0 : Int64).toInt = 0 from rfl) (show (9 : Int64).toInt = 9 from rfl) τ
  have g3 := in_zz h5 h6 (show (0 : Int64).toInt = 0 from rfl) (show (99 : Int64).toInt = 99 from rfl) τ
  have g4 := in_zz h7 h8 (show (0 : Int64).toInt = 0 from rfl) (show (9 : Int64).toInt = 9 from rfl) τ
  have g5 := in_zz h9 h10 (show (0 : Int64).toInt = 0 from rfl) (show (2 : Int64).toInt = 2 from rfl) τ
  by_cases all : (0 ≤ z ∧ z ≤ 999) ∧ (0 ≤ d ∧ d ≤ 9) ∧ (0 ≤ q ∧ q ≤ 99) ∧ (0 ≤ o ∧ o ≤ 9) ∧ (0 ≤ w ∧ w ≤ 2)
  · obtain ⟨z, rfl⟩ := Int.eq_ofNat_of_zero_le all.1.1
    obtain ⟨d, rfl⟩ := Int.eq_ofNat_of_zero_le all.2.1.1
    obtain ⟨q, rfl⟩ := Int.eq_ofNat_of_zero_le all.2.2.1.1
    obtain ⟨o, rfl⟩ := Int.eq_ofNat_of_zero_le all.2.2.2.1.1
    obtain ⟨w, rfl⟩ := Int.eq_ofNat_of_zero_le all.2.2.2.2.1
    exact letOff_ok h (by omega) (by omega) (by omega) (by omega) (by omega)
  · refine ⟨-102, σ, τ, ?_, ?_, Inv_n n σ τ h⟩
    · have e55 : ∀ x6 y0 : Int32, (x6 = 0 ∨ y0 = 0 ∨ ¬ (0 ≤ w ∧ w ≤ 2)) → fX9_letOff_b55 (yI z) (yI d) (yI q) (yI o) (yI w) x6 y0 σ = some (-102, σ) := fun x6 y0 hh => by
        unfold fX9_letOff_b55
        by_cases c1 : x6 = 0
        · rw [if_pos c1]
        · rw [if_neg c1]
          by_cases c2 : y0 = 0
          · rw [if_pos c2]
          · rw [if_neg c2]
            by_cases c3 : w < 0
            · rw [if_pos (ltp (v := 0) (b := 0) rfl h9 h10 c3)]
            · rw [if_neg (ltn (v := 0) (b := 0) rfl h9 h10 (by omega))]
              have c4 : 2 < w := by
                rcases hh with e | e | e
                · exact absurd e c1
                · exact absurd e c2
                · omega
              rw [if_neg (len (v := 2) (b := 2) rfl h9 h10 c4)]
      have e26 : ∀ y0 : Int32, (y0 = 0 ∨ ¬ ((0 ≤ d ∧ d ≤ 9) ∧ (0 ≤ o ∧ o ≤ 9) ∧ (0 ≤ w ∧ w ≤ 2))) → fX9_letOff_b26 (yI z) (yI d) (yI q) (yI o) (yI w) y0 σ = some (-102, σ) := fun y0 hh => by
        have e54 : fX9_letOff_b54 (yI z) (yI d) (yI q) (yI o) (yI w) y0 σ = some (-102, σ) := e55 _ _ (Or.inr (Or.inl rfl))
        unfold fX9_letOff_b26
        by_cases c1 : d < 0
        · rw [if_pos (ltp (v := 0) (b := 0) rfl h3 h4 c1), e54]
        · rw [if_neg (ltn (v := 0) (b := 0) rfl h3 h4 (by omega))]
          by_cases c2 : 9 < d
          · rw [if_pos (gtp (v := 9) (b := 9) rfl h3 h4 c2), e54]
          · rw [if_neg (gtn (v := 9) (b := 9) rfl h3 h4 (by omega))]
            by_cases c3 : o < 0
            · rw [if_pos (ltp (v := 0) (b := 0) rfl h7 h8 c3), e54]
            · rw [if_neg (ltn (v := 0) (b := 0) rfl h7 h8 (by omega))]
              by_cases c4 : 9 < o
              · rw [if_pos (gtp (v := 9) (b := 9) rfl h7 h8 c4), e54]
              · rw [if_neg (gtn (v := 9) (b := 9) rfl h7 h8 (by omega))]
                refine e55 _ _ ?_
                rcases hh with e | e
                · exact Or.inl e
                · exact Or.inr (Or.inr (by omega))
      have e25 : fX9_letOff_b25 (yI z) (yI d) (yI q) (yI o) (yI w) σ = some (-102, σ) := e26 _ (Or.inl rfl)
      unfold fX9_letOff fX9_letOff_b0
      by_cases c1 : z < 0
      · rw [if_pos (ltp (v := 0) (b := 0) rfl h1 h2 c1), e25]
      · rw [if_neg (ltn (v := 0) (b := 0) rfl h1 h2 (by omega))]
        by_cases c2 : 999 < z
        · rw [if_pos (gtp (v := 999) (b := 999) rfl h1 h2 c2), e25]
        · rw [if_neg (gtn (v := 999) (b := 999) rfl h1 h2 (by omega))]
          by_cases c3 : q < 0
          · rw [if_pos (ltp (v := 0) (b := 0) rfl h5 h6 c3), e25]
          · rw [if_neg (ltn (v := 0) (b := 0) rfl h5 h6 (by omega))]
            by_cases c4 : 99 < q
            · rw [if_pos (gtp (v := 99) (b := 99) rfl h5 h6 c4), e25]
            · rw [if_neg (gtn (v := 99) (b := 99) rfl h5 h6 (by omega))]
              exact e26 _ (Or.inr (by omega))
    · unfold fX10_letOff fX10_letOff_b0
      by_cases c1 : 0 ≤ z ∧ z ≤ 999
      · rw [bt g1 c1]
        dsimp only
        by_cases c2 : 0 ≤ d ∧ d ≤ 9
        · rw [bt g2 c2]
          dsimp only
          by_cases c3 : 0 ≤ q ∧ q ≤ 99
          · rw [bt g3 c3]
            dsimp only
            by_cases c4 : 0 ≤ o ∧ o ≤ 9
            · rw [bt g4 c4]
              dsimp only
              rw [bf g5 (fun c5 => all ⟨c1, c2, c3, c4, c5⟩)]
            · rw [bf g4 c4]
          · rw [bf g3 c3]
        · rw [bf g2 c2]
      · rw [bf g1 c1]
