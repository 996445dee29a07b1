/-! ===== a page read as a sea: one letter ===== -/
def wayZ (c : Int) : Int := if c = 110 then 0 else if c = 101 then 1 else if c = 115 then 2 else if c = 119 then 3 else -1
theorem wayZ_i (c : Int) : (wayZ c = -1 ∧ c ≠ 110 ∧ c ≠ 101 ∧ c ≠ 115 ∧ c ≠ 119) ∨ (c = 110 ∧ wayZ c = 0) ∨ (c = 101 ∧ wayZ c = 1) ∨ (c = 115 ∧ wayZ c = 2) ∨ (c = 119 ∧ wayZ c = 3) := by
  unfold wayZ
  by_cases h1 : c = 110
  · rw [if_pos h1]; omega
  · rw [if_neg h1]
    by_cases h2 : c = 101
    · rw [if_pos h2]; omega
    · rw [if_neg h2]
      by_cases h3 : c = 115
      · rw [if_pos h3]; omega
      · rw [if_neg h3]
        by_cases h4 : c = 119
        · rw [if_pos h4]; omega
        · rw [if_neg h4]; omega
/-- rows done, width, squares in the row, the harbour's place (or -1), whether a current may come -/
abbrev SS : Type := Nat × Nat × Nat × Int × Nat
def stp (c : Int) (s : SS) : Option SS :=
  if wayZ c ≠ -1 then (if s.2.2.2.2 = 1 then some (s.1, s.2.1, s.2.2.1, s.2.2.2.1, 0) else none)
  else if c = 47 then (if 2 ≤ s.2.2.1 ∧ (s.1 = 0 ∨ s.2.2.1 = s.2.1) ∧ s.1 < 4 then some (s.1 + 1, s.2.2.1, 0, s.2.2.2.1, 0) else none)
  else if s.2.2.1 < (if s.1 = 0 then 6 else s.2.1) ∧ ((48 ≤ c ∧ c ≤ 57) ∨ c = 35 ∨ (c = 104 ∧ s.2.2.2.1 = -1)) then some (s.1, s.2.1, s.2.2.1 + 1, (if c = 104 then ((s.2.1 * s.1 + s.2.2.1 : Nat) : Int) else s.2.2.2.1), (if 48 ≤ c ∧ c ≤ 57 then 1 else 0)) else none
def okS (s : SS) : Prop := s.1 ≤ 4 ∧ (s.1 = 0 → s.2.1 = 0) ∧ (1 ≤ s.1 → 2 ≤ s.2.1 ∧ s.2.1 ≤ 6 ∧ s.2.2.1 ≤ s.2.1) ∧ s.2.2.1 ≤ 6 ∧ -1 ≤ s.2.2.2.1 ∧ s.2.2.2.1 ≤ 29 ∧ (s.2.2.2.2 = 0 ∨ (s.2.2.2.2 = 1 ∧ 1 ≤ s.2.2.1))
theorem at_b {R W M : Nat} (h1 : R ≤ 4) (h2 : R = 0 → W = 0) (h3 : 1 ≤ R → W ≤ 6) (h4 : M < (if R = 0 then 6 else W)) : W * R + M < 30 := by
  by_cases h : R = 0
  · rw [if_pos h] at h4
    rw [h, Nat.mul_zero]; omega
  · rw [if_neg h] at h4
    have := h3 (by omega)
    have e : W * R ≤ 6 * 4 := Nat.mul_le_mul this h1
    omega
theorem stp_ok {c : Int} {s s' : SS} (h : okS s) (e : stp c s = some s') : okS s' := by
  obtain ⟨R, W, M, H, F⟩ := s
  obtain ⟨h1, h2, h3, h4, h5, h6, h7⟩ := h
  dsimp only at h1 h2 h3 h4 h5 h6 h7
  unfold stp at e
  dsimp only at e
  by_cases w : wayZ c ≠ -1
  · rw [if_pos w] at e
    by_cases f : F = 1
    · rw [if_pos f] at e; cases e
      exact ⟨h1, h2, h3, h4, h5, h6, Or.inl rfl⟩
    · rw [if_neg f] at e; cases e
  · rw [if_neg w] at e
    by_cases q : c = 47
    · rw [if_pos q] at e
      by_cases r : 2 ≤ M ∧ (R = 0 ∨ M = W) ∧ R < 4
      · rw [if_pos r] at e; cases e
        refine ⟨?_, ?_, ?_, ?_, h5, h6, Or.inl rfl⟩
        · show R + 1 ≤ 4; omega
        · intro x; exact absurd x (Nat.succ_ne_zero R)
        · intro _
          show 2 ≤ M ∧ M ≤ 6 ∧ 0 ≤ M
          omega
        · exact Nat.zero_le _
      · rw [if_neg r] at e; cases e
    · rw [if_neg q] at e
      by_cases r : M < (if R = 0 then 6 else W) ∧ ((48 ≤ c ∧ c ≤ 57) ∨ c = 35 ∨ (c = 104 ∧ H = -1))
      · rw [if_pos r] at e; cases e
        have ab := at_b h1 h2 (fun x => (h3 x).2.1) r.1
        have M6 : M < 6 ∧ (1 ≤ R → M < W) := by
          by_cases z : R = 0
          · have := r.1; rw [if_pos z] at this; omega
          · have := r.1; rw [if_neg z] at this
            have := h3 (by omega)
            omega
        refine ⟨h1, h2, fun x => ?_, ?_, ?_, ?_, ?_⟩
        · have := h3 x
          have := M6.2 x
          show 2 ≤ W ∧ W ≤ 6 ∧ M + 1 ≤ W
          omega
        · show M + 1 ≤ 6; omega
        · show -1 ≤ (if c = 104 then ((W * R + M : Nat) : Int) else H)
          by_cases z : c = 104
          · rw [if_pos z]; omega
          · rw [if_neg z]; exact h5
        · show (if c = 104 then ((W * R + M : Nat) : Int) else H) ≤ 29
          by_cases z : c = 104
          · rw [if_pos z]; omega
          · rw [if_neg z]; exact h6
        · show (if 48 ≤ c ∧ c ≤ 57 then 1 else 0) = 0 ∨ ((if 48 ≤ c ∧ c ≤ 57 then 1 else 0) = 1 ∧ 1 ≤ M + 1)
          by_cases z : 48 ≤ c ∧ c ≤ 57
          · rw [if_pos z]; omega
          · rw [if_neg z]; omega
      · rw [if_neg r] at e; cases e
/-- the class's page stands so -/
def PS (σ : Sg) (s : SS) : Prop := rI σ 1 2 = yI (s.1 : Int) ∧ rI σ 1 3 = yI (s.2.2.1 : Int) ∧ rI σ 1 4 = yI (s.2.1 : Int) ∧ rI σ 1 5 = yI (if s.2.2.2.1 = -1 then 0 else 1) ∧ rI σ 1 6 = yI (s.2.2.2.2 : Int)
def pFr (σ σ' : Sg) : Prop := ∀ o j, ¬ (o = 1 ∧ 2 ≤ j) → rI σ' o j = rI σ o j
theorem pFr_w {σ σ' : Sg} {k : Nat} {v : Int32} (h : pFr σ σ') (hk : 2 ≤ k) : pFr σ (wI σ' 1 k v) := fun o j hn => by
  rw [rI_wI, if_neg (by omega)]; exact h o j hn
theorem f7_wayOf {σ : Sg} {c : Int} (h1 : -2147483648 ≤ c) (h2 : c < 2147483648) : fX7_wayOf (yI c) σ = some (yI (wayZ c), σ) := by
  unfold fX7_wayOf fX7_wayOf_b0
  rcases wayZ_i c with ⟨e, a1, a2, a3, a4⟩ | ⟨rfl, e⟩ | ⟨rfl, e⟩ | ⟨rfl, e⟩ | ⟨rfl, e⟩
  · rw [if_neg (yI_nl (v := 101) (b := 101) rfl h1 h2 a2), if_neg (yI_nl (v := 110) (b := 110) rfl h1 h2 a1), if_neg (yI_nl (v := 115) (b := 115) rfl h1 h2 a3), if_neg (yI_nl (v := 119) (b := 119) rfl h1 h2 a4), e]; rfl
  · rw [if_neg (show ¬ yI 110 = 101 by decide), if_pos (show yI 110 = 110 from rfl), e]; rfl
  · rw [if_pos (show yI 101 = 101 from rfl), e]; rfl
  · rw [if_neg (show ¬ yI 115 = 101 by decide), if_neg (show ¬ yI 115 = 110 by decide), if_pos (show yI 115 = 115 from rfl), e]; rfl
  · rw [if_neg (show ¬ yI 119 = 101 by decide), if_neg (show ¬ yI 119 = 110 by decide), if_neg (show ¬ yI 119 = 115 by decide), if_pos (show yI 119 = 119 from rfl), e]; rfl
theorem f10_flowOf {σ : Sg} {c : Int} (h1 : -2147483648 ≤ c) (h2 : c < 2147483648) : fX10_flowOf (yI c) σ = some (yI (wayZ c), σ) := by
  unfold fX10_flowOf fX10_flowOf_b0
  rcases wayZ_i c with ⟨e, a1, a2, a3, a4⟩ | ⟨rfl, e⟩ | ⟨rfl, e⟩ | ⟨rfl, e⟩ | ⟨rfl, e⟩
  · rw [if_neg (yI_nl (v := 110) (b := 110) rfl h1 h2 a1), if_neg (yI_nl (v := 101) (b := 101) rfl h1 h2 a2), if_neg (yI_nl (v := 115) (b := 115) rfl h1 h2 a3), if_neg (yI_nl (v := 119) (b := 119) rfl h1 h2 a4), e]; rfl
  · rw [if_pos (show yI 110 = 110 from rfl), e]; rfl
  · rw [if_neg (show ¬ yI 101 = 110 by decide), if_pos (show yI 101 = 101 from rfl), e]; rfl
  · rw [if_neg (show ¬ yI 115 = 110 by decide), if_neg (show ¬ yI 115 = 101 by decide), if_pos (show yI 115 = 115 from rfl), e]; rfl
  · rw [if_neg (show ¬ yI 119 = 110 by decide), if_neg (show ¬ yI 119 = 101 by decide), if_neg (show ¬ yI 119 = 115 by decide), if_pos (show yI 119 = 119 from rfl), e]; rfl
