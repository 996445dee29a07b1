/-! ===== what a page read as a sea tells ===== -/
def GD (s : SS) (w f : Nat → Int) : Prop := (s.2.2.2.1 ≠ -1 → 0 ≤ s.2.2.2.1 ∧ s.2.2.2.1 < (atS s : Int) ∧ w s.2.2.2.1.toNat = 10) ∧ ∀ i, i < atS s → 0 ≤ w i ∧ w i ≤ 11 ∧ -1 ≤ f i ∧ f i ≤ 3 ∧ (w i = 10 → (i : Int) = s.2.2.2.1)
theorem stp_gd {c : Int} {s s' : SS} {w f : Nat → Int} (ok : okS s) (e : stp c s = some s') (g : GD s w f) : GD s' (lw c s w) (lf c s f) := by
  obtain ⟨R, W, M, H, F⟩ := s
  obtain ⟨h1, h2, h3, h4, h5, h6, h7⟩ := ok
  obtain ⟨g1, g2⟩ := g
  dsimp only at h1 h2 h3 h4 h5 h6 h7 g1
  have g1 : H ≠ -1 → 0 ≤ H ∧ H < ((W * R + M : Nat) : Int) ∧ w H.toNat = 10 := g1
  have g2 : ∀ i, i < W * R + M → 0 ≤ w i ∧ w i ≤ 11 ∧ -1 ≤ f i ∧ f i ≤ 3 ∧ (w i = 10 → (i : Int) = H) := g2
  have wb : -1 ≤ wayZ c ∧ wayZ c ≤ 3 := by
    have := wayZ_i c
    omega
  unfold stp at e
  dsimp only at e
  by_cases q : wayZ c ≠ -1
  · rw [if_pos q] at e
    have e1 : lw c (R, W, M, H, F) w = w := by unfold lw; rw [if_pos (Or.inl q)]
    rw [e1]
    by_cases z : F = 1
    · rw [if_pos z] at e; cases e
      refine ⟨g1, fun i hi => ?_⟩
      have hi : i < W * R + M := hi
      have e2 : lf c (R, W, M, H, F) f i = if i = W * R + M - 1 then wayZ c else f i := by unfold lf; rw [if_pos q]; rfl
      have := g2 i hi
      rw [e2]
      by_cases y : i = W * R + M - 1
      · rw [if_pos y]; exact ⟨this.1, this.2.1, wb.1, wb.2, this.2.2.2.2⟩
      · rw [if_neg y]; exact this
    · rw [if_neg z] at e; cases e
  · rw [if_neg q] at e
    by_cases z : c = 47
    · rw [if_pos z] at e
      have e1 : lw c (R, W, M, H, F) w = w := by unfold lw; rw [if_pos (Or.inr z)]
      have e2 : lf c (R, W, M, H, F) f = f := by unfold lf; rw [if_neg q, if_pos z]
      rw [e1, e2]
      by_cases y : 2 ≤ M ∧ (R = 0 ∨ M = W) ∧ R < 4
      · rw [if_pos y] at e; cases e
        have ea : M * (R + 1) + 0 = W * R + M := by
          rcases y.2.1 with zz | zz
          · rw [zz, Nat.mul_zero]; omega
          · rw [zz, Nat.mul_add]; omega
        refine ⟨fun n => ?_, fun i hi => ?_⟩
        · have := g1 n
          show 0 ≤ H ∧ H < ((M * (R + 1) + 0 : Nat) : Int) ∧ _
          rw [ea]; exact this
        · have hi : i < M * (R + 1) + 0 := hi
          exact g2 i (by omega)
      · rw [if_neg y] at e; cases e
    · rw [if_neg z] at e
      by_cases y : M < (if R = 0 then 6 else W) ∧ ((48 ≤ c ∧ c ≤ 57) ∨ c = 35 ∨ (c = 104 ∧ H = -1))
      · rw [if_pos y] at e; cases e
        have e1 : ∀ i, lw c (R, W, M, H, F) w i = if i = W * R + M then vz c else w i := fun i => by unfold lw; rw [if_neg (by omega)]; rfl
        have e2 : ∀ i, lf c (R, W, M, H, F) f i = if i = W * R + M then -1 else f i := fun i => by unfold lf; rw [if_neg q, if_neg z]; rfl
        refine ⟨fun n => ?_, fun i hi => ?_⟩
        · show 0 ≤ (if c = 104 then ((W * R + M : Nat) : Int) else H) ∧ (if c = 104 then ((W * R + M : Nat) : Int) else H) < ((W * R + (M + 1) : Nat) : Int) ∧ lw c (R, W, M, H, F) w (if c = 104 then ((W * R + M : Nat) : Int) else H).toNat = 10
          have n : (if c = 104 then ((W * R + M : Nat) : Int) else H) ≠ -1 := n
          by_cases x : c = 104
          · rw [if_pos x, Int.toNat_natCast, e1, if_pos rfl]
            refine ⟨by omega, by omega, ?_⟩
            unfold vz; rw [if_pos x]
          · rw [if_neg x] at n ⊢
            have := g1 n
            rw [e1, if_neg (by omega)]
            exact ⟨this.1, by omega, this.2.2⟩
        · have hi : i < W * R + (M + 1) := hi
          show 0 ≤ lw c (R, W, M, H, F) w i ∧ lw c (R, W, M, H, F) w i ≤ 11 ∧ -1 ≤ lf c (R, W, M, H, F) f i ∧ lf c (R, W, M, H, F) f i ≤ 3 ∧ (lw c (R, W, M, H, F) w i = 10 → (i : Int) = (if c = 104 then ((W * R + M : Nat) : Int) else H))
          rw [e1, e2]
          by_cases x : i = W * R + M
          · rw [if_pos x, if_pos x]
            unfold vz
            rcases y.2 with a | a | ⟨a, a2⟩
            · rw [if_neg (by omega), if_neg (by omega)]
              refine ⟨by omega, by omega, by omega, by omega, fun n => by omega⟩
            · rw [if_neg (by omega), if_pos a]
              refine ⟨by omega, by omega, by omega, by omega, fun n => by omega⟩
            · rw [if_pos a, if_pos a]
              refine ⟨by omega, by omega, by omega, by omega, fun n => by omega⟩
          · rw [if_neg x, if_neg x]
            have := g2 i (by omega)
            refine ⟨this.1, this.2.1, this.2.2.1, this.2.2.2.1, fun n => ?_⟩
            have k := this.2.2.2.2 n
            rcases y.2 with a | a | ⟨a, a2⟩
            · rw [if_neg (by omega)]; exact k
            · rw [if_neg (by omega)]; exact k
            · omega
      · rw [if_neg y] at e; cases e
theorem scn_gd {p : Nat → Int} : ∀ (k : Nat) (s : SS), scn p k = some s → GD s (scw p k) (scf p k)
  | 0, s, h => by
    cases h
    exact ⟨fun q => absurd rfl q, fun i hi => absurd hi (Nat.not_lt_zero i)⟩
  | k + 1, s, h => by
    obtain ⟨s0, h1, h2⟩ := Option.bind_eq_some_iff.mp h
    have hw : scw p (k + 1) = lw (p k) s0 (scw p k) := by
      show (match scn p k with | none => scw p k | some s => lw (p k) s (scw p k)) = _
      rw [h1]
    have hf : scf p (k + 1) = lf (p k) s0 (scf p k) := by
      show (match scn p k with | none => scf p k | some s => lf (p k) s (scf p k)) = _
      rw [h1]
    rw [hw, hf]
    exact stp_gd (scn_ok k s0 h1) h2 (scn_gd k s0 h1)
