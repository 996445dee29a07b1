/-! ===== claims: both sides ===== -/
theorem VL.LR {σ τ : Sg} (hl : VL (cC σ) (cM τ)) {L : Nat} (hL : cM τ 0 20 = (L : Int)) : LR σ (cM τ) L := by
  have l10 := hl.2.2.1
  refine ⟨by rw [cC_r (o := 49) (k := 3) rfl, hl.1, hL], by omega, fun k hk => ?_⟩
  obtain ⟨v, e0, e1, e2⟩ := hl.2.2.2 k (by omega)
  exact ⟨v, by rw [cC_r (o := 50) (k := k) rfl, e0], by rw [cC_r (o := 51) (k := k) rfl, e1], by rw [cC_r (o := 52) (k := k) rfl, e2]⟩
/-- the answer: shares, first line, part -/
def clA (u l : Nat) (p : Int) : Int32 := if Nat.gcd u l = 0 then yI p else if p = 0 then yI ((u / Nat.gcd u l : Nat) : Int) else yI ((l / Nat.gcd u l : Nat) : Int)
