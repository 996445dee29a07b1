/-! ===== the common divisor ===== -/
theorem lg_z {b : Nat} (hb : b < 2 ^ 63) : lg_cmp (lN b) (0 : Int64) = 0 ↔ b = 0 := by
  have e0 : (0 : Int64) = lN 0 := rfl
  unfold lg_cmp
  rw [e0]
  by_cases h : b = 0
  · rw [h, if_neg (fun q => by have := (pk_lLT (by decide) (by decide)).mp q; omega), if_pos rfl]
    exact ⟨fun _ => rfl, fun _ => rfl⟩
  · rw [if_pos ((pk_lLT (by decide) hb).mpr (by omega))]
    exact ⟨fun q => absurd q (by decide), fun q => absurd q h⟩
theorem lN_ne {b : Nat} (hb : b < 2 ^ 63) (h : b ≠ 0) : ¬ lN b = 0 := fun q => h ((pk_lEQ (b := 0) hb (by decide)).mp q)
theorem half {a b : Nat} (h : a % b ≠ 0) (hb : b ≠ 0) {k : Nat} (hk : b < 2 ^ (k + 1)) : b % (a % b) < 2 ^ k := by
  have h1 : a % b < b := Nat.mod_lt _ (by omega)
  rw [Nat.pow_succ] at hk
  generalize a % b = r at *
  have h2 : b % r < r := Nat.mod_lt _ (by omega)
  by_cases q : r ≤ b / 2
  · omega
  · have : b % r = b - r := by
      rw [Nat.mod_eq_sub_mod (by omega), Nat.mod_eq_of_lt (by omega)]
    omega
theorem f10_gcd (σ : Sg) : ∀ (k x y n : Nat), x < 2 ^ k → x < 2 ^ 63 → y < 2 ^ 63 → 2 * k < n → lp (fun s : Int64 × Int64 × Sg => fX10_common_b6 s.1 s.2.1 s.2.2) n (lN x, lN y, σ) = some (lN (Nat.gcd x y), σ) := by
  have hz : ∀ (x y n : Nat), x = 0 → lp (fun s : Int64 × Int64 × Sg => fX10_common_b6 s.1 s.2.1 s.2.2) (n + 1) (lN x, lN y, σ) = some (lN (Nat.gcd x y), σ) := fun x y n h => by
    refine lp_en ?_
    dsimp only
    unfold fX10_common_b6
    rw [h, Nat.gcd_zero_left, if_pos ((lg_z (by decide)).mpr rfl)]
  have hs : ∀ (x y n : Nat), x ≠ 0 → x < 2 ^ 63 → y < 2 ^ 63 → lp (fun s : Int64 × Int64 × Sg => fX10_common_b6 s.1 s.2.1 s.2.2) (n + 1) (lN x, lN y, σ) = lp (fun s : Int64 × Int64 × Sg => fX10_common_b6 s.1 s.2.1 s.2.2) n (lN (y % x), lN x, σ) := fun x y n h hx hy => by
    refine lp_st ?_
    dsimp only
    unfold fX10_common_b6
    rw [if_neg (fun q => h ((lg_z hx).mp q)), if_neg (lN_ne hx h), pk_lRem hy (by omega) hx]
  intro k
  induction k with
  | zero =>
    intro x y n hx hx' hy hn
    cases n with
    | zero => omega
    | succ n => exact hz x y n (by rw [Nat.pow_zero] at hx; omega)
  | succ k ih =>
    intro x y n hx hx' hy hn
    obtain ⟨n, rfl⟩ : ∃ n', n = n' + 3 := ⟨n - 3, by omega⟩
    by_cases h0 : x = 0
    · exact hz x y _ h0
    · rw [hs x y _ h0 hx' hy]
      have hlt : y % x < x := Nat.mod_lt _ (by omega)
      by_cases h1 : y % x = 0
      · rw [hz (y % x) x _ h1, Nat.gcd_rec x y]
      · rw [hs (y % x) x _ h1 (by omega) hx', ih _ _ _ (half h1 h0 hx) (by have : x % (y % x) < y % x := Nat.mod_lt _ (by omega); omega) (by omega) (by omega), Nat.gcd_rec x y, Nat.gcd_rec (y % x) x]
theorem f10_common {σ : Sg} {a b : Nat} (ha : a < 2 ^ 60) (hb : b < 2 ^ 63) : fX10_common (lN a) (lN b) σ = some (lN (Nat.gcd a b), σ) := by
  unfold fX10_common fX10_common_b0
  rw [b1 (f10_gcd σ 60 a b FU ha (by omega) hb (FU_b (by decide)))]
