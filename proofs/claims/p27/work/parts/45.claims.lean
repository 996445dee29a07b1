/-! ===== claims ===== -/
theorem yI_lN {n : Nat} (h : n < 2147483648) : (yI (n : Int)).toInt64 = lN n := by rw [← yI_nat]; exact nI_l h
theorem lN_yI (n : Nat) : (lN n).toInt32 = yI (n : Int) := by rw [lN_i, yI_nat]
theorem divn {a b : Nat} (ha : a < 2147483648) (h0 : 0 < b) (hb : b < 2147483648) : yI (a : Int) / yI (b : Int) = yI ((a / b : Nat) : Int) := by
  rw [yI_div (by omega) (by omega) (by omega) (by omega)]; rfl
theorem gcd_lt {u l : Nat} (hu : u < 2147483648) (hl : l < 2147483648) : Nat.gcd u l < 2147483648 := by
  by_cases h : u = 0
  · rw [h, Nat.gcd_zero_left]; exact hl
  · exact Nat.lt_of_le_of_lt (Nat.gcd_le_left l (by omega)) hu
theorem c251 {τ : Sg} {p : Int} {u l : Nat} (hp : p = 0 ∨ p = 1) (hu : u < 2147483648) (hl : l < 2147483648) (h0 : 0 < l) : fX10_claims_b251 (yI p) (yI (u : Int)) (yI (l : Int)) τ = some (if Nat.gcd u l = 0 then yI p else if p = 0 then yI ((u / Nat.gcd u l : Nat) : Int) else yI ((l / Nat.gcd u l : Nat) : Int), τ) := by
  have hg := gcd_lt hu hl
  have g0 : 0 < Nat.gcd u l := Nat.gcd_pos_of_pos_right u h0
  unfold fX10_claims_b251
  rw [yI_lN hu, yI_lN hl, b1 (f10_common (by omega) (by omega))]
  dsimp only
  rw [lN_yI]
  generalize Nat.gcd u l = g at *
  have n0 : ¬ yI (g : Int) = 0 := yI_nl (v := 0) (b := 0) rfl (by omega) (by omega) (by omega)
  rw [if_neg (c := g = 0) (by omega)]
  rcases hp with rfl | rfl
  · rw [if_pos (show yI 0 = 0 from rfl), if_neg n0, if_pos rfl, divn hu (by omega) hg]
  · rw [if_neg (show ¬ yI 1 = 0 by decide), if_neg n0, if_neg (by omega), divn hl (by omega) hg]
theorem f10_lines {τ : Sg} {L : Nat} (hL : rI τ 0 20 = yI (L : Int)) (L10 : L ≤ 10) (hv : ∀ k : Nat, k < L → VL1 (cM τ) k) {b d x p : Int} (h1 : 0 ≤ b ∧ b < 5) (h2 : 0 ≤ d ∧ d ≤ 999) (hx : 0 ≤ x ∧ x ≤ 4) {r : Nat} (hr : r ≤ 2) : ∃ t, lp (fun s : Int32 × Int32 × Int32 × Int32 × Sg => fX10_claims_b74 (yI x) (yI b) (yI d) (yI (r : Int)) (yI p) s.1 s.2.1 s.2.2.1 s.2.2.2.1 s.2.2.2.2) FU ((0 : Int32), (0 : Int32), (-1 : Int32), (0 : Int32), τ) = some t ∧ t = (yI (sh (cM τ) b d r x L : Int), yI (sa (cM τ) b d r L : Int), yI (ff (cM τ) b d L), τ) := by
  refine lp_all (fun k s => s = (yI (sh (cM τ) b d r x k : Int), yI (sa (cM τ) b d r k : Int), yI (ff (cM τ) b d k), yI (k : Int), τ)) L _ ?_ ?_ rfl (FU_b (by omega))
  · rintro k s hk rfl
    obtain ⟨v1, v2, v3, v4, v5, v6⟩ := hv k hk
    have fb := (sa_b (b := b) (r := 0) hv h2.2 k (by omega)).2.2
    have r0 : rI τ 7 (3 * k) = yI (cM τ 7 (3 * k)) := cM_r rfl
    have r1 : rI τ 7 (3 * k + 1) = yI (cM τ 7 (3 * k + 1)) := cM_r rfl
    have r2 : ∀ k, rI τ 7 (3 * k + 2) = yI (cM τ 7 (3 * k + 2)) := fun k => cM_r rfl
    have e1 : sh (cM τ) b d r x (k + 1) = sh (cM τ) b d r x k + (if (cM τ 7 (3 * k + 1) = b ∧ cM τ 7 (3 * k + 2) < d) ∧ cM τ 7 (3 * k) = x then mu (cM τ) d r k else 0) := rfl
    have e2 : sa (cM τ) b d r (k + 1) = sa (cM τ) b d r k + (if cM τ 7 (3 * k + 1) = b ∧ cM τ 7 (3 * k + 2) < d then mu (cM τ) d r k else 0) := rfl
    have e3 : ff (cM τ) b d (k + 1) = if (cM τ 7 (3 * k + 1) = b ∧ cM τ 7 (3 * k + 2) < d) ∧ (ff (cM τ) b d k = -1 ∨ cM τ 7 (3 * k + 2) < cM τ 7 (3 * (ff (cM τ) b d k).toNat + 2)) then (k : Int) else ff (cM τ) b d k := rfl
    refine ⟨_, ?_, rfl⟩
    dsimp only
    rw [e1, e2, e3]
    have vg : ∀ g : Nat, (g : Int) < (k : Int) → 0 ≤ cM τ 7 (3 * g + 2) ∧ cM τ 7 (3 * g + 2) ≤ 99 := fun g hg => by
      obtain ⟨w1, w2, w3, w4, w5, w6⟩ := hv g (by omega)
      exact ⟨w5, w6⟩
    have hmu : (if r = 1 then yI (d - cM τ 7 (3 * k + 2)) else 1) = yI ((d - cM τ 7 (3 * k + 2)) * (if r = 1 then 1 else 0) + (if r = 1 then 0 else 1)) := by
      by_cases q : r = 1
      · rw [if_pos q, if_pos q, if_pos q]; congr 1; omega
      · rw [if_neg q, if_neg q, if_neg q, Int.mul_zero]; rfl
    clear hmu
    generalize sh (cM τ) b d r x k = S at *
    generalize sa (cM τ) b d r k = A at *
    generalize ff (cM τ) b d k = f at *
    unfold fX10_claims_b74
    rw [hL, if_neg (fun q => by have := (yI_le (by omega) (by omega) (by omega) (by omega)).mp q; omega), mul3, add1, add2, if_pos (inb_n (by omega) (by omega)), if_pos (inb_n (by omega) (by omega)), yI_cln (by omega), yI_cln (by omega), r1, r2]
    have H : ∀ y : Nat, y < 1000 → ((cM τ 7 (3 * k + 1) = b ∧ cM τ 7 (3 * k + 2) < d)) → fX10_claims_b131 (yI x) (yI b) (yI d) (yI (r : Int)) (yI p) (yI (S : Int)) (yI (A : Int)) (yI f) (yI (k : Int)) (yI (cM τ 7 (3 * k + 2))) (yI (y : Int)) τ = some (.inl (yI ((S + (if cM τ 7 (3 * k) = x then y else 0) : Nat) : Int), yI ((A + y : Nat) : Int), yI (if f = -1 ∨ cM τ 7 (3 * k + 2) < cM τ 7 (3 * f.toNat + 2) then (k : Int) else f), yI ((k + 1 : Nat) : Int), τ)) := fun y hy hq => by
      have H2 : ∀ z : Nat, fX10_claims_b161 (yI x) (yI b) (yI d) (yI (r : Int)) (yI p) (yI ((A + y : Nat) : Int)) (yI f) (yI (k : Int)) (yI (cM τ 7 (3 * k + 2))) (yI (z : Int)) (yI (S : Int)) τ = some (.inl (yI ((S + z : Nat) : Int), yI ((A + y : Nat) : Int), yI (if f = -1 ∨ cM τ 7 (3 * k + 2) < cM τ 7 (3 * f.toNat + 2) then (k : Int) else f), yI ((k + 1 : Nat) : Int), τ)) := fun z => by
        unfold fX10_claims_b161 fX10_claims_b186 fX10_claims_b193 fX10_claims_b195
        rw [addn, add1]
        by_cases q3 : f = -1
        · rw [if_pos (eqp (v := -1) (b := -1) rfl q3), if_pos (Or.inl q3)]
        · have fb2 := fb q3
          obtain ⟨g, rfl⟩ := Int.eq_ofNat_of_zero_le fb2.2.1
          have w := vg g fb2.2.2
          rw [if_neg (yI_nl (v := -1) (b := -1) rfl (by omega) (by omega) q3), mul3, add2, if_pos (inb_n (by omega) (by omega)), yI_cln (by omega), r2, Int.toNat_natCast]
          by_cases q4 : cM τ 7 (3 * k + 2) < cM τ 7 (3 * g + 2)
          · rw [if_neg (fun q => by have := (yI_le (by omega) (by omega) (by omega) (by omega)).mp q; omega), if_pos (Or.inr q4)]
          · rw [if_pos ((yI_le (by omega) (by omega) (by omega) (by omega)).mpr (by omega)), if_neg (show ¬ ((g : Int) = -1 ∨ cM τ 7 (3 * k + 2) < cM τ 7 (3 * g + 2)) from fun q => by omega)]
      unfold fX10_claims_b131
      rw [mul3, if_pos (inb_n (by omega) (by omega)), yI_cln (by omega), r0, addn]
      by_cases q : cM τ 7 (3 * k) = x
      · rw [if_pos (by rw [q]), H2, if_pos q]
      · rw [if_neg (fun z => q (yI_inj (by omega) (by omega) (by omega) (by omega) z)), if_neg q]
        exact H2 0
    by_cases q1 : cM τ 7 (3 * k + 1) = b
    · rw [if_pos (by rw [q1])]
      by_cases q2 : cM τ 7 (3 * k + 2) < d
      · have qq : cM τ 7 (3 * k + 1) = b ∧ cM τ 7 (3 * k + 2) < d := ⟨q1, q2⟩
        have ub := mu_b (r := r) v5 q2 h2.2
        have eS : (if (cM τ 7 (3 * k + 1) = b ∧ cM τ 7 (3 * k + 2) < d) ∧ cM τ 7 (3 * k) = x then mu (cM τ) d r k else 0) = if cM τ 7 (3 * k) = x then mu (cM τ) d r k else 0 := by
          by_cases q : cM τ 7 (3 * k) = x
          · rw [if_pos ⟨qq, q⟩, if_pos q]
          · rw [if_neg (fun z => q z.2), if_neg q]
        have eF : (if (cM τ 7 (3 * k + 1) = b ∧ cM τ 7 (3 * k + 2) < d) ∧ (f = -1 ∨ cM τ 7 (3 * k + 2) < cM τ 7 (3 * f.toNat + 2)) then (k : Int) else f) = if f = -1 ∨ cM τ 7 (3 * k + 2) < cM τ 7 (3 * f.toNat + 2) then (k : Int) else f := by
          by_cases q : f = -1 ∨ cM τ 7 (3 * k + 2) < cM τ 7 (3 * f.toNat + 2)
          · rw [if_pos ⟨qq, q⟩, if_pos q]
          · rw [if_neg (fun z => q z.2), if_neg q]
        rw [if_neg (fun q => by have := (yI_le (by omega) (by omega) (by omega) (by omega)).mp q; omega), eS, eF, if_pos qq]
        by_cases q3 : r = 1
        · have em : yI d - yI (cM τ 7 (3 * k + 2)) = yI (mu (cM τ) d r k : Int) := by
            rw [yI_sub]; unfold mu; rw [if_pos q3]; congr 1; omega
          rw [if_pos (eqp (v := 1) (b := 1) rfl (by omega)), em, H _ (by omega) qq]
        · have em : (1 : Int32) = yI (mu (cM τ) d r k : Int) := by
            unfold mu; rw [if_neg q3]; rfl
          rw [if_neg (yI_nl (v := 1) (b := 1) rfl (by omega) (by omega) (by omega))]
          have := H (mu (cM τ) d r k) (by omega) qq
          rw [← em] at this
          exact this
      · rw [if_pos ((yI_le (by omega) (by omega) (by omega) (by omega)).mpr (by omega)), if_neg (fun z => q2 z.1.2), if_neg (fun z => q2 z.2), if_neg (fun z => q2 z.1.2)]
        unfold fX10_claims_b195
        rw [add1]; rfl
    · rw [if_neg (fun z => q1 (yI_inj (by omega) (by omega) (by omega) (by omega) z)), if_neg (fun z => q1 z.1.1), if_neg (fun z => q1 z.1), if_neg (fun z => q1 z.1.1)]
      unfold fX10_claims_b195
      rw [add1]; rfl
  · rintro s rfl
    refine ⟨_, ?_, rfl⟩
    dsimp only
    unfold fX10_claims_b74
    rw [hL, if_pos ((yI_le (by omega) (by omega) (by omega) (by omega)).mpr (Int.le_refl _))]
