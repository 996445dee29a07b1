/-! ===== the class measures ===== -/
theorem iabs_ad {a b : Nat} (ha : a < 1000) (hb : b < 1000) : iabs (yI (a : Int) - yI (b : Int)) = yI (qad a b : Int) := by
  rw [yI_sub, iabs_z (by omega) (by omega)]
  unfold qad
  by_cases h : 0 ≤ (a : Int) - (b : Int)
  · rw [if_pos h, show (a : Int) - (b : Int) = ((a - b + (b - a) : Nat) : Int) by omega]
  · rw [if_neg h, show -((a : Int) - (b : Int)) = ((a - b + (b - a) : Nat) : Int) by omega]
theorem divW {x W : Nat} (hx : x ≤ 30) (w1 : 0 < W) (w2 : W ≤ 6) : yI (x : Int) / yI (W : Int) = yI ((x / W : Nat) : Int) ∧ x / W ≤ 30 := ⟨divn (by omega) w1 (by omega), Nat.le_trans (Nat.div_le_self _ _) hx⟩
theorem remW {x W : Nat} (hx : x ≤ 30) (w1 : 0 < W) (w2 : W ≤ 6) : yI (x : Int) - yI (x : Int) / yI (W : Int) * yI (W : Int) = yI ((x % W : Nat) : Int) ∧ x % W < 6 := by
  refine ⟨?_, Nat.lt_of_lt_of_le (Nat.mod_lt _ w1) w2⟩
  rw [yI_rem (by omega) (by omega) (by omega) (by omega)]; rfl
theorem f7_measure {σ : Sg} {N W H : Nat} (hN : rI σ 4 5 = yI (N : Int)) (hW : rI σ 4 6 = yI (W : Int)) (hH : rI σ 4 7 = yI (H : Int)) (n30 : N ≤ 30) (w1 : 0 < W) (w2 : W ≤ 6) (h30 : H ≤ 30) : ∃ t, fX7_measure σ = some t ∧ (∀ i, i < N → rI t 7 i = yI (qfar W H i : Int)) ∧ ∀ o j, o ≠ 7 → rI t o j = rI σ o j := by
  have n0 : ¬ yI (W : Int) = 0 := yI_nl (v := 0) (b := 0) rfl (by omega) (by omega) (by omega)
  obtain ⟨dH, bH⟩ := divW h30 w1 w2
  obtain ⟨rH, cH⟩ := remW h30 w1 w2
  have LP : ∃ t, lp (fun s : Int32 × Sg => fX7_measure_b10 s.1 s.2) FU ((0 : Int32), σ) = some t ∧ ((∀ i, i < N → rI t 7 i = yI (qfar W H i : Int)) ∧ ∀ o j, o ≠ 7 → rI t o j = rI σ o j) := by
    refine lp_all (fun k s => s.1 = yI (k : Int) ∧ (∀ i, i < k → rI s.2 7 i = yI (qfar W H i : Int)) ∧ ∀ o j, o ≠ 7 → rI s.2 o j = rI σ o j) N _ ?_ ?_ ⟨rfl, fun i hi => absurd hi (Nat.not_lt_zero i), fun _ _ _ => rfl⟩ (FU_b (by omega))
    · rintro k ⟨x, t⟩ hk ⟨h1, h2, h3⟩
      dsimp only at h1 h2 h3
      subst h1
      obtain ⟨dk, bk⟩ := divW (x := k) (by omega) w1 w2
      obtain ⟨rk, ck⟩ := remW (x := k) (by omega) w1 w2
      refine ⟨(yI ((k + 1 : Nat) : Int), wI t 7 k (yI (qfar W H k : Int))), ?_, rfl, fun i hi => ?_, fun o j ho => ?_⟩
      · dsimp only
        unfold fX7_measure_b10
        rw [h3 4 5 (by omega), h3 4 6 (by omega), h3 4 7 (by omega), hN, hW, hH, if_neg (fun q => by have := (yI_le (by omega) (by omega) (by omega) (by omega)).mp q; omega), if_neg n0, if_neg n0, if_neg n0, if_neg n0, if_pos (inb_n (by omega) (by omega)), yI_cln (by omega), rk, rH, dk, dH, iabs_ad (by omega) (by omega), iabs_ad (by omega) (by omega), addn, add1]
        rfl
      · show rI (wI t 7 k _) 7 i = _
        by_cases e : i = k
        · rw [e, rI_s]
        · rw [rI_k e]; exact h2 i (by omega)
      · show rI (wI t 7 k _) o j = _
        rw [rI_o ho]; exact h3 o j ho
    · rintro ⟨x, t⟩ ⟨h1, h2, h3⟩
      dsimp only at h1 h2 h3
      subst h1
      refine ⟨t, ?_, h2, h3⟩
      dsimp only
      unfold fX7_measure_b10
      rw [h3 4 5 (by omega), hN, if_pos ((yI_le (by omega) (by omega) (by omega) (by omega)).mpr (Int.le_refl _))]
  obtain ⟨t, k1, k2, k3⟩ := LP
  refine ⟨t, ?_, k2, k3⟩
  unfold fX7_measure fX7_measure_b0
  rw [hW, if_neg n0, b1 k1]
