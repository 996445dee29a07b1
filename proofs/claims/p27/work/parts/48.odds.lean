/-! ===== letOff: the model, and both ===== -/
theorem f10_melted {τ : Sg} {x q : Nat} (hx : x < 1000) (hq : q < 1000) : fX10_melted (yI (x : Int)) (yI (q : Int)) τ = some (yI ((x - q : Nat) : Int), τ) := by
  unfold fX10_melted fX10_melted_b0
  by_cases h : x ≤ q
  · rw [if_pos ((yI_le (by omega) (by omega) (by omega) (by omega)).mpr (by omega)), show x - q = 0 by omega]; rfl
  · rw [if_neg (fun c => by have := (yI_le (by omega) (by omega) (by omega) (by omega)).mp c; omega), yI_sub, show (x : Int) - (q : Int) = ((x - q : Nat) : Int) by omega]
/-- lets, as it stands when the sizes below k are done -/
def ltN (q o z t k : Nat) (x : Int64) : Int64 := if z < k then (if heN q o t z < ofN q o t z then 1 else 0) else x
theorem f10_sizes {τ : Sg} {q o t z : Nat} (hz : z ≤ 999) (hq : q ≤ 99) (ho : o ≤ 9) (ht : t ≤ 8) {x2 x5 x10 : Int32} {x6 x8 : Int64} (hg : ∀ i, i < 1000 → rJ τ 13 i = lN (wv q o t i)) : ∃ r, lp (fun s : Int64 × Int32 × Sg => fX10_letOff_b119 (yI (z : Int)) x2 (yI (q : Int)) (yI (o : Int)) x5 x6 s.1 x10 s.2.1 s.2.2) FU (x8, (0 : Int32), τ) = some r ∧ (r.1 = ltN q o z t 1000 x8 ∧ (∀ i, i < 1000 → rJ r.2 14 i = lN (wv q o (t + 1) i)) ∧ ∀ a b, rI r.2 a b = rI τ a b) := by
  refine lp_all (fun k s => s.1 = ltN q o z t k x8 ∧ s.2.1 = yI (k : Int) ∧ (∀ i, i < k → rJ s.2.2 14 i = lN (wv q o (t + 1) i)) ∧ (∀ i, rJ s.2.2 13 i = rJ τ 13 i) ∧ ∀ a b, rI s.2.2 a b = rI τ a b) 1000 _ ?_ ?_ ⟨by unfold ltN; rw [if_neg (by omega)], rfl, fun i hi => absurd hi (Nat.not_lt_zero _), fun _ => rfl, fun _ _ => rfl⟩ (FU_b (by omega))
  · rintro k ⟨x, y, s⟩ hk ⟨h1, h2, h3, h4, h5⟩
    dsimp only at h1 h2 h3 h4 h5
    subst h2
    have lo := oh_l (q := q) (t := t) ho (v := k) (by omega) (by omega)
    have r13 : ∀ i, i < 1000 → rJ s 13 i = lN (wv q o t i) := fun i hi => by rw [h4, hg i hi]
    have eh : (yI (o : Int)).toInt64 * rJ s 13 ((k - q) - (k - q) / 3) + ((10 : Int32) - yI (o : Int)).toInt64 * rJ s 13 (k - q) = lN (heN q o t k) := by
      rw [ten_o ho, yI_lN (by omega), r13 _ (by omega), r13 _ (by omega), lN_mul, lN_mul, lN_add]; rfl
    have eo : (10 : Int64) * rJ s 13 (k - k / 5 - q) = lN (ofN q o t k) := by
      rw [r13 _ (by omega), show (10 : Int64) = lN 10 from rfl, lN_mul]; rfl
    have H : ∀ y : Int64, y = lN (wv q o (t + 1) k) → fX10_letOff_b211 (yI (z : Int)) x2 (yI (q : Int)) (yI (o : Int)) x5 x6 x x10 (yI (k : Int)) (lN (heN q o t k)) (lN (ofN q o t k)) y (yI (k : Int)) s = some (.inl (ltN q o z t (k + 1) x8, yI ((k + 1 : Nat) : Int), wJ s 14 k (lN (wv q o (t + 1) k)))) := fun y hy => by
      unfold fX10_letOff_b211 fX10_letOff_b236
      rw [if_pos (inb_n (by omega) (by omega)), yI_cln (by omega), add1, hy]
      by_cases e : k = z
      · rw [if_pos (by rw [e])]
        unfold ltN
        rw [if_pos (show z < k + 1 by omega), e]
        by_cases c : heN q o t z < ofN q o t z
        · rw [e] at lo
          rw [if_neg (fun q => by have := (lg_le (by omega) (by omega)).mp q; omega), if_pos c]
        · rw [e] at lo
          rw [if_pos ((lg_le (by omega) (by omega)).mpr (by omega)), if_neg c]
      · rw [if_neg (fun c => e (by have := yI_inj (by omega) (by omega) (by omega) (by omega) c; omega)), h1]
        unfold ltN
        by_cases c : z < k
        · rw [if_pos c, if_pos (show z < k + 1 by omega)]
        · rw [if_neg c, if_neg (show ¬ z < k + 1 by omega)]
    refine ⟨(ltN q o z t (k + 1) x8, yI ((k + 1 : Nat) : Int), wJ s 14 k (lN (wv q o (t + 1) k))), ?_, rfl, rfl, fun i hi => ?_, fun i => ?_, fun a b => h5 a b⟩
    · dsimp only
      unfold fX10_letOff_b119
      rw [if_neg (gen (v := 1000) (b := 1000) rfl (by omega) (by omega) (by omega)), b1 (f10_melted (by omega) (by omega))]
      dsimp only
      rw [div3 (by omega), if_pos (inb_n (by omega) (by omega)), if_pos (inb_n (by omega) (by omega)), div5 (by omega), b1 (f10_melted (by omega) (by omega))]
      dsimp only
      rw [if_pos (inb_n (by omega) (by omega)), yI_cln (by omega), yI_cln (by omega), yI_cln (by omega), eh, eo]
      by_cases c : ofN q o t k ≤ heN q o t k
      · rw [if_pos ((lg_le (by omega) (by omega)).mpr c)]
        exact H _ (by rw [wv_s, Nat.max_eq_right c])
      · rw [if_neg (fun q => c ((lg_le (by omega) (by omega)).mp q))]
        exact H _ (by rw [wv_s, Nat.max_eq_left (by omega)])
    · show rJ (wJ s 14 k _) 14 i = _
      rw [rJ_wJ]
      by_cases e : i = k
      · rw [if_pos ⟨rfl, e⟩, e]
      · rw [if_neg (fun z => e z.2)]; exact h3 i (by omega)
    · show rJ (wJ s 14 k _) 13 i = _
      rw [rJ_wJ, if_neg (by omega)]; exact h4 i
  · rintro ⟨x, y, s⟩ ⟨h1, h2, h3, h4, h5⟩
    dsimp only at h1 h2 h3 h4 h5
    subst h2
    refine ⟨(x, s), ?_, h1, h3, h5⟩
    dsimp only
    unfold fX10_letOff_b119
    rw [if_pos (gep (v := 1000) (b := 1000) rfl (by omega) (by omega) (by omega))]
theorem f10_move {τ : Sg} {x1 x2 x3 x4 x5 x10 : Int32} {x6 x8 : Int64} : ∃ r, lp (fun s : Int32 × Sg => fX10_letOff_b247 x1 x2 x3 x4 x5 x6 x8 x10 s.1 s.2) FU ((0 : Int32), τ) = some r ∧ ((∀ i, i < 1000 → rJ r 13 i = rJ τ 14 i) ∧ ∀ a b, rI r a b = rI τ a b) := by
  refine lp_all (fun k s => s.1 = yI (k : Int) ∧ (∀ i, i < k → rJ s.2 13 i = rJ τ 14 i) ∧ (∀ i, rJ s.2 14 i = rJ τ 14 i) ∧ ∀ a b, rI s.2 a b = rI τ a b) 1000 _ ?_ ?_ ⟨rfl, fun i hi => absurd hi (Nat.not_lt_zero _), fun _ => rfl, fun _ _ => rfl⟩ (FU_b (by omega))
  · rintro k ⟨x, s⟩ hk ⟨h1, h2, h3, h4⟩
    dsimp only at h1 h2 h3 h4
    subst h1
    refine ⟨(yI ((k + 1 : Nat) : Int), wJ s 13 k (rJ s 14 k)), ?_, rfl, fun i hi => ?_, fun i => ?_, fun a b => h4 a b⟩
    · dsimp only
      unfold fX10_letOff_b247
      rw [if_neg (gen (v := 1000) (b := 1000) rfl (by omega) (by omega) (by omega)), if_pos (inb_n (by omega) (by omega)), if_pos (inb_n (by omega) (by omega)), yI_cln (by omega), add1]
    · show rJ (wJ s 13 k _) 13 i = _
      rw [rJ_wJ]
      by_cases e : i = k
      · rw [if_pos ⟨rfl, e⟩, e, h3]
      · rw [if_neg (fun z => e z.2)]; exact h2 i (by omega)
    · show rJ (wJ s 13 k _) 14 i = _
      rw [rJ_wJ, if_neg (by omega)]; exact h3 i
  · rintro ⟨x, s⟩ ⟨h1, h2, h3, h4⟩
    dsimp only at h1 h2 h3 h4
    subst h1
    refine ⟨s, ?_, h2, h4⟩
    dsimp only
    unfold fX10_letOff_b247
    rw [if_pos (gep (v := 1000) (b := 1000) rfl (by omega) (by omega) (by omega))]
theorem f10_days {τ : Sg} {q o z d : Nat} (hz : z ≤ 999) (hq : q ≤ 99) (ho : o ≤ 9) (hd : d ≤ 9) {x5 : Int32} (hg : ∀ i, i < 1000 → rJ τ 13 i = lN i) : ∃ r, lp (fun s : Int64 × Int64 × Int32 × Sg => fX10_letOff_b102 (yI (z : Int)) (yI (d : Int)) (yI (q : Int)) (yI (o : Int)) x5 s.1 s.2.1 s.2.2.1 s.2.2.2) FU ((1 : Int64), (0 : Int64), (0 : Int32), τ) = some r ∧ (r.1 = lN (10 ^ d) ∧ r.2.1 = lN (leN q o z d) ∧ (∀ i, i < 1000 → rJ r.2.2 13 i = lN (wv q o d i)) ∧ ∀ a b, rI r.2.2 a b = rI τ a b) := by
  refine lp_all (fun k s => s.1 = lN (10 ^ k) ∧ s.2.1 = lN (leN q o z k) ∧ s.2.2.1 = yI (k : Int) ∧ (∀ i, i < 1000 → rJ s.2.2.2 13 i = lN (wv q o k i)) ∧ ∀ a b, rI s.2.2.2 a b = rI τ a b) d _ ?_ ?_ ⟨by rw [Nat.pow_zero]; rfl, by unfold leN; rw [if_pos rfl]; rfl, rfl, hg, fun _ _ => rfl⟩ (FU_b (by omega))
  · rintro k ⟨x, y, w, s⟩ hk ⟨h1, h2, h3, h4, h5⟩
    dsimp only at h1 h2 h3 h4 h5
    subst h1 h2 h3
    obtain ⟨r1, j1, j2, j3, j4⟩ := f10_sizes (x2 := yI (d : Int)) (x5 := x5) (x10 := yI (k : Int)) (x6 := lN (10 ^ k) * 10) (x8 := lN (leN q o z k)) hz hq ho (t := k) (by omega) h4
    obtain ⟨r2, i1, i2, i3⟩ := f10_move (τ := r1.2) (x1 := yI (z : Int)) (x2 := yI (d : Int)) (x3 := yI (q : Int)) (x4 := yI (o : Int)) (x5 := x5) (x10 := yI (k : Int)) (x6 := lN (10 ^ k) * 10) (x8 := r1.1)
    refine ⟨(lN (10 ^ (k + 1)), lN (leN q o z (k + 1)), yI ((k + 1 : Nat) : Int), r2), ?_, rfl, rfl, rfl, fun i hi => ?_, fun a b => ?_⟩
    · dsimp only
      unfold fX10_letOff_b102
      rw [if_neg (fun q => by have := (yI_le (by omega) (by omega) (by omega) (by omega)).mp q; omega), b1 j1, b1 i1, add1, j2, show lN (10 ^ k) * 10 = lN (10 ^ (k + 1)) by rw [show (10 : Int64) = lN 10 from rfl, lN_mul, Nat.pow_succ]]
      have e : ltN q o z k 1000 (lN (leN q o z k)) = lN (leN q o z (k + 1)) := by
        unfold ltN
        rw [if_pos (by omega)]
        conv => rhs; unfold leN
        rw [if_neg (show ¬ k + 1 = 0 by omega), Nat.add_sub_cancel]
        by_cases c : heN q o k z < ofN q o k z
        · rw [if_pos c, if_pos c]; rfl
        · rw [if_neg c, if_neg c]; rfl
      rw [e]
    · show rJ r2 13 i = _
      rw [i2 i hi, j3 i hi]
    · show rI r2 a b = _
      rw [i3, j4]; exact h5 a b
  · rintro ⟨x, y, w, s⟩ ⟨h1, h2, h3, h4, h5⟩
    dsimp only at h1 h2 h3 h4 h5
    subst h1 h2 h3
    refine ⟨(lN (10 ^ d), lN (leN q o z d), s), ?_, rfl, rfl, h4, h5⟩
    dsimp only
    unfold fX10_letOff_b102
    rw [if_pos ((yI_le (by omega) (by omega) (by omega) (by omega)).mpr (Int.le_refl _))]
theorem f10_start {τ : Sg} {x1 x2 x3 x4 x5 : Int32} : ∃ r, lp (fun s : Int32 × Sg => fX10_letOff_b69 x1 x2 x3 x4 x5 s.1 s.2) FU ((0 : Int32), τ) = some r ∧ ((∀ i, i < 1000 → rJ r 13 i = lN i) ∧ ∀ a b, rI r a b = rI τ a b) := by
  refine lp_all (fun k s => s.1 = yI (k : Int) ∧ (∀ i, i < k → rJ s.2 13 i = lN i) ∧ ∀ a b, rI s.2 a b = rI τ a b) 1000 _ ?_ ?_ ⟨rfl, fun i hi => absurd hi (Nat.not_lt_zero _), fun _ _ => rfl⟩ (FU_b (by omega))
  · rintro k ⟨x, s⟩ hk ⟨h1, h2, h3⟩
    dsimp only at h1 h2 h3
    subst h1
    refine ⟨(yI ((k + 1 : Nat) : Int), wJ s 13 k (lN k)), ?_, rfl, fun i hi => ?_, fun a b => h3 a b⟩
    · dsimp only
      unfold fX10_letOff_b69
      rw [if_neg (gen (v := 1000) (b := 1000) rfl (by omega) (by omega) (by omega)), if_pos (inb_n (by omega) (by omega)), yI_cln (by omega), add1, yI_lN (by omega)]
    · show rJ (wJ s 13 k _) 13 i = _
      rw [rJ_wJ]
      by_cases e : i = k
      · rw [if_pos ⟨rfl, e⟩, e]
      · rw [if_neg (fun z => e z.2)]; exact h2 i (by omega)
  · rintro ⟨x, s⟩ ⟨h1, h2, h3⟩
    dsimp only at h1 h2 h3
    subst h1
    refine ⟨s, ?_, h2, h3⟩
    dsimp only
    unfold fX10_letOff_b69
    rw [if_pos (gep (v := 1000) (b := 1000) rfl (by omega) (by omega) (by omega))]
theorem core_f {ns : Nat → Nat → Bool} {σ σ' : Sg} (h : ∀ a b, rI σ' a b = rI σ a b) : core ns σ' = core ns σ := funext fun a => funext fun b => core_e (h a b)
