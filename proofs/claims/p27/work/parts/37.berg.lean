/-! ===== change, berg ===== -/
theorem IV_b {n : Nat} {c c' m m' : Mm} {b : Nat} (h : IV n c m) (b5 : b < 5) (hc : ∀ o k, o ≠ 76 + b → ¬ (o = 65 ∧ k = b) → ¬ (o = 0 ∧ k = 9) → c' o k = c o k) (hm : ∀ o k, ¬ (o = 6 ∧ 5 * b ≤ k ∧ k < 5 * b + 5) → ¬ (o = 0 ∧ k = 15) → m' o k = m o k) (hk : (b : Int) < m 0 15 → m' 6 (5 * b) = m 6 (5 * b) ∧ m' 6 (5 * b + 1) = m 6 (5 * b + 1) ∧ m' 6 (5 * b + 4) = m 6 (5 * b + 4)) (h65 : c' 65 b = 0) (v1 : VB1 m' b) (v2 : VB2 c' m' b) (e9 : c' 0 9 = m' 0 15) (l1 : m 0 15 ≤ m' 0 15) (l2 : m' 0 15 ≤ 5) (hi5 : ∀ i : Nat, (i : Int) < m' 0 15 → i ≠ b → (i : Int) < m 0 15) : IV (n + 1) c' m' := by
  obtain ⟨hp, hq, hv, hcc, hl, hd, hi, hg⟩ := h
  have mo : ∀ o, o ≠ 0 → o ≠ 6 → m' o = m o := fun o h0 h6 => funext fun k => hm o k (by omega) (by omega)
  have mz : ∀ k, k ≠ 15 → m' 0 k = m 0 k := fun k h => hm 0 k (by omega) (by omega)
  have co : ∀ o, o ≠ 76 + b → o ≠ 65 → o ≠ 0 → c' o = c o := fun o h1 h2 h3 => funext fun k => hc o k h1 (by omega) (by omega)
  have cz : ∀ k, k ≠ 9 → c' 0 k = c 0 k := fun k h => hc 0 k (by omega) (by omega) (by omega)
  have s : SE m m' := ⟨mz 9 (by omega), mz 10 (by omega), mz 11 (by omega), mo 4 (by omega) (by omega), mo 5 (by omega) (by omega)⟩
  have kk : CE m m' := ⟨mz 17 (by omega), mz 18 (by omega), mz 19 (by omega)⟩
  have m6 : ∀ i, i ≠ b → ∀ j : Nat, j < 5 → m' 6 (5 * i + j) = m 6 (5 * i + j) := fun i ne j hj => hm 6 _ (by omega) (by omega)
  refine ⟨VP_f hp (by rw [co 1 (by omega) (by omega) (by omega)]) (co 2 (by omega) (by omega) (by omega)) (mz 1 (by omega)) (mo 1 (by omega) (by omega)), VQ_n (VQ_f hq (cz 10 (by omega)) (mz 12 (by omega)) s (co 4 (by omega) (by omega) (by omega)) (co 5 (by omega) (by omega) (by omega)) (co 6 (by omega) (by omega) (by omega)) (co 7 (by omega) (by omega) (by omega)) (co 8 (by omega) (by omega) (by omega)) (fun i _ => co _ (by omega) (by omega) (by omega))), ⟨e9, by have := hv.2.1; omega, l2, fun i hb => ?_⟩, VC_f hcc (co 41 (by omega) (by omega) (by omega)) kk, VL_f hl (by rw [co 49 (by omega) (by omega) (by omega)]) (co 50 (by omega) (by omega) (by omega)) (co 51 (by omega) (by omega) (by omega)) (co 52 (by omega) (by omega) (by omega)) (mz 20 (by omega)) (mo 7 (by omega) (by omega)), VD_f hd (cz 11 (by omega)) (mz 40 (by omega)), ?_, fun i hb hn => ?_⟩
  · by_cases e : i = b
    · rw [e]; exact ⟨v1, v2⟩
    · have := hv.2.2.2 i (hi5 i hb e)
      exact ⟨VB1_f this.1 s (m6 i e), VB2_f this.2 (co _ (by omega) (by omega) (by omega)) (m6 i e)⟩
  · unfold VI at hi ⊢
    rw [mz 43 (by omega), mz 44 (by omega), mz 12 (by omega), co 53 (by omega) (by omega) (by omega)]
    rcases hi with hi | ⟨i1, i2, i3, i4, i5, i6⟩
    · exact Or.inl hi
    · refine Or.inr ⟨i1, i2, i3, i4, i5, fun e => ?_⟩
      obtain ⟨w1, w2, w3, w4, w5, w6, w7, w8, w9, w10, w11⟩ := i6 e
      unfold VI2
      rw [mz 43 (by omega), mz 48 (by omega), mz 20 (by omega), mz 45 (by omega), mz 46 (by omega), mz 47 (by omega), co 53 (by omega) (by omega) (by omega), co 57 (by omega) (by omega) (by omega), mo 16 (by omega) (by omega), mo 7 (by omega) (by omega)]
      refine ⟨w1, by omega, w3, w4, w5, w6, w7, w8, w9, fun i hb => ?_, w11⟩
      have := w10 i hb
      unfold VI1 at this ⊢
      rw [co 54 (by omega) (by omega) (by omega), co 55 (by omega) (by omega) (by omega), mo 15 (by omega) (by omega)]
      by_cases e : i = b
      · subst e
        obtain ⟨a1, a2, a3⟩ := hk (by omega)
        rw [a1, a2, a3]; exact this
      · have z0 := m6 i e 0 (by omega)
        rw [Nat.add_zero] at z0
        rw [z0, m6 i e 1 (by omega), m6 i e 4 (by omega)]; exact this
  · by_cases e : i = b
    · rw [e] at hn; exact absurd h65 hn
    · have z := hi5 i hb e
      rw [hc 65 i (by omega) (by omega) (by omega)] at hn
      exact VG1_f (hg i z hn) s kk (m6 i e) (hc 66 i (by omega) (by omega) (by omega)) (co _ (by have := hv.2.2.1; omega) (by have := hv.2.2.1; omega) (by omega))
theorem f9_isSize {σ : Sg} {a : Int} (h1 : -2147483648 ≤ a) (h2 : a < 2147483648) : fX9_isSize (yI a) σ = some (if 10 ≤ a ∧ a ≤ 999 then 1 else 0, σ) := by
  unfold fX9_isSize fX9_isSize_b0
  by_cases h : a < 10
  · rw [if_pos (ltp (v := 10) (b := 10) rfl h1 h2 h), if_neg (by omega)]
  · rw [if_neg (ltn (v := 10) (b := 10) rfl h1 h2 (by omega))]
    by_cases k : 999 < a
    · rw [if_pos (gtp (v := 999) (b := 999) rfl h1 h2 k), if_neg (by omega)]
    · rw [if_neg (gtn (v := 999) (b := 999) rfl h1 h2 (by omega)), if_pos (by omega)]
theorem f9_isFoot {σ : Sg} {a : Int} (h1 : -2147483648 ≤ a) (h2 : a < 2147483648) : fX9_isFoot (yI a) σ = some (if 0 ≤ a ∧ a ≤ 99 then 1 else 0, σ) := by
  unfold fX9_isFoot fX9_isFoot_b0
  by_cases h : a < 0
  · rw [if_pos (ltp (v := 0) (b := 0) rfl h1 h2 h), if_neg (by omega)]
  · rw [if_neg (ltn (v := 0) (b := 0) rfl h1 h2 (by omega))]
    by_cases k : 99 < a
    · rw [if_pos (gtp (v := 99) (b := 99) rfl h1 h2 k), if_neg (by omega)]
    · rw [if_neg (gtn (v := 99) (b := 99) rfl h1 h2 (by omega)), if_pos (by omega)]
theorem f3_forget {σ : Sg} {b : Nat} (h : b < 5) : fX3_forget (yI (b : Int)) σ = some (wI σ 65 b 0) := by
  unfold fX3_forget fX3_forget_b0
  rw [if_pos (inb_n (by omega) h), yI_cln (by omega)]
/-- a size or a foot changed on both sides -/
theorem change_ok {n : Nat} {σ τ : Sg} (h : Inv n σ τ) {b w : Nat} {v : Int} (hb : (b : Int) < cM τ 0 15) (h3 : -2147483648 ≤ v) (h4 : v < 2147483648) (hw : (w = 2 ∧ 10 ≤ v ∧ v ≤ 999) ∨ (w = 3 ∧ 0 ≤ v ∧ v ≤ 99)) : Inv (n + 1) (wI (wI σ 65 b 0) (76 + b) w (yI v)) (wI τ 6 (5 * b + w) (yI v)) := by
  have hv := h.2.2.1
  have b5 : b < 5 := by have := hv.2.2.1; omega
  obtain ⟨v1, v2⟩ := hv.2.2.2 b hb
  have ec : cC (wI (wI σ 65 b 0) (76 + b) w (yI v)) = up (up (cC σ) 65 b 0) (76 + b) w v := by
    show core nsC _ = _
    rw [core_wz (nsC_hi (by omega)) h3 h4, yI_0, core_wz (nsC_low (by omega) (by omega)) (by omega) (by omega)]
  have em : cM (wI τ 6 (5 * b + w) (yI v)) = up (cM τ) 6 (5 * b + w) v := by
    show core nsM _ = _
    rw [core_wz rfl h3 h4]
  unfold Inv at h ⊢
  rw [ec, em]
  generalize cC σ = c at *
  generalize cM τ = m at *
  clear ec em
  have g : ∀ j, j ≠ w → up m 6 (5 * b + w) v 6 (5 * b + j) = m 6 (5 * b + j) := fun j hj => up_n (by omega)
  have g0 : up m 6 (5 * b + w) v 6 (5 * b) = m 6 (5 * b) := up_n (by omega)
  have gw : up m 6 (5 * b + w) v 6 (5 * b + w) = v := up_s
  have d : ∀ j, j ≠ w → up (up c 65 b 0) (76 + b) w v (76 + b) j = c (76 + b) j := fun j hj => by rw [up_n (by omega), up_n (by omega)]
  have dw : up (up c 65 b 0) (76 + b) w v (76 + b) w = v := up_s
  have z : ∀ o k, o ≠ 6 → up m 6 (5 * b + w) v o k = m o k := fun o k ho => up_n (by omega)
  refine IV_b h b5 (fun o k h1 h2 h3 => by rw [up_n (by omega), up_n (by omega)]) (fun o k h1 h2 => up_n (by omega)) (fun _ => ⟨g0, g 1 (by omega), g 4 (by omega)⟩) (by rw [up_n (by omega), up_s]) ?_ ?_ (by rw [up_n (by omega), up_n (by omega), up_n (by omega)]; exact hv.1) (by rw [up_n (by omega)]; omega) (by rw [up_n (by omega)]; exact hv.2.2.1) (fun i hb _ => by rwa [up_n (by omega)] at hb)
  · unfold VB1 qsq at v1 ⊢
    rw [g0, g 1 (by omega), g 4 (by omega), z 0 9 (by omega), z 0 10 (by omega), z 4 _ (by omega)]
    rcases hw with ⟨rfl, hw⟩ | ⟨rfl, hw⟩
    · rw [gw, g 3 (by omega)]; omega
    · rw [gw, g 2 (by omega)]; omega
  · unfold VB2 at v2 ⊢
    rw [g0, g 1 (by omega), g 4 (by omega), d 0 (by omega), d 1 (by omega), d 4 (by omega), d 5 (by omega)]
    rcases hw with ⟨rfl, hw⟩ | ⟨rfl, hw⟩
    · rw [gw, dw, g 3 (by omega), d 3 (by omega)]; exact ⟨v2.1, v2.2.1, rfl, v2.2.2.2⟩
    · rw [gw, dw, g 2 (by omega), d 2 (by omega)]; exact ⟨v2.1, v2.2.1, v2.2.2.1, rfl, v2.2.2.2.2⟩
theorem s_change (a0 a1 a2 : Int32) : SimI Inv (fX9_change a0 a1 a2) (fX10_change a0 a1 a2) := fun n σ τ _ h => by
  obtain ⟨a, h1, h2, rfl⟩ := yI_ex a0
  obtain ⟨w, h3, h4, rfl⟩ := yI_ex a1
  obtain ⟨v, h5, h6, rfl⟩ := yI_ex a2
  have hv := h.2.2.1
  have g1 := f9_isBerg h1 h2 hv.e.1 hv.2.1 hv.2.2.1
  have g2 := f10_isBerg h1 h2 hv.e.2 hv.2.1 hv.2.2.1
  have g3 := in_zz h3 h4 (show (2 : Int64).toInt = 2 from rfl) (show (3 : Int64).toInt = 3 from rfl) τ
  have g4 := in_zz h5 h6 (show (10 : Int64).toInt = 10 from rfl) (show (999 : Int64).toInt = 999 from rfl) τ
  have g5 := in_zz h5 h6 (show (0 : Int64).toInt = 0 from rfl) (show (99 : Int64).toInt = 99 from rfl) τ
  have g6 := f9_isSize (σ := σ) h5 h6
  have g7 := f9_isFoot (σ := σ) h5 h6
  by_cases qa : 0 ≤ a ∧ a < cM τ 0 15
  · obtain ⟨b, rfl⟩ := Int.eq_ofNat_of_zero_le qa.1
    have b5 : b < 5 := by have := hv.2.2.1; omega
    obtain ⟨r0, r1, r2, r3, r4⟩ := hv.r qa.2
    have u2 : ∀ k : Nat, k < 5 → fX10_change_b62 (yI (b : Int)) (yI (k : Int)) (yI v) τ = some (rI τ 6 (5 * b + k), wI τ 6 (5 * b + k) (yI v)) := fun k hk => by
      unfold fX10_change_b62
      rw [mul5, addn, if_pos (inb_n (by omega) (by omega)), if_pos (inb_n (by omega) (by omega)), yI_cln (by omega)]
    by_cases qw : w = 2
    · subst qw
      by_cases qv : 10 ≤ v ∧ v ≤ 999
      · refine ⟨rI τ 6 (5 * b + 2), _, _, ?_, ?_, change_ok h (w := 2) qa.2 h5 h6 (Or.inl ⟨rfl, qv⟩)⟩
        · unfold fX9_change fX9_change_b0
          rw [bt g1 qa]
          dsimp only
          rw [if_pos (show yI 2 = 2 from rfl), bt g6 qv]
          dsimp only
          unfold fX9_change_b28
          rw [if_neg (show ¬ yI 2 = 3 by decide)]
          unfold fX9_change_b46 fX9_change_b47
          rw [if_neg (show ¬ (1 : Int32) = 0 by decide)]
          unfold fX9_change_b62
          rw [b1 (f3_forget b5)]
          rw [if_pos (inb_n (by omega) b5), if_neg (show ¬ (1 : Int32) = 0 by decide), yI_cln (by omega), rI_o (by omega), r2]
          unfold fX9_change_b96
          rw [if_neg (show ¬ (1 : Int32) = 0 by decide)]
        · unfold fX10_change fX10_change_b0
          rw [bt g2 qa]
          dsimp only
          rw [bt g3 (by omega)]
          dsimp only
          rw [if_pos (show yI 2 = 2 from rfl), bt g4 qv]
          exact u2 2 (by omega)
      · refine ⟨-102, σ, τ, ?_, ?_, Inv_n n σ τ h⟩
        · unfold fX9_change fX9_change_b0
          rw [bt g1 qa]
          dsimp only
          rw [if_pos (show yI 2 = 2 from rfl), bf g6 qv]
          dsimp only
          unfold fX9_change_b27 fX9_change_b28
          rw [if_neg (show ¬ yI 2 = 3 by decide)]
          unfold fX9_change_b46 fX9_change_b47
          rw [if_pos rfl, if_pos rfl]
        · unfold fX10_change fX10_change_b0
          rw [bt g2 qa]
          dsimp only
          rw [bt g3 (by omega)]
          dsimp only
          rw [if_pos (show yI 2 = 2 from rfl), bf g4 qv]
    · by_cases qw3 : w = 3
      · subst qw3
        by_cases qv : 0 ≤ v ∧ v ≤ 99
        · refine ⟨rI τ 6 (5 * b + 3), _, _, ?_, ?_, change_ok h (w := 3) qa.2 h5 h6 (Or.inr ⟨rfl, qv⟩)⟩
          · unfold fX9_change fX9_change_b0
            rw [bt g1 qa]
            dsimp only
            rw [if_neg (show ¬ yI 3 = 2 by decide)]
            unfold fX9_change_b27 fX9_change_b28
            rw [if_pos (show yI 3 = 3 from rfl), bt g7 qv]
            dsimp only
            unfold fX9_change_b47
            rw [if_pos rfl, if_neg (show ¬ (1 : Int32) = 0 by decide)]
            unfold fX9_change_b62
            rw [b1 (f3_forget b5)]
            rw [if_pos (inb_n (by omega) b5), if_pos rfl, yI_cln (by omega), rI_o (by omega), r3]
            unfold fX9_change_b96
            rw [if_pos rfl]
          · unfold fX10_change fX10_change_b0
            rw [bt g2 qa]
            dsimp only
            rw [bt g3 (by omega)]
            dsimp only
            rw [if_neg (show ¬ yI 3 = 2 by decide), bt g5 qv]
            exact u2 3 (by omega)
        · refine ⟨-102, σ, τ, ?_, ?_, Inv_n n σ τ h⟩
          · unfold fX9_change fX9_change_b0
            rw [bt g1 qa]
            dsimp only
            rw [if_neg (show ¬ yI 3 = 2 by decide)]
            unfold fX9_change_b27 fX9_change_b28
            rw [if_pos (show yI 3 = 3 from rfl), bf g7 qv]
            dsimp only
            unfold fX9_change_b46 fX9_change_b47
            rw [if_pos rfl, if_pos rfl]
          · unfold fX10_change fX10_change_b0
            rw [bt g2 qa]
            dsimp only
            rw [bt g3 (by omega)]
            dsimp only
            rw [if_neg (show ¬ yI 3 = 2 by decide), bf g5 qv]
      · refine ⟨-102, σ, τ, ?_, ?_, Inv_n n σ τ h⟩
        · unfold fX9_change fX9_change_b0
          rw [bt g1 qa]
          dsimp only
          rw [if_neg (yI_nl (v := 2) (b := 2) rfl h3 h4 qw)]
          unfold fX9_change_b27 fX9_change_b28
          rw [if_neg (yI_nl (v := 3) (b := 3) rfl h3 h4 qw3)]
          unfold fX9_change_b46 fX9_change_b47
          rw [if_pos rfl, if_pos rfl]
        · unfold fX10_change fX10_change_b0
          rw [bt g2 qa]
          dsimp only
          rw [bf g3 (by omega)]
  · refine ⟨-101, σ, τ, ?_, ?_, Inv_n n σ τ h⟩
    · unfold fX9_change fX9_change_b0
      rw [bf g1 qa]
    · unfold fX10_change fX10_change_b0
      rw [bf g2 qa]
