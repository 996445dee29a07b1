/-! ===== season, more ===== -/
theorem dl_core {σ σ' : Sg} (h : dl σ σ') : cC σ' = cC σ := funext fun a => funext fun b => by
  by_cases e : 68 ≤ a ∧ a ≤ 73
  · have hn : ¬ nsC a b = true := by
      rcases (show a = 68 ∨ a = 69 ∨ a = 70 ∨ a = 71 ∨ a = 72 ∨ a = 73 by omega) with rfl | rfl | rfl | rfl | rfl | rfl <;> · unfold nsC; simp
    show core nsC σ' a b = core nsC σ a b
    unfold core
    rw [if_neg hn, if_neg hn]
  · exact core_e (h a b e)
theorem Inv_GB {n : Nat} {σ τ : Sg} (h : Inv n σ τ) {B : Nat} (hB : cM τ 0 15 = (B : Int)) : GB (cM τ) B := fun b hb z e e1 e2 => by
  obtain ⟨b5, s⟩ := Inv_b h (b := b) (by omega)
  exact qg_b b5 s z e1 e2
/-- the ledger filled for all bergs -/
theorem f9_weighAll {n : Nat} {σ τ : Sg} {B : Nat} (h : Inv n σ τ) (hB : cM τ 0 15 = (B : Int)) (x1 x2 : Int32) : ∃ t, lp (fun s : Int32 × Sg => fX9_season_b31 x1 x2 s.1 s.2) FU ((0 : Int32), σ) = some t ∧ (Inv n t τ ∧ ∀ b, b < B → RG t (cM τ) b) := by
  have B5 := h.2.2.1.2.2.1
  refine lp_all (fun k s => s.1 = yI (k : Int) ∧ Inv n s.2 τ ∧ ∀ b, b < k → VG1 (cC s.2) (cM τ) b) B _ ?_ ?_ ⟨rfl, h, fun b hb => absurd hb (Nat.not_lt_zero b)⟩ (FU_b (by omega))
  · rintro k ⟨x, t⟩ hk ⟨h1, h2, h3⟩
    dsimp only at h1 h2 h3
    subst h1
    have e9 := h2.2.2.1.e.1
    rw [hB] at e9
    obtain ⟨t', u1, u2, u3, u4⟩ := f9_weigh h2 (b := k) (by omega)
    refine ⟨(yI ((k + 1 : Nat) : Int), t'), ?_, rfl, u2, fun b hb => ?_⟩
    · dsimp only
      unfold fX9_season_b31
      rw [e9, if_neg (fun q => by have := (yI_le (by omega) (by omega) (by omega) (by omega)).mp q; omega), b1 u1, add1]
    · by_cases q : b = k
      · rw [q]; exact u3
      · obtain ⟨a1, a2⟩ := h3 b (by omega)
        dsimp only
        exact ⟨by rw [u4 66 b (by omega) (by omega) (by omega)]; exact a1, fun z e e1 e2 => by rw [u4 (60 + b) e (by omega) (by omega) (by omega)]; exact a2 z e e1 e2⟩
  · rintro ⟨x, t⟩ ⟨h1, h2, h3⟩
    dsimp only at h1 h2 h3
    subst h1
    have e9 := h2.2.2.1.e.1
    rw [hB] at e9
    refine ⟨t, ?_, h2, fun b hb => ?_⟩
    · dsimp only
      unfold fX9_season_b31
      rw [e9, if_pos ((yI_le (by omega) (by omega) (by omega) (by omega)).mpr (Int.le_refl _))]
    · obtain ⟨a1, a2⟩ := h3 b hb
      exact ⟨by rw [cC_r (o := 66) (k := b) rfl, a1], fun z e e1 e2 => by rw [cC_r (o := 60 + b) (k := e) (nsC_low (by omega) (by omega)), a2 z e e1 e2]⟩
/-- the model's gains for all bergs -/
theorem f10_gainAll {n : Nat} {σ τ : Sg} {B T : Nat} (h : Inv n σ τ) (hB : cM τ 0 15 = (B : Int)) (T11 : T ≤ 11) (x2 : Int32) : ∃ t, lp (fun s : Int32 × Sg => fX10_seasonOf_b2 (yI (T : Int)) x2 s.1 s.2) FU ((0 : Int32), τ) = some t ∧ (sT τ t ∧ ∀ b, b < B → RM t (cM τ) b T) := by
  have B5 := h.2.2.1.2.2.1
  have e15 : rI τ 0 15 = yI (B : Int) := by rw [cM_r (o := 0) (k := 15) rfl, hB]
  refine lp_all (fun k s => s.1 = yI (k : Int) ∧ sT τ s.2 ∧ ∀ b, b < k → RM s.2 (cM τ) b T) B _ ?_ ?_ ⟨rfl, sT_r τ, fun b hb => absurd hb (Nat.not_lt_zero b)⟩ (FU_b (by omega))
  · rintro k ⟨x, t⟩ hk ⟨h1, h2, h3⟩
    dsimp only at h1 h2 h3
    subst h1
    obtain ⟨b5, s⟩ := Inv_b h (b := k) (by omega)
    have s2 := BS_s s h2
    obtain ⟨t', u1, u2, u3, u4⟩ := f10_gains b5 s2 T11 (B := B) (by rw [h2 0 15 (by omega) (by omega), e15]) (by omega) hk x2
    rw [sT_core h2] at u2
    refine ⟨(yI ((k + 1 : Nat) : Int), t'), u1, rfl, sT_t h2 u3, fun b hb => ?_⟩
    by_cases q : b = k
    · rw [q]; exact u2
    · exact fun j hj => by
        dsimp only
        rw [u4 _ (by omega)]; exact h3 b (by omega) j hj
  · rintro ⟨x, t⟩ ⟨h1, h2, h3⟩
    dsimp only at h1 h2 h3
    subst h1
    refine ⟨t, ?_, h2, h3⟩
    dsimp only
    unfold fX10_seasonOf_b2
    rw [h2 0 15 (by omega) (by omega), e15, if_pos ((yI_le (by omega) (by omega) (by omega) (by omega)).mpr (Int.le_refl _))]
theorem f10_zero {τ : Sg} {B T : Nat} (B5 : B ≤ 5) (T11 : T ≤ 11) (hB : rI τ 0 15 = yI (B : Int)) (x2 : Int32) : ∃ t, lp (fun s : Int32 × Sg => fX10_seasonOf_b128 (yI (T : Int)) x2 s.1 s.2) FU ((0 : Int32), τ) = some t ∧ (dq τ t ∧ ∀ j, j ≤ T → rI t 12 (12 * B + j) = yI 0) := by
  refine lp_all (fun k s => s.1 = yI (k : Int) ∧ dq τ s.2 ∧ ∀ j, j < k → rI s.2 12 (12 * B + j) = yI 0) (T + 1) _ ?_ ?_ ⟨rfl, fun _ _ _ => rfl, fun j hj => absurd hj (Nat.not_lt_zero j)⟩ (FU_b (by omega))
  · rintro k ⟨x, t⟩ hk ⟨h1, h2, h3⟩
    dsimp only at h1 h2 h3
    subst h1
    refine ⟨(yI ((k + 1 : Nat) : Int), wI t 12 (12 * B + k) 0), ?_, rfl, fun o j n => ?_, fun j hj => ?_⟩
    · dsimp only
      unfold fX10_seasonOf_b128
      rw [if_neg (fun q => by have := (yI_lt (by omega) (by omega) (by omega) (by omega)).mp q; omega), h2 0 15 (by omega), hB, mul12, addn, if_pos (inb_n (by omega) (by omega)), yI_cln (by omega), add1]
    · dsimp only
      rw [rI_o n]; exact h2 o j n
    · dsimp only
      by_cases q : j = k
      · rw [q, rI_s]; rfl
      · rw [rI_k (by omega)]; exact h3 j (by omega)
  · rintro ⟨x, t⟩ ⟨h1, h2, h3⟩
    dsimp only at h1 h2 h3
    subst h1
    refine ⟨t, ?_, h2, fun j hj => h3 j (by omega)⟩
    dsimp only
    unfold fX10_seasonOf_b128
    rw [if_pos ((yI_lt (by omega) (by omega) (by omega) (by omega)).mpr (by omega))]
/-- what a season tells -/
def tellS (m : Mm) (B T w : Nat) : Int := if w = 0 then sM m B B T else if w ≤ B then (gvn m B T w : Int) else -1
theorem f10_seasonOf {n : Nat} {σ τ : Sg} {B T w : Nat} (h : Inv n σ τ) (hB : cM τ 0 15 = (B : Int)) (T11 : T ≤ 11) (hw : w ≤ 5) : ∃ τ', fX10_seasonOf (yI (T : Int)) (yI (w : Int)) τ = some (yI (tellS (cM τ) B T w), τ') ∧ sT τ τ' := by
  have B5' := h.2.2.1.2.2.1
  have B5 : B ≤ 5 := by omega
  have g := Inv_GB h hB
  have e15 : rI τ 0 15 = yI (B : Int) := by rw [cM_r (o := 0) (k := 15) rfl, hB]
  obtain ⟨t1, a1, a2, a3⟩ := f10_gainAll h hB T11 (yI (w : Int))
  have e15a : rI t1 0 15 = yI (B : Int) := by rw [a2 0 15 (by omega) (by omega), e15]
  obtain ⟨t2, c1, c2, c3⟩ := f10_zero (τ := t1) B5 T11 e15a (yI (w : Int))
  have e15b : rI t2 0 15 = yI (B : Int) := by rw [c2 0 15 (by omega), e15a]
  obtain ⟨t3, d1, d2, d3⟩ := f10_rows (τ := t2) g B5 T11 (fun b hb j hj => by rw [c2 11 _ (by omega)]; exact a3 b hb j hj) (fun j hj => by rw [c3 j hj, Nat.sub_self]; rfl) (yI (w : Int))
  have e15c : rI t3 0 15 = yI (B : Int) := by rw [d2 0 15 (by omega), e15b]
  have fin : sT τ t3 := fun o j x y => by rw [d2 o j (by omega), c2 o j (by omega), a2 o j x y]
  have rm : ∀ b, b < B → RM t3 (cM τ) b T := fun b hb j hj => by rw [d2 11 _ (by omega), c2 11 _ (by omega)]; exact a3 b hb j hj
  refine ⟨t3, ?_, fin⟩
  unfold fX10_seasonOf fX10_seasonOf_b0 fX10_seasonOf_b282
  rw [b1 a1, b1 c1, e15b, yI_1, yI_sub, b1 d1, e15c]
  unfold tellS
  by_cases q : w = 0
  · have e0 := d3 0 (by omega) T (Nat.le_refl _)
    rw [Nat.mul_zero, Nat.zero_add, Nat.sub_zero] at e0
    rw [if_pos (eqp (v := 0) (b := 0) rfl (by omega)), if_pos (eqp (v := 0) (b := 0) rfl (by omega)), if_pos (inb_n (by omega) (by omega)), yI_cln (by omega), e0, if_pos q]
  · rw [if_neg (yI_nl (v := 0) (b := 0) rfl (by omega) (by omega) (by omega)), if_neg (yI_nl (v := 0) (b := 0) rfl (by omega) (by omega) (by omega)), if_neg q]
    by_cases q2 : w ≤ B
    · rw [if_pos ((yI_le (by omega) (by omega) (by omega) (by omega)).mpr (by omega)), if_pos q2, b1 (f10_given g B5 q2 T11 rm d3)]
    · rw [if_neg (fun y => q2 (by have := (yI_le (by omega) (by omega) (by omega) (by omega)).mp y; omega)), if_neg q2]
      rfl
theorem f9_season {n : Nat} {σ τ : Sg} {B T w : Nat} (h : Inv n σ τ) (hn : n < 512) (hB : cM τ 0 15 = (B : Int)) (s0 : cM τ 0 12 ≠ 0) (T1 : 1 ≤ T) (T11 : T ≤ 11) (hw : w ≤ 5) : ∃ σ', fX9_season (yI (T : Int)) (yI (w : Int)) σ = some (yI (tellS (cM τ) B T w), σ') ∧ Inv n σ' τ := by
  have B5' := h.2.2.1.2.2.1
  have B5 : B ≤ 5 := by omega
  have g := Inv_GB h hB
  obtain ⟨es, s1, s2⟩ := f9_seas h.2.1 hn
  have g3 := f9_isTugs (σ := σ) (a := (T : Int)) (by omega) (by omega)
  obtain ⟨t1, a1, a2, a3⟩ := f9_weighAll h hB (yI (T : Int)) (yI (w : Int))
  have e9 := a2.2.2.1.e.1
  rw [hB] at e9
  obtain ⟨t2, c1, c2, c3⟩ := f3_deal (σ := t1) g B5 a3
  have I2 : Inv n t2 τ := by
    unfold Inv at a2 ⊢
    rw [dl_core c2]; exact a2
  have e9b : rI t2 0 9 = yI (B : Int) := by rw [c2 0 9 (by omega), e9]
  refine ⟨t2, ?_, I2⟩
  unfold fX9_season fX9_season_b0
  rw [es, if_neg (yI_nl (v := 0) (b := 0) rfl (by omega) (by omega) s0), bt g3 ⟨by omega, by omega⟩]
  dsimp only
  rw [if_neg (ltn (v := 0) (b := 0) rfl (by omega) (by omega) (by omega)), if_pos (lep (v := 5) (b := 5) rfl (by omega) (by omega) (by omega)), b1 a1, e9, b1 c1, e9b]
  unfold tellS
  by_cases q : w = 0
  · have e0 := c3 0 (by omega) T T11
    rw [Nat.add_zero, Nat.sub_zero] at e0
    rw [if_pos (eqp (v := 0) (b := 0) rfl (by omega)), if_pos (inb_n (by omega) (by omega)), yI_cln (by omega), show (68 + ((0 : Int32)).toNatClampNeg) = 68 from rfl, e0, if_pos q]
  · rw [if_neg (yI_nl (v := 0) (b := 0) rfl (by omega) (by omega) (by omega)), if_neg q]
    by_cases q2 : w ≤ B
    · have e1 : yI (w : Int) - (1 : Int32) = yI ((w - 1 : Nat) : Int) := by rw [yI_1, yI_sub]; congr 1; omega
      have tf := f3_tugsFor (σ := t2) (b := w - 1) (t := T) g B5 (by omega) T11 (fun i hi => RG_d (a3 i hi) (by omega) c2) c3
      have eg : gvn (cM τ) B T w = few (sf (cM τ) B (w - 1) (lft (cM τ) B T (w - 1))) (lft (cM τ) B T (w - 1)) := by
        obtain ⟨j, rfl⟩ : ∃ j, w = j + 1 := ⟨w - 1, by omega⟩
        rfl
      rw [if_neg (fun y => by have := (yI_lt (by omega) (by omega) (by omega) (by omega)).mp y; omega), if_pos q2, e1, b1 tf, eg]
    · rw [if_pos ((yI_lt (by omega) (by omega) (by omega) (by omega)).mpr (by omega)), if_neg q2]
      rfl
theorem Inv_sT {n : Nat} {σ τ τ' : Sg} (h : Inv n σ τ) (l : sT τ τ') : Inv n σ τ' := by
  unfold Inv at h ⊢
  rw [sT_core l]; exact h
theorem s_season (a0 a1 : Int32) : SimI Inv (fX9_season a0 a1) (fX10_season a0 a1) := fun n σ τ hn h => by
  obtain ⟨t, h1, h2, rfl⟩ := yI_ex a0
  obtain ⟨w, h3, h4, rfl⟩ := yI_ex a1
  obtain ⟨es, s1, s2⟩ := f9_seas h.2.1 hn
  have hl := f10_lacks h.2.1
  have g3 := f9_isTugs (σ := σ) h1 h2
  have g4 := f10_areTugs (σ := τ) h1 h2
  have g5 := in_zz h3 h4 (show (0 : Int64).toInt = 0 from rfl) (show (5 : Int64).toInt = 5 from rfl) τ
  obtain ⟨B, hB⟩ := Int.eq_ofNat_of_zero_le h.2.2.1.2.1
  by_cases s0 : cM τ 0 12 = 0
  · refine ⟨-103, σ, τ, ?_, ?_, Inv_n n σ τ h⟩
    · unfold fX9_season fX9_season_b0
      rw [es, if_pos (eqp (v := 0) (b := 0) rfl s0)]
    · unfold fX10_season fX10_season_b0
      rw [bt hl s0]
  · by_cases qt : 1 ≤ t ∧ t ≤ 11
    · by_cases qw : 0 ≤ w ∧ w ≤ 5
      · obtain ⟨t, rfl⟩ := Int.eq_ofNat_of_zero_le (show 0 ≤ t by omega)
        obtain ⟨w, rfl⟩ := Int.eq_ofNat_of_zero_le qw.1
        obtain ⟨τ', r1, r2⟩ := f10_seasonOf (T := t) (w := w) h hB (by omega) (by omega)
        obtain ⟨σ', u1, u2⟩ := f9_season (T := t) (w := w) h hn hB s0 (by omega) (by omega) (by omega)
        refine ⟨_, σ', τ', u1, ?_, Inv_n n _ _ (Inv_sT u2 r2)⟩
        unfold fX10_season fX10_season_b0
        rw [bf hl s0]
        dsimp only
        rw [bt g4 qt]
        dsimp only
        rw [bt g5 qw]
        dsimp only
        rw [b1 r1]
      · refine ⟨-102, σ, τ, ?_, ?_, Inv_n n σ τ h⟩
        · unfold fX9_season fX9_season_b0
          rw [es, if_neg (yI_nl (v := 0) (b := 0) rfl (by omega) (by omega) s0), bt g3 qt]
          dsimp only
          by_cases y : w < 0
          · rw [if_pos (ltp (v := 0) (b := 0) rfl h3 h4 y)]
          · rw [if_neg (ltn (v := 0) (b := 0) rfl h3 h4 (by omega)), if_neg (len (v := 5) (b := 5) rfl h3 h4 (by omega))]
        · unfold fX10_season fX10_season_b0
          rw [bf hl s0]
          dsimp only
          rw [bt g4 qt]
          dsimp only
          rw [bf g5 qw]
    · refine ⟨-102, σ, τ, ?_, ?_, Inv_n n σ τ h⟩
      · unfold fX9_season fX9_season_b0
        rw [es, if_neg (yI_nl (v := 0) (b := 0) rfl (by omega) (by omega) s0), bf g3 qt]
      · unfold fX10_season fX10_season_b0
        rw [bf hl s0]
        dsimp only
        rw [bf g4 qt]
theorem s_more (a0 : Int32) : SimI Inv (fX9_more a0) (fX10_more a0) := fun n σ τ hn h => by
  obtain ⟨t, h1, h2, rfl⟩ := yI_ex a0
  obtain ⟨es, s1, s2⟩ := f9_seas h.2.1 hn
  have hl := f10_lacks h.2.1
  have g5 := in_zz h1 h2 (show (1 : Int64).toInt = 1 from rfl) (show (10 : Int64).toInt = 10 from rfl) τ
  obtain ⟨B, hB⟩ := Int.eq_ofNat_of_zero_le h.2.2.1.2.1
  by_cases s0 : cM τ 0 12 = 0
  · refine ⟨-103, σ, τ, ?_, ?_, Inv_n n σ τ h⟩
    · unfold fX9_more fX9_more_b0
      rw [es, if_pos (eqp (v := 0) (b := 0) rfl s0)]
    · unfold fX10_more fX10_more_b0
      rw [bt hl s0]
  · by_cases qt : 1 ≤ t ∧ t ≤ 10
    · obtain ⟨t, rfl⟩ := Int.eq_ofNat_of_zero_le (show 0 ≤ t by omega)
      obtain ⟨τ1, r1, r2⟩ := f10_seasonOf (T := t + 1) (w := 0) h hB (by omega) (by omega)
      obtain ⟨σ1, u1, u2⟩ := f9_season (T := t + 1) (w := 0) h hn hB s0 (by omega) (by omega) (by omega)
      have i1 := Inv_sT u2 r2
      have hB1 : cM τ1 0 15 = (B : Int) := by rw [sT_core r2, hB]
      obtain ⟨τ2, r3, r4⟩ := f10_seasonOf (T := t) (w := 0) i1 hB1 (by omega) (by omega)
      obtain ⟨σ2, u3, u4⟩ := f9_season (T := t) (w := 0) i1 hn hB1 (by rw [sT_core r2]; exact s0) (by omega) (by omega) (by omega)
      refine ⟨yI (tellS (cM τ) B (t + 1) 0) - yI (tellS (cM τ1) B t 0), σ2, τ2, ?_, ?_, Inv_n n _ _ (Inv_sT u4 r4)⟩
      · unfold fX9_more fX9_more_b0
        rw [es, if_neg (yI_nl (v := 0) (b := 0) rfl (by omega) (by omega) s0), if_neg (ltn (v := 1) (b := 1) rfl h1 h2 (by omega)), if_pos (ltp (v := 11) (b := 11) rfl h1 h2 (by omega)), add1, show (0 : Int32) = yI ((0 : Nat) : Int) from rfl, b1 u1]
        dsimp only
        rw [b1 u3]
      · unfold fX10_more fX10_more_b0
        rw [bf hl s0]
        dsimp only
        rw [bt g5 qt]
        dsimp only
        rw [add1, show (0 : Int32) = yI ((0 : Nat) : Int) from rfl, b1 r1]
        dsimp only
        rw [b1 r3]
    · refine ⟨-102, σ, τ, ?_, ?_, Inv_n n σ τ h⟩
      · unfold fX9_more fX9_more_b0
        rw [es, if_neg (yI_nl (v := 0) (b := 0) rfl (by omega) (by omega) s0)]
        by_cases y : t < 1
        · rw [if_pos (ltp (v := 1) (b := 1) rfl h1 h2 y)]
        · rw [if_neg (ltn (v := 1) (b := 1) rfl h1 h2 (by omega)), if_neg (ltn (v := 11) (b := 11) rfl h1 h2 (by omega))]
      · unfold fX10_more fX10_more_b0
        rw [bf hl s0]
        dsimp only
        rw [bf g5 qt]
