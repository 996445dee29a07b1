/-! ===== calls that write: line, coin, change, berg ===== -/
theorem ltp {a b : Int} {v : Int32} (hv : v.toInt = b) (h1 : -2147483648 ≤ a) (h2 : a < 2147483648) (h : a < b) : yI a < v := Int32.lt_iff_toInt_lt.mpr (by rw [hv, yI_int h1 h2]; exact h)
theorem ltn {a b : Int} {v : Int32} (hv : v.toInt = b) (h1 : -2147483648 ≤ a) (h2 : a < 2147483648) (h : b ≤ a) : ¬ yI a < v := fun q => by
  have q := Int32.lt_iff_toInt_lt.mp q
  rw [hv, yI_int h1 h2] at q; omega
theorem lep {a b : Int} {v : Int32} (hv : v.toInt = b) (h1 : -2147483648 ≤ a) (h2 : a < 2147483648) (h : a ≤ b) : yI a ≤ v := Int32.le_iff_toInt_le.mpr (by rw [hv, yI_int h1 h2]; exact h)
theorem len {a b : Int} {v : Int32} (hv : v.toInt = b) (h1 : -2147483648 ≤ a) (h2 : a < 2147483648) (h : b < a) : ¬ yI a ≤ v := fun q => by
  have q := Int32.le_iff_toInt_le.mp q
  rw [hv, yI_int h1 h2] at q; omega
theorem gtp {a b : Int} {v : Int32} (hv : v.toInt = b) (h1 : -2147483648 ≤ a) (h2 : a < 2147483648) (h : b < a) : v < yI a := Int32.lt_iff_toInt_lt.mpr (by rw [hv, yI_int h1 h2]; exact h)
theorem gtn {a b : Int} {v : Int32} (hv : v.toInt = b) (h1 : -2147483648 ≤ a) (h2 : a < 2147483648) (h : a ≤ b) : ¬ v < yI a := fun q => by
  have q := Int32.lt_iff_toInt_lt.mp q
  rw [hv, yI_int h1 h2] at q; omega
theorem gep {a b : Int} {v : Int32} (hv : v.toInt = b) (h1 : -2147483648 ≤ a) (h2 : a < 2147483648) (h : b ≤ a) : v ≤ yI a := Int32.le_iff_toInt_le.mpr (by rw [hv, yI_int h1 h2]; exact h)
theorem gen {a b : Int} {v : Int32} (hv : v.toInt = b) (h1 : -2147483648 ≤ a) (h2 : a < 2147483648) (h : a < b) : ¬ v ≤ yI a := fun q => by
  have q := Int32.le_iff_toInt_le.mp q
  rw [hv, yI_int h1 h2] at q; omega
theorem eqp {a b : Int} {v : Int32} (hv : v.toInt = b) (h : a = b) : yI a = v := by rw [h, ← hv, yI_of]
theorem rI_o {σ : Sg} {o k o' k' : Nat} {v : Int32} (h : o' ≠ o) : rI (wI σ o k v) o' k' = rI σ o' k' := if_neg (fun q => h q.1)
theorem rI_k {σ : Sg} {o k o' k' : Nat} {v : Int32} (h : k' ≠ k) : rI (wI σ o k v) o' k' = rI σ o' k' := if_neg (fun q => h q.2)
theorem f9_isHouse {σ : Sg} {a : Int} (h1 : -2147483648 ≤ a) (h2 : a < 2147483648) : fX9_isHouse (yI a) σ = some (if 0 ≤ a ∧ a ≤ 4 then 1 else 0, σ) := by
  unfold fX9_isHouse fX9_isHouse_b0
  simp (disch := omega) only [yI_0, yI_lit, yI_lt, yI_le]
  by_cases h : a < 0
  · rw [if_pos h, if_neg (by omega)]
  · rw [if_neg h]
    by_cases k : 5 ≤ a
    · first | rw [if_pos k, if_neg (by omega)] | rw [if_neg (by omega), if_neg (by omega)]
    · first | rw [if_neg k, if_pos (by omega)] | rw [if_pos (by omega), if_pos (by omega)]
theorem f4_add {σ : Sg} {l : Nat} (hl : rI σ 49 3 = yI (l : Int)) (h : l ≤ 10) (x1 x2 x3 : Int32) : fX4_add x1 x2 x3 σ = if l < 10 then some (1, wI (wI (wI (wI σ 50 l x1) 51 l x2) 52 l x3) 49 3 (yI ((l + 1 : Nat) : Int))) else some (0, σ) := by
  unfold fX4_add fX4_add_b0
  simp (disch := omega) only [rI_o, hl, yI_cln, add1]
  by_cases k : l < 10
  · rw [if_pos k, if_pos (ltp (v := 10) (b := 10) rfl (by omega) (by omega) (by omega)), if_pos (inb_n (by omega) k), if_pos (inb_n (by omega) k), if_pos (inb_n (by omega) k)]
  · rw [if_neg k, if_neg (ltn (v := 10) (b := 10) rfl (by omega) (by omega) (by omega))]
theorem IV_line {n : Nat} {c m : Mm} (h : IV n c m) {l : Nat} {a b d : Int} (hL : m 0 20 = (l : Int)) (hl10 : l < 10) (qa : 0 ≤ a ∧ a ≤ 4) (qb : 0 ≤ b ∧ b < m 0 15) (qd : 0 ≤ d ∧ d ≤ 99) : IV (n + 1) (up (up (up (up c 50 l a) 51 l b) 52 l d) 49 3 ((l + 1 : Nat) : Int)) (up (up (up (up m 7 (3 * l) a) 7 (3 * l + 1) b) 7 (3 * l + 2) d) 0 20 ((l + 1 : Nat) : Int)) := by
  obtain ⟨hp, hq, hv, hc, hl, hd, hi, hg⟩ := h
  have hb5 := hv.2.2.1
  have s : SE m (up (up (up (up m 7 (3 * l) a) 7 (3 * l + 1) b) 7 (3 * l + 2) d) 0 20 ((l + 1 : Nat) : Int)) := ⟨rfl, rfl, rfl, rfl, rfl⟩
  have kk : CE m (up (up (up (up m 7 (3 * l) a) 7 (3 * l + 1) b) 7 (3 * l + 2) d) 0 20 ((l + 1 : Nat) : Int)) := ⟨rfl, rfl, rfl⟩
  refine ⟨VP_f hp rfl rfl rfl rfl, VQ_n (VQ_f hq rfl rfl s rfl rfl rfl rfl rfl (fun i _ => by rw [up_o (by omega), up_o (by omega), up_o (by omega), up_o (by omega)])), VB_f hv rfl rfl s rfl (fun i _ => by rw [up_o (by omega), up_o (by omega), up_o (by omega), up_o (by omega)]), VC_f hc rfl kk, ?_, VD_f hd rfl rfl, ?_, VG_f hg hv.2.2.1 s kk rfl rfl rfl rfl (fun i _ => by rw [up_o (by omega), up_o (by omega), up_o (by omega), up_o (by omega)])⟩
  · refine ⟨rfl, by rw [up_s]; omega, by rw [up_s]; omega, fun j hj => ?_⟩
    rw [up_s] at hj
    unfold VL1
    by_cases ej : j = l
    · subst ej
      simp (disch := omega) only [up_o, up_n, up_s]
      refine ⟨by omega, ?_⟩; simp
    · have := hl.2.2.2 j (by omega)
      simp (disch := omega) only [up_o, up_n]
      exact this
  · rcases hi with ⟨i1, i2⟩ | ⟨i1, i2, i3, i4, i5, i6⟩
    · exact Or.inl ⟨i1, i2⟩
    · refine Or.inr ⟨i1, i2, i3, i4, i5, fun e => ?_⟩
      obtain ⟨v1, v2, v3, v4, v5, v6, v7, v8, v9, v10, v11⟩ := i6 e
      refine ⟨v1, v2, v3, v4, ?_, v6, v7, v8, v9, v10, fun j hj => ?_⟩
      · show m 0 48 ≤ ((l + 1 : Nat) : Int)
        omega
      · have hj' : (j : Int) < 3 * m 0 48 := hj
        have e16 := v11 j hj'
        simp (disch := omega) only [up_o, up_n]
        exact e16
theorem s_line (a0 a1 a2 : Int32) : SimI Inv (fX9_line a0 a1 a2) (fX10_line a0 a1 a2) := fun n σ τ _ h => by
  obtain ⟨a, h1, h2, rfl⟩ := yI_ex a0
  obtain ⟨b, h3, h4, rfl⟩ := yI_ex a1
  obtain ⟨d, h5, h6, rfl⟩ := yI_ex a2
  have hI := h
  obtain ⟨hp, hq, hv, hc, hl, hd, hi, hg⟩ := h
  have g1 := f9_isHouse (σ := σ) h1 h2
  have g2 := in_zz h1 h2 (show (0 : Int64).toInt = 0 from rfl) (show (4 : Int64).toInt = 4 from rfl) τ
  have g3 := f9_isBerg h3 h4 hv.e.1 hv.2.1 hv.2.2.1
  have g4 := f10_isBerg h3 h4 hv.e.2 hv.2.1 hv.2.2.1
  have g5 := in_zz h5 h6 (show (0 : Int64).toInt = 0 from rfl) (show (99 : Int64).toInt = 99 from rfl) τ
  by_cases qa : 0 ≤ a ∧ a ≤ 4
  · by_cases qb : 0 ≤ b ∧ b < cM τ 0 15
    · by_cases qd : 0 ≤ d ∧ d ≤ 99
      · obtain ⟨l, hL⟩ := Int.eq_ofNat_of_zero_le hl.2.1
        have hl10 := hl.2.2.1
        have hb5 := hv.2.2.1
        have e1 : rI σ 49 3 = yI (l : Int) := by rw [cC_r (o := 49) (k := 3) rfl, hl.1, hL]
        have e2 : rI τ 0 20 = yI (l : Int) := by rw [cM_r (o := 0) (k := 20) rfl, hL]
        have g6 := f4_add e1 (by omega) (yI a) (yI b) (yI d)
        have u1 : fX9_line (yI a) (yI b) (yI d) σ = if l < 10 then some (yI ((l + 1 : Nat) : Int), wI (wI (wI (wI σ 50 l (yI a)) 51 l (yI b)) 52 l (yI d)) 49 3 (yI ((l + 1 : Nat) : Int))) else some (-104, σ) := by
          unfold fX9_line fX9_line_b0
          rw [bt g1 qa]
          dsimp only
          rw [bt g3 qb]
          dsimp only
          rw [if_neg (ltn (v := 0) (b := 0) rfl h5 h6 qd.1), if_pos (lep (v := 99) (b := 99) rfl h5 h6 qd.2), g6]
          by_cases k : l < 10
          · rw [if_pos k, b1 rfl]
            dsimp only
            rw [if_neg (show ¬ (1 : Int32) = 0 by decide), rI_s, if_pos k]
          · rw [if_neg k, b1 rfl, if_neg k]
            dsimp only
            rw [if_pos rfl]
        have u2 : fX10_line (yI a) (yI b) (yI d) τ = if l < 10 then some (yI ((l + 1 : Nat) : Int), wI (wI (wI (wI τ 7 (3 * l) (yI a)) 7 (3 * l + 1) (yI b)) 7 (3 * l + 2) (yI d)) 0 20 (yI ((l + 1 : Nat) : Int))) else some (-104, τ) := by
          unfold fX10_line fX10_line_b0
          rw [bt g2 qa]
          dsimp only
          rw [bt g4 qb]
          dsimp only
          rw [bt g5 qd]
          dsimp only
          simp (disch := omega) only [rI_o, e2, mul3, add1, add2, yI_cln, rI_s]
          by_cases k : l < 10
          · rw [if_pos k, if_neg (yI_nl (v := 10) (b := 10) rfl (by omega) (by omega) (by omega)), if_pos (inb_n (by omega) (by omega)), if_pos (inb_n (by omega) (by omega)), if_pos (inb_n (by omega) (by omega))]
          · rw [if_neg k, if_pos (show yI (l : Int) = 10 by rw [show (l : Int) = 10 by omega]; rfl)]
        by_cases k : l < 10
        · rw [if_pos k] at u1 u2
          refine ⟨_, _, _, u1, u2, ?_⟩
          unfold Inv
          have ec : cC (wI (wI (wI (wI σ 50 l (yI a)) 51 l (yI b)) 52 l (yI d)) 49 3 (yI ((l + 1 : Nat) : Int))) = up (up (up (up (cC σ) 50 l a) 51 l b) 52 l d) 49 3 ((l + 1 : Nat) : Int) := by
            show core nsC _ = _
            rw [core_wz rfl (by omega) (by omega), core_wz rfl h5 h6, core_wz rfl h3 h4, core_wz rfl h1 h2]
          have em : cM (wI (wI (wI (wI τ 7 (3 * l) (yI a)) 7 (3 * l + 1) (yI b)) 7 (3 * l + 2) (yI d)) 0 20 (yI ((l + 1 : Nat) : Int))) = up (up (up (up (cM τ) 7 (3 * l) a) 7 (3 * l + 1) b) 7 (3 * l + 2) d) 0 20 ((l + 1 : Nat) : Int) := by
            show core nsM _ = _
            rw [core_wz rfl (by omega) (by omega), core_wz rfl h5 h6, core_wz rfl h3 h4, core_wz rfl h1 h2]
          rw [ec, em]
          exact IV_line hI hL (by omega) qa qb qd
        · rw [if_neg k] at u1 u2
          exact ⟨_, _, _, u1, u2, Inv_n n σ τ hI⟩
      · refine ⟨-102, σ, τ, ?_, ?_, Inv_n n σ τ hI⟩
        · unfold fX9_line fX9_line_b0
          rw [bt g1 qa]
          dsimp only
          rw [bt g3 qb]
          dsimp only
          by_cases k : d < 0
          · rw [if_pos (ltp (v := 0) (b := 0) rfl h5 h6 k)]
          · rw [if_neg (ltn (v := 0) (b := 0) rfl h5 h6 (by omega)), if_neg (len (v := 99) (b := 99) rfl h5 h6 (by omega))]
        · unfold fX10_line fX10_line_b0
          rw [bt g2 qa]
          dsimp only
          rw [bt g4 qb]
          dsimp only
          rw [bf g5 qd]
    · refine ⟨-101, σ, τ, ?_, ?_, Inv_n n σ τ hI⟩
      · unfold fX9_line fX9_line_b0
        rw [bt g1 qa]
        dsimp only
        rw [bf g3 qb]
      · unfold fX10_line fX10_line_b0
        rw [bt g2 qa]
        dsimp only
        rw [bf g4 qb]
  · refine ⟨-101, σ, τ, ?_, ?_, Inv_n n σ τ hI⟩
    · unfold fX9_line fX9_line_b0
      rw [bf g1 qa]
    · unfold fX10_line fX10_line_b0
      rw [bf g2 qa]
