/-! ===== calls that write: line, coin, change, berg ===== -/
theorem ltp {a b : Int} {v : Int32} (hv : v.toInt = b) (h1 : -2147483648 ≤ a) (h2 : a < 2147483648) (h : a < b) : yI a < v := Int32.lt_iff_toInt_lt.mpr (by rw [hv, yI_int h1 h2]; exact h)
theorem ltn {a b : Int} {v : Int32} (hv : v.toInt = b) (h1 : -2147483648 ≤ a) (h2 : a < 2147483648) (h : b ≤ a) : ¬ yI a < v := fun q => by
  have q := Int32.lt_iff_toInt_lt.mp q
  rw [hv, yI_int h1 h2] at q; omega
theorem lep {a b : Int} {v : Int32} (hv : v.toInt = b) (h1 : -2147483648 ≤ a) (h2 : a < 2147483648) (h : a ≤ b) : yI a ≤ v := Int32.le_iff_toInt_le.mpr (by rw [hv, yI_int h1 h2]; exact h)
theorem len {a b : Int} {v : Int32} (hv : v.toInt = b) (h1 : -2147483648 ≤ a) (h2 : a < 2147483648) (h : b < a) : ¬ yI a ≤ v := fun q => by
  have q := Int32.le_iff_toInt_le.mp q
  rw [hv, yI_int h1 h2] at q; omega
theorem gtp {a b : Int} {v : Int32} (hv : v.toInt = b) (h1 : -2147483648 ≤ a) (h2 : a < 2147483648) (h : b < a) : v < yI a := Int32.lt_iff_toInt_lt.mpr (by rw [hv, yI_int h1 h2]; exact h)
theorem gtn {a b : Int} {v : Int32} (hv : v.toInt = b) (h1 : -2147483648 ≤ a) (h2 : a < 2147483648) (h : a ≤ b) : ¬ v < yI a := fun q => by
  have q := Int32.lt_iff_toInt_lt.mp q
  rw [hv, yI_int h1 h2] at q; omega
theorem gep {a b : Int} {v : Int32} (hv : v.toInt = b) (h1 : -2147483648 ≤ a) (h2 : a < 2147483648) (h : b ≤ a) : v ≤ yI a := Int32.le_iff_toInt_le.mpr (by rw [hv, yI_int h1 h2]; exact h)
theorem gen {a b : Int} {v : Int32} (hv : v.toInt = b) (h1 : -2147483648 ≤ a) (h2 : a < 2147483648) (h : a < b) : ¬ v ≤ yI a := fun q => by
  have q := Int32.le_iff_toInt_le.mp q
  rw [hv, yI_int h1 h2] at q; omega
theorem eqp {a b : Int} {v : Int32} (hv : v.toInt = b) (h : a = b) : yI a = v := by rw [h, ← hv, yI_of]
theorem rI_o {σ : Sg} {o k o' k' : Nat} {v : Int32} (h : o' ≠ o) : rI (wI σ o k v) o' k' = rI σ o' k' := if_neg (fun q => h q.1)
theorem rI_k {σ : Sg} {o k o' k' : Nat} {v : Int32} (h : k' ≠ k) : rI (wI σ o k v) o' k' = rI σ o' k' := if_neg (fun q => h q.2)
theorem IV_line {n : Nat} {c m : Mm} (h : IV n c m) {l : Nat} {a b d : Int} (hL : m 0 20 = (l : Int)) (hl10 : l < 10) (qa : 0 ≤ a ∧ a ≤ 4) (qb : 0 ≤ b ∧ b < m 0 15) (qd : 0 ≤ d ∧ d ≤ 99) : IV (n + 1) (up (up (up (up c 50 l a) 51 l b) 52 l d) 49 3 ((l + 1 : Nat) : Int)) (up (up (up (up m 7 (3 * l) a) 7 (3 * l + 1) b) 7 (3 * l + 2) d) 0 20 ((l + 1 : Nat) : Int)) := by
  obtain ⟨hp, hq, hv, hc, hl, hd, hi, hg⟩ := h
  have hb5 := hv.2.2.1
  have s : SE m (up (up (up (up m 7 (3 * l) a) 7 (3 * l + 1) b) 7 (3 * l + 2) d) 0 20 ((l + 1 : Nat) : Int)) := ⟨rfl, rfl, rfl, rfl, rfl⟩
  have kk : CE m (up (up (up (up m 7 (3 * l) a) 7 (3 * l + 1) b) 7 (3 * l + 2) d) 0 20 ((l + 1 : Nat) : Int)) := ⟨rfl, rfl, rfl⟩
  refine ⟨VP_f hp rfl rfl rfl rfl, VQ_n (VQ_f hq rfl rfl s rfl rfl rfl rfl rfl (fun i _ => by rw [up_o (by omega), up_o (by omega), up_o (by omega), up_o (by omega)])), VB_f hv rfl rfl s rfl (fun i _ => by rw [up_o (by omega), up_o (by omega), up_o (by omega), up_o (by omega)]), VC_f hc rfl kk, ?_, VD_f hd rfl rfl, ?_, VG_f hg hv.2.2.1 s kk rfl rfl rfl rfl (fun i _ => by rw [up_o (by omega), up_o (by omega), up_o (by omega), up_o (by omega)])⟩
  · refine ⟨rfl, by rw [up_s]; omega, by rw [up_s]; omega, fun j hj => ?_⟩
    rw [up_s] at hj
    unfold VL1
    by_cases ej : j = l
    · subst ej
      simp (disch := omega) only [up_o, up_n, up_s]
      refine ⟨by omega, ?_⟩; simp
    · have := hl.2.2.2 j (by omega)
      simp (disch := omega) only [up_o, up_n]
      exact this
  · rcases hi with ⟨i1, i2⟩ | ⟨i1, i2, i3, i4, i5, i6⟩
    · exact Or.inl ⟨i1, i2⟩
    · refine Or.inr ⟨i1, i2, i3, i4, i5, fun e => ?_⟩
      obtain ⟨v1, v2, v3, v4, v5, v6, v7, v8, v9, v10, v11⟩ := i6 e
      refine ⟨v1, v2, v3, v4, ?_, v6, v7, v8, v9, v10, fun j hj => ?_⟩
      · show m 0 48 ≤ ((l + 1 : Nat) : Int)
        omega
      · have hj' : (j : Int) < 3 * m 0 48 := hj
        have e16 := v11 j hj'
        simp (disch := omega) only [up_o, up_n]
        exact e16
