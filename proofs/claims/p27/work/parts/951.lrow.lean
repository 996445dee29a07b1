/-! ===== the law's rows, read and written ===== -/
theorem rT_w {s : LwS} {o k o' k' : Nat} {v : Int32} : rT (wT s o k v) o' k' = if o' = o ∧ k' = k then v else rT s o' k' := rfl
theorem rT_s {s : LwS} {o k : Nat} {v : Int32} : rT (wT s o k v) o k = v := if_pos ⟨rfl, rfl⟩
theorem rT_o {s : LwS} {o k o' k' : Nat} {v : Int32} (h : o' ≠ o) : rT (wT s o k v) o' k' = rT s o' k' := if_neg (fun q => h q.1)
theorem rT_k {s : LwS} {o k k' : Nat} {v : Int32} (h : k' ≠ k) : rT (wT s o k v) o k' = rT s o k' := if_neg (fun q => h q.2)
theorem rT_e {s : LwS} {o k : Nat} : rT (eT s) o k = rT s o k := rfl
theorem rT_u {s p : LwS} {m o k : Nat} : rT (uT s p m) o k = rT p o k := rfl
theorem rT_c {s : LwS} {σ : Sg} {o k : Nat} : rT (cS s σ) o k = rT s o k := rfl
theorem rT_n {s : LwS} {n o k : Nat} (h : o ≠ n) : rT (nT s n) o k = rT s o k := if_neg h
theorem rT_nn {s : LwS} {n k : Nat} : rT (nT s n) n k = 0 := if_pos rfl
theorem uT_e (s : LwS) : uT s (eT s) 0 = s := rfl
theorem k0 : ((0 : Int32)).toNatClampNeg = 0 := rfl
theorem k1 : ((1 : Int32)).toNatClampNeg = 1 := rfl
theorem k2 : ((2 : Int32)).toNatClampNeg = 2 := rfl
theorem k3 : ((3 : Int32)).toNatClampNeg = 3 := rfl
theorem k4 : ((4 : Int32)).toNatClampNeg = 4 := rfl
theorem k5 : ((5 : Int32)).toNatClampNeg = 5 := rfl
theorem k25 : ((25 : Int32)).toNatClampNeg = 25 := rfl
/-- only the row w has changed -/
def fr (w : Nat) (s s' : LwS) : Prop := s'.1 = s.1 ∧ s'.2.2 = s.2.2 ∧ ∀ o k, o ≠ w → rT s' o k = rT s o k
theorem fr_r (w : Nat) (s : LwS) : fr w s s := ⟨rfl, rfl, fun _ _ _ => rfl⟩
theorem fr_w {w k : Nat} {v : Int32} {s s' : LwS} (h : fr w s s') : fr w s (wT s' w k v) := ⟨h.1, h.2.1, fun o j q => by rw [rT_o q]; exact h.2.2 o j q⟩
theorem fr_t {w : Nat} {a b c : LwS} (h : fr w a b) (k : fr w b c) : fr w a c := ⟨k.1.trans h.1, k.2.1.trans h.2.1, fun o j q => (k.2.2 o j q).trans (h.2.2 o j q)⟩
theorem fr_e {w : Nat} {s s' : LwS} (h : fr w (eT s) s') : fr w s (uT s s' 0) := ⟨h.1, rfl, fun o j q => h.2.2 o j q⟩
/-! numbers drawn from the script -/
theorem L_cell {xs : Nat → Int32} {Ln a : Nat} (hL : Ln ≤ 260) (ha : a ≤ 1000) (s : LwS) : ∃ v, fL_cell xs Ln (yI (a : Int)) s = some (v, s) := by
  unfold fL_cell fL_cell_b0
  rw [yI_nat]
  by_cases q : Ln ≤ a
  · rw [if_pos ((yI_le (by omega) (by omega) (by omega) (by omega)).mpr (by omega))]; exact ⟨_, rfl⟩
  · rw [if_neg (fun z => by have := (yI_le (by omega) (by omega) (by omega) (by omega)).mp z; omega), if_pos (inb_n (by omega) (by omega))]; exact ⟨_, rfl⟩
theorem iushr_1 (x : Int32) : ∃ u : Nat, u < 2147483648 ∧ iushr x 1 = yI (u : Int) := by
  refine ⟨x.toUInt32.toNat / 2, ?_, ?_⟩
  · have := x.toUInt32.toNat_lt
    omega
  · unfold iushr
    have e : (x.toUInt32 >>> ((1 : Int32).toUInt32 &&& Int32.toUInt32 31)).toNat = x.toUInt32.toNat / 2 := by
      rw [UInt32.toNat_shiftRight, show (((1 : Int32).toUInt32 &&& Int32.toUInt32 31).toNat % 32) = 1 from rfl, Nat.shiftRight_eq_div_pow]
    have e2 : (x.toUInt32 >>> ((1 : Int32).toUInt32 &&& Int32.toUInt32 31)) = UInt32.ofNat (x.toUInt32.toNat / 2) := by
      rw [← e, UInt32.ofNat_toNat]
    rw [e2, ← yI_nat]
    rfl
theorem L_at (x : Int32) {n : Nat} (h0 : 0 < n) (h1 : n ≤ 100000) (s : LwS) : ∃ k : Nat, k < n ∧ fL_at x (yI (n : Int)) s = some (yI (k : Int), s) := by
  obtain ⟨u, hu, e⟩ := iushr_1 x
  refine ⟨u % n, Nat.mod_lt _ h0, ?_⟩
  unfold fL_at fL_at_b0
  rw [if_neg (yI_ne0 (by omega) (by omega) (by omega)), e, yI_rem (by omega) (by omega) (by omega) (by omega)]
  rfl
/-! ===== how far, what is beside ===== -/
theorem L_far {s : LwS} {q W H c : Nat} (hW : rT s q 1 = yI (W : Int)) (hH : rT s q 2 = yI (H : Int)) (w1 : 0 < W) (w2 : W ≤ 6) (h3 : H ≤ 30) (h4 : c ≤ 30) : fL_far q (yI (c : Int)) s = some (yI (qfar W H c : Int), s) := by
  have n0 : ¬ yI (W : Int) = 0 := yI_ne0 (by omega) (by omega) (by omega)
  obtain ⟨dc, bc⟩ := divW h4 w1 w2
  obtain ⟨dH, bH⟩ := divW h3 w1 w2
  obtain ⟨rc, cc⟩ := remW h4 w1 w2
  obtain ⟨rH, cH⟩ := remW h3 w1 w2
  have B : ∀ (y : Nat), y ≤ 1000 → fL_far_b38 (yI ((c % W : Nat) : Int) - yI ((H % W : Nat) : Int)) (yI (y : Int)) s = some (yI ((y + qad (c % W) (H % W) : Nat) : Int), s) := fun y hy => by
    unfold fL_far_b38 qad
    generalize c % W = p at *
    generalize H % W = r at *
    rw [yI_sub]
    by_cases z : r ≤ p
    · rw [if_pos (gep (v := 0) (b := 0) rfl (by omega) (by omega) (by omega)), yI_add]; congr 3; omega
    · rw [if_neg (gen (v := 0) (b := 0) rfl (by omega) (by omega) (by omega)), yI_neg, yI_add]; congr 3; omega
  unfold fL_far fL_far_b0 qfar
  simp only [k1, k2, hW, hH]
  rw [if_neg n0, if_neg n0, if_neg n0, if_neg n0, rc, rH, dc, dH, yI_sub]
  generalize hx : c / W = x at *
  generalize hy : H / W = y at *
  by_cases z : y ≤ x
  · rw [if_pos (gep (v := 0) (b := 0) rfl (by omega) (by omega) (by omega)), show (x : Int) - (y : Int) = ((qad x y : Nat) : Int) by unfold qad; omega, B _ (by unfold qad; omega)]
  · rw [if_neg (gen (v := 0) (b := 0) rfl (by omega) (by omega) (by omega)), yI_neg, show -((x : Int) - (y : Int)) = ((qad x y : Nat) : Int) by unfold qad; omega, B _ (by unfold qad; omega)]
theorem L_beside {s : LwS} {q R W c w : Nat} (hR : rT s q 0 = yI (R : Int)) (hW : rT s q 1 = yI (W : Int)) (n30 : R * W ≤ 30) (w1 : 0 < W) (w2 : W ≤ 6) (hc : c < 30) (hw : w < 4) : fL_beside q (yI (c : Int)) (yI (w : Int)) s = some (yI (oZ (qbes R W c w)), s) := by
  have n0 : ¬ yI (W : Int) = 0 := yI_ne0 (by omega) (by omega) (by omega)
  obtain ⟨rk, ck⟩ := remW (x := c) (by omega) w1 w2
  unfold fL_beside fL_beside_b0 qbes
  simp only [k0, k1, hR, hW]
  rw [if_neg n0, if_neg n0, rk, yI_mul, show (R : Int) * (W : Int) = ((R * W : Nat) : Int) from rfl]
  rcases (show w = 0 ∨ w = 1 ∨ w = 2 ∨ w = 3 by omega) with rfl | rfl | rfl | rfl
  · rw [if_pos (show yI ((0 : Nat) : Int) = 0 from rfl), if_pos (show 0 = 0 from rfl)]
    by_cases z : W ≤ c
    · rw [if_neg (fun y => by have := (yI_lt (by omega) (by omega) (by omega) (by omega)).mp y; omega), if_pos z, oZ_some, yI_sub, show (c : Int) - (W : Int) = ((c - W : Nat) : Int) by omega]
    · rw [if_pos ((yI_lt (by omega) (by omega) (by omega) (by omega)).mpr (by omega)), if_neg z]; rfl
  · rw [if_neg (show ¬ yI ((1 : Nat) : Int) = 0 by decide), if_neg (show ¬ yI ((1 : Nat) : Int) = 2 by decide), if_pos (show yI ((1 : Nat) : Int) = 1 from rfl), if_neg (show ¬ 1 = 0 by omega), if_pos (show 1 = 1 from rfl), add1, add1]
    generalize c % W = m at *
    by_cases z : m + 1 < W
    · rw [if_neg (fun y => by have := (yI_le (by omega) (by omega) (by omega) (by omega)).mp y; omega), if_pos z]; rfl
    · rw [if_pos ((yI_le (by omega) (by omega) (by omega) (by omega)).mpr (by omega)), if_neg z]; rfl
  · rw [if_neg (show ¬ yI ((2 : Nat) : Int) = 0 by decide), if_pos (show yI ((2 : Nat) : Int) = 2 from rfl), if_neg (show ¬ 2 = 0 by omega), if_neg (show ¬ 2 = 1 by omega), if_pos (show 2 = 2 from rfl), addn]
    generalize R * W = N at *
    by_cases z : c + W < N
    · rw [if_neg (fun y => by have := (yI_le (by omega) (by omega) (by omega) (by omega)).mp y; omega), if_pos z]; rfl
    · rw [if_pos ((yI_le (by omega) (by omega) (by omega) (by omega)).mpr (by omega)), if_neg z]; rfl
  · rw [if_neg (show ¬ yI ((3 : Nat) : Int) = 0 by decide), if_neg (show ¬ yI ((3 : Nat) : Int) = 2 by decide), if_neg (show ¬ yI ((3 : Nat) : Int) = 1 by decide), if_neg (show ¬ 3 = 0 by omega), if_neg (show ¬ 3 = 1 by omega), if_neg (show ¬ 3 = 2 by omega)]
    by_cases z : 0 < c % W
    · have c0 : 0 < c := by
        by_cases y : c = 0
        · rw [y, Nat.zero_mod] at z; omega
        · omega
      generalize c % W = m at *
      rw [if_neg (len (v := 0) (b := 0) rfl (by omega) (by omega) (by omega)), if_pos z, oZ_some, yI_1, yI_sub, show (c : Int) - 1 = ((c - 1 : Nat) : Int) by omega]
    · generalize c % W = m at *
      rw [if_pos (lep (v := 0) (b := 0) rfl (by omega) (by omega) (by omega)), if_neg z]; rfl
/-! ===== days of a step ===== -/
theorem L_daysOf {s : LwS} {q c w S t : Nat} {fl : Int} (hf : rT s q (33 + c) = yI fl) (f1 : -1 ≤ fl) (f3 : fl ≤ 3) (hc : c < 30) (hw : w < 4) (hS : S ≤ 999) (t1 : 1 ≤ t) (t11 : t ≤ 11) : fL_daysOf q (yI (c : Int)) (yI (w : Int)) (yI (S : Int)) (yI (t : Int)) s = some (yI (qtk fl t w S : Int), s) := by
  have hd : S / (20 * t) ≤ S := Nat.div_le_self _ _
  have e20 : (20 : Int32) * yI (t : Int) = yI ((20 * t : Nat) : Int) := by rw [show (20 : Int32) = yI 20 from rfl, yI_mul]; rfl
  have e33 : (33 : Int32) + yI (c : Int) = yI ((33 + c : Nat) : Int) := by rw [show (33 : Int32) = yI ((33 : Nat) : Int) from rfl, addn]
  have B50 : ∀ z : Nat, z ≤ 2000 → fL_daysOf_b50 (yI (z : Int)) s = some (yI ((max 1 z : Nat) : Int), s) := fun z hz => by
    unfold fL_daysOf_b50
    by_cases y : 1 ≤ z
    · rw [if_pos (gep (v := 1) (b := 1) rfl (by omega) (by omega) (by omega))]; congr 3; omega
    · rw [if_neg (gen (v := 1) (b := 1) rfl (by omega) (by omega) (by omega)), show max 1 z = 1 by omega]; rfl
  have B24 : ∀ z : Nat, z ≤ 1000 → fL_daysOf_b24 q (yI (c : Int)) (yI (w : Int)) (yI (z : Int)) s = some (yI ((max 1 (if fl ≠ -1 ∧ (fl + 2) % 4 = (w : Int) then z + 1 else z) : Nat) : Int), s) := fun z hz => by
    unfold fL_daysOf_b24
    rw [e33, if_pos (inb_n (by omega) (by omega)), yI_cln (by omega), hf]
    by_cases y : fl < 0
    · rw [if_pos (ltp (v := 0) (b := 0) rfl (by omega) (by omega) y), if_neg (c := fl ≠ -1 ∧ (fl + 2) % 4 = (w : Int)) (by omega)]
      exact B50 z (by omega)
    · rw [if_neg (ltn (v := 0) (b := 0) rfl (by omega) (by omega) (by omega)), if_pos (inb_n (by omega) (by omega)), show (2 : Int32) = yI 2 from rfl, yI_add, show (4 : Int32) = yI 4 from rfl, yI_rem (by omega) (by omega) (by omega) (by omega), add1]
      by_cases x : (fl + 2) % 4 = (w : Int)
      · rw [if_pos (by rw [x]), if_pos ⟨by omega, x⟩]
        exact B50 (z + 1) (by omega)
      · rw [if_neg (fun u => x (yI_inj (by omega) (by omega) (by omega) (by omega) u)), if_neg (fun u => x u.2)]
        exact B50 z (by omega)
  unfold fL_daysOf fL_daysOf_b0
  rw [e20, if_neg (yI_ne0 (by omega) (by omega) (by omega)), e33, if_pos (inb_n (by omega) (by omega)), yI_cln (by omega), hf, divn (by omega) (by omega) (by omega), show (1 : Int32) = yI ((1 : Nat) : Int) from rfl, addn]
  unfold qtk
  generalize S / (20 * t) = D at *
  by_cases y : fl = (w : Int)
  · rw [if_pos (by rw [y]), if_pos y, yI_neg, yI_add, show ((1 + D : Nat) : Int) + -((1 : Nat) : Int) = (D : Int) by omega, B24 D (by omega), if_neg (c := fl ≠ -1 ∧ (fl + 2) % 4 = (w : Int)) (by omega)]
  · rw [if_neg (fun u => y (yI_inj (by omega) (by omega) (by omega) (by omega) u)), if_neg y, B24 (1 + D) (by omega)]
    by_cases x : fl ≠ -1 ∧ (fl + 2) % 4 = (w : Int)
    · rw [if_pos x, show max 1 (1 + D + 1) = 1 + D + 1 by omega]
    · rw [if_neg x, show max 1 (1 + D) = 1 + D by omega]
