/-! ===== the class opens the ways ===== -/
theorem q9 {m : Mm} (v : VS m) {i : Nat} (hi : i < qR m * qW m) : qF m i ≤ 9 := by
  obtain ⟨-, w1, w2⟩ := v.W
  obtain ⟨-, r1, r2⟩ := v.R
  have hH := v.H.2
  unfold qF qfar qad
  generalize qR m = R at *
  generalize qW m = W at *
  generalize qH m = H at *
  have a1 : i / W < R := Nat.div_lt_of_lt_mul (by rw [Nat.mul_comm]; exact hi)
  have a2 : H / W < R := Nat.div_lt_of_lt_mul (by rw [Nat.mul_comm]; exact hH)
  have a3 : i % W < W := Nat.mod_lt _ (by omega)
  have a4 : H % W < W := Nat.mod_lt _ (by omega)
  generalize i / W = x1 at *
  generalize H / W = x2 at *
  generalize i % W = x3 at *
  generalize H % W = x4 at *
  omega
theorem qcn_4 {m : Mm} (w1 : 2 ≤ qW m) (w2 : qW m ≤ 6) : ∀ (d c : Nat), qF m c ≤ d → qcn m c ≤ 4 ^ d
  | 0, c, h => by
    by_cases h11 : qL m c = 11
    · unfold qcn; rw [if_pos h11]; omega
    · by_cases hH : c = qH m
      · unfold qcn; rw [if_neg h11, if_pos hH]; decide
      · rw [qcn_s w1 w2 h11 hH]
        have z : ∀ w, cw m c w = 0 := fun w => by
          unfold cw
          cases hq : qto m c w with
          | none => rfl
          | some x => have := (qto_i hq).2.2; omega
        rw [z, z, z, z]; omega
  | d + 1, c, h => by
    have p : 0 < 4 ^ d := Nat.pow_pos (by omega)
    by_cases h11 : qL m c = 11
    · unfold qcn; rw [if_pos h11]; omega
    · by_cases hH : c = qH m
      · unfold qcn; rw [if_neg h11, if_pos hH, Nat.pow_succ]; omega
      · rw [qcn_s w1 w2 h11 hH]
        have z : ∀ w, cw m c w ≤ 4 ^ d := fun w => by
          unfold cw
          cases hq : qto m c w with
          | none => exact Nat.zero_le _
          | some x => exact qcn_4 w1 w2 d x (by have := qto_f w1 w2 hq; omega)
        have z0 := z 0
        have z1 := z 1
        have z2 := z 2
        have z3 := z 3
        rw [Nat.pow_succ]
        omega
theorem qcn_b {m : Mm} (v : VS m) {i : Nat} (hi : i < qR m * qW m) : qcn m i ≤ 262144 := by
  obtain ⟨-, w1, w2⟩ := v.W
  exact qcn_4 w1 w2 9 i (q9 v hi)
theorem qF_H (m : Mm) : qF m (qH m) = 0 := by
  unfold qF qfar qad
  omega
theorem qF_0 {m : Mm} (v : VS m) {i : Nat} (h : qF m i = 0) : i = qH m := by
  obtain ⟨-, w1, w2⟩ := v.W
  unfold qF qfar qad at h
  generalize qW m = W at *
  generalize qH m = H at *
  rcases (show W = 2 ∨ W = 3 ∨ W = 4 ∨ W = 5 ∨ W = 6 by omega) with rfl | rfl | rfl | rfl | rfl <;> omega
theorem qL_b {m : Mm} (v : VS m) {i : Nat} (hi : i < qR m * qW m) : m 4 i = (qL m i : Int) ∧ qL m i ≤ 11 ∧ (qL m i = 10 → i = qH m) := by
  have e := v.RW
  obtain ⟨a, b, -, -, d⟩ := v.2.2.2.2.2.2.2 i (by rw [e]; omega)
  unfold qL
  exact ⟨by omega, by omega, fun q => d (by omega)⟩
theorem qL_H {m : Mm} (v : VS m) : qL m (qH m) = 10 := by
  unfold qL
  rw [v.2.2.2.2.2.2.1]; rfl
/-- ways by the first k steps -/
def lead (m : Mm) (c w : Nat) : Nat := if qL m c = 11 then 0 else cw m c w
def cs (m : Mm) (c : Nat) : Nat → Nat
  | 0 => if c = qH m then 1 else 0
  | k + 1 => cs m c k + lead m c k
theorem cs_4 {m : Mm} (v : VS m) (c : Nat) : cs m c 4 = qcn m c := by
  obtain ⟨-, w1, w2⟩ := v.W
  show (if c = qH m then 1 else 0) + lead m c 0 + lead m c 1 + lead m c 2 + lead m c 3 = _
  unfold lead
  by_cases h11 : qL m c = 11
  · have hH : c ≠ qH m := fun q => by
      rw [q, qL_H v] at h11; omega
    rw [if_neg hH, if_pos h11, if_pos h11, if_pos h11, if_pos h11]
    unfold qcn
    rw [if_pos h11]
  · rw [if_neg h11, if_neg h11, if_neg h11, if_neg h11]
    by_cases hH : c = qH m
    · have z : ∀ w, cw m c w = 0 := fun w => by
        unfold cw
        cases hq : qto m c w with
        | none => rfl
        | some x =>
          have := (qto_i hq).2.2
          rw [hH, qF_H] at this; omega
      rw [z, z, z, z, if_pos hH]
      unfold qcn
      rw [if_neg h11, if_pos hH]
    · rw [if_neg hH, qcn_s w1 w2 h11 hH]; omega
theorem cs_b {m : Mm} (v : VS m) {c : Nat} (hc : c < qR m * qW m) {k : Nat} (hk : k ≤ 4) : cs m c k ≤ 262144 := by
  have h4 := cs_4 v c
  have hb := qcn_b v hc
  have e : cs m c 4 = cs m c 3 + lead m c 3 := rfl
  have e3 : cs m c 3 = cs m c 2 + lead m c 2 := rfl
  have e2 : cs m c 2 = cs m c 1 + lead m c 1 := rfl
  have e1 : cs m c 1 = cs m c 0 + lead m c 0 := rfl
  rcases (show k = 0 ∨ k = 1 ∨ k = 2 ∨ k = 3 ∨ k = 4 by omega) with rfl | rfl | rfl | rfl | rfl <;> omega
/-- the sea laid, ways apart -/
def GE (σ : Sg) (m : Mm) : Prop := rI σ 4 5 = yI ((qR m * qW m : Nat) : Int) ∧ rI σ 4 6 = yI (qW m : Int) ∧ ∀ i, i < qR m * qW m → rI σ 5 i = yI (qL m i : Int) ∧ rI σ 7 i = yI (qF m i : Int)
def DN1 (σ : Sg) (m : Mm) (i : Nat) : Prop := rI σ 8 i = yI (qcn m i : Int) ∧ ∀ w, w < 4 → rI σ (10 + i) w = yI (qnx m i w)
theorem f7_ow_no {t : Sg} {x1 p3 : Int32} {i w : Nat} (hi : i < 30) (hw : w < 4) : fX7_openWays_b95 x1 (yI (i : Int)) (yI (w : Int)) p3 t = some (.inl (yI ((w + 1 : Nat) : Int), wI (wI t (10 + i) w (-1)) 8 i (rI t 8 i))) := by
  unfold fX7_openWays_b95 fX7_openWays_b96 fX7_openWays_b116 fX7_openWays_b140
  rw [if_pos (inb_n (by omega) hi), if_pos rfl, if_pos (inb_n (by omega) hw), if_pos rfl, if_pos (inb_n (by omega) hi), if_pos (inb_n (by omega) hi), yI_cln (by omega), yI_cln (by omega), add1, rI_o (by omega), show rI t 8 i + 0 = rI t 8 i from Int32.add_zero _]
theorem f7_ow_go {t : Sg} {x1 : Int32} {i w x : Nat} (hi : i < 30) (hx : x < 30) (hw : w < 4) : fX7_openWays_b96 x1 (yI (i : Int)) (yI (w : Int)) (yI (x : Int)) 1 t = some (.inl (yI ((w + 1 : Nat) : Int), wI (wI t (10 + i) w (yI (x : Int))) 8 i (rI t 8 i + rI t 8 x))) := by
  unfold fX7_openWays_b96 fX7_openWays_b116 fX7_openWays_b140
  rw [if_pos (inb_n (by omega) hi), if_neg (show ¬ (1 : Int32) = 0 by decide), if_pos (inb_n (by omega) hw), if_pos (inb_n (by omega) hi), if_neg (show ¬ (1 : Int32) = 0 by decide), if_pos (inb_n (by omega) hx), if_pos (inb_n (by omega) hi), yI_cln (by omega), yI_cln (by omega), yI_cln (by omega), add1, rI_o (by omega), rI_o (by omega)]
theorem f7_ow_st {t : Sg} {m : Mm} (v : VS m) {i w : Nat} (hi : i < qR m * qW m) (hw : w < 4) (ge : GE t m) (h8 : rI t 8 i = yI (cs m i w : Int)) (hd : ∀ x, x < qR m * qW m → qF m x < qF m i → rI t 8 x = yI (qcn m x : Int)) : fX7_openWays_b40 (yI (qF m i : Int)) (yI (i : Int)) (yI (w : Int)) t = some (.inl (yI ((w + 1 : Nat) : Int), wI (wI t (10 + i) w (yI (qnx m i w))) 8 i (yI (cs m i (w + 1) : Int)))) := by
  obtain ⟨-, w1, w2⟩ := v.W
  obtain ⟨-, r1, r2⟩ := v.R
  have b30 := v.b30
  obtain ⟨g1, g2, g3⟩ := ge
  have hb := f7_beside (c := i) (w := w) g1 g2 b30 (by omega) w2 (by omega) hw
  have no : ∀ p3 : Int32, lead m i w = 0 → qnx m i w = -1 → fX7_openWays_b95 (yI (qF m i : Int)) (yI (i : Int)) (yI (w : Int)) p3 t = some (.inl (yI ((w + 1 : Nat) : Int), wI (wI t (10 + i) w (yI (qnx m i w))) 8 i (yI (cs m i (w + 1) : Int)))) := fun p3 e1 e2 => by
    rw [f7_ow_no (by omega) hw, h8, e2, show cs m i (w + 1) = cs m i w from by show cs m i w + lead m i w = _; rw [e1]; rfl]; rfl
  have nn : qto m i w = none → lead m i w = 0 ∧ qnx m i w = -1 := fun q => by
    unfold lead cw qnx
    rw [q]
    refine ⟨?_, rfl⟩
    by_cases z : qL m i = 11
    · rw [if_pos z]
    · rw [if_neg z]
  unfold fX7_openWays_b40
  rw [if_neg (gen (v := 4) (b := 4) rfl (by omega) (by omega) (by omega)), b1 hb]
  dsimp only
  cases hx : qbes (qR m) (qW m) i w with
  | none =>
    obtain ⟨n1, n2⟩ := nn (by unfold qto; rw [hx]; rfl)
    rw [oZ_none, if_pos (eqp (v := -1) (b := -1) rfl rfl)]
    exact no _ n1 n2
  | some x =>
    have xN := qbes_b r1 r2 w1 w2 hi hx
    have e1 := g3 i hi
    have e2 := g3 x xN
    have l1 := (qL_b v hi).2.1
    have d1 := q9 v hi
    have d2 := q9 v xN
    have eto : qto m i w = qok m i x := by unfold qto; rw [hx]; rfl
    rw [oZ_some, if_neg (yI_nl (v := -1) (b := -1) rfl (by omega) (by omega) (by omega)), if_pos (inb_n (by omega) (by omega)), yI_cln (by omega), e1.1]
    by_cases z : qL m i = 11
    · rw [if_pos (eqp (v := 11) (b := 11) rfl (by omega))]
      refine no _ (by unfold lead; rw [if_pos z]) ?_
      unfold qnx
      cases qto m i w with
      | none => rfl
      | some y => dsimp only; rw [if_pos (Or.inl z)]
    · rw [if_neg (yI_nl (v := 11) (b := 11) rfl (by omega) (by omega) (by omega)), if_pos (inb_n (by omega) (by omega)), yI_cln (by omega), e2.2]
      by_cases z2 : qF m i ≤ qF m x
      · obtain ⟨n1, n2⟩ := nn (by rw [eto]; unfold qok; rw [if_pos (Or.inr z2)])
        rw [if_pos ((yI_le (by omega) (by omega) (by omega) (by omega)).mpr (by omega))]
        exact no _ n1 n2
      · have e8 := hd x xN (by omega)
        have cb := qcn_b v xN
        rw [if_neg (fun q => by have := (yI_le (by omega) (by omega) (by omega) (by omega)).mp q; omega), if_pos (inb_n (by omega) (by omega)), e8]
        by_cases z3 : qcn m x = 0
        · rw [if_pos (lep (v := 0) (b := 0) rfl (by omega) (by omega) (by omega))]
          by_cases z4 : qL m x = 11
          · obtain ⟨n1, n2⟩ := nn (by rw [eto]; unfold qok; rw [if_pos (Or.inl z4)])
            exact no _ n1 n2
          · have et : qto m i w = some x := by rw [eto]; unfold qok; rw [if_neg (by omega)]
            refine no _ ?_ ?_
            · unfold lead cw; rw [et, if_neg z]; exact z3
            · unfold qnx; rw [et]; dsimp only; rw [if_pos (Or.inr z3)]
        · rw [if_neg (len (v := 0) (b := 0) rfl (by omega) (by omega) (by omega))]
          have z4 : qL m x ≠ 11 := fun q => z3 (by unfold qcn; rw [if_pos q])
          have et : qto m i w = some x := by rw [eto]; unfold qok; rw [if_neg (by omega)]
          have n2 : qnx m i w = (x : Int) := by unfold qnx; rw [et]; dsimp only; rw [if_neg (by omega)]
          have n1 : cs m i (w + 1) = cs m i w + qcn m x := by
            show cs m i w + lead m i w = _
            unfold lead cw; rw [et, if_neg z]
          rw [f7_ow_go (by omega) (by omega) hw, h8, e8, n1, n2, addn]
