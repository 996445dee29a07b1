/-! ===== the class seeks ===== -/
/-- what a tow leaves as it was, at the class's -/
def kT (σ σ' : Sg) : Prop := ∀ o j, o ≠ 3 → ¬ (42 ≤ o ∧ o ≤ 46) → rI σ' o j = rI σ o j
theorem kT_r (σ : Sg) : kT σ σ := fun _ _ _ _ => rfl
theorem kT_t {a b c : Sg} (h : kT a b) (k : kT b c) : kT a c := fun o j x y => by rw [k o j x y, h o j x y]
theorem kT_core {σ σ' : Sg} (h : kT σ σ') : cC σ' = cC σ := funext fun a => funext fun b => by
  by_cases e : a = 3 ∨ (42 ≤ a ∧ a ≤ 46)
  · have hn : ¬ nsC a b = true := by
      rcases e with rfl | e
      · unfold nsC; simp
      · rcases (show a = 42 ∨ a = 43 ∨ a = 44 ∨ a = 45 ∨ a = 46 by omega) with rfl | rfl | rfl | rfl | rfl <;> · unfold nsC; simp
    show core nsC σ' a b = core nsC σ a b
    unfold core
    rw [if_neg hn, if_neg hn]
  · exact core_e (h a b (by omega) (by omega))
theorem GK_k {σ σ' : Sg} {m : Mm} (v : VS m) (h : GK σ m) (f : kT σ σ') : GK σ' m := by
  have b30 := v.b30
  refine ⟨by rw [f 4 7 (by omega) (by omega), h.1], fun i hi => ⟨by rw [f 5 i (by omega) (by omega), (h.2.1 i hi).1], by rw [f 6 i (by omega) (by omega), (h.2.1 i hi).2.1], fun w hw => by rw [f (10 + i) w (by omega) (by omega), (h.2.1 i hi).2.2 w hw]⟩, by rw [f 41 0 (by omega) (by omega), h.2.2.1], by rw [f 41 1 (by omega) (by omega), h.2.2.2.1], by rw [f 41 2 (by omega) (by omega), h.2.2.2.2.1], h.2.2.2.2.2⟩
/-- the class's berg -/
def KB (σ : Sg) (m : Mm) (b : Nat) : Prop := rI σ (76 + b) 0 = yI (m 6 (5 * b)) ∧ rI σ (76 + b) 1 = yI (m 6 (5 * b + 1)) ∧ rI σ (76 + b) 2 = yI (m 6 (5 * b + 2)) ∧ rI σ (76 + b) 3 = yI (m 6 (5 * b + 3)) ∧ rI σ (76 + b) 4 = yI (m 6 (5 * b + 4)) ∧ rI σ (76 + b) 5 = yI (if m 6 (5 * b) = 1 ∨ m 6 (5 * b) = 4 then 1 else 0)
theorem KB_k {σ σ' : Sg} {m : Mm} {b : Nat} (h : KB σ m b) (f : kT σ σ') : KB σ' m b := by
  obtain ⟨h0, h1, h2, h3, h4, h5⟩ := h
  exact ⟨by rw [f _ 0 (by omega) (by omega), h0], by rw [f _ 1 (by omega) (by omega), h1], by rw [f _ 2 (by omega) (by omega), h2], by rw [f _ 3 (by omega) (by omega), h3], by rw [f _ 4 (by omega) (by omega), h4], by rw [f _ 5 (by omega) (by omega), h5]⟩
theorem KB_EC {σ : Sg} {m : Mm} {b tugs sk dr : Nat} (v : VS m) (w : VB1 m b) (hb : b < 5) (h : KB σ m b) (h7 : rR σ 3 7 = 76 + b) (h8 : rI σ 3 8 = yI (tugs : Int)) (h9 : rI σ 3 9 = yI (sk : Int)) (h15 : rI σ 3 15 = yI (dr : Int)) : EC σ (qE m b tugs sk dr) (76 + b) := by
  obtain ⟨w0, w1, w2, w3, w4, -⟩ := VB1_q v w
  obtain ⟨k0, k1, k2, k3, k4, k5⟩ := h
  refine ⟨h7, ?_, ?_, ?_, ?_, h8, h9, h15⟩
  · unfold isSh
    rw [rw_48 hb]
    exact decide_eq_true rfl
  · rw [k0, w0]; rfl
  · rw [k4, w4]; rfl
  · rw [k5]
    show _ = yI (if (m 6 (5 * b)).toNat = 1 ∨ (m 6 (5 * b)).toNat = 4 then 1 else 0)
    by_cases q : m 6 (5 * b) = 1 ∨ m 6 (5 * b) = 4
    · rw [if_pos q, if_pos (by omega)]
    · rw [if_neg q, if_neg (by omega)]
theorem f8_seek {σ : Sg} {m : Mm} {b size tugs sk : Nat} (v : VS m) (gk : GK σ m) (hb : b < 5) (w : VB1 m b) (kb : KB σ m b) (hs : size ≤ 999) (t1 : 1 ≤ tugs) (t11 : tugs ≤ 11) (s1 : sk ≤ 1) : ∃ σ', fX8_seek (76 + b) (yI (size : Int)) (yI (tugs : Int)) (yI (sk : Int)) σ = some σ' ∧ CB σ' (qbb m b size tugs sk) ∧ BB (qbb m b size tugs sk) ∧ kT σ σ' ∧ (rR σ' 3 7 = 76 + b ∧ rI σ' 3 8 = yI (tugs : Int) ∧ rI σ' 3 9 = yI (sk : Int)) ∧ CT σ' 0 (qT m b size 0) := by
  obtain ⟨w0, w1, w2, w3, w4, w5, w6, w7, w8, w9⟩ := VB1_q v w
  have eb := qE_b (tugs := tugs) (sk := sk) (dr := 0) w t1 t11 s1 (by omega)
  have tb : TB (qT m b size 0) := ⟨hs, w6, by show size + 0 ≤ 999; omega, by show 0 < 2147483648; omega⟩
  have f9 := q9 v w7
  have iB : isB (yI (sk : Int)) = true := by
    rcases (show sk = 0 ∨ sk = 1 by omega) with rfl | rfl
    · rfl
    · rfl
  have em : imax (1 : Int32) (yI (tugs : Int)) = yI (tugs : Int) := by
    rw [show (1 : Int32) = yI 1 from rfl, imax_z (by omega) (by omega) (by omega) (by omega)]
    congr 1; omega
  have z0 : ((0 : Int32)).toNatClampNeg = 0 := rfl
  have ft : kT σ (wI (wI (wI (wI (wI (wI (wI (wR σ 3 7 (76 + b)) 3 8 (yI (tugs : Int))) 3 9 (yI (sk : Int))) 3 10 0) 3 15 0) 42 0 (yI (size : Int))) 43 0 (yI (m 6 (5 * b + 3)))) 44 0 0) := fun o j a c => by
    rw [rI_o (by omega), rI_o (by omega), rI_o (by omega), rI_o a, rI_o a, rI_o a, rI_o a, rI_wR]
  have kb2 := KB_k kb ft
  have gk2 := GK_k v gk ft
  have ec := KB_EC (tugs := tugs) (sk := sk) (dr := 0) v w hb kb2 (by rw [rR_wI, rR_wI, rR_wI, rR_wI, rR_wI, rR_wI, rR_wI, rR_wR, if_pos ⟨rfl, rfl⟩]) (by rw [rI_o (by omega), rI_o (by omega), rI_o (by omega), rI_k (by omega), rI_k (by omega), rI_k (by omega), rI_s]) (by rw [rI_o (by omega), rI_o (by omega), rI_o (by omega), rI_k (by omega), rI_k (by omega), rI_s]) (by rw [rI_o (by omega), rI_o (by omega), rI_o (by omega), rI_s]; rfl)
  have ct : CT (wI (wI (wI (wI (wI (wI (wI (wR σ 3 7 (76 + b)) 3 8 (yI (tugs : Int))) 3 9 (yI (sk : Int))) 3 10 0) 3 15 0) 42 0 (yI (size : Int))) 43 0 (yI (m 6 (5 * b + 3)))) 44 0 0) 0 (qT m b size 0) := ⟨by rw [rI_o (by omega), rI_o (by omega), rI_s]; rfl, by rw [rI_o (by omega), rI_s, w3]; rfl, by rw [rI_s]; rfl⟩
  obtain ⟨σ', r1, r2, r3, r4⟩ := f8_follow (T0 := qT m b size 0) (c0 := qsq m b) v eb rfl (by omega : 76 ≤ 76 + b) tb (qF m (qsq m b)) FD (by show qF m (qsq m b) < 12; omega) [] (qsq m b) (qT m b size 0) qB0 _ w7 rfl (by omega) rfl trivial (fun _ hy => by cases hy) rfl (by show 0 + _ ≤ 9; omega) gk2 ec ct trivial ⟨fun _ => by rw [rI_o (by omega), rI_o (by omega), rI_o (by omega), rI_k (by omega), rI_s], fun q => absurd rfl q⟩ (fun q => absurd rfl q)
  have e : (WS m (qF m (qsq m b)) (qsq m b)).map (([] : List Nat) ++ ·) = qws m (qsq m b) := by
    have e1 : WS m (qF m (qsq m b)) (qsq m b) = qws m (qsq m b) := by unfold WS; rw [if_neg w9]; rfl
    rw [e1]
    exact List.map_id' _
  rw [e] at r2 r3
  refine ⟨σ', ?_, r2, r3, fun o j a c => by rw [r4.1 o j (by omega), ft o j a c], ⟨by rw [r4.2]; exact ec.1, by rw [r4.1 3 8 (by omega)]; exact ec.2.2.2.2.2.1, by rw [r4.1 3 9 (by omega)]; exact ec.2.2.2.2.2.2.1⟩, CT_f ct r4 (Nat.le_refl _)⟩
  have e1 : rI (wI (wI (wI (wI (wI (wI (wI (wR σ 3 7 (76 + b)) 3 8 (yI (tugs : Int))) 3 9 (yI (sk : Int))) 3 10 0) 3 15 0) 42 0 (yI (size : Int))) 43 0 (yI (m 6 (5 * b + 3)))) 44 0 0) (76 + b) 1 = yI (qsq m b : Int) := by rw [kb2.2.1, w1]
  unfold fX8_seek fX8_seek_b0
  rw [if_pos iB, em, z0]
  simp (disch := omega) only [rI_o, rI_wR, kb.2.2.2.1]
  simp (disch := omega) only [rI_o, rI_wR] at e1
  rw [e1]
  exact b1 r1
