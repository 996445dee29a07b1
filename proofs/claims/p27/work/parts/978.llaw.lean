/-! ===== the seasons of the law, its refusals, its whole body ===== -/
theorem cSs (t : LwS) : cS t t.1 = t := rfl
theorem L_turn {xs : Nat → Int32} {Ln n w2 w4 w5 w8 nw B i : Nat} {s : LwS} {τ : Sg} (hLn : Ln ≤ 260) (h : Inv n s.1 τ) (hn : n < 512) (q12 : cM τ 0 12 ≠ 0) (lk : LK w2 w4 w5 B s τ) (hg : HG s w8 (cM τ) B) (l2 : w2 < nw) (l4 : w4 < nw) (l5 : w5 < nw) (l8 : w8 < nw) (hi : i < 2) (hu : s.2.2 + 3456 ≤ 6100) : ∃ s', fL_law_b667 xs Ln w2 w4 w8 (yI (i : Int)) nw s = some (.inl (yI ((i + 1 : Nat) : Int), s')) ∧ Inv n s'.1 τ ∧ s'.2.2 = s.2.2 + 1728 * (i + 1) ∧ LK w2 w4 w5 B s' τ ∧ HG s' w8 (cM τ) B := by
  have hB3 := lk.2.1.1
  have h15 := lk.2.1.2.2.1
  have g := Inv_GB h h15
  obtain ⟨x, hx⟩ := L_cell (xs := xs) (a := 11 + i) hLn (by omega) (eT s)
  obtain ⟨t, t1, t2⟩ := L_at x (n := 11 - i) (by omega) (by omega) (eT s)
  have e11 : (11 : Int32) - yI (i : Int) = yI ((11 - i : Nat) : Int) := by
    rw [show (11 : Int32) = yI 11 from rfl, yI_sub]; congr 1; omega
  have hgE : HG (eT s) w8 (cM τ) B := hg
  obtain ⟨s1, a1, a2, a3⟩ := L_season1 (T := 1 + t) (s := eT s) (w2 := w8) (nw := nw) h hn h15 q12 hB3 (by omega) (by omega) l8 hgE rfl
  have lk1 : LK w2 w4 w5 B (uT s s1 1728) τ := LK_f lk (fun j => (a3 _ _ (by omega) (by omega))) (fun j => (a3 _ _ (by omega) (by omega))) (fun j => (a3 _ _ (by omega) (by omega)))
  have hg1 : HG (uT s s1 1728) w8 (cM τ) B := fun b hb t t1 t2 => by rw [rT_u, a3 _ _ (by omega) (by omega)]; exact hg b hb t t1 t2
  have m1 := sM_r g B (1 + t) (Nat.le_refl _) (by omega)
  unfold fL_law_b667
  rw [if_neg (gen (v := 2) (b := 2) rfl (by omega) (by omega) (by omega)), show (11 : Int32) + yI (i : Int) = yI ((11 + i : Nat) : Int) from addn 11 i, b1 hx]
  dsimp only
  rw [uT_e, e11, b1 t2]
  dsimp only
  rw [uT_e, if_pos (show decide (s.2.2 + 1728 ≤ 6100) = true from decide_eq_true (by omega)), k25, lk.2.1.2.1, show (1 : Int32) + yI (t : Int) = yI ((1 + t : Nat) : Int) from addn 1 t, b1 a1]
  dsimp only
  rw [if_neg (ltn (v := 0) (b := 0) rfl (by omega) (by omega) (by omega))]
  by_cases q : i = 1
  · obtain ⟨σ2, b1', b2⟩ := a_more (T := 1 + t) (show Inv n (uT s s1 1728).1 τ from a2) hn h15 q12 (by omega) (by omega)
    obtain ⟨s3, c1, c2⟩ := L_season0 (T := 1 + t + 1) (s := eT (cS (uT s s1 1728) σ2)) (w2 := w8) (nw := nw) g hB3 (by omega) l8 hg1 rfl
    have et : ∀ T, tellS (cM τ) B T 0 = sM (cM τ) B B T := fun T => by unfold tellS; rw [if_pos rfl]
    rw [et, et] at b1'
    rw [if_pos (eqp (v := 1) (b := 1) rfl (by omega)), b1 b1']
    dsimp only
    rw [if_pos (show decide ((cS (uT s s1 1728) σ2).2.2 + 1728 ≤ 6100) = true from decide_eq_true (by show s.2.2 + 1728 + 1728 ≤ 6100; omega)), rT_c, lk1.2.1.2.1, add1, b1 c1]
    dsimp only
    rw [if_pos rfl]
    refine ⟨uT (cS (uT s s1 1728) σ2) s3 1728, ?_, ?_, ?_, LK_f lk1 (fun j => c2.2 _ _ (by omega) (by omega)) (fun j => c2.2 _ _ (by omega) (by omega)) (fun j => c2.2 _ _ (by omega) (by omega)), fun b hb t t1 t2 => ?_⟩
    · unfold fL_law_b751
      rw [add1]
    · show Inv n s3.1 τ
      rw [c2.1]; exact b2
    · show s.2.2 + 1728 + 1728 = _
      rw [q]
    · exact (c2.2 _ _ (by omega) (by omega)).trans (hg1 b hb t t1 t2)
  · rw [if_neg (yI_nl (v := 1) (b := 1) rfl (by omega) (by omega) (by omega))]
    refine ⟨uT s s1 1728, ?_, a2, ?_, lk1, hg1⟩
    · unfold fL_law_b751
      rw [add1]
    · show s.2.2 + 1728 = _
      rw [show i = 0 by omega]
theorem L_turns {xs : Nat → Int32} {Ln n w2 w4 w5 w8 nw B : Nat} {s : LwS} {τ : Sg} (hLn : Ln ≤ 260) (h : Inv n s.1 τ) (hn : n < 512) (q12 : cM τ 0 12 ≠ 0) (lk : LK w2 w4 w5 B s τ) (hg : HG s w8 (cM τ) B) (l2 : w2 < nw) (l4 : w4 < nw) (l5 : w5 < nw) (l8 : w8 < nw) (hu : s.2.2 + 5184 ≤ 6100) : ∃ s', lp (fun s => fL_law_b667 xs Ln w2 w4 w8 s.1 nw s.2) FU ((0 : Int32), s) = some (.inr s') ∧ Inv n s'.1 τ ∧ LK w2 w4 w5 B s' τ := by
  have LP : ∃ u, lp (fun s => fL_law_b667 xs Ln w2 w4 w8 s.1 nw s.2) FU ((0 : Int32), s) = some u ∧ ∃ s', u = .inr s' ∧ Inv n s'.1 τ ∧ LK w2 w4 w5 B s' τ := by
    refine lp_all (fun i st => st.1 = yI (i : Int) ∧ Inv n st.2.1 τ ∧ (i < 2 → st.2.2.2 = s.2.2 + 1728 * i) ∧ LK w2 w4 w5 B st.2 τ ∧ HG st.2 w8 (cM τ) B) 2 _ ?_ ?_ ⟨rfl, h, fun _ => rfl, lk, hg⟩ (FU_b (by omega))
    · rintro i ⟨x, t⟩ hi ⟨h1, h2, h3, h4, h5⟩
      dsimp only at h1 h2 h3 h4 h5
      subst h1
      have h3' := h3 hi
      obtain ⟨s', a1, a2, a3, a4, a5⟩ := L_turn (xs := xs) (nw := nw) hLn h2 hn q12 h4 h5 l2 l4 l5 l8 hi (by omega)
      refine ⟨_, a1, rfl, a2, fun hh => ?_, a4, a5⟩
      show s'.2.2 = _
      rw [a3, h3', show i = 0 by omega]
    · rintro ⟨x, t⟩ ⟨h1, h2, h3, h4, h5⟩
      dsimp only at h1 h2 h3 h4 h5
      subst h1
      refine ⟨.inr t, ?_, t, rfl, h2, h4⟩
      dsimp only
      unfold fL_law_b667
      rw [if_pos (gep (v := 2) (b := 2) rfl (by omega) (by omega) (by omega))]
  obtain ⟨u, l1, s', rfl, l2'⟩ := LP
  exact ⟨s', l1, l2'⟩
