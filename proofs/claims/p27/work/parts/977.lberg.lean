/-! ===== all that the law asks of one berg ===== -/
theorem L_about {xs : Nat → Int32} {Ln n w2 w4 w5 w6 w8 nw B k : Nat} {s : LwS} {τ : Sg} (h : Inv n s.1 τ) (bg : BG w4 B s τ) (hk : k < B) : lp (fun s => fL_law_b309 xs Ln w2 w4 w5 w6 w8 (yI (k : Int)) (yI ((5 * k : Nat) : Int)) s.1 nw s.2) FU ((0 : Int32), s) = some (.inr s) := by
  have hB3 := bg.1
  have hb : (k : Int) < cM τ 0 15 := by rw [bg.2.2.1]; omega
  have LP : ∃ t, lp (fun s => fL_law_b309 xs Ln w2 w4 w5 w6 w8 (yI (k : Int)) (yI ((5 * k : Nat) : Int)) s.1 nw s.2) FU ((0 : Int32), s) = some t ∧ t = .inr s := by
    refine lp_all (fun i st => st.1 = yI (i : Int) ∧ st.2 = s) 5 _ ?_ ?_ ⟨rfl, rfl⟩ (FU_b (by omega))
    · rintro i ⟨x, t⟩ hi ⟨h1, h2⟩
      dsimp only at h1 h2
      subst h1 h2
      refine ⟨(yI ((i + 1 : Nat) : Int), t), ?_, rfl, rfl⟩
      dsimp only
      unfold fL_law_b309
      rw [if_neg (gen (v := 5) (b := 5) rfl (by omega) (by omega) (by omega)), b1 (about_eq h hb hi)]
      dsimp only
      rw [addn, if_pos (inb_n (by omega) (by omega)), yI_cln (by omega), rT_c, bg.2.2.2 _ (by omega), if_pos (show rI τ 6 (5 * k + i) = yI (cM τ 6 (5 * k + i)) from cM_r rfl), add1]
      rfl
    · rintro ⟨x, t⟩ ⟨h1, h2⟩
      dsimp only at h1 h2
      subst h1 h2
      refine ⟨.inr t, ?_, rfl⟩
      dsimp only
      unfold fL_law_b309
      rw [if_pos (gep (v := 5) (b := 5) rfl (by omega) (by omega) (by omega))]
  obtain ⟨t, l1, rfl⟩ := LP
  exact l1
theorem L_as {xs : Nat → Int32} {Ln n w2 w4 w5 w6 w8 nw B k : Nat} {s : LwS} {τ : Sg} (h : Inv n s.1 τ) (bg : BG w4 B s τ) (hk : k < B) : lp (fun s => fL_law_b345 xs Ln w2 w4 w5 w6 w8 (yI (k : Int)) (yI ((5 * k : Nat) : Int)) s.1 nw s.2) FU ((0 : Int32), s) = some (.inr s) := by
  have hB3 := bg.1
  have hb : (k : Int) < cM τ 0 15 := by rw [bg.2.2.1]; omega
  have v1 := (h.2.2.1.2.2.2 k hb).1
  obtain ⟨v10, v11, -⟩ := v1
  have e0 : rT s w4 (5 * k) = yI (cM τ 6 (5 * k)) := bg.2.2.2 _ (by omega)
  have LP : ∃ t, lp (fun s => fL_law_b345 xs Ln w2 w4 w5 w6 w8 (yI (k : Int)) (yI ((5 * k : Nat) : Int)) s.1 nw s.2) FU ((0 : Int32), s) = some t ∧ t = .inr s := by
    refine lp_all (fun i st => st.1 = yI (i : Int) ∧ st.2 = s) 5 _ ?_ ?_ ⟨rfl, rfl⟩ (FU_b (by omega))
    · rintro i ⟨x, t⟩ hi ⟨h1, h2⟩
      dsimp only at h1 h2
      subst h1 h2
      refine ⟨(yI ((i + 1 : Nat) : Int), t), ?_, rfl, rfl⟩
      dsimp only
      unfold fL_law_b345 fL_law_b389 fL_law_b394 fL_law_b395
      rw [if_neg (gen (v := 5) (b := 5) rfl (by omega) (by omega) (by omega)), b1 (a_as h hb (w := i) (by omega))]
      dsimp only
      rw [if_pos (inb_n (by omega) (by omega)), yI_cln (by omega), rT_c, e0, add1]
      by_cases q0 : i = 0
      · rw [if_pos (eqp (v := 0) (b := 0) rfl (by omega)), if_pos (Or.inl (by omega)), if_pos rfl]
        rfl
      · rw [if_neg (yI_nl (v := 0) (b := 0) rfl (by omega) (by omega) (by omega))]
        by_cases q1 : (i : Int) = cM τ 6 (5 * k)
        · rw [if_pos (by rw [q1]), if_pos (Or.inr (Or.inl q1)), if_pos rfl]
          rfl
        · rw [if_neg (fun q => q1 (by have := yI_inj (by omega) (by omega) (by omega) (by omega) q; omega))]
          by_cases q2 : i = 1
          · rw [if_pos (eqp (v := 1) (b := 1) rfl (by omega)), if_pos (inb_n (by omega) (by omega))]
            by_cases q3 : cM τ 6 (5 * k) = 4
            · rw [if_pos (eqp (v := 4) (b := 4) rfl q3), if_pos (Or.inr (Or.inr ⟨by omega, q3⟩)), if_pos rfl]
              rfl
            · rw [if_neg (yI_nl (v := 4) (b := 4) rfl (by omega) (by omega) q3), if_neg (show ¬ ((i : Int) = 0 ∨ (i : Int) = cM τ 6 (5 * k) ∨ ((i : Int) = 1 ∧ cM τ 6 (5 * k) = 4)) by omega), if_pos rfl]
              rfl
          · rw [if_neg (yI_nl (v := 1) (b := 1) rfl (by omega) (by omega) (by omega)), if_neg (show ¬ ((i : Int) = 0 ∨ (i : Int) = cM τ 6 (5 * k) ∨ ((i : Int) = 1 ∧ cM τ 6 (5 * k) = 4)) by omega), if_pos rfl]
            rfl
    · rintro ⟨x, t⟩ ⟨h1, h2⟩
      dsimp only at h1 h2
      subst h1 h2
      refine ⟨.inr t, ?_, rfl⟩
      dsimp only
      unfold fL_law_b345
      rw [if_pos (gep (v := 5) (b := 5) rfl (by omega) (by omega) (by omega))]
  obtain ⟨t, l1, rfl⟩ := LP
  exact l1
theorem L_tugs {xs : Nat → Int32} {Ln n w2 w4 w5 w6 w8 nw B k : Nat} {s : LwS} {τ : Sg} (h : Inv n s.1 τ) (vs : VS (cM τ)) (lk : LK w2 w4 w5 B s τ) (hk : k < B) (n26 : w2 ≠ w6) (n46 : w4 ≠ w6) (n56 : w5 ≠ w6) (n28 : w2 ≠ w8) (n48 : w4 ≠ w8) (n58 : w5 ≠ w8) (n68 : w6 ≠ w8) (l2 : w2 < nw) (l4 : w4 < nw) (l5 : w5 < nw) (l6 : w6 < nw) (l8 : w8 < nw) (hu : s.2.2 + 22 ≤ 6100) : ∃ y11 y12 y13 s', lp (fun s => fL_law_b419 xs Ln w2 w4 w5 w6 w8 (yI (k : Int)) (yI ((5 * k : Nat) : Int)) s.1 s.2.1 s.2.2.1 s.2.2.2.1 nw s.2.2.2.2) FU ((0 : Int32), (0 : Int32), (-100001 : Int32), (1 : Int32), s) = some (.inr (y11, y12, y13, s')) ∧ PB (cM τ) k 22 y11 y12 y13 ∧ s'.1 = s.1 ∧ s'.2.2 = s.2.2 + 22 ∧ KR w6 w8 nw s s' ∧ (∀ i, (∀ t, 1 ≤ t → t ≤ 11 → i ≠ 12 * k + t) → rT s' w8 i = rT s w8 i) ∧ ∀ t, 1 ≤ t → t ≤ 11 → rT s' w8 (12 * k + t) = yI (if qcn (cM τ) (qsq (cM τ) k) = 0 then -100001 else sG (cM τ) k t) := by
  have LP : ∃ u, lp (fun s => fL_law_b419 xs Ln w2 w4 w5 w6 w8 (yI (k : Int)) (yI ((5 * k : Nat) : Int)) s.1 s.2.1 s.2.2.1 s.2.2.2.1 nw s.2.2.2.2) FU ((0 : Int32), (0 : Int32), (-100001 : Int32), (1 : Int32), s) = some u ∧ ∃ y11 y12 y13 s', u = .inr (y11, y12, y13, s') ∧ PB (cM τ) k 22 y11 y12 y13 ∧ s'.1 = s.1 ∧ s'.2.2 = s.2.2 + 22 ∧ KR w6 w8 nw s s' ∧ (∀ i, (∀ t, 1 ≤ t → t ≤ 11 → i ≠ 12 * k + t) → rT s' w8 i = rT s w8 i) ∧ ∀ t, 1 ≤ t → t ≤ 11 → rT s' w8 (12 * k + t) = yI (if qcn (cM τ) (qsq (cM τ) k) = 0 then -100001 else sG (cM τ) k t) := by
    refine lp_all (fun j st => st.2.2.2.1 = yI ((j + 1 : Nat) : Int) ∧ PB (cM τ) k (2 * j) st.1 st.2.1 st.2.2.1 ∧ st.2.2.2.2.1 = s.1 ∧ st.2.2.2.2.2.2 = s.2.2 + 2 * j ∧ KR w6 w8 nw s st.2.2.2.2 ∧ (∀ i, (∀ t, 1 ≤ t → t ≤ 11 → i ≠ 12 * k + t) → rT st.2.2.2.2 w8 i = rT s w8 i) ∧ ∀ t, 1 ≤ t → t ≤ j → rT st.2.2.2.2 w8 (12 * k + t) = yI (if qcn (cM τ) (qsq (cM τ) k) = 0 then -100001 else sG (cM τ) k t)) 11 _ ?_ ?_ ⟨rfl, Or.inl ⟨Or.inr rfl, rfl, rfl, rfl⟩, rfl, rfl, fun _ _ _ _ _ => rfl, fun _ _ => rfl, fun t t1 t0 => by omega⟩ (FU_b (by omega))
    · rintro j ⟨x11, x12, x13, x14, t⟩ hj ⟨h1, h2, h3, h4, h5, h6, h7⟩
      dsimp only at h1 h2 h3 h4 h5 h6 h7
      subst h1
      have lkt : LK w2 w4 w5 B t τ := LK_f lk (fun j => h5 _ _ n26 n28 l2) (fun j => h5 _ _ n46 n48 l4) (fun j => h5 _ _ n56 n58 l5)
      obtain ⟨y11, y12, y13, s', a1, a2, a3, a4, a5, a6, a7⟩ := L_b419 (xs := xs) (Ln := Ln) (nw := nw) (w8 := w8) (t := j + 1) (by rw [h3]; exact h) vs lkt hk n26 n46 n56 n28 n48 n58 n68 l2 l4 l5 l6 l8 (by omega) (by omega) (by omega) (by rw [Nat.add_sub_cancel]; exact h2)
      refine ⟨(y11, y12, y13, yI ((j + 1 + 1 : Nat) : Int), s'), a1, rfl, a2, by rw [a3, h3], by rw [a4, h4]; omega, fun o i h1 h2 h3 => by rw [a5 o i h1 h2 h3, h5 o i h1 h2 h3], fun i hi => by rw [a6 i (hi (j + 1) (by omega) (by omega)), h6 i hi], fun t t1 t2 => ?_⟩
      by_cases e : t = j + 1
      · rw [e]; exact a7
      · rw [a6 _ (by omega)]; exact h7 t t1 (by omega)
    · rintro ⟨x11, x12, x13, x14, t⟩ ⟨h1, h2, h3, h4, h5, h6, h7⟩
      dsimp only at h1 h2 h3 h4 h5 h6 h7
      subst h1
      refine ⟨.inr (x11, x12, x13, t), ?_, x11, x12, x13, t, rfl, h2, h3, h4, h5, h6, h7⟩
      dsimp only
      unfold fL_law_b419
      rw [if_pos (gep (v := 12) (b := 12) rfl (by omega) (by omega) (by omega))]
  obtain ⟨u, l1, y11, y12, y13, s', rfl, l2⟩ := LP
  exact ⟨y11, y12, y13, s', l1, l2⟩
theorem L_b290 {xs : Nat → Int32} {Ln n w2 w4 w5 w6 w8 nw B k : Nat} {s : LwS} {τ : Sg} (hLn : Ln ≤ 260) (h : Inv n s.1 τ) (vs : VS (cM τ)) (lk : LK w2 w4 w5 B s τ) (hk : k < B) (n26 : w2 ≠ w6) (n46 : w4 ≠ w6) (n56 : w5 ≠ w6) (n28 : w2 ≠ w8) (n48 : w4 ≠ w8) (n58 : w5 ≠ w8) (n68 : w6 ≠ w8) (l2 : w2 < nw) (l4 : w4 < nw) (l5 : w5 < nw) (l6 : w6 < nw) (l8 : w8 < nw) (hu : s.2.2 + 25 ≤ 6100) (hg : HG s w8 (cM τ) k) : ∃ s', fL_law_b290 xs Ln w2 w4 w5 w6 w8 (yI (k : Int)) nw s = some (.inl (yI ((k + 1 : Nat) : Int), s')) ∧ Inv n s'.1 τ ∧ s'.2.2 = s.2.2 + 25 ∧ LK w2 w4 w5 B s' τ ∧ HG s' w8 (cM τ) (k + 1) := by
  have hB3 := lk.2.1.1
  have h15 := lk.2.1.2.2.1
  have hb : (k : Int) < cM τ 0 15 := by rw [h15]; omega
  have g := Inv_GB h h15
  obtain ⟨y11, y12, y13, s1, p1, p2, p3, p4, p5, p6, p7⟩ := L_tugs (xs := xs) (Ln := Ln) h vs lk hk n26 n46 n56 n28 n48 n58 n68 l2 l4 l5 l6 l8 (by omega)
  have i1 : Inv n s1.1 τ := by rw [p3]; exact h
  have lk1 : LK w2 w4 w5 B s1 τ := LK_f lk (fun j => p5 _ _ n26 n28 l2) (fun j => p5 _ _ n46 n48 l4) (fun j => p5 _ _ n56 n58 l5)
  have hg1 : HG s1 w8 (cM τ) (k + 1) := fun b hb t t1 t2 => by
    by_cases e : b = k
    · rw [e]; exact p7 t t1 t2
    · rw [p6 _ (fun t' _ _ => by omega)]; exact hg b (by omega) t t1 t2
  -- the tows
  have TW : ∀ s2 : LwS, Inv n s2.1 τ → s2.2 = s1.2 → ∃ s', fL_law_b641 xs Ln w2 w4 w5 w6 w8 (yI (k : Int)) nw s2 = some (.inl (yI ((k + 1 : Nat) : Int), s')) ∧ Inv n s'.1 τ ∧ s'.2.2 = s.2.2 + 25 ∧ LK w2 w4 w5 B s' τ ∧ HG s' w8 (cM τ) (k + 1) := fun s2 i2 e2 => by
    have r2 : ∀ o j, rT s2 o j = rT s1 o j := fun o j => by unfold rT; rw [e2]
    have u2 : s2.2.2 = s.2.2 + 22 := by rw [e2]; exact p4
    have lk2 : LK w2 w4 w5 B (eT s2) τ := LK_f lk1 (fun j => r2 _ _) (fun j => r2 _ _) (fun j => r2 _ _)
    obtain ⟨s3, a1, a2, a3⟩ := L_tows (xs := xs) (s := eT s2) (nw := nw) hLn i2 vs lk2 hk rfl l2 l4 l5
    refine ⟨uT s2 s3 3, ?_, a2, by show s2.2.2 + 3 = _; omega, LK_f lk2 (fun j => by rw [rT_u]; exact a3 _ _ l2) (fun j => by rw [rT_u]; exact a3 _ _ l4) (fun j => by rw [rT_u]; exact a3 _ _ l5), fun b hb t t1 t2 => ?_⟩
    · unfold fL_law_b641
      rw [if_pos (show decide (s2.2.2 + 3 ≤ 6100) = true from decide_eq_true (by omega)), b1 a1]
      dsimp only
      rw [if_neg (show ¬ (1 : Int32) = 0 by decide), add1]
    · rw [rT_u, a3 _ _ l8]
      exact (r2 _ _).trans (hg1 b hb t t1 t2)
  have T0 : fL_law_b290 xs Ln w2 w4 w5 w6 w8 (yI (k : Int)) nw s = (Option.bind (fX9_best (yI (k : Int)) (2 : Int32) s1.1) fun p81 => (if p81.1 = y13 then (if y13 ≤ (-100001 : Int32) then (fL_law_b620 xs Ln w2 w4 w5 w6 w8 (yI (k : Int)) y13 nw (cS s1 p81.2)) else (Option.bind (fX9_best (yI (k : Int)) (0 : Int32) (cS s1 p81.2).1) fun p88 => (if p88.1 = y11 then (Option.bind (fX9_best (yI (k : Int)) (1 : Int32) (cS (cS s1 p81.2) p88.2).1) fun p90 => (if p90.1 = y12 then (fL_law_b620 xs Ln w2 w4 w5 w6 w8 (yI (k : Int)) y13 nw (cS (cS (cS s1 p81.2) p88.2) p90.2)) else (some (.inr (.inr (.inr (.inr (.inl (cS (cS (cS s1 p81.2) p88.2) p90.2))))))))) else (some (.inr (.inr (.inr (.inr (.inl (cS (cS s1 p81.2) p88.2)))))))))) else (some (.inr (.inr (.inr (.inr (.inl (cS s1 p81.2)))))))) ) := by
    conv => lhs; unfold fL_law_b290
    rw [k25, lk.2.1.2.1, if_neg (fun q => by have := (yI_le (by omega) (by omega) (by omega) (by omega)).mp q; omega), mul5, b1 (L_about h lk.2.1 hk)]
    show (Option.bind (lp (fun s => fL_law_b345 xs Ln w2 w4 w5 w6 w8 (yI (k : Int)) (yI ((5 * k : Nat) : Int)) s.1 nw s.2) FU ((0 : Int32), s)) _) = _
    rw [b1 (L_as h lk.2.1 hk)]
    show (Option.bind (lp (fun s => fL_law_b419 xs Ln w2 w4 w5 w6 w8 (yI (k : Int)) (yI ((5 * k : Nat) : Int)) s.1 s.2.1 s.2.2.1 s.2.2.2.1 nw s.2.2.2.2) FU ((0 : Int32), (0 : Int32), (-100001 : Int32), (1 : Int32), s)) _) = _
    rw [b1 p1]
    rfl
  rw [T0]
  obtain ⟨σ1, a1, a2⟩ := a_best (w := 2) i1 hb (by omega)
  obtain ⟨σ2, a3, a4⟩ := a_best (w := 0) a2 hb (by omega)
  obtain ⟨σ3, a5, a6⟩ := a_best (w := 1) a4 hb (by omega)
  rcases p2 with ⟨z, e1, e2, e3⟩ | ⟨z, e1, e2, e3⟩
  · have z0 := z.resolve_right (by omega)
    rw [if_pos z0] at a1 a3
    rw [b1 (show fX9_best (yI (k : Int)) (2 : Int32) s1.1 = _ from a1)]
    dsimp only
    rw [e3, if_pos (show yI (-100001) = (-100001 : Int32) from rfl), if_pos (show (-100001 : Int32) ≤ -100001 by decide)]
    unfold fL_law_b620
    rw [if_pos rfl, b1 (show fX9_best (yI (k : Int)) (0 : Int32) (cS s1 σ1).1 = _ from a3)]
    dsimp only
    rw [if_pos (show yI (-100001) = (-100001 : Int32) from rfl)]
    exact TW _ a4 rfl
  · rw [if_neg z.1] at a1 a3 a5
    have bb := bst_b (qg (cM τ) k) 22
    have gb := g k hk z.1 (bst (qg (cM τ) k) 22) (by omega) (bst_23 _ _ (by omega))
    rw [b1 (show fX9_best (yI (k : Int)) (2 : Int32) s1.1 = _ from a1)]
    dsimp only
    rw [e3, if_pos (show yI (tellB (qg (cM τ) k) 2) = yI (qg (cM τ) k (bst (qg (cM τ) k) 22)) from rfl), if_neg (len (v := -100001) (b := -100001) rfl (by omega) (by omega) (by omega)), b1 (show fX9_best (yI (k : Int)) (0 : Int32) (cS s1 σ1).1 = _ from a3)]
    dsimp only
    rw [e1, if_pos (show yI (tellB (qg (cM τ) k) 0) = yI ((bst (qg (cM τ) k) 22 / 2 : Nat) : Int) from rfl), b1 (show fX9_best (yI (k : Int)) (1 : Int32) (cS (cS s1 σ1) σ2).1 = _ from a5)]
    dsimp only
    rw [e2, if_pos (show yI (tellB (qg (cM τ) k) 1) = yI ((bst (qg (cM τ) k) 22 % 2 : Nat) : Int) from rfl)]
    unfold fL_law_b620
    rw [if_neg (yI_nl (v := -100001) (b := -100001) rfl (by omega) (by omega) (by omega))]
    exact TW _ a6 rfl
theorem L_b290s {xs : Nat → Int32} {Ln n w2 w4 w5 w6 w8 nw B : Nat} {s : LwS} {τ : Sg} (hLn : Ln ≤ 260) (h : Inv n s.1 τ) (vs : VS (cM τ)) (lk : LK w2 w4 w5 B s τ) (n26 : w2 ≠ w6) (n46 : w4 ≠ w6) (n56 : w5 ≠ w6) (n28 : w2 ≠ w8) (n48 : w4 ≠ w8) (n58 : w5 ≠ w8) (n68 : w6 ≠ w8) (l2 : w2 < nw) (l4 : w4 < nw) (l5 : w5 < nw) (l6 : w6 < nw) (l8 : w8 < nw) (hu : s.2.2 + 75 ≤ 6100) : ∃ s', lp (fun s => fL_law_b290 xs Ln w2 w4 w5 w6 w8 s.1 nw s.2) FU ((0 : Int32), s) = some (.inr (.inr (.inr (.inr (.inr s'))))) ∧ Inv n s'.1 τ ∧ s'.2.2 ≤ s.2.2 + 75 ∧ LK w2 w4 w5 B s' τ ∧ HG s' w8 (cM τ) B := by
  have hB3 := lk.2.1.1
  have LP : ∃ u, lp (fun s => fL_law_b290 xs Ln w2 w4 w5 w6 w8 s.1 nw s.2) FU ((0 : Int32), s) = some u ∧ ∃ s', u = .inr (.inr (.inr (.inr (.inr s')))) ∧ Inv n s'.1 τ ∧ s'.2.2 ≤ s.2.2 + 75 ∧ LK w2 w4 w5 B s' τ ∧ HG s' w8 (cM τ) B := by
    refine lp_all (fun k st => st.1 = yI (k : Int) ∧ Inv n st.2.1 τ ∧ st.2.2.2 = s.2.2 + 25 * k ∧ LK w2 w4 w5 B st.2 τ ∧ HG st.2 w8 (cM τ) k) B _ ?_ ?_ ⟨rfl, h, rfl, lk, fun b hb => absurd hb (Nat.not_lt_zero b)⟩ (FU_b (by omega))
    · rintro k ⟨x, t⟩ hk ⟨h1, h2, h3, h4, h5⟩
      dsimp only at h1 h2 h3 h4 h5
      subst h1
      obtain ⟨s', a1, a2, a3, a4, a5⟩ := L_b290 (xs := xs) (nw := nw) hLn h2 vs h4 hk n26 n46 n56 n28 n48 n58 n68 l2 l4 l5 l6 l8 (by omega) h5
      exact ⟨_, a1, rfl, a2, by show s'.2.2 = _; omega, a4, a5⟩
    · rintro ⟨x, t⟩ ⟨h1, h2, h3, h4, h5⟩
      dsimp only at h1 h2 h3 h4 h5
      subst h1
      refine ⟨.inr (.inr (.inr (.inr (.inr t)))), ?_, t, rfl, h2, by omega, h4, h5⟩
      dsimp only
      unfold fL_law_b290
      rw [k25, h4.2.1.2.1, if_pos ((yI_le (by omega) (by omega) (by omega) (by omega)).mpr (Int.le_refl _))]
  obtain ⟨u, l1, s', rfl, l2⟩ := LP
  exact ⟨s', l1, l2⟩
