/-! ===== the law writes its text, asks for squares, makes bergs ===== -/
theorem let_n : ∀ c : Nat, c < 127 → (yI (c : Int)).toInt64.toBitVec.toNat = c := by decide +kernel
theorem let_s : ∀ c : Nat, c < 127 → c ≠ 0 → sc c 8 = some 1 ∧ bw c 0 = c := by decide +kernel
theorem L_write {w3 n : Nat} {S : SS} {cw cf : Nat → Int} {s : LwS} {τ : Sg} (h : Inv 0 s.1 τ) (z : cM τ 0 1 = 0) (hp : pgl w3 n S cw cf s) (n64 : n ≤ 64) : ∃ s' τ', fL_write w3 (yI (n : Int)) s = some (1, s') ∧ Inv n s'.1 τ' ∧ s'.2 = s.2 ∧ cM τ' 0 1 = (n : Int) ∧ scn (fun j => cM τ' 1 j) n = some S ∧ scw (fun j => cM τ' 1 j) n = cw ∧ scf (fun j => cM τ' 1 j) n = cf ∧ ∀ o j, ¬ (o = 0 ∧ j = 1) → o ≠ 1 → cM τ' o j = cM τ o j := by
  obtain ⟨p, p1, p2, p3, p4⟩ := hp
  have LP : ∃ t, lp (fun s => fL_write_b2 w3 (yI (n : Int)) s.1 s.2) FU ((0 : Int32), s) = some t ∧ ∃ s', t = .inr s' ∧ s'.2 = s.2 ∧ ∃ τ', Inv n s'.1 τ' ∧ cM τ' 0 1 = (n : Int) ∧ (∀ j, j < n → cM τ' 1 j = p j) ∧ ∀ o j, ¬ (o = 0 ∧ j = 1) → o ≠ 1 → cM τ' o j = cM τ o j := by
    refine lp_all (fun k st => st.1 = yI (k : Int) ∧ st.2.2 = s.2 ∧ ∃ τ', Inv k st.2.1 τ' ∧ cM τ' 0 1 = (k : Int) ∧ (∀ j, j < k → cM τ' 1 j = p j) ∧ ∀ o j, ¬ (o = 0 ∧ j = 1) → o ≠ 1 → cM τ' o j = cM τ o j) n _ ?_ ?_ ⟨rfl, rfl, τ, h, z, fun j hj => absurd hj (Nat.not_lt_zero j), fun _ _ _ _ => rfl⟩ (FU_b (by omega))
    · rintro k ⟨x, t⟩ hk ⟨h1, h2, τ', h3, h4, h5, h6⟩
      dsimp only at h1 h2 h3
      subst h1
      obtain ⟨q1, q2, q3⟩ := p1 k hk
      obtain ⟨c, hc⟩ := Int.eq_ofNat_of_zero_le (show 0 ≤ p k by omega)
      have er : rT t w3 k = yI (c : Int) := by
        rw [← hc, ← q1]
        unfold rT
        rw [h2]
      have c1 : c < 127 := by omega
      obtain ⟨c2, c3⟩ := let_s c c1 (by omega)
      have ew : sc (rT t w3 k).toInt64.toBitVec.toNat 8 = some 1 := by rw [er, let_n c c1]; exact c2
      obtain ⟨σ1, τ1, a1, a2, a3, a4, a5, a6⟩ := l_letters (rT t w3 k).toInt64 h3 h4 ew (by omega)
      refine ⟨(yI ((k + 1 : Nat) : Int), cS t σ1), ?_, rfl, h2, τ1, a2, a3, fun j hj => ?_, fun o j o1 o2 => by rw [a6 o j o1 o2, h6 o j o1 o2]⟩
      · dsimp only
        unfold fL_write_b2
        rw [if_neg (fun q => by have := (yI_le (by omega) (by omega) (by omega) (by omega)).mp q; omega), if_pos (inb_n (by omega) (by omega)), yI_cln (by omega), b1 a1, add1, if_pos rfl]
      · by_cases e : j = k
        · rw [e, show k = k + 0 from rfl, a4 0 (by omega), er, let_n c c1, c3, Nat.add_zero, hc]
        · rw [a5 j (by omega)]; exact h5 j (by omega)
    · rintro ⟨x, t⟩ ⟨h1, h2, τ', h3⟩
      dsimp only at h1 h2 h3
      subst h1
      refine ⟨.inr t, ?_, t, rfl, h2, τ', h3⟩
      dsimp only
      unfold fL_write_b2
      rw [if_pos ((yI_le (by omega) (by omega) (by omega) (by omega)).mpr (Int.le_refl _))]
  obtain ⟨t, l1, s', rfl, l2, τ', l3, l4, l5, l6⟩ := LP
  refine ⟨s', τ', ?_, l3, l2, l4, by rw [scn_x l5]; exact p2, by rw [scw_x l5]; exact p3, by rw [scf_x l5]; exact p4, l6⟩
  unfold fL_write fL_write_b0
  rw [b1 l1]
  rfl
/-- every square as the law has it -/
theorem L_squares {xs : Nat → Int32} {Ln n w2 w4 w5 w6 nw : Nat} {s : LwS} {τ : Sg} (h : Inv n s.1 τ) (vs : VS (cM τ)) (mp : MP w2 s (cM τ)) : lp (fun s => fL_law_b82 xs Ln w2 w4 w5 w6 s.1 nw s.2) FU ((0 : Int32), s) = some (.inr s) := by
  have hRW := vs.RW
  have b30 := vs.b30
  obtain ⟨-, w1, w6'⟩ := vs.W
  obtain ⟨-, hH⟩ := vs.H
  have eRW : yI (qR (cM τ) : Int) * yI (qW (cM τ) : Int) = yI ((qR (cM τ) * qW (cM τ) : Nat) : Int) := yI_mul _ _
  have LP : ∃ t, lp (fun s => fL_law_b82 xs Ln w2 w4 w5 w6 s.1 nw s.2) FU ((0 : Int32), s) = some t ∧ t = .inr s := by
    refine lp_all (fun k st => st.1 = yI (k : Int) ∧ st.2 = s) (qR (cM τ) * qW (cM τ)) _ ?_ ?_ ⟨rfl, rfl⟩ (FU_b (by omega))
    · rintro k ⟨x, t⟩ hk ⟨h1, h2⟩
      dsimp only at h1 h2
      subst h1 h2
      obtain ⟨a0, a1, a2, -⟩ := a_square h (c := k) (by rw [hRW]; omega)
      obtain ⟨m1, m2⟩ := mp.2.2.2 k hk
      have v4 := (vs.2.2.2.2.2.2.2 k (by rw [hRW]; omega)).1
      have e4 : yI (cM τ 4 k) = yI (qL (cM τ) k : Int) := by unfold qL; rw [Int.toNat_of_nonneg v4]
      have hf := L_far (s := eT t) (q := w2) (c := k) mp.2.1 mp.2.2.1 (by omega) w6' (by omega) (by omega)
      refine ⟨(yI ((k + 1 : Nat) : Int), t), ?_, rfl, rfl⟩
      dsimp only
      unfold fL_law_b82
      rw [k0, k1, mp.1, mp.2.1, eRW, if_neg (fun q => by have := (yI_le (by omega) (by omega) (by omega) (by omega)).mp q; omega), b1 a0]
      dsimp only
      rw [pl3, pl33, if_pos (inb_n (by omega) (by omega)), yI_cln (by omega), rT_c, m1, e4, if_pos rfl]
      rw [show (cS t t.1).1 = t.1 from rfl, b1 a1]
      dsimp only
      rw [if_pos (inb_n (by omega) (by omega)), yI_cln (by omega), rT_c, rT_c, m2, if_pos rfl]
      rw [show (cS (cS t t.1) t.1).1 = t.1 from rfl, b1 a2]
      dsimp only
      rw [show eT (cS (cS (cS t t.1) t.1) t.1) = eT t from rfl, b1 hf]
      dsimp only
      rw [if_pos (show yI (qF (cM τ) k : Int) = yI (qfar (qW (cM τ)) (qH (cM τ)) k : Int) from rfl), add1]
      rfl
    · rintro ⟨x, t⟩ ⟨h1, h2⟩
      dsimp only at h1 h2
      subst h1 h2
      refine ⟨.inr t, ?_, rfl⟩
      dsimp only
      unfold fL_law_b82
      rw [k0, k1, mp.1, mp.2.1, eRW, if_pos ((yI_le (by omega) (by omega) (by omega) (by omega)).mpr (Int.le_refl _))]
  obtain ⟨t, l1, rfl⟩ := LP
  exact l1
/-- the bergs as the law has them -/
def BG (w4 k : Nat) (s : LwS) (τ : Sg) : Prop := k ≤ 3 ∧ rT s w4 25 = yI (k : Int) ∧ cM τ 0 15 = (k : Int) ∧ ∀ i, i < 5 * k → rT s w4 i = yI (cM τ 6 i)
theorem L_bergs {xs : Nat → Int32} {Ln n w2 w4 : Nat} {s : LwS} {τ : Sg} (hLn : Ln ≤ 260) (hn : w2 ≠ w4) (h : Inv n s.1 τ) (vs : VS (cM τ)) (mp : MP w2 s (cM τ)) (z : cM τ 0 15 = 0) : ∃ k s' τ', fL_bergs xs Ln (7 : Int32) (3 : Int32) w2 w4 s = some (1, s') ∧ Inv (n + 3) s'.1 τ' ∧ BG w4 k s' τ' ∧ (∀ o j, o ≠ w4 → rT s' o j = rT s o j) ∧ s'.2.2 = s.2.2 ∧ ∀ o j, ¬ (o = 0 ∧ j = 15) → o ≠ 6 → cM τ' o j = cM τ o j := by
  have hRW := vs.RW
  have b30 := vs.b30
  obtain ⟨-, w1, w6'⟩ := vs.W
  obtain ⟨-, hH⟩ := vs.H
  have eRW : yI (qR (cM τ) : Int) * yI (qW (cM τ) : Int) = yI ((qR (cM τ) * qW (cM τ) : Nat) : Int) := yI_mul _ _
  have LP : ∃ t, lp (fun s => fL_bergs_b9 xs Ln (7 : Int32) (3 : Int32) w2 w4 s.1 s.2) FU ((0 : Int32), wT s w4 25 0) = some t ∧ ∃ s', t = .inr (.inr s') ∧ ∃ k τ', Inv (n + 3) s'.1 τ' ∧ BG w4 k s' τ' ∧ (∀ o j, o ≠ w4 → rT s' o j = rT s o j) ∧ s'.2.2 = s.2.2 ∧ ∀ o j, ¬ (o = 0 ∧ j = 15) → o ≠ 6 → cM τ' o j = cM τ o j := by
    refine lp_all (fun i st => st.1 = yI (i : Int) ∧ ∃ k τ', k ≤ i ∧ Inv (n + i) st.2.1 τ' ∧ BG w4 k st.2 τ' ∧ (∀ o j, o ≠ w4 → rT st.2 o j = rT s o j) ∧ st.2.2.2 = s.2.2 ∧ ∀ o j, ¬ (o = 0 ∧ j = 15) → o ≠ 6 → cM τ' o j = cM τ o j) 3 _ ?_ ?_ ⟨rfl, 0, τ, Nat.le_refl _, h, ⟨by omega, rT_s, z, fun i hi => absurd hi (Nat.not_lt_zero i)⟩, fun o j ho => rT_o ho, rfl, fun _ _ _ _ => rfl⟩ (FU_b (by omega))
    · rintro i ⟨x, t⟩ hi ⟨h1, k, τ', g0, g1, ⟨g2, g3, g4, g5⟩, g6, g7, g8⟩
      dsimp only at h1 g1 g3 g5 g6 g7
      subst h1
      have k3 : k < 3 := by omega
      -- what the numbers say
      obtain ⟨x, hx⟩ := L_cell (xs := xs) (a := 7 + i) hLn (by omega) (eT t)
      have A5 : ∃ k : Nat, k < 5 ∧ fL_at x (5 : Int32) (eT t) = some (yI (k : Int), eT t) := L_at _ (by omega) (by omega) _
      have A2 : ∃ k : Nat, k < 2 ∧ fL_at (ishr x 24) (2 : Int32) (eT t) = some (yI (k : Int), eT t) := L_at _ (by omega) (by omega) _
      have A990 : ∃ k : Nat, k < 990 ∧ fL_at (ishr x 8) (990 : Int32) (eT t) = some (yI (k : Int), eT t) := L_at _ (by omega) (by omega) _
      have A90 : ∃ k : Nat, k < 90 ∧ fL_at (ishr x 8) (90 : Int32) (eT t) = some (yI (k : Int), eT t) := L_at _ (by omega) (by omega) _
      have A100 : ∃ k : Nat, k < 100 ∧ fL_at (ishr x 18) (100 : Int32) (eT t) = some (yI (k : Int), eT t) := L_at _ (by omega) (by omega) _
      have A8 : ∃ k : Nat, k < 8 ∧ fL_at (ishr x 25) (8 : Int32) (eT t) = some (yI (k : Int), eT t) := L_at _ (by omega) (by omega) _
      obtain ⟨kd, kd1, kd2⟩ := A5
      obtain ⟨q, q1, q2⟩ := L_at (ishr x 3) (n := qR (cM τ) * qW (cM τ)) (by omega) (by omega) (eT t)
      obtain ⟨wh, wh1, wh2⟩ := A2
      obtain ⟨ft, ft1, ft2⟩ := A100
      obtain ⟨e8, e81, e82⟩ := A8
      have qRW : (q : Int) < cM τ' 0 9 * cM τ' 0 10 := by rw [g8 0 9 (by omega) (by omega), g8 0 10 (by omega) (by omega), hRW]; omega
      have m4 : cM τ' 4 q = cM τ 4 q := g8 4 q (by omega) (by omega)
      have v4 := vs.2.2.2.2.2.2.2 q (by rw [hRW]; omega)
      have mq : rT t w2 (3 + q) = yI (cM τ 4 q) := by
        rw [g6 _ _ hn, (mp.2.2.2 q q1).1]
        unfold qL
        rw [Int.toNat_of_nonneg v4.1]
      -- the berg is told
      have G1 : ∀ sz ev : Nat, 10 ≤ sz → sz ≤ 999 → (kd = 2 → 2 ≤ ev ∧ ev ≤ 9) → (kd ≠ 2 → ev = 0) → ∃ t', fL_bergs_b127 xs Ln (7 : Int32) (3 : Int32) w2 w4 (yI (i : Int)) (yI ((5 * k : Nat) : Int)) (yI (kd : Int)) (yI (q : Int)) (yI (sz : Int)) (yI (ft : Int)) (yI (ev : Int)) t = some (.inl (yI ((i + 1 : Nat) : Int), t')) ∧ ∃ k τ', k ≤ i + 1 ∧ Inv (n + (i + 1)) t'.1 τ' ∧ BG w4 k t' τ' ∧ (∀ o j, o ≠ w4 → rT t' o j = rT s o j) ∧ t'.2.2 = s.2.2 ∧ ∀ o j, ¬ (o = 0 ∧ j = 15) → o ≠ 6 → cM τ' o j = cM τ o j := fun sz ev s1 s2 e1 e2 => by
        by_cases v9 : cM τ 4 q ≤ 9
        · obtain ⟨σ2, τ2, b1', b2, b3⟩ := l_berg g1 g4 (by omega) (k := (kd : Int)) (s := (q : Int)) (z := (sz : Int)) (f := (ft : Int)) (x := (ev : Int)) ⟨by omega, by omega⟩ ⟨⟨by omega, qRW⟩, by rw [Int.toNat_natCast, m4]; exact v9⟩ ⟨by omega, by omega⟩ ⟨by omega, by omega⟩ ⟨fun c => by have := e1 (by omega); omega, fun c => by have := e2 (by omega); omega⟩
          obtain ⟨t', ht⟩ : ∃ t', t' = wT (wT (wT (wT (wT (wT (cS t σ2) w4 (5 * k) (yI (kd : Int))) w4 (5 * k + 1) (yI (q : Int))) w4 (5 * k + 2) (yI (sz : Int))) w4 (5 * k + 3) (yI (ft : Int))) w4 (5 * k + 4) (yI (ev : Int))) w4 25 (yI ((k + 1 : Nat) : Int)) := ⟨_, rfl⟩
          refine ⟨t', ?_, k + 1, τ2, by omega, by rw [ht]; exact b2, ⟨by omega, by rw [ht]; exact rT_s, by rw [b3]; simp (disch := omega) only [up_n, up_s], fun j hj => ?_⟩, fun o j ho => ?_, by rw [ht]; exact g7, fun o j o1 o2 => ?_⟩
          · unfold fL_bergs_b127
            rw [b1 b1']
            dsimp only
            rw [pl3, if_pos (inb_n (by omega) (by omega)), yI_cln (by omega), rT_c, mq, if_pos (lep (v := 9) (b := 9) rfl (by omega) (by omega) v9), k25, rT_c, g3, if_pos rfl, add1, add2, add3, add4, if_pos (inb_n (by omega) (by omega)), if_pos (inb_n (by omega) (by omega)), if_pos (inb_n (by omega) (by omega)), if_pos (inb_n (by omega) (by omega)), if_pos (inb_n (by omega) (by omega)), yI_cln (by omega), yI_cln (by omega), yI_cln (by omega), yI_cln (by omega), yI_cln (by omega), rT_k (by omega), rT_k (by omega), rT_k (by omega), rT_k (by omega), rT_k (by omega), rT_c, g3, add1, ← ht]
            unfold fL_bergs_b230
            rw [add1]
          · rw [ht, b3]
            rw [rT_k (by omega)]
            by_cases c4 : j = 5 * k + 4
            · subst c4
              simp (disch := omega) only [up_n, up_s, rT_s]
            · rw [rT_k c4]
              by_cases c3 : j = 5 * k + 3
              · subst c3
                simp (disch := omega) only [up_n, up_s, rT_s]
              · rw [rT_k c3]
                by_cases c2 : j = 5 * k + 2
                · subst c2
                  simp (disch := omega) only [up_n, up_s, rT_s]
                · rw [rT_k c2]
                  by_cases c1 : j = 5 * k + 1
                  · subst c1
                    simp (disch := omega) only [up_n, up_s, rT_s]
                  · rw [rT_k c1]
                    by_cases c0 : j = 5 * k
                    · subst c0
                      simp (disch := omega) only [up_n, up_s, rT_s]
                    · rw [rT_k c0, rT_c, g5 j (by omega)]
                      simp (disch := omega) only [up_n, up_s]
          · rw [ht, rT_o ho, rT_o ho, rT_o ho, rT_o ho, rT_o ho, rT_o ho, rT_c]
            exact g6 o j ho
          · rw [b3]
            simp (disch := omega) only [up_n, up_s]
            exact g8 o j o1 o2
        · have a1 := l_berg_no (z := (sz : Int)) (f := (ft : Int)) (x := (ev : Int)) g1 (k := (kd : Int)) ⟨by omega, by omega⟩ qRW (by rw [m4]; omega)
          refine ⟨t, ?_, k, τ', by omega, Inv_n _ _ _ g1, ⟨g2, g3, g4, g5⟩, g6, g7, g8⟩
          unfold fL_bergs_b127
          rw [b1 a1]
          dsimp only
          rw [pl3, if_pos (inb_n (by omega) (by omega)), yI_cln (by omega), rT_c, mq, if_neg (len (v := 9) (b := 9) rfl (by omega) (by omega) (by omega)), if_pos rfl]
          unfold fL_bergs_b230
          rw [add1]
          rfl
      have G2 : ∀ (y0 : Int32) (j : Nat), fL_at (ishr x 8) y0 (eT t) = some (yI (j : Int), eT t) → j ≤ 989 → ∃ t', fL_bergs_b87 xs Ln (7 : Int32) (3 : Int32) w2 w4 (yI (i : Int)) x (yI ((5 * k : Nat) : Int)) (yI (kd : Int)) (yI (q : Int)) y0 (ishr x 8) (10 : Int32) t = some (.inl (yI ((i + 1 : Nat) : Int), t')) ∧ ∃ k τ', k ≤ i + 1 ∧ Inv (n + (i + 1)) t'.1 τ' ∧ BG w4 k t' τ' ∧ (∀ o j, o ≠ w4 → rT t' o j = rT s o j) ∧ t'.2.2 = s.2.2 ∧ ∀ o j, ¬ (o = 0 ∧ j = 15) → o ≠ 6 → cM τ' o j = cM τ o j := fun y0 j hj j9 => by
        unfold fL_bergs_b87
        rw [b1 hj]
        dsimp only
        rw [uT_e, b1 ft2]
        dsimp only
        rw [uT_e, show (10 : Int32) + yI (j : Int) = yI ((10 + j : Nat) : Int) from addn 10 j]
        by_cases c : kd = 2
        · rw [if_pos (eqp (v := 2) (b := 2) rfl (by omega)), b1 e82]
          dsimp only
          rw [uT_e, show (2 : Int32) + yI (e8 : Int) = yI ((2 + e8 : Nat) : Int) from addn 2 e8]
          exact G1 (10 + j) (2 + e8) (by omega) (by omega) (fun _ => by omega) (fun y => absurd c y)
        · rw [if_neg (yI_nl (v := 2) (b := 2) rfl (by omega) (by omega) (by omega))]
          exact G1 (10 + j) 0 (by omega) (by omega) (fun y => absurd y c) (fun _ => rfl)
      have G3 : ∃ t', fL_bergs_b9 xs Ln (7 : Int32) (3 : Int32) w2 w4 (yI (i : Int)) t = some (.inl (yI ((i + 1 : Nat) : Int), t')) ∧ ∃ k τ', k ≤ i + 1 ∧ Inv (n + (i + 1)) t'.1 τ' ∧ BG w4 k t' τ' ∧ (∀ o j, o ≠ w4 → rT t' o j = rT s o j) ∧ t'.2.2 = s.2.2 ∧ ∀ o j, ¬ (o = 0 ∧ j = 15) → o ≠ 6 → cM τ' o j = cM τ o j := by
        unfold fL_bergs_b9
        rw [if_neg (gen (v := 3) (b := 3) rfl (by omega) (by omega) (by omega)), show (7 : Int32) + yI (i : Int) = yI ((7 + i : Nat) : Int) from addn 7 i, b1 hx]
        dsimp only
        rw [uT_e, b1 kd2]
        dsimp only
        rw [uT_e, k0, k1, k25, g6 _ _ hn, g6 _ _ hn, mp.1, mp.2.1, eRW, b1 q2]
        dsimp only
        rw [uT_e, b1 wh2]
        dsimp only
        rw [uT_e, g3, mul5]
        by_cases c : wh = 0
        · obtain ⟨j, j1, j2⟩ := A990
          rw [if_pos (show yI (wh : Int) = 0 by rw [c]; rfl)]
          exact G2 _ j j2 (by omega)
        · obtain ⟨j, j1, j2⟩ := A90
          rw [if_neg (yI_ne0 (by omega) (by omega) (by omega))]
          exact G2 _ j j2 (by omega)
      obtain ⟨t', a1, a2⟩ := G3
      exact ⟨_, a1, rfl, a2⟩
    · rintro ⟨x, t⟩ ⟨h1, k, τ', g0, g1, g2, g6, g7, g8⟩
      dsimp only at h1 g1 g2 g6 g7
      subst h1
      refine ⟨.inr (.inr t), ?_, t, rfl, k, τ', g1, g2, g6, g7, g8⟩
      dsimp only
      unfold fL_bergs_b9
      rw [if_pos (gep (v := 3) (b := 3) rfl (by omega) (by omega) (by omega))]
  obtain ⟨t, l1, s', rfl, k, τ', l2⟩ := LP
  refine ⟨k, s', τ', ?_, l2⟩
  unfold fL_bergs fL_bergs_b0
  rw [k25, b1 l1]
  rfl
