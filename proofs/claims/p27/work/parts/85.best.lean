/-! ===== best: the model's side, and the ledger filled ===== -/
theorem BS_m {σ τ τ' : Sg} {b : Nat} (h : BS σ τ b) (f : mT τ τ') : BS σ τ' b := by
  unfold BS
  rw [mT_core f]
  obtain ⟨h1, h2, h3, h4, h5, h6, h7, h8⟩ := h
  exact ⟨h1, GM_f h2 (fun o j q => f o j (by omega) (by omega) (by omega) (by omega)), ⟨by rw [f 0 17 (by omega) (by omega) (by omega) (by omega), h3.1], by rw [f 0 18 (by omega) (by omega) (by omega) (by omega), h3.2.1], by rw [f 0 19 (by omega) (by omega) (by omega) (by omega), h3.2.2.1], h3.2.2.2⟩, h4, h5, h6, fun j hj => by rw [f 6 _ (by omega) (by omega) (by omega) (by omega), h7 j hj], h8⟩
theorem BS_k {σ τ σ' : Sg} {b : Nat} (h : BS σ τ b) (f : kT σ σ') : BS σ' τ b := by
  obtain ⟨h1, h2, h3, h4, h5, h6, h7, h8⟩ := h
  exact ⟨h1, h2, h3, GK_k h1 h4 f, h5, KB_k h6 f, h7, by rw [f 8 _ (by omega) (by omega), h8]⟩
theorem qbb_b {σ τ : Sg} {b size tugs sk : Nat} (hb : b < 5) (s : BS σ τ b) (hs : size ≤ 999) (t1 : 1 ≤ tugs) (t11 : tugs ≤ 11) (s1 : sk ≤ 1) : BB (qbb (cM τ) b size tugs sk) ∧ (qbb (cM τ) b size tugs sk).1 = qcn (cM τ) (qsq (cM τ) b) := by
  obtain ⟨v, gm, gc, gk, wb, kb, h6, -⟩ := s
  obtain ⟨w0, w1, w2, w3, w4, w5, w6, w7, w8, w9⟩ := VB1_q v wb
  obtain ⟨lw, l2⟩ := ws_b v w7 w8 w9
  obtain ⟨τ', r1, r2, r3, r4, r5⟩ := f10_lay_t v gm gc hb wb h6 hs t1 t11 s1
  exact ⟨r3, by rw [r5, lw]⟩
theorem qg_b {σ τ : Sg} {b e : Nat} (hb : b < 5) (s : BS σ τ b) (n0 : qcn (cM τ) (qsq (cM τ) b) ≠ 0) (e1 : 2 ≤ e) (e2 : e < 24) : -100000 < qg (cM τ) b e ∧ qg (cM τ) b e ≤ 9000 := by
  have w5 := (VB1_q s.1 s.2.2.2.2.1).2.2.2.2.2.1
  obtain ⟨h1, h2⟩ := qbb_b hb s (size := qsz (cM τ) b) (tugs := e / 2) (sk := e % 2) w5 (by omega) (by omega) (by omega)
  have := h1 (by rw [h2]; exact n0)
  exact ⟨this.1, this.2.1⟩
def bst (g : Nat → Int) : Nat → Nat
  | 0 => 2
  | k + 1 => if g (bst g k) < g (k + 2) then k + 2 else bst g k
theorem bst_b (g : Nat → Int) : ∀ k, 2 ≤ bst g k ∧ bst g k ≤ k + 2
  | 0 => ⟨Nat.le_refl _, Nat.le_refl _⟩
  | k + 1 => by
    have := bst_b g k
    show 2 ≤ (if g (bst g k) < g (k + 2) then k + 2 else bst g k) ∧ (if g (bst g k) < g (k + 2) then k + 2 else bst g k) ≤ k + 1 + 2
    by_cases q : g (bst g k) < g (k + 2)
    · rw [if_pos q]; omega
    · rw [if_neg q]; omega
theorem bst_23 (g : Nat → Int) : ∀ k, k ≤ 22 → bst g k < 24
  | 0, _ => by show 2 < 24; omega
  | k + 1, h => by
    have := bst_23 g k (by omega)
    show (if g (bst g k) < g (k + 2) then k + 2 else bst g k) < 24
    by_cases q : g (bst g k) < g (k + 2)
    · rw [if_pos q]; omega
    · rw [if_neg q]; omega
/-- what is told of the best entry -/
def tellB (g : Nat → Int) (w : Nat) : Int := if w = 0 then ((bst g 22 / 2 : Nat) : Int) else if w = 1 then ((bst g 22 % 2 : Nat) : Int) else g (bst g 22)
theorem f10_tellBest {σ τ : Sg} {b w : Nat} (hb : b < 5) (s : BS σ τ b) (hw : w ≤ 2) : ∃ τ', fX10_tellBest (yI (b : Int)) (yI (w : Int)) τ = some (yI (if qcn (cM τ) (qsq (cM τ) b) = 0 then -100001 else tellB (qg (cM τ) b) w), τ') ∧ mT τ τ' := by
  obtain ⟨τ1, r1, r2⟩ := f10_waysOf hb s
  have s1 := BS_m s r2
  have v := s.1
  have w7 := (VB1_q v s.2.2.2.2.1).2.2.2.2.2.2.2.1
  have cb := qcn_b v w7
  unfold fX10_tellBest fX10_tellBest_b0
  rw [b1 r1]
  dsimp only
  by_cases z : qcn (cM τ) (qsq (cM τ) b) = 0
  · rw [if_pos (eqp (v := 0) (b := 0) rfl (by omega)), if_pos z]
    exact ⟨τ1, rfl, r2⟩
  · rw [if_neg (yI_nl (v := 0) (b := 0) rfl (by omega) (by omega) (by omega)), if_neg z]
    have gb : ∀ e, 2 ≤ e → e < 24 → -100000 < qg (cM τ) b e ∧ qg (cM τ) b e ≤ 9000 := fun e e1 e2 => qg_b hb s z e1 e2
    generalize hg : qg (cM τ) b = g at *
    have LP : ∃ t, lp (fun s : Int32 × Int32 × Int32 × Sg => fX10_tellBest_b21 (yI (b : Int)) (yI (w : Int)) s.1 s.2.1 s.2.2.1 s.2.2.2) FU ((-1 : Int32), (-100000000 : Int32), (0 : Int32), τ1) = some t ∧ (t.1 = yI ((bst g 22 : Int) - 2) ∧ t.2.1 = yI (g (bst g 22)) ∧ mT τ t.2.2) := by
      refine lp_all (fun k s => s.2.2.1 = yI (k : Int) ∧ ((k = 0 ∧ s.1 = -1 ∧ s.2.1 = yI (-100000000)) ∨ (1 ≤ k ∧ s.1 = yI ((bst g k : Int) - 2) ∧ s.2.1 = yI (g (bst g k)))) ∧ mT τ s.2.2.2) 22 _ ?_ ?_ ⟨rfl, Or.inl ⟨rfl, rfl, rfl⟩, r2⟩ (FU_b (by omega))
      · rintro k ⟨x1, x2, x3, t⟩ hk ⟨h1, h2, h3⟩
        dsimp only at h1 h2 h3
        subst h1
        have st := BS_m s h3
        obtain ⟨t', u1, u2⟩ := f10_tellTow hb st (tugs := (k + 2) / 2) (sk := (k + 2) % 2) (w := 2) (by omega) (by omega) (by omega) (Or.inl (by omega))
        rw [mT_core h3, if_neg z] at u1
        have e2 : tell (qbb (cM τ) b (qsz (cM τ) b) ((k + 2) / 2) ((k + 2) % 2)) 2 = g (k + 2) := by rw [← hg]; rfl
        rw [e2] at u1
        have gk2 := gb (k + 2) (by omega) (by omega)
        have em : yI (k : Int) - yI (k : Int) / (2 : Int32) * (2 : Int32) = yI ((k % 2 : Nat) : Int) := by
          rw [show (2 : Int32) = yI 2 from rfl, yI_rem (by omega) (by omega) (by omega) (by omega)]; rfl
        have ed : (1 : Int32) + yI (k : Int) / (2 : Int32) = yI (((k + 2) / 2 : Nat) : Int) := by
          rw [show (2 : Int32) = yI ((2 : Nat) : Int) from rfl, divn (by omega) (by omega) (by omega), show (1 : Int32) = yI ((1 : Nat) : Int) from rfl, addn]
          congr 1; omega
        have GO : ∀ y0 : Int32, y0 = yI (((k + 2) % 2 : Nat) : Int) → ∃ s', fX10_tellBest_b49 (yI (b : Int)) (yI (w : Int)) x1 x2 (yI (k : Int)) y0 (yI (((k + 2) / 2 : Nat) : Int)) (yI (b : Int)) t = some (.inl s') ∧ (s'.2.2.1 = yI ((k + 1 : Nat) : Int) ∧ ((k + 1 = 0 ∧ s'.1 = -1 ∧ s'.2.1 = yI (-100000000)) ∨ (1 ≤ k + 1 ∧ s'.1 = yI ((bst g (k + 1) : Int) - 2) ∧ s'.2.1 = yI (g (bst g (k + 1))))) ∧ mT τ s'.2.2.2) := fun y0 hy => by
          unfold fX10_tellBest_b49 fX10_tellBest_b68 fX10_tellBest_b83
          rw [hy, show (2 : Int32) = yI ((2 : Nat) : Int) from rfl, b1 u1]
          dsimp only
          rw [add1]
          have eb : bst g (k + 1) = if g (bst g k) < g (k + 2) then k + 2 else bst g k := rfl
          rcases h2 with ⟨k0, rfl, rfl⟩ | ⟨k1, rfl, rfl⟩
          · have b1' : bst g (k + 1) = 2 := by
              rw [eb, k0]
              show (if g 2 < g 2 then 2 else 2) = 2
              rw [if_neg (by omega)]
            rw [if_neg (fun y => by have := (yI_le (by omega) (by omega) (by omega) (by omega)).mp y; omega), if_neg (fun y => by have := (yI_le (by omega) (by omega) (by omega) (by omega)).mp y; omega)]
            refine ⟨_, rfl, rfl, Or.inr ⟨by omega, ?_, ?_⟩, mT_t h3 u2⟩
            · dsimp only
              rw [b1', k0]; rfl
            · dsimp only
              rw [b1', k0]
          · have bb1 := bst_b g k
            have bb2 := bst_23 g k (by omega)
            have gk3 := gb (bst g k) bb1.1 bb2
            by_cases q : g (bst g k) < g (k + 2)
            · rw [if_neg (fun y => by have := (yI_le (by omega) (by omega) (by omega) (by omega)).mp y; omega), if_neg (fun y => by have := (yI_le (by omega) (by omega) (by omega) (by omega)).mp y; omega)]
              rw [if_pos q] at eb
              refine ⟨_, rfl, rfl, Or.inr ⟨by omega, ?_, ?_⟩, mT_t h3 u2⟩
              · dsimp only
                rw [eb]; congr 1; omega
              · dsimp only
                rw [eb]
            · rw [if_pos ((yI_le (by omega) (by omega) (by omega) (by omega)).mpr (by omega)), if_pos ((yI_le (by omega) (by omega) (by omega) (by omega)).mpr (by omega))]
              rw [if_neg q] at eb
              exact ⟨_, rfl, rfl, Or.inr ⟨by omega, by rw [eb], by rw [eb]⟩, mT_t h3 u2⟩
        dsimp only
        unfold fX10_tellBest_b21
        rw [if_neg (gen (v := 22) (b := 22) rfl (by omega) (by omega) (by omega)), em, ed]
        by_cases q : k % 2 = 1
        · rw [if_pos (eqp (v := 1) (b := 1) rfl (by omega))]
          exact GO 1 (by rw [show (k + 2) % 2 = 1 by omega]; rfl)
        · rw [if_neg (yI_nl (v := 1) (b := 1) rfl (by omega) (by omega) (by omega))]
          exact GO 0 (by rw [show (k + 2) % 2 = 0 by omega]; rfl)
      · rintro ⟨x1, x2, x3, t⟩ ⟨h1, h2, h3⟩
        dsimp only at h1 h2 h3
        subst h1
        rcases h2 with ⟨k0, -⟩ | ⟨k1, k2, k3⟩
        · omega
        · refine ⟨(x1, x2, t), ?_, k2, k3, h3⟩
          dsimp only
          unfold fX10_tellBest_b21
          rw [if_pos (gep (v := 22) (b := 22) rfl (by omega) (by omega) (by omega))]
    obtain ⟨⟨t1, t2, t3⟩, k1, k2, k3, k4⟩ := LP
    dsimp only at k2 k3 k4
    have bb1 := bst_b g 22
    have bb2 := bst_23 g 22 (by omega)
    refine ⟨t3, ?_, k4⟩
    rw [b1 k1]
    dsimp only
    rw [k2, k3]
    unfold tellB
    have e2 : ((bst g 22 : Int) - 2) = ((bst g 22 - 2 : Nat) : Int) := by omega
    by_cases q0 : w = 0
    · rw [if_pos (eqp (v := 0) (b := 0) rfl (by omega)), if_pos q0, e2, show (2 : Int32) = yI ((2 : Nat) : Int) from rfl, divn (by omega) (by omega) (by omega), show (1 : Int32) = yI ((1 : Nat) : Int) from rfl, addn]
      congr 4; omega
    · rw [if_neg (yI_nl (v := 0) (b := 0) rfl (by omega) (by omega) (by omega)), if_neg q0]
      by_cases q1 : w = 1
      · rw [if_pos (eqp (v := 1) (b := 1) rfl (by omega)), if_pos q1, e2, show (2 : Int32) = yI 2 from rfl, yI_rem (by omega) (by omega) (by omega) (by omega)]
        congr 3
        omega
      · rw [if_neg (yI_nl (v := 1) (b := 1) rfl (by omega) (by omega) (by omega)), if_neg q1]
