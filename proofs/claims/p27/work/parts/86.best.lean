/-! ===== best: the ledger ===== -/
theorem BS_w {σ τ σ' : Sg} {b : Nat} (h : BS σ τ b) (f : ∀ o j, 4 ≤ o → (o ≤ 41 ∨ 76 ≤ o) → rI σ' o j = rI σ o j) : BS σ' τ b := by
  obtain ⟨h1, h2, h3, h4, h5, h6, h7, h8⟩ := h
  have b30 := h1.b30
  refine ⟨h1, h2, h3, ⟨by rw [f 4 7 (by omega) (by omega), h4.1], fun i hi => ⟨by rw [f 5 i (by omega) (by omega), (h4.2.1 i hi).1], by rw [f 6 i (by omega) (by omega), (h4.2.1 i hi).2.1], fun w hw => by rw [f (10 + i) w (by omega) (by omega), (h4.2.1 i hi).2.2 w hw]⟩, by rw [f 41 0 (by omega) (by omega), h4.2.2.1], by rw [f 41 1 (by omega) (by omega), h4.2.2.2.1], by rw [f 41 2 (by omega) (by omega), h4.2.2.2.2.1], h4.2.2.2.2.2⟩, h5, ?_, h7, by rw [f 8 _ (by omega) (by omega), h8]⟩
  obtain ⟨k0, k1, k2, k3, k4, k5⟩ := h6
  exact ⟨by rw [f _ 0 (by omega) (by omega), k0], by rw [f _ 1 (by omega) (by omega), k1], by rw [f _ 2 (by omega) (by omega), k2], by rw [f _ 3 (by omega) (by omega), k3], by rw [f _ 4 (by omega) (by omega), k4], by rw [f _ 5 (by omega) (by omega), k5]⟩
theorem IV_weigh {n : Nat} {c c' m : Mm} {b : Nat} (h : IV n c m) (b5 : b < 5) (hc : ∀ o j, ¬ (o = 65 ∧ j = b) → ¬ (o = 66 ∧ j = b) → o ≠ 60 + b → c' o j = c o j) (g : VG1 c' m b) : IV n c' m := by
  obtain ⟨hp, hq, hb, hcc, hl, hd, hi, hg⟩ := h
  have e : ∀ o, o ≠ 65 → o ≠ 66 → o ≠ 60 + b → c' o = c o := fun o h1 h2 h3 => funext fun j => hc o j (by omega) (by omega) h3
  refine ⟨VP_f hp (hc 1 1 (by omega) (by omega) (by omega)) (e 2 (by omega) (by omega) (by omega)) rfl rfl, VQ_f hq (hc 0 10 (by omega) (by omega) (by omega)) rfl (SE_r m) (e 4 (by omega) (by omega) (by omega)) (e 5 (by omega) (by omega) (by omega)) (e 6 (by omega) (by omega) (by omega)) (e 7 (by omega) (by omega) (by omega)) (e 8 (by omega) (by omega) (by omega)) (fun i hi => e (10 + i) (by omega) (by omega) (by omega)), VB_f hb (hc 0 9 (by omega) (by omega) (by omega)) rfl (SE_r m) rfl (fun i hi => e (76 + i) (by omega) (by omega) (by omega)), VC_f hcc (e 41 (by omega) (by omega) (by omega)) (CE_r m), VL_f hl (hc 49 3 (by omega) (by omega) (by omega)) (e 50 (by omega) (by omega) (by omega)) (e 51 (by omega) (by omega) (by omega)) (e 52 (by omega) (by omega) (by omega)) rfl rfl, VD_f hd (hc 0 11 (by omega) (by omega) (by omega)) rfl, VI_f hi (e 53 (by omega) (by omega) (by omega)) (e 54 (by omega) (by omega) (by omega)) (e 55 (by omega) (by omega) (by omega)) (e 57 (by omega) (by omega) (by omega)) (fun _ _ _ => rfl) rfl rfl rfl rfl rfl rfl rfl, fun i hi hn => ?_⟩
  by_cases q : i = b
  · rw [q]; exact g
  · rw [hc 65 i (by omega) (by omega) (by omega)] at hn
    have i5 := hb.2.2.1
    exact VG1_f (hg i hi hn) (SE_r m) (CE_r m) (fun _ _ => rfl) (hc 66 i (by omega) (by omega) (by omega)) (e (60 + i) (by omega) (by omega) (by omega))
theorem mod2 {e : Nat} (h : e < 1000) : yI (e : Int) - yI (e : Int) / (2 : Int32) * (2 : Int32) = yI ((e % 2 : Nat) : Int) ∧ yI (e : Int) / (2 : Int32) = yI ((e / 2 : Nat) : Int) := by
  refine ⟨?_, ?_⟩
  · rw [show (2 : Int32) = yI 2 from rfl, yI_rem (by omega) (by omega) (by omega) (by omega)]; rfl
  · rw [show (2 : Int32) = yI ((2 : Nat) : Int) from rfl, divn (by omega) (by omega) (by omega)]
theorem f3_tugsOf {σ : Sg} {e : Nat} (h : e < 1000) : fX3_tugsOf (yI (e : Int)) σ = some (yI ((e / 2 : Nat) : Int), σ) := by
  unfold fX3_tugsOf fX3_tugsOf_b0
  rw [(mod2 h).2]
theorem f3_hasSkirt {σ : Sg} {e : Nat} (h : e < 1000) : fX3_hasSkirt (yI (e : Int)) σ = some (yI ((e % 2 : Nat) : Int), σ) := by
  unfold fX3_hasSkirt fX3_hasSkirt_b0
  rw [(mod2 h).1]
  by_cases q : e % 2 = 1
  · rw [if_pos (eqp (v := 1) (b := 1) rfl (by omega)), q]; rfl
  · rw [if_neg (yI_nl (v := 1) (b := 1) rfl (by omega) (by omega) (by omega)), show e % 2 = 0 by omega]; rfl
theorem f9_weigh {n : Nat} {σ τ : Sg} {b : Nat} (h : Inv n σ τ) (hb : (b : Int) < cM τ 0 15) : ∃ σ', fX9_weigh (yI (b : Int)) σ = some σ' ∧ Inv n σ' τ ∧ VG1 (cC σ') (cM τ) b ∧ ∀ o j, ¬ (o = 65 ∧ j = b) → ¬ (o = 66 ∧ j = b) → o ≠ 60 + b → cC σ' o j = cC σ o j := by
  obtain ⟨b5, s⟩ := Inv_b h hb
  have e65 : rI σ 65 b = yI (cC σ 65 b) := cC_r (o := 65) (k := b) rfl
  have c65 := core_b (ns := nsC) σ 65 b
  unfold fX9_weigh fX9_weigh_b0
  rw [if_pos (inb_n (by omega) b5), yI_cln (by omega), e65]
  by_cases k : cC σ 65 b = 0
  · rw [if_pos (eqp (v := 0) (b := 0) rfl k)]
    have st1 : BS (wI σ 65 b 1) τ b := BS_w s (fun o j h1 h2 => by rw [rI_o (by omega)])
    have hh := f9_hasWay b5 st1
    rw [if_pos (inb_n (by omega) b5), b1 hh]
    dsimp only
    rw [if_pos (inb_n (by omega) b5), if_pos isB_ite, if_pos (inb_n (by omega) b5), rI_s]
    have st2 : ∀ y : Int32, BS (wI (wI σ 65 b 1) 66 b y) τ b := fun y => BS_w st1 (fun o j h1 h2 => by rw [rI_o (by omega)])
    -- what is left behind, for any end of the loop
    have FIN : ∀ σ' : Sg, (∀ o j, o ≠ 3 → ¬ (42 ≤ o ∧ o ≤ 46) → o ≠ 60 + b → ¬ (o = 65 ∧ j = b) → ¬ (o = 66 ∧ j = b) → rI σ' o j = rI σ o j) → VG1 (cC σ') (cM τ) b → (∀ o j, ¬ (o = 65 ∧ j = b) → ¬ (o = 66 ∧ j = b) → o ≠ 60 + b → cC σ' o j = cC σ o j) := fun σ' f g o j a c d => by
      by_cases e : o = 3 ∨ (42 ≤ o ∧ o ≤ 46)
      · have hn : ¬ nsC o j = true := by
          rcases e with rfl | e
          · unfold nsC; simp
          · rcases (show o = 42 ∨ o = 43 ∨ o = 44 ∨ o = 45 ∨ o = 46 by omega) with rfl | rfl | rfl | rfl | rfl <;> · unfold nsC; simp
        show core nsC σ' o j = core nsC σ o j
        unfold core
        rw [if_neg hn, if_neg hn]
      · exact core_e (f o j (by omega) (by omega) d a c)
    by_cases z : qcn (cM τ) (qsq (cM τ) b) = 0
    · rw [if_neg (c := qcn (cM τ) (qsq (cM τ) b) ≠ 0) (fun q => q z), if_pos rfl]
      have g : VG1 (cC (wI (wI σ 65 b 1) 66 b 0)) (cM τ) b := by
        refine ⟨?_, fun q => absurd z q⟩
        rw [if_pos z]
        exact core_y (o := 66) (k := b) (x := 0) rfl (by rw [rI_s]; rfl) (by omega) (by omega)
      have f := FIN (wI (wI σ 65 b 1) 66 b 0) (fun o j a c d e i => by rw [rI_wI, if_neg i, rI_wI, if_neg e]) g
      exact ⟨_, rfl, IV_weigh h b5 f g, g, f⟩
    · rw [if_pos z, if_neg (show ¬ (1 : Int32) = 0 by decide)]
      obtain ⟨v, -, -, gk, wb, kb, -, -⟩ := st2 1
      have wq := VB1_q v wb
      have w2 := wq.2.2.1
      have w5 := wq.2.2.2.2.2.1
      have LP : ∃ t, lp (fun s : Int32 × Sg => fX9_weigh_b52 (yI (b : Int)) s.1 s.2) FU ((2 : Int32), wI (wI σ 65 b 1) 66 b 1) = some t ∧ ((∀ e, 2 ≤ e → e < 24 → rI t (60 + b) e = yI (qg (cM τ) b e)) ∧ ∀ o j, o ≠ 3 → ¬ (42 ≤ o ∧ o ≤ 46) → o ≠ 60 + b → rI t o j = rI (wI (wI σ 65 b 1) 66 b 1) o j) := by
        refine lp_all (fun k s => s.1 = yI ((k + 2 : Nat) : Int) ∧ (∀ e, 2 ≤ e → e < k + 2 → rI s.2 (60 + b) e = yI (qg (cM τ) b e)) ∧ ∀ o j, o ≠ 3 → ¬ (42 ≤ o ∧ o ≤ 46) → o ≠ 60 + b → rI s.2 o j = rI (wI (wI σ 65 b 1) 66 b 1) o j) 22 _ ?_ ?_ ⟨rfl, fun e e1 e2 => by omega, fun _ _ _ _ _ => rfl⟩ (FU_b (by omega))
        · rintro k ⟨x, t⟩ hk ⟨h1, h2, h3⟩
          dsimp only at h1 h2 h3
          subst h1
          have stt : BS t τ b := BS_w (st2 1) (fun o j x1 x2 => h3 o j (by omega) (by omega) (by omega))
          obtain ⟨v', -, -, gk', wb', kb', -, -⟩ := stt
          obtain ⟨t', u1, u2, u3, u4, -, -⟩ := f8_seek v' gk' b5 wb' kb' w5 (tugs := (k + 2) / 2) (sk := (k + 2) % 2) (by omega) (by omega) (by omega)
          have ub := qbb_b b5 (st2 1) (size := qsz (cM τ) b) (tugs := (k + 2) / 2) (sk := (k + 2) % 2) w5 (by omega) (by omega) (by omega)
          have n0 : (qbb (cM τ) b (qsz (cM τ) b) ((k + 2) / 2) ((k + 2) % 2)).1 ≠ 0 := by rw [ub.2]; exact z
          have e13 := (u2.2 n0).2.1
          refine ⟨(yI ((k + 1 + 2 : Nat) : Int), wI t' (60 + b) (k + 2) (yI (qg (cM τ) b (k + 2)))), ?_, rfl, fun e e1 e2 => ?_, fun o j a c d => ?_⟩
          · dsimp only
            unfold fX9_weigh_b52
            rw [if_neg (gen (v := 24) (b := 24) rfl (by omega) (by omega) (by omega)), if_pos (inb_n (by omega) b5), if_pos (inb_n (by omega) b5), b1 (f3_tugsOf (by omega))]
            dsimp only
            rw [b1 (f3_hasSkirt (by omega))]
            dsimp only
            rw [yI_cln (by omega), kb'.2.2.1, w2, b1 u1, if_pos (inb_n (by omega) b5), if_pos (inb_n (by omega) (by omega)), yI_cln (by omega), add1, e13]
            rfl
          · dsimp only
            by_cases q : e = k + 2
            · rw [q, rI_s]
            · rw [rI_k q, u4 _ _ (by omega) (by omega)]; exact h2 e e1 (by omega)
          · dsimp only
            rw [rI_o d, u4 o j a c]; exact h3 o j a c d
        · rintro ⟨x, t⟩ ⟨h1, h2, h3⟩
          dsimp only at h1 h2 h3
          subst h1
          refine ⟨t, ?_, fun e e1 e2 => h2 e e1 (by omega), h3⟩
          dsimp only
          unfold fX9_weigh_b52
          rw [if_pos (gep (v := 24) (b := 24) rfl (by omega) (by omega) (by omega))]
      obtain ⟨t, k1, k2, k3⟩ := LP
      have g : VG1 (cC t) (cM τ) b := by
        refine ⟨?_, fun _ e e1 e2 => ?_⟩
        · rw [if_neg z]
          exact core_y (o := 66) (k := b) (x := 1) rfl (by rw [k3 66 b (by omega) (by omega) (by omega), rI_s]; rfl) (by omega) (by omega)
        · have gb := qg_b b5 s z e1 e2
          exact core_y (o := 60 + b) (k := e) (nsC_low (by omega) (by omega)) (k2 e e1 e2) (by omega) (by omega)
      have f := FIN t (fun o j a c d e i => by rw [k3 o j a c d, rI_wI, if_neg i, rI_wI, if_neg e]) g
      exact ⟨t, by rw [b1 k1], IV_weigh h b5 f g, g, f⟩
  · rw [if_neg (yI_nl (v := 0) (b := 0) rfl c65.1 c65.2 k)]
    exact ⟨σ, rfl, h, h.2.2.2.2.2.2.2 b hb k, fun _ _ _ _ _ => rfl⟩
theorem f3_bestEntry {σ : Sg} {b : Nat} {g : Nat → Int} (b5 : b < 5) (hg : ∀ e, 2 ≤ e → e < 24 → rI σ (60 + b) e = yI (g e) ∧ -100000 < g e ∧ g e ≤ 9000) : fX3_bestEntry (yI (b : Int)) σ = some (yI (bst g 22 : Int), σ) := by
  have LP : ∃ t, lp (fun s : Int32 × Int32 × Sg => fX3_bestEntry_b4 (yI (b : Int)) s.1 s.2.1 s.2.2) FU ((2 : Int32), (2 : Int32), σ) = some t ∧ (t = (yI (bst g 22 : Int), σ)) := by
    refine lp_all (fun k s => s.1 = yI (bst g k : Int) ∧ s.2.1 = yI ((k + 2 : Nat) : Int) ∧ s.2.2 = σ) 22 _ ?_ ?_ ⟨rfl, rfl, rfl⟩ (FU_b (by omega))
    · rintro k ⟨x, y, t⟩ hk ⟨h1, h2, h3⟩
      dsimp only at h1 h2 h3
      subst h1 h2 h3
      have p1 := bst_b g k
      have p2 := bst_23 g k (by omega)
      obtain ⟨a1, a2, a3⟩ := hg (k + 2) (by omega) (by omega)
      obtain ⟨c1, c2, c3⟩ := hg (bst g k) p1.1 p2
      have eb : bst g (k + 1) = if g (bst g k) < g (k + 2) then k + 2 else bst g k := rfl
      dsimp only
      unfold fX3_bestEntry_b4 fX3_bestEntry_b34
      rw [if_neg (gen (v := 24) (b := 24) rfl (by omega) (by omega) (by omega)), if_pos (inb_n (by omega) b5), if_pos (inb_n (by omega) (by omega)), if_pos (inb_n (by omega) b5), if_pos (inb_n (by omega) (by omega)), yI_cln (by omega), yI_cln (by omega), yI_cln (by omega), a1, c1, add1]
      by_cases q : g (bst g k) < g (k + 2)
      · rw [if_neg (fun y => by have := (yI_le (by omega) (by omega) (by omega) (by omega)).mp y; omega)]
        rw [if_pos q] at eb
        exact ⟨_, rfl, by rw [eb], rfl, rfl⟩
      · rw [if_pos ((yI_le (by omega) (by omega) (by omega) (by omega)).mpr (by omega))]
        rw [if_neg q] at eb
        exact ⟨_, rfl, by rw [eb], rfl, rfl⟩
    · rintro ⟨x, y, t⟩ ⟨h1, h2, h3⟩
      dsimp only at h1 h2 h3
      subst h1 h2 h3
      refine ⟨(yI (bst g 22 : Int), t), ?_, rfl⟩
      dsimp only
      unfold fX3_bestEntry_b4
      rw [if_pos (gep (v := 24) (b := 24) rfl (by omega) (by omega) (by omega))]
  obtain ⟨t, k1, rfl⟩ := LP
  unfold fX3_bestEntry fX3_bestEntry_b0
  rw [b1 k1]
/-- both tell the same of the best entry -/
theorem best_eq {n : Nat} {σ τ : Sg} {b w : Nat} (h : Inv n σ τ) (hb : (b : Int) < cM τ 0 15) (hw : w ≤ 2) {P : Prop} [Decidable P] (hP : P) (hx : fX9_isBerg (yI (b : Int)) σ = some (if P then 1 else 0, σ)) : ∃ r σ' τ', fX9_best (yI (b : Int)) (yI (w : Int)) σ = some (r, σ') ∧ fX10_tellBest (yI (b : Int)) (yI (w : Int)) τ = some (r, τ') ∧ Inv n σ' τ' ∧ cM τ' = cM τ ∧ ∀ o j, o ≠ 65 → o ≠ 66 → ¬ (60 ≤ o ∧ o ≤ 64) → cC σ' o j = cC σ o j := by
  obtain ⟨b5, s⟩ := Inv_b h hb
  obtain ⟨τ', r1, r2⟩ := f10_tellBest b5 s hw
  have hh := f9_hasWay b5 s
  have INV : ∀ σ', Inv n σ' τ → Inv n σ' τ' := fun σ' i => by
    unfold Inv at i ⊢
    rw [mT_core r2]; exact i
  unfold fX9_best fX9_best_b0
  rw [bt hx hP]
  dsimp only
  rw [if_neg (ltn (v := 0) (b := 0) rfl (by omega) (by omega) (by omega)), if_pos (lep (v := 2) (b := 2) rfl (by omega) (by omega) (by omega))]
  by_cases z : qcn (cM τ) (qsq (cM τ) b) = 0
  · rw [if_pos z] at r1
    rw [bf hh (fun q => q z)]
    exact ⟨_, σ, τ', rfl, r1, INV σ h, mT_core r2, fun _ _ _ _ _ => rfl⟩
  · rw [if_neg z] at r1
    rw [bt hh z]
    dsimp only
    obtain ⟨σ', u1, u2, u3, u4⟩ := f9_weigh h hb
    have hg : ∀ e, 2 ≤ e → e < 24 → rI σ' (60 + b) e = yI (qg (cM τ) b e) ∧ -100000 < qg (cM τ) b e ∧ qg (cM τ) b e ≤ 9000 := fun e e1 e2 => by
      refine ⟨?_, qg_b b5 s z e1 e2⟩
      rw [cC_r (o := 60 + b) (k := e) (nsC_low (by omega) (by omega)), u3.2 z e e1 e2]
    have p1 := bst_b (qg (cM τ) b) 22
    have p2 := bst_23 (qg (cM τ) b) 22 (by omega)
    have pg := hg _ p1.1 p2
    refine ⟨_, σ', τ', ?_, r1, INV σ' u2, mT_core r2, fun o j a c d => u4 o j (by omega) (by omega) (by omega)⟩
    rw [b1 u1, b1 (f3_bestEntry b5 hg)]
    dsimp only
    unfold tellB
    by_cases q0 : w = 0
    · rw [if_pos (eqp (v := 0) (b := 0) rfl (by omega)), if_pos q0, b1 (f3_tugsOf (by omega))]
    · rw [if_neg (yI_nl (v := 0) (b := 0) rfl (by omega) (by omega) (by omega)), if_neg q0]
      by_cases q1 : w = 1
      · rw [if_pos (eqp (v := 1) (b := 1) rfl (by omega)), if_pos q1, b1 (f3_hasSkirt (by omega))]
        dsimp only
        by_cases y : bst (qg (cM τ) b) 22 % 2 = 0
        · rw [if_pos (eqp (v := 0) (b := 0) rfl (by omega)), y]; rfl
        · rw [if_neg (yI_nl (v := 0) (b := 0) rfl (by omega) (by omega) (by omega)), show bst (qg (cM τ) b) 22 % 2 = 1 by omega]; rfl
      · rw [if_neg (yI_nl (v := 1) (b := 1) rfl (by omega) (by omega) (by omega)), if_neg q1, if_pos (inb_n (by omega) b5), if_pos (inb_n (by omega) p2), yI_cln (by omega), yI_cln (by omega), pg.1]
theorem s_best (a0 a1 : Int32) : SimI Inv (fX9_best a0 a1) (fX10_best a0 a1) := fun n σ τ _ h => by
  obtain ⟨b, h1, h2, rfl⟩ := yI_ex a0
  obtain ⟨w, h3, h4, rfl⟩ := yI_ex a1
  have hv := h.2.2.1
  have g1 := f9_isBerg (σ := σ) h1 h2 hv.e.1 hv.2.1 hv.2.2.1
  have g2 := f10_isBerg (τ := τ) h1 h2 hv.e.2 hv.2.1 hv.2.2.1
  have g3 := in_zz h3 h4 (show (0 : Int64).toInt = 0 from rfl) (show (2 : Int64).toInt = 2 from rfl) τ
  by_cases qb : 0 ≤ b ∧ b < cM τ 0 15
  · by_cases qw : 0 ≤ w ∧ w ≤ 2
    · obtain ⟨b, rfl⟩ := Int.eq_ofNat_of_zero_le qb.1
      obtain ⟨w, rfl⟩ := Int.eq_ofNat_of_zero_le qw.1
      obtain ⟨r, σ', τ', u1, u2, u3, -, -⟩ := best_eq (w := w) h qb.2 (by omega) qb g1
      refine ⟨r, σ', τ', u1, ?_, Inv_n n _ _ u3⟩
      unfold fX10_best fX10_best_b0
      rw [bt g2 qb]
      dsimp only
      rw [bt g3 qw]
      dsimp only
      rw [b1 u2]
    · refine ⟨-100102, σ, τ, ?_, ?_, Inv_n n σ τ h⟩
      · unfold fX9_best fX9_best_b0
        rw [bt g1 qb]
        dsimp only
        by_cases q : w < 0
        · rw [if_pos (ltp (v := 0) (b := 0) rfl h3 h4 q)]
        · rw [if_neg (ltn (v := 0) (b := 0) rfl h3 h4 (by omega)), if_neg (len (v := 2) (b := 2) rfl h3 h4 (by omega))]
      · unfold fX10_best fX10_best_b0
        rw [bt g2 qb]
        dsimp only
        rw [bf g3 qw]
  · refine ⟨-100101, σ, τ, ?_, ?_, Inv_n n σ τ h⟩
    · unfold fX9_best fX9_best_b0
      rw [bf g1 qb]
    · unfold fX10_best fX10_best_b0
      rw [bf g2 qb]
