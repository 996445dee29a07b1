/-! ===== came ===== -/
theorem IV_came {n : Nat} {c c' m m' : Mm} (h : IV n c m) (hc : ∀ o j, ¬ (o = 0 ∧ j = 11) → c' o j = c o j) (hm : ∀ o j, ¬ (o = 0 ∧ j = 40) → m' o j = m o j) (e : c' 0 11 = m' 0 40) (e0 : 0 ≤ m' 0 40) (e20 : m' 0 40 ≤ 20) : IV n c' m' := by
  obtain ⟨hp, hq, hb, hcc, hl, hd, hi, hg⟩ := h
  have fc : ∀ o, o ≠ 0 → c' o = c o := fun o h1 => funext fun j => hc o j (by omega)
  have fm : ∀ o, o ≠ 0 → m' o = m o := fun o h1 => funext fun j => hm o j (by omega)
  have s : SE m m' := ⟨hm 0 9 (by omega), hm 0 10 (by omega), hm 0 11 (by omega), fm 4 (by omega), fm 5 (by omega)⟩
  have k : CE m m' := ⟨hm 0 17 (by omega), hm 0 18 (by omega), hm 0 19 (by omega)⟩
  exact ⟨VP_f hp (hc 1 1 (by omega)) (fc 2 (by omega)) (hm 0 1 (by omega)) (fm 1 (by omega)), VQ_f hq (hc 0 10 (by omega)) (hm 0 12 (by omega)) s (fc 4 (by omega)) (fc 5 (by omega)) (fc 6 (by omega)) (fc 7 (by omega)) (fc 8 (by omega)) (fun i hi => fc (10 + i) (by omega)), VB_f hb (hc 0 9 (by omega)) (hm 0 15 (by omega)) s (fm 6 (by omega)) (fun i hi => fc (76 + i) (by omega)), VC_f hcc (fc 41 (by omega)) k, VL_f hl (hc 49 3 (by omega)) (fc 50 (by omega)) (fc 51 (by omega)) (fc 52 (by omega)) (hm 0 20 (by omega)) (fm 7 (by omega)), ⟨e, e0, e20⟩, VI_f hi (fc 53 (by omega)) (fc 54 (by omega)) (fc 55 (by omega)) (fc 57 (by omega)) (fun j a b => hm 0 j (by omega)) (hm 0 12 (by omega)) (hm 0 15 (by omega)) (hm 0 20 (by omega)) (fm 15 (by omega)) (fm 16 (by omega)) (fm 6 (by omega)) (fm 7 (by omega)), VG_f hg hb.2.2.1 s k (fm 6 (by omega)) (hm 0 15 (by omega)) (fc 65 (by omega)) (fc 66 (by omega)) (fun i hi => fc (60 + i) (by omega))⟩
/-- many, least, greatest of the first k sizes from 10 -/
def cmv (W : Nat → Nat) (x : Int) : Nat → Int × Int × Int
  | 0 => (0, -1, -1)
  | k + 1 => if (W (k + 10) : Int) = x then ((cmv W x k).1 + 1, (if (cmv W x k).2.1 = -1 then ((k + 10 : Nat) : Int) else (cmv W x k).2.1), ((k + 10 : Nat) : Int)) else cmv W x k
theorem cmv_b (W : Nat → Nat) (x : Int) : ∀ k, k ≤ 990 → 0 ≤ (cmv W x k).1 ∧ (cmv W x k).1 ≤ k ∧ -1 ≤ (cmv W x k).2.1 ∧ (cmv W x k).2.1 ≤ 999
  | 0, _ => by
    show (0 : Int) ≤ 0 ∧ (0 : Int) ≤ ((0 : Nat) : Int) ∧ (-1 : Int) ≤ -1 ∧ (-1 : Int) ≤ 999
    omega
  | k + 1, h => by
    have := cmv_b W x k (by omega)
    unfold cmv
    by_cases q : (W (k + 10) : Int) = x
    · rw [if_pos q]
      dsimp only
      by_cases q2 : (cmv W x k).2.1 = -1
      · rw [if_pos q2]; omega
      · rw [if_neg q2]; omega
    · rw [if_neg q]; omega
theorem f9_cameloop {σ τ : Sg} {b t sk : Nat} {x : Int} (b5 : b < 5) (s : BS σ τ b) (t1 : 1 ≤ t) (t11 : t ≤ 11) (s1 : sk ≤ 1) (x0 : 0 ≤ x) (x9 : x ≤ 999) (z : qcn (cM τ) (qsq (cM τ) b) ≠ 0) (x5 : Int32) : ∃ u, lp (fun s : Int32 × Int32 × Int32 × Int32 × Sg => fX9_came_b88 (yI (b : Int)) (yI (t : Int)) (yI (sk : Int)) (yI x) x5 s.1 s.2.1 s.2.2.1 s.2.2.2.1 s.2.2.2.2) FU ((0 : Int32), (-1 : Int32), (-1 : Int32), (10 : Int32), σ) = some u ∧ (u.1 = yI (cmv (fun v => (qbb (cM τ) b v t sk).2.2.2.1) x 990).1 ∧ u.2.1 = yI (cmv (fun v => (qbb (cM τ) b v t sk).2.2.2.1) x 990).2.1 ∧ u.2.2.1 = yI (cmv (fun v => (qbb (cM τ) b v t sk).2.2.2.1) x 990).2.2 ∧ kT σ u.2.2.2) := by
  generalize hW : (fun v => (qbb (cM τ) b v t sk).2.2.2.1) = W
  refine lp_all (fun k s => s.1 = yI (cmv W x k).1 ∧ s.2.1 = yI (cmv W x k).2.1 ∧ s.2.2.1 = yI (cmv W x k).2.2 ∧ s.2.2.2.1 = yI ((k + 10 : Nat) : Int) ∧ kT σ s.2.2.2.2) 990 _ ?_ ?_ ⟨rfl, rfl, rfl, rfl, kT_r σ⟩ (FU_b (by omega))
  · rintro k ⟨y1, y2, y3, y4, u⟩ hk ⟨h1, h2, h3, h4, h5⟩
    dsimp only at h1 h2 h3 h4 h5
    subst h1 h2 h3 h4
    obtain ⟨v, -, -, gk, wb, kb, -, -⟩ := BS_k s h5
    obtain ⟨u', a1, a2, a3, a4, -, -⟩ := f8_seek v gk b5 wb kb (size := k + 10) (by omega) t1 t11 s1
    have bb := qbb_b b5 s (size := k + 10) (tugs := t) (sk := sk) (by omega) t1 t11 s1
    have n0 : (qbb (cM τ) b (k + 10) t sk).1 ≠ 0 := by rw [bb.2]; exact z
    have e11 := (a2.2 n0).2.2.2.1
    have wb2 := (bb.1 n0).2.2.2.1
    have eW : W (k + 10) = (qbb (cM τ) b (k + 10) t sk).2.2.2.1 := by rw [← hW]
    rw [← eW] at e11 wb2
    have cb := cmv_b W x k (by omega)
    have ec : cmv W x (k + 1) = if (W (k + 10) : Int) = x then ((cmv W x k).1 + 1, (if (cmv W x k).2.1 = -1 then ((k + 10 : Nat) : Int) else (cmv W x k).2.1), ((k + 10 : Nat) : Int)) else cmv W x k := rfl
    have e1 : yI (cmv W x k).1 + 1 = yI ((cmv W x k).1 + 1) := by rw [yI_1, yI_add]
    dsimp only
    unfold fX9_came_b88 fX9_came_b141 fX9_came_b147
    rw [if_neg (gtn (v := 999) (b := 999) rfl (by omega) (by omega) (by omega)), if_pos (inb_n (by omega) b5), yI_cln (by omega), b1 a1, e11, add1, e1]
    by_cases q : (W (k + 10) : Int) = x
    · rw [if_pos q] at ec
      rw [if_pos (by rw [q])]
      by_cases q2 : (cmv W x k).2.1 = -1
      · rw [if_pos q2] at ec
        rw [if_pos (eqp (v := -1) (b := -1) rfl q2)]
        exact ⟨_, rfl, by rw [ec], by rw [ec], by rw [ec], rfl, kT_t h5 a4⟩
      · rw [if_neg q2] at ec
        rw [if_neg (yI_nl (v := -1) (b := -1) rfl (by omega) (by omega) q2)]
        exact ⟨_, rfl, by rw [ec], by rw [ec], by rw [ec], rfl, kT_t h5 a4⟩
    · rw [if_neg q] at ec
      rw [if_neg (fun y => q (yI_inj (by omega) (by omega) (by omega) (by omega) y))]
      exact ⟨_, rfl, by rw [ec], by rw [ec], by rw [ec], rfl, kT_t h5 a4⟩
  · rintro ⟨y1, y2, y3, y4, u⟩ ⟨h1, h2, h3, h4, h5⟩
    dsimp only at h1 h2 h3 h4 h5
    subst h1 h2 h3 h4
    refine ⟨(yI (cmv W x 990).1, yI (cmv W x 990).2.1, yI (cmv W x 990).2.2, u), ?_, rfl, rfl, rfl, h5⟩
    dsimp only
    unfold fX9_came_b88
    rw [if_pos (gtp (v := 999) (b := 999) rfl (by omega) (by omega) (by omega))]
theorem f10_cameloop {σ τ : Sg} {b t sk : Nat} {x : Int} (b5 : b < 5) (s : BS σ τ b) (t1 : 1 ≤ t) (t11 : t ≤ 11) (s1 : sk ≤ 1) (x0 : 0 ≤ x) (x9 : x ≤ 999) (z : qcn (cM τ) (qsq (cM τ) b) ≠ 0) (x5 : Int32) : ∃ u, lp (fun s : Int32 × Int32 × Int32 × Int32 × Sg => fX10_came_b90 (yI (b : Int)) (yI (t : Int)) (yI (sk : Int)) (yI x) x5 s.1 s.2.1 s.2.2.1 s.2.2.2.1 s.2.2.2.2) FU ((0 : Int32), (-1 : Int32), (-1 : Int32), (10 : Int32), τ) = some u ∧ (u.1 = yI (cmv (fun v => (qbb (cM τ) b v t sk).2.2.2.1) x 990).1 ∧ u.2.1 = yI (cmv (fun v => (qbb (cM τ) b v t sk).2.2.2.1) x 990).2.1 ∧ u.2.2.1 = yI (cmv (fun v => (qbb (cM τ) b v t sk).2.2.2.1) x 990).2.2 ∧ mT τ u.2.2.2) := by
  generalize hW : (fun v => (qbb (cM τ) b v t sk).2.2.2.1) = W
  refine lp_all (fun k s => s.1 = yI (cmv W x k).1 ∧ s.2.1 = yI (cmv W x k).2.1 ∧ s.2.2.1 = yI (cmv W x k).2.2 ∧ s.2.2.2.1 = yI ((k + 10 : Nat) : Int) ∧ mT τ s.2.2.2.2) 990 _ ?_ ?_ ⟨rfl, rfl, rfl, rfl, mT_r τ⟩ (FU_b (by omega))
  · rintro k ⟨y1, y2, y3, y4, u⟩ hk ⟨h1, h2, h3, h4, h5⟩
    dsimp only at h1 h2 h3 h4 h5
    subst h1 h2 h3 h4
    have su := BS_m s h5
    unfold BS at su
    rw [mT_core h5] at su
    obtain ⟨v, gm, gc, -, wb, -, h6, -⟩ := su
    obtain ⟨u', a1, a2, a3, a4, -⟩ := f10_lay_t v gm gc b5 wb h6 (size := k + 10) (by omega) t1 t11 s1
    have bb := qbb_b b5 s (size := k + 10) (tugs := t) (sk := sk) (by omega) t1 t11 s1
    have n0 : (qbb (cM τ) b (k + 10) t sk).1 ≠ 0 := by rw [bb.2]; exact z
    have e11 := (a2.2 n0).2.2.1
    have wb2 := (bb.1 n0).2.2.2.1
    have eW : W (k + 10) = (qbb (cM τ) b (k + 10) t sk).2.2.2.1 := by rw [← hW]
    rw [← eW] at e11 wb2
    have cb := cmv_b W x k (by omega)
    have ec : cmv W x (k + 1) = if (W (k + 10) : Int) = x then ((cmv W x k).1 + 1, (if (cmv W x k).2.1 = -1 then ((k + 10 : Nat) : Int) else (cmv W x k).2.1), ((k + 10 : Nat) : Int)) else cmv W x k := rfl
    have e1 : yI (cmv W x k).1 + 1 = yI ((cmv W x k).1 + 1) := by rw [yI_1, yI_add]
    dsimp only
    unfold fX10_came_b90 fX10_came_b132 fX10_came_b138
    rw [if_neg (gen (v := 1000) (b := 1000) rfl (by omega) (by omega) (by omega)), b1 a1, e11, add1, e1]
    by_cases q : (W (k + 10) : Int) = x
    · rw [if_pos q] at ec
      rw [if_pos (by rw [q])]
      by_cases q2 : (cmv W x k).2.1 = -1
      · rw [if_pos q2] at ec
        rw [if_pos (eqp (v := -1) (b := -1) rfl q2)]
        exact ⟨_, rfl, by rw [ec], by rw [ec], by rw [ec], rfl, mT_t h5 a4⟩
      · rw [if_neg q2] at ec
        rw [if_neg (yI_nl (v := -1) (b := -1) rfl (by omega) (by omega) q2)]
        exact ⟨_, rfl, by rw [ec], by rw [ec], by rw [ec], rfl, mT_t h5 a4⟩
    · rw [if_neg q] at ec
      rw [if_neg (fun y => q (yI_inj (by omega) (by omega) (by omega) (by omega) y))]
      exact ⟨_, rfl, by rw [ec], by rw [ec], by rw [ec], rfl, mT_t h5 a4⟩
  · rintro ⟨y1, y2, y3, y4, u⟩ ⟨h1, h2, h3, h4, h5⟩
    dsimp only at h1 h2 h3 h4 h5
    subst h1 h2 h3 h4
    refine ⟨(yI (cmv W x 990).1, yI (cmv W x 990).2.1, yI (cmv W x 990).2.2, u), ?_, rfl, rfl, rfl, h5⟩
    dsimp only
    unfold fX10_came_b90
    rw [if_pos (gep (v := 1000) (b := 1000) rfl (by omega) (by omega) (by omega))]
theorem s_came (a0 a1 a2 a3 a4 : Int32) (hB : isB a2 = true) : SimI Inv (fX9_came a0 a1 a2 a3 a4) (fX10_came a0 a1 a2 a3 a4) := fun n σ τ _ h => by
  obtain ⟨b, h1, h2, rfl⟩ := yI_ex a0
  obtain ⟨t, h3, h4, rfl⟩ := yI_ex a1
  obtain ⟨sk, hs, rfl⟩ := bool_n hB
  obtain ⟨x, h7, h8, rfl⟩ := yI_ex a3
  obtain ⟨w, h5, h6, rfl⟩ := yI_ex a4
  have hv := h.2.2.1
  have hd := h.2.2.2.2.2.1
  have g1 := f9_isBerg (σ := σ) h1 h2 hv.e.1 hv.2.1 hv.2.2.1
  have g2 := f10_isBerg (τ := τ) h1 h2 hv.e.2 hv.2.1 hv.2.2.1
  have g3 := f9_isTugs (σ := σ) h3 h4
  have g4 := f10_areTugs (σ := τ) h3 h4
  have g6 := in_zz h7 h8 (show (0 : Int64).toInt = 0 from rfl) (show (999 : Int64).toInt = 999 from rfl) τ
  have g5 := in_zz h5 h6 (show (0 : Int64).toInt = 0 from rfl) (show (2 : Int64).toInt = 2 from rfl) τ
  unfold fX9_came fX9_came_b0 fX10_came fX10_came_b0
  by_cases qb : 0 ≤ b ∧ b < cM τ 0 15
  · rw [bt g1 qb, bt g2 qb]
    dsimp only
    by_cases qt : 1 ≤ t ∧ t ≤ 11
    · rw [bt g3 qt, bt g4 qt]
      dsimp only
      by_cases qx : 0 ≤ x ∧ x ≤ 999
      · rw [if_neg (ltn (v := 0) (b := 0) rfl h7 h8 (by omega)), if_neg (gtn (v := 999) (b := 999) rfl h7 h8 (by omega)), bt g6 qx]
        dsimp only
        by_cases qw : 0 ≤ w ∧ w ≤ 2
        · rw [if_neg (ltn (v := 0) (b := 0) rfl h5 h6 (by omega)), if_pos (lep (v := 2) (b := 2) rfl h5 h6 (by omega)), bt g5 qw]
          dsimp only
          obtain ⟨b, rfl⟩ := Int.eq_ofNat_of_zero_le qb.1
          obtain ⟨t, rfl⟩ := Int.eq_ofNat_of_zero_le (show 0 ≤ t by omega)
          obtain ⟨b5, s⟩ := Inv_b h qb.2
          have hh := f9_hasWay b5 s
          have w7 := (VB1_q s.1 s.2.2.2.2.1).2.2.2.2.2.2.2.1
          have cb := qcn_b s.1 w7
          obtain ⟨τ1, r1, r2⟩ := f10_waysOf b5 s
          rw [b1 r1]
          dsimp only
          by_cases z : qcn (cM τ) (qsq (cM τ) b) = 0
          · rw [bf hh (fun y => y z), if_pos (eqp (v := 0) (b := 0) rfl (by omega))]
            exact ⟨-103, σ, τ1, rfl, rfl, Inv_n n _ _ (Inv_kT h (kT_r σ) r2)⟩
          · have e40 : rI τ1 0 40 = yI (cM τ 0 40) := by rw [r2 0 40 (by omega) (by omega) (by omega) (by omega), cM_r (o := 0) (k := 40) rfl]
            have e11 : rI σ 0 11 = yI (cM τ 0 40) := by rw [cC_r (o := 0) (k := 11) rfl, hd.1]
            have d0 := hd.2.1
            have d20 := hd.2.2
            rw [bt hh z, if_neg (yI_nl (v := 0) (b := 0) rfl (by omega) (by omega) (by omega)), e40]
            dsimp only
            rw [e11]
            by_cases qd : cM τ 0 40 = 20
            · rw [if_neg (ltn (v := 20) (b := 20) rfl (by omega) (by omega) (by omega)), if_pos (eqp (v := 20) (b := 20) rfl qd)]
              exact ⟨-103, σ, τ1, rfl, rfl, Inv_n n _ _ (Inv_kT h (kT_r σ) r2)⟩
            · rw [if_pos (ltp (v := 20) (b := 20) rfl (by omega) (by omega) (by omega)), if_neg (yI_nl (v := 20) (b := 20) rfl (by omega) (by omega) qd), show yI (cM τ 0 40) + 1 = yI (cM τ 0 40 + 1) from by rw [yI_1, yI_add]]
              have hI : Inv n (wI σ 0 11 (yI (cM τ 0 40 + 1))) (wI τ1 0 40 (yI (cM τ 0 40 + 1))) := by
                have x1 : cM (wI τ1 0 40 (yI (cM τ 0 40 + 1))) 0 40 = cM τ 0 40 + 1 := core_y rfl rI_s (by omega) (by omega)
                have x2 : cC (wI σ 0 11 (yI (cM τ 0 40 + 1))) 0 11 = cM τ 0 40 + 1 := core_y rfl rI_s (by omega) (by omega)
                refine IV_came h (fun o j hn => core_e (by rw [rI_wI, if_neg hn])) (fun o j hn => ?_) (by rw [x1, x2]) (by rw [x1]; omega) (by rw [x1]; omega)
                rw [← mT_core r2]
                exact core_e (by rw [rI_wI, if_neg hn])
              have m15 : cM (wI τ1 0 40 (yI (cM τ 0 40 + 1))) 0 15 = cM τ 0 15 := by
                rw [← mT_core r2]
                exact core_e (by rw [rI_k (by omega)])
              obtain ⟨-, s'⟩ := Inv_b hI (b := b) (by rw [m15]; exact qb.2)
              have z' : qcn (cM (wI τ1 0 40 (yI (cM τ 0 40 + 1)))) (qsq (cM (wI τ1 0 40 (yI (cM τ 0 40 + 1)))) b) ≠ 0 := by
                have hm : ∀ o j, ¬ (o = 0 ∧ j = 40) → cM (wI τ1 0 40 (yI (cM τ 0 40 + 1))) o j = cM τ o j := fun o j hn => by
                  rw [← mT_core r2]
                  exact core_e (by rw [rI_wI, if_neg hn])
                have se : SE (cM τ) (cM (wI τ1 0 40 (yI (cM τ 0 40 + 1)))) := ⟨hm 0 9 (by omega), hm 0 10 (by omega), hm 0 11 (by omega), funext fun j => hm 4 j (by omega), funext fun j => hm 5 j (by omega)⟩
                have eq : qsq (cM (wI τ1 0 40 (yI (cM τ 0 40 + 1)))) b = qsq (cM τ) b := by
                  unfold qsq; rw [hm 6 (5 * b + 1) (by omega)]
                rw [se.cn, eq]; exact z
              obtain ⟨u, u1, u2, u3, u4, u5⟩ := f9_cameloop b5 s' (t := t) (sk := sk) (x := x) (by omega) (by omega) hs qx.1 qx.2 z' (yI w)
              obtain ⟨y, y1, y2, y3, y4, y5⟩ := f10_cameloop b5 s' (t := t) (sk := sk) (x := x) (by omega) (by omega) hs qx.1 qx.2 z' (yI w)
              rw [b1 u1, b1 y1, u2, u3, u4, y2, y3, y4]
              have IN := Inv_n n _ _ (Inv_kT hI u5 y5)
              by_cases q0 : w = 0
              · rw [if_pos (eqp (v := 0) (b := 0) rfl q0), if_pos (eqp (v := 0) (b := 0) rfl q0)]
                exact ⟨_, _, _, rfl, rfl, IN⟩
              · rw [if_neg (yI_nl (v := 0) (b := 0) rfl h5 h6 q0), if_neg (yI_nl (v := 0) (b := 0) rfl h5 h6 q0)]
                by_cases q1 : w = 1
                · rw [if_pos (eqp (v := 1) (b := 1) rfl q1), if_pos (eqp (v := 1) (b := 1) rfl q1)]
                  exact ⟨_, _, _, rfl, rfl, IN⟩
                · rw [if_neg (yI_nl (v := 1) (b := 1) rfl h5 h6 q1), if_neg (yI_nl (v := 1) (b := 1) rfl h5 h6 q1)]
                  exact ⟨_, _, _, rfl, rfl, IN⟩
        · refine ⟨-102, σ, τ, ?_, ?_, Inv_n n σ τ h⟩
          · by_cases y : w < 0
            · rw [if_pos (ltp (v := 0) (b := 0) rfl h5 h6 y)]
            · rw [if_neg (ltn (v := 0) (b := 0) rfl h5 h6 (by omega)), if_neg (len (v := 2) (b := 2) rfl h5 h6 (by omega))]
          · rw [bf g5 qw]
      · refine ⟨-102, σ, τ, ?_, ?_, Inv_n n σ τ h⟩
        · by_cases y : x < 0
          · rw [if_pos (ltp (v := 0) (b := 0) rfl h7 h8 y)]
          · rw [if_neg (ltn (v := 0) (b := 0) rfl h7 h8 (by omega)), if_pos (gtp (v := 999) (b := 999) rfl h7 h8 (by omega))]
        · rw [bf g6 qx]
    · rw [bf g3 qt, bf g4 qt]
      exact ⟨-102, σ, τ, rfl, rfl, Inv_n n σ τ h⟩
  · rw [bf g1 qb, bf g2 qb]
    exact ⟨-101, σ, τ, rfl, rfl, Inv_n n σ τ h⟩
