/-! ===== the class lays the letters of a sea ===== -/
def LYS (σ : Sg) (s : SS) (w f : Nat → Int) : Prop := rI σ 4 5 = yI (atS s : Int) ∧ rI σ 4 6 = yI (s.2.1 : Int) ∧ (s.2.2.2.1 ≠ -1 → rI σ 4 7 = yI s.2.2.2.1) ∧ ∀ i, i < atS s → rI σ 5 i = yI (w i) ∧ rI σ 6 i = yI (f i)
def lFr (σ σ' : Sg) : Prop := ∀ o j, o ≠ 4 → o ≠ 5 → o ≠ 6 → rI σ' o j = rI σ o j
theorem f7_layLetter {σ : Sg} {s s' : SS} {c : Int} {w f : Nat → Int} (ok : okS s) (e : stp c s = some s') (c1 : 1 ≤ c) (c2 : c ≤ 126) (h : LYS σ s w f) : ∃ σ', fX7_layLetter (yI c) σ = some σ' ∧ LYS σ' s' (lw c s w) (lf c s f) ∧ lFr σ σ' := by
  obtain ⟨R, W, M, H, F⟩ := s
  obtain ⟨h1, h2, h3, h4, h5, h6, h7⟩ := ok
  obtain ⟨p1, p2, p3, p4⟩ := h
  have p1 : rI σ 4 5 = yI ((W * R + M : Nat) : Int) := p1
  have p4 : ∀ i, i < W * R + M → rI σ 5 i = yI (w i) ∧ rI σ 6 i = yI (f i) := p4
  dsimp only at h1 h2 h3 h4 h5 h6 h7 p2 p3
  have W6 : W ≤ 6 := by
    by_cases z : R = 0
    · rw [h2 z]; omega
    · exact (h3 (by omega)).2.1
  have M30 : W * R + M ≤ 30 := by
    by_cases z : R = 0
    · rw [z, Nat.mul_zero]; omega
    · have e : W * R ≤ 6 * 4 := Nat.mul_le_mul W6 h1
      omega
  have wb : -1 ≤ wayZ c ∧ wayZ c ≤ 3 := by
    have := wayZ_i c
    omega
  unfold fX7_layLetter fX7_layLetter_b0
  rw [b1 (f7_wayOf (by omega) (by omega))]
  dsimp only
  unfold stp at e
  dsimp only at e
  by_cases wz : wayZ c ≠ -1
  · rw [if_pos wz] at e
    by_cases f1 : F = 1
    · rw [if_pos f1] at e; cases e
      have n47 : c ≠ 47 := by
        have := wayZ_i c
        omega
      rw [if_neg (yI_nl (v := 47) (b := 47) rfl (by omega) (by omega) n47), if_neg (yI_nl (v := -1) (b := -1) rfl (by omega) (by omega) wz), p1, if_neg (len (v := 0) (b := 0) rfl (by omega) (by omega) (by omega))]
      have e1 : yI ((W * R + M : Nat) : Int) - 1 = yI ((W * R + M - 1 : Nat) : Int) := by
        rw [yI_1, yI_sub]; congr 1; omega
      rw [e1, if_pos (inb_n (by omega) (by omega)), yI_cln (by omega)]
      refine ⟨_, rfl, ⟨?_, ?_, fun q => ?_, fun i hi => ?_⟩, fun o j a b d => by rw [rI_o d]⟩
      · rw [rI_o (by omega), p1]; rfl
      · rw [rI_o (by omega)]; exact p2
      · rw [rI_o (by omega)]; exact p3 q
      · have hi2 : i < W * R + M := hi
        have e3 : lw c (R, W, M, H, F) w i = w i := by unfold lw; rw [if_pos (Or.inl wz)]
        have e4 : lf c (R, W, M, H, F) f i = if i = W * R + M - 1 then wayZ c else f i := by unfold lf; rw [if_pos wz]; rfl
        rw [e3, e4, rI_o (by omega)]
        refine ⟨(p4 i hi2).1, ?_⟩
        by_cases g : i = W * R + M - 1
        · rw [if_pos g, g, rI_s]
        · rw [if_neg g, rI_k g]; exact (p4 i hi2).2
    · rw [if_neg f1] at e; cases e
  · rw [if_neg wz] at e
    by_cases q : c = 47
    · rw [if_pos q] at e
      by_cases z : 2 ≤ M ∧ (R = 0 ∨ M = W) ∧ R < 4
      · rw [if_pos z] at e; cases e
        have e1 : lw c (R, W, M, H, F) w = w := by unfold lw; rw [if_pos (Or.inr q)]
        have e2 : lf c (R, W, M, H, F) f = f := by unfold lf; rw [if_neg wz, if_pos q]
        have ea : M * (R + 1) + 0 = W * R + M := by
          rcases z.2.1 with zz | zz
          · rw [zz]; omega
          · rw [← zz, Nat.mul_add]; omega
        rw [e1, e2, if_pos (eqp (v := 47) (b := 47) rfl q)]
        have A : ∀ v : Int32, v = yI (M : Int) → ∃ σ', fX7_layLetter_b30 v σ = some σ' ∧ LYS σ' (R + 1, M, 0, H, 0) w f ∧ lFr σ σ' := fun v hv => by
          unfold fX7_layLetter_b30
          refine ⟨_, rfl, ⟨?_, ?_, fun q => ?_, fun i hi => ?_⟩, fun o j a b d => by rw [rI_o a]⟩
          · show rI (wI σ 4 6 v) 4 5 = yI ((M * (R + 1) + 0 : Nat) : Int)
            rw [rI_k (by omega), p1, ea]
          · rw [rI_s, hv]
          · rw [rI_k (by omega)]; exact p3 q
          · have hi2 : i < M * (R + 1) + 0 := hi
            rw [rI_o (by omega), rI_o (by omega)]
            exact p4 i (by omega)
        rw [p2]
        by_cases z0 : R = 0
        · rw [if_pos (eqp (v := 0) (b := 0) rfl (by have := h2 z0; omega))]
          exact A _ (by rw [p1, z0, Nat.mul_zero, Nat.zero_add])
        · have := h3 (by omega)
          rw [if_neg (yI_nl (v := 0) (b := 0) rfl (by omega) (by omega) (by omega))]
          exact A _ (by rw [show W = M by omega])
      · rw [if_neg z] at e; cases e
    · rw [if_neg q] at e
      by_cases z : M < (if R = 0 then 6 else W) ∧ ((48 ≤ c ∧ c ≤ 57) ∨ c = 35 ∨ (c = 104 ∧ H = -1))
      · rw [if_pos z] at e; cases e
        have hat := at_b h1 h2 (fun x => (h3 x).2.1) z.1
        rw [if_neg (yI_nl (v := 47) (b := 47) rfl (by omega) (by omega) q), if_pos (eqp (v := -1) (b := -1) rfl (by omega)), p1, if_neg (gen (v := 30) (b := 30) rfl (by omega) (by omega) (by omega))]
        have A : ∀ v : Int32, v = yI (vz c) → ∃ σ', fX7_layLetter_b106 (yI c) v (yI ((W * R + M : Nat) : Int)) σ = some σ' ∧ LYS σ' (R, W, M + 1, (if c = 104 then ((W * R + M : Nat) : Int) else H), (if 48 ≤ c ∧ c ≤ 57 then 1 else 0)) (lw c (R, W, M, H, F) w) (lf c (R, W, M, H, F) f) ∧ lFr σ σ' := fun v hv => by
          have B : ∀ y : Int32, ((if c = 104 then ((W * R + M : Nat) : Int) else H) ≠ -1 → y = yI (if c = 104 then ((W * R + M : Nat) : Int) else H)) → ∃ σ', fX7_layLetter_b135 y (wI (wI σ 5 (W * R + M) v) 6 (W * R + M) (-1)) = some σ' ∧ LYS σ' (R, W, M + 1, (if c = 104 then ((W * R + M : Nat) : Int) else H), (if 48 ≤ c ∧ c ≤ 57 then 1 else 0)) (lw c (R, W, M, H, F) w) (lf c (R, W, M, H, F) f) ∧ lFr σ σ' := fun y hy => by
            unfold fX7_layLetter_b135
            refine ⟨_, rfl, ⟨?_, ?_, fun q => ?_, fun i hi => ?_⟩, fun o j a b d => by rw [rI_o a, rI_o a, rI_o d, rI_o b]⟩
            · rw [rI_s, rI_k (by omega), rI_o (by omega), rI_o (by omega), p1, add1]; rfl
            · rw [rI_k (by omega), rI_k (by omega), rI_o (by omega), rI_o (by omega)]; exact p2
            · rw [rI_k (by omega), rI_s]; exact hy q
            · have hi2 : i < W * R + (M + 1) := hi
              have e3 : lw c (R, W, M, H, F) w i = if i = W * R + M then vz c else w i := by
                unfold lw; rw [if_neg (by omega)]; rfl
              have e4 : lf c (R, W, M, H, F) f i = if i = W * R + M then -1 else f i := by
                unfold lf; rw [if_neg wz, if_neg q]; rfl
              rw [e3, e4]
              simp (disch := omega) only [rI_o]
              by_cases g : i = W * R + M
              · rw [if_pos g, if_pos g, g, rI_s, rI_s, hv]; exact ⟨rfl, rfl⟩
              · rw [if_neg g, if_neg g, rI_k g, rI_k g, rI_o (by omega)]
                exact p4 i (by omega)
          unfold fX7_layLetter_b106
          rw [if_pos (inb_n (by omega) (by omega)), yI_cln (by omega), rI_o (by omega), p1, if_pos (inb_n (by omega) (by omega)), yI_cln (by omega)]
          by_cases g : c = 104
          · rw [if_pos (eqp (v := 104) (b := 104) rfl g)]
            refine B _ (fun _ => ?_)
            rw [rI_o (by omega), rI_o (by omega), p1, if_pos g]
          · rw [if_neg (yI_nl (v := 104) (b := 104) rfl (by omega) (by omega) g)]
            refine B _ (fun k => ?_)
            rw [if_neg g] at k ⊢
            rw [rI_o (by omega), rI_o (by omega)]; exact p3 k
        by_cases g2 : c = 35
        · rw [if_pos (eqp (v := 35) (b := 35) rfl g2)]
          exact A 11 (by unfold vz; rw [if_neg (by omega), if_pos g2]; rfl)
        · rw [if_neg (yI_nl (v := 35) (b := 35) rfl (by omega) (by omega) g2)]
          by_cases g : c = 104
          · rw [if_pos (eqp (v := 104) (b := 104) rfl g)]
            exact A 10 (by unfold vz; rw [if_pos g]; rfl)
          · rw [if_neg (yI_nl (v := 104) (b := 104) rfl (by omega) (by omega) g)]
            exact A _ (by unfold vz; rw [if_neg g, if_neg g2, show (48 : Int32) = yI 48 from rfl, yI_sub])
      · rw [if_neg z] at e; cases e
