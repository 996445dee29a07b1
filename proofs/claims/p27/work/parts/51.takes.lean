/-! ===== the class takes a letter ===== -/
theorem pFr_r (σ : Sg) : pFr σ σ := fun _ _ _ => rfl
theorem f6_rowEnd {σ : Sg} {R W M F : Nat} {H : Int} (ok : okS (R, W, M, H, F)) (ps : PS σ (R, W, M, H, F)) : ∃ r σ', fX6_takesRowEnd σ = some (r, σ') ∧ isB r = true ∧ pFr σ σ' ∧ ((2 ≤ M ∧ (R = 0 ∨ M = W) ∧ R < 4) → r = 1 ∧ PS σ' (R + 1, M, 0, H, 0)) ∧ (¬ (2 ≤ M ∧ (R = 0 ∨ M = W) ∧ R < 4) → r = 0) := by
  obtain ⟨h1, h2, h3, h4, h5, h6, h7⟩ := ok
  dsimp only at h1 h2 h3 h4 h5 h6 h7
  obtain ⟨p1, p2, p3, p4, p5⟩ := ps
  dsimp only at p1 p2 p3 p4 p5
  have A : ∀ y : Int32, y = 0 ∨ y = 1 → ∃ r σ', fX6_takesRowEnd_b39 y σ = some (r, σ') ∧ isB r = true ∧ pFr σ σ' ∧ ((y = 1 ∧ R < 4) → r = 1 ∧ PS σ' (R + 1, M, 0, H, 0)) ∧ (¬ (y = 1 ∧ R < 4) → r = 0) := fun y hy => by
    unfold fX6_takesRowEnd_b39
    rcases hy with rfl | rfl
    · rw [if_pos rfl]
      exact ⟨_, _, rfl, rfl, pFr_r σ, fun q => absurd q.1 (by decide), fun _ => rfl⟩
    · rw [if_neg (show ¬ (1 : Int32) = 0 by decide), p1, add1]
      by_cases q : R < 4
      · rw [if_pos (ltp (v := 5) (b := 5) rfl (by omega) (by omega) (by omega))]
        refine ⟨_, _, rfl, rfl, pFr_w (pFr_w (pFr_w (pFr_w (pFr_r σ) (by omega)) (by omega)) (by omega)) (by omega), fun _ => ⟨rfl, ?_, ?_, ?_, ?_, ?_⟩, fun c => absurd ⟨rfl, q⟩ c⟩
        · dsimp only
          rw [rI_k (by omega), rI_k (by omega), rI_s, rI_k (by omega), p1, add1]
        · dsimp only
          rw [rI_k (by omega), rI_s]; rfl
        · dsimp only
          rw [rI_k (by omega), rI_k (by omega), rI_k (by omega), rI_s, p2]
        · dsimp only
          rw [rI_k (by omega), rI_k (by omega), rI_k (by omega), rI_k (by omega), p4]
        · dsimp only
          rw [rI_s]; rfl
      · rw [if_neg (ltn (v := 5) (b := 5) rfl (by omega) (by omega) (by omega))]
        exact ⟨_, _, rfl, rfl, pFr_r σ, fun c => absurd c.2 q, fun _ => rfl⟩
  have B : ∃ y : Int32, (y = 0 ∨ y = 1) ∧ fX6_takesRowEnd σ = fX6_takesRowEnd_b39 y σ ∧ (y = 1 ↔ 2 ≤ M ∧ (R = 0 ∨ M = W)) := by
    unfold fX6_takesRowEnd fX6_takesRowEnd_b0
    rw [p1, p2, p3]
    by_cases q : R = 0
    · rw [if_pos (eqp (v := 0) (b := 0) rfl (by omega))]
      by_cases q2 : M < 2
      · rw [if_pos (ltp (v := 2) (b := 2) rfl (by omega) (by omega) (by omega))]
        exact ⟨0, Or.inl rfl, rfl, fun c => absurd c (by decide), fun c => by omega⟩
      · rw [if_neg (ltn (v := 2) (b := 2) rfl (by omega) (by omega) (by omega))]
        exact ⟨1, Or.inr rfl, rfl, fun _ => by omega, fun _ => rfl⟩
    · have := h3 (by omega)
      rw [if_neg (yI_nl (v := 0) (b := 0) rfl (by omega) (by omega) (by omega))]
      by_cases q2 : M = W
      · rw [if_pos (by rw [q2])]
        exact ⟨1, Or.inr rfl, rfl, fun _ => by omega, fun _ => rfl⟩
      · rw [if_neg (fun c => q2 (by have := yI_inj (by omega) (by omega) (by omega) (by omega) c; omega))]
        exact ⟨0, Or.inl rfl, rfl, fun c => absurd c (by decide), fun c => by omega⟩
  obtain ⟨y, y1, y2, y3⟩ := B
  obtain ⟨r, σ', r1, r2, r3, r4, r5⟩ := A y y1
  refine ⟨r, σ', y2.trans r1, r2, r3, fun q => r4 ⟨y3.mpr ⟨q.1, q.2.1⟩, q.2.2⟩, fun q => r5 (fun c => q ?_)⟩
  have := y3.mp c.1
  exact ⟨this.1, this.2, c.2⟩
theorem f6_square {σ : Sg} {R W M F : Nat} {H c : Int} (ok : okS (R, W, M, H, F)) (ps : PS σ (R, W, M, H, F)) (c1 : 1 ≤ c) (c2 : c ≤ 126) : ∃ r σ', fX6_takesSquare (yI c) σ = some (r, σ') ∧ isB r = true ∧ pFr σ σ' ∧ ((M < (if R = 0 then 6 else W) ∧ ((48 ≤ c ∧ c ≤ 57) ∨ c = 35 ∨ (c = 104 ∧ H = -1))) → r = 1 ∧ PS σ' (R, W, M + 1, (if c = 104 then ((W * R + M : Nat) : Int) else H), (if 48 ≤ c ∧ c ≤ 57 then 1 else 0))) ∧ (¬ (M < (if R = 0 then 6 else W) ∧ ((48 ≤ c ∧ c ≤ 57) ∨ c = 35 ∨ (c = 104 ∧ H = -1))) → r = 0) := by
  obtain ⟨h1, h2, h3, h4, h5, h6, h7⟩ := ok
  dsimp only at h1 h2 h3 h4 h5 h6 h7
  obtain ⟨p1, p2, p3, p4, p5⟩ := ps
  dsimp only at p1 p2 p3 p4 p5
  have W6 : W ≤ 6 := by
    by_cases z : R = 0
    · rw [h2 z]; omega
    · exact (h3 (by omega)).2.1
  -- the row has room
  have A53 : ∀ x3 : Int32, ((48 ≤ c ∧ c ≤ 57) ∨ c = 35 ∨ c = 104) → (x3 = 0 ↔ ¬ (c = 104 ∧ H ≠ -1)) → ∃ r σ', fX6_takesSquare_b53 (yI c) (if 48 ≤ c ∧ c ≤ 57 then 1 else 0) x3 σ = some (r, σ') ∧ isB r = true ∧ pFr σ σ' ∧ ((M < (if R = 0 then 6 else W) ∧ ((48 ≤ c ∧ c ≤ 57) ∨ c = 35 ∨ (c = 104 ∧ H = -1))) → r = 1 ∧ PS σ' (R, W, M + 1, (if c = 104 then ((W * R + M : Nat) : Int) else H), (if 48 ≤ c ∧ c ≤ 57 then 1 else 0))) ∧ (¬ (M < (if R = 0 then 6 else W) ∧ ((48 ≤ c ∧ c ≤ 57) ∨ c = 35 ∨ (c = 104 ∧ H = -1))) → r = 0) := fun x3 hc hx => by
    unfold fX6_takesSquare_b53
    by_cases q : x3 = 0
    · have nq := hx.mp q
      rw [if_pos q]
      have A79 : ∀ m : Nat, m ≤ 6 → ∃ r σ', fX6_takesSquare_b79 (yI c) (if 48 ≤ c ∧ c ≤ 57 then 1 else 0) (yI (m : Int)) (yI (M : Int)) σ = some (r, σ') ∧ isB r = true ∧ pFr σ σ' ∧ (M < m → r = 1 ∧ PS σ' (R, W, M + 1, (if c = 104 then ((W * R + M : Nat) : Int) else H), (if 48 ≤ c ∧ c ≤ 57 then 1 else 0))) ∧ (¬ M < m → r = 0) := fun m hm => by
        unfold fX6_takesSquare_b79
        by_cases l : M < m
        · rw [if_pos ((yI_lt (by omega) (by omega) (by omega) (by omega)).mpr (by omega))]
          have A100 : ∀ y : Int32, fX6_takesSquare_b100 (if 48 ≤ c ∧ c ≤ 57 then 1 else 0) y (rI σ 1 5) σ = some (1, wI (wI (wI σ 1 5 (rI σ 1 5 + y)) 1 3 (yI ((M + 1 : Nat) : Int))) 1 6 (if 48 ≤ c ∧ c ≤ 57 then 1 else 0)) := fun y => by
            unfold fX6_takesSquare_b100
            rw [if_pos isB_ite, rI_k (by omega), p2, add1]
          have B : ∀ y : Int32, (rI σ 1 5 + y = yI (if (if c = 104 then ((W * R + M : Nat) : Int) else H) = -1 then 0 else 1)) → PS (wI (wI (wI σ 1 5 (rI σ 1 5 + y)) 1 3 (yI ((M + 1 : Nat) : Int))) 1 6 (if 48 ≤ c ∧ c ≤ 57 then 1 else 0)) (R, W, M + 1, (if c = 104 then ((W * R + M : Nat) : Int) else H), (if 48 ≤ c ∧ c ≤ 57 then 1 else 0)) := fun y hy => by
            refine ⟨?_, ?_, ?_, ?_, ?_⟩
            · dsimp only
              rw [rI_k (by omega), rI_k (by omega), rI_k (by omega), p1]
            · dsimp only
              rw [rI_k (by omega), rI_s]
            · dsimp only
              rw [rI_k (by omega), rI_k (by omega), rI_k (by omega), p3]
            · dsimp only
              rw [rI_k (by omega), rI_k (by omega), rI_s, hy]
            · dsimp only
              rw [rI_s]
              by_cases z : 48 ≤ c ∧ c ≤ 57
              · rw [if_pos z, if_pos z]; rfl
              · rw [if_neg z, if_neg z]; rfl
          by_cases z : c = 104
          · rw [if_pos (eqp (v := 104) (b := 104) rfl z), A100]
            refine ⟨_, _, rfl, rfl, pFr_w (pFr_w (pFr_w (pFr_r σ) (by omega)) (by omega)) (by omega), fun _ => ⟨rfl, B _ ?_⟩, fun n => absurd l n⟩
            have hm1 : H = -1 := by omega
            rw [p4, if_pos hm1, if_pos z, if_neg (by omega)]; rfl
          · rw [if_neg (yI_nl (v := 104) (b := 104) rfl (by omega) (by omega) z), A100]
            refine ⟨_, _, rfl, rfl, pFr_w (pFr_w (pFr_w (pFr_r σ) (by omega)) (by omega)) (by omega), fun _ => ⟨rfl, B _ ?_⟩, fun n => absurd l n⟩
            rw [p4, if_neg z]
            by_cases hm1 : H = -1
            · rw [if_pos hm1]; rfl
            · rw [if_neg hm1]; rfl
        · rw [if_neg (fun q => by have := (yI_lt (by omega) (by omega) (by omega) (by omega)).mp q; omega)]
          exact ⟨_, _, rfl, rfl, pFr_r σ, fun n => absurd n l, fun _ => rfl⟩
      have hcc : (48 ≤ c ∧ c ≤ 57) ∨ c = 35 ∨ (c = 104 ∧ H = -1) := by omega
      rw [p1, p2, p3]
      by_cases z : R = 0
      · rw [if_pos (eqp (v := 0) (b := 0) rfl (by omega))]
        obtain ⟨r, σ', r1, r2, r3, r4, r5⟩ := A79 6 (by omega)
        refine ⟨r, σ', r1, r2, r3, fun q => r4 ?_, fun q => r5 (fun l => q ⟨?_, hcc⟩)⟩
        · have := q.1; rwa [if_pos z] at this
        · rw [if_pos z]; exact l
      · rw [if_neg (yI_nl (v := 0) (b := 0) rfl (by omega) (by omega) (by omega))]
        obtain ⟨r, σ', r1, r2, r3, r4, r5⟩ := A79 W W6
        refine ⟨r, σ', r1, r2, r3, fun q => r4 ?_, fun q => r5 (fun l => q ⟨?_, hcc⟩)⟩
        · have := q.1; rwa [if_neg z] at this
        · rw [if_neg z]; exact l
    · rw [if_neg q]
      have n1 : c = 104 ∧ H ≠ -1 := by
        by_cases z : c = 104 ∧ H ≠ -1
        · exact z
        · exact absurd (hx.mpr z) q
      exact ⟨_, _, rfl, rfl, pFr_r σ, fun n => by omega, fun _ => rfl⟩
  have A36 : ∀ x3 : Int32, (x3 = 0 ↔ ¬ (c = 104 ∧ H ≠ -1)) → ∃ r σ', fX6_takesSquare_b36 (yI c) (if 48 ≤ c ∧ c ≤ 57 then 1 else 0) x3 σ = some (r, σ') ∧ isB r = true ∧ pFr σ σ' ∧ ((M < (if R = 0 then 6 else W) ∧ ((48 ≤ c ∧ c ≤ 57) ∨ c = 35 ∨ (c = 104 ∧ H = -1))) → r = 1 ∧ PS σ' (R, W, M + 1, (if c = 104 then ((W * R + M : Nat) : Int) else H), (if 48 ≤ c ∧ c ≤ 57 then 1 else 0))) ∧ (¬ (M < (if R = 0 then 6 else W) ∧ ((48 ≤ c ∧ c ≤ 57) ∨ c = 35 ∨ (c = 104 ∧ H = -1))) → r = 0) := fun x3 hx => by
    unfold fX6_takesSquare_b36
    by_cases d : 48 ≤ c ∧ c ≤ 57
    · rw [if_neg (c := (if 48 ≤ c ∧ c ≤ 57 then (1 : Int32) else 0) = 0) (fun q => t0.mp q d)]
      exact A53 x3 (Or.inl d) hx
    · rw [if_pos (c := (if 48 ≤ c ∧ c ≤ 57 then (1 : Int32) else 0) = 0) (t0.mpr d)]
      by_cases e : c = 35
      · rw [if_pos (eqp (v := 35) (b := 35) rfl e)]
        exact A53 x3 (Or.inr (Or.inl e)) hx
      · rw [if_neg (yI_nl (v := 35) (b := 35) rfl (by omega) (by omega) e)]
        by_cases g : c = 104
        · rw [if_pos (eqp (v := 104) (b := 104) rfl g)]
          exact A53 x3 (Or.inr (Or.inr g)) hx
        · rw [if_neg (yI_nl (v := 104) (b := 104) rfl (by omega) (by omega) g)]
          exact ⟨_, _, rfl, rfl, pFr_r σ, fun n => by omega, fun _ => rfl⟩
  have A17 : fX6_takesSquare (yI c) σ = fX6_takesSquare_b17 (yI c) (if 48 ≤ c ∧ c ≤ 57 then 1 else 0) σ := by
    unfold fX6_takesSquare fX6_takesSquare_b0 fX6_takesSquare_b16
    by_cases d1 : c < 48
    · rw [if_pos (ltp (v := 48) (b := 48) rfl (by omega) (by omega) d1), if_neg (by omega)]
    · rw [if_neg (ltn (v := 48) (b := 48) rfl (by omega) (by omega) (by omega))]
      by_cases d2 : 57 < c
      · rw [if_pos (gtp (v := 57) (b := 57) rfl (by omega) (by omega) d2), if_neg (by omega)]
      · rw [if_neg (gtn (v := 57) (b := 57) rfl (by omega) (by omega) (by omega)), if_pos (by omega)]
  rw [A17]
  unfold fX6_takesSquare_b17 fX6_takesSquare_b35
  by_cases g : c = 104
  · rw [if_pos (eqp (v := 104) (b := 104) rfl g), p4]
    by_cases hm1 : H = -1
    · rw [if_pos hm1, if_pos (show yI 0 ≤ 0 by decide)]
      exact A36 0 ⟨fun _ q => q.2 hm1, fun _ => rfl⟩
    · rw [if_neg hm1, if_neg (show ¬ yI 1 ≤ 0 by decide)]
      exact A36 1 ⟨fun q => absurd q (by decide), fun q => absurd ⟨g, hm1⟩ q⟩
  · rw [if_neg (yI_nl (v := 104) (b := 104) rfl (by omega) (by omega) g)]
    exact A36 0 ⟨fun _ q => g q.1, fun _ => rfl⟩
theorem f6_takes {σ : Sg} {s : SS} {c : Int} (ok : okS s) (ps : PS σ s) (c1 : 1 ≤ c) (c2 : c ≤ 126) : ∃ r σ', fX6_takes (yI c) σ = some (r, σ') ∧ pFr σ σ' ∧ (∀ s', stp c s = some s' → r = 1 ∧ PS σ' s') ∧ (stp c s = none → r = 0) := by
  obtain ⟨R, W, M, H, F⟩ := s
  have hok := ok
  have hps := ps
  obtain ⟨h1, h2, h3, h4, h5, h6, h7⟩ := ok
  obtain ⟨p1, p2, p3, p4, p5⟩ := ps
  dsimp only at h1 h2 h3 h4 h5 h6 h7 p1 p2 p3 p4 p5
  unfold fX6_takes fX6_takes_b0
  by_cases q : c = 47
  · have wz : ¬ wayZ c ≠ -1 := by rw [q]; decide
    obtain ⟨r, σ', r1, r2, r3, r4, r5⟩ := f6_rowEnd hok hps
    rw [if_pos (eqp (v := 47) (b := 47) rfl q), b1 r1]
    dsimp only
    rw [if_pos r2]
    refine ⟨_, _, rfl, r3, fun s' e => ?_, fun e => ?_⟩
    · unfold stp at e
      rw [if_neg wz, if_pos q] at e
      dsimp only at e
      by_cases z : 2 ≤ M ∧ (R = 0 ∨ M = W) ∧ R < 4
      · rw [if_pos z] at e; cases e
        exact r4 z
      · rw [if_neg z] at e; cases e
    · unfold stp at e
      rw [if_neg wz, if_pos q] at e
      dsimp only at e
      by_cases z : 2 ≤ M ∧ (R = 0 ∨ M = W) ∧ R < 4
      · rw [if_pos z] at e; cases e
      · exact r5 z
  · rw [if_neg (yI_nl (v := 47) (b := 47) rfl (by omega) (by omega) q), b1 (f7_wayOf (by omega) (by omega))]
    dsimp only
    have wb : -1 ≤ wayZ c ∧ wayZ c ≤ 3 := by
      have := wayZ_i c
      omega
    by_cases w : wayZ c = -1
    · obtain ⟨r, σ', r1, r2, r3, r4, r5⟩ := f6_square hok hps c1 c2
      rw [if_pos (eqp (v := -1) (b := -1) rfl w), b1 r1]
      dsimp only
      rw [if_pos r2]
      refine ⟨_, _, rfl, r3, fun s' e => ?_, fun e => ?_⟩
      · unfold stp at e
        rw [if_neg (fun n => n w), if_neg q] at e
        dsimp only at e
        by_cases z : M < (if R = 0 then 6 else W) ∧ ((48 ≤ c ∧ c ≤ 57) ∨ c = 35 ∨ (c = 104 ∧ H = -1))
        · rw [if_pos z] at e; cases e
          exact r4 z
        · rw [if_neg z] at e; cases e
      · unfold stp at e
        rw [if_neg (fun n => n w), if_neg q] at e
        dsimp only at e
        by_cases z : M < (if R = 0 then 6 else W) ∧ ((48 ≤ c ∧ c ≤ 57) ∨ c = 35 ∨ (c = 104 ∧ H = -1))
        · rw [if_pos z] at e; cases e
        · exact r5 z
    · have hB : isB (rI σ 1 6) = true := by
        rw [p5]
        rcases (show F = 0 ∨ F = 1 by omega) with rfl | rfl
        · rfl
        · rfl
      rw [if_neg (yI_nl (v := -1) (b := -1) rfl (by omega) (by omega) w), if_pos hB]
      refine ⟨_, _, rfl, pFr_w (pFr_r σ) (by omega), fun s' e => ?_, fun e => ?_⟩
      · unfold stp at e
        rw [if_pos w] at e
        dsimp only at e
        by_cases f : F = 1
        · rw [if_pos f] at e; cases e
          refine ⟨by rw [p5, f]; rfl, ?_, ?_, ?_, ?_, ?_⟩
          · dsimp only; rw [rI_k (by omega), p1]
          · dsimp only; rw [rI_k (by omega), p2]
          · dsimp only; rw [rI_k (by omega), p3]
          · dsimp only; rw [rI_k (by omega), p4]
          · dsimp only; rw [rI_s]; rfl
        · rw [if_neg f] at e; cases e
      · unfold stp at e
        rw [if_pos w] at e
        dsimp only at e
        by_cases f : F = 1
        · rw [if_pos f] at e; cases e
        · rw [p5, show F = 0 by omega]; rfl
