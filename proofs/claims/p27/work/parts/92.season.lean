/-! ===== the model's season: gains ===== -/
def sT (τ τ' : Sg) : Prop := ∀ o j, ¬ (8 ≤ o ∧ o ≤ 12) → ¬ (o = 0 ∧ 22 ≤ j ∧ j ≤ 37) → rI τ' o j = rI τ o j
theorem sT_r (τ : Sg) : sT τ τ := fun _ _ _ _ => rfl
theorem sT_t {a b c : Sg} (h : sT a b) (k : sT b c) : sT a c := fun o j x y => by rw [k o j x y, h o j x y]
theorem sT_m {τ τ' : Sg} (h : mT τ τ') : sT τ τ' := fun o j x y => h o j (by omega) (by omega) (by omega) y
theorem sT_core {τ τ' : Sg} (h : sT τ τ') : cM τ' = cM τ := funext fun a => funext fun b => by
  by_cases e : (8 ≤ a ∧ a ≤ 12) ∨ (a = 0 ∧ 22 ≤ b ∧ b ≤ 37)
  · have hn : ¬ nsM a b = true := by
      rcases e with e | ⟨rfl, e1, e2⟩
      · rcases (show a = 8 ∨ a = 9 ∨ a = 10 ∨ a = 11 ∨ a = 12 by omega) with rfl | rfl | rfl | rfl | rfl <;> · unfold nsM; simp
      · unfold nsM
        have x1 : (b == 1) = false := beq_false_of_ne (by omega)
        have x2 : decide (b ≤ 20) = false := decide_eq_false (by omega)
        have x3 : decide (40 ≤ b) = false := decide_eq_false (by omega)
        rw [x1, x2, x3, Bool.and_false, Bool.false_and]
        decide
    show core nsM τ' a b = core nsM τ a b
    unfold core
    rw [if_neg hn, if_neg hn]
  · exact core_e (h a b (by omega) (by omega))
theorem BS_s {σ τ τ' : Sg} {b : Nat} (h : BS σ τ b) (f : sT τ τ') : BS σ τ' b := by
  unfold BS
  rw [sT_core f]
  obtain ⟨h1, h2, h3, h4, h5, h6, h7, h8⟩ := h
  exact ⟨h1, GM_f h2 (fun o j q => f o j (by omega) (by omega)), ⟨by rw [f 0 17 (by omega) (by omega), h3.1], by rw [f 0 18 (by omega) (by omega), h3.2.1], by rw [f 0 19 (by omega) (by omega), h3.2.2.1], h3.2.2.2⟩, h4, h5, h6, fun j hj => by rw [f 6 _ (by omega) (by omega), h7 j hj], h8⟩
theorem mul12 (b : Nat) : (12 : Int32) * yI (b : Int) = yI ((12 * b : Nat) : Int) := by
  rw [show (12 : Int32) = yI 12 from rfl, yI_mul]; rfl
def RM (τ : Sg) (m : Mm) (b T : Nat) : Prop := ∀ t, t ≤ T → rI τ 11 (12 * b + t) = yI (sG m b t)
theorem f10_gains {σ τ : Sg} {b T B : Nat} (hb : b < 5) (s : BS σ τ b) (T11 : T ≤ 11) (hB : rI τ 0 15 = yI (B : Int)) (B5 : B ≤ 5) (bB : b < B) (x2 : Int32) : ∃ τ', fX10_seasonOf_b2 (yI (T : Int)) x2 (yI (b : Int)) τ = some (.inl (yI ((b + 1 : Nat) : Int), τ')) ∧ RM τ' (cM τ) b T ∧ sT τ τ' ∧ (∀ j, j < 12 * b → rI τ' 11 j = rI τ 11 j) := by
  obtain ⟨τ1, r1, r2⟩ := f10_waysOf hb s
  have v := s.1
  have w7 := (VB1_q v s.2.2.2.2.1).2.2.2.2.2.2.2.1
  have w5 := (VB1_q v s.2.2.2.2.1).2.2.2.2.2.1
  have cb := qcn_b v w7
  have g0 : sG (cM τ) b 0 = 0 := by unfold sG; rw [if_pos rfl]
  -- the loop over the tugs
  have LP : ∀ x4 : Int32, (x4 = 0 ↔ qcn (cM τ) (qsq (cM τ) b) = 0) → ∃ t, lp (fun s : Int32 × Sg => fX10_seasonOf_b38 (yI (T : Int)) x2 (yI (b : Int)) x4 s.1 s.2) FU ((1 : Int32), wI τ1 11 (12 * b) 0) = some t ∧ (RM t (cM τ) b T ∧ sT τ t ∧ ∀ j, j < 12 * b → rI t 11 j = rI τ 11 j) := fun x4 hx => by
    refine lp_all (fun k s => s.1 = yI ((k + 1 : Nat) : Int) ∧ RM s.2 (cM τ) b k ∧ sT τ s.2 ∧ ∀ j, j < 12 * b → rI s.2 11 j = rI τ 11 j) T _ ?_ ?_ ⟨rfl, fun t ht => ?_, fun o j x y => ?_, fun j hj => ?_⟩ (FU_b (by omega))
    · rintro k ⟨x, t⟩ hk ⟨h1, h2, h3, h4⟩
      dsimp only at h1 h2 h3 h4
      subst h1
      have st := BS_s s h3
      have PUT : ∀ (u : Sg), sT t u → (∀ j, rI u 11 j = rI t 11 j) → ∃ s', some (Sum.inl (yI ((k + 1 : Nat) : Int) + 1, wI u 11 (12 * b + (k + 1)) (yI (sG (cM τ) b (k + 1))))) = some (Sum.inl s' : (Int32 × Sg) ⊕ Sg) ∧ (s'.1 = yI ((k + 1 + 1 : Nat) : Int) ∧ RM s'.2 (cM τ) b (k + 1) ∧ sT τ s'.2 ∧ ∀ j, j < 12 * b → rI s'.2 11 j = rI τ 11 j) := fun u fu f11 => by
        refine ⟨_, rfl, add1 _, fun j hj => ?_, fun o j x y => ?_, fun j hj => ?_⟩
        · dsimp only
          by_cases q : j = k + 1
          · rw [q, rI_s]
          · rw [rI_k (by omega), f11]; exact h2 j (by omega)
        · dsimp only
          rw [rI_o (by omega), fu o j x y]; exact h3 o j x y
        · dsimp only
          rw [rI_k (by omega), f11]; exact h4 j hj
      dsimp only
      unfold fX10_seasonOf_b38 fX10_seasonOf_b64 fX10_seasonOf_b86 fX10_seasonOf_b113
      rw [if_neg (fun q => by have := (yI_lt (by omega) (by omega) (by omega) (by omega)).mp q; omega), mul12, addn]
      by_cases z : qcn (cM τ) (qsq (cM τ) b) = 0
      · have x0 := hx.mpr z
        have eg : sG (cM τ) b (k + 1) = -100000000 := by unfold sG; rw [if_neg (by omega), if_pos z]
        have P := PUT t (sT_r t) (fun _ => rfl)
        rw [eg] at P
        rw [if_pos x0, if_pos x0, if_pos (show (-100000000 : Int32) ≤ -100000000 by decide), if_pos (inb_n (by omega) (by omega)), yI_cln (by omega)]
        exact P
      · have x0 : ¬ x4 = 0 := fun q => z (hx.mp q)
        obtain ⟨u1, a1, a2⟩ := f10_tellTow hb st (tugs := k + 1) (sk := 0) (w := 2) (by omega) (by omega) (by omega) (Or.inl (by omega))
        rw [sT_core h3, if_neg z] at a1
        have su := BS_m st a2
        obtain ⟨u2, c1, c2⟩ := f10_tellTow hb su (tugs := k + 1) (sk := 1) (w := 2) (by omega) (by omega) (by omega) (Or.inl (by omega))
        rw [mT_core a2, sT_core h3, if_neg z] at c1
        have q0 : tell (qbb (cM τ) b (qsz (cM τ) b) (k + 1) 0) 2 = qg (cM τ) b (2 * (k + 1)) := by
          unfold qg
          rw [show 2 * (k + 1) / 2 = k + 1 by omega, show 2 * (k + 1) % 2 = 0 by omega]; rfl
        have q1 : tell (qbb (cM τ) b (qsz (cM τ) b) (k + 1) 1) 2 = qg (cM τ) b (2 * (k + 1) + 1) := by
          unfold qg
          rw [show (2 * (k + 1) + 1) / 2 = k + 1 by omega, show (2 * (k + 1) + 1) % 2 = 1 by omega]; rfl
        rw [q0, ← show (0 : Int32) = yI ((0 : Nat) : Int) from rfl, ← show (2 : Int32) = yI ((2 : Nat) : Int) from rfl] at a1
        rw [q1, ← show (1 : Int32) = yI ((1 : Nat) : Int) from rfl, ← show (2 : Int32) = yI ((2 : Nat) : Int) from rfl] at c1
        have b1' := qg_b hb s z (e := 2 * (k + 1)) (by omega) (by omega)
        have b2' := qg_b hb s z (e := 2 * (k + 1) + 1) (by omega) (by omega)
        have eg : sG (cM τ) b (k + 1) = max (qg (cM τ) b (2 * (k + 1))) (qg (cM τ) b (2 * (k + 1) + 1)) := by unfold sG; rw [if_neg (by omega), if_neg z]
        have P := PUT u2 (sT_t (sT_m a2) (sT_m c2)) (fun j => by rw [c2 11 j (by omega) (by omega) (by omega) (by omega), a2 11 j (by omega) (by omega) (by omega) (by omega)])
        rw [eg] at P
        rw [if_neg x0, b1 a1]
        dsimp only
        rw [if_neg x0, b1 c1]
        dsimp only
        rw [if_pos (inb_n (by omega) (by omega)), if_pos (inb_n (by omega) (by omega)), yI_cln (by omega)]
        by_cases y : qg (cM τ) b (2 * (k + 1)) ≤ qg (cM τ) b (2 * (k + 1) + 1)
        · rw [show max (qg (cM τ) b (2 * (k + 1))) (qg (cM τ) b (2 * (k + 1) + 1)) = qg (cM τ) b (2 * (k + 1) + 1) by omega] at P
          rw [if_pos ((yI_le (by omega) (by omega) (by omega) (by omega)).mpr y)]
          exact P
        · rw [show max (qg (cM τ) b (2 * (k + 1))) (qg (cM τ) b (2 * (k + 1) + 1)) = qg (cM τ) b (2 * (k + 1)) by omega] at P
          rw [if_neg (fun w => y ((yI_le (by omega) (by omega) (by omega) (by omega)).mp w))]
          exact P
    · rintro ⟨x, t⟩ ⟨h1, h2, h3, h4⟩
      dsimp only at h1 h2 h3 h4
      subst h1
      refine ⟨t, ?_, h2, h3, h4⟩
      dsimp only
      unfold fX10_seasonOf_b38
      rw [if_pos ((yI_lt (by omega) (by omega) (by omega) (by omega)).mpr (by omega))]
    · have : t = 0 := by omega
      subst this
      dsimp only
      rw [Nat.add_zero, rI_s, g0]; rfl
    · dsimp only
      rw [rI_o (by omega), sT_m r2 o j x y]
    · dsimp only
      rw [rI_k (by omega), r2 11 j (by omega) (by omega) (by omega) (by omega)]
  unfold fX10_seasonOf_b2 fX10_seasonOf_b23
  rw [hB, if_neg (fun q => by have := (yI_le (by omega) (by omega) (by omega) (by omega)).mp q; omega), b1 r1]
  dsimp only
  rw [mul12, if_pos (inb_n (by omega) (by omega)), if_pos (inb_n (by omega) (by omega)), yI_cln (by omega), add1]
  by_cases z : qcn (cM τ) (qsq (cM τ) b) = 0
  · obtain ⟨t, k1, k2, k3, k4⟩ := LP 0 ⟨fun _ => z, fun _ => rfl⟩
    rw [if_pos (lep (v := 0) (b := 0) rfl (by omega) (by omega) (by omega)), b1 k1]
    exact ⟨t, rfl, k2, k3, k4⟩
  · obtain ⟨t, k1, k2, k3, k4⟩ := LP 1 ⟨fun q => absurd q (by decide), fun q => absurd q z⟩
    rw [if_neg (len (v := 0) (b := 0) rfl (by omega) (by omega) (by omega)), b1 k1]
    exact ⟨t, rfl, k2, k3, k4⟩
