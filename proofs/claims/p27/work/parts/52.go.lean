/-! ===== the model takes a letter ===== -/
def atS (s : SS) : Nat := s.2.1 * s.1 + s.2.2.1
def PM (τ : Sg) (s : SS) : Prop := rI τ 0 2 = yI (s.1 : Int) ∧ rI τ 0 4 = yI (s.2.2.1 : Int) ∧ rI τ 0 3 = yI (s.2.1 : Int) ∧ rI τ 0 5 = yI s.2.2.2.1 ∧ rI τ 0 6 = yI (s.2.2.2.2 : Int)
def mFr (τ τ' : Sg) : Prop := ∀ o j, o ≠ 2 → o ≠ 3 → ¬ (o = 0 ∧ 2 ≤ j ∧ j ≤ 6) → rI τ' o j = rI τ o j
theorem mFr_r (τ : Sg) : mFr τ τ := fun _ _ _ _ _ => rfl
theorem mFr_0 {τ τ' : Sg} {k : Nat} {v : Int32} (h : mFr τ τ') (h1 : 2 ≤ k) (h2 : k ≤ 6) : mFr τ (wI τ' 0 k v) := fun o j a b c => by
  rw [rI_wI, if_neg (by omega)]; exact h o j a b c
theorem mFr_2 {τ τ' : Sg} {k : Nat} {v : Int32} (h : mFr τ τ') : mFr τ (wI τ' 2 k v) := fun o j a b c => by
  rw [rI_o a]; exact h o j a b c
theorem mFr_3 {τ τ' : Sg} {k : Nat} {v : Int32} (h : mFr τ τ') : mFr τ (wI τ' 3 k v) := fun o j a b c => by
  rw [rI_o b]; exact h o j a b c
/-- the squares laid so far: their warmth and current -/
def vz (c : Int) : Int := if c = 104 then 10 else if c = 35 then 11 else c - 48
def lw (c : Int) (s : SS) (w : Nat → Int) : Nat → Int := if wayZ c ≠ -1 ∨ c = 47 then w else fun i => if i = atS s then vz c else w i
def lf (c : Int) (s : SS) (f : Nat → Int) : Nat → Int := if wayZ c ≠ -1 then (fun i => if i = atS s - 1 then wayZ c else f i) else if c = 47 then f else fun i => if i = atS s then -1 else f i
def AR (τ : Sg) (s : SS) (w f : Nat → Int) : Prop := ∀ i, i < atS s → rI τ 2 i = yI (w i) ∧ rI τ 3 i = yI (f i)
theorem f10_readAt {τ : Sg} {R W M : Nat} (h0 : R = 0 → W = 0) (hR : R ≤ 4) (hW : W ≤ 6) (hM : M ≤ 6) (p1 : rI τ 0 2 = yI (R : Int)) (p2 : rI τ 0 4 = yI (M : Int)) (p3 : rI τ 0 3 = yI (W : Int)) : fX10_readAt τ = some (yI ((W * R + M : Nat) : Int), τ) := by
  unfold fX10_readAt fX10_readAt_b0
  rw [p1, p2, p3]
  by_cases z : R = 0
  · rw [if_pos (eqp (v := 0) (b := 0) rfl (by omega)), z, Nat.mul_zero, Nat.zero_add]
  · rw [if_neg (yI_nl (v := 0) (b := 0) rfl (by omega) (by omega) (by omega)), yI_mul, yI_add]; rfl
theorem f10_rowEnd {τ : Sg} {R W M F : Nat} {H : Int} (ok : okS (R, W, M, H, F)) (ps : PM τ (R, W, M, H, F)) : ∃ r τ', fX10_go_b37 (yI 47) τ = some (r, τ') ∧ mFr τ τ' ∧ (∀ o j, o ≠ 0 → rI τ' o j = rI τ o j) ∧ ((2 ≤ M ∧ (R = 0 ∨ M = W) ∧ R < 4) → r = 1 ∧ PM τ' (R + 1, M, 0, H, 0)) ∧ (¬ (2 ≤ M ∧ (R = 0 ∨ M = W) ∧ R < 4) → r = 0) := by
  obtain ⟨h1, h2, h3, h4, h5, h6, h7⟩ := ok
  dsimp only at h1 h2 h3 h4 h5 h6 h7
  obtain ⟨p1, p2, p3, p4, p5⟩ := ps
  dsimp only at p1 p2 p3 p4 p5
  have A : ∀ y : Int32, y = 0 ∨ y = 1 → (y = 1 → R = 0 ∨ M = W) → ∃ r τ', fX10_go_b82 y τ = some (r, τ') ∧ mFr τ τ' ∧ (∀ o j, o ≠ 0 → rI τ' o j = rI τ o j) ∧ (y = 1 → r = 1 ∧ PM τ' (R + 1, M, 0, H, 0)) ∧ (y = 0 → r = 0) := fun y hy hyw => by
    have B : ∀ v : Int32, (y = 1 → v = yI (M : Int)) → ∃ r τ', fX10_go_b102 y v τ = some (r, τ') ∧ mFr τ τ' ∧ (∀ o j, o ≠ 0 → rI τ' o j = rI τ o j) ∧ (y = 1 → r = 1 ∧ PM τ' (R + 1, M, 0, H, 0)) ∧ (y = 0 → r = 0) := fun v hv => by
      unfold fX10_go_b102 fX10_go_b119 fX10_go_b136
      rcases hy with rfl | rfl
      · rw [if_pos rfl, if_pos rfl, if_pos isB_0]
        exact ⟨_, _, rfl, mFr_0 (mFr_0 (mFr_0 (mFr_0 (mFr_r τ) (by omega) (by omega)) (by omega) (by omega)) (by omega) (by omega)) (by omega) (by omega), fun o j ho => by rw [rI_o ho, rI_o ho, rI_o ho, rI_o ho], fun q => absurd q (by decide), fun _ => rfl⟩
      · rw [if_neg (show ¬ (1 : Int32) = 0 by decide), if_neg (show ¬ (1 : Int32) = 0 by decide), if_pos isB_1, hv rfl, rI_k (by omega), p1, add1]
        refine ⟨_, _, rfl, mFr_0 (mFr_0 (mFr_0 (mFr_0 (mFr_r τ) (by omega) (by omega)) (by omega) (by omega)) (by omega) (by omega)) (by omega) (by omega), fun o j ho => by rw [rI_o ho, rI_o ho, rI_o ho, rI_o ho], fun _ => ⟨rfl, ?_, ?_, ?_, ?_, ?_⟩, fun q => absurd q (by decide)⟩
        · dsimp only
          rw [rI_k (by omega), rI_k (by omega), rI_s]
        · dsimp only
          rw [rI_k (by omega), rI_s]; rfl
        · dsimp only
          rw [rI_k (by omega), rI_k (by omega), rI_k (by omega), rI_s]
        · dsimp only
          rw [rI_k (by omega), rI_k (by omega), rI_k (by omega), rI_k (by omega), p4]
        · dsimp only
          rw [rI_s]; rfl
    unfold fX10_go_b82
    rw [p1, p2, p3]
    by_cases z : R = 0
    · rw [if_pos (eqp (v := 0) (b := 0) rfl (by omega))]
      exact B _ (fun _ => rfl)
    · rw [if_neg (yI_nl (v := 0) (b := 0) rfl (by omega) (by omega) (by omega))]
      exact B _ (fun q => by
        have := hyw q
        rw [show W = M by omega])
  have A69 : (R = 0 ∨ M = W) → 2 ≤ M → ∃ r τ', fX10_go_b69 τ = some (r, τ') ∧ mFr τ τ' ∧ (∀ o j, o ≠ 0 → rI τ' o j = rI τ o j) ∧ ((2 ≤ M ∧ (R = 0 ∨ M = W) ∧ R < 4) → r = 1 ∧ PM τ' (R + 1, M, 0, H, 0)) ∧ (¬ (2 ≤ M ∧ (R = 0 ∨ M = W) ∧ R < 4) → r = 0) := fun hr hm => by
    unfold fX10_go_b69 fX10_go_b81
    rw [p1]
    by_cases z : 4 ≤ R
    · rw [if_pos (gep (v := 4) (b := 4) rfl (by omega) (by omega) (by omega))]
      obtain ⟨r, τ', r1, r2, r3, r4, r5⟩ := A 0 (Or.inl rfl) (fun q => absurd q (by decide))
      exact ⟨r, τ', r1, r2, r3, fun q => by omega, fun _ => r5 rfl⟩
    · rw [if_neg (gen (v := 4) (b := 4) rfl (by omega) (by omega) (by omega))]
      obtain ⟨r, τ', r1, r2, r3, r4, r5⟩ := A 1 (Or.inr rfl) (fun _ => hr)
      exact ⟨r, τ', r1, r2, r3, fun _ => r4 rfl, fun q => absurd ⟨hm, hr, by omega⟩ q⟩
  have A81 : ¬ (2 ≤ M ∧ (R = 0 ∨ M = W) ∧ R < 4) → ∃ r τ', fX10_go_b81 τ = some (r, τ') ∧ mFr τ τ' ∧ (∀ o j, o ≠ 0 → rI τ' o j = rI τ o j) ∧ ((2 ≤ M ∧ (R = 0 ∨ M = W) ∧ R < 4) → r = 1 ∧ PM τ' (R + 1, M, 0, H, 0)) ∧ (¬ (2 ≤ M ∧ (R = 0 ∨ M = W) ∧ R < 4) → r = 0) := fun hn => by
    obtain ⟨r, τ', r1, r2, r3, r4, r5⟩ := A 0 (Or.inl rfl) (fun q => absurd q (by decide))
    exact ⟨r, τ', r1, r2, r3, fun q => absurd q hn, fun _ => r5 rfl⟩
  unfold fX10_go_b37
  rw [if_pos (show yI 47 = 47 from rfl), p1, p2, p3]
  by_cases q : M ≤ 1
  · rw [if_pos (lep (v := 1) (b := 1) rfl (by omega) (by omega) (by omega))]
    exact A81 (by omega)
  · rw [if_neg (len (v := 1) (b := 1) rfl (by omega) (by omega) (by omega))]
    by_cases z : R = 0
    · rw [if_pos (eqp (v := 0) (b := 0) rfl (by omega))]
      exact A69 (Or.inl z) (by omega)
    · rw [if_neg (yI_nl (v := 0) (b := 0) rfl (by omega) (by omega) (by omega))]
      have := h3 (by omega)
      by_cases e : M = W
      · rw [if_pos (by rw [e])]
        exact A69 (Or.inr e) (by omega)
      · rw [if_neg (fun c => e (by have := yI_inj (by omega) (by omega) (by omega) (by omega) c; omega))]
        exact A81 (by omega)
