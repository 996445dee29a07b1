/-! ===== a letter on the model's side; the whole page; fault ===== -/
theorem f10_go {τ : Sg} {s : SS} {c : Int} (ok : okS s) (ps : PM τ s) (c1 : 1 ≤ c) (c2 : c ≤ 126) : ∃ r τ', fX10_go (yI c) τ = some (r, τ') ∧ mFr τ τ' ∧ (∀ s', stp c s = some s' → r = 1 ∧ PM τ' s' ∧ ∀ w f, AR τ s w f → AR τ' s' (lw c s w) (lf c s f)) ∧ (stp c s = none → r = 0) := by
  obtain ⟨R, W, M, H, F⟩ := s
  have hok := ok
  have hps := ps
  obtain ⟨h1, h2, h3, h4, h5, h6, h7⟩ := ok
  obtain ⟨p1, p2, p3, p4, p5⟩ := ps
  dsimp only at h1 h2 h3 h4 h5 h6 h7 p1 p2 p3 p4 p5
  have W6 : W ≤ 6 := by
    by_cases z : R = 0
    · rw [h2 z]; omega
    · exact (h3 (by omega)).2.1
  have wb : -1 ≤ wayZ c ∧ wayZ c ≤ 3 := by
    have := wayZ_i c
    omega
  have B : (wayZ c = -1 ∨ F = 0) → ∃ r τ', fX10_go_b37 (yI c) τ = some (r, τ') ∧ mFr τ τ' ∧ (∀ s', stp c (R, W, M, H, F) = some s' → r = 1 ∧ PM τ' s' ∧ ∀ w f, AR τ (R, W, M, H, F) w f → AR τ' s' (lw c (R, W, M, H, F) w) (lf c (R, W, M, H, F) f)) ∧ (stp c (R, W, M, H, F) = none → r = 0) := fun hw => by
    by_cases q : c = 47
    · have wz : ¬ wayZ c ≠ -1 := by rw [q]; decide
      obtain ⟨r, τ', r1, r2, r3, r4, r5⟩ := f10_rowEnd hok hps
      refine ⟨r, τ', by rw [q]; exact r1, r2, fun s' e => ?_, fun e => ?_⟩
      · unfold stp at e
        rw [if_neg wz, if_pos q] at e
        dsimp only at e
        by_cases z : 2 ≤ M ∧ (R = 0 ∨ M = W) ∧ R < 4
        · rw [if_pos z] at e; cases e
          obtain ⟨z1, z2⟩ := r4 z
          refine ⟨z1, z2, fun w f ha => ?_⟩
          have e1 : lw c (R, W, M, H, F) w = w := by unfold lw; rw [if_pos (Or.inr q)]
          have e2 : lf c (R, W, M, H, F) f = f := by unfold lf; rw [if_neg wz, if_pos q]
          rw [e1, e2]
          intro i hi
          rw [r3 2 i (by omega), r3 3 i (by omega)]
          refine ha i ?_
          have hi2 : i < M * (R + 1) + 0 := hi
          show i < W * R + M
          rcases z.2.1 with zz | zz
          · rw [zz] at hi2 ⊢
            rw [Nat.mul_zero]; omega
          · rw [← zz]
            rw [Nat.mul_add] at hi2; omega
        · rw [if_neg z] at e; cases e
      · unfold stp at e
        rw [if_neg wz, if_pos q] at e
        dsimp only at e
        by_cases z : 2 ≤ M ∧ (R = 0 ∨ M = W) ∧ R < 4
        · rw [if_pos z] at e; cases e
        · exact r5 z
    · obtain ⟨r, τ', r1, r2, r3, r4⟩ := f10_square hok hps c1 c2 q
      refine ⟨r, τ', r1, r2, fun s' e => ?_, fun e => ?_⟩
      · unfold stp at e
        by_cases w : wayZ c ≠ -1
        · rw [if_pos w] at e
          dsimp only at e
          rw [if_neg (by omega)] at e; cases e
        · rw [if_neg w, if_neg q] at e
          dsimp only at e
          by_cases z : M < (if R = 0 then 6 else W) ∧ ((48 ≤ c ∧ c ≤ 57) ∨ c = 35 ∨ (c = 104 ∧ H = -1))
          · rw [if_pos z] at e; cases e
            obtain ⟨z1, z2, z3, z4⟩ := r3 z
            refine ⟨z1, z2, fun w' f ha i hi => ?_⟩
            have e1 : lw c (R, W, M, H, F) w' i = if i = W * R + M then vz c else w' i := by
              unfold lw; rw [if_neg (by omega)]; rfl
            have e2 : lf c (R, W, M, H, F) f i = if i = W * R + M then -1 else f i := by
              unfold lf; rw [if_neg w, if_neg q]; rfl
            rw [e1, e2, z3, z4]
            have hi2 : i < W * R + (M + 1) := hi
            by_cases g : i = W * R + M
            · rw [if_pos g, if_pos g, if_pos g, if_pos g]; exact ⟨rfl, rfl⟩
            · rw [if_neg g, if_neg g, if_neg g, if_neg g]
              exact ha i (by show i < W * R + M; omega)
          · rw [if_neg z] at e; cases e
      · unfold stp at e
        by_cases w : wayZ c ≠ -1
        · refine r4 (fun z => ?_)
          have := wayZ_i c
          omega
        · rw [if_neg w, if_neg q] at e
          dsimp only at e
          by_cases z : M < (if R = 0 then 6 else W) ∧ ((48 ≤ c ∧ c ≤ 57) ∨ c = 35 ∨ (c = 104 ∧ H = -1))
          · rw [if_pos z] at e; cases e
          · exact r4 z
  unfold fX10_go fX10_go_b0
  rw [p5]
  by_cases f0 : F = 0
  · rw [if_pos (eqp (v := 0) (b := 0) rfl (by omega))]
    exact B (Or.inr f0)
  · rw [if_neg (yI_nl (v := 0) (b := 0) rfl (by omega) (by omega) (by omega)), b1 (f10_flowOf (by omega) (by omega))]
    dsimp only
    by_cases w : wayZ c = -1
    · rw [if_pos (eqp (v := -1) (b := -1) rfl w)]
      exact B (Or.inl w)
    · have M1 : 1 ≤ M := by omega
      have M6 : W * R + M ≤ 30 := by
        by_cases z : R = 0
        · rw [z, Nat.mul_zero]; omega
        · have := h3 (by omega)
          have e : W * R ≤ 6 * 4 := Nat.mul_le_mul W6 h1
          omega
      rw [if_neg (yI_nl (v := -1) (b := -1) rfl (by omega) (by omega) w), b1 (f10_readAt h2 h1 W6 h4 p1 p2 p3)]
      dsimp only
      rw [b1 (f10_flowOf (by omega) (by omega))]
      dsimp only
      have e1 : yI ((W * R + M : Nat) : Int) - 1 = yI ((W * R + M - 1 : Nat) : Int) := by
        rw [yI_1, yI_sub]; congr 1; omega
      rw [e1, if_pos (inb_n (by omega) (by omega)), yI_cln (by omega)]
      refine ⟨_, _, rfl, mFr_0 (mFr_3 (mFr_r τ)) (by omega) (by omega), fun s' e => ?_, fun e => ?_⟩
      · unfold stp at e
        rw [if_pos w] at e
        dsimp only at e
        rw [if_pos (show F = 1 by omega)] at e; cases e
        refine ⟨rfl, ⟨?_, ?_, ?_, ?_, ?_⟩, fun w' f ha i hi => ?_⟩
        · dsimp only; rw [rI_k (by omega), rI_o (by omega), p1]
        · dsimp only; rw [rI_k (by omega), rI_o (by omega), p2]
        · dsimp only; rw [rI_k (by omega), rI_o (by omega), p3]
        · dsimp only; rw [rI_k (by omega), rI_o (by omega), p4]
        · dsimp only; rw [rI_s]; rfl
        · have hi2 : i < W * R + M := hi
          have ha2 := ha i hi2
          have e1 : lw c (R, W, M, H, F) w' i = w' i := by unfold lw; rw [if_pos (Or.inl w)]
          have e2 : lf c (R, W, M, H, F) f i = if i = W * R + M - 1 then wayZ c else f i := by unfold lf; rw [if_pos w]; rfl
          rw [e1, e2, rI_o (by omega), rI_o (by omega), rI_o (by omega)]
          refine ⟨ha2.1, ?_⟩
          by_cases g : i = W * R + M - 1
          · rw [if_pos g, g, rI_s]
          · rw [if_neg g, rI_k g]; exact ha2.2
      · unfold stp at e
        rw [if_pos w] at e
        dsimp only at e
        rw [if_pos (show F = 1 by omega)] at e; cases e
/-- the page read so far -/
def scn (p : Nat → Int) : Nat → Option SS
  | 0 => some (0, 0, 0, -1, 0)
  | k + 1 => (scn p k).bind (stp (p k))
def scw (p : Nat → Int) : Nat → Nat → Int
  | 0 => fun _ => 0
  | k + 1 => match scn p k with
    | none => scw p k
    | some s => lw (p k) s (scw p k)
def scf (p : Nat → Int) : Nat → Nat → Int
  | 0 => fun _ => 0
  | k + 1 => match scn p k with
    | none => scf p k
    | some s => lf (p k) s (scf p k)
theorem scn_ok {p : Nat → Int} : ∀ (k : Nat) (s : SS), scn p k = some s → okS s
  | 0, s, h => by
    cases h
    exact ⟨Nat.zero_le _, fun _ => rfl, fun h => absurd h (by decide), Nat.zero_le _, Int.le_refl _, by decide, Or.inl rfl⟩
  | k + 1, s, h => by
    obtain ⟨s0, h1, h2⟩ := Option.bind_eq_some_iff.mp h
    exact stp_ok (scn_ok k s0 h1) h2
theorem scn_no {p : Nat → Int} {k : Nat} (h : scn p k = none) : ∀ d, scn p (k + d) = none
  | 0 => h
  | d + 1 => by
    show (scn p (k + d)).bind (stp (p (k + d))) = none
    rw [scn_no h d]; rfl
/-- where the page goes wrong -/
def wrg (p : Nat → Int) (L k : Nat) : Prop := k ≤ L ∧ scn p k ≠ none ∧ (k = L ∨ scn p (k + 1) = none)
theorem wrg_u {p : Nat → Int} {L k k' : Nat} (h : wrg p L k) (h' : wrg p L k') : k = k' := by
  rcases Nat.lt_trichotomy k k' with l | l | l
  · rcases h.2.2 with e | e
    · have := h'.1; omega
    · have := scn_no e (k' - (k + 1))
      rw [show k + 1 + (k' - (k + 1)) = k' by omega] at this
      exact absurd this h'.2.1
  · exact l
  · rcases h'.2.2 with e | e
    · have := h.1; omega
    · have := scn_no e (k - (k' + 1))
      rw [show k' + 1 + (k - (k' + 1)) = k by omega] at this
      exact absurd this h.2.1
theorem f6_firstWrong {σ : Sg} {p : Nat → Int} {L : Nat} (hL : rI σ 1 1 = yI (L : Int)) (L64 : L ≤ 64) (hp : ∀ k, k < L → rI σ 2 k = yI (p k) ∧ 1 ≤ p k ∧ p k ≤ 126) : ∃ k σ', fX6_firstWrong σ = some (yI ((k : Nat) : Int), σ') ∧ wrg p L k ∧ pFr σ σ' ∧ ∀ s, k = L → scn p L = some s → PS σ' s := by
  have H : ∃ t, lp (fun s : Int32 × Sg => fX6_firstWrong_b27 s.1 s.2) FU ((0 : Int32), wI (wI (wI (wI (wI σ 1 2 0) 1 3 0) 1 4 0) 1 5 0) 1 6 0) = some t ∧ (∃ k σ', ((t = .inl (yI ((k : Nat) : Int), σ') ∧ k < L) ∨ (t = .inr σ' ∧ k = L)) ∧ wrg p L k ∧ pFr σ σ' ∧ ∀ s, k = L → scn p L = some s → PS σ' s) := by
    refine lp_for (fun k st => st.1 = yI (k : Int) ∧ pFr σ st.2 ∧ ∃ s, scn p k = some s ∧ PS st.2 s) L _ ?_ ?_ ⟨rfl, pFr_w (pFr_w (pFr_w (pFr_w (pFr_w (pFr_r σ) (by omega)) (by omega)) (by omega)) (by omega)) (by omega), _, rfl, ?_⟩ (FU_b (by omega))
    · rintro k ⟨x, t⟩ hk ⟨h1, h2, s, h3, h4⟩
      dsimp only at h1 h2 h4
      subst h1
      obtain ⟨e2, e3, e4⟩ := hp k hk
      obtain ⟨r, t', r1, r2, r3, r4⟩ := f6_takes (scn_ok k s h3) h4 e3 e4
      have fr : pFr σ t' := fun o j hn => by rw [r2 o j hn, h2 o j hn]
      have hsc : scn p (k + 1) = stp (p k) s := by
        show (scn p k).bind (stp (p k)) = _
        rw [h3]; rfl
      dsimp only
      unfold fX6_firstWrong_b27
      rw [h2 1 1 (by omega), hL, if_neg (fun q => by have := (yI_le (by omega) (by omega) (by omega) (by omega)).mp q; omega), if_pos (inb_n (by omega) (by omega)), yI_cln (by omega), h2 2 k (by omega), e2, b1 r1]
      dsimp only
      cases e : stp (p k) s with
      | none =>
        rw [if_pos (r4 e)]
        exact ⟨_, rfl, k, t', Or.inl ⟨rfl, hk⟩, ⟨by omega, by rw [h3]; exact Option.some_ne_none s, Or.inr (hsc.trans e)⟩, fr, fun _ q => by omega⟩
      | some s' =>
        obtain ⟨z1, z2⟩ := r3 s' e
        rw [if_neg (by rw [z1]; decide), add1]
        exact ⟨_, rfl, rfl, fr, s', hsc.trans e, z2⟩
    · rintro ⟨x, t⟩ ⟨h1, h2, s, h3, h4⟩
      dsimp only at h1 h2 h4
      subst h1
      refine ⟨.inr t, ?_, L, t, Or.inr ⟨rfl, rfl⟩, ⟨Nat.le_refl _, by rw [h3]; exact Option.some_ne_none s, Or.inl rfl⟩, h2, fun s' _ e => ?_⟩
      · dsimp only
        unfold fX6_firstWrong_b27
        rw [h2 1 1 (by omega), hL, if_pos ((yI_le (by omega) (by omega) (by omega) (by omega)).mpr (Int.le_refl _))]
      · rw [h3] at e; cases e; exact h4
    · refine ⟨?_, ?_, ?_, ?_, ?_⟩
      · dsimp only
        rw [rI_k (by omega), rI_k (by omega), rI_k (by omega), rI_k (by omega), rI_s]; rfl
      · dsimp only
        rw [rI_k (by omega), rI_k (by omega), rI_k (by omega), rI_s]; rfl
      · dsimp only
        rw [rI_k (by omega), rI_k (by omega), rI_s]; rfl
      · dsimp only
        rw [rI_k (by omega), rI_s]; rfl
      · dsimp only
        rw [rI_s]; rfl
  obtain ⟨t, k1, k, σ', k2, k3, k4, k5⟩ := H
  refine ⟨k, σ', ?_, k3, k4, k5⟩
  unfold fX6_firstWrong fX6_firstWrong_b0
  rw [b1 k1]
  rcases k2 with ⟨rfl, -⟩ | ⟨rfl, rfl⟩
  · rfl
  · show some (rI σ' 1 1, σ') = _
    rw [k4 1 1 (by omega), hL]
