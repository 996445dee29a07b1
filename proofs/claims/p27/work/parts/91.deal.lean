/-! ===== the class deals the tugs out ===== -/
def RG (σ : Sg) (m : Mm) (b : Nat) : Prop := rI σ 66 b = yI (if qcn m (qsq m b) = 0 then 0 else 1) ∧ (qcn m (qsq m b) ≠ 0 → ∀ e : Nat, 2 ≤ e → e < 24 → rI σ (60 + b) e = yI (qg m b e))
def RC (σ : Sg) (m : Mm) (B b : Nat) : Prop := ∀ t, t ≤ 11 → rI σ (68 + b) t = yI (sM m B (B - b) t)
theorem f3_gainBy {σ : Sg} {m : Mm} {B b t : Nat} (g : GB m B) (b5 : b < 5) (hb : b < B) (ht : t ≤ 11) (rg : RG σ m b) (hz : t = 0 ∨ qcn m (qsq m b) ≠ 0) : fX3_gainBy (yI (b : Int)) (yI (t : Int)) σ = some (yI (sG m b t), σ) := by
  unfold fX3_gainBy fX3_gainBy_b0 sG
  by_cases q : t = 0
  · rw [if_pos (eqp (v := 0) (b := 0) rfl (by omega)), if_pos q]; rfl
  · have z : qcn m (qsq m b) ≠ 0 := by
      rcases hz with h | h
      · exact absurd h q
      · exact h
    have e2 : (2 : Int32) * yI (t : Int) = yI ((2 * t : Nat) : Int) := by
      rw [show (2 : Int32) = yI 2 from rfl, yI_mul]; rfl
    have a1 := g b hb z (2 * t) (by omega) (by omega)
    have a2 := g b hb z (2 * t + 1) (by omega) (by omega)
    rw [if_neg (yI_nl (v := 0) (b := 0) rfl (by omega) (by omega) (by omega)), if_neg q, if_neg z, e2, add1, if_pos (inb_n (by omega) b5), if_pos (inb_n (by omega) (by omega)), if_pos (inb_n (by omega) b5), if_pos (inb_n (by omega) (by omega)), yI_cln (by omega), yI_cln (by omega), yI_cln (by omega), rg.2 z _ (by omega) (by omega), rg.2 z _ (by omega) (by omega), imax_z (by omega) (by omega) (by omega) (by omega)]
theorem f3_mostFrom {σ : Sg} {m : Mm} {B b t : Nat} (g : GB m B) (B5 : B ≤ 5) (hb : b < B) (ht : t ≤ 11) (rg : RG σ m b) (rc : RC σ m B (b + 1)) : fX3_mostFrom (yI (b : Int)) (yI (t : Int)) σ = some (yI (sM m B (B - b) t), σ) := by
  have H : lp (fun s : Int32 × Int32 × Sg => fX3_mostFrom_b14 (yI (b : Int)) (yI (t : Int)) s.1 s.2.1 s.2.2) FU (yI (sM m B (B - (b + 1)) t), (1 : Int32), σ) = some (yI (sM m B (B - b) t), σ) := by
    by_cases z : qcn m (qsq m b) = 0
    · rw [sM_no g B5 hb ht z]
      have f0 : 0 < FU := by decide
      obtain ⟨n, hn⟩ : ∃ n, FU = n + 1 := ⟨FU - 1, by omega⟩
      rw [hn]
      refine lp_en ?_
      dsimp only
      unfold fX3_mostFrom_b14
      rw [yI_cln (by omega), rg.1, if_pos z, if_pos (inb_n (by omega) (by omega)), if_pos (show yI 0 = 0 from rfl)]
      by_cases y : yI (t : Int) < 1
      · rw [if_pos y]
      · rw [if_neg y]
    · obtain ⟨r, k1, k2⟩ : ∃ r, lp (fun s : Int32 × Int32 × Sg => fX3_mostFrom_b14 (yI (b : Int)) (yI (t : Int)) s.1 s.2.1 s.2.2) FU (yI (sM m B (B - (b + 1)) t), (1 : Int32), σ) = some r ∧ (r = (yI (sM m B (B - b) t), σ)) := by
        refine lp_all (fun k s => s.1 = yI (mx (sf m B b t) k) ∧ s.2.1 = yI ((k + 1 : Nat) : Int) ∧ s.2.2 = σ) t _ ?_ ?_ ⟨?_, rfl, rfl⟩ (FU_b (by omega))
        · rintro k ⟨x, y, u⟩ hk ⟨h1, h2, h3⟩
          dsimp only at h1 h2 h3
          subst h1 h2 h3
          have gg := f3_gainBy (t := k + 1) g (by omega) hb (by omega) rg (Or.inr z)
          have c1 := sG_b (t := k + 1) g hb (by omega)
          have c2 := sM_c (b := b + 1) (t := t - (k + 1)) g B5 (by omega)
          have c3 : -100000000 ≤ mx (sf m B b t) k ∧ mx (sf m B b t) k ≤ 100000000 := by
            obtain ⟨i, i1, i2⟩ := mx_at (f := sf m B b t) k
            have d1 := sG_b (t := i) g hb (by omega)
            have d2 := sM_c (b := b + 1) (t := t - i) g B5 (by omega)
            have : sf m B b t i = sG m b i + sM m B (B - (b + 1)) (t - i) := rfl
            omega
          refine ⟨(yI (mx (sf m B b t) (k + 1)), yI ((k + 1 + 1 : Nat) : Int), u), ?_, rfl, rfl, rfl⟩
          dsimp only
          unfold fX3_mostFrom_b14
          rw [if_neg (fun q => by have := (yI_lt (by omega) (by omega) (by omega) (by omega)).mp q; omega), if_pos (inb_n (by omega) (by omega)), yI_cln (by omega), rg.1, if_neg z, if_neg (show ¬ yI 1 = 0 by decide), b1 gg]
          dsimp only
          rw [add1, if_pos (inb_n (by omega) (by omega)), yI_cln (by omega), yI_sub, show (t : Int) - ((k + 1 : Nat) : Int) = ((t - (k + 1) : Nat) : Int) by omega, if_pos (inb_n (by omega) (by omega)), yI_cln (by omega), rc _ (by omega), yI_add, imax_z (by omega) (by omega) (by omega) (by omega), add1]
          rfl
        · rintro ⟨x, y, u⟩ ⟨h1, h2, h3⟩
          dsimp only at h1 h2 h3
          subst h1 h2 h3
          refine ⟨(yI (mx (sf m B b t) t), u), ?_, by rw [sM_b hb]⟩
          dsimp only
          unfold fX3_mostFrom_b14
          rw [if_pos ((yI_lt (by omega) (by omega) (by omega) (by omega)).mpr (by omega))]
        · show yI _ = yI (sG m b 0 + sM m B (B - (b + 1)) (t - 0))
          have : sG m b 0 = 0 := by unfold sG; rw [if_pos rfl]
          rw [this, Nat.sub_zero, Int.zero_add]
      rw [k1, k2]
  unfold fX3_mostFrom fX3_mostFrom_b0
  rw [add1, if_pos (inb_n (by omega) (by omega)), if_pos (inb_n (by omega) (by omega)), yI_cln (by omega), yI_cln (by omega), rc t ht, b1 H]
def dl (σ σ' : Sg) : Prop := ∀ o j, ¬ (68 ≤ o ∧ o ≤ 73) → rI σ' o j = rI σ o j
theorem RG_d {σ σ' : Sg} {m : Mm} {b : Nat} (h : RG σ m b) (b5 : b < 5) (f : dl σ σ') : RG σ' m b := ⟨by rw [f 66 b (by omega), h.1], fun z e e1 e2 => by rw [f (60 + b) e (by omega), h.2 z e e1 e2]⟩
theorem f3_deal {σ : Sg} {m : Mm} {B : Nat} (g : GB m B) (B5 : B ≤ 5) (rg : ∀ b, b < B → RG σ m b) : ∃ σ', fX3_deal (yI (B : Int)) σ = some σ' ∧ dl σ σ' ∧ ∀ b, b ≤ B → RC σ' m B b := by
  have L1 : ∃ t, lp (fun s : Int32 × Sg => fX3_deal_b2 (yI (B : Int)) s.1 s.2) FU ((0 : Int32), σ) = some t ∧ (dl σ t ∧ ∀ j, j ≤ 11 → rI t (68 + B) j = yI 0) := by
    refine lp_all (fun k s => s.1 = yI (k : Int) ∧ dl σ s.2 ∧ ∀ j, j < k → rI s.2 (68 + B) j = yI 0) 12 _ ?_ ?_ ⟨rfl, fun _ _ _ => rfl, fun j hj => absurd hj (Nat.not_lt_zero j)⟩ (FU_b (by omega))
    · rintro k ⟨x, t⟩ hk ⟨h1, h2, h3⟩
      dsimp only at h1 h2 h3
      subst h1
      refine ⟨(yI ((k + 1 : Nat) : Int), wI t (68 + B) k 0), ?_, rfl, fun o j n => ?_, fun j hj => ?_⟩
      · dsimp only
        unfold fX3_deal_b2
        rw [if_neg (gtn (v := 11) (b := 11) rfl (by omega) (by omega) (by omega)), if_pos (inb_n (by omega) (by omega)), if_pos (inb_n (by omega) (by omega)), yI_cln (by omega), yI_cln (by omega), add1]
      · dsimp only
        rw [rI_o (by omega)]; exact h2 o j n
      · dsimp only
        by_cases q : j = k
        · rw [q, rI_s]; rfl
        · rw [rI_k q]; exact h3 j (by omega)
    · rintro ⟨x, t⟩ ⟨h1, h2, h3⟩
      dsimp only at h1 h2 h3
      subst h1
      refine ⟨t, ?_, h2, fun j hj => h3 j (by omega)⟩
      dsimp only
      unfold fX3_deal_b2
      rw [if_pos (gtp (v := 11) (b := 11) rfl (by omega) (by omega) (by omega))]
  obtain ⟨t0, k1, k2, k3⟩ := L1
  have L2 : ∀ (b : Nat) (s : Sg), b < B → dl σ s → RC s m B (b + 1) → ∃ t, lp (fun s : Int32 × Sg => fX3_deal_b33 (yI (b : Int)) s.1 s.2) FU ((0 : Int32), s) = some t ∧ (RC t m B b ∧ ∀ o j, o ≠ 68 + b → rI t o j = rI s o j) := fun b s hb fs rc => by
    obtain ⟨u, u1, u2, u3⟩ : ∃ t, lp (fun s : Int32 × Sg => fX3_deal_b33 (yI (b : Int)) s.1 s.2) FU ((0 : Int32), s) = some t ∧ ((∀ j, j ≤ 11 → rI t (68 + b) j = yI (sM m B (B - b) j)) ∧ ∀ o j, o ≠ 68 + b → rI t o j = rI s o j) := by
      refine lp_all (fun k x => x.1 = yI (k : Int) ∧ (∀ j, j < k → rI x.2 (68 + b) j = yI (sM m B (B - b) j)) ∧ ∀ o j, o ≠ 68 + b → rI x.2 o j = rI s o j) 12 _ ?_ ?_ ⟨rfl, fun j hj => absurd hj (Nat.not_lt_zero j), fun _ _ _ => rfl⟩ (FU_b (by omega))
      · rintro k ⟨x, t⟩ hk ⟨h1, h2, h3⟩
        dsimp only at h1 h2 h3
        subst h1
        have rgt : RG t m b := RG_d (rg b hb) (by omega) (fun o j n => by rw [h3 o j (by omega), fs o j n])
        have rct : RC t m B (b + 1) := fun j hj => by rw [h3 _ _ (by omega)]; exact rc j hj
        have mf := f3_mostFrom (t := k) g B5 hb (by omega) rgt rct
        refine ⟨(yI ((k + 1 : Nat) : Int), wI t (68 + b) k (yI (sM m B (B - b) k))), ?_, rfl, fun j hj => ?_, fun o j n => ?_⟩
        · dsimp only
          unfold fX3_deal_b33
          rw [if_neg (gtn (v := 11) (b := 11) rfl (by omega) (by omega) (by omega)), if_pos (inb_n (by omega) (by omega)), b1 mf]
          dsimp only
          rw [if_pos (inb_n (by omega) (by omega)), yI_cln (by omega), yI_cln (by omega), add1]
        · dsimp only
          by_cases q : j = k
          · rw [q, rI_s]
          · rw [rI_k q]; exact h2 j (by omega)
        · dsimp only
          rw [rI_o n]; exact h3 o j n
      · rintro ⟨x, t⟩ ⟨h1, h2, h3⟩
        dsimp only at h1 h2 h3
        subst h1
        refine ⟨t, ?_, fun j hj => h2 j (by omega), h3⟩
        dsimp only
        unfold fX3_deal_b33
        rw [if_pos (gtp (v := 11) (b := 11) rfl (by omega) (by omega) (by omega))]
    exact ⟨u, u1, u2, u3⟩
  have L3 : ∃ t, lp (fun s : Int32 × Sg => fX3_deal_b27 s.1 s.2) FU (yI ((B : Int) - 1), t0) = some t ∧ (dl σ t ∧ ∀ b, b ≤ B → RC t m B b) := by
    refine lp_all (fun k s => s.1 = yI ((B : Int) - 1 - (k : Int)) ∧ dl σ s.2 ∧ ∀ b, b ≤ B → B ≤ b + k → RC s.2 m B b) B _ ?_ ?_ ⟨by rw [show (B : Int) - 1 - ((0 : Nat) : Int) = (B : Int) - 1 by omega], k2, fun b h1 h2 => ?_⟩ (FU_b (by omega))
    · rintro k ⟨x, t⟩ hk ⟨h1, h2, h3⟩
      dsimp only at h1 h2 h3
      subst h1
      obtain ⟨u, u1, u2, u3⟩ := L2 (B - 1 - k) t (by omega) h2 (h3 _ (by omega) (by omega))
      have ex : (B : Int) - 1 - (k : Int) = ((B - 1 - k : Nat) : Int) := by omega
      refine ⟨(yI ((B : Int) - 1 - ((k + 1 : Nat) : Int)), u), ?_, rfl, fun o j n => by rw [u3 o j (by omega), h2 o j n], fun b b1' b2' => ?_⟩
      · dsimp only
        unfold fX3_deal_b27
        rw [ex, if_neg (ltn (v := 0) (b := 0) rfl (by omega) (by omega) (by omega)), b1 u1, yI_m1, yI_add]
        congr 4
        omega
      · by_cases q : b = B - 1 - k
        · rw [q]; exact u2
        · exact fun j hj => by
            dsimp only
            rw [u3 _ _ (by omega)]; exact h3 b b1' (by omega) j hj
    · rintro ⟨x, t⟩ ⟨h1, h2, h3⟩
      dsimp only at h1 h2 h3
      subst h1
      refine ⟨t, ?_, h2, fun b hb => h3 b hb (by omega)⟩
      dsimp only
      unfold fX3_deal_b27
      rw [if_pos (ltp (v := 0) (b := 0) rfl (by omega) (by omega) (by omega))]
    · have : b = B := by omega
      rw [this]
      exact fun j hj => by
        dsimp only
        rw [k3 j hj, Nat.sub_self]; rfl
  obtain ⟨t, r1, r2, r3⟩ := L3
  refine ⟨t, ?_, r2, r3⟩
  unfold fX3_deal fX3_deal_b0
  rw [b1 k1, yI_1, yI_sub, b1 r1]
theorem f3_fewestFor {σ : Sg} {m : Mm} {B b t : Nat} (g : GB m B) (B5 : B ≤ 5) (hb : b < B) (ht : t ≤ 11) (rg : RG σ m b) (rc : RC σ m B b) (rc1 : RC σ m B (b + 1)) : fX3_fewestFor (yI (b : Int)) (yI (t : Int)) σ = some (yI (few (sf m B b t) t : Int), σ) := by
  have H : ∀ (k own n : Nat), own + k = t → k < n → (own = 0 ∨ qcn m (qsq m b) ≠ 0) → ∃ r, lp (fun s : Int32 × Sg => fX3_fewestFor_b2 (yI (b : Int)) (yI (t : Int)) s.1 s.2) n (yI (own : Int), σ) = some r ∧ el (fun t9 : Int32 × Sg => some (t9.1, t9.2)) (fun t9 : Sg => some (yI (t : Int), t9)) r = some (yI (fws (sf m B b t) t k own : Int), σ) := by
    intro k
    induction k with
    | zero =>
      intro own n h1 h2 hz
      obtain ⟨n, rfl⟩ : ∃ n', n = n' + 1 := ⟨n - 1, by omega⟩
      refine ⟨.inr σ, lp_en ?_, ?_⟩
      · dsimp only
        unfold fX3_fewestFor_b2
        rw [if_pos ((yI_le (by omega) (by omega) (by omega) (by omega)).mpr (by omega))]
      · show some (yI (t : Int), σ) = some (yI (own : Int), σ)
        rw [show own = t by omega]
    | succ k ih =>
      intro own n h1 h2 hz
      obtain ⟨n, rfl⟩ : ∃ n', n = n' + 1 := ⟨n - 1, by omega⟩
      have gg := f3_gainBy (t := own) g (by omega) hb (by omega) rg hz
      have c1 := sG_b (t := own) g hb (by omega)
      have c2 := sM_c (b := b + 1) (t := t - own) g B5 (by omega)
      have c3 := sM_c (b := b) (t := t) g B5 ht
      have ef : sf m B b t own = sG m b own + sM m B (B - (b + 1)) (t - own) := rfl
      have em := sM_b (m := m) (t := t) hb
      have ew : fws (sf m B b t) t (k + 1) own = if sf m B b t own = mx (sf m B b t) t then own else fws (sf m B b t) t k (own + 1) := rfl
      have ST : fX3_fewestFor_b2 (yI (b : Int)) (yI (t : Int)) (yI (own : Int)) σ = if sf m B b t own = mx (sf m B b t) t then some (.inr (.inl (yI (own : Int), σ))) else some (.inl (yI ((own + 1 : Nat) : Int), σ)) := by
        unfold fX3_fewestFor_b2
        rw [if_neg (fun q => by have := (yI_le (by omega) (by omega) (by omega) (by omega)).mp q; omega), b1 gg]
        dsimp only
        rw [add1, yI_sub, show (t : Int) - (own : Int) = ((t - own : Nat) : Int) by omega, if_pos (inb_n (by omega) (by omega)), if_pos (inb_n (by omega) (by omega)), if_pos (inb_n (by omega) (by omega)), if_pos (inb_n (by omega) (by omega)), yI_cln (by omega), yI_cln (by omega), yI_cln (by omega), yI_cln (by omega), rc1 _ (by omega), rc t ht, yI_add, add1]
        by_cases q : sf m B b t own = mx (sf m B b t) t
        · rw [if_pos q, if_pos (by rw [← ef, em, q])]
        · rw [if_neg q, if_neg (fun y => q (by rw [ef, ← em]; exact yI_inj (by omega) (by omega) (by omega) (by omega) y))]
      by_cases q : sf m B b t own = mx (sf m B b t) t
      · rw [if_pos q] at ST ew
        exact ⟨.inl (yI (own : Int), σ), lp_en ST, by rw [ew]; rfl⟩
      · rw [if_neg q] at ST ew
        have nz : qcn m (qsq m b) ≠ 0 := fun z => by
          rcases hz with h0 | h0
          · refine q ?_
            rw [← em, sM_no g B5 hb ht z, ef, h0]
            have : sG m b 0 = 0 := by unfold sG; rw [if_pos rfl]
            rw [this, Nat.sub_zero, Int.zero_add]
          · exact h0 z
        obtain ⟨r, r1, r2⟩ := ih (own + 1) n (by omega) (by omega) (Or.inr nz)
        exact ⟨r, (lp_st ST).trans r1, by rw [ew]; exact r2⟩
  obtain ⟨r, r1, r2⟩ := H t 0 FU (by omega) (FU_b (by omega)) (Or.inl rfl)
  unfold fX3_fewestFor fX3_fewestFor_b0
  rw [show (0 : Int32) = yI ((0 : Nat) : Int) from rfl, b1 r1, r2]
  rfl
theorem f3_tugsFor {σ : Sg} {m : Mm} {B b t : Nat} (g : GB m B) (B5 : B ≤ 5) (hb : b < B) (ht : t ≤ 11) (rg : ∀ i, i < B → RG σ m i) (rc : ∀ i, i ≤ B → RC σ m B i) : fX3_tugsFor (yI (b : Int)) (yI (t : Int)) σ = some (yI (few (sf m B b (lft m B t b)) (lft m B t b) : Int), σ) := by
  obtain ⟨u, u1, u2⟩ : ∃ u, lp (fun s : Int32 × Int32 × Sg => fX3_tugsFor_b5 (yI (b : Int)) s.1 s.2.1 s.2.2) FU (yI (t : Int), (0 : Int32), σ) = some u ∧ (u = (yI (lft m B t b : Int), σ)) := by
    refine lp_all (fun k s => s.1 = yI (lft m B t k : Int) ∧ s.2.1 = yI (k : Int) ∧ s.2.2 = σ) b _ ?_ ?_ ⟨rfl, rfl, rfl⟩ (FU_b (by omega))
    · rintro k ⟨x, y, s⟩ hk ⟨h1, h2, h3⟩
      dsimp only at h1 h2 h3
      subst h1 h2 h3
      have lb := lft_b m B t k
      have fb := few_b (sf m B k (lft m B t k)) (lft m B t k)
      have ff := f3_fewestFor (b := k) (t := lft m B t k) g B5 (by omega) (by omega) (rg k (by omega)) (rc k (by omega)) (rc (k + 1) (by omega))
      refine ⟨(yI (lft m B t (k + 1) : Int), yI ((k + 1 : Nat) : Int), s), ?_, rfl, rfl, rfl⟩
      dsimp only
      unfold fX3_tugsFor_b5
      rw [if_neg (fun q => by have := (yI_le (by omega) (by omega) (by omega) (by omega)).mp q; omega), b1 ff]
      dsimp only
      rw [yI_sub, add1]
      have : lft m B t (k + 1) = lft m B t k - few (sf m B k (lft m B t k)) (lft m B t k) := rfl
      rw [this]
      congr 4
      omega
    · rintro ⟨x, y, s⟩ ⟨h1, h2, h3⟩
      dsimp only at h1 h2 h3
      subst h1 h2 h3
      refine ⟨_, ?_, rfl⟩
      dsimp only
      unfold fX3_tugsFor_b5
      rw [if_pos ((yI_le (by omega) (by omega) (by omega) (by omega)).mpr (Int.le_refl _))]
  have lb := lft_b m B t b
  have ff := f3_fewestFor (b := b) (t := lft m B t b) g B5 hb (by omega) (rg b hb) (rc b (by omega)) (rc (b + 1) (by omega))
  unfold fX3_tugsFor fX3_tugsFor_b0
  rw [b1 u1, u2]
  dsimp only
  rw [b1 ff]
