/-! ===== the model's season: the most, and how many tugs ===== -/
def RQ (τ : Sg) (m : Mm) (B b T : Nat) : Prop := ∀ t, t ≤ T → rI τ 12 (12 * b + t) = yI (sM m B (B - b) t)
def dq (τ τ' : Sg) : Prop := ∀ o j, o ≠ 12 → rI τ' o j = rI τ o j
theorem sf_b {m : Mm} {B b t own : Nat} (g : GB m B) (B5 : B ≤ 5) (hb : b < B) (ht : t ≤ 11) (ho : own ≤ t) : -100000000 ≤ sf m B b t own ∧ sf m B b t own ≤ 54000 := by
  have d1 := sG_b (t := own) g hb (by omega)
  have d2 := sM_c (b := b + 1) (t := t - own) g B5 (by omega)
  have : sf m B b t own = sG m b own + sM m B (B - (b + 1)) (t - own) := rfl
  omega
theorem mx_b {m : Mm} {B b t k : Nat} (g : GB m B) (B5 : B ≤ 5) (hb : b < B) (ht : t ≤ 11) (hk : k ≤ t) : 0 ≤ mx (sf m B b t) k ∧ mx (sf m B b t) k ≤ 54000 := by
  obtain ⟨i, i1, i2⟩ := mx_at (f := sf m B b t) k
  have h1 := sf_b (own := i) g B5 hb ht (by omega)
  have h0 := mx_le (f := sf m B b t) k 0 (Nat.zero_le _)
  have e0 : sf m B b t 0 = sM m B (B - (b + 1)) t := by
    show sG m b 0 + sM m B (B - (b + 1)) (t - 0) = _
    have : sG m b 0 = 0 := by unfold sG; rw [if_pos rfl]
    rw [this, Nat.sub_zero, Int.zero_add]
  have d2 := sM_c (b := b + 1) (t := t) g B5 ht
  omega
theorem idx (b l t : Nat) (h : t ≤ l) : yI ((12 * b : Nat) : Int) + (12 : Int32) + yI (l : Int) - yI (t : Int) = yI ((12 * (b + 1) + (l - t) : Nat) : Int) := by
  rw [show yI ((12 * b : Nat) : Int) + (12 : Int32) = yI ((12 * b + 12 : Nat) : Int) from addn (12 * b) 12, addn, yI_sub]
  congr 1
  omega
theorem f10_inner {τ : Sg} {m : Mm} {B b l T : Nat} (g : GB m B) (B5 : B ≤ 5) (hb : b < B) (T11 : T ≤ 11) (hl : l ≤ T) (rm : RM τ m b T) (rq : RQ τ m B (b + 1) T) (x1 x2 : Int32) : lp (fun s : Int32 × Int32 × Sg => fX10_seasonOf_b182 x1 x2 (yI (b : Int)) (yI (l : Int)) s.1 s.2.1 s.2.2) FU ((-100000000 : Int32), (0 : Int32), τ) = some (yI (sM m B (B - b) l), τ) := by
  obtain ⟨r, k1, k2⟩ : ∃ r, lp (fun s : Int32 × Int32 × Sg => fX10_seasonOf_b182 x1 x2 (yI (b : Int)) (yI (l : Int)) s.1 s.2.1 s.2.2) FU ((-100000000 : Int32), (0 : Int32), τ) = some r ∧ (r = (yI (sM m B (B - b) l), τ)) := by
    refine lp_all (fun k s => ((k = 0 ∧ s.1 = yI (-100000000)) ∨ (1 ≤ k ∧ s.1 = yI (mx (sf m B b l) (k - 1)))) ∧ s.2.1 = yI (k : Int) ∧ s.2.2 = τ) (l + 1) _ ?_ ?_ ⟨Or.inl ⟨rfl, rfl⟩, rfl, rfl⟩ (FU_b (by omega))
    · rintro k ⟨x, y, u⟩ hk ⟨h1, h2, h3⟩
      dsimp only at h1 h2 h3
      subst h2 h3
      have fb := sf_b (own := k) g B5 hb (by omega : l ≤ 11) (by omega)
      have mb := mx_b (k := k) g B5 hb (by omega : l ≤ 11) (by omega)
      have ev : yI (sG m b k) + yI (sM m B (B - (b + 1)) (l - k)) = yI (sf m B b l k) := by rw [yI_add]
      have em : ∀ j, k = j + 1 → mx (sf m B b l) k = max (mx (sf m B b l) j) (sf m B b l k) := fun j e => by subst e; rfl
      have BODY : fX10_seasonOf_b182 x1 x2 (yI (b : Int)) (yI (l : Int)) x (yI (k : Int)) u = if yI (sf m B b l k) ≤ x then some (.inl (x, yI ((k + 1 : Nat) : Int), u)) else some (.inl (yI (sf m B b l k), yI ((k + 1 : Nat) : Int), u)) := by
        unfold fX10_seasonOf_b182 fX10_seasonOf_b236
        rw [if_neg (fun q => by have := (yI_lt (by omega) (by omega) (by omega) (by omega)).mp q; omega), mul12, idx b l k (by omega), addn, if_pos (inb_n (by omega) (by omega)), if_pos (inb_n (by omega) (by omega)), yI_cln (by omega), yI_cln (by omega), rm k (by omega), rq (l - k) (by omega), ev, add1]
      dsimp only
      rw [BODY]
      rcases h1 with ⟨k0, rfl⟩ | ⟨k1, rfl⟩
      · rw [if_neg (fun q => by
          have := (yI_le (by omega) (by omega) (by omega) (by omega)).mp q
          have e0 : mx (sf m B b l) k = sf m B b l k := by rw [k0]; rfl
          omega)]
        refine ⟨_, rfl, Or.inr ⟨by omega, ?_⟩, rfl, rfl⟩
        dsimp only
        rw [Nat.add_sub_cancel, k0]; rfl
      · have ek := em (k - 1) (by omega)
        have mb2 := mx_b (k := k - 1) g B5 hb (by omega : l ≤ 11) (by omega)
        by_cases q : sf m B b l k ≤ mx (sf m B b l) (k - 1)
        · rw [if_pos ((yI_le (by omega) (by omega) (by omega) (by omega)).mpr q)]
          refine ⟨_, rfl, Or.inr ⟨by omega, ?_⟩, rfl, rfl⟩
          dsimp only
          rw [Nat.add_sub_cancel, ek]
          congr 1; omega
        · rw [if_neg (fun w => q ((yI_le (by omega) (by omega) (by omega) (by omega)).mp w))]
          refine ⟨_, rfl, Or.inr ⟨by omega, ?_⟩, rfl, rfl⟩
          dsimp only
          rw [Nat.add_sub_cancel, ek]
          congr 1; omega
    · rintro ⟨x, y, u⟩ ⟨h1, h2, h3⟩
      dsimp only at h1 h2 h3
      subst h2 h3
      rcases h1 with ⟨k0, -⟩ | ⟨-, rfl⟩
      · omega
      · rw [Nat.add_sub_cancel]
        refine ⟨(yI (mx (sf m B b l) l), u), ?_, by rw [sM_b hb]⟩
        dsimp only
        unfold fX10_seasonOf_b182
        rw [if_pos ((yI_lt (by omega) (by omega) (by omega) (by omega)).mpr (by omega))]
  rw [k1, k2]
theorem f10_row {τ : Sg} {m : Mm} {B b T : Nat} (g : GB m B) (B5 : B ≤ 5) (hb : b < B) (T11 : T ≤ 11) (rm : RM τ m b T) (rq : RQ τ m B (b + 1) T) (x2 : Int32) : ∃ t, lp (fun s : Int32 × Sg => fX10_seasonOf_b168 (yI (T : Int)) x2 (yI (b : Int)) s.1 s.2) FU ((0 : Int32), τ) = some t ∧ (RQ t m B b T ∧ dq τ t ∧ ∀ j, 12 * b + 12 ≤ j → rI t 12 j = rI τ 12 j) := by
  obtain ⟨u, u1, u2, u3, u4⟩ : ∃ t, lp (fun s : Int32 × Sg => fX10_seasonOf_b168 (yI (T : Int)) x2 (yI (b : Int)) s.1 s.2) FU ((0 : Int32), τ) = some t ∧ ((∀ j, j ≤ T → rI t 12 (12 * b + j) = yI (sM m B (B - b) j)) ∧ dq τ t ∧ ∀ j, 12 * b + 12 ≤ j → rI t 12 j = rI τ 12 j) := by
    refine lp_all (fun k s => s.1 = yI (k : Int) ∧ (∀ j, j < k → rI s.2 12 (12 * b + j) = yI (sM m B (B - b) j)) ∧ dq τ s.2 ∧ ∀ j, 12 * b + 12 ≤ j → rI s.2 12 j = rI τ 12 j) (T + 1) _ ?_ ?_ ⟨rfl, fun j hj => absurd hj (Nat.not_lt_zero j), fun _ _ _ => rfl, fun _ _ => rfl⟩ (FU_b (by omega))
    · rintro k ⟨x, t⟩ hk ⟨h1, h2, h3, h4⟩
      dsimp only at h1 h2 h3 h4
      subst h1
      have ii := f10_inner (τ := t) (l := k) g B5 hb T11 (by omega) (fun j hj => by rw [h3 11 _ (by omega)]; exact rm j hj) (fun j hj => by rw [h4 _ (by omega)]; exact rq j hj) (yI (T : Int)) x2
      refine ⟨(yI ((k + 1 : Nat) : Int), wI t 12 (12 * b + k) (yI (sM m B (B - b) k))), ?_, rfl, fun j hj => ?_, fun o j n => ?_, fun j hj => ?_⟩
      · dsimp only
        unfold fX10_seasonOf_b168
        rw [if_neg (fun q => by have := (yI_lt (by omega) (by omega) (by omega) (by omega)).mp q; omega), b1 ii]
        dsimp only
        rw [mul12, addn, if_pos (inb_n (by omega) (by omega)), yI_cln (by omega), add1]
      · dsimp only
        by_cases q : j = k
        · rw [q, rI_s]
        · rw [rI_k (by omega)]; exact h2 j (by omega)
      · dsimp only
        rw [rI_o n]; exact h3 o j n
      · dsimp only
        rw [rI_k (by omega)]; exact h4 j hj
    · rintro ⟨x, t⟩ ⟨h1, h2, h3, h4⟩
      dsimp only at h1 h2 h3 h4
      subst h1
      refine ⟨t, ?_, fun j hj => h2 j (by omega), h3, h4⟩
      dsimp only
      unfold fX10_seasonOf_b168
      rw [if_pos ((yI_lt (by omega) (by omega) (by omega) (by omega)).mpr (by omega))]
  exact ⟨u, u1, u2, u3, u4⟩
theorem f10_rows {τ : Sg} {m : Mm} {B T : Nat} (g : GB m B) (B5 : B ≤ 5) (T11 : T ≤ 11) (rm : ∀ b, b < B → RM τ m b T) (rq : RQ τ m B B T) (x2 : Int32) : ∃ t, lp (fun s : Int32 × Sg => fX10_seasonOf_b161 (yI (T : Int)) x2 s.1 s.2) FU (yI ((B : Int) - 1), τ) = some t ∧ (dq τ t ∧ ∀ b, b ≤ B → RQ t m B b T) := by
  refine lp_all (fun k s => s.1 = yI ((B : Int) - 1 - (k : Int)) ∧ dq τ s.2 ∧ ∀ b, b ≤ B → B ≤ b + k → RQ s.2 m B b T) B _ ?_ ?_ ⟨by rw [show (B : Int) - 1 - ((0 : Nat) : Int) = (B : Int) - 1 by omega], fun _ _ _ => rfl, fun b h1 h2 => ?_⟩ (FU_b (by omega))
  · rintro k ⟨x, t⟩ hk ⟨h1, h2, h3⟩
    dsimp only at h1 h2 h3
    subst h1
    obtain ⟨u, u1, u2, u3, u4⟩ := f10_row (τ := t) (b := B - 1 - k) g B5 (by omega) T11 (fun j hj => by rw [h2 11 _ (by omega)]; exact rm _ (by omega) j hj) (h3 _ (by omega) (by omega)) x2
    have ex : (B : Int) - 1 - (k : Int) = ((B - 1 - k : Nat) : Int) := by omega
    refine ⟨(yI ((B : Int) - 1 - ((k + 1 : Nat) : Int)), u), ?_, rfl, fun o j n => by rw [u3 o j n, h2 o j n], fun b b1' b2' => ?_⟩
    · dsimp only
      unfold fX10_seasonOf_b161
      rw [ex, if_neg (ltn (v := 0) (b := 0) rfl (by omega) (by omega) (by omega)), b1 u1, yI_m1, yI_add]
      congr 4
      omega
    · by_cases q : b = B - 1 - k
      · rw [q]; exact u2
      · exact fun j hj => by
          dsimp only
          rw [u4 _ (by omega)]; exact h3 b b1' (by omega) j hj
  · rintro ⟨x, t⟩ ⟨h1, h2, h3⟩
    dsimp only at h1 h2 h3
    subst h1
    refine ⟨t, ?_, h2, fun b hb => h3 b hb (by omega)⟩
    dsimp only
    unfold fX10_seasonOf_b161
    rw [if_pos (ltp (v := 0) (b := 0) rfl (by omega) (by omega) (by omega))]
  · have : b = B := by omega
    rw [this]; exact rq
theorem f10_few {τ : Sg} {m : Mm} {B b l T : Nat} (g : GB m B) (B5 : B ≤ 5) (hb : b < B) (T11 : T ≤ 11) (hl : l ≤ T) (rm : RM τ m b T) (rq : RQ τ m B b T) (rq1 : RQ τ m B (b + 1) T) (x2 : Int32) : lp (fun s : Int32 × Sg => fX10_seasonOf_b314 x2 (yI (l : Int)) s.1 (yI (b : Int)) s.2) FU ((0 : Int32), τ) = some (yI (few (sf m B b l) l : Int), τ) := by
  have em := sM_b (m := m) (t := l) hb
  have mb := mx_b (k := l) g B5 hb (by omega : l ≤ 11) (Nat.le_refl _)
  have ST : ∀ own, own ≤ l → fX10_seasonOf_b314 x2 (yI (l : Int)) (yI (own : Int)) (yI (b : Int)) τ = if mx (sf m B b l) l ≤ sf m B b l own then some (.inr (yI (own : Int), τ)) else some (.inl (yI ((own + 1 : Nat) : Int), τ)) := fun own ho => by
    have fb := sf_b (own := own) g B5 hb (by omega : l ≤ 11) ho
    have ev : yI (sG m b own) + yI (sM m B (B - (b + 1)) (l - own)) = yI (sf m B b l own) := by rw [yI_add]
    unfold fX10_seasonOf_b314
    rw [mul12, idx b l own ho, addn, addn, if_pos (inb_n (by omega) (by omega)), if_pos (inb_n (by omega) (by omega)), if_pos (inb_n (by omega) (by omega)), yI_cln (by omega), yI_cln (by omega), yI_cln (by omega), rm own (by omega), rq l hl, rq1 (l - own) (by omega), ev, em, add1]
    by_cases q : mx (sf m B b l) l ≤ sf m B b l own
    · rw [if_pos q, if_pos ((yI_le (by omega) (by omega) (by omega) (by omega)).mpr q)]
    · rw [if_neg q, if_neg (fun w => q ((yI_le (by omega) (by omega) (by omega) (by omega)).mp w))]
  have H : ∀ (k own n : Nat), own + k = l → k < n → (∀ j, j < own → sf m B b l j ≠ mx (sf m B b l) l) → lp (fun s : Int32 × Sg => fX10_seasonOf_b314 x2 (yI (l : Int)) s.1 (yI (b : Int)) s.2) n (yI (own : Int), τ) = some (yI (fws (sf m B b l) l k own : Int), τ) := by
    intro k
    induction k with
    | zero =>
      intro own n h1 h2 hn
      obtain ⟨n, rfl⟩ : ∃ n', n = n' + 1 := ⟨n - 1, by omega⟩
      obtain ⟨i, i1, i2⟩ := mx_at (f := sf m B b l) l
      have e : i = own := by
        by_cases q : i < own
        · exact absurd i2 (hn i q)
        · omega
      have s := ST own (by omega)
      rw [if_pos (by rw [← i2, e]; exact Int.le_refl _)] at s
      exact lp_en s
    | succ k ih =>
      intro own n h1 h2 hn
      obtain ⟨n, rfl⟩ : ∃ n', n = n' + 1 := ⟨n - 1, by omega⟩
      have s := ST own (by omega)
      have le := mx_le (f := sf m B b l) l own (by omega)
      have ew : fws (sf m B b l) l (k + 1) own = if sf m B b l own = mx (sf m B b l) l then own else fws (sf m B b l) l k (own + 1) := rfl
      by_cases q : sf m B b l own = mx (sf m B b l) l
      · rw [if_pos (by rw [q]; exact Int.le_refl _)] at s
        rw [if_pos q] at ew
        rw [ew]
        exact lp_en s
      · rw [if_neg (fun w => q (Int.le_antisymm le w))] at s
        rw [if_neg q] at ew
        rw [ew]
        refine (lp_st s).trans (ih (own + 1) n (by omega) (by omega) (fun j hj => ?_))
        by_cases y : j = own
        · rw [y]; exact q
        · exact hn j (by omega)
  exact H l 0 FU (by omega) (FU_b (by omega)) (fun j hj => absurd hj (Nat.not_lt_zero j))
/-- the tugs given to the berg before -/
def gvn (m : Mm) (B T : Nat) : Nat → Nat
  | 0 => 0
  | b + 1 => few (sf m B b (lft m B T b)) (lft m B T b)
theorem f10_given {τ : Sg} {m : Mm} {B T w : Nat} (g : GB m B) (B5 : B ≤ 5) (hw : w ≤ B) (T11 : T ≤ 11) (rm : ∀ b, b < B → RM τ m b T) (rq : ∀ b, b ≤ B → RQ τ m B b T) : lp (fun s : Int32 × Int32 × Int32 × Sg => fX10_seasonOf_b305 (yI (w : Int)) s.1 s.2.1 s.2.2.1 s.2.2.2) FU (yI (T : Int), (0 : Int32), (0 : Int32), τ) = some (yI (gvn m B T w : Int), τ) := by
  obtain ⟨u, u1, u2⟩ : ∃ u, lp (fun s : Int32 × Int32 × Int32 × Sg => fX10_seasonOf_b305 (yI (w : Int)) s.1 s.2.1 s.2.2.1 s.2.2.2) FU (yI (T : Int), (0 : Int32), (0 : Int32), τ) = some u ∧ (u = (yI (gvn m B T w : Int), τ)) := by
    refine lp_all (fun k s => s.1 = yI (lft m B T k : Int) ∧ s.2.1 = yI (gvn m B T k : Int) ∧ s.2.2.1 = yI (k : Int) ∧ s.2.2.2 = τ) w _ ?_ ?_ ⟨rfl, rfl, rfl, rfl⟩ (FU_b (by omega))
    · rintro k ⟨x, y, z, s⟩ hk ⟨h1, h2, h3, h4⟩
      dsimp only at h1 h2 h3 h4
      subst h1 h2 h3 h4
      have lb := lft_b m B T k
      have fb := few_b (sf m B k (lft m B T k)) (lft m B T k)
      have ff := f10_few (b := k) (l := lft m B T k) g B5 (by omega) T11 lb (rm k (by omega)) (rq k (by omega)) (rq (k + 1) (by omega)) (yI (w : Int))
      refine ⟨(yI (lft m B T (k + 1) : Int), yI (gvn m B T (k + 1) : Int), yI ((k + 1 : Nat) : Int), s), ?_, rfl, rfl, rfl, rfl⟩
      dsimp only
      unfold fX10_seasonOf_b305
      rw [if_neg (fun q => by have := (yI_le (by omega) (by omega) (by omega) (by omega)).mp q; omega), b1 ff]
      dsimp only
      rw [yI_sub, add1]
      have e1 : lft m B T (k + 1) = lft m B T k - few (sf m B k (lft m B T k)) (lft m B T k) := rfl
      have e2 : gvn m B T (k + 1) = few (sf m B k (lft m B T k)) (lft m B T k) := rfl
      rw [e1, e2, show (lft m B T k : Int) - (few (sf m B k (lft m B T k)) (lft m B T k) : Int) = ((lft m B T k - few (sf m B k (lft m B T k)) (lft m B T k) : Nat) : Int) by omega]
    · rintro ⟨x, y, z, s⟩ ⟨h1, h2, h3, h4⟩
      dsimp only at h1 h2 h3 h4
      subst h1 h2 h3 h4
      refine ⟨_, ?_, rfl⟩
      dsimp only
      unfold fX10_seasonOf_b305
      rw [if_pos ((yI_le (by omega) (by omega) (by omega) (by omega)).mpr (Int.le_refl _))]
  rw [u1, u2]
