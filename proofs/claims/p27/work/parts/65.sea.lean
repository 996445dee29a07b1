/-! ===== sea ===== -/
theorem core_y {ns : Nat → Nat → Bool} {σ : Sg} {o k : Nat} {x : Int} (h : ns o k = true) (e : rI σ o k = yI x) (h1 : -2147483648 ≤ x) (h2 : x < 2147483648) : core ns σ o k = x := by
  rw [core_g h, e, yI_int h1 h2]
theorem IV_sea {n : Nat} {c m c' m' : Mm} (h : IV n c m) (v : VS m') (t : VT c' m') (a1 : c' 1 1 = 0) (a2 : m' 0 1 = 0) (a3 : c' 0 10 = c 0 10 + 1) (a4 : m' 0 12 = m 0 12 + 1) (a5 : c' 0 9 = 0) (a6 : m' 0 15 = 0) (a7 : ∀ j, j < 3 → c' 41 j = c 41 j) (a8 : CE m m') (a9 : c' 49 3 = 0) (a10 : m' 0 20 = 0) (a11 : c' 0 11 = c 0 11) (a12 : m' 0 40 = m 0 40) (a13 : m' 0 43 = m 0 43) (a14 : m' 0 44 = m 0 44) (a15 : c' 53 5 = c 53 5) : IV (n + 1) c' m' := by
  obtain ⟨hp, hq, hb, hcc, hl, hd, hi, hg⟩ := h
  have q1 := hq.1
  have q2 := hq.2.1
  have q3 := hq.2.2.1
  refine ⟨⟨by rw [a1, a2], by omega, by omega, fun k hk => by omega⟩, ⟨by omega, by omega, by omega, Or.inr ⟨by omega, v, t⟩⟩, ⟨by omega, by omega, by omega, fun b hb => by omega⟩, ?_, ⟨by omega, by omega, by omega, fun k hk => by omega⟩, ?_, ?_, fun b hb => by omega⟩
  · unfold VC
    rw [a7 0 (by omega), a7 1 (by omega), a7 2 (by omega), a8.1, a8.2.1, a8.2.2]; exact hcc
  · unfold VD
    rw [a11, a12]; exact hd
  · unfold VI
    rw [a13, a14, a15]
    rcases hi with i | ⟨i1, i2, i3, i4, i5, i6⟩
    · exact Or.inl i
    · exact Or.inr ⟨i1, i2, i3, by omega, i5, fun q => by omega⟩
theorem f10_copy (τ : Sg) : ∃ t, lp (fun s : Int32 × Sg => fX10_sea_b68 s.1 s.2) FU ((0 : Int32), τ) = some t ∧ ((∀ j, j < 30 → rI t 4 j = rI τ 2 j ∧ rI t 5 j = rI τ 3 j) ∧ ∀ o j, o ≠ 4 → o ≠ 5 → rI t o j = rI τ o j) := by
  refine lp_all (fun k s => s.1 = yI (k : Int) ∧ (∀ j, j < k → rI s.2 4 j = rI τ 2 j ∧ rI s.2 5 j = rI τ 3 j) ∧ ∀ o j, o ≠ 4 → o ≠ 5 → rI s.2 o j = rI τ o j) 30 _ ?_ ?_ ⟨rfl, fun j hj => absurd hj (Nat.not_lt_zero j), fun _ _ _ _ => rfl⟩ (FU_b (by omega))
  · rintro k ⟨x, t⟩ hk ⟨h1, h2, h3⟩
    dsimp only at h1 h2 h3
    subst h1
    refine ⟨(yI ((k + 1 : Nat) : Int), wI (wI t 4 k (rI t 2 k)) 5 k (rI (wI t 4 k (rI t 2 k)) 3 k)), ?_, rfl, fun j hj => ?_, fun o j a b => ?_⟩
    · dsimp only
      unfold fX10_sea_b68
      rw [if_neg (gen (v := 30) (b := 30) rfl (by omega) (by omega) (by omega)), if_pos (inb_n (by omega) hk), if_pos (inb_n (by omega) hk), if_pos (inb_n (by omega) hk), if_pos (inb_n (by omega) hk), yI_cln (by omega), add1]
    · dsimp only
      rw [rI_o (by omega)]
      by_cases e : j = k
      · rw [e, rI_s, rI_s, rI_o (by omega), h3 2 k (by omega) (by omega), h3 3 k (by omega) (by omega)]; exact ⟨rfl, rfl⟩
      · rw [rI_k e, rI_k e, rI_o (by omega)]; exact h2 j (by omega)
    · dsimp only
      rw [rI_o b, rI_o a]; exact h3 o j a b
  · rintro ⟨x, t⟩ ⟨h1, h2, h3⟩
    dsimp only at h1 h2 h3
    subst h1
    refine ⟨t, ?_, h2, h3⟩
    dsimp only
    unfold fX10_sea_b68
    rw [if_pos (gep (v := 30) (b := 30) rfl (by omega) (by omega) (by omega))]
/-- a page that is a sea -/
abbrev isS (s : SS) : Prop := 1 ≤ s.1 ∧ s.2.2.1 = s.2.1 ∧ s.2.2.2.1 ≠ -1
/-- the model's sea, new -/
theorem f10_newsea {τ : Sg} {p : Nat → Int} {L k : Nat} {s : SS} {q : Int} (hs : scn p L = some s) (i : isS s) (p0 : rI τ 0 1 = yI (L : Int)) (hk : k = L) (ps : PM τ s) (ar : AR τ s (scw p L) (scf p L)) {τ0 : Sg} (h0 : fX10_faultOf τ0 = some (yI (k : Int), τ)) (L64 : L ≤ 64) (h12 : rI τ 0 12 = yI q) : ∃ τ', fX10_sea τ0 = some (yI (((s.1 + 1) * s.2.1 : Nat) : Int), τ') ∧ (rI τ' 0 9 = yI ((s.1 + 1 : Nat) : Int) ∧ rI τ' 0 10 = yI (s.2.1 : Int) ∧ rI τ' 0 11 = yI s.2.2.2.1 ∧ rI τ' 0 15 = yI 0 ∧ rI τ' 0 20 = yI 0 ∧ rI τ' 0 12 = yI (q + 1) ∧ rI τ' 0 1 = yI 0) ∧ (∀ j, j < (s.1 + 1) * s.2.1 → rI τ' 4 j = yI (scw p L j) ∧ rI τ' 5 j = yI (scf p L j)) ∧ ∀ o j, o ≠ 4 → o ≠ 5 → ¬ (o = 0 ∧ (j = 1 ∨ j = 9 ∨ j = 10 ∨ j = 11 ∨ j = 12 ∨ j = 15 ∨ j = 20)) → rI τ' o j = rI τ o j := by
  have ok := scn_ok L s hs
  obtain ⟨R, W, M, H, F⟩ := s
  obtain ⟨h1, h2, h3, h4, h5, h6, h7⟩ := ok
  obtain ⟨p1, p2, p3, p4, p5⟩ := ps
  obtain ⟨i1, i2, i3⟩ := i
  dsimp only at h1 h2 h3 h4 h5 h6 h7 p1 p2 p3 p4 p5 i1 i2 i3
  subst hk
  have hW := h3 i1
  have N30 : (R + 1) * W ≤ 5 * 6 := Nat.mul_le_mul (by omega) hW.2.1
  obtain ⟨t, k1, k2, k3⟩ := f10_copy (wI (wI (wI τ 0 9 (yI ((R + 1 : Nat) : Int))) 0 10 (yI (W : Int))) 0 11 (yI H))
  have t9 : rI t 0 9 = yI ((R + 1 : Nat) : Int) := by rw [k3 0 9 (by omega) (by omega), rI_k (by omega), rI_k (by omega), rI_s]
  have t10 : rI t 0 10 = yI (W : Int) := by rw [k3 0 10 (by omega) (by omega), rI_k (by omega), rI_s]
  have t11 : rI t 0 11 = yI H := by rw [k3 0 11 (by omega) (by omega), rI_s]
  have t12 : rI t 0 12 = yI q := by rw [k3 0 12 (by omega) (by omega), rI_k (by omega), rI_k (by omega), rI_k (by omega), h12]
  refine ⟨wI (wI (wI (wI t 0 15 0) 0 20 0) 0 12 (yI (q + 1))) 0 1 0, ?_, ⟨?_, ?_, ?_, ?_, ?_, ?_, ?_⟩, fun j hj => ?_, fun o j a b c => ?_⟩
  · unfold fX10_sea fX10_sea_b0
    rw [b1 h0]
    dsimp only
    rw [p0, if_neg (fun q => by have := (yI_lt (by omega) (by omega) (by omega) (by omega)).mp q; omega), p1, if_neg (yI_nl (v := 0) (b := 0) rfl (by omega) (by omega) (by omega)), p2, p3, if_pos (by rw [i2]), p4, if_neg (yI_nl (v := -1) (b := -1) rfl (by omega) (by omega) i3), add1]
    simp (disch := omega) only [rI_k, p3, p4]
    rw [b1 k1]
    simp (disch := omega) only [rI_k, rI_s, t9, t10, t12]
    rw [yI_1, yI_add, yI_mul]; rfl
  · rw [rI_k (by omega), rI_k (by omega), rI_k (by omega), rI_k (by omega), t9]
  · rw [rI_k (by omega), rI_k (by omega), rI_k (by omega), rI_k (by omega), t10]
  · rw [rI_k (by omega), rI_k (by omega), rI_k (by omega), rI_k (by omega), t11]
  · rw [rI_k (by omega), rI_k (by omega), rI_k (by omega), rI_s]; rfl
  · rw [rI_k (by omega), rI_k (by omega), rI_s]; rfl
  · rw [rI_k (by omega), rI_s]
  · rw [rI_s]; rfl
  · have ea : (R + 1) * W = W * R + M := by rw [i2, Nat.add_mul, Nat.mul_comm R W]; omega
    have hj : j < (R + 1) * W := hj
    have aj := ar j (by show j < W * R + M; omega)
    rw [rI_o (by omega), rI_o (by omega), rI_o (by omega), rI_o (by omega), rI_o (by omega), rI_o (by omega), rI_o (by omega), rI_o (by omega), (k2 j (by omega)).1, (k2 j (by omega)).2, rI_o (by omega), rI_o (by omega), rI_o (by omega), rI_o (by omega), rI_o (by omega), rI_o (by omega)]
    exact aj
  · rw [rI_wI, if_neg (by omega), rI_wI, if_neg (by omega), rI_wI, if_neg (by omega), rI_wI, if_neg (by omega), k3 o j a b, rI_wI, if_neg (by omega), rI_wI, if_neg (by omega), rI_wI, if_neg (by omega)]
/-- the class's sea, new -/
theorem f7_lay {σ : Sg} {p : Nat → Int} {L : Nat} {s : SS} {m : Mm} (hs : scn p L = some s) (i : isS s) (hL : rI σ 1 1 = yI (L : Int)) (L64 : L ≤ 64) (hp : ∀ k, k < L → rI σ 2 k = yI (p k) ∧ 1 ≤ p k ∧ p k ≤ 126) (v : VS m) (e9 : qR m = s.1 + 1) (e10 : qW m = s.2.1) (e11 : (qH m : Int) = s.2.2.2.1) (e4 : ∀ j, j < (s.1 + 1) * s.2.1 → m 4 j = scw p L j ∧ m 5 j = scf p L j) : ∃ t, fX7_lay σ = some t ∧ (rI t 4 5 = yI (((s.1 + 1) * s.2.1 : Nat) : Int) ∧ rI t 4 6 = yI (s.2.1 : Int) ∧ rI t 4 7 = yI s.2.2.2.1) ∧ (∀ j, j < (s.1 + 1) * s.2.1 → rI t 5 j = yI (m 4 j) ∧ rI t 6 j = yI (m 5 j) ∧ rI t 7 j = yI (qF m j : Int) ∧ DN1 t m j) ∧ ∀ o j, ¬ (4 ≤ o ∧ o < 40) → rI t o j = rI σ o j := by
  obtain ⟨-, w1, w2⟩ := v.W
  have b30 := v.b30
  have hH := v.H.2
  obtain ⟨t, k1, k2, k3⟩ := f7_letters hL L64 hp hs
  obtain ⟨l1, l2, l3, l4⟩ := k2
  have ea : atS s = (s.1 + 1) * s.2.1 := by
    unfold atS
    rw [i.2.1, Nat.add_mul, Nat.mul_comm s.1 s.2.1]; omega
  rw [ea] at l1 l4
  rw [← e9, ← e10] at *
  have l3' : rI t 4 7 = yI (qH m : Int) := by rw [l3 i.2.2, e11]
  obtain ⟨u, u1, u2, u3⟩ := f7_measure (σ := t) l1 l2 l3' b30 (by omega) w2 (by omega)
  have ge : GE u m := by
    refine ⟨by rw [u3 4 5 (by omega), l1], by rw [u3 4 6 (by omega), l2], fun x hx => ⟨?_, u2 x hx⟩⟩
    rw [u3 5 x (by omega), (l4 x hx).1, ← (e4 x hx).1, ← (qL_b v hx).1]
  obtain ⟨r, r1, r2, r3⟩ := f7_opened v ge
  refine ⟨r, ?_, ⟨?_, ?_, ?_⟩, fun j hj => ⟨?_, ?_, ?_, r3 j hj⟩, fun o j a => ?_⟩
  · unfold fX7_lay fX7_lay_b0
    rw [b1 k1, b1 u1, b1 r1]
  · rw [r2 4 5 (by omega) (by omega), u3 4 5 (by omega), l1]
  · rw [r2 4 6 (by omega) (by omega), u3 4 6 (by omega), l2]
  · rw [r2 4 7 (by omega) (by omega), u3 4 7 (by omega), l3', e11]
  · rw [r2 5 j (by omega) (by omega), u3 5 j (by omega), (l4 j hj).1, (e4 j hj).1]
  · rw [r2 6 j (by omega) (by omega), u3 6 j (by omega), (l4 j hj).2, (e4 j hj).2]
  · rw [r2 7 j (by omega) (by omega), u2 j hj]; rfl
  · rw [r2 o j (by omega) (by omega), u3 o j (by omega), k3 o j (by omega) (by omega) (by omega)]
