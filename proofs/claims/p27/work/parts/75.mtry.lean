/-! ===== the model tries a way ===== -/
def LW (τ : Sg) (o : Nat) : List Nat → Nat → Prop
  | [], _ => True
  | w :: l, i => rI τ o i = yI (w : Int) ∧ LW τ o l (i + 1)
theorem LW_f {τ τ' : Sg} {o o' : Nat} : ∀ (l : List Nat) (i : Nat), LW τ o l i → (∀ j, i ≤ j → j < i + l.length → rI τ' o' j = rI τ o j) → LW τ' o' l i
  | [], _, _, _ => trivial
  | w :: l, i, h, f => ⟨by rw [f i (Nat.le_refl _) (by rw [List.length_cons]; omega)]; exact h.1, LW_f l _ h.2 (fun j a b => f j (by omega) (by rw [List.length_cons]; omega))⟩
theorem PL_LW {τ : Sg} {m : Mm} : ∀ (l : List Nat) (c i : Nat), PL τ m l c i → LW τ 8 l i
  | [], _, _, _ => trivial
  | _ :: l, _, _, h => ⟨h.1.1, PL_LW l _ _ h.2⟩
def A4 (l : List Nat) : Prop := ∀ w, w ∈ l → w < 4
theorem PL_4 {τ : Sg} {m : Mm} : ∀ (l : List Nat) (c i : Nat), PL τ m l c i → A4 l
  | [], _, _, _ => fun _ hx => by cases hx
  | w :: l, _, _, h => fun x hx => by
    rcases List.mem_cons.mp hx with rfl | q
    · exact h.1.2.2.1
    · exact PL_4 l _ _ h.2 x q
def BM (τ : Sg) (B : QB) : Prop := rI τ 0 37 = yI (B.1 : Int) ∧ (B.1 ≠ 0 → rI τ 0 36 = yI B.2.1 ∧ rI τ 0 35 = yI (B.2.2.1 : Int) ∧ rI τ 0 34 = yI (B.2.2.2.1 : Int) ∧ rI τ 0 33 = yI (B.2.2.2.2.length : Int) ∧ LW τ 10 B.2.2.2.2 0)
/-- bounds of the best so far -/
def BB (B : QB) : Prop := B.1 ≠ 0 → -100000 < B.2.1 ∧ B.2.1 ≤ 9000 ∧ B.2.2.1 ≤ 999 ∧ B.2.2.2.1 ≤ 999 ∧ B.2.2.2.2.length ≤ 9 ∧ A4 B.2.2.2.2
theorem gain_b {p w l : Int} {t s d : Nat} (h : VK p w l) (ht : t ≤ 11) (hs : s ≤ 999) (hd : d ≤ 999) (sk : Nat) : -100000 < p * (s : Int) - w * (t : Int) * (d : Int) - (if sk = 0 then 0 else l) ∧ p * (s : Int) - w * (t : Int) * (d : Int) - (if sk = 0 then 0 else l) ≤ 9000 ∧ 0 ≤ p * (s : Int) ∧ p * (s : Int) ≤ 8991 ∧ 0 ≤ w * (t : Int) ∧ w * (t : Int) ≤ 99 ∧ 0 ≤ w * (t : Int) * (d : Int) ∧ w * (t : Int) * (d : Int) ≤ 98901 := by
  obtain ⟨h1, h2, h3, h4, h5, h6⟩ := h
  have a1 : p * (s : Int) ≤ 9 * 999 := Int.mul_le_mul h2 (by omega) (by omega) (by omega)
  have a2 : 0 ≤ p * (s : Int) := Int.mul_nonneg (by omega) (by omega)
  have a3 : w * (t : Int) ≤ 9 * 11 := Int.mul_le_mul h4 (by omega) (by omega) (by omega)
  have a4 : 0 ≤ w * (t : Int) := Int.mul_nonneg (by omega) (by omega)
  generalize w * (t : Int) = x at *
  have a5 : x * (d : Int) ≤ 99 * 999 := Int.mul_le_mul (by omega) (by omega) (by omega) (by omega)
  have a6 : 0 ≤ x * (d : Int) := Int.mul_nonneg (by omega) (by omega)
  generalize x * (d : Int) = y at *
  generalize p * (s : Int) = z at *
  by_cases q : sk = 0
  · rw [if_pos q]; omega
  · rw [if_neg q]; omega
theorem qtw_b {m : Mm} {E : QE} (hl : ∀ c, qL m c ≤ 11) : ∀ (l : List Nat) (c : Nat) (T : QT), TB T → TB (qtw m E l c T) ∧ (qtw m E l c T).1 ≤ T.1 ∧ T.2.2.1 ≤ (qtw m E l c T).2.2.1
  | [], _, _, h => ⟨h, Nat.le_refl _, Nat.le_refl _⟩
  | w :: l, c, T, h => by
    obtain ⟨a, b, d⟩ := qst_b (E := E) (w := w) (hl c) h
    obtain ⟨a', b', d'⟩ := qtw_b (E := E) hl l (qgo m c w) _ a
    exact ⟨a', Nat.le_trans b' b, Nat.le_trans d d'⟩
/-- a way within the sea -/
def PC (m : Mm) : List Nat → Nat → Prop
  | [], _ => True
  | w :: l, c => c < qR m * qW m ∧ PC m l (qgo m c w)
theorem PL_C {τ : Sg} {m : Mm} : ∀ (l : List Nat) (c i : Nat), PL τ m l c i → PC m l c
  | [], _, _, _ => trivial
  | _ :: l, _, _, h => ⟨h.1.2.2.2, PL_C l _ _ h.2⟩
theorem qtw_c {m : Mm} {E : QE} (v : VS m) : ∀ (l : List Nat) (c : Nat) (T : QT), PC m l c → TB T → TB (qtw m E l c T) ∧ (qtw m E l c T).1 ≤ T.1 ∧ T.2.2.1 ≤ (qtw m E l c T).2.2.1
  | [], _, _, _, h => ⟨h, Nat.le_refl _, Nat.le_refl _⟩
  | w :: l, c, T, p, h => by
    obtain ⟨a, b, d⟩ := qst_b (E := E) (w := w) (qL_b v p.1).2.1 h
    obtain ⟨a', b', d'⟩ := qtw_c (E := E) v l (qgo m c w) _ p.2 a
    exact ⟨a', Nat.le_trans b' b, Nat.le_trans d d'⟩
def GC (τ : Sg) (m : Mm) : Prop := rI τ 0 17 = yI (m 0 17) ∧ rI τ 0 18 = yI (m 0 18) ∧ rI τ 0 19 = yI (m 0 19) ∧ VK (m 0 17) (m 0 18) (m 0 19)
theorem qup_bb {m : Mm} {E : QE} {c : Nat} {T : QT} {B : QB} {l : List Nat} (v : VS m) (k : VK (m 0 17) (m 0 18) (m 0 19)) (eb : EB E) (tb : TB T) (p : PC m l c) (h9 : l.length ≤ 9) (h4 : A4 l) (bb : BB B) : BB (qup m E c T B l) := by
  have tt := (qtw_c (E := E) v l c T p tb).1
  have gg := gain_b k eb.2.2.2.2.1 tt.1 (by have := tt.2.2.1; omega : (qtw m E l c T).2.2.1 ≤ 999) E.2.2.2.1
  unfold qup
  dsimp only
  by_cases q : B.1 = 0 ∨ B.2.1 < qgain m E.2.2.1 E.2.2.2.1 (qtw m E l c T).1 (qtw m E l c T).2.2.1 ∨ (qgain m E.2.2.1 E.2.2.2.1 (qtw m E l c T).1 (qtw m E l c T).2.2.1 = B.2.1 ∧ (qtw m E l c T).2.2.1 < B.2.2.1)
  · rw [if_pos q]
    intro _
    exact ⟨gg.1, gg.2.1, by have := tt.2.2.1; dsimp only; omega, tt.1, h9, h4⟩
  · rw [if_neg q]
    intro _
    exact bb (fun z => q (Or.inl z))
theorem f10_begin {τ : Sg} {b : Nat} {k f ev : Int32} (hb : b < 5) (a0 : rI τ 6 (5 * b) = k) (a3 : rI τ 6 (5 * b + 3) = f) (a4 : rI τ 6 (5 * b + 4) = ev) (x2 x3 : Int32) {sk : Nat} (hs : sk ≤ 1) : ∃ τ', fX10_begin (yI (b : Int)) x2 x3 (yI (sk : Int)) τ = some τ' ∧ (rI τ' 0 22 = k ∧ rI τ' 0 23 = x2 ∧ rI τ' 0 24 = f ∧ rI τ' 0 25 = ev ∧ rI τ' 0 26 = 0 ∧ rI τ' 0 27 = yI (sk : Int) ∧ rI τ' 0 28 = x3) ∧ ∀ o j, ¬ (o = 0 ∧ 22 ≤ j ∧ j ≤ 28) → rI τ' o j = rI τ o j := by
  have iB : isB (yI (sk : Int)) = true := by
    rcases (show sk = 0 ∨ sk = 1 by omega) with rfl | rfl
    · rfl
    · rfl
  unfold fX10_begin fX10_begin_b0
  simp (disch := omega) only [mul5, add3, add4, yI_cln, rI_o, a0, a3, a4]
  rw [if_pos (inb_n (by omega) (by omega)), if_pos (inb_n (by omega) (by omega)), if_pos (inb_n (by omega) (by omega)), if_pos iB]
  refine ⟨_, rfl, ⟨?_, ?_, ?_, ?_, ?_, ?_, ?_⟩, fun o j hn => ?_⟩
  · simp (disch := omega) only [rI_k, rI_s]
  · simp (disch := omega) only [rI_k, rI_s]
  · simp (disch := omega) only [rI_k, rI_s]
  · simp (disch := omega) only [rI_k, rI_s]
  · simp (disch := omega) only [rI_k, rI_s]
  · simp (disch := omega) only [rI_k, rI_s]
  · simp (disch := omega) only [rI_k, rI_s]
  · rw [rI_wI, if_neg (by omega), rI_wI, if_neg (by omega), rI_wI, if_neg (by omega), rI_wI, if_neg (by omega), rI_wI, if_neg (by omega), rI_wI, if_neg (by omega), rI_wI, if_neg (by omega)]
theorem f10_keepway {L : Nat} (hL : L ≤ 9) (τ : Sg) : ∃ t, lp (fun s : Int32 × Sg => fX10_tryWay_b135 (yI (L : Int)) s.1 s.2) FU ((0 : Int32), τ) = some t ∧ ((∀ j, j < L → rI t 10 j = rI τ 8 j) ∧ ∀ o j, o ≠ 10 → rI t o j = rI τ o j) := by
  refine lp_all (fun k s => s.1 = yI (k : Int) ∧ (∀ j, j < k → rI s.2 10 j = rI τ 8 j) ∧ ∀ o j, o ≠ 10 → rI s.2 o j = rI τ o j) L _ ?_ ?_ ⟨rfl, fun j hj => absurd hj (Nat.not_lt_zero j), fun _ _ _ => rfl⟩ (FU_b (by omega))
  · rintro k ⟨x, t⟩ hk ⟨h1, h2, h3⟩
    dsimp only at h1 h2 h3
    subst h1
    refine ⟨(yI ((k + 1 : Nat) : Int), wI t 10 k (rI t 8 k)), ?_, rfl, fun j hj => ?_, fun o j a => ?_⟩
    · dsimp only
      unfold fX10_tryWay_b135
      rw [if_neg (fun q => by have := (yI_le (by omega) (by omega) (by omega) (by omega)).mp q; omega), if_pos (inb_n (by omega) (by omega)), if_pos (inb_n (by omega) (by omega)), yI_cln (by omega), add1]
    · dsimp only
      by_cases e : j = k
      · rw [e, rI_s, h3 8 k (by omega)]
      · rw [rI_k e]; exact h2 j (by omega)
    · dsimp only
      rw [rI_o a]; exact h3 o j a
  · rintro ⟨x, t⟩ ⟨h1, h2, h3⟩
    dsimp only at h1 h2 h3
    subst h1
    refine ⟨t, ?_, h2, h3⟩
    dsimp only
    unfold fX10_tryWay_b135
    rw [if_pos ((yI_le (by omega) (by omega) (by omega) (by omega)).mpr (Int.le_refl _))]
