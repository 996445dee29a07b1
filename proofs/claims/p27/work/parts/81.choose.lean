/-! ===== the class: hopeless, choose ===== -/
def CB (σ : Sg) (B : QB) : Prop := (B.1 = 0 → rI σ 3 10 = 0) ∧ (B.1 ≠ 0 → rI σ 3 10 = 1 ∧ rI σ 3 13 = yI B.2.1 ∧ rI σ 3 12 = yI (B.2.2.1 : Int) ∧ rI σ 3 11 = yI (B.2.2.2.1 : Int) ∧ rI σ 3 14 = yI (B.2.2.2.2.length : Int) ∧ LW σ 46 B.2.2.2.2 0)
def GK (σ : Sg) (m : Mm) : Prop := rI σ 4 7 = yI (qH m : Int) ∧ (∀ i, i < qR m * qW m → rI σ 5 i = yI (qL m i : Int) ∧ rI σ 6 i = yI (m 5 i) ∧ ∀ w, w < 4 → rI σ (10 + i) w = yI (qnx m i w)) ∧ rI σ 41 0 = yI (m 0 17) ∧ rI σ 41 1 = yI (m 0 18) ∧ rI σ 41 2 = yI (m 0 19) ∧ VK (m 0 17) (m 0 18) (m 0 19)
/-- how it stands at a depth -/
def CT (σ : Sg) (a : Nat) (T : QT) : Prop := rI σ 42 a = yI (T.1 : Int) ∧ rI σ 43 a = yI (T.2.1 : Int) ∧ rI σ 44 a = yI (T.2.2.1 : Int)
def cF (a : Nat) (σ σ' : Sg) : Prop := (∀ o j, ¬ ((o = 3 ∧ 10 ≤ j ∧ j ≤ 14) ∨ ((o = 42 ∨ o = 43 ∨ o = 44) ∧ a < j) ∨ (o = 45 ∧ a ≤ j) ∨ o = 46) → rI σ' o j = rI σ o j) ∧ ∀ o j, rR σ' o j = rR σ o j
theorem cF_r (a : Nat) (σ : Sg) : cF a σ σ := ⟨fun _ _ _ => rfl, fun _ _ => rfl⟩
theorem cF_t {a : Nat} {x y z : Sg} (h : cF a x y) (k : cF a y z) : cF a x z := ⟨fun o j n => by rw [k.1 o j n, h.1 o j n], fun o j => by rw [k.2, h.2]⟩
theorem cF_w {a : Nat} {x y : Sg} (h : cF (a + 1) x y) : cF a x y := ⟨fun o j n => h.1 o j (by omega), h.2⟩
theorem CT_f {a i : Nat} {σ σ' : Sg} {T : QT} (h : CT σ i T) (f : cF a σ σ') (hi : i ≤ a) : CT σ' i T := ⟨by rw [f.1 42 i (by omega), h.1], by rw [f.1 43 i (by omega), h.2.1], by rw [f.1 44 i (by omega), h.2.2]⟩
theorem GK_f {a : Nat} {σ σ' : Sg} {m : Mm} (v : VS m) (h : GK σ m) (f : cF a σ σ') : GK σ' m := by
  have b30 := v.b30
  refine ⟨by rw [f.1 4 7 (by omega), h.1], fun i hi => ⟨by rw [f.1 5 i (by omega), (h.2.1 i hi).1], by rw [f.1 6 i (by omega), (h.2.1 i hi).2.1], fun w hw => by rw [f.1 (10 + i) w (by omega), (h.2.1 i hi).2.2 w hw]⟩, by rw [f.1 41 0 (by omega), h.2.2.1], by rw [f.1 41 1 (by omega), h.2.2.2.1], by rw [f.1 41 2 (by omega), h.2.2.2.2.1], h.2.2.2.2.2⟩
theorem EC_f {a o : Nat} {σ σ' : Sg} {E : QE} (h : EC σ E o) (f : cF a σ σ') (ho : 76 ≤ o) : EC σ' E o := by
  obtain ⟨c1, c2, c3, c4, c5, c6, c7, c8⟩ := h
  exact ⟨by rw [f.2, c1], c2, by rw [f.1 o 0 (by omega), c3], by rw [f.1 o 4 (by omega), c4], by rw [f.1 o 5 (by omega), c5], by rw [f.1 3 8 (by omega), c6], by rw [f.1 3 9 (by omega), c7], by rw [f.1 3 15 (by omega), c8]⟩
theorem f1_gainOf {σ : Sg} {m : Mm} {t sk s d : Nat} (h : GK σ m) (s1 : sk ≤ 1) : fX1_gainOf 40 (yI (s : Int)) (yI (t : Int)) (yI (d : Int)) (yI (sk : Int)) σ = some (yI (qgain m t sk s d), σ) := by
  obtain ⟨-, -, h1, h2, h3, -⟩ := h
  unfold fX1_gainOf fX1_gainOf_b0 qgain
  rw [show rI σ (40 + 1) ((0 : Int32)).toNatClampNeg = yI (m 0 17) from h1, show rI σ (40 + 1) ((1 : Int32)).toNatClampNeg = yI (m 0 18) from h2, show rI σ (40 + 1) ((2 : Int32)).toNatClampNeg = yI (m 0 19) from h3, yI_mul, yI_mul, yI_mul, yI_sub, yI_sub]
  by_cases z : sk = 0
  · rw [if_pos (eqp (v := 0) (b := 0) rfl (by omega)), if_pos z, yI_0, yI_sub]
  · rw [if_neg (yI_nl (v := 0) (b := 0) rfl (by omega) (by omega) (by omega)), if_neg z]
theorem f8_hopeless {σ : Sg} {m : Mm} {E : QE} {o a : Nat} {T : QT} {B : QB} (gk : GK σ m) (eb : EB E) (ec : EC σ E o) (tb : TB T) (ha : a ≤ 9) (ct : CT σ a T) (cb : CB σ B) (bb : BB B) : fX8_isHopeless (yI (a : Int)) σ = some (if hop m E B T then 1 else 0, σ) := by
  have hg := f1_gainOf (t := E.2.2.1) (s := T.1) (d := T.2.2.1) gk eb.2.2.2.2.2.1
  have td : T.2.2.1 ≤ 999 := by have := tb.2.2.1; omega
  have gg := gain_b gk.2.2.2.2.2 eb.2.2.2.2.1 tb.1 td E.2.2.2.1
  have gq : -100000 < qgain m E.2.2.1 E.2.2.2.1 T.1 T.2.2.1 ∧ qgain m E.2.2.1 E.2.2.2.1 T.1 T.2.2.1 ≤ 9000 := ⟨gg.1, gg.2.1⟩
  obtain ⟨-, -, -, -, -, c6, c7, -⟩ := ec
  unfold fX8_isHopeless fX8_isHopeless_b0 fX8_isHopeless_b64
  rw [if_pos (inb_n (by omega) (by omega)), if_pos (inb_n (by omega) (by omega)), yI_cln (by omega), ct.1, ct.2.2, c6, c7, b1 hg]
  dsimp only
  by_cases z : B.1 = 0
  · rw [cb.1 z, if_pos rfl, if_neg (c := hop m E B T) (fun q => q.1 z)]
  · obtain ⟨k1, k2, k3, -, -, -⟩ := cb.2 z
    obtain ⟨c1, c2, c3, -⟩ := bb z
    rw [k1, if_neg (show ¬ (1 : Int32) = 0 by decide), k2, k3, ct.2.2]
    by_cases z1 : qgain m E.2.2.1 E.2.2.2.1 T.1 T.2.2.1 < B.2.1
    · rw [if_pos ((yI_lt (by omega) (by omega) (by omega) (by omega)).mpr z1), if_pos (c := hop m E B T) ⟨z, Or.inl z1⟩]
    · rw [if_neg (fun q => z1 ((yI_lt (by omega) (by omega) (by omega) (by omega)).mp q))]
      by_cases z2 : qgain m E.2.2.1 E.2.2.2.1 T.1 T.2.2.1 = B.2.1
      · rw [if_pos (by rw [z2]), if_pos (inb_n (by omega) (by omega))]
        by_cases z3 : T.2.2.1 < B.2.2.1
        · rw [if_pos ((yI_lt (by omega) (by omega) (by omega) (by omega)).mpr (by omega)), if_neg (c := hop m E B T) (fun q => by
            rcases q.2 with q | q
            · exact z1 q
            · omega)]
        · rw [if_neg (fun q => z3 (by have := (yI_lt (by omega) (by omega) (by omega) (by omega)).mp q; omega)), if_pos (c := hop m E B T) ⟨z, Or.inr ⟨z2, by omega⟩⟩]
      · rw [if_neg (fun q => z2 (yI_inj (by omega) (by omega) (by omega) (by omega) q)), if_neg (c := hop m E B T) (fun q => by
          rcases q.2 with q | q
          · exact z1 q
          · exact z2 q.1)]
theorem cpB_n {a : Nat} (h : a ≤ 9) : cpB (0 : Int32) (0 : Int32) (yI (a : Int)) 9 9 = true := by
  rcases (show a = 0 ∨ a = 1 ∨ a = 2 ∨ a = 3 ∨ a = 4 ∨ a = 5 ∨ a = 6 ∨ a = 7 ∨ a = 8 ∨ a = 9 by omega) with rfl | rfl | rfl | rfl | rfl | rfl | rfl | rfl | rfl | rfl <;> decide
theorem f8_choose {σ : Sg} {m : Mm} {E : QE} {o a : Nat} {T : QT} (pre : List Nat) (gk : GK σ m) (eb : EB E) (ec : EC σ E o) (ha : a ≤ 9) (hp : pre.length = a) (ct : CT σ a T) (lw : LW σ 45 pre 0) (n : Nat) : ∃ σ', fX8_choose (yI (a : Int)) σ = some σ' ∧ CB σ' (n + 1, qgain m E.2.2.1 E.2.2.2.1 T.1 T.2.2.1, T.2.2.1, T.1, pre) ∧ cF a σ σ' := by
  obtain ⟨-, -, -, -, -, c6, c7, -⟩ := ec
  obtain ⟨t1, t2, t3⟩ := ct
  have gk3 : GK (wI (wI (wI σ 3 10 1) 3 11 (yI (T.1 : Int))) 3 12 (yI (T.2.2.1 : Int))) m := by
    obtain ⟨g1, g2, g3, g4, g5, g6⟩ := gk
    refine ⟨by rw [rI_o (by omega), rI_o (by omega), rI_o (by omega), g1], fun i hi => ?_, by rw [rI_o (by omega), rI_o (by omega), rI_o (by omega), g3], by rw [rI_o (by omega), rI_o (by omega), rI_o (by omega), g4], by rw [rI_o (by omega), rI_o (by omega), rI_o (by omega), g5], g6⟩
    obtain ⟨i1, i2, i3⟩ := g2 i hi
    exact ⟨by rw [rI_o (by omega), rI_o (by omega), rI_o (by omega), i1], by rw [rI_o (by omega), rI_o (by omega), rI_o (by omega), i2], fun w hw => by rw [rI_o (by omega), rI_o (by omega), rI_o (by omega), i3 w hw]⟩
  have hg := f1_gainOf (t := E.2.2.1) (s := T.1) (d := T.2.2.1) gk3 eb.2.2.2.2.2.1
  have hW : ∀ (x : Sg) (i j : Nat), rI (wC x 45 ((0 : Int32)).toNatClampNeg 46 ((0 : Int32)).toNatClampNeg (yI (a : Int)).toNatClampNeg) i j = if i = 46 ∧ j < a then rI x 45 j else rI x i j := fun x i j => by
    rw [rI_wC, yI_cln (by omega), show ((0 : Int32)).toNatClampNeg = 0 from rfl]
    by_cases q : i = 46 ∧ j < a
    · rw [if_pos q, if_pos (by omega), Nat.zero_add, Nat.sub_zero]
    · rw [if_neg q, if_neg (by omega)]
  refine ⟨wC (wI (wI (wI (wI (wI σ 3 10 1) 3 11 (yI (T.1 : Int))) 3 12 (yI (T.2.2.1 : Int))) 3 13 (yI (qgain m E.2.2.1 E.2.2.2.1 T.1 T.2.2.1))) 3 14 (yI (a : Int))) 45 ((0 : Int32)).toNatClampNeg 46 ((0 : Int32)).toNatClampNeg (yI (a : Int)).toNatClampNeg, ?_, ⟨fun q => absurd q (Nat.succ_ne_zero n), fun _ => ⟨?_, ?_, ?_, ?_, ?_, ?_⟩⟩, fun i j hn => ?_, fun _ _ => rfl⟩
  · unfold fX8_choose fX8_choose_b0
    simp (disch := omega) only [yI_cln, rI_o, rI_k, rI_s, t1, t3, c6, c7]
    rw [if_pos (inb_n (by omega) (by omega)), if_pos (inb_n (by omega) (by omega)), b1 hg]
    dsimp only
    rw [if_pos (cpB_n ha)]
  · rw [hW, if_neg (by omega), rI_k (by omega), rI_k (by omega), rI_k (by omega), rI_k (by omega), rI_s]
  · rw [hW, if_neg (by omega), rI_k (by omega), rI_s]
  · rw [hW, if_neg (by omega), rI_k (by omega), rI_k (by omega), rI_s]
  · rw [hW, if_neg (by omega), rI_k (by omega), rI_k (by omega), rI_k (by omega), rI_s]
  · rw [hW, if_neg (by omega), rI_s, hp]
  · refine LW_f (o := 45) pre 0 lw (fun j _ hj => ?_)
    rw [hW, if_pos ⟨rfl, by omega⟩, rI_o (by omega), rI_o (by omega), rI_o (by omega), rI_o (by omega), rI_o (by omega)]
  · rw [hW, if_neg (by omega), rI_wI, if_neg (by omega), rI_wI, if_neg (by omega), rI_wI, if_neg (by omega), rI_wI, if_neg (by omega), rI_wI, if_neg (by omega)]
