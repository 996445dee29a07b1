/-! ===== the model tries a way: the best so far ===== -/
def BR (τ : Sg) (b : Nat) (E : QE) (f : Nat) : Prop := rI τ 6 (5 * b) = yI (E.1 : Int) ∧ rI τ 6 (5 * b + 3) = yI (f : Int) ∧ rI τ 6 (5 * b + 4) = yI (E.2.1 : Int)
theorem BM_f {τ τ' : Sg} {B : QB} (h : BM τ B) (f0 : ∀ j, 33 ≤ j → j ≤ 37 → rI τ' 0 j = rI τ 0 j) (f10 : ∀ j, rI τ' 10 j = rI τ 10 j) : BM τ' B := by
  refine ⟨by rw [f0 37 (by omega) (by omega), h.1], fun n => ?_⟩
  obtain ⟨h1, h2, h3, h4, h5⟩ := h.2 n
  exact ⟨by rw [f0 36 (by omega) (by omega), h1], by rw [f0 35 (by omega) (by omega), h2], by rw [f0 34 (by omega) (by omega), h3], by rw [f0 33 (by omega) (by omega), h4], LW_f _ _ h5 (fun j _ _ => f10 j)⟩
theorem f10_tryWay {τ : Sg} {m : Mm} {b c : Nat} {E : QE} {T : QT} {B : QB} {l : List Nat} (v : VS m) (gm : GM τ m) (gc : GC τ m) (hb : b < 5) (br : BR τ b E T.2.1) (eb : EB E) (dr0 : E.2.2.2.2 = 0) (tb : TB T) (d0 : T.2.2.1 = 0) (h29 : rI τ 0 29 = yI (-1)) (pl : PL τ m l c 0) (l9 : l.length ≤ 9) (bm : BM τ B) (bb : BB B) (hB : B.1 < 1000000) : ∃ τ', fX10_tryWay (yI (b : Int)) (yI (T.1 : Int)) (yI (E.2.2.1 : Int)) (yI (E.2.2.2.1 : Int)) (yI (l.length : Int)) τ = some τ' ∧ BM τ' (qup m E c T B l) ∧ BB (qup m E c T B l) ∧ rI τ' 0 29 = yI (-1) ∧ ∀ o j, o ≠ 10 → ¬ (o = 0 ∧ ((22 ≤ j ∧ j ≤ 29) ∨ (33 ≤ j ∧ j ≤ 37))) → rI τ' o j = rI τ o j := by
  obtain ⟨g1, g2, g3, vk⟩ := gc
  have sk1 := eb.2.2.2.2.2.1
  have t1 := eb.2.2.2.1
  have t11 := eb.2.2.2.2.1
  obtain ⟨τ1, r1, ⟨r22, r23, r24, r25, r26, r27, r28⟩, r3⟩ := f10_begin (τ := wI τ 0 37 (yI ((B.1 + 1 : Nat) : Int))) (b := b) (k := yI (E.1 : Int)) (f := yI (T.2.1 : Int)) (ev := yI (E.2.1 : Int)) hb (by rw [rI_o (by omega), br.1]) (by rw [rI_o (by omega), br.2.1]) (by rw [rI_o (by omega), br.2.2]) (yI (T.1 : Int)) (yI (E.2.2.1 : Int)) sk1
  have fr1 : ∀ o j, ¬ (o = 0 ∧ ((22 ≤ j ∧ j ≤ 28) ∨ j = 37)) → rI τ1 o j = rI τ o j := fun o j hn => by rw [r3 o j (by omega), rI_wI, if_neg (by omega)]
  have em : EM τ1 E := ⟨r22, r25, r27, r28, fun _ => by rw [fr1 0 29 (by omega), h29]⟩
  have tm : TM τ1 E T := ⟨r23, r24, by rw [r26, d0]; rfl, fun q => absurd dr0 q⟩
  have pl1 : PL τ1 m l c 0 := PL_f l c 0 pl (fun j _ _ => ⟨fr1 8 j (by omega), fr1 9 j (by omega)⟩)
  obtain ⟨τ2, s1, s2, s3, s4⟩ := f10_towAll (L := l.length) v eb (by omega) l c 0 T τ1 FU (FU_b (by omega)) (by omega) pl1 tb (GM_f gm (fun o j q => fr1 o j (by omega))) em tm
  have tt := (qtw_c (E := E) v l c T (PL_C l c 0 pl) tb).1
  have gg := gain_b vk t11 tt.1 (by have := tt.2.2.1; omega : (qtw m E l c T).2.2.1 ≤ 999) E.2.2.2.1
  have fr2 : ∀ o j, ¬ (o = 0 ∧ ((22 ≤ j ∧ j ≤ 29) ∨ j = 37)) → rI τ2 o j = rI τ o j := fun o j hn => by rw [s4 o j (by omega), fr1 o j (by omega)]
  have e37 : rI τ2 0 37 = yI ((B.1 + 1 : Nat) : Int) := by rw [s4 0 37 (by omega), r3 0 37 (by omega), rI_s]
  have eu : qup m E c T B l = if B.1 = 0 ∨ B.2.1 < qgain m E.2.2.1 E.2.2.2.1 (qtw m E l c T).1 (qtw m E l c T).2.2.1 ∨ (qgain m E.2.2.1 E.2.2.2.1 (qtw m E l c T).1 (qtw m E l c T).2.2.1 = B.2.1 ∧ (qtw m E l c T).2.2.1 < B.2.2.1) then (B.1 + 1, qgain m E.2.2.1 E.2.2.2.1 (qtw m E l c T).1 (qtw m E l c T).2.2.1, (qtw m E l c T).2.2.1, (qtw m E l c T).1, l) else (B.1 + 1, B.2) := rfl
  have bb' := qup_bb (E := E) (T := T) v vk eb tb (PL_C l c 0 pl) l9 (PL_4 l c 0 pl) bb
  have td : (qtw m E l c T).2.2.1 ≤ 999 := by have := tt.2.2.1; omega
  have KEEP : qup m E c T B l = (B.1 + 1, qgain m E.2.2.1 E.2.2.2.1 (qtw m E l c T).1 (qtw m E l c T).2.2.1, (qtw m E l c T).2.2.1, (qtw m E l c T).1, l) → ∃ τ', fX10_tryWay_b104 (yI (l.length : Int)) (yI (qgain m E.2.2.1 E.2.2.2.1 (qtw m E l c T).1 (qtw m E l c T).2.2.1)) τ2 = some τ' ∧ BM τ' (qup m E c T B l) ∧ BB (qup m E c T B l) ∧ rI τ' 0 29 = yI (-1) ∧ ∀ o j, o ≠ 10 → ¬ (o = 0 ∧ ((22 ≤ j ∧ j ≤ 29) ∨ (33 ≤ j ∧ j ≤ 37))) → rI τ' o j = rI τ o j := fun e => by
    obtain ⟨t, k1, k2, k3⟩ := f10_keepway l9 (wI (wI (wI (wI τ2 0 36 (yI (qgain m E.2.2.1 E.2.2.2.1 (qtw m E l c T).1 (qtw m E l c T).2.2.1))) 0 35 (yI ((qtw m E l c T).2.2.1 : Int))) 0 34 (yI ((qtw m E l c T).1 : Int))) 0 33 (yI (l.length : Int)))
    refine ⟨t, ?_, ?_, bb', ?_, fun o j a hn => ?_⟩
    · unfold fX10_tryWay_b104
      simp (disch := omega) only [rI_k, s3.2.2.1, s3.1]
      rw [b1 k1]
    · rw [e]
      refine ⟨?_, fun _ => ⟨?_, ?_, ?_, ?_, ?_⟩⟩
      · rw [k3 0 37 (by omega), rI_k (by omega), rI_k (by omega), rI_k (by omega), rI_k (by omega), e37]
      · rw [k3 0 36 (by omega), rI_k (by omega), rI_k (by omega), rI_k (by omega), rI_s]
      · rw [k3 0 35 (by omega), rI_k (by omega), rI_k (by omega), rI_s]
      · rw [k3 0 34 (by omega), rI_k (by omega), rI_s]
      · rw [k3 0 33 (by omega), rI_s]
      · refine LW_f (o := 8) (τ := τ) l 0 (PL_LW l c 0 pl) (fun j _ hj => ?_)
        rw [k2 j (by omega), rI_o (by omega), rI_o (by omega), rI_o (by omega), rI_o (by omega), fr2 8 j (by omega)]
    · rw [k3 0 29 (by omega), rI_k (by omega), rI_k (by omega), rI_k (by omega), rI_k (by omega), s2.2.2.2.2 dr0]
    · rw [k3 o j a, rI_wI, if_neg (by omega), rI_wI, if_neg (by omega), rI_wI, if_neg (by omega), rI_wI, if_neg (by omega), fr2 o j (by omega)]
  have STAY : qup m E c T B l = (B.1 + 1, B.2) → B.1 ≠ 0 → BM τ2 (qup m E c T B l) ∧ BB (qup m E c T B l) ∧ rI τ2 0 29 = yI (-1) ∧ ∀ o j, o ≠ 10 → ¬ (o = 0 ∧ ((22 ≤ j ∧ j ≤ 29) ∨ (33 ≤ j ∧ j ≤ 37))) → rI τ2 o j = rI τ o j := fun e n0 => by
    refine ⟨?_, bb', s2.2.2.2.2 dr0, fun o j a hn => fr2 o j (by omega)⟩
    rw [e]
    obtain ⟨h1, h2, h3, h4, h5⟩ := bm.2 n0
    exact ⟨e37, fun _ => ⟨by rw [fr2 0 36 (by omega), h1], by rw [fr2 0 35 (by omega), h2], by rw [fr2 0 34 (by omega), h3], by rw [fr2 0 33 (by omega), h4], LW_f _ _ h5 (fun j _ _ => fr2 10 j (by omega))⟩⟩
  have GO : ∀ y0 : Int32, yI (m 0 17 * ((qtw m E l c T).1 : Int) - m 0 18 * (E.2.2.1 : Int) * ((qtw m E l c T).2.2.1 : Int)) - y0 = yI (qgain m E.2.2.1 E.2.2.2.1 (qtw m E l c T).1 (qtw m E l c T).2.2.1) → ∃ τ', fX10_tryWay_b64 (yI (l.length : Int)) y0 (yI (m 0 17 * ((qtw m E l c T).1 : Int) - m 0 18 * (E.2.2.1 : Int) * ((qtw m E l c T).2.2.1 : Int))) τ2 = some τ' ∧ BM τ' (qup m E c T B l) ∧ BB (qup m E c T B l) ∧ rI τ' 0 29 = yI (-1) ∧ ∀ o j, o ≠ 10 → ¬ (o = 0 ∧ ((22 ≤ j ∧ j ≤ 29) ∨ (33 ≤ j ∧ j ≤ 37))) → rI τ' o j = rI τ o j := fun y0 hy => by
    have gq : -100000 < qgain m E.2.2.1 E.2.2.2.1 (qtw m E l c T).1 (qtw m E l c T).2.2.1 ∧ qgain m E.2.2.1 E.2.2.2.1 (qtw m E l c T).1 (qtw m E l c T).2.2.1 ≤ 9000 := ⟨gg.1, gg.2.1⟩
    unfold fX10_tryWay_b64
    rw [hy, e37]
    by_cases z : B.1 = 0
    · rw [if_pos (eqp (v := 1) (b := 1) rfl (by omega))]
      exact KEEP (by rw [eu, if_pos (Or.inl z)])
    · obtain ⟨h1, h2, h3, h4, h5⟩ := bm.2 z
      obtain ⟨c1, c2, c3, c4, c5, c6⟩ := bb z
      rw [if_neg (yI_nl (v := 1) (b := 1) rfl (by omega) (by omega) (by omega)), fr2 0 36 (by omega), h1, fr2 0 35 (by omega), h2, s3.2.2.1]
      by_cases z1 : B.2.1 < qgain m E.2.2.1 E.2.2.2.1 (qtw m E l c T).1 (qtw m E l c T).2.2.1
      · rw [if_pos ((yI_lt (by omega) (by omega) (by omega) (by omega)).mpr z1)]
        exact KEEP (by rw [eu, if_pos (Or.inr (Or.inl z1))])
      · rw [if_neg (fun q => z1 ((yI_lt (by omega) (by omega) (by omega) (by omega)).mp q))]
        by_cases z2 : qgain m E.2.2.1 E.2.2.2.1 (qtw m E l c T).1 (qtw m E l c T).2.2.1 = B.2.1
        · rw [if_pos (by rw [z2])]
          by_cases z3 : B.2.2.1 ≤ (qtw m E l c T).2.2.1
          · rw [if_pos ((yI_le (by omega) (by omega) (by omega) (by omega)).mpr (by omega))]
            exact ⟨τ2, rfl, STAY (by rw [eu, if_neg (by omega)]) z⟩
          · rw [if_neg (fun q => by have := (yI_le (by omega) (by omega) (by omega) (by omega)).mp q; omega)]
            exact KEEP (by rw [eu, if_pos (Or.inr (Or.inr ⟨z2, by omega⟩))])
        · rw [if_neg (fun q => z2 (yI_inj (by omega) (by omega) (by omega) (by omega) q))]
          exact ⟨τ2, rfl, STAY (by rw [eu, if_neg (by omega)]) z⟩
  unfold fX10_tryWay fX10_tryWay_b0
  rw [if_neg (yI_nl (v := 0) (b := 0) rfl (by omega) (by omega) (by omega)), bm.1, add1, b1 r1]
  unfold fX10_towAll fX10_towAll_b0
  rw [show (0 : Int32) = yI ((0 : Nat) : Int) from rfl, b1 (b1 s1), fr2 0 17 (by omega), fr2 0 18 (by omega), fr2 0 19 (by omega), g1, g2, g3, s3.1, s3.2.2.1, yI_mul, yI_mul, yI_mul, yI_sub]
  by_cases z : E.2.2.2.1 = 0
  · rw [if_pos (show yI (E.2.2.2.1 : Int) = yI ((0 : Nat) : Int) from by rw [z])]
    exact GO _ (by unfold qgain; rw [if_pos z]; show yI _ - yI 0 = _; rw [yI_sub])
  · rw [if_neg (yI_nl (v := yI ((0 : Nat) : Int)) (b := 0) rfl (by omega) (by omega) (by omega))]
    exact GO _ (by unfold qgain; rw [if_neg z, yI_sub])
theorem f10_try0 {τ : Sg} {x1 x2 x4 x5 : Int32} {N : Nat} (h : rI τ 0 37 = yI (N : Int)) : fX10_tryWay x1 x2 0 x4 x5 τ = some (wI τ 0 37 (yI ((N + 1 : Nat) : Int))) := by
  unfold fX10_tryWay fX10_tryWay_b0
  rw [if_pos rfl, h, add1]
