/-! ===== the law's best way is what both sides reckon ===== -/
theorem up_side {m : Mm} {c : Nat} : Dn m (if c / qW m ≤ qH m / qW m then 2 else 0) (if c % qW m ≤ qH m % qW m then 1 else 3) c := by
  unfold Dn
  generalize c / qW m = a
  generalize c % qW m = b
  generalize qH m / qW m = p
  generalize qH m % qW m = q
  by_cases x : a ≤ p
  · rw [if_pos x]
    by_cases y : b ≤ q
    · rw [if_pos y]; omega
    · rw [if_neg y]; omega
  · rw [if_neg x]
    by_cases y : b ≤ q
    · rw [if_pos y]; omega
    · rw [if_neg y]; omega
theorem best_fold {m : Mm} {E : QE} {c up side : Nat} {T : QT} (v : VS m) (hc : c < qR m * qW m) (hH : c ≠ qH m) (d : Dn m up side c) : ((List.range (2 ^ qF m c)).map (bp (min up side) (max up side) (qF m c))).foldl (lst m E c T) qB0 = qbest m E c T := by
  have h0 : qF m c ≠ 0 := fun q => hH (qF_0 v q)
  rw [lst_fold, enL_r, en_ways v rfl rfl (qF m c) c hc rfl d, if_neg h0]
  rfl
theorem L_best {m : Mm} {E : QE} {w0 w1 w5 w6 nw i c S F : Nat} {s : LwS} (v : VS m) (vk : VK (m 0 17) (m 0 18) (m 0 19)) (eb : EB E) (dr0 : E.2.2.2.2 = 0) (hs0 : s.2.2 = 0) (n06 : w0 ≠ w6) (n0n : w0 ≠ nw) (n16 : w1 ≠ w6) (n1n : w1 ≠ nw) (n56 : w5 ≠ w6) (n5n : w5 ≠ nw) (n6n : nw ≠ w6) (hi4 : i + 4 ≤ 25) (hc : c < qR m * qW m) (hH : c ≠ qH m) (hS : S ≤ 999) (hF : F ≤ 99) (hB : HB w0 w1 w5 i c S F s m E) : ∃ s', fL_best w0 w1 (yI (i : Int)) (yI (E.2.2.1 : Int)) (yI (E.2.2.2.1 : Int)) w5 w6 nw s = some s' ∧ fr2 w6 nw s s' ∧ gS s' w6 (qbest m E c (S, F, 0, 0)) ∧ BB (qbest m E c (S, F, 0, 0)) ∧ rT s' w6 3 = yI (qF m c : Int) := by
  have b30 := v.b30
  have hHb := v.H.2
  obtain ⟨-, w1', w2'⟩ := v.W
  have q9c := q9 v hc
  obtain ⟨mp, br, r1, r2, r3, r5, r6, r7⟩ := id hB
  have far := L_far (s := eT s) (q := w0) (c := c) mp.2.1 mp.2.2.1 (by omega) w2' (by omega) (by omega)
  have h1 : fr2 w6 nw s (wT (wT (nT s nw) w6 3 (yI (qF m c : Int))) w6 5 (0 : Int32)) := ⟨rfl, fun o j a b => by rw [rT_o a, rT_o a, rT_n b]⟩
  obtain ⟨s1, hs1⟩ : ∃ s1, s1 = wT (wT (nT s nw) w6 3 (yI (qF m c : Int))) w6 5 (0 : Int32) := ⟨_, rfl⟩
  have f3 : rT s1 w6 3 = yI (qF m c : Int) := by rw [hs1, rT_k (by omega), rT_s]
  have f5 : rT s1 w6 5 = yI ((0 : Nat) : Int) := by rw [hs1, rT_s]; rfl
  rw [← hs1] at h1
  have hB1 := HB_f hB n06 n0n n16 n1n n56 n5n h1
  obtain ⟨mp1, br1, t1, t2, t3, t5, t6, t7⟩ := id hB1
  obtain ⟨dc, -⟩ := divW (x := c) (by omega) (show 0 < qW m by omega) w2'
  obtain ⟨dH, -⟩ := divW (x := qH m) (by omega) (show 0 < qW m by omega) w2'
  obtain ⟨rc, -⟩ := remW (x := c) (by omega) (show 0 < qW m by omega) w2'
  obtain ⟨rH, -⟩ := remW (x := qH m) (by omega) (show 0 < qW m by omega) w2'
  have n0 : ¬ yI (qW m : Int) = 0 := yI_ne0 (by omega) (by omega) (by omega)
  have d := up_side (m := m) (c := c)
  generalize hup : (if c / qW m ≤ qH m / qW m then 2 else 0) = up at d
  generalize hsd : (if c % qW m ≤ qH m % qW m then 1 else 3) = side at d
  have bf := best_fold (E := E) (T := (S, F, 0, 0)) v hc hH d
  have u3 : up ≤ 3 ∧ side ≤ 3 := by unfold Dn at d; omega
  have p9 : 2 ^ qF m c ≤ 2 ^ 9 := Nat.pow_le_pow_right (by omega) q9c
  have LP : ∃ t, lp (fun s => fL_best_b82 w0 w1 (yI (i : Int)) (yI (E.2.2.1 : Int)) (yI (E.2.2.2.1 : Int)) w5 w6 (yI (qF m c : Int)) nw (yI (up : Int)) (yI (side : Int)) s.1 (nw + 1) s.2) FU ((0 : Int32), s1) = some t ∧ (fr2 w6 nw s1 t ∧ gS t w6 (qbest m E c (S, F, 0, 0)) ∧ BB (qbest m E c (S, F, 0, 0)) ∧ rT t w6 3 = yI (qF m c : Int)) := by
    rw [← bf]
    refine lp_all (fun k st => st.1 = yI (k : Int) ∧ fr2 w6 nw s1 st.2 ∧ gS st.2 w6 (((List.range k).map (bp (min up side) (max up side) (qF m c))).foldl (lst m E c (S, F, 0, 0)) qB0) ∧ BB (((List.range k).map (bp (min up side) (max up side) (qF m c))).foldl (lst m E c (S, F, 0, 0)) qB0) ∧ (((List.range k).map (bp (min up side) (max up side) (qF m c))).foldl (lst m E c (S, F, 0, 0)) qB0).1 ≤ k ∧ rT st.2 w6 3 = yI (qF m c : Int)) (2 ^ qF m c) _ ?_ ?_ ⟨rfl, ⟨rfl, fun _ _ _ _ => rfl⟩, ⟨f5, fun q => absurd rfl q⟩, fun q => absurd rfl q, Nat.le_refl _, f3⟩ (FU_b (by omega))
    · rintro k ⟨x, t⟩ hk ⟨g1, g2, g3, g4, g5, g6⟩
      dsimp only at g1 g2 g3 g4 g5 g6
      subst g1
      have hBt := HB_f hB1 n06 n0n n16 n1n n56 n5n g2
      rw [List.range_succ, List.map_append, List.foldl_append]
      generalize hBk : ((List.range k).map (bp (min up side) (max up side) (qF m c))).foldl (lst m E c (S, F, 0, 0)) qB0 = B at *
      obtain ⟨s', v1, v2, v3, v4, v5, v6⟩ := L_bit (b := k) (lo := min up side) (hi := max up side) (k := qF m c) v vk eb dr0 n06 n0n n16 n1n n56 n5n n6n hi4 hc hS hF q9c (by omega) (by omega) (by omega) hBt g3 g4 (by omega) (yI (up : Int)) (yI (side : Int))
      refine ⟨(yI ((k + 1 : Nat) : Int), s'), ?_, rfl, fr2_t g2 v5, v2, v3, by show (lst m E c (S, F, 0, 0) B _).1 ≤ k + 1; omega, by rw [v6, g6]⟩
      dsimp only
      unfold fL_best_b82 fL_best_b108
      rw [show (1 : Int32) = yI ((1 : Nat) : Int) from rfl, ishl_y (by omega) (by omega), Nat.one_mul, if_neg (fun q => by have := (yI_le (by omega) (by omega) (by omega) (by omega)).mp q; omega)]
      rw [← v1]
      by_cases z : side ≤ up
      · rw [if_pos ((yI_le (by omega) (by omega) (by omega) (by omega)).mpr (by omega)), if_pos ((yI_le (by omega) (by omega) (by omega) (by omega)).mpr (by omega)), show min up side = side by omega, show max up side = up by omega]
        rfl
      · rw [if_neg (fun q => by have := (yI_le (by omega) (by omega) (by omega) (by omega)).mp q; omega), if_neg (fun q => by have := (yI_le (by omega) (by omega) (by omega) (by omega)).mp q; omega), show min up side = up by omega, show max up side = side by omega]
        rfl
    · rintro ⟨x, t⟩ ⟨g1, g2, g3, g4, g5, g6⟩
      dsimp only at g1 g2 g3 g4 g5 g6
      subst g1
      refine ⟨t, ?_, g2, g3, g4, g6⟩
      dsimp only
      unfold fL_best_b82
      rw [show (1 : Int32) = yI ((1 : Nat) : Int) from rfl, ishl_y (by omega) (by omega), Nat.one_mul, if_pos ((yI_le (by omega) (by omega) (by omega) (by omega)).mpr (Int.le_refl _))]
  obtain ⟨t, p1, p2, p3, p4, p5⟩ := LP
  refine ⟨t, ?_, fr2_t h1 p2, p3, p4, p5⟩
  have E77 : fL_best_b77 w0 w1 (yI (i : Int)) (yI (E.2.2.1 : Int)) (yI (E.2.2.2.1 : Int)) w5 w6 (yI (qF m c : Int)) nw (yI (up : Int)) (yI (side : Int)) (nw + 1) s1 = some t := by
    unfold fL_best_b77
    rw [b1 p1]
  have E51 : fL_best_b51 w0 w1 (yI (i : Int)) (yI (E.2.2.1 : Int)) (yI (E.2.2.2.1 : Int)) w5 w6 (yI (qF m c : Int)) nw (yI (up : Int)) (nw + 1) s1 = some t := by
    unfold fL_best_b51
    rw [k1, k2, add1, if_pos (inb_n (by omega) (by omega)), yI_cln (by omega), t1, mp1.2.1, mp1.2.2.1, if_neg n0, if_neg n0, rc, rH]
    have m1 := Nat.mod_lt c (show qW m > 0 by omega)
    have m2 := Nat.mod_lt (qH m) (show qW m > 0 by omega)
    by_cases z : c % qW m ≤ qH m % qW m
    · rw [if_pos ((yI_le (by omega) (by omega) (by omega) (by omega)).mpr (by omega))]
      rw [if_pos z] at hsd
      rw [← hsd] at E77
      exact E77
    · rw [if_neg (fun q => by have := (yI_le (by omega) (by omega) (by omega) (by omega)).mp q; omega)]
      rw [if_neg z] at hsd
      rw [← hsd] at E77
      exact E77
  unfold fL_best fL_best_b0
  rw [add1, if_pos (inb_n (by omega) (by omega)), yI_cln (by omega), r1, b1 far]
  dsimp only
  rw [uT_e, if_pos (show decide (s.2.2 + 1 ≤ 1) = true from by rw [hs0]; rfl), if_pos (inb_n (by omega) (by omega)), k1, k2, k3, k5]
  rw [show wT (wT (nT s nw) w6 3 (yI (qfar (qW m) (qH m) c : Int))) w6 5 (0 : Int32) = s1 from hs1.symm]
  rw [t1, mp1.2.1, mp1.2.2.1, if_neg n0, if_neg n0, dc, dH]
  have m1 : c / qW m ≤ c := Nat.div_le_self _ _
  have m2 : qH m / qW m ≤ qH m := Nat.div_le_self _ _
  generalize c / qW m = ca at *
  generalize qH m / qW m = pa at *
  by_cases z : ca ≤ pa
  · rw [if_pos ((yI_le (by omega) (by omega) (by omega) (by omega)).mpr (by omega))]
    rw [if_pos z] at hup
    rw [← hup] at E51
    exact E51
  · rw [if_neg (fun q => by have := (yI_le (by omega) (by omega) (by omega) (by omega)).mp q; omega)]
    rw [if_neg z] at hup
    rw [← hup] at E51
    exact E51
