/-! ===== by distance ===== -/
def oFr (σ σ' : Sg) : Prop := ∀ o j, o ≠ 8 → ¬ (10 ≤ o ∧ o < 40) → rI σ' o j = rI σ o j
theorem GE_f {σ σ' : Sg} {m : Mm} (h : GE σ m) (f : oFr σ σ') : GE σ' m := ⟨by rw [f 4 5 (by omega) (by omega)]; exact h.1, by rw [f 4 6 (by omega) (by omega)]; exact h.2.1, fun i hi => by rw [f 5 i (by omega) (by omega), f 7 i (by omega) (by omega)]; exact h.2.2 i hi⟩
theorem f7_ow_i {t : Sg} {m : Mm} (v : VS m) {i : Nat} (hi : i < qR m * qW m) (ge : GE t m) (hd : ∀ x, x < qR m * qW m → qF m x < qF m i → rI t 8 x = yI (qcn m x : Int)) : ∃ t', fX7_openWays_b37 (yI (qF m i : Int)) (yI (i : Int)) (yI (cs m i 0 : Int)) (yI (i : Int)) t = some (.inl (yI ((i + 1 : Nat) : Int), t')) ∧ DN1 t' m i ∧ ∀ o j, ¬ (o = 8 ∧ j = i) → o ≠ 10 + i → rI t' o j = rI t o j := by
  have b30 := v.b30
  have LP : ∃ u, lp (fun s : Int32 × Sg => fX7_openWays_b40 (yI (qF m i : Int)) (yI (i : Int)) s.1 s.2) FU ((0 : Int32), wI t 8 i (yI (cs m i 0 : Int))) = some u ∧ (rI u 8 i = yI (cs m i 4 : Int) ∧ (∀ w, w < 4 → rI u (10 + i) w = yI (qnx m i w)) ∧ ∀ o j, ¬ (o = 8 ∧ j = i) → o ≠ 10 + i → rI u o j = rI t o j) := by
    refine lp_all (fun k s => s.1 = yI (k : Int) ∧ rI s.2 8 i = yI (cs m i k : Int) ∧ (∀ w, w < k → rI s.2 (10 + i) w = yI (qnx m i w)) ∧ ∀ o j, ¬ (o = 8 ∧ j = i) → o ≠ 10 + i → rI s.2 o j = rI t o j) 4 _ ?_ ?_ ⟨rfl, rI_s, fun w hw => absurd hw (Nat.not_lt_zero w), fun o j a _ => by show rI (wI t 8 i _) o j = _; rw [rI_wI, if_neg a]⟩ (FU_b (by omega))
    · rintro k ⟨x, u⟩ hk ⟨h1, h2, h3, h4⟩
      dsimp only at h1 h2 h3 h4
      subst h1
      have ge2 : GE u m := ⟨by rw [h4 4 5 (by omega) (by omega)]; exact ge.1, by rw [h4 4 6 (by omega) (by omega)]; exact ge.2.1, fun x hx => by rw [h4 5 x (by omega) (by omega), h4 7 x (by omega) (by omega)]; exact ge.2.2 x hx⟩
      have s := f7_ow_st v hi hk ge2 h2 (fun x hx hf => by rw [h4 8 x (fun q => by rw [q.2] at hf; omega) (by omega)]; exact hd x hx hf)
      refine ⟨_, s, rfl, rI_s, fun w hw => ?_, fun o j a b => ?_⟩
      · dsimp only
        rw [rI_o (by omega)]
        by_cases e : w = k
        · rw [e, rI_s]
        · rw [rI_k e]; exact h3 w (by omega)
      · dsimp only
        rw [rI_wI, if_neg a, rI_o b]; exact h4 o j a b
    · rintro ⟨x, u⟩ ⟨h1, h2, h3, h4⟩
      dsimp only at h1 h2 h3 h4
      subst h1
      refine ⟨u, ?_, h2, h3, h4⟩
      dsimp only
      unfold fX7_openWays_b40
      rw [if_pos (gep (v := 4) (b := 4) rfl (by omega) (by omega) (by omega))]
  obtain ⟨u, k1, k2, k3, k4⟩ := LP
  refine ⟨u, ?_, ⟨by rw [k2, cs_4 v], k3⟩, k4⟩
  unfold fX7_openWays_b37 fX7_openWays_b148
  rw [if_pos (inb_n (by omega) (by omega)), yI_cln (by omega), b1 k1, add1]
theorem f7_openWays {σ : Sg} {m : Mm} (v : VS m) (ge : GE σ m) {d : Nat} (hd9 : d ≤ 9) (hd : ∀ i, i < qR m * qW m → qF m i < d → DN1 σ m i) : ∃ t, fX7_openWays (yI (d : Int)) σ = some t ∧ oFr σ t ∧ ∀ i, i < qR m * qW m → qF m i < d + 1 → DN1 t m i := by
  have b30 := v.b30
  have LP : ∃ t, lp (fun s : Int32 × Sg => fX7_openWays_b2 (yI (d : Int)) s.1 s.2) FU ((0 : Int32), σ) = some t ∧ (oFr σ t ∧ ∀ i, i < qR m * qW m → qF m i < d + 1 → DN1 t m i) := by
    refine lp_all (fun k s => s.1 = yI (k : Int) ∧ oFr σ s.2 ∧ ∀ i, i < qR m * qW m → (qF m i < d ∨ (qF m i = d ∧ i < k)) → DN1 s.2 m i) (qR m * qW m) _ ?_ ?_ ⟨rfl, fun _ _ _ _ => rfl, fun i hi q => hd i hi (by omega)⟩ (FU_b (by omega))
    · rintro k ⟨x, t⟩ hk ⟨h1, h2, h3⟩
      dsimp only at h1 h2 h3
      subst h1
      have ge2 := GE_f ge h2
      have d1 := q9 v hk
      dsimp only
      unfold fX7_openWays_b2
      rw [ge2.1, if_neg (fun q => by have := (yI_le (by omega) (by omega) (by omega) (by omega)).mp q; omega), if_pos (inb_n (by omega) (by omega)), yI_cln (by omega), (ge2.2.2 k hk).2]
      by_cases e : qF m k = d
      · obtain ⟨t', s1, s2, s3⟩ := f7_ow_i v hk ge2 (fun x hx hf => (h3 x hx (Or.inl (by omega))).1)
        have fin : oFr σ t' ∧ ∀ i, i < qR m * qW m → (qF m i < d ∨ (qF m i = d ∧ i < k + 1)) → DN1 t' m i := by
          refine ⟨fun o j a b => by rw [s3 o j (by omega) (by omega), h2 o j a b], fun i hi q => ?_⟩
          by_cases z : i = k
          · rw [z]; exact s2
          · have := h3 i hi (by omega)
            refine ⟨by rw [s3 8 i (by omega) (by omega)]; exact this.1, fun w hw => by rw [s3 (10 + i) w (by omega) (by omega)]; exact this.2 w hw⟩
        rw [if_pos (by rw [e])]
        have c0 : cs m k 0 = if d = 0 then 1 else 0 := by
          show (if k = qH m then 1 else 0) = _
          by_cases z : d = 0
          · rw [if_pos z, if_pos (qF_0 v (by omega))]
          · rw [if_neg z, if_neg (fun q => z (by rw [q, qF_H] at e; omega))]
        rw [e, c0] at s1
        by_cases z : d = 0
        · rw [if_pos (eqp (v := 0) (b := 0) rfl (by omega))]
          rw [if_pos z] at s1
          exact ⟨_, s1, rfl, fin⟩
        · rw [if_neg (yI_nl (v := 0) (b := 0) rfl (by omega) (by omega) (by omega))]
          rw [if_neg z] at s1
          exact ⟨_, s1, rfl, fin⟩
      · rw [if_neg (fun q => e (by have := yI_inj (by omega) (by omega) (by omega) (by omega) q; omega))]
        unfold fX7_openWays_b148
        rw [add1]
        exact ⟨_, rfl, rfl, h2, fun i hi q => h3 i hi (by
          rcases q with q | q
          · exact Or.inl q
          · refine Or.inr ⟨q.1, ?_⟩
            have : i ≠ k := fun z => e (by rw [← z]; exact q.1)
            omega)⟩
    · rintro ⟨x, t⟩ ⟨h1, h2, h3⟩
      dsimp only at h1 h2 h3
      subst h1
      refine ⟨t, ?_, h2, fun i hi q => h3 i hi (by omega)⟩
      dsimp only
      unfold fX7_openWays_b2
      rw [(GE_f ge h2).1, if_pos ((yI_le (by omega) (by omega) (by omega) (by omega)).mpr (Int.le_refl _))]
  obtain ⟨t, k1, k2⟩ := LP
  refine ⟨t, ?_, k2⟩
  unfold fX7_openWays fX7_openWays_b0
  rw [b1 k1]
theorem f7_opened {σ : Sg} {m : Mm} (v : VS m) (ge : GE σ m) : ∃ t, lp (fun s : Int32 × Sg => fX7_lay_b41 s.1 s.2) FU ((0 : Int32), σ) = some t ∧ (oFr σ t ∧ ∀ i, i < qR m * qW m → DN1 t m i) := by
  refine lp_all (fun k s => s.1 = yI (k : Int) ∧ oFr σ s.2 ∧ ∀ i, i < qR m * qW m → qF m i < k → DN1 s.2 m i) 10 _ ?_ ?_ ⟨rfl, fun _ _ _ _ => rfl, fun i hi q => absurd q (Nat.not_lt_zero _)⟩ (FU_b (by omega))
  · rintro k ⟨x, t⟩ hk ⟨h1, h2, h3⟩
    dsimp only at h1 h2 h3
    subst h1
    obtain ⟨t', s1, s2, s3⟩ := f7_openWays v (GE_f ge h2) (d := k) (by omega) h3
    refine ⟨(yI ((k + 1 : Nat) : Int), t'), ?_, rfl, fun o j a b => by rw [s2 o j a b, h2 o j a b], s3⟩
    dsimp only
    unfold fX7_lay_b41
    rw [if_neg (gtn (v := 9) (b := 9) rfl (by omega) (by omega) (by omega)), b1 s1, add1]
  · rintro ⟨x, t⟩ ⟨h1, h2, h3⟩
    dsimp only at h1 h2 h3
    subst h1
    refine ⟨t, ?_, h2, fun i hi => h3 i hi (by have := q9 v hi; omega)⟩
    dsimp only
    unfold fX7_lay_b41
    rw [if_pos (gtp (v := 9) (b := 9) rfl (by omega) (by omega) (by omega))]
