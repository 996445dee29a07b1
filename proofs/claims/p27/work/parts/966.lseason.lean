/-! ===== the law's season ===== -/
def shq (c k : Nat) : Nat := if k = 0 then s0 c else if k = 1 then s1 c else s2 c
def ps (m : Mm) (c : Nat) : Nat → Int
  | 0 => 0
  | k + 1 => ps m c k + sG m k (shq c k)
theorem ps_3 (m : Mm) (c : Nat) : ps m c 3 = pays m c := by
  show 0 + sG m 0 (shq c 0) + sG m 1 (shq c 1) + sG m 2 (shq c 2) = sG m 0 (s0 c) + sG m 1 (s1 c) + sG m 2 (s2 c)
  rw [Int.zero_add]; rfl
theorem may_shq {m : Mm} {B T c : Nat} : may m B T c ↔ s0 c + s1 c + s2 c ≤ T ∧ ∀ k, k < 3 → shq c k = 0 ∨ okb m B k := by
  unfold may
  constructor
  · rintro ⟨h, h0, h1, h2⟩
    refine ⟨h, fun k hk => ?_⟩
    rcases (show k = 0 ∨ k = 1 ∨ k = 2 by omega) with rfl | rfl | rfl
    · exact h0
    · exact h1
    · exact h2
  · rintro ⟨h, hk⟩
    exact ⟨h, hk 0 (by omega), hk 1 (by omega), hk 2 (by omega)⟩
theorem shq_b {c k : Nat} (hc : c < 1728) : shq c k < 12 := by
  unfold shq s0 s1 s2
  by_cases a : k = 0
  · rw [if_pos a]; omega
  · rw [if_neg a]
    by_cases b : k = 1
    · rw [if_pos b]; omega
    · rw [if_neg b]; omega
theorem sG_g {m : Mm} {B b t : Nat} (g : GB m B) (ok : t = 0 ∨ okb m B b) (ht : t ≤ 11) : -100000 < sG m b t ∧ sG m b t ≤ 9000 := by
  by_cases q : t = 0
  · rw [q, sG_0]; decide
  · rcases ok with h | h
    · exact absurd h q
    · have a := g b h.1 h.2 (2 * t) (by omega) (by omega)
      have b' := g b h.1 h.2 (2 * t + 1) (by omega) (by omega)
      unfold sG
      rw [if_neg q, if_neg h.2]
      omega
theorem ps_b {m : Mm} {B c : Nat} (g : GB m B) (hc : c < 1728) : ∀ k, (∀ j, j < k → shq c j = 0 ∨ okb m B j) → -100000 * (k : Int) ≤ ps m c k ∧ ps m c k ≤ 9000 * (k : Int)
  | 0, _ => by show -100000 * ((0 : Nat) : Int) ≤ 0 ∧ (0 : Int) ≤ 9000 * ((0 : Nat) : Int); decide
  | k + 1, h => by
    have a := ps_b g hc k (fun j hj => h j (by omega))
    have b := sG_g g (h k (by omega)) (by have := shq_b (k := k) hc; omega)
    show _ ≤ ps m c k + sG m k (shq c k) ∧ ps m c k + sG m k (shq c k) ≤ _
    omega
theorem pays_b {m : Mm} {B T c : Nat} (g : GB m B) (hc : c < 1728) (h : may m B T c) : -300000 ≤ pays m c ∧ pays m c ≤ 27000 := by
  have := ps_b g hc 3 (fun j hj => (may_shq.mp h).2 j hj)
  rw [ps_3] at this
  omega
/-- the gains as the law holds them -/
def HG (s : LwS) (w : Nat) (m : Mm) (B : Nat) : Prop := ∀ k, k < B → ∀ t, 1 ≤ t → t ≤ 11 → rT s w (12 * k + t) = yI (if qcn m (qsq m k) = 0 then -100001 else sG m k t)
theorem L_deal {m : Mm} {B T c w2 w6 w8 nw : Nat} {s : LwS} (g : GB m B) (B3 : B ≤ 3) (hc : c < 1728) (ow : ∀ k, k < 3 → rT s w8 k = yI (shq c k : Int)) (hg : HG s w2 m B) (x3 x4 x5 x7 : Int32) {y0 : Int32} (hy : (y0 = 1 ∧ s0 c + s1 c + s2 c ≤ T) ∨ (y0 = 0 ∧ ¬ s0 c + s1 c + s2 c ≤ T)) : ∃ t, lp (fun s => fL_season_b86 (yI (B : Int)) w2 x3 x4 x5 w6 x7 w8 s.1 s.2.1 s.2.2.1 nw s.2.2.2) FU ((0 : Int32), y0, (0 : Int32), s) = some t ∧ (t.2.2 = s ∧ ((t.2.1 = 1 ∧ may m B T c ∧ t.1 = yI (pays m c)) ∨ (t.2.1 = 0 ∧ ¬ may m B T c))) := by
  refine lp_for (fun k st => st.2.2.1 = yI (k : Int) ∧ st.2.2.2 = s ∧ ((st.2.1 = 1 ∧ s0 c + s1 c + s2 c ≤ T ∧ (∀ j, j < k → shq c j = 0 ∨ okb m B j) ∧ st.1 = yI (ps m c k)) ∨ (st.2.1 = 0 ∧ ¬ may m B T c))) 3 _ ?_ ?_ ⟨rfl, rfl, ?_⟩ (FU_b (by omega))
  · rintro k ⟨x9, x10, x11, t⟩ hk ⟨h1, h2, h3⟩
    dsimp only at h1 h2 h3
    subst h1 h2
    rcases h3 with ⟨rfl, hs, hj, rfl⟩ | ⟨rfl, hn⟩
    · have hb := shq_b (k := k) hc
      have hp := ps_b g hc k hj
      have step : ∃ o, fL_season_b86 (yI (B : Int)) w2 x3 x4 x5 w6 x7 w8 (yI (ps m c k)) (1 : Int32) (yI (k : Int)) nw t = some (.inl o) ∧ (o.2.2.1 = yI ((k + 1 : Nat) : Int) ∧ o.2.2.2 = t ∧ ((o.2.1 = 1 ∧ s0 c + s1 c + s2 c ≤ T ∧ (∀ j, j < k + 1 → shq c j = 0 ∨ okb m B j) ∧ o.1 = yI (ps m c (k + 1))) ∨ (o.2.1 = 0 ∧ ¬ may m B T c))) := by
        unfold fL_season_b86 fL_season_b136 fL_season_b137 fL_season_b162
        rw [if_neg (gen (v := 3) (b := 3) rfl (by omega) (by omega) (by omega)), if_neg (show ¬ (1 : Int32) = 0 by decide), if_pos (inb_n (by omega) hk), yI_cln (by omega), ow k hk, if_pos (show (0 : Int32) = 0 from rfl), if_neg (show ¬ (1 : Int32) = 0 by decide), add1]
        by_cases q0 : shq c k = 0
        · rw [if_pos (eqp (v := 0) (b := 0) rfl (by omega))]
          refine ⟨_, rfl, rfl, rfl, Or.inl ⟨rfl, hs, fun j hj2 => ?_, ?_⟩⟩
          · by_cases e : j = k
            · rw [e]; exact Or.inl q0
            · exact hj j (by omega)
          · show yI (ps m c k) = yI (ps m c k + sG m k (shq c k))
            rw [q0, sG_0, Int.add_zero]
        · rw [if_neg (yI_nl (v := 0) (b := 0) rfl (by omega) (by omega) (by omega))]
          by_cases q1 : B ≤ k
          · rw [if_pos ((yI_le (by omega) (by omega) (by omega) (by omega)).mpr (by omega))]
            refine ⟨_, rfl, rfl, rfl, Or.inr ⟨rfl, fun hm => ?_⟩⟩
            rcases (may_shq.mp hm).2 k hk with a | a
            · exact q0 a
            · have := a.1; omega
          · rw [if_neg (fun y => by have := (yI_le (by omega) (by omega) (by omega) (by omega)).mp y; omega), mul12, addn, if_pos (inb_n (by omega) (by omega)), if_pos (inb_n (by omega) (by omega)), yI_cln (by omega), hg k (by omega) _ (by omega) (by omega)]
            by_cases z : qcn m (qsq m k) = 0
            · rw [if_pos z, if_pos (show yI (-100001) ≤ (-100001 : Int32) by decide)]
              refine ⟨_, rfl, rfl, rfl, Or.inr ⟨rfl, fun hm => ?_⟩⟩
              rcases (may_shq.mp hm).2 k hk with a | a
              · exact q0 a
              · exact a.2 z
            · have sb := sG_g (b := k) (t := shq c k) g (Or.inr ⟨by omega, z⟩) (by omega)
              rw [if_neg z, if_neg (len (v := -100001) (b := -100001) rfl (by omega) (by omega) (by omega)), if_pos (inb_n (by omega) hk), if_pos (inb_n (by omega) (by omega)), yI_add]
              refine ⟨_, rfl, rfl, rfl, Or.inl ⟨rfl, hs, fun j hj2 => ?_, rfl⟩⟩
              by_cases e : j = k
              · rw [e]; exact Or.inr ⟨by omega, z⟩
              · exact hj j (by omega)
      obtain ⟨o, a1, a2⟩ := step
      exact ⟨.inl o, a1, a2⟩
    · refine ⟨.inr (x9, (0 : Int32), t), ?_, rfl, Or.inr ⟨rfl, hn⟩⟩
      dsimp only
      unfold fL_season_b86
      rw [if_neg (gen (v := 3) (b := 3) rfl (by omega) (by omega) (by omega)), if_pos rfl]
  · rintro ⟨x9, x10, x11, t⟩ ⟨h1, h2, h3⟩
    dsimp only at h1 h2 h3
    subst h1 h2
    refine ⟨(x9, x10, t), ?_, rfl, ?_⟩
    · dsimp only
      unfold fL_season_b86
      rw [if_pos (gep (v := 3) (b := 3) rfl (by omega) (by omega) (by omega))]
    · rcases h3 with ⟨rfl, hs, hj, rfl⟩ | ⟨rfl, hn⟩
      · exact Or.inl ⟨rfl, may_shq.mpr ⟨hs, hj⟩, by rw [ps_3]⟩
      · exact Or.inr ⟨rfl, hn⟩
  · rcases hy with ⟨rfl, h⟩ | ⟨rfl, h⟩
    · exact Or.inl ⟨rfl, h, fun j hj => absurd hj (Nat.not_lt_zero j), rfl⟩
    · exact Or.inr ⟨rfl, fun hm => h hm.1⟩
/-- three shares copied -/
theorem L_cp {w2 w6 w8 nw : Nat} {s : LwS} (n : w8 ≠ w6) (x1 x3 x4 x5 x7 : Int32) : ∃ t, lp (fun s => fL_season_b190 x1 w2 x3 x4 x5 w6 x7 w8 s.1 nw s.2) FU ((0 : Int32), s) = some t ∧ (fr w6 s t ∧ ∀ k, k < 3 → rT t w6 k = rT s w8 k) := by
  refine lp_all (fun k st => st.1 = yI (k : Int) ∧ fr w6 s st.2 ∧ ∀ j, j < k → rT st.2 w6 j = rT s w8 j) 3 _ ?_ ?_ ⟨rfl, fr_r _ _, fun j hj => absurd hj (Nat.not_lt_zero j)⟩ (FU_b (by omega))
  · rintro k ⟨x, t⟩ hk ⟨h1, h2, h3⟩
    dsimp only at h1 h2 h3
    subst h1
    refine ⟨(yI ((k + 1 : Nat) : Int), wT t w6 k (rT t w8 k)), ?_, rfl, fr_w h2, fun j hj => ?_⟩
    · dsimp only
      unfold fL_season_b190
      rw [if_neg (gen (v := 3) (b := 3) rfl (by omega) (by omega) (by omega)), if_pos (inb_n (by omega) hk), if_pos (inb_n (by omega) hk), yI_cln (by omega), add1]
    · dsimp only
      by_cases e : j = k
      · rw [e, rT_s, h2.2.2 _ _ n]
      · rw [rT_k e]; exact h3 j (by omega)
  · rintro ⟨x, t⟩ ⟨h1, h2, h3⟩
    dsimp only at h1 h2 h3
    subst h1
    refine ⟨t, ?_, h2, h3⟩
    dsimp only
    unfold fL_season_b190
    rw [if_pos (gep (v := 3) (b := 3) rfl (by omega) (by omega) (by omega))]
/-- the walk over all deals -/
theorem L_deals {m : Mm} {B T w2 nw : Nat} {s : LwS} (g : GB m B) (B3 : B ≤ 3) (T11 : T ≤ 11) (hw : w2 < nw) (hg : HG s w2 m B) (hu : s.2.2 = 1) (hz : ∀ k, k < 3 → rT s nw k = 0) (x4 : Int32) : ∃ t, lp (fun s => fL_season_b11 (yI (B : Int)) w2 (yI (T : Int)) x4 s.1 nw s.2.1 (nw + 1) s.2.2) FU ((0 : Int32), (1 : Int32), s) = some t ∧ (t.1 = yI (sM m B B T) ∧ (∀ k, k < 3 → rT t.2 nw k = yI (shq (cB m B T) k : Int)) ∧ fr2 nw (nw + 1) s t.2) := by
  refine lp_all (fun k st => st.2.1 = yI ((k + 1 : Nat) : Int) ∧ st.2.2.2.2 = k + 1 ∧ fr2 nw (nw + 1) s st.2.2 ∧ ∃ most best, st.1 = yI most ∧ scD m B T (k + 1) most best ∧ ∀ j, j < 3 → rT st.2.2 nw j = yI (shq best j : Int)) 1727 _ ?_ ?_ ⟨rfl, hu, ⟨rfl, fun _ _ _ _ => rfl⟩, 0, 0, rfl, scD_0 m B T, fun j hj => ?_⟩ (FU_b (by omega))
  · rintro k ⟨x5, x7, t⟩ hk ⟨h1, h2, h3, most, best, h4, h5, h6⟩
    dsimp only at h1 h2 h3 h4 h6
    subst h1 h4
    have hbest := h5.1
    have mb := pays_b g (by omega) h5.2.1
    rw [h5.2.2.1] at mb
    -- the row of the deal
    obtain ⟨t1, ht1⟩ : ∃ t1, t1 = wT (wT (wT (nT t (nw + 1)) (nw + 1) 0 (yI (s0 (k + 1) : Int))) (nw + 1) 1 (yI (s1 (k + 1) : Int))) (nw + 1) 2 (yI (s2 (k + 1) : Int)) := ⟨_, rfl⟩
    have f1 : fr2 nw (nw + 1) t t1 := by rw [ht1]; exact ⟨rfl, fun o j a b => by rw [rT_o b, rT_o b, rT_o b, rT_n b]⟩
    have u1 : t1.2.2 = k + 2 := by rw [ht1]; show t.2.2 + 1 = _; omega
    have ow : ∀ j, j < 3 → rT t1 (nw + 1) j = yI (shq (k + 1) j : Int) := fun j hj => by
      rw [ht1]
      rcases (show j = 0 ∨ j = 1 ∨ j = 2 by omega) with rfl | rfl | rfl
      · rw [rT_k (by omega), rT_k (by omega), rT_s]; rfl
      · rw [rT_k (by omega), rT_s]; rfl
      · rw [rT_s]; rfl
    have rb : ∀ j, rT t1 nw j = rT t nw j := fun j => by rw [ht1, rT_o (by omega), rT_o (by omega), rT_o (by omega), rT_n (by omega)]
    have hg1 : HG t1 w2 m B := fun b hb d d1 d2 => by rw [f1.2 _ _ (by omega) (by omega), h3.2 _ _ (by omega) (by omega)]; exact hg b hb d d1 d2
    have e0 : yI ((k + 1 : Nat) : Int) / (144 : Int32) = yI (s0 (k + 1) : Int) := by rw [show (144 : Int32) = yI ((144 : Nat) : Int) from rfl, divn (by omega) (by omega) (by omega)]; rfl
    have e1 : yI ((k + 1 : Nat) : Int) / (12 : Int32) - yI ((k + 1 : Nat) : Int) / (12 : Int32) / (12 : Int32) * (12 : Int32) = yI (s1 (k + 1) : Int) := by
      rw [show (12 : Int32) = yI ((12 : Nat) : Int) from rfl, divn (by omega) (by omega) (by omega), remn (by omega) (by omega) (by omega)]; rfl
    have e2 : yI ((k + 1 : Nat) : Int) - yI ((k + 1 : Nat) : Int) / (12 : Int32) * (12 : Int32) = yI (s2 (k + 1) : Int) := by
      rw [show (12 : Int32) = yI ((12 : Nat) : Int) from rfl, remn (by omega) (by omega) (by omega)]; rfl
    have sb : s0 (k + 1) < 12 ∧ s1 (k + 1) < 12 ∧ s2 (k + 1) < 12 := by unfold s0 s1 s2; omega
    -- behind the row: from here the loop goes on
    have GO : ∀ y0 : Int32, ((y0 = 1 ∧ s0 (k + 1) + s1 (k + 1) + s2 (k + 1) ≤ T) ∨ (y0 = 0 ∧ ¬ s0 (k + 1) + s1 (k + 1) + s2 (k + 1) ≤ T)) → ∃ s', fL_season_b81 (yI (B : Int)) w2 (yI (T : Int)) x4 (yI most) nw (yI ((k + 1 : Nat) : Int)) (nw + 1) (0 : Int32) y0 (nw + 1 + 1) t1 = some (.inl s') ∧ (s'.2.1 = yI ((k + 1 + 1 : Nat) : Int) ∧ s'.2.2.2.2 = k + 1 + 1 ∧ fr2 nw (nw + 1) s s'.2.2 ∧ ∃ most best, s'.1 = yI most ∧ scD m B T (k + 1 + 1) most best ∧ ∀ j, j < 3 → rT s'.2.2 nw j = yI (shq best j : Int)) := fun y0 hy => by
      obtain ⟨t2, p1, p2, p3⟩ := L_deal (T := T) (c := k + 1) (w6 := nw) (nw := nw + 1 + 1) g B3 (by omega) ow hg1 (yI (T : Int)) x4 (yI most) (yI ((k + 1 : Nat) : Int)) hy
      unfold fL_season_b81 fL_season_b212
      rw [b1 p1, p2, add1]
      rcases p3 with ⟨q1, q2, q3⟩ | ⟨q1, q2⟩
      · have pb := pays_b g (by omega) q2
        rw [q1, if_neg (show ¬ (1 : Int32) = 0 by decide), q3]
        by_cases z : most < pays m (k + 1)
        · obtain ⟨t3, r1, r2, r3⟩ := L_cp (w2 := w2) (w6 := nw) (w8 := nw + 1) (nw := nw + 1 + 1) (s := t1) (by omega) (yI (B : Int)) (yI (T : Int)) x4 (yI (pays m (k + 1))) (yI ((k + 1 : Nat) : Int))
          rw [if_pos ((yI_lt (by omega) (by omega) (by omega) (by omega)).mpr z), b1 r1]
          exact ⟨_, rfl, rfl, by show t3.2.2 = _; rw [r2.2.1, u1], fr2_t (fr2_t h3 f1) (fr2_a r2), _, k + 1, rfl, scD_yes h5 q2 z, fun j hj => by rw [r3 j hj, ow j hj]⟩
        · rw [if_neg (fun y => z ((yI_lt (by omega) (by omega) (by omega) (by omega)).mp y))]
          exact ⟨_, rfl, rfl, u1, fr2_t h3 f1, most, best, rfl, scD_no h5 (fun _ => by omega), fun j hj => by rw [rb, h6 j hj]⟩
      · rw [q1, if_pos rfl]
        exact ⟨_, rfl, rfl, u1, fr2_t h3 f1, most, best, rfl, scD_no h5 (fun hm => absurd hm q2), fun j hj => by rw [rb, h6 j hj]⟩
    dsimp only
    unfold fL_season_b11
    rw [if_neg (gen (v := 1728) (b := 1728) rfl (by omega) (by omega) (by omega)), if_pos (show decide (t.2.2 + 1 ≤ 1728) = true from decide_eq_true (by omega)), k0, k1, k2, e0, e1, e2, ← ht1, show rT t1 (nw + 1) 0 = yI (s0 (k + 1) : Int) from ow 0 (by omega), show rT t1 (nw + 1) 1 = yI (s1 (k + 1) : Int) from ow 1 (by omega), show rT t1 (nw + 1) 2 = yI (s2 (k + 1) : Int) from ow 2 (by omega), addn, addn]
    by_cases z : s0 (k + 1) + s1 (k + 1) + s2 (k + 1) ≤ T
    · rw [if_neg (fun y => by have := (yI_lt (by omega) (by omega) (by omega) (by omega)).mp y; omega)]
      exact GO 1 (Or.inl ⟨rfl, z⟩)
    · rw [if_pos ((yI_lt (by omega) (by omega) (by omega) (by omega)).mpr (by omega))]
      exact GO 0 (Or.inr ⟨rfl, z⟩)
  · rintro ⟨x5, x7, t⟩ ⟨h1, h2, h3, most, best, h4, h5, h6⟩
    dsimp only at h1 h2 h3 h4 h6
    subst h1 h4
    obtain ⟨d1, d2⟩ := scD_end g B3 T11 h5
    refine ⟨(yI most, t), ?_, by rw [d1], by rw [← d2]; exact h6, h3⟩
    dsimp only
    unfold fL_season_b11
    rw [if_pos (gep (v := 1728) (b := 1728) rfl (by omega) (by omega) (by omega))]
  · dsimp only
    rw [hz j hj]
    rcases (show j = 0 ∨ j = 1 ∨ j = 2 by omega) with rfl | rfl | rfl <;> rfl
theorem HG_n {m : Mm} {B w nw : Nat} {s : LwS} (h : HG s w m B) (n : w ≠ nw) : HG (nT s nw) w m B := fun k hk t h1 h2 => by rw [rT_n n]; exact h k hk t h1 h2
/-- the season, not told -/
theorem L_season0 {m : Mm} {B T w2 nw : Nat} {s : LwS} (g : GB m B) (B3 : B ≤ 3) (T11 : T ≤ 11) (hw : w2 < nw) (hg : HG s w2 m B) (hu : s.2.2 = 0) : ∃ s', fL_season (yI (B : Int)) w2 (yI (T : Int)) (0 : Int32) nw s = some (yI (sM m B B T), s') ∧ fr2 nw (nw + 1) s s' := by
  obtain ⟨t, p1, p2, p3, p4⟩ := L_deals (T := T) (s := nT s nw) (w2 := w2) (nw := nw) g B3 T11 hw (HG_n hg (by omega)) (by show s.2.2 + 1 = 1; omega) (fun k _ => rT_nn) (0 : Int32)
  refine ⟨t.2, ?_, p4.1, fun o j a b => by rw [p4.2 o j a b, rT_n a]⟩
  unfold fL_season fL_season_b0
  rw [if_pos (show decide (s.2.2 + 1 ≤ 1728) = true from decide_eq_true (by omega)), b1 p1, if_pos rfl, p2]
/-- the season, told, and held against the class -/
theorem L_season1 {n : Nat} {τ : Sg} {B T w2 nw : Nat} {s : LwS} (h : Inv n s.1 τ) (hn : n < 512) (hB : cM τ 0 15 = (B : Int)) (s0' : cM τ 0 12 ≠ 0) (B3 : B ≤ 3) (T1 : 1 ≤ T) (T11 : T ≤ 11) (hw : w2 < nw) (hg : HG s w2 (cM τ) B) (hu : s.2.2 = 0) : ∃ s', fL_season (yI (B : Int)) w2 (yI (T : Int)) (1 : Int32) nw s = some (yI (sM (cM τ) B B T), s') ∧ Inv n s'.1 τ ∧ ∀ o k, o ≠ nw → o ≠ nw + 1 → rT s' o k = rT s o k := by
  have g := Inv_GB h hB
  obtain ⟨t, p1, p2, p3, p4⟩ := L_deals (T := T) (s := nT s nw) (w2 := w2) (nw := nw) g B3 T11 hw (HG_n hg (by omega)) (by show s.2.2 + 1 = 1; omega) (fun k _ => rT_nn) (1 : Int32)
  have i1 : Inv n t.2.1 τ := by rw [p4.1]; exact h
  obtain ⟨σ1, q1, q2⟩ := f9_season (T := T) (w := 0) i1 hn hB s0' T1 T11 (by omega)
  have et : tellS (cM τ) B T 0 = sM (cM τ) B B T := by unfold tellS; rw [if_pos rfl]
  rw [et] at q1
  obtain ⟨cs0, cs1, cs2⟩ := cB_s (T := T) g B3 T11
  have LP : ∃ u, lp (fun s => fL_season_b242 (yI (B : Int)) (yI (T : Int)) t.1 nw s.1 (nw + 1) s.2) FU ((0 : Int32), (cS t.2 σ1)) = some u ∧ (∃ s', u = .inr s' ∧ Inv n s'.1 τ ∧ ∀ o k, rT s' o k = rT t.2 o k) := by
    refine lp_all (fun k st => st.1 = yI (k : Int) ∧ Inv n st.2.1 τ ∧ ∀ o j, rT st.2 o j = rT t.2 o j) 5 _ ?_ ?_ ⟨rfl, q2, fun _ _ => rfl⟩ (FU_b (by omega))
    · rintro k ⟨x, u⟩ hk ⟨h1, h2, h3⟩
      dsimp only at h1 h2 h3
      subst h1
      obtain ⟨σ2, r1, r2⟩ := f9_season (T := T) (w := k + 1) h2 hn hB s0' T1 T11 (by omega)
      refine ⟨(yI ((k + 1 : Nat) : Int), cS u σ2), ?_, rfl, r2, h3⟩
      dsimp only
      unfold fL_season_b242 fL_season_b272
      rw [if_neg (gen (v := 5) (b := 5) rfl (by omega) (by omega) (by omega)), show (1 : Int32) + yI (k : Int) = yI ((k + 1 : Nat) : Int) from by rw [show (1 : Int32) = yI ((1 : Nat) : Int) from rfl, addn]; congr 1; omega, b1 r1]
      unfold tellS
      rw [if_neg (show ¬ k + 1 = 0 by omega)]
      by_cases z : B ≤ k
      · rw [if_pos ((yI_le (by omega) (by omega) (by omega) (by omega)).mpr (by omega)), if_neg (show ¬ k + 1 ≤ B by omega), if_pos (show yI (-1) = (-1 : Int32) from rfl), add1]
      · rw [if_neg (fun y => by have := (yI_le (by omega) (by omega) (by omega) (by omega)).mp y; omega), if_pos (show k + 1 ≤ B by omega), if_pos (inb_n (by omega) (by omega)), yI_cln (by omega), rT_c, h3, p3 k (by omega), gvn_g B3 (by omega)]
        have e : (if k = 0 then g0 (cM τ) B T else if k = 1 then g1 (cM τ) B T else g2 (cM τ) B T) = shq (cB (cM τ) B T) k := by
          unfold shq
          rw [cs0, cs1, cs2]
        rw [e, if_pos rfl, add1]
    · rintro ⟨x, u⟩ ⟨h1, h2, h3⟩
      dsimp only at h1 h2 h3
      subst h1
      refine ⟨.inr u, ?_, u, rfl, h2, h3⟩
      dsimp only
      unfold fL_season_b242
      rw [if_pos (gep (v := 5) (b := 5) rfl (by omega) (by omega) (by omega))]
  obtain ⟨u, u1, s', rfl, u2, u3⟩ := LP
  refine ⟨s', ?_, u2, fun o j a b => by rw [u3 o j, p4.2 o j a b, rT_n a]⟩
  unfold fL_season fL_season_b0
  rw [if_pos (show decide (s.2.2 + 1 ≤ 1728) = true from decide_eq_true (by omega)), b1 p1, if_neg (show ¬ (1 : Int32) = 0 by decide), show (0 : Int32) = yI ((0 : Nat) : Int) from rfl, b1 q1]
  dsimp only
  rw [p2, if_pos rfl]
  rw [p2] at u1
  rw [show yI ((0 : Nat) : Int) = (0 : Int32) from rfl, b1 u1]
  rfl
