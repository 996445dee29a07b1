/-! ===== coin, change ===== -/
theorem core_e {ns : Nat → Nat → Bool} {σ σ' : Sg} {o k : Nat} (h : rI σ' o k = rI σ o k) : core ns σ' o k = core ns σ o k := by unfold core; rw [h]
theorem VG_0 {c m : Mm} (h5 : m 0 15 ≤ 5) (h : ∀ b : Nat, b < 5 → c 65 b = 0) : VG c m := fun b hb hn => absurd (h b (by omega)) hn
theorem f3_forgetAll (σ : Sg) : ∃ σ', fX3_forgetAll σ = some σ' ∧ (∀ b : Nat, b < 5 → rI σ' 65 b = 0) ∧ ∀ o k, o ≠ 65 → rI σ' o k = rI σ o k := by
  have H : ∃ t, lp (fun s : Int32 × Sg => fX3_forgetAll_b2 s.1 s.2) FU ((0 : Int32), σ) = some t ∧ ((∀ b : Nat, b < 5 → rI t 65 b = 0) ∧ ∀ o k, o ≠ 65 → rI t o k = rI σ o k) := by
    refine lp_all (fun k s => s.1 = yI (k : Int) ∧ (∀ b : Nat, b < k → rI s.2 65 b = 0) ∧ ∀ o j, o ≠ 65 → rI s.2 o j = rI σ o j) 5 _ ?_ ?_ ⟨rfl, fun b hb => absurd hb (Nat.not_lt_zero _), fun _ _ _ => rfl⟩ (FU_b (by omega))
    · rintro k ⟨x, s⟩ hk ⟨h1, h2, h3⟩
      dsimp only at h1 h2 h3
      subst h1
      refine ⟨(yI ((k + 1 : Nat) : Int), wI s 65 k 0), ?_, rfl, fun b hb => ?_, fun o j ho => ?_⟩
      · dsimp only
        unfold fX3_forgetAll_b2
        rw [if_neg (gen (v := 5) (b := 5) rfl (by omega) (by omega) (by omega)), if_pos (inb_n (by omega) hk), yI_cln (by omega), add1]
      · by_cases e : b = k
        · rw [e]; exact rI_s
        · show rI (wI s 65 k 0) 65 b = 0
          rw [rI_k e]; exact h2 b (by omega)
      · show rI (wI s 65 k 0) o j = rI σ o j
        rw [rI_o ho]; exact h3 o j ho
    · rintro ⟨x, s⟩ ⟨h1, h2, h3⟩
      dsimp only at h1 h2 h3
      subst h1
      refine ⟨s, ?_, h2, h3⟩
      dsimp only
      unfold fX3_forgetAll_b2
      rw [if_pos (gep (v := 5) (b := 5) rfl (by omega) (by omega) (by omega))]
  obtain ⟨t, h1, h2, h3⟩ := H
  refine ⟨t, ?_, h2, h3⟩
  unfold fX3_forgetAll fX3_forgetAll_b0
  rw [b1 h1]
def loC (a : Int) : Int := if a = 0 then 1 else 0
def hiC (a : Int) : Int := if a = 2 then 99 else 9
theorem f1_mayBe {σ : Sg} {a v : Int} (h1 : -2147483648 ≤ a) (h2 : a < 2147483648) (h3 : -2147483648 ≤ v) (h4 : v < 2147483648) : fX1_mayBe 40 (yI a) (yI v) σ = some (if (0 ≤ a ∧ a ≤ 2) ∧ loC a ≤ v ∧ v ≤ hiC a then 1 else 0, σ) := by
  unfold fX1_mayBe fX1_mayBe_b0
  by_cases q0 : a < 0
  · rw [if_pos (ltp (v := 0) (b := 0) rfl h1 h2 q0), if_neg (by omega)]
  · rw [if_neg (ltn (v := 0) (b := 0) rfl h1 h2 (by omega))]
    by_cases q1 : 2 < a
    · rw [if_pos (gtp (v := 2) (b := 2) rfl h1 h2 q1), if_neg (by omega)]
    · rw [if_neg (gtn (v := 2) (b := 2) rfl h1 h2 (by omega))]
      have e1 : stL [1, 0, 0] (yI a).toNatClampNeg = yI (loC a) ∧ stL [9, 9, 99] (yI a).toNatClampNeg = yI (hiC a) := by
        rcases (show a = 0 ∨ a = 1 ∨ a = 2 by omega) with rfl | rfl | rfl
        · exact ⟨rfl, rfl⟩
        · exact ⟨rfl, rfl⟩
        · exact ⟨rfl, rfl⟩
      have lo1 : 0 ≤ loC a ∧ loC a ≤ 1 := by unfold loC; omega
      have hi1 : 9 ≤ hiC a ∧ hiC a ≤ 99 := by unfold hiC; omega
      rw [e1.1, e1.2, if_pos (inb_t h2 (by omega) (by omega)), if_pos (inb_t h2 (by omega) (by omega))]
      simp (disch := omega) only [yI_lt]
      by_cases q2 : v < loC a
      · rw [if_pos q2, if_neg (by omega)]
      · rw [if_neg q2]
        by_cases q3 : hiC a < v
        · rw [if_pos q3, if_neg (by omega)]
        · rw [if_neg q3, if_pos (by omega)]
theorem IV_coin {n : Nat} {c c' m m' : Mm} (h : IV n c m) {p w l : Int} (hm : ∀ o k, ¬ (o = 0 ∧ 17 ≤ k ∧ k ≤ 19) → m' o k = m o k) (hc : ∀ o, o ≠ 65 → o ≠ 41 → c' o = c o) (h65 : ∀ b : Nat, b < 5 → c' 65 b = 0) (m1 : m' 0 17 = p) (m2 : m' 0 18 = w) (m3 : m' 0 19 = l) (c1 : c' 41 0 = p) (c2 : c' 41 1 = w) (c3 : c' 41 2 = l) (hk : VK p w l) : IV (n + 1) c' m' := by
  obtain ⟨hp, hq, hv, -, hl, hd, hi, -⟩ := h
  have mo : ∀ o, o ≠ 0 → m' o = m o := fun o ho => funext fun k => hm o k (by omega)
  have s : SE m m' := ⟨hm 0 9 (by omega), hm 0 10 (by omega), hm 0 11 (by omega), mo 4 (by omega), mo 5 (by omega)⟩
  have co : ∀ o k, o ≠ 65 → o ≠ 41 → c' o k = c o k := fun o k h1 h2 => by rw [hc o h1 h2]
  refine ⟨VP_f hp (co 1 1 (by omega) (by omega)) (hc 2 (by omega) (by omega)) (hm 0 1 (by omega)) (mo 1 (by omega)), VQ_n (VQ_f hq (co 0 10 (by omega) (by omega)) (hm 0 12 (by omega)) s (hc 4 (by omega) (by omega)) (hc 5 (by omega) (by omega)) (hc 6 (by omega) (by omega)) (hc 7 (by omega) (by omega)) (hc 8 (by omega) (by omega)) (fun i _ => hc _ (by omega) (by omega))), VB_f hv (co 0 9 (by omega) (by omega)) (hm 0 15 (by omega)) s (mo 6 (by omega)) (fun i _ => hc _ (by omega) (by omega)), ⟨c1.trans m1.symm, c2.trans m2.symm, c3.trans m3.symm, by rw [m1, m2, m3]; exact hk⟩, VL_f hl (co 49 3 (by omega) (by omega)) (hc 50 (by omega) (by omega)) (hc 51 (by omega) (by omega)) (hc 52 (by omega) (by omega)) (hm 0 20 (by omega)) (mo 7 (by omega)), VD_f hd (co 0 11 (by omega) (by omega)) (hm 0 40 (by omega)), VI_f hi (hc 53 (by omega) (by omega)) (hc 54 (by omega) (by omega)) (hc 55 (by omega) (by omega)) (hc 57 (by omega) (by omega)) (fun k h1 h2 => hm 0 k (by omega)) (hm 0 12 (by omega)) (hm 0 15 (by omega)) (hm 0 20 (by omega)) (mo 15 (by omega)) (mo 16 (by omega)) (mo 6 (by omega)) (mo 7 (by omega)), VG_0 (by rw [hm 0 15 (by omega)]; exact hv.2.2.1) h65⟩
theorem coin_ok {n : Nat} {σ τ σ1 : Sg} (h : Inv n σ τ) {a v : Int} (h3 : -2147483648 ≤ v) (h4 : v < 2147483648) (qa : 0 ≤ a ∧ a ≤ 2) (qv : loC a ≤ v ∧ v ≤ hiC a) (z : ∀ b : Nat, b < 5 → rI σ1 65 b = 0) (fr : ∀ o k, o ≠ 65 → rI σ1 o k = rI σ o k) {x y w : Int32} (e : x = (if a = 0 then yI v else rI τ 0 17) ∧ y = (if a = 1 then yI v else rI τ 0 18) ∧ w = (if a = 2 then yI v else rI τ 0 19)) : Inv (n + 1) (wI σ1 41 a.toNat (yI v)) (wI (wI (wI τ 0 17 x) 0 18 y) 0 19 w) := by
  have hc := h.2.2.2.1
  have vk := hc.2.2.2
  have kc : ∀ o k, o ≠ 65 → o ≠ 41 → cC (wI σ1 41 a.toNat (yI v)) o k = cC σ o k := fun o k h1 h2 => core_e (by rw [rI_o h2, fr o k h1])
  have k65 : ∀ b : Nat, b < 5 → cC (wI σ1 41 a.toNat (yI v)) 65 b = 0 := fun b hb => by
    show core nsC _ 65 b = 0
    rw [core_g (nsC_low (by omega) (by omega)), rI_o (by omega), z b hb]; rfl
  have km : ∀ o k, ¬ (o = 0 ∧ 17 ≤ k ∧ k ≤ 19) → cM (wI (wI (wI τ 0 17 x) 0 18 y) 0 19 w) o k = cM τ o k := fun o k hn => core_e (by
    rw [rI_wI, if_neg (by omega), rI_wI, if_neg (by omega), rI_wI, if_neg (by omega)])
  have g17 : cM (wI (wI (wI τ 0 17 x) 0 18 y) 0 19 w) 0 17 = x.toInt := by
    show core nsM _ 0 17 = _
    rw [core_g rfl, rI_k (by omega), rI_k (by omega), rI_s]
  have g18 : cM (wI (wI (wI τ 0 17 x) 0 18 y) 0 19 w) 0 18 = y.toInt := by
    show core nsM _ 0 18 = _
    rw [core_g rfl, rI_k (by omega), rI_s]
  have g19 : cM (wI (wI (wI τ 0 17 x) 0 18 y) 0 19 w) 0 19 = w.toInt := by
    show core nsM _ 0 19 = _
    rw [core_g rfl, rI_s]
  have e17 : (rI τ 0 17).toInt = cM τ 0 17 := (core_g (ns := nsM) (σ := τ) (o := 0) (k := 17) rfl).symm
  have e18 : (rI τ 0 18).toInt = cM τ 0 18 := (core_g (ns := nsM) (σ := τ) (o := 0) (k := 18) rfl).symm
  have e19 : (rI τ 0 19).toInt = cM τ 0 19 := (core_g (ns := nsM) (σ := τ) (o := 0) (k := 19) rfl).symm
  have c41 : ∀ j : Nat, j < 3 → cC (wI σ1 41 a.toNat (yI v)) 41 j = if a = (j : Int) then v else cC σ 41 j := fun j hj => by
    by_cases q : a = (j : Int)
    · rw [if_pos q, q]
      show core nsC _ 41 j = v
      rw [core_g rfl, Int.toNat_natCast, rI_s, yI_int h3 h4]
    · rw [if_neg q]
      exact core_e (by rw [rI_k (by omega), fr _ _ (by omega)])
  obtain ⟨ex, ey, ew⟩ := e
  have lh : 0 ≤ loC a ∧ hiC a ≤ 99 ∧ (a = 0 → loC a = 1) ∧ (a ≠ 2 → hiC a = 9) := by unfold loC hiC; omega
  have fx : x.toInt = if a = 0 then v else cM τ 0 17 := by
    rw [ex]
    by_cases q : a = 0
    · rw [if_pos q, if_pos q, yI_int h3 h4]
    · rw [if_neg q, if_neg q, e17]
  have fy : y.toInt = if a = 1 then v else cM τ 0 18 := by
    rw [ey]
    by_cases q : a = 1
    · rw [if_pos q, if_pos q, yI_int h3 h4]
    · rw [if_neg q, if_neg q, e18]
  have fw : w.toInt = if a = 2 then v else cM τ 0 19 := by
    rw [ew]
    by_cases q : a = 2
    · rw [if_pos q, if_pos q, yI_int h3 h4]
    · rw [if_neg q, if_neg q, e19]
  refine IV_coin h km (fun o h1 h2 => funext fun k => kc o k h1 h2) k65 g17 g18 g19 ?_ ?_ ?_ ?_
  · rw [c41 0 (by omega), fx, hc.1]; rfl
  · rw [c41 1 (by omega), fy, hc.2.1]; rfl
  · rw [c41 2 (by omega), fw, hc.2.2.1]; rfl
  · rw [fx, fy, fw]
    obtain ⟨v1, v2, v3, v4, v5, v6⟩ := vk
    unfold VK
    omega
theorem s_coin (a0 a1 : Int32) : SimI Inv (fX9_coin a0 a1) (fX10_coin a0 a1) := fun n σ τ _ h => by
  obtain ⟨a, h1, h2, rfl⟩ := yI_ex a0
  obtain ⟨v, h3, h4, rfl⟩ := yI_ex a1
  have hc := h.2.2.2.1
  have g1 := f1_mayBe (σ := σ) h1 h2 h3 h4
  have g2 := in_zz h1 h2 (show (0 : Int64).toInt = 0 from rfl) (show (2 : Int64).toInt = 2 from rfl) τ
  have g3 : ∀ {lo hi : Int64}, lo.toInt = loC a → hi.toInt = hiC a → fX10_in (yI v).toInt64 lo hi τ = some (if loC a ≤ v ∧ v ≤ hiC a then 1 else 0, τ) := fun e1 e2 => in_zz h3 h4 e1 e2 τ
  by_cases qa : 0 ≤ a ∧ a ≤ 2
  · by_cases qv : loC a ≤ v ∧ v ≤ hiC a
    · obtain ⟨σ1, k1, k2, k3⟩ := f3_forgetAll σ
      have cl : (yI a).toNatClampNeg = a.toNat := yI_cl h1 h2
      have u1 : fX9_coin (yI a) (yI v) σ = some (rI σ 41 a.toNat, wI σ1 41 a.toNat (yI v)) := by
        unfold fX9_coin fX9_coin_b0
        rw [bt g1 ⟨qa, qv⟩]
        dsimp only
        rw [b1 k1]
        unfold fX1_put fX1_put_b0
        rw [if_pos (inb_t h2 (by omega) (by omega)), if_pos (inb_t h2 (by omega) (by omega)), cl, k3 41 _ (by omega), b1 rfl]
      have r0 : rI σ 41 0 = rI τ 0 17 := by rw [cC_r (o := 41) (k := 0) rfl, cM_r (o := 0) (k := 17) rfl, hc.1]
      have r1 : rI σ 41 1 = rI τ 0 18 := by rw [cC_r (o := 41) (k := 1) rfl, cM_r (o := 0) (k := 18) rfl, hc.2.1]
      have r2 : rI σ 41 2 = rI τ 0 19 := by rw [cC_r (o := 41) (k := 2) rfl, cM_r (o := 0) (k := 19) rfl, hc.2.2.1]
      rcases (show a = 0 ∨ a = 1 ∨ a = 2 by omega) with rfl | rfl | rfl
      · refine ⟨_, _, _, u1, ?_, coin_ok h h3 h4 qa qv k2 k3 (x := yI v) (y := rI (wI τ 0 17 (yI v)) 0 18) (w := rI (wI (wI τ 0 17 (yI v)) 0 18 (rI (wI τ 0 17 (yI v)) 0 18)) 0 19) ⟨rfl, by rw [rI_k (by omega)]; rfl, by rw [rI_k (by omega), rI_k (by omega)]; rfl⟩⟩
        unfold fX10_coin fX10_coin_b0
        rw [bt g2 qa]
        dsimp only
        rw [if_pos (show yI 0 = 0 from rfl)]
        unfold fX10_coin_b23
        rw [if_neg (show ¬ yI 0 = 2 by decide)]
        unfold fX10_coin_b37
        rw [bt (g3 rfl rfl) qv]
        dsimp only
        rw [if_pos (show yI 0 = 0 from rfl)]
        unfold fX10_coin_b73
        rw [if_pos (show yI 0 = 0 from rfl)]
        unfold fX10_coin_b87
        rw [if_neg (show ¬ yI 0 = 1 by decide)]
        unfold fX10_coin_b104
        rw [if_neg (show ¬ yI 0 = 2 by decide)]
        rw [show Int.toNat 0 = 0 from rfl, r0]
      · refine ⟨_, _, _, u1, ?_, coin_ok h h3 h4 qa qv k2 k3 (x := rI τ 0 17) (y := yI v) (w := rI (wI (wI τ 0 17 (rI τ 0 17)) 0 18 (yI v)) 0 19) ⟨rfl, rfl, by rw [rI_k (by omega), rI_k (by omega)]; rfl⟩⟩
        unfold fX10_coin fX10_coin_b0
        rw [bt g2 qa]
        dsimp only
        rw [if_neg (show ¬ yI 1 = 0 by decide)]
        unfold fX10_coin_b23
        rw [if_neg (show ¬ yI 1 = 2 by decide)]
        unfold fX10_coin_b37
        rw [bt (g3 rfl rfl) qv]
        dsimp only
        rw [if_neg (show ¬ yI 1 = 0 by decide), if_pos (show yI 1 = 1 from rfl)]
        unfold fX10_coin_b73
        rw [if_neg (show ¬ yI 1 = 0 by decide)]
        unfold fX10_coin_b87
        rw [if_pos (show yI 1 = 1 from rfl)]
        unfold fX10_coin_b104
        rw [if_neg (show ¬ yI 1 = 2 by decide)]
        rw [show Int.toNat 1 = 1 from rfl, r1]
      · refine ⟨_, _, _, u1, ?_, coin_ok h h3 h4 qa qv k2 k3 (x := rI τ 0 17) (y := rI (wI τ 0 17 (rI τ 0 17)) 0 18) (w := yI v) ⟨rfl, by rw [rI_k (by omega)]; rfl, rfl⟩⟩
        unfold fX10_coin fX10_coin_b0
        rw [bt g2 qa]
        dsimp only
        rw [if_neg (show ¬ yI 2 = 0 by decide)]
        unfold fX10_coin_b23
        rw [if_pos (show yI 2 = 2 from rfl)]
        unfold fX10_coin_b37
        rw [bt (g3 rfl rfl) qv]
        dsimp only
        rw [if_neg (show ¬ yI 2 = 0 by decide), if_neg (show ¬ yI 2 = 1 by decide)]
        unfold fX10_coin_b73
        rw [if_neg (show ¬ yI 2 = 0 by decide)]
        unfold fX10_coin_b87
        rw [if_neg (show ¬ yI 2 = 1 by decide)]
        unfold fX10_coin_b104
        rw [if_pos (show yI 2 = 2 from rfl)]
        rw [show Int.toNat 2 = 2 from rfl, r2]
    · refine ⟨-102, σ, τ, ?_, ?_, Inv_n n σ τ h⟩
      · unfold fX9_coin fX9_coin_b0
        rw [bf g1 (fun q => qv q.2)]
      · unfold fX10_coin fX10_coin_b0
        rw [bt g2 qa]
        dsimp only
        rcases (show a = 0 ∨ a = 1 ∨ a = 2 by omega) with rfl | rfl | rfl
        · rw [if_pos (show yI 0 = 0 from rfl)]
          unfold fX10_coin_b23
          rw [if_neg (show ¬ yI 0 = 2 by decide)]
          unfold fX10_coin_b37
          rw [bf (g3 rfl rfl) qv]
        · rw [if_neg (show ¬ yI 1 = 0 by decide)]
          unfold fX10_coin_b23
          rw [if_neg (show ¬ yI 1 = 2 by decide)]
          unfold fX10_coin_b37
          rw [bf (g3 rfl rfl) qv]
        · rw [if_neg (show ¬ yI 2 = 0 by decide)]
          unfold fX10_coin_b23
          rw [if_pos (show yI 2 = 2 from rfl)]
          unfold fX10_coin_b37
          rw [bf (g3 rfl rfl) qv]
  · refine ⟨-102, σ, τ, ?_, ?_, Inv_n n σ τ h⟩
    · unfold fX9_coin fX9_coin_b0
      rw [bf g1 (fun q => qa q.1)]
    · unfold fX10_coin fX10_coin_b0
      rw [bf g2 qa]
