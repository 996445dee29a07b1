/-! ===== the model takes a square; a letter ===== -/
theorem f10_square {τ : Sg} {R W M F : Nat} {H c : Int} (ok : okS (R, W, M, H, F)) (ps : PM τ (R, W, M, H, F)) (c1 : 1 ≤ c) (c2 : c ≤ 126) (n47 : c ≠ 47) : ∃ r τ', fX10_go_b37 (yI c) τ = some (r, τ') ∧ mFr τ τ' ∧ ((M < (if R = 0 then 6 else W) ∧ ((48 ≤ c ∧ c ≤ 57) ∨ c = 35 ∨ (c = 104 ∧ H = -1))) → r = 1 ∧ PM τ' (R, W, M + 1, (if c = 104 then ((W * R + M : Nat) : Int) else H), (if 48 ≤ c ∧ c ≤ 57 then 1 else 0)) ∧ (∀ i, rI τ' 2 i = if i = W * R + M then yI (vz c) else rI τ 2 i) ∧ (∀ i, rI τ' 3 i = if i = W * R + M then yI (-1) else rI τ 3 i)) ∧ (¬ (M < (if R = 0 then 6 else W) ∧ ((48 ≤ c ∧ c ≤ 57) ∨ c = 35 ∨ (c = 104 ∧ H = -1))) → r = 0) := by
  obtain ⟨h1, h2, h3, h4, h5, h6, h7⟩ := ok
  dsimp only at h1 h2 h3 h4 h5 h6 h7
  obtain ⟨p1, p2, p3, p4, p5⟩ := ps
  dsimp only at p1 p2 p3 p4 p5
  have W6 : W ≤ 6 := by
    by_cases z : R = 0
    · rw [h2 z]; omega
    · exact (h3 (by omega)).2.1
  have gin : ∀ σ : Sg, fX10_in (yI c).toInt64 48 57 σ = some (if 48 ≤ c ∧ c ≤ 57 then 1 else 0, σ) := fun σ => in_zz (by omega) (by omega) rfl rfl σ
  -- the writing
  have A243 : ∀ y : Int32, W * R + M < 30 → ∃ τ', fX10_go_b243 (yI c) y τ = some (1, τ') ∧ mFr τ τ' ∧ (rI τ' 0 2 = yI (R : Int) ∧ rI τ' 0 4 = yI ((M + 1 : Nat) : Int) ∧ rI τ' 0 3 = yI (W : Int) ∧ rI τ' 0 5 = y ∧ rI τ' 0 6 = (if 48 ≤ c ∧ c ≤ 57 then 1 else 0)) ∧ (∀ i, rI τ' 2 i = if i = W * R + M then yI (vz c) else rI τ 2 i) ∧ (∀ i, rI τ' 3 i = if i = W * R + M then yI (-1) else rI τ 3 i) := fun y hat => by
    have ra : fX10_readAt (wI τ 0 5 y) = some (yI ((W * R + M : Nat) : Int), wI τ 0 5 y) := f10_readAt h2 h1 W6 h4 (by rw [rI_k (by omega), p1]) (by rw [rI_k (by omega), p2]) (by rw [rI_k (by omega), p3])
    have A280 : ∀ v : Int32, v = yI (vz c) → ∃ τ', fX10_go_b280 (yI c) v (yI ((W * R + M : Nat) : Int)) (wI τ 0 5 y) = some (1, τ') ∧ mFr τ τ' ∧ (rI τ' 0 2 = yI (R : Int) ∧ rI τ' 0 4 = yI ((M + 1 : Nat) : Int) ∧ rI τ' 0 3 = yI (W : Int) ∧ rI τ' 0 5 = y ∧ rI τ' 0 6 = (if 48 ≤ c ∧ c ≤ 57 then 1 else 0)) ∧ (∀ i, rI τ' 2 i = if i = W * R + M then yI (vz c) else rI τ 2 i) ∧ (∀ i, rI τ' 3 i = if i = W * R + M then yI (-1) else rI τ 3 i) := fun v hv => by
      have ra2 : fX10_readAt (wI (wI τ 0 5 y) 2 (W * R + M) v) = some (yI ((W * R + M : Nat) : Int), wI (wI τ 0 5 y) 2 (W * R + M) v) := f10_readAt h2 h1 W6 h4 (by rw [rI_o (by omega), rI_k (by omega), p1]) (by rw [rI_o (by omega), rI_k (by omega), p2]) (by rw [rI_o (by omega), rI_k (by omega), p3])
      unfold fX10_go_b280
      rw [if_pos (inb_n (by omega) hat), yI_cln (by omega), b1 ra2]
      dsimp only
      rw [if_pos (inb_n (by omega) hat), yI_cln (by omega), b1 (gin _)]
      dsimp only
      rw [if_pos isB_ite]
      refine ⟨_, rfl, mFr_0 (mFr_0 (mFr_3 (mFr_2 (mFr_0 (mFr_r τ) (by omega) (by omega)))) (by omega) (by omega)) (by omega) (by omega), ⟨?_, ?_, ?_, ?_, ?_⟩, fun i => ?_, fun i => ?_⟩
      · rw [rI_k (by omega), rI_k (by omega), rI_o (by omega), rI_o (by omega), rI_k (by omega), p1]
      · rw [rI_s, rI_k (by omega), rI_o (by omega), rI_o (by omega), rI_k (by omega), p2, add1]
      · rw [rI_k (by omega), rI_k (by omega), rI_o (by omega), rI_o (by omega), rI_k (by omega), p3]
      · rw [rI_k (by omega), rI_k (by omega), rI_o (by omega), rI_o (by omega), rI_s]
      · rw [rI_k (by omega), rI_s]
      · rw [rI_o (by omega), rI_o (by omega), rI_o (by omega)]
        by_cases e : i = W * R + M
        · rw [if_pos e, e, rI_s, hv]
        · rw [if_neg e, rI_k e, rI_o (by omega)]
      · rw [rI_o (by omega), rI_o (by omega)]
        by_cases e : i = W * R + M
        · rw [if_pos e, e, rI_s]; rfl
        · rw [if_neg e, rI_k e, rI_o (by omega), rI_o (by omega)]
    unfold fX10_go_b243
    rw [b1 ra]
    dsimp only
    by_cases z : c = 104
    · rw [if_pos (eqp (v := 104) (b := 104) rfl z)]
      exact A280 10 (by unfold vz; rw [if_pos z]; rfl)
    · rw [if_neg (yI_nl (v := 104) (b := 104) rfl (by omega) (by omega) z)]
      by_cases z2 : c = 35
      · rw [if_pos (eqp (v := 35) (b := 35) rfl z2)]
        exact A280 11 (by unfold vz; rw [if_neg z, if_pos z2]; rfl)
      · rw [if_neg (yI_nl (v := 35) (b := 35) rfl (by omega) (by omega) z2)]
        exact A280 _ (by unfold vz; rw [if_neg z, if_neg z2, show (48 : Int32) = yI 48 from rfl, yI_sub])
  have A174 : ∀ m : Nat, m ≤ 6 → ((m : Nat) = if R = 0 then 6 else W) → ∃ r τ', fX10_go_b166 (yI c) (yI (m : Int)) (yI (M : Int)) τ = some (r, τ') ∧ mFr τ τ' ∧ ((M < m ∧ ((48 ≤ c ∧ c ≤ 57) ∨ c = 35 ∨ (c = 104 ∧ H = -1))) → r = 1 ∧ PM τ' (R, W, M + 1, (if c = 104 then ((W * R + M : Nat) : Int) else H), (if 48 ≤ c ∧ c ≤ 57 then 1 else 0)) ∧ (∀ i, rI τ' 2 i = if i = W * R + M then yI (vz c) else rI τ 2 i) ∧ (∀ i, rI τ' 3 i = if i = W * R + M then yI (-1) else rI τ 3 i)) ∧ (¬ (M < m ∧ ((48 ≤ c ∧ c ≤ 57) ∨ c = 35 ∨ (c = 104 ∧ H = -1))) → r = 0) := fun m hm hme => by
    -- room, told
    have T : ∃ t : Int32, (t = 0 ∨ t = 1) ∧ (t = 1 ↔ (48 ≤ c ∧ c ≤ 57) ∨ c = 35 ∨ (c = 104 ∧ H = -1)) ∧ ∀ y : Int32, fX10_go_b174 (yI c) y τ = fX10_go_b214 (yI c) y t τ := by
      unfold fX10_go_b174 fX10_go_b209 fX10_go_b213
      by_cases d : 48 ≤ c ∧ c ≤ 57
      · exact ⟨1, Or.inr rfl, ⟨fun _ => Or.inl d, fun _ => rfl⟩, fun y => by rw [bt (gin τ) d]⟩
      · by_cases e : c = 35
        · exact ⟨1, Or.inr rfl, ⟨fun _ => Or.inr (Or.inl e), fun _ => rfl⟩, fun y => by rw [bf (gin τ) d, if_pos (eqp (v := 35) (b := 35) rfl e)]⟩
        · by_cases g : c = 104
          · by_cases hm1 : H = -1
            · exact ⟨1, Or.inr rfl, ⟨fun _ => Or.inr (Or.inr ⟨g, hm1⟩), fun _ => rfl⟩, fun y => by
                rw [bf (gin τ) d, if_neg (yI_nl (v := 35) (b := 35) rfl (by omega) (by omega) e), if_pos (eqp (v := 104) (b := 104) rfl g)]
                dsimp only
                rw [p4, if_pos (eqp (v := -1) (b := -1) rfl hm1)]⟩
            · exact ⟨0, Or.inl rfl, ⟨fun q => absurd q (by decide), fun q => by omega⟩, fun y => by
                rw [bf (gin τ) d, if_neg (yI_nl (v := 35) (b := 35) rfl (by omega) (by omega) e), if_pos (eqp (v := 104) (b := 104) rfl g)]
                dsimp only
                rw [p4, if_neg (yI_nl (v := -1) (b := -1) rfl (by omega) (by omega) hm1)]⟩
          · exact ⟨0, Or.inl rfl, ⟨fun q => absurd q (by decide), fun q => by omega⟩, fun y => by
              rw [bf (gin τ) d, if_neg (yI_nl (v := 35) (b := 35) rfl (by omega) (by omega) e), if_neg (yI_nl (v := 104) (b := 104) rfl (by omega) (by omega) g)]⟩
    obtain ⟨t, t1, t2, t3⟩ := T
    unfold fX10_go_b166
    rw [t3, t3]
    unfold fX10_go_b214
    by_cases l : M < m
    · rw [if_neg (fun q => by have := (yI_le (by omega) (by omega) (by omega) (by omega)).mp q; omega), if_neg (show ¬ (1 : Int32) = 0 by decide)]
      rcases t1 with e | e
      · rw [if_pos e]
        have nt : ¬ ((48 ≤ c ∧ c ≤ 57) ∨ c = 35 ∨ (c = 104 ∧ H = -1)) := fun q => by
          have := t2.mpr q
          rw [e] at this; exact absurd this (by decide)
        exact ⟨_, _, rfl, mFr_r τ, fun q => absurd q.2 nt, fun _ => rfl⟩
      · have yt := t2.mp e
        have hat := at_b h1 h2 (fun x => (h3 x).2.1) (show M < (if R = 0 then 6 else W) by rw [← hme]; exact l)
        rw [if_neg (show ¬ t = 0 by rw [e]; decide)]
        have P : ∀ (y : Int32) (τ' : Sg), y = yI (if c = 104 then ((W * R + M : Nat) : Int) else H) → (rI τ' 0 2 = yI (R : Int) ∧ rI τ' 0 4 = yI ((M + 1 : Nat) : Int) ∧ rI τ' 0 3 = yI (W : Int) ∧ rI τ' 0 5 = y ∧ rI τ' 0 6 = (if 48 ≤ c ∧ c ≤ 57 then 1 else 0)) → PM τ' (R, W, M + 1, (if c = 104 then ((W * R + M : Nat) : Int) else H), (if 48 ≤ c ∧ c ≤ 57 then 1 else 0)) := fun y τ' hy hh => by
          refine ⟨hh.1, hh.2.1, hh.2.2.1, hh.2.2.2.1.trans hy, ?_⟩
          rw [hh.2.2.2.2]
          dsimp only
          by_cases z : 48 ≤ c ∧ c ≤ 57
          · rw [if_pos z, if_pos z]; rfl
          · rw [if_neg z, if_neg z]; rfl
        by_cases z : c = 104
        · rw [if_pos (eqp (v := 104) (b := 104) rfl z), b1 (f10_readAt h2 h1 W6 h4 p1 p2 p3)]
          obtain ⟨τ', r1, r2, r3, r4, r5⟩ := A243 (yI ((W * R + M : Nat) : Int)) hat
          exact ⟨1, τ', r1, r2, fun _ => ⟨rfl, P _ τ' (by rw [if_pos z]) r3, r4, r5⟩, fun q => absurd ⟨l, yt⟩ q⟩
        · rw [if_neg (yI_nl (v := 104) (b := 104) rfl (by omega) (by omega) z)]
          obtain ⟨τ', r1, r2, r3, r4, r5⟩ := A243 (rI τ 0 5) hat
          exact ⟨1, τ', r1, r2, fun _ => ⟨rfl, P _ τ' (by rw [if_neg z, p4]) r3, r4, r5⟩, fun q => absurd ⟨l, yt⟩ q⟩
    · rw [if_pos ((yI_le (by omega) (by omega) (by omega) (by omega)).mpr (by omega)), if_pos rfl]
      exact ⟨_, _, rfl, mFr_r τ, fun q => absurd q.1 l, fun _ => rfl⟩
  unfold fX10_go_b37
  rw [if_neg (yI_nl (v := 47) (b := 47) rfl (by omega) (by omega) n47), p1, p2, p3]
  by_cases z : R = 0
  · rw [if_pos (eqp (v := 0) (b := 0) rfl (by omega)), if_pos z]
    exact A174 6 (by omega) (by rw [if_pos z])
  · rw [if_neg (yI_nl (v := 0) (b := 0) rfl (by omega) (by omega) (by omega)), if_neg z]
    exact A174 W W6 (by rw [if_neg z])
