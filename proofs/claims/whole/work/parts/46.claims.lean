/-! ===== claims: both sides ===== -/
theorem VL.LR {σ τ : Sg} (hl : VL (cC σ) (cM τ)) {L : Nat} (hL : cM τ 0 20 = (L : Int)) : LR σ (cM τ) L := by
  have l10 := hl.2.2.1
  refine ⟨by rw [cC_r (o := 49) (k := 3) rfl, hl.1, hL], by omega, fun k hk => ?_⟩
  obtain ⟨v, e0, e1, e2⟩ := hl.2.2.2 k (by omega)
  exact ⟨v, by rw [cC_r (o := 50) (k := k) rfl, e0], by rw [cC_r (o := 51) (k := k) rfl, e1], by rw [cC_r (o := 52) (k := k) rfl, e2]⟩
/-- the answer: shares, first line, part -/
def clA (u l : Nat) (p : Int) : Int32 := if Nat.gcd u l = 0 then yI p else if p = 0 then yI ((u / Nat.gcd u l : Nat) : Int) else yI ((l / Nat.gcd u l : Nat) : Int)
theorem claims_eq {n : Nat} {σ τ : Sg} (h : Inv n σ τ) {x b d p : Int} {r : Nat} (hx : 0 ≤ x ∧ x ≤ 4) (hb : 0 ≤ b ∧ b < cM τ 0 15) (hd : 0 ≤ d ∧ d ≤ 999) (hr : r ≤ 2) (hp : p = 0 ∨ p = 1) : ∃ v, fX9_claims (yI x) (yI b) (yI d) (yI (r : Int)) (yI p) σ = some (v, σ) ∧ fX10_claims (yI x) (yI b) (yI d) (yI (r : Int)) (yI p) τ = some (v, τ) := by
  have hv := h.2.2.1
  have hl := h.2.2.2.2.1
  have b5 := hv.2.2.1
  obtain ⟨L, hL⟩ := Int.eq_ofNat_of_zero_le hl.2.1
  have LRs := hl.LR hL
  have L10 := LRs.2.1
  have hvl : ∀ k : Nat, k < L → VL1 (cM τ) k := fun k hk => (LRs.2.2 k hk).1
  have hLt : rI τ 0 20 = yI (L : Int) := by rw [cM_r (o := 0) (k := 20) rfl, hL]
  have g1 := f9_isHouse (σ := σ) (a := x) (by omega) (by omega)
  have g2 := in_zz (a := x) (by omega) (by omega) (show (0 : Int64).toInt = 0 from rfl) (show (4 : Int64).toInt = 4 from rfl) τ
  have g3 := f9_isBerg (σ := σ) (a := b) (by omega) (by omega) hv.e.1 hv.2.1 hv.2.2.1
  have g4 := f10_isBerg (τ := τ) (a := b) (by omega) (by omega) hv.e.2 hv.2.1 hv.2.2.1
  have g5 := in_zz (a := d) (by omega) (by omega) (show (0 : Int64).toInt = 0 from rfl) (show (999 : Int64).toInt = 999 from rfl) τ
  have g6 := in_zz (a := (r : Int)) (by omega) (by omega) (show (0 : Int64).toInt = 0 from rfl) (show (2 : Int64).toInt = 2 from rfl) τ
  have g7 := in_zz (a := p) (by omega) (by omega) (show (0 : Int64).toInt = 0 from rfl) (show (1 : Int64).toInt = 1 from rfl) τ
  have hb5 : 0 ≤ b ∧ b < 5 := by omega
  obtain ⟨t, k1, k2⟩ := f10_lines (τ := τ) hLt L10 hvl hb5 hd hx hr (p := p)
  have sb := sh_b (b := b) (d := d) (r := r) (h := x) hvl hd.2 L (Nat.le_refl _)
  have ab := sa_b (b := b) (d := d) (r := r) hvl hd.2 L (Nat.le_refl _)
  have ss := sh_sum (b := b) (d := d) (r := r) hvl L (Nat.le_refl _)
  have fr := f4_first LRs hb5 hd hx
  have f7 : ∀ k : Nat, rI τ 7 (3 * k) = yI (cM τ 7 (3 * k)) := fun k => cM_r rfl
  have vh : ∀ k : Nat, k < L → 0 ≤ cM τ 7 (3 * k) ∧ cM τ 7 (3 * k) ≤ 4 := fun k hk => ⟨(hvl k hk).1, (hvl k hk).2.1⟩
  have gy : ∀ y : Int, y = (if r = 1 then 1 else 0) → fX4_sharesOf (yI x) (yI b) (yI d) (yI y) σ = some (yI (sh (cM τ) b d r x L : Int), σ) ∧ fX4_sharesOfAll (yI b) (yI d) (yI y) σ = some (yI (sa (cM τ) b d r L : Int), σ) := fun y hy => ⟨f4_sharesOf LRs hb5 hd hx hy, f4_all LRs hb5 hd hy⟩
  have sle : sh (cM τ) b d r x L ≤ sa (cM τ) b d r L := by
    rcases (show x = 0 ∨ x = 1 ∨ x = 2 ∨ x = 3 ∨ x = 4 by omega) with rfl | rfl | rfl | rfl | rfl <;> omega
  generalize hS : sh (cM τ) b d r x L = S at *
  generalize hA : sa (cM τ) b d r L = A at *
  generalize hF : ff (cM τ) b d L = f at *
  clear ss
  -- the class
  have u1 : fX9_claims (yI x) (yI b) (yI d) (yI (r : Int)) (yI p) σ = some (clA (if r = 0 then (if f ≠ -1 ∧ cM τ 7 (3 * f.toNat) = x then 1 else 0) else S) (if r = 0 then 1 else A) p, σ) := by
    unfold fX9_claims fX9_claims_b0
    rw [bt g1 hx]
    dsimp only
    rw [bt g3 hb]
    dsimp only
    rw [if_neg (ltn (v := 0) (b := 0) rfl (by omega) (by omega) hd.1), if_neg (gtn (v := 999) (b := 999) rfl (by omega) (by omega) hd.2), if_neg (ltn (v := 0) (b := 0) rfl (by omega) (by omega) (by omega)), if_neg (gtn (v := 2) (b := 2) rfl (by omega) (by omega) (by omega)), if_neg (ltn (v := 0) (b := 0) rfl (by omega) (by omega) (by omega)), if_pos (lep (v := 1) (b := 1) rfl (by omega) (by omega) (by omega))]
    unfold fX9_claims_b64 fX9_claims_b77 fX9_claims_b109
    by_cases r0 : r = 0
    · subst r0
      have hq : ∃ q : Nat, q ≤ 1 ∧ (if f ≠ -1 ∧ cM τ 7 (3 * f.toNat) = x then (1 : Int32) else 0) = yI (q : Int) ∧ (if f ≠ -1 ∧ cM τ 7 (3 * f.toNat) = x then 1 else 0) = q := by
        by_cases z : f ≠ -1 ∧ cM τ 7 (3 * f.toNat) = x
        · rw [if_pos z, if_pos z]; exact ⟨1, by omega, rfl, rfl⟩
        · rw [if_neg z, if_neg z]; exact ⟨0, by omega, rfl, rfl⟩
      obtain ⟨q, q1, q2, q3⟩ := hq
      rw [q2] at fr
      rw [if_pos (show yI ((0 : Nat) : Int) = 0 from rfl), if_neg (show ¬ yI ((0 : Nat) : Int) = 1 by decide), if_neg (show ¬ (1 : Int32) = 0 by decide), b1 fr, if_neg (show ¬ (1 : Int32) = 0 by decide), if_pos (show 0 = 0 from rfl), if_pos (show 0 = 0 from rfl), q3]
      exact c131 (l := 1) hp (by omega) (by omega)
    · rw [if_neg (yI_nl (v := 0) (b := 0) rfl (by omega) (by omega) (by omega)), if_neg r0, if_neg r0]
      by_cases r1 : r = 1
      · obtain ⟨y1, y2⟩ := gy 1 (by rw [if_pos r1])
        rw [if_pos (eqp (v := 1) (b := 1) rfl (by omega)), if_pos rfl]
        have y1' : fX4_sharesOf (yI x) (yI b) (yI d) (1 : Int32) σ = some (yI (S : Int), σ) := y1
        have y2' : fX4_sharesOfAll (yI b) (yI d) (1 : Int32) σ = some (yI (A : Int), σ) := y2
        rw [b1 y1']
        dsimp only
        rw [if_pos rfl, b1 y2']
        exact c131 hp (by omega) (by omega)
      · obtain ⟨y1, y2⟩ := gy 0 (by rw [if_neg r1])
        rw [if_neg (yI_nl (v := 1) (b := 1) rfl (by omega) (by omega) (by omega)), if_pos rfl]
        have y1' : fX4_sharesOf (yI x) (yI b) (yI d) (0 : Int32) σ = some (yI (S : Int), σ) := y1
        have y2' : fX4_sharesOfAll (yI b) (yI d) (0 : Int32) σ = some (yI (A : Int), σ) := y2
        rw [b1 y1']
        dsimp only
        rw [if_pos rfl, b1 y2']
        exact c131 hp (by omega) (by omega)
  refine ⟨_, u1, ?_⟩
  unfold fX10_claims fX10_claims_b0
  rw [bt g2 hx]
  dsimp only
  rw [bt g4 hb]
  dsimp only
  rw [bt g5 hd]
  dsimp only
  rw [bt g6 (by omega)]
  dsimp only
  rw [bt g7 (by omega)]
  dsimp only
  rw [b1 k1, k2]
  dsimp only
  by_cases q3 : f = -1
  · have e0 : A = 0 := ab.2.1 q3
    have e1 : S = 0 := by omega
    rw [if_pos (eqp (v := -1) (b := -1) rfl q3), if_neg (c := f ≠ -1 ∧ _) (fun z => z.1 q3), e0, e1]
    unfold clA
    by_cases r0 : r = 0
    · rw [if_pos r0, if_pos r0]
      rcases hp with rfl | rfl
      · rfl
      · rfl
    · rw [if_neg r0, if_neg r0]; rfl
  · have a3 := ab.2.2 q3
    obtain ⟨g, rfl⟩ := Int.eq_ofNat_of_zero_le a3.2.1
    have w := vh g (by omega)
    rw [if_neg (yI_nl (v := -1) (b := -1) rfl (by omega) (by omega) q3)]
    unfold fX10_claims_b238
    by_cases r0 : r = 0
    · rw [if_pos (lep (v := 0) (b := 0) rfl (by omega) (by omega) (by omega)), mul3, if_pos (inb_n (by omega) (by omega)), yI_cln (by omega), f7, if_pos r0, if_pos r0, if_pos (lep (v := 0) (b := 0) rfl (by omega) (by omega) (by omega)), if_pos (lep (v := 0) (b := 0) rfl (by omega) (by omega) (by omega)), Int.toNat_natCast]
      by_cases q4 : cM τ 7 (3 * g) = x
      · rw [if_pos (by rw [q4]), if_pos ⟨q3, q4⟩]
        exact c251 (u := 1) (l := 1) hp (by omega) (by omega) (by omega)
      · rw [if_neg (fun z => q4 (yI_inj (by omega) (by omega) (by omega) (by omega) z)), if_neg (fun z => q4 z.2)]
        exact c251 (u := 0) (l := 1) hp (by omega) (by omega) (by omega)
    · rw [if_neg (len (v := 0) (b := 0) rfl (by omega) (by omega) (by omega)), if_neg (len (v := 0) (b := 0) rfl (by omega) (by omega) (by omega)), if_neg r0, if_neg r0]
      exact c251 hp (by omega) (by omega) a3.1
theorem s_claims (a0 a1 a2 a3 a4 : Int32) : SimI Inv (fX9_claims a0 a1 a2 a3 a4) (fX10_claims a0 a1 a2 a3 a4) := SimI_same Inv_n fun n σ τ _ h => by
  obtain ⟨x, h1, h2, rfl⟩ := yI_ex a0
  obtain ⟨b, h3, h4, rfl⟩ := yI_ex a1
  obtain ⟨d, h5, h6, rfl⟩ := yI_ex a2
  obtain ⟨r, h7, h8, rfl⟩ := yI_ex a3
  obtain ⟨p, h9, h10, rfl⟩ := yI_ex a4
  have hv := h.2.2.1
  have g1 := f9_isHouse (σ := σ) h1 h2
  have g2 := in_zz h1 h2 (show (0 : Int64).toInt = 0 from rfl) (show (4 : Int64).toInt = 4 from rfl) τ
  have g3 := f9_isBerg h3 h4 hv.e.1 hv.2.1 hv.2.2.1
  have g4 := f10_isBerg h3 h4 hv.e.2 hv.2.1 hv.2.2.1
  have g5 := in_zz h5 h6 (show (0 : Int64).toInt = 0 from rfl) (show (999 : Int64).toInt = 999 from rfl) τ
  have g6 := in_zz h7 h8 (show (0 : Int64).toInt = 0 from rfl) (show (2 : Int64).toInt = 2 from rfl) τ
  have g7 := in_zz h9 h10 (show (0 : Int64).toInt = 0 from rfl) (show (1 : Int64).toInt = 1 from rfl) τ
  by_cases qx : 0 ≤ x ∧ x ≤ 4
  · by_cases qb : 0 ≤ b ∧ b < cM τ 0 15
    · by_cases qd : 0 ≤ d ∧ d ≤ 999
      · by_cases qr : 0 ≤ r ∧ r ≤ 2
        · by_cases qp : 0 ≤ p ∧ p ≤ 1
          · obtain ⟨k, rfl⟩ := Int.eq_ofNat_of_zero_le qr.1
            exact claims_eq h qx qb qd (by omega) (by omega)
          · refine ⟨-102, ?_, ?_⟩
            · unfold fX9_claims fX9_claims_b0
              rw [bt g1 qx]
              dsimp only
              rw [bt g3 qb]
              dsimp only
              rw [if_neg (ltn (v := 0) (b := 0) rfl h5 h6 qd.1), if_neg (gtn (v := 999) (b := 999) rfl h5 h6 qd.2), if_neg (ltn (v := 0) (b := 0) rfl h7 h8 qr.1), if_neg (gtn (v := 2) (b := 2) rfl h7 h8 qr.2)]
              by_cases q : p < 0
              · rw [if_pos (ltp (v := 0) (b := 0) rfl h9 h10 q)]
              · rw [if_neg (ltn (v := 0) (b := 0) rfl h9 h10 (by omega)), if_neg (len (v := 1) (b := 1) rfl h9 h10 (by omega))]
            · unfold fX10_claims fX10_claims_b0
              rw [bt g2 qx]
              dsimp only
              rw [bt g4 qb]
              dsimp only
              rw [bt g5 qd]
              dsimp only
              rw [bt g6 qr]
              dsimp only
              rw [bf g7 qp]
        · refine ⟨-102, ?_, ?_⟩
          · unfold fX9_claims fX9_claims_b0
            rw [bt g1 qx]
            dsimp only
            rw [bt g3 qb]
            dsimp only
            rw [if_neg (ltn (v := 0) (b := 0) rfl h5 h6 qd.1), if_neg (gtn (v := 999) (b := 999) rfl h5 h6 qd.2)]
            by_cases q : r < 0
            · rw [if_pos (ltp (v := 0) (b := 0) rfl h7 h8 q)]
            · rw [if_neg (ltn (v := 0) (b := 0) rfl h7 h8 (by omega)), if_pos (gtp (v := 2) (b := 2) rfl h7 h8 (by omega))]
          · unfold fX10_claims fX10_claims_b0
            rw [bt g2 qx]
            dsimp only
            rw [bt g4 qb]
            dsimp only
            rw [bt g5 qd]
            dsimp only
            rw [bf g6 qr]
      · refine ⟨-102, ?_, ?_⟩
        · unfold fX9_claims fX9_claims_b0
          rw [bt g1 qx]
          dsimp only
          rw [bt g3 qb]
          dsimp only
          by_cases q : d < 0
          · rw [if_pos (ltp (v := 0) (b := 0) rfl h5 h6 q)]
          · rw [if_neg (ltn (v := 0) (b := 0) rfl h5 h6 (by omega)), if_pos (gtp (v := 999) (b := 999) rfl h5 h6 (by omega))]
        · unfold fX10_claims fX10_claims_b0
          rw [bt g2 qx]
          dsimp only
          rw [bt g4 qb]
          dsimp only
          rw [bf g5 qd]
    · refine ⟨-101, ?_, ?_⟩
      · unfold fX9_claims fX9_claims_b0
        rw [bt g1 qx]
        dsimp only
        rw [bf g3 qb]
      · unfold fX10_claims fX10_claims_b0
        rw [bt g2 qx]
        dsimp only
        rw [bf g4 qb]
  · refine ⟨-101, ?_, ?_⟩
    · unfold fX9_claims fX9_claims_b0
      rw [bf g1 qx]
    · unfold fX10_claims fX10_claims_b0
      rw [bf g2 qx]
