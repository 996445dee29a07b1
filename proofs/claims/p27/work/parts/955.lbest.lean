/-! ===== the best way, as the law finds it ===== -/
def lst (m : Mm) (E : QE) (c : Nat) (T : QT) (B : QB) (l : List Nat) : QB := if vl m l c = true then qup m E c T B l else B
theorem lst_fold {m : Mm} {E : QE} {c : Nat} {T : QT} (L : List (List Nat)) (B : QB) : L.foldl (lst m E c T) B = (L.filter (fun l => vl m l c)).foldl (qup m E c T) B := by
  rw [List.foldl_filter]
  rfl
theorem L_code {w0 w1 w5 w6 w8 nw b lo hi : Nat} (hb : b < 512) (h1 : lo < 4) (h2 : hi < 4) (x2 x3 x4 x7 x9 x10 : Int32) (s : LwS) : ∀ (k acc n : Nat), k < n → k ≤ 9 → acc < 2 ^ (2 * (9 - k)) → lp (fun s => fL_best_b132 w0 w1 x2 x3 x4 w5 w6 x7 w8 x9 x10 (yI (b : Int)) s.1 (yI (lo : Int)) (yI (hi : Int)) s.2.1 nw s.2.2) n (yI (acc : Int), yI ((k : Int) - 1), s) = some (yI ((acc * 2 ^ (2 * k) + cv (bp lo hi k b) : Nat) : Int), s)
  | 0, acc, n, hn, hk, ha => by
    obtain ⟨n, rfl⟩ : ∃ q, n = q + 1 := ⟨n - 1, by omega⟩
    rw [show acc * 2 ^ (2 * 0) + cv (bp lo hi 0 b) = acc from by show acc * 1 + 0 = acc; omega]
    refine lp_en ?_
    dsimp only
    unfold fL_best_b132
    rw [if_pos (ltp (v := 0) (b := 0) rfl (by omega) (by omega) (by omega))]
  | k + 1, acc, n, hn, hk, ha => by
    obtain ⟨n, rfl⟩ : ∃ q, n = q + 1 := ⟨n - 1, by omega⟩
    have hp : 2 ^ (2 * (9 - k)) ≤ 2 ^ (2 * 9) := Nat.pow_le_pow_right (by omega) (by omega)
    have e9 : 2 ^ (2 * (9 - k)) = 2 ^ (2 * (9 - (k + 1))) * 4 := by
      rw [show 2 * (9 - k) = 2 * (9 - (k + 1)) + 2 by omega, Nat.pow_add]
    have hx : ((k + 1 : Nat) : Int) - 1 = (k : Int) := by omega
    have hd : b / 2 ^ k ≤ b := Nat.div_le_self _ _
    have ih : ∀ w : Nat, w < 4 → lp (fun s => fL_best_b132 w0 w1 x2 x3 x4 w5 w6 x7 w8 x9 x10 (yI (b : Int)) s.1 (yI (lo : Int)) (yI (hi : Int)) s.2.1 nw s.2.2) n ((4 : Int32) * yI (acc : Int) + yI (w : Int), yI (k : Int) + (-1 : Int32), s) = some (yI (((4 * acc + w) * 2 ^ (2 * k) + cv (bp lo hi k b) : Nat) : Int), s) := fun w hw => by
      have := L_code (w0 := w0) (w1 := w1) (w5 := w5) (w6 := w6) (w8 := w8) (nw := nw) hb h1 h2 x2 x3 x4 x7 x9 x10 s k (4 * acc + w) n (by omega) (by omega) (by omega)
      rw [← this, show (4 : Int32) * yI (acc : Int) = yI ((4 * acc : Nat) : Int) from by rw [show (4 : Int32) = yI 4 from rfl, yI_mul]; rfl, addn, show (-1 : Int32) = yI (-1) from rfl, yI_add]
      rfl
    have val : ∀ w : Nat, (4 * acc + w) * 2 ^ (2 * k) + cv (bp lo hi k b) = acc * 2 ^ (2 * (k + 1)) + (w * 2 ^ (2 * (bp lo hi k b).length) + cv (bp lo hi k b)) := fun w => by
      rw [bp_len, show 2 * (k + 1) = 2 * k + 2 by omega, Nat.pow_add, Nat.add_mul, Nat.mul_comm 4 acc, Nat.mul_assoc, Nat.mul_comm 4, ← Nat.add_assoc]
    rw [hx]
    have st : fL_best_b132 w0 w1 x2 x3 x4 w5 w6 x7 w8 x9 x10 (yI (b : Int)) (yI (acc : Int)) (yI (lo : Int)) (yI (hi : Int)) (yI (k : Int)) nw s = some (.inl ((4 : Int32) * yI (acc : Int) + yI ((if b / 2 ^ k % 2 = 0 then lo else hi : Nat) : Int), yI (k : Int) + (-1 : Int32), s)) := by
      unfold fL_best_b132 fL_best_b158
      rw [if_neg (ltn (v := 0) (b := 0) rfl (by omega) (by omega) (by omega)), ishr_y (by omega) (by omega), and1_y (by omega)]
      by_cases q : b / 2 ^ k % 2 = 0
      · rw [if_pos (eqp (v := 0) (b := 0) rfl (by omega)), if_pos q]
      · rw [if_neg (yI_nl (v := 0) (b := 0) rfl (by omega) (by omega) (by omega)), if_neg q]
    rw [lp_st st]
    show lp _ n _ = some (yI ((acc * 2 ^ (2 * (k + 1)) + ((if b / 2 ^ k % 2 = 0 then lo else hi) * 2 ^ (2 * (bp lo hi k b).length) + cv (bp lo hi k b)) : Nat) : Int), s)
    by_cases q : b / 2 ^ k % 2 = 0
    · rw [if_pos q, ← val]; exact ih lo h1
    · rw [if_neg q, ← val]; exact ih hi h2
/-- the row in which the best so far stands -/
def gS (s : LwS) (g : Nat) (B : QB) : Prop := rT s g 5 = yI (B.1 : Int) ∧ (B.1 ≠ 0 → rT s g 0 = yI (B.2.2.2.1 : Int) ∧ rT s g 1 = yI (B.2.2.1 : Int) ∧ rT s g 2 = yI B.2.1 ∧ rT s g 4 = yI (cv B.2.2.2.2 : Int))
theorem gS_f {g w : Nat} {s s' : LwS} {B : QB} (h : gS s g B) (n : g ≠ w) (f : fr w s s') : gS s' g B := ⟨by rw [f.2.2 _ _ n]; exact h.1, fun q => by rw [f.2.2 _ _ n, f.2.2 _ _ n, f.2.2 _ _ n, f.2.2 _ _ n]; exact h.2 q⟩
theorem L_upd {w0 w1 w5 w6 w8 nw : Nat} {s : LwS} {B : QB} {T : QT} {l : List Nat} {g : Int} {y0 y1 : Int32} (n68 : w8 ≠ w6) (bb : BB B) (hB : B.1 ≤ 1000) (gs : gS s w6 B) (c0 : rT s w8 0 = yI (T.1 : Int)) (c2 : rT s w8 2 = yI (T.2.2.1 : Int)) (tb : TB T) (hy : y1 - y0 = yI g) (g1 : -100000 < g) (g2 : g ≤ 9000) (x2 x3 x4 x7 x9 x10 x11 : Int32) : ∃ s', fL_best_b222 w0 w1 x2 x3 x4 w5 w6 x7 w8 x9 x10 x11 (yI (cv l : Int)) y0 y1 nw s = some (.inl (x11 + 1, s')) ∧ gS s' w6 (if B.1 = 0 ∨ B.2.1 < g ∨ (g = B.2.1 ∧ T.2.2.1 < B.2.2.1) then (B.1 + 1, g, T.2.2.1, T.1, l) else (B.1 + 1, B.2)) ∧ fr w6 s s' ∧ rT s' w6 3 = rT s w6 3 := by
  have t3 := tb.2.2.1
  have f1 : fr w6 s (wT s w6 5 (yI ((B.1 + 1 : Nat) : Int))) := fr_w (fr_r w6 s)
  have SET : ∃ s', fL_best_b273 w0 w1 x2 x3 x4 w5 w6 x7 w8 x9 x10 x11 (yI (cv l : Int)) (yI g) nw (wT s w6 5 (yI ((B.1 + 1 : Nat) : Int))) = some (.inl (x11 + 1, s')) ∧ gS s' w6 (B.1 + 1, g, T.2.2.1, T.1, l) ∧ fr w6 s s' ∧ rT s' w6 3 = rT s w6 3 := by
    unfold fL_best_b273 fL_best_b301
    rw [k0, k1, k2, k4, rT_o n68, c0, rT_o n68, rT_o n68, c2]
    refine ⟨_, rfl, ⟨?_, fun _ => ⟨?_, ?_, ?_, ?_⟩⟩, fr_w (fr_w (fr_w (fr_w f1))), ?_⟩
    · rw [rT_k (by omega), rT_k (by omega), rT_k (by omega), rT_k (by omega), rT_s]
    · rw [rT_k (by omega), rT_k (by omega), rT_k (by omega), rT_s]
    · rw [rT_k (by omega), rT_k (by omega), rT_s]
    · rw [rT_k (by omega), rT_s]
    · rw [rT_s]
    · rw [rT_k (by omega), rT_k (by omega), rT_k (by omega), rT_k (by omega), rT_k (by omega)]
  have NO : ¬ (B.1 = 0) → ∃ s', fL_best_b301 w0 w1 x2 x3 x4 w5 w6 x7 w8 x9 x10 x11 nw (wT s w6 5 (yI ((B.1 + 1 : Nat) : Int))) = some (.inl (x11 + 1, s')) ∧ gS s' w6 (B.1 + 1, B.2) ∧ fr w6 s s' ∧ rT s' w6 3 = rT s w6 3 := fun q => by
    unfold fL_best_b301
    obtain ⟨a1, a2, a3, a4⟩ := gs.2 q
    refine ⟨_, rfl, ⟨?_, fun _ => ⟨?_, ?_, ?_, ?_⟩⟩, f1, ?_⟩
    · rw [rT_s]
    · rw [rT_k (by omega), a1]
    · rw [rT_k (by omega), a2]
    · rw [rT_k (by omega), a3]
    · rw [rT_k (by omega), a4]
    · rw [rT_k (by omega)]
  unfold fL_best_b222
  rw [k5, k2, k1, gs.1, add1, rT_s, hy]
  by_cases z : B.1 = 0
  · rw [if_pos (lep (v := 1) (b := 1) rfl (by omega) (by omega) (by omega)), if_pos (c := B.1 = 0 ∨ B.2.1 < g ∨ (g = B.2.1 ∧ T.2.2.1 < B.2.2.1)) (Or.inl z)]
    exact SET
  · obtain ⟨a1, a2, a3, a4⟩ := gs.2 z
    obtain ⟨u1, u2, u3, u4, -⟩ := bb z
    rw [if_neg (len (v := 1) (b := 1) rfl (by omega) (by omega) (by omega)), rT_k (by omega), a3]
    by_cases y : g < B.2.1
    · rw [if_pos ((yI_lt (by omega) (by omega) (by omega) (by omega)).mpr y), if_neg (c := B.1 = 0 ∨ B.2.1 < g ∨ (g = B.2.1 ∧ T.2.2.1 < B.2.2.1)) (by omega)]
      exact NO z
    · rw [if_neg (fun q => y ((yI_lt (by omega) (by omega) (by omega) (by omega)).mp q))]
      by_cases x : g = B.2.1
      · rw [if_pos (by rw [x]), rT_o n68, c2, rT_k (by omega), a2]
        by_cases u : T.2.2.1 < B.2.2.1
        · rw [if_pos ((yI_lt (by omega) (by omega) (by omega) (by omega)).mpr (by omega)), if_pos (c := B.1 = 0 ∨ B.2.1 < g ∨ (g = B.2.1 ∧ T.2.2.1 < B.2.2.1)) (Or.inr (Or.inr ⟨x, u⟩))]
          exact SET
        · rw [if_neg (fun q => by have := (yI_lt (by omega) (by omega) (by omega) (by omega)).mp q; omega), if_neg (c := B.1 = 0 ∨ B.2.1 < g ∨ (g = B.2.1 ∧ T.2.2.1 < B.2.2.1)) (by omega)]
          exact NO z
      · rw [if_neg (fun q => x (yI_inj (by omega) (by omega) (by omega) (by omega) q)), if_pos (c := B.1 = 0 ∨ B.2.1 < g ∨ (g = B.2.1 ∧ T.2.2.1 < B.2.2.1)) (Or.inr (Or.inl (by omega)))]
        exact SET
/-- rows a and b alone have changed -/
def fr2 (a b : Nat) (s s' : LwS) : Prop := s'.1 = s.1 ∧ ∀ o k, o ≠ a → o ≠ b → rT s' o k = rT s o k
theorem fr2_t {a b : Nat} {x y z : LwS} (h : fr2 a b x y) (k : fr2 a b y z) : fr2 a b x z := ⟨k.1.trans h.1, fun o j q r => (k.2 o j q r).trans (h.2 o j q r)⟩
theorem fr2_a {a b : Nat} {x y : LwS} (h : fr a x y) : fr2 a b x y := ⟨h.1, fun o j q _ => h.2.2 o j q⟩
theorem fr2_b {a b : Nat} {x y : LwS} (h : fr b x y) : fr2 a b x y := ⟨h.1, fun o j _ r => h.2.2 o j r⟩
/-- what the law holds of a berg and of the coins, beside the sea -/
def HB (w0 w1 w5 i c S F : Nat) (s : LwS) (m : Mm) (E : QE) : Prop := MP w0 s m ∧ BRw w1 i s E ∧ rT s w1 (i + 1) = yI (c : Int) ∧ rT s w1 (i + 2) = yI (S : Int) ∧ rT s w1 (i + 3) = yI (F : Int) ∧ rT s w5 0 = yI (m 0 17) ∧ rT s w5 1 = yI (m 0 18) ∧ rT s w5 2 = yI (m 0 19)
theorem HB_f {w0 w1 w5 i c S F a b : Nat} {s s' : LwS} {m : Mm} {E : QE} (h : HB w0 w1 w5 i c S F s m E) (n0a : w0 ≠ a) (n0b : w0 ≠ b) (n1a : w1 ≠ a) (n1b : w1 ≠ b) (n5a : w5 ≠ a) (n5b : w5 ≠ b) (f : fr2 a b s s') : HB w0 w1 w5 i c S F s' m E := by
  obtain ⟨h1, h2, h3, h4, h5, h6, h7, h8⟩ := h
  exact ⟨⟨by rw [f.2 _ _ n0a n0b, h1.1], by rw [f.2 _ _ n0a n0b, h1.2.1], by rw [f.2 _ _ n0a n0b, h1.2.2.1], fun i hi => by rw [f.2 _ _ n0a n0b, f.2 _ _ n0a n0b]; exact h1.2.2.2 i hi⟩, ⟨by rw [f.2 _ _ n1a n1b, h2.1], by rw [f.2 _ _ n1a n1b, h2.2]⟩, by rw [f.2 _ _ n1a n1b, h3], by rw [f.2 _ _ n1a n1b, h4], by rw [f.2 _ _ n1a n1b, h5], by rw [f.2 _ _ n5a n5b, h6], by rw [f.2 _ _ n5a n5b, h7], by rw [f.2 _ _ n5a n5b, h8]⟩
/-- one row of steps weighed -/
theorem L_bit {m : Mm} {E : QE} {w0 w1 w5 w6 nw i c S F b lo hi k : Nat} {s : LwS} {B : QB} (v : VS m) (vk : VK (m 0 17) (m 0 18) (m 0 19)) (eb : EB E) (dr0 : E.2.2.2.2 = 0) (n06 : w0 ≠ w6) (n0n : w0 ≠ nw) (n16 : w1 ≠ w6) (n1n : w1 ≠ nw) (n56 : w5 ≠ w6) (n5n : w5 ≠ nw) (n6n : nw ≠ w6) (hi4 : i + 4 ≤ 25) (hc : c < qR m * qW m) (hS : S ≤ 999) (hF : F ≤ 99) (hk : k ≤ 9) (hb : b < 512) (l4 : lo < 4) (h4 : hi < 4) (hB : HB w0 w1 w5 i c S F s m E) (gs : gS s w6 B) (bb : BB B) (B1 : B.1 ≤ 600) (x9 x10 : Int32) : ∃ s', fL_best_b124 w0 w1 (yI (i : Int)) (yI (E.2.2.1 : Int)) (yI (E.2.2.2.1 : Int)) w5 w6 (yI (k : Int)) nw x9 x10 (yI (b : Int)) (0 : Int32) (yI (lo : Int)) (yI (hi : Int)) nw s = some (.inl (yI ((b + 1 : Nat) : Int), s')) ∧ gS s' w6 (lst m E c (S, F, 0, 0) B (bp lo hi k b)) ∧ BB (lst m E c (S, F, 0, 0) B (bp lo hi k b)) ∧ (lst m E c (S, F, 0, 0) B (bp lo hi k b)).1 ≤ B.1 + 1 ∧ fr2 w6 nw s s' ∧ rT s' w6 3 = rT s w6 3 := by
  obtain ⟨mp, br, r1, r2, r3, r5, r6, r7⟩ := id hB
  have a4 := bp_4 l4 h4 k b
  have cb := cv_b _ a4
  rw [bp_len] at cb
  have p18 : 2 ^ (2 * k) ≤ 2 ^ 18 := Nat.pow_le_pow_right (by omega) (by omega)
  have cc := L_code (w0 := w0) (w1 := w1) (w5 := w5) (w6 := w6) (w8 := nw) (nw := nw) hb l4 h4 (yI (i : Int)) (yI (E.2.2.1 : Int)) (yI (E.2.2.2.1 : Int)) (yI (k : Int)) x9 x10 s k 0 FU (FU_b (by omega)) hk (Nat.pow_pos (by omega))
  rw [Nat.zero_mul, Nat.zero_add] at cc
  obtain ⟨r, s1, q1, q2, q3⟩ := L_way (w0 := w0) (w1 := w1) (w7 := nw) (i := i) (code := cv (bp lo hi k b)) (k := k) (c := c) (S := S) (F := F) (s := eT s) v eb dr0 n0n n1n hi4 (by omega) hk hc hS hF mp br r1 r2 r3
  have f1 := fr_e q2
  have tb0 : TB ((S, F, 0, 0) : QT) := ⟨hS, hF, by show S + 0 ≤ 999; omega, by show 0 < 2147483648; omega⟩
  have edg : dg (cv (bp lo hi k b)) k = bp lo hi k b := by
    have := dg_cv0 _ a4
    rwa [bp_len] at this
  rw [edg] at q3
  have tw := wlk_tw (E := E) v (bp lo hi k b) c (S, F, 0, 0) hc tb0
  have GO : fL_best_b124 w0 w1 (yI (i : Int)) (yI (E.2.2.1 : Int)) (yI (E.2.2.2.1 : Int)) w5 w6 (yI (k : Int)) nw x9 x10 (yI (b : Int)) (0 : Int32) (yI (lo : Int)) (yI (hi : Int)) nw s = (if r = 0 then (fL_best_b301 w0 w1 (yI (i : Int)) (yI (E.2.2.1 : Int)) (yI (E.2.2.2.1 : Int)) w5 w6 (yI (k : Int)) nw x9 x10 (yI (b : Int)) nw (uT s s1 0)) else (if yI (E.2.2.2.1 : Int) = 0 then (fL_best_b222 w0 w1 (yI (i : Int)) (yI (E.2.2.1 : Int)) (yI (E.2.2.2.1 : Int)) w5 w6 (yI (k : Int)) nw x9 x10 (yI (b : Int)) (yI (cv (bp lo hi k b) : Int)) (0 : Int32) (((rT (uT s s1 0) w5 0) * (rT (uT s s1 0) nw 0)) - (((rT (uT s s1 0) w5 1) * yI (E.2.2.1 : Int)) * (rT (uT s s1 0) nw 2))) nw (uT s s1 0)) else (fL_best_b222 w0 w1 (yI (i : Int)) (yI (E.2.2.1 : Int)) (yI (E.2.2.2.1 : Int)) w5 w6 (yI (k : Int)) nw x9 x10 (yI (b : Int)) (yI (cv (bp lo hi k b) : Int)) (rT (uT s s1 0) w5 2) (((rT (uT s s1 0) w5 0) * (rT (uT s s1 0) nw 0)) - (((rT (uT s s1 0) w5 1) * yI (E.2.2.1 : Int)) * (rT (uT s s1 0) nw 2))) nw (uT s s1 0)))) := by
    unfold fL_best_b124
    rw [show (0 : Int32) = yI ((0 : Nat) : Int) from rfl, yI_1, yI_sub, b1 cc]
    dsimp only
    rw [b1 q1]
    rfl
  have NOT : vl m (bp lo hi k b) c = false → r = 0 → ∃ s', fL_best_b124 w0 w1 (yI (i : Int)) (yI (E.2.2.1 : Int)) (yI (E.2.2.2.1 : Int)) w5 w6 (yI (k : Int)) nw x9 x10 (yI (b : Int)) (0 : Int32) (yI (lo : Int)) (yI (hi : Int)) nw s = some (.inl (yI ((b + 1 : Nat) : Int), s')) ∧ gS s' w6 (lst m E c (S, F, 0, 0) B (bp lo hi k b)) ∧ BB (lst m E c (S, F, 0, 0) B (bp lo hi k b)) ∧ (lst m E c (S, F, 0, 0) B (bp lo hi k b)).1 ≤ B.1 + 1 ∧ fr2 w6 nw s s' ∧ rT s' w6 3 = rT s w6 3 := fun hv hr => by
    have el : lst m E c (S, F, 0, 0) B (bp lo hi k b) = B := by unfold lst; rw [hv]; rfl
    rw [el, GO, if_pos hr]
    unfold fL_best_b301
    rw [add1]
    exact ⟨_, rfl, gS_f gs n6n.symm f1, bb, by omega, fr2_b f1, f1.2.2 _ _ n6n.symm⟩
  cases hw : wlk m E (bp lo hi k b) c (S, F, 0, 0) with
  | none =>
    rw [hw] at q3 tw
    exact NOT tw q3
  | some q =>
    rw [hw] at q3 tw
    obtain ⟨e1, e2, e3⟩ : q.2 = qtw m E (bp lo hi k b) c (S, F, 0, 0) ∧ TB q.2 ∧ (vl m (bp lo hi k b) c = decide (q.1 = qH m)) := tw
    obtain ⟨d1, d2⟩ : r = (if q.1 = qH m then 1 else 0) ∧ CW nw s1 q.2 := q3
    by_cases z : q.1 = qH m
    · rw [if_pos z] at d1
      rw [decide_eq_true z] at e3
      have el : lst m E c (S, F, 0, 0) B (bp lo hi k b) = qup m E c (S, F, 0, 0) B (bp lo hi k b) := by unfold lst; rw [e3]; rfl
      have gb := gain_b vk eb.2.2.2.2.1 e2.1 (show q.2.2.2.1 ≤ 999 by have := e2.2.2.1; omega) E.2.2.2.1
      have eg : qgain m E.2.2.1 E.2.2.2.1 q.2.1 q.2.2.2.1 = m 0 17 * (q.2.1 : Int) - m 0 18 * (E.2.2.1 : Int) * (q.2.2.2.1 : Int) - (if E.2.2.2.1 = 0 then 0 else m 0 19) := rfl
      have equ : qup m E c (S, F, 0, 0) B (bp lo hi k b) = if B.1 = 0 ∨ B.2.1 < qgain m E.2.2.1 E.2.2.2.1 q.2.1 q.2.2.2.1 ∨ (qgain m E.2.2.1 E.2.2.2.1 q.2.1 q.2.2.2.1 = B.2.1 ∧ q.2.2.2.1 < B.2.2.1) then (B.1 + 1, qgain m E.2.2.1 E.2.2.2.1 q.2.1 q.2.2.2.1, q.2.2.2.1, q.2.1, bp lo hi k b) else (B.1 + 1, B.2) := by
        rw [e1]; rfl
      have hbb : BB (qup m E c (S, F, 0, 0) B (bp lo hi k b)) := by
        rw [equ]
        by_cases y : B.1 = 0 ∨ B.2.1 < qgain m E.2.2.1 E.2.2.2.1 q.2.1 q.2.2.2.1 ∨ (qgain m E.2.2.1 E.2.2.2.1 q.2.1 q.2.2.2.1 = B.2.1 ∧ q.2.2.2.1 < B.2.2.1)
        · rw [if_pos y]
          intro _
          exact ⟨gb.1, gb.2.1, by have := e2.2.2.1; dsimp only; omega, e2.1, by show (bp lo hi k b).length ≤ 9; rw [bp_len]; exact hk, a4⟩
        · rw [if_neg y]
          intro _
          exact bb (fun u => y (Or.inl u))
      have hle : (qup m E c (S, F, 0, 0) B (bp lo hi k b)).1 ≤ B.1 + 1 := by
        rw [equ]
        by_cases y : B.1 = 0 ∨ B.2.1 < qgain m E.2.2.1 E.2.2.2.1 q.2.1 q.2.2.2.1 ∨ (qgain m E.2.2.1 E.2.2.2.1 q.2.1 q.2.2.2.1 = B.2.1 ∧ q.2.2.2.1 < B.2.2.1)
        · rw [if_pos y]; exact Nat.le_refl _
        · rw [if_neg y]; exact Nat.le_refl _
      have ew0 : rT (uT s s1 0) w5 0 = yI (m 0 17) := by rw [f1.2.2 _ _ n5n, r5]
      have ew1 : rT (uT s s1 0) w5 1 = yI (m 0 18) := by rw [f1.2.2 _ _ n5n, r6]
      have ew2 : rT (uT s s1 0) w5 2 = yI (m 0 19) := by rw [f1.2.2 _ _ n5n, r7]
      have U : ∀ y0 : Int32, y0 = yI (if E.2.2.2.1 = 0 then 0 else m 0 19) → ∃ s', fL_best_b222 w0 w1 (yI (i : Int)) (yI (E.2.2.1 : Int)) (yI (E.2.2.2.1 : Int)) w5 w6 (yI (k : Int)) nw x9 x10 (yI (b : Int)) (yI (cv (bp lo hi k b) : Int)) y0 (((rT (uT s s1 0) w5 0) * (rT (uT s s1 0) nw 0)) - (((rT (uT s s1 0) w5 1) * yI (E.2.2.1 : Int)) * (rT (uT s s1 0) nw 2))) nw (uT s s1 0) = some (.inl (yI ((b + 1 : Nat) : Int), s')) ∧ gS s' w6 (lst m E c (S, F, 0, 0) B (bp lo hi k b)) ∧ BB (lst m E c (S, F, 0, 0) B (bp lo hi k b)) ∧ (lst m E c (S, F, 0, 0) B (bp lo hi k b)).1 ≤ B.1 + 1 ∧ fr2 w6 nw s s' ∧ rT s' w6 3 = rT s w6 3 := fun y0 hy => by
        obtain ⟨s', u1, u2, u3, u4⟩ := L_upd (w0 := w0) (w1 := w1) (w5 := w5) (w6 := w6) (w8 := nw) (nw := nw) (s := uT s s1 0) (B := B) (T := q.2) (l := bp lo hi k b) (g := qgain m E.2.2.1 E.2.2.2.1 q.2.1 q.2.2.2.1) (y0 := y0) (y1 := ((rT (uT s s1 0) w5 0) * (rT (uT s s1 0) nw 0)) - (((rT (uT s s1 0) w5 1) * yI (E.2.2.1 : Int)) * (rT (uT s s1 0) nw 2))) n6n bb (by omega) (gS_f gs n6n.symm f1) d2.1 d2.2.2 e2 (by
          rw [ew0, ew1, hy, show rT (uT s s1 0) nw 0 = yI (q.2.1 : Int) from d2.1, show rT (uT s s1 0) nw 2 = yI (q.2.2.2.1 : Int) from d2.2.2, yI_mul, yI_mul, yI_mul, yI_sub, yI_sub]
          rfl) gb.1 gb.2.1 (yI (i : Int)) (yI (E.2.2.1 : Int)) (yI (E.2.2.2.1 : Int)) (yI (k : Int)) x9 x10 (yI (b : Int))
        refine ⟨s', by rw [u1, add1], ?_, by rw [el]; exact hbb, by rw [el]; exact hle, fr2_t (fr2_b f1) (fr2_a u3), by rw [u4, f1.2.2 _ _ n6n.symm]⟩
        rw [el, equ]
        exact u2
      rw [GO, d1, if_neg (show ¬ (1 : Int32) = 0 by decide)]
      by_cases y : E.2.2.2.1 = 0
      · rw [if_pos (eqp (v := 0) (b := 0) rfl (by omega))]
        exact U 0 (by rw [if_pos y]; rfl)
      · rw [if_neg (yI_nl (v := 0) (b := 0) rfl (by omega) (by have := eb.2.2.2.2.2.1; omega) (by omega))]
        exact U _ (by rw [if_neg y]; exact ew2)
    · rw [if_neg z] at d1
      rw [decide_eq_false z] at e3
      exact NOT e3 d1
