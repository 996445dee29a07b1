/-! ===== the text of a sea, as the law writes it ===== -/
theorem pl3 (q : Nat) : (3 : Int32) + yI (q : Int) = yI ((3 + q : Nat) : Int) := addn 3 q
theorem pl33 (q : Nat) : (33 : Int32) + yI (q : Int) = yI ((33 + q : Nat) : Int) := addn 33 q
theorem scn_x {p p' : Nat → Int} : ∀ {k : Nat}, (∀ j, j < k → p' j = p j) → scn p' k = scn p k
  | 0, _ => rfl
  | k + 1, h => by
    show (scn p' k).bind (stp (p' k)) = (scn p k).bind (stp (p k))
    rw [scn_x (fun j hj => h j (by omega)), h k (by omega)]
theorem scw_x {p p' : Nat → Int} : ∀ {k : Nat}, (∀ j, j < k → p' j = p j) → scw p' k = scw p k
  | 0, _ => rfl
  | k + 1, h => by
    unfold scw
    rw [scn_x (fun j hj => h j (by omega)), h k (by omega), scw_x (k := k) (fun j hj => h j (by omega))]
theorem scf_x {p p' : Nat → Int} : ∀ {k : Nat}, (∀ j, j < k → p' j = p j) → scf p' k = scf p k
  | 0, _ => rfl
  | k + 1, h => by
    unfold scf
    rw [scn_x (fun j hj => h j (by omega)), h k (by omega), scf_x (k := k) (fun j hj => h j (by omega))]
/-- a page of n letters in a row of the law's, scanned so far -/
def pgl (w n : Nat) (S : SS) (cw cf : Nat → Int) (s : LwS) : Prop := ∃ p : Nat → Int, (∀ j, j < n → rT s w j = yI (p j) ∧ 1 ≤ p j ∧ p j ≤ 126) ∧ scn p n = some S ∧ scw p n = cw ∧ scf p n = cf
theorem pgl_a {w n : Nat} {S S' : SS} {cw cf : Nat → Int} {s : LwS} {c : Int} (h : pgl w n S cw cf s) (c1 : 1 ≤ c) (c2 : c ≤ 126) (e : stp c S = some S') : pgl w (n + 1) S' (lw c S cw) (lf c S cf) (wT s w n (yI c)) := by
  obtain ⟨p, h1, h2, h3, h4⟩ := h
  obtain ⟨p', ex, en⟩ : ∃ p' : Nat → Int, (∀ j, j < n → p' j = p j) ∧ p' n = c := ⟨fun j => if j = n then c else p j, fun j hj => if_neg (by omega), if_pos rfl⟩
  refine ⟨p', fun j hj => ?_, ?_, ?_, ?_⟩
  · by_cases q : j = n
    · subst q
      rw [rT_s, en]
      exact ⟨rfl, c1, c2⟩
    · rw [rT_k q, ex j (by omega)]
      exact h1 j (by omega)
  · show (scn p' n).bind (stp (p' n)) = _
    rw [scn_x ex, en, h2]
    exact e
  · unfold scw
    rw [scn_x ex, en, h2, scw_x ex, h3]
  · unfold scf
    rw [scn_x ex, en, h2, scf_x ex, h4]
theorem pgl_f {w n : Nat} {S : SS} {cw cf : Nat → Int} {s s' : LwS} (h : pgl w n S cw cf s) (k : ∀ j, rT s' w j = rT s w j) : pgl w n S cw cf s' := by
  obtain ⟨p, h1, h2, h3, h4⟩ := h
  exact ⟨p, fun j hj => by rw [k j]; exact h1 j hj, h2, h3, h4⟩
/-- the scan in front of square q, where its letter may come -/
def opn (W H q F : Nat) : SS := (q / W, if q < W then 0 else W, q % W, if H < q then (H : Int) else -1, F)
/-- the scan behind square q - 1 -/
def sqd (W H q F : Nat) : SS := if q = 0 then (0, 0, 0, -1, 0) else ((q - 1) / W, if q - 1 < W then 0 else W, (q - 1) % W + 1, if H < q then (H : Int) else -1, F)
theorem opn_m {W q : Nat} (w : 2 ≤ W) : (if q < W then 0 else W) * (q / W) + q % W = q := by
  have := Nat.div_add_mod q W
  by_cases z : q < W
  · rw [if_pos z, Nat.zero_mul, Nat.mod_eq_of_lt z]; omega
  · rw [if_neg z]; exact this
theorem opn_0 {W H q F : Nat} (w : 2 ≤ W) (h : q = 0 ∨ q % W ≠ 0) : ∃ F', sqd W H q F = opn W H q F' ∧ F' ≤ F := by
  unfold sqd opn
  by_cases z : q = 0
  · subst z
    refine ⟨0, ?_, Nat.zero_le _⟩
    rw [if_pos rfl, if_pos (by omega), if_neg (by omega), Nat.zero_div, Nat.zero_mod]
  · have hz := h.resolve_left z
    rw [if_neg z]
    have a : (q - 1) / W = q / W ∧ (q - 1) % W + 1 = q % W := by
      have e := Nat.div_add_mod q W
      have l := Nat.mod_lt q (show 0 < W by omega)
      have e2 : q - 1 = q % W - 1 + W * (q / W) := by omega
      constructor
      · rw [e2, Nat.add_mul_div_left _ _ (by omega), Nat.div_eq_of_lt (by omega)]; omega
      · rw [e2, Nat.add_mul_mod_self_left, Nat.mod_eq_of_lt (by omega)]; omega
    have b : (q - 1 < W) = (q < W) := propext ⟨fun y => by
      by_cases e : q = W
      · rw [e, Nat.mod_self] at hz; exact absurd rfl hz
      · omega, fun y => by omega⟩
    refine ⟨F, ?_, Nat.le_refl _⟩
    rw [a.1, a.2]
    simp only [b]
theorem opn_s {W H q F : Nat} (w : 2 ≤ W) (q0 : q ≠ 0) (qm : q % W = 0) (q4 : q / W ≤ 4) : stp 47 (sqd W H q F) = some (opn W H q 0) := by
  have e := Nat.div_add_mod q W
  rw [qm, Nat.add_zero] at e
  obtain ⟨d, hd⟩ : ∃ d, q / W = d + 1 := Nat.exists_eq_succ_of_ne_zero (fun z => by rw [z] at e; omega)
  have e2 : q - 1 = W - 1 + W * d := by
    rw [hd, Nat.mul_add, Nat.mul_one] at e; omega
  have a : (q - 1) / W = d := by rw [e2, Nat.add_mul_div_left _ _ (by omega), Nat.div_eq_of_lt (by omega)]; omega
  have b : (q - 1) % W + 1 = W := by rw [e2, Nat.add_mul_mod_self_left, Nat.mod_eq_of_lt (by omega)]; omega
  have c : ¬ q < W := by
    have : W ≤ W * (d + 1) := Nat.le_mul_of_pos_right _ (by omega)
    rw [hd] at e; omega
  unfold sqd opn
  rw [if_neg q0, a, b, qm, hd, if_neg c]
  unfold stp
  dsimp only
  rw [if_neg (show ¬ wayZ 47 ≠ -1 by decide), if_pos rfl]
  by_cases z : d = 0
  · rw [if_pos ⟨w, Or.inl z, by omega⟩]
  · have c2 : ¬ q - 1 < W := by
      have : W * 1 ≤ W * d := Nat.mul_le_mul_left _ (by omega)
      omega
    rw [if_neg c2, if_pos ⟨w, Or.inr rfl, by omega⟩]
def set1 (g : Nat → Int) (q : Nat) (v : Int) : Nat → Int := fun i => if i = q then v else g i
theorem set1_s (g : Nat → Int) (q : Nat) (v : Int) : set1 g q v q = v := if_pos rfl
theorem set1_n {g : Nat → Int} {q i : Nat} {v : Int} (h : i ≠ q) : set1 g q v i = g i := if_neg h
theorem set1_2 (g : Nat → Int) (q : Nat) (u v : Int) : set1 (set1 g q u) q v = set1 g q v := funext fun i => by
  by_cases c : i = q
  · rw [c, set1_s, set1_s]
  · rw [set1_n c, set1_n c, set1_n c]
/-- the letter of a square -/
def lcz (v : Int) : Int := if v = 10 then 104 else if v = 11 then 35 else 48 + v
/-- the letter of a current -/
def fcz (f : Int) : Int := if f = 0 then 110 else if f = 1 then 101 else if f = 2 then 115 else 119
theorem opn_l {W H q F : Nat} {v : Int} (w : 2 ≤ W) (w6 : W ≤ 6) (v0 : 0 ≤ v) (v11 : v ≤ 11) (hv : v = 10 ↔ q = H) : stp (lcz v) (opn W H q F) = some (sqd W H (q + 1) (if v ≤ 9 then 1 else 0)) ∧ (∀ cw, lw (lcz v) (opn W H q F) cw = set1 cw q v) ∧ ∀ cf, lf (lcz v) (opn W H q F) cf = set1 cf q (-1) := by
  have hm := opn_m (W := W) (q := q) w
  have hl := Nat.mod_lt q (show 0 < W by omega)
  have wz : ¬ wayZ (lcz v) ≠ -1 ∧ ¬ lcz v = 47 ∧ vz (lcz v) = v ∧ ((48 ≤ lcz v ∧ lcz v ≤ 57) ↔ v ≤ 9) ∧ (lcz v = 104 ↔ v = 10) ∧ (lcz v = 35 ↔ v = 11) := by
    unfold wayZ vz lcz
    by_cases a : v = 10
    · subst a; decide
    · by_cases b : v = 11
      · subst b; decide
      · rw [if_neg a, if_neg b]
        refine ⟨?_, by omega, ?_, by omega, by omega, by omega⟩
        · rw [if_neg (by omega), if_neg (by omega), if_neg (by omega), if_neg (by omega)]; omega
        · rw [if_neg (by omega), if_neg (by omega)]; omega
  obtain ⟨z1, z2, z3, z4, z5, z6⟩ := wz
  have hat : atS (opn W H q F) = q := hm
  refine ⟨?_, fun cw => ?_, fun cf => ?_⟩
  · unfold stp
    rw [if_neg z1, if_neg z2]
    have room : (opn W H q F).2.2.1 < (if (opn W H q F).1 = 0 then 6 else (opn W H q F).2.1) := by
      show q % W < (if q / W = 0 then 6 else if q < W then 0 else W)
      by_cases y : q / W = 0
      · rw [if_pos y]; omega
      · rw [if_neg y, if_neg (fun t => y (Nat.div_eq_of_lt t))]; exact hl
    rw [if_pos ⟨room, by
      by_cases a : v ≤ 9
      · exact Or.inl (z4.mpr a)
      · by_cases b : v = 11
        · exact Or.inr (Or.inl (z6.mpr b))
        · refine Or.inr (Or.inr ⟨z5.mpr (by omega), ?_⟩)
          show (if H < q then (H : Int) else -1) = -1
          rw [if_neg (by have := hv.mp (by omega); omega)]⟩]
    unfold sqd
    rw [if_neg (Nat.succ_ne_zero q), Nat.add_sub_cancel]
    have e4 : (if lcz v = 104 then (((opn W H q F).2.1 * (opn W H q F).1 + (opn W H q F).2.2.1 : Nat) : Int) else (opn W H q F).2.2.2.1) = (if H < q + 1 then (H : Int) else -1) := by
      by_cases a : v = 10
      · have := hv.mp a
        rw [if_pos (z5.mpr a), if_pos (by omega), ← this]
        exact congrArg Int.ofNat hm
      · have : q ≠ H := fun y => a (hv.mpr y)
        rw [if_neg (fun y => a (z5.mp y))]
        show (if H < q then (H : Int) else -1) = _
        by_cases b : H < q
        · rw [if_pos b, if_pos (by omega)]
        · rw [if_neg b, if_neg (by omega)]
    have e5 : (if 48 ≤ lcz v ∧ lcz v ≤ 57 then 1 else 0) = (if v ≤ 9 then 1 else 0) := by
      by_cases a : v ≤ 9
      · rw [if_pos a, if_pos (z4.mpr a)]
      · rw [if_neg a, if_neg (fun y => a (z4.mp y))]
    rw [e4, e5]
    rfl
  · unfold lw
    rw [if_neg (fun y => y.elim z1 z2), hat, z3]
    rfl
  · unfold lf
    rw [if_neg z1, if_neg z2, hat]
    rfl
theorem opn_c {W H q : Nat} {f : Int} (w : 2 ≤ W) (f0 : 0 ≤ f) (f3 : f ≤ 3) : stp (fcz f) (sqd W H (q + 1) 1) = some (sqd W H (q + 1) 0) ∧ (∀ cw, lw (fcz f) (sqd W H (q + 1) 1) cw = cw) ∧ ∀ cf, lf (fcz f) (sqd W H (q + 1) 1) cf = set1 cf q f := by
  have hm := opn_m (W := W) (q := q) w
  have wz : wayZ (fcz f) = f ∧ wayZ (fcz f) ≠ -1 := by
    unfold fcz
    rcases (show f = 0 ∨ f = 1 ∨ f = 2 ∨ f = 3 by omega) with rfl | rfl | rfl | rfl <;> decide
  obtain ⟨z1, z2⟩ := wz
  have hat : atS (sqd W H (q + 1) 1) - 1 = q := by
    unfold sqd atS
    rw [if_neg (Nat.succ_ne_zero q), Nat.add_sub_cancel]
    show (if q < W then 0 else W) * (q / W) + (q % W + 1) - 1 = q
    omega
  refine ⟨?_, fun cw => ?_, fun cf => ?_⟩
  · unfold stp
    rw [if_pos z2]
    unfold sqd
    rw [if_neg (Nat.succ_ne_zero q), if_pos rfl, if_neg (Nat.succ_ne_zero q)]
  · unfold lw
    rw [if_pos (Or.inl z2)]
  · unfold lf
    rw [if_pos z2, hat, z1]
    rfl
/-- what the law's loop keeps -/
def LQ (w2 w3 R W H q n : Nat) (cw cf : Nat → Int) (s0 s : LwS) : Prop := fr2 w2 w3 s0 s ∧ rT s w2 0 = yI (R : Int) ∧ rT s w2 1 = yI (W : Int) ∧ rT s w2 2 = yI (H : Int) ∧ ∀ i, i < q → rT s w2 (3 + i) = yI (cw i) ∧ rT s w2 (33 + i) = yI (cf i)
theorem LQ_t {w2 w3 R W H q n n' : Nat} {cw cf : Nat → Int} {s0 s : LwS} {k : Nat} {x : Int32} (hn : w2 ≠ w3) (h : LQ w2 w3 R W H q n cw cf s0 s) : LQ w2 w3 R W H q n' cw cf s0 (wT s w3 k x) := by
  obtain ⟨h1, h2, h3, h4, h5⟩ := h
  refine ⟨fr2_t h1 (fr2_b (fr_w (fr_r _ _))), by rw [rT_o hn]; exact h2, by rw [rT_o hn]; exact h3, by rw [rT_o hn]; exact h4, fun i hi => ?_⟩
  rw [rT_o hn, rT_o hn]
  exact h5 i hi
section
variable {xs : Nat → Int32} {Ln w2 w3 R W H q n : Nat} {x1 x4 : Int32} {s0 s : LwS} {cw cf : Nat → Int} {v f : Int}
theorem T5 (hn : w2 ≠ w3) (w : 2 ≤ W) (q30 : q < 30) (n64 : n + 2 ≤ 64) (v0 : 0 ≤ v) (v11 : v ≤ 11) (f1 : -1 ≤ f) (f3 : f ≤ 3) (fv : 10 ≤ v → f = -1) {F : Nat} (w6 : W ≤ 6) (hv : v = 10 ↔ q = H) (ef : rT s w2 (33 + q) = yI f) (hl : LQ w2 w3 R W H q n cw cf s0 s) (hp : pgl w3 n (opn W H q F) cw cf s) : ∃ n' F' s', fL_seaText_b293 xs Ln x1 w2 w3 x4 (yI ((n + 1 : Nat) : Int)) (yI (q : Int)) (yI (lcz v)) (yI (n : Int)) w3 s = some (.inl (yI ((n' : Nat) : Int), yI ((q + 1 : Nat) : Int), s')) ∧ n' ≤ n + 2 ∧ F' ≤ 1 ∧ LQ w2 w3 R W H q n' cw cf s0 s' ∧ (∀ j, rT s' w2 j = rT s w2 j) ∧ pgl w3 n' (sqd W H (q + 1) F') (set1 cw q v) (set1 cf q f) s' := by
  obtain ⟨l1, l2, l3⟩ := opn_l (F := F) w w6 v0 v11 hv
  have lb : 1 ≤ lcz v ∧ lcz v ≤ 126 := by unfold lcz; omega
  have p1 := pgl_a hp lb.1 lb.2 l1
  rw [l2, l3] at p1
  have hl1 := LQ_t (k := n) (x := yI (lcz v)) (n' := n) hn hl
  have ib : inb (yI ((33 + q : Nat) : Int)) 63 = true := inb_n (by omega) (by omega)
  unfold fL_seaText_b293
  rw [if_pos (inb_n (by omega) (by omega)), pl33, if_pos (inb_n (by omega) (by omega)), yI_cln (by omega), yI_cln (by omega), rT_o hn, ef]
  by_cases z : f = -1
  · rw [if_pos (ltp (v := 0) (b := 0) rfl (by omega) (by omega) (by omega))]
    refine ⟨n + 1, (if v ≤ 9 then 1 else 0), wT s w3 n (yI (lcz v)), ?_, by omega, ?_, LQ_t hn hl, fun j => by rw [rT_o hn], ?_⟩
    · unfold fL_seaText_b360
      rw [add1]
    · by_cases c : v ≤ 9
      · rw [if_pos c]; exact Nat.le_refl _
      · rw [if_neg c]; exact Nat.zero_le _
    · rw [z]; exact p1
  · have v9 : v ≤ 9 := by
      by_cases c : v ≤ 9
      · exact c
      · exact absurd (fv (by omega)) z
    rw [if_pos v9] at p1
    obtain ⟨m1, m2, m3⟩ := opn_c (W := W) (H := H) (q := q) w (show 0 ≤ f by omega) f3
    have fb : 1 ≤ fcz f ∧ fcz f ≤ 126 := by unfold fcz; omega
    have p2 := pgl_a p1 fb.1 fb.2 m1
    rw [m2, m3] at p2
    have fin : fL_seaText_b359 xs Ln x1 w2 w3 x4 (yI ((n + 1 : Nat) : Int) + 1) (yI (q : Int)) (yI (fcz f)) (yI ((n + 1 : Nat) : Int)) w3 (wT s w3 n (yI (lcz v))) = some (.inl (yI ((n + 2 : Nat) : Int), yI ((q + 1 : Nat) : Int), wT (wT s w3 n (yI (lcz v))) w3 (n + 1) (yI (fcz f)))) := by
      unfold fL_seaText_b359 fL_seaText_b360
      rw [if_pos (inb_n (by omega) (by omega)), yI_cln (by omega), add1, add1]
    rw [if_neg (ltn (v := 0) (b := 0) rfl (by omega) (by omega) (by omega))]
    refine ⟨n + 2, 0, wT (wT s w3 n (yI (lcz v))) w3 (n + 1) (yI (fcz f)), ?_, by omega, by omega, LQ_t (n := n) hn hl1, fun j => by rw [rT_o hn, rT_o hn], ?_⟩
    · rw [← fin]
      rcases (show f = 0 ∨ f = 1 ∨ f = 2 ∨ f = 3 by omega) with rfl | rfl | rfl | rfl
      · rw [if_pos ib, if_pos (show yI 0 = 0 from rfl)]; rfl
      · rw [if_pos ib, if_neg (show ¬ yI 1 = 0 by decide), if_pos ib, if_pos (show yI 1 = 1 from rfl)]; rfl
      · rw [if_pos ib, if_neg (show ¬ yI 2 = 0 by decide), if_pos ib, if_neg (show ¬ yI 2 = 1 by decide), if_pos ib, if_pos (show yI 2 = 2 from rfl)]; rfl
      · rw [if_pos ib, if_neg (show ¬ yI 3 = 0 by decide), if_pos ib, if_neg (show ¬ yI 3 = 1 by decide), if_pos ib, if_neg (show ¬ yI 3 = 2 by decide)]; rfl
    · rw [set1_2] at p2
      exact p2
theorem T4 (hn : w2 ≠ w3) (w : 2 ≤ W) (q30 : q < 30) (n64 : n + 2 ≤ 64) (v0 : 0 ≤ v) (v11 : v ≤ 11) (f1 : -1 ≤ f) (f3 : f ≤ 3) (fv : 10 ≤ v → f = -1) {F : Nat} (w6 : W ≤ 6) (hv : v = 10 ↔ q = H) (ew : rT s w2 (3 + q) = yI v) (ef : rT s w2 (33 + q) = yI f) (hl : LQ w2 w3 R W H q n cw cf s0 s) (hp : pgl w3 n (opn W H q F) cw cf s) : ∃ n' F' s', fL_seaText_b246 xs Ln x1 w2 w3 x4 (yI (n : Int)) (yI (q : Int)) s = some (.inl (yI ((n' : Nat) : Int), yI ((q + 1 : Nat) : Int), s')) ∧ n' ≤ n + 2 ∧ F' ≤ 1 ∧ LQ w2 w3 R W H (q + 1) n' (set1 cw q v) (set1 cf q f) s0 s' ∧ pgl w3 n' (sqd W H (q + 1) F') (set1 cw q v) (set1 cf q f) s' := by
  obtain ⟨n', F', s', a1, a2, a3, a6, a7, a8⟩ := T5 (xs := xs) (Ln := Ln) (x1 := x1) (x4 := x4) hn w q30 n64 v0 v11 f1 f3 fv w6 hv ef hl hp
  refine ⟨n', F', s', ?_, a2, a3, ⟨a6.1, a6.2.1, a6.2.2.1, a6.2.2.2.1, fun i hi => ?_⟩, a8⟩
  · rw [← a1]
    unfold fL_seaText_b246
    rw [pl3, if_pos (inb_n (by omega) (by omega)), yI_cln (by omega), ew, add1]
    unfold lcz
    by_cases c : v = 10
    · rw [if_pos (eqp (v := 10) (b := 10) rfl c), if_pos c]; rfl
    · rw [if_neg (yI_nl (v := 10) (b := 10) rfl (by omega) (by omega) c), if_neg c]
      by_cases d : v = 11
      · rw [if_pos (eqp (v := 11) (b := 11) rfl d), if_pos d, if_pos (inb_n (by omega) (by omega))]; rfl
      · rw [if_neg (yI_nl (v := 11) (b := 11) rfl (by omega) (by omega) d), if_neg d, if_pos (inb_n (by omega) (by omega)), if_pos (inb_n (by omega) (by omega)), show (48 : Int32) + yI v = yI (48 + v) from by rw [show (48 : Int32) = yI 48 from rfl, yI_add]]
  · by_cases c : i = q
    · subst c
      rw [set1_s, set1_s, a7, a7]
      exact ⟨ew, ef⟩
    · rw [set1_n c, set1_n c]
      exact a6.2.2.2.2 i (by omega)
theorem LQ_w (hq : q < 30) (hn : w2 ≠ w3) (h : LQ w2 w3 R W H q n cw cf s0 s) {k : Nat} {x : Int32} (hk : k = 3 + q ∨ k = 33 + q) : LQ w2 w3 R W H q n cw cf s0 (wT s w2 k x) := by
  obtain ⟨h1, h2, h3, h4, h5⟩ := h
  refine ⟨fr2_t h1 (fr2_a (fr_w (fr_r _ _))), by rw [rT_k (by omega)]; exact h2, by rw [rT_k (by omega)]; exact h3, by rw [rT_k (by omega)]; exact h4, fun i hi => ?_⟩
  rw [rT_k (by omega), rT_k (by omega)]
  exact h5 i hi
theorem T3 (hn : w2 ≠ w3) (w : 2 ≤ W) (q30 : q < 30) (q4 : q / W ≤ 4) (nb : n ≤ 2 * q + (q - 1) / W) (v0 : 0 ≤ v) (v11 : v ≤ 11) (f1 : -1 ≤ f) (f3 : f ≤ 3) (fv : 10 ≤ v → f = -1) {F : Nat} (w6 : W ≤ 6) (hv : v = 10 ↔ q = H) (ew : rT s w2 (3 + q) = yI v) (hl : LQ w2 w3 R W H q n cw cf s0 s) (hp : pgl w3 n (sqd W H q F) cw cf s) : ∃ n' F' s', fL_seaText_b222 xs Ln x1 w2 w3 x4 (yI (n : Int)) (yI (q : Int)) (yI f) (yI ((33 + q : Nat) : Int)) w2 s = some (.inl (yI ((n' : Nat) : Int), yI ((q + 1 : Nat) : Int), s')) ∧ n' ≤ 2 * (q + 1) + (q + 1 - 1) / W ∧ LQ w2 w3 R W H (q + 1) n' (set1 cw q v) (set1 cf q f) s0 s' ∧ pgl w3 n' (sqd W H (q + 1) F') (set1 cw q v) (set1 cf q f) s' := by
  have hl1 := LQ_w (k := 33 + q) (x := yI f) q30 hn hl (Or.inr rfl)
  have hp1 : pgl w3 n (sqd W H q F) cw cf (wT s w2 (33 + q) (yI f)) := pgl_f hp (fun j => rT_o (Ne.symm hn))
  have ew1 : rT (wT s w2 (33 + q) (yI f)) w2 (3 + q) = yI v := by rw [rT_k (by omega)]; exact ew
  have hm : (q - 1) / W ≤ q / W := Nat.div_le_div_right (by omega)
  have hq1 : (q - 1) / W ≤ 4 := by omega
  unfold fL_seaText_b222
  rw [if_pos (inb_n (by omega) (by omega)), yI_cln (by omega), Nat.add_sub_cancel]
  by_cases z : q = 0
  · obtain ⟨F', e, -⟩ := opn_0 (W := W) (H := H) (q := q) (F := F) w (Or.inl z)
    rw [e] at hp1
    obtain ⟨n', F2, s', a1, a2, a3, a4, a5⟩ := T4 (xs := xs) (Ln := Ln) (x1 := x1) (x4 := x4) hn w q30 (by omega) v0 v11 f1 f3 fv w6 hv ew1 rT_s hl1 hp1
    rw [if_pos (lep (v := 0) (b := 0) rfl (by omega) (by omega) (by omega))]
    exact ⟨n', F2, s', a1, by omega, a4, a5⟩
  · rw [if_neg (len (v := 0) (b := 0) rfl (by omega) (by omega) (by omega)), show ((1 : Int32)).toNatClampNeg = 1 from rfl, show rT (wT s w2 (33 + q) (yI f)) w2 1 = yI (W : Int) from hl1.2.2.1, if_neg (yI_ne0 (by omega) (by omega) (by omega)), remn (by omega) (by omega) (by omega)]
    by_cases y : q % W = 0
    · have p2 := pgl_a hp1 (c := 47) (by decide) (by decide) (opn_s w z y q4)
      have e1 : lw 47 (sqd W H q F) cw = cw := by unfold lw; rw [if_pos (Or.inr rfl)]
      have e2 : lf 47 (sqd W H q F) cf = cf := by unfold lf; rw [if_neg (show ¬ wayZ 47 ≠ -1 by decide), if_pos rfl]
      rw [e1, e2] at p2
      have eq1 : q / W = (q - 1) / W + 1 := by
        have e := Nat.div_add_mod q W
        rw [y, Nat.add_zero] at e
        obtain ⟨d, hd⟩ : ∃ d, q / W = d + 1 := Nat.exists_eq_succ_of_ne_zero (fun z => by rw [z] at e; omega)
        have e3 : q - 1 = W - 1 + W * d := by
          rw [hd, Nat.mul_add, Nat.mul_one] at e; omega
        rw [e3, Nat.add_mul_div_left _ _ (by omega), Nat.div_eq_of_lt (show W - 1 < W by omega), hd]; omega
      obtain ⟨n', F2, s', a1, a2, a3, a4, a5⟩ := T4 (xs := xs) (Ln := Ln) (x1 := x1) (x4 := x4) (s := wT (wT s w2 (33 + q) (yI f)) w3 n (yI 47)) hn w q30 (by omega) v0 v11 f1 f3 fv w6 hv (by rw [rT_o hn]; exact ew1) (by rw [rT_o hn]; exact rT_s) (LQ_t hn hl1) p2
      rw [if_pos (show yI ((q % W : Nat) : Int) = 0 by rw [y]; rfl), if_pos (inb_n (by omega) (by omega)), yI_cln (by omega), add1]
      exact ⟨n', F2, s', a1, by omega, a4, a5⟩
    · obtain ⟨F', e, -⟩ := opn_0 (W := W) (H := H) (q := q) (F := F) w (Or.inr y)
      rw [e] at hp1
      obtain ⟨n', F2, s', a1, a2, a3, a4, a5⟩ := T4 (xs := xs) (Ln := Ln) (x1 := x1) (x4 := x4) hn w q30 (by omega) v0 v11 f1 f3 fv w6 hv ew1 rT_s hl1 hp1
      have hlt := Nat.mod_lt q (show 0 < W by omega)
      rw [if_neg (yI_ne0 (by omega) (by omega) (by omega))]
      exact ⟨n', F2, s', a1, by omega, a4, a5⟩
theorem T2 (x7 : Int32) (hn : w2 ≠ w3) (w : 2 ≤ W) (q30 : q < 30) (q4 : q / W ≤ 4) (nb : n ≤ 2 * q + (q - 1) / W) (v0 : 0 ≤ v) (v11 : v ≤ 11) {F : Nat} (w6 : W ≤ 6) (hv : v = 10 ↔ q = H) (hl : LQ w2 w3 R W H q n cw cf s0 s) (hp : pgl w3 n (sqd W H q F) cw cf s) : ∃ n' F' f s', fL_seaText_b181 xs Ln x1 w2 w3 x4 (yI (n : Int)) (yI (q : Int)) x7 (yI v) (yI ((3 + q : Nat) : Int)) w2 s = some (.inl (yI ((n' : Nat) : Int), yI ((q + 1 : Nat) : Int), s')) ∧ n' ≤ 2 * (q + 1) + (q + 1 - 1) / W ∧ LQ w2 w3 R W H (q + 1) n' (set1 cw q v) (set1 cf q f) s0 s' ∧ pgl w3 n' (sqd W H (q + 1) F') (set1 cw q v) (set1 cf q f) s' := by
  have hl1 := LQ_w (k := 3 + q) (x := yI v) q30 hn hl (Or.inl rfl)
  have hp1 : pgl w3 n (sqd W H q F) cw cf (wT s w2 (3 + q) (yI v)) := pgl_f hp (fun j => rT_o (Ne.symm hn))
  have none_ : (10 ≤ v ∨ v ≤ 9) → ∃ n' F' f s', fL_seaText_b222 xs Ln x1 w2 w3 x4 (yI (n : Int)) (yI (q : Int)) (-1) (yI ((33 + q : Nat) : Int)) w2 (wT s w2 (3 + q) (yI v)) = some (.inl (yI ((n' : Nat) : Int), yI ((q + 1 : Nat) : Int), s')) ∧ n' ≤ 2 * (q + 1) + (q + 1 - 1) / W ∧ LQ w2 w3 R W H (q + 1) n' (set1 cw q v) (set1 cf q f) s0 s' ∧ pgl w3 n' (sqd W H (q + 1) F') (set1 cw q v) (set1 cf q f) s' := fun _ => by
    obtain ⟨n', F2, s', a1, a2, a4, a5⟩ := T3 (xs := xs) (Ln := Ln) (x1 := x1) (x4 := x4) (f := -1) hn w q30 q4 nb v0 v11 (by decide) (by decide) (fun _ => rfl) w6 hv rT_s hl1 hp1
    exact ⟨n', F2, -1, s', a1, a2, a4, a5⟩
  unfold fL_seaText_b181 fL_seaText_b221
  rw [if_pos (inb_n (by omega) (by omega)), pl3, pl33, if_pos (inb_n (by omega) (by omega)), yI_cln (by omega), rT_s]
  by_cases z : 10 ≤ v
  · rw [if_pos (gep (v := 10) (b := 10) rfl (by omega) (by omega) z)]
    exact none_ (Or.inl z)
  · rw [if_neg (gen (v := 10) (b := 10) rfl (by omega) (by omega) (by omega))]
    have A3 : ∃ k : Nat, k < 3 ∧ fL_at (ishr x7 1) (3 : Int32) (eT (wT s w2 (3 + q) (yI v))) = some (yI (k : Int), eT (wT s w2 (3 + q) (yI v))) := L_at _ (by omega) (by omega) _
    have A4 : ∃ k : Nat, k < 4 ∧ fL_at (ishr x7 4) (4 : Int32) (eT (wT s w2 (3 + q) (yI v))) = some (yI (k : Int), eT (wT s w2 (3 + q) (yI v))) := L_at _ (by omega) (by omega) _
    obtain ⟨k, k1, k2⟩ := A3
    obtain ⟨j, j1, j2⟩ := A4
    rw [b1 k2]
    dsimp only
    rw [uT_e]
    by_cases y : k = 0
    · obtain ⟨n', F2, s', a1, a2, a4, a5⟩ := T3 (xs := xs) (Ln := Ln) (x1 := x1) (x4 := x4) (f := (j : Int)) hn w q30 q4 nb v0 v11 (by omega) (by omega) (fun c => absurd c z) w6 hv rT_s hl1 hp1
      rw [if_pos (show yI (k : Int) = 0 by rw [y]; rfl), b1 j2]
      exact ⟨n', F2, j, s', a1, a2, a4, a5⟩
    · rw [if_neg (yI_ne0 (by omega) (by omega) (by omega))]
      exact none_ (Or.inr (by omega))
theorem T1 (hLn : Ln ≤ 260) (hn : w2 ≠ w3) (r5 : R ≤ 5) (w : 2 ≤ W) (w6 : W ≤ 6) (hq : q < R * W) (hH : H < R * W) (nb : n ≤ 2 * q + (q - 1) / W) {F : Nat} (hl : LQ w2 w3 R W H q n cw cf s0 s) (hp : pgl w3 n (sqd W H q F) cw cf s) : ∃ n' F' cw' cf' s', fL_seaText_b87 xs Ln (0 : Int32) w2 w3 x4 (yI (n : Int)) (yI (q : Int)) s = some (.inl (yI ((n' : Nat) : Int), yI ((q + 1 : Nat) : Int), s')) ∧ n' ≤ 2 * (q + 1) + (q + 1 - 1) / W ∧ LQ w2 w3 R W H (q + 1) n' cw' cf' s0 s' ∧ pgl w3 n' (sqd W H (q + 1) F') cw' cf' s' := by
  have n30 : R * W ≤ 5 * 6 := Nat.mul_le_mul r5 w6
  have q4 : q / W ≤ 4 := by
    have : q / W < R := Nat.div_lt_of_lt_mul (by rw [Nat.mul_comm]; exact hq)
    omega
  have e6 : q % 6 < 6 := Nat.mod_lt _ (by omega)
  obtain ⟨z, hz⟩ := L_cell (xs := xs) (a := 1 + q % 6) hLn (by omega) (eT s)
  have GO : ∀ v : Int, 0 ≤ v → v ≤ 11 → (v = 10 ↔ q = H) → ∃ n' F' cw' cf' s', fL_seaText_b181 xs Ln (0 : Int32) w2 w3 x4 (yI (n : Int)) (yI (q : Int)) (ishr z ((6 : Int32) * (yI (q : Int) / (6 : Int32)))) (yI v) (yI ((3 + q : Nat) : Int)) w2 s = some (.inl (yI ((n' : Nat) : Int), yI ((q + 1 : Nat) : Int), s')) ∧ n' ≤ 2 * (q + 1) + (q + 1 - 1) / W ∧ LQ w2 w3 R W H (q + 1) n' cw' cf' s0 s' ∧ pgl w3 n' (sqd W H (q + 1) F') cw' cf' s' := fun v v0 v11 hv => by
    obtain ⟨n', F', f, s', a1, a2, a3, a4⟩ := T2 (xs := xs) (Ln := Ln) (x1 := 0) (x4 := x4) (ishr z ((6 : Int32) * (yI (q : Int) / (6 : Int32)))) hn w (by omega) q4 nb v0 v11 w6 hv hl hp
    exact ⟨n', F', _, _, s', a1, a2, a3, a4⟩
  have i6 : ((0 : Int32) + 1) + (yI (q : Int) - yI (q : Int) / (6 : Int32) * (6 : Int32)) = yI ((1 + q % 6 : Nat) : Int) := by
    rw [show (6 : Int32) = yI ((6 : Nat) : Int) from rfl, remn (by omega) (by omega) (by omega), show (0 : Int32) + 1 = yI ((1 : Nat) : Int) from rfl, addn]
  unfold fL_seaText_b87
  rw [k0, k1, k2, i6, hl.2.1, hl.2.2.1, yI_mul, if_neg (fun y => by
    have := (yI_le (a := (R : Int) * (W : Int)) (b := (q : Int)) (by have : (R : Int) * (W : Int) = ((R * W : Nat) : Int) := rfl; omega) (by have : (R : Int) * (W : Int) = ((R * W : Nat) : Int) := rfl; omega) (by omega) (by omega)).mp y
    have : (R : Int) * (W : Int) = ((R * W : Nat) : Int) := rfl
    omega), b1 hz]
  dsimp only
  rw [uT_e, hl.2.2.2.1, pl3]
  by_cases y : q = H
  · rw [if_pos (by rw [y])]
    exact GO 10 (by decide) (by decide) ⟨fun _ => y, fun _ => rfl⟩
  · have y2 : ¬ yI (q : Int) = yI (H : Int) := fun c => by
      have := yI_inj (by omega) (by omega) (by omega) (by omega) c
      omega
    · rw [if_neg y2]
      have A9 : ∃ k : Nat, k < 9 ∧ fL_at (ishr z ((6 : Int32) * (yI (q : Int) / (6 : Int32)))) (9 : Int32) (eT s) = some (yI (k : Int), eT s) := L_at _ (by omega) (by omega) _
      have A2 : ∃ k : Nat, k < 2 ∧ fL_at (ishr x4 22) (2 : Int32) (eT s) = some (yI (k : Int), eT s) := L_at _ (by omega) (by omega) _
      have A10 : ∃ k : Nat, k < 10 ∧ fL_at (ishr (ishr z ((6 : Int32) * (yI (q : Int) / (6 : Int32)))) 2) (10 : Int32) (eT s) = some (yI (k : Int), eT s) := L_at _ (by omega) (by omega) _
      have A4 : ∃ k : Nat, k < 4 ∧ fL_at (ishr (ishr z ((6 : Int32) * (yI (q : Int) / (6 : Int32)))) 2) (4 : Int32) (eT s) = some (yI (k : Int), eT s) := L_at _ (by omega) (by omega) _
      obtain ⟨a, a1, a2⟩ := A9
      obtain ⟨b, b1', b2⟩ := A2
      obtain ⟨c, c1, c2⟩ := A10
      obtain ⟨d, d1, d2⟩ := A4
      rw [b1 a2]
      dsimp only
      rw [uT_e]
      by_cases x : a = 0
      · rw [if_pos (show yI (a : Int) = 0 by rw [x]; rfl)]
        exact GO 11 (by decide) (by decide) ⟨fun t => absurd t (by decide), fun t => absurd t y⟩
      · rw [if_neg (yI_ne0 (by omega) (by omega) (by omega)), b1 b2]
        dsimp only
        rw [uT_e]
        unfold fL_seaText_b178
        by_cases g : b = 0
        · rw [if_pos (show yI (b : Int) = 0 by rw [g]; rfl), b1 c2]
          exact GO (c : Int) (by omega) (by omega) ⟨fun t => by omega, fun t => absurd t y⟩
        · rw [if_neg (yI_ne0 (by omega) (by omega) (by omega)), b1 d2]
          exact GO (d : Int) (by omega) (by omega) ⟨fun t => by omega, fun t => absurd t y⟩
end
/-- the sea as the law has it behind its text -/
def SEA (w2 w3 R W H n : Nat) (s0 s : LwS) (cw cf : Nat → Int) : Prop := (2 ≤ R ∧ R ≤ 5 ∧ 2 ≤ W ∧ W ≤ 6 ∧ H < R * W) ∧ n ≤ 64 ∧ LQ w2 w3 R W H (R * W) n cw cf s0 s ∧ ∃ F, pgl w3 n (sqd W H (R * W) F) cw cf s
theorem L_seaText {xs : Nat → Int32} {Ln w2 w3 : Nat} {s : LwS} (hLn : Ln ≤ 260) (hn : w2 ≠ w3) : ∃ (R W H n : Nat) (cw cf : Nat → Int) (s' : LwS), fL_seaText xs Ln (0 : Int32) w2 w3 s = some (yI (n : Int), s') ∧ SEA w2 w3 R W H n s s' cw cf := by
  obtain ⟨x, hx⟩ := L_cell (xs := xs) (a := 0) hLn (by omega) (eT s)
  have A2 : ∃ k : Nat, k < 2 ∧ fL_at (ishr x 20) (2 : Int32) (eT s) = some (yI (k : Int), eT s) := L_at _ (by omega) (by omega) _
  obtain ⟨a, a1, a2⟩ := A2
  -- the third stage: from rows and wide on
  have G3 : ∀ R W : Nat, 2 ≤ R → R ≤ 5 → 2 ≤ W → W ≤ 6 → ∀ (y0 y1 : Int32) (k : Nat) (s1 : LwS), fL_at y1 y0 (eT s1) = some (yI (k : Int), eT s1) → 2 + k = W → rT s1 w2 0 = yI (R : Int) → fr w2 s s1 → ∃ (R W H n : Nat) (cw cf : Nat → Int) (s' : LwS), fL_seaText_b61 xs Ln (0 : Int32) w2 w3 x (0 : Int32) y0 y1 (2 : Int32) (1 : Int32) w2 s1 = some (yI (n : Int), s') ∧ SEA w2 w3 R W H n s s' cw cf := fun R W r2 r5 w w6 y0 y1 k s1 hk eW eR fr1 => by
    have n30 : R * W ≤ 5 * 6 := Nat.mul_le_mul r5 w6
    have n4 : 2 * 2 ≤ R * W := Nat.mul_le_mul r2 w
    obtain ⟨H, h1, h2⟩ := L_at (ishr x 7) (n := R * W) (by omega) (by omega) (eT (wT s1 w2 1 (yI (W : Int))))
    have eRW : yI (R : Int) * yI (W : Int) = yI ((R * W : Nat) : Int) := yI_mul _ _
    have LP : ∃ t, lp (fun s => fL_seaText_b87 xs Ln (0 : Int32) w2 w3 x s.1 s.2.1 s.2.2) FU ((0 : Int32), (0 : Int32), wT (wT s1 w2 1 (yI (W : Int))) w2 2 (yI (H : Int))) = some t ∧ ∃ n cw cf F, t.1 = yI ((n : Nat) : Int) ∧ n ≤ 64 ∧ LQ w2 w3 R W H (R * W) n cw cf s t.2 ∧ pgl w3 n (sqd W H (R * W) F) cw cf t.2 := by
      refine lp_all (fun q st => st.2.1 = yI (q : Int) ∧ ∃ n cw cf F, st.1 = yI ((n : Nat) : Int) ∧ n ≤ 2 * q + (q - 1) / W ∧ LQ w2 w3 R W H q n cw cf s st.2.2 ∧ pgl w3 n (sqd W H q F) cw cf st.2.2) (R * W) _ ?_ ?_ ⟨rfl, 0, fun _ => 0, fun _ => 0, 0, rfl, Nat.zero_le _, ⟨fr2_t (fr2_a fr1) (fr2_a (fr_w (fr_w (fr_r _ _)))), ?_, ?_, rT_s, fun i hi => absurd hi (Nat.not_lt_zero i)⟩, fun _ => 0, fun j hj => absurd hj (Nat.not_lt_zero j), rfl, rfl, rfl⟩ (FU_b (by omega))
      · rintro q ⟨y5, y6, t⟩ hq ⟨g1, n, cw, cf, F, g2, g3, g4, g5⟩
        dsimp only at g1 g2 g4 g5
        subst g1 g2
        obtain ⟨n', F', cw', cf', s', b1', b2, b3, b4⟩ := T1 (xs := xs) (x4 := x) hLn hn r5 w w6 hq h1 g3 g4 g5
        exact ⟨_, b1', rfl, n', cw', cf', F', rfl, b2, b3, b4⟩
      · rintro ⟨y5, y6, t⟩ ⟨g1, n, cw, cf, F, g2, g3, g4, g5⟩
        dsimp only at g1 g2 g4 g5
        subst g1 g2
        have l4 : (R * W - 1) / W < R := Nat.div_lt_of_lt_mul (by have := Nat.mul_comm R W; omega)
        refine ⟨(yI (n : Int), t), ?_, n, cw, cf, F, rfl, by omega, g4, g5⟩
        dsimp only
        unfold fL_seaText_b87
        rw [k0, k1, g4.2.1, g4.2.2.1, eRW, if_pos ((yI_le (by omega) (by omega) (by omega) (by omega)).mpr (Int.le_refl _))]
      · rw [rT_k (by omega), rT_k (by omega)]; exact eR
      · rw [rT_k (by omega), rT_s]
    obtain ⟨t, l1, n, cw, cf, F, l2, l3, l4, l5⟩ := LP
    unfold fL_seaText_b61
    refine ⟨R, W, H, n, cw, cf, t.2, ?_, ⟨r2, r5, w, w6, h1⟩, l3, l4, F, l5⟩
    rw [b1 hk]
    dsimp only
    rw [uT_e, if_pos (show inb 1 63 = true from rfl), k1, show (2 : Int32) + yI (k : Int) = yI (W : Int) from by rw [show (2 : Int32) = yI ((2 : Nat) : Int) from rfl, addn, eW], rT_s, k0, rT_k (by omega), eR, eRW, b1 h2]
    dsimp only
    rw [uT_e, k2, b1 l1, l2]
  -- the second stage: from rows on
  have G2 : ∀ (R : Nat), 2 ≤ R → R ≤ 5 → ∀ (y0 : Int32) (k : Nat), fL_at x y0 (eT s) = some (yI (k : Int), eT s) → 2 + k = R → ∃ (R W H n : Nat) (cw cf : Nat → Int) (s' : LwS), fL_seaText_b32 xs Ln (0 : Int32) w2 w3 x (0 : Int32) y0 x (2 : Int32) (0 : Int32) w2 s = some (yI (n : Int), s') ∧ SEA w2 w3 R W H n s s' cw cf := fun R r2 r5 y0 k hk eR => by
    obtain ⟨s1, e1⟩ : ∃ s1, s1 = wT s w2 0 (yI (R : Int)) := ⟨_, rfl⟩
    have f1 : fr w2 s s1 := by rw [e1]; exact fr_w (fr_r _ _)
    have r1 : rT s1 w2 0 = yI (R : Int) := by rw [e1]; exact rT_s
    have B2 : ∃ k : Nat, k < 2 ∧ fL_at (ishr x 21) (2 : Int32) (eT s1) = some (yI (k : Int), eT s1) := L_at _ (by omega) (by omega) _
    have B5 : ∃ k : Nat, k < 5 ∧ fL_at (ishr x 3) (5 : Int32) (eT s1) = some (yI (k : Int), eT s1) := L_at _ (by omega) (by omega) _
    have B3 : ∃ k : Nat, k < 3 ∧ fL_at (ishr x 3) (3 : Int32) (eT s1) = some (yI (k : Int), eT s1) := L_at _ (by omega) (by omega) _
    obtain ⟨c, c1, c2⟩ := B2
    obtain ⟨d, d1, d2⟩ := B5
    obtain ⟨e, e2, e3⟩ := B3
    unfold fL_seaText_b32
    rw [b1 hk]
    dsimp only
    rw [uT_e, if_pos (show inb 0 63 = true from rfl), k0, show (2 : Int32) + yI (k : Int) = yI (R : Int) from by rw [show (2 : Int32) = yI ((2 : Nat) : Int) from rfl, addn, eR], ← e1, b1 c2]
    dsimp only
    rw [uT_e]
    by_cases g : c = 0
    · rw [if_pos (show yI (c : Int) = 0 by rw [g]; rfl)]
      exact G3 R (2 + d) r2 r5 (by omega) (by omega) _ _ d s1 d2 rfl r1 f1
    · rw [if_neg (yI_ne0 (by omega) (by omega) (by omega))]
      exact G3 R (2 + e) r2 r5 (by omega) (by omega) _ _ e s1 e3 rfl r1 f1
  have C4 : ∃ k : Nat, k < 4 ∧ fL_at x (4 : Int32) (eT s) = some (yI (k : Int), eT s) := L_at _ (by omega) (by omega) _
  have C2 : ∃ k : Nat, k < 2 ∧ fL_at x (2 : Int32) (eT s) = some (yI (k : Int), eT s) := L_at _ (by omega) (by omega) _
  obtain ⟨d, d1, d2⟩ := C4
  obtain ⟨e, e2, e3⟩ := C2
  unfold fL_seaText fL_seaText_b0
  rw [show (0 : Int32) = yI ((0 : Nat) : Int) from rfl, b1 hx]
  dsimp only
  rw [show yI ((0 : Nat) : Int) = (0 : Int32) from rfl, uT_e, b1 a2]
  dsimp only
  rw [uT_e]
  by_cases g : a = 0
  · rw [if_pos (show yI (a : Int) = 0 by rw [g]; rfl)]
    exact G2 (2 + d) (by omega) (by omega) _ d d2 rfl
  · rw [if_neg (yI_ne0 (by omega) (by omega) (by omega))]
    exact G2 (2 + e) (by omega) (by omega) _ e e3 rfl
