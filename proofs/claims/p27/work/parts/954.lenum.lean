/-! ===== all rows of steps in their order, and which of them are ways ===== -/
/-- so many figures of base 2, the highest first, each told by lo or hi -/
def bp (lo hi : Nat) : Nat → Nat → List Nat
  | 0, _ => []
  | k + 1, b => (if b / 2 ^ k % 2 = 0 then lo else hi) :: bp lo hi k b
theorem bp_len (lo hi : Nat) : ∀ k b, (bp lo hi k b).length = k
  | 0, _ => rfl
  | k + 1, b => by show (bp lo hi k b).length + 1 = _; rw [bp_len lo hi k b]
abbrev A4l (l : List Nat) : Prop := ∀ w, w ∈ l → w < 4
theorem bp_4 {lo hi : Nat} (h1 : lo < 4) (h2 : hi < 4) : ∀ k b, A4l (bp lo hi k b)
  | 0, _, w, h => by cases h
  | k + 1, b, w, h => by
    rcases List.mem_cons.mp h with e | e
    · rw [e]
      by_cases q : b / 2 ^ k % 2 = 0
      · rw [if_pos q]; exact h1
      · rw [if_neg q]; exact h2
    · exact bp_4 h1 h2 k b w e
theorem bp_add (lo hi b : Nat) {j : Nat} : ∀ k, k ≤ j → bp lo hi k (2 ^ j + b) = bp lo hi k b
  | 0, _ => rfl
  | k + 1, h => by
    have e : (2 ^ j + b) / 2 ^ k % 2 = b / 2 ^ k % 2 := by
      have p : 2 ^ j = 2 ^ k * (2 * 2 ^ (j - (k + 1))) := by
        rw [← Nat.mul_assoc, ← Nat.pow_succ, ← Nat.pow_add]; congr 1; omega
      rw [p, Nat.mul_add_div (Nat.pow_pos (by omega))]
      omega
    show (if (2 ^ j + b) / 2 ^ k % 2 = 0 then lo else hi) :: bp lo hi k (2 ^ j + b) = (if b / 2 ^ k % 2 = 0 then lo else hi) :: bp lo hi k b
    rw [e, bp_add lo hi b k (by omega)]
def enL (lo hi : Nat) : Nat → List (List Nat)
  | 0 => [[]]
  | k + 1 => (enL lo hi k).map (fun l => lo :: l) ++ (enL lo hi k).map (fun l => hi :: l)
theorem enL_r (lo hi : Nat) : ∀ k, (List.range (2 ^ k)).map (bp lo hi k) = enL lo hi k
  | 0 => rfl
  | k + 1 => by
    rw [Nat.pow_succ, Nat.mul_two, List.range_add, List.map_append, List.map_map]
    show _ = (enL lo hi k).map (fun l => lo :: l) ++ (enL lo hi k).map (fun l => hi :: l)
    rw [← enL_r lo hi k, List.map_map, List.map_map]
    congr 1
    · refine List.map_congr_left (fun b hb => ?_)
      have hb' := List.mem_range.mp hb
      show (if b / 2 ^ k % 2 = 0 then lo else hi) :: bp lo hi k b = lo :: bp lo hi k b
      rw [Nat.div_eq_of_lt hb', if_pos rfl]
    · refine List.map_congr_left (fun b hb => ?_)
      have hb' := List.mem_range.mp hb
      show (if (2 ^ k + b) / 2 ^ k % 2 = 0 then lo else hi) :: bp lo hi k (2 ^ k + b) = hi :: bp lo hi k b
      rw [bp_add lo hi b k (Nat.le_refl _), Nat.add_div_left _ (Nat.pow_pos (by omega)), Nat.div_eq_of_lt hb', if_neg (by decide)]
/-- a row of steps leads to the harbour -/
def vl (m : Mm) : List Nat → Nat → Bool
  | [], c => decide (c = qH m)
  | w :: l, c => match qto m c w with
    | none => false
    | some x => vl m l x
theorem vl_map (m : Mm) (w c : Nat) (L : List (List Nat)) : (L.map (fun l => w :: l)).filter (fun l => vl m l c) = (match qto m c w with | none => [] | some x => (L.filter (fun l => vl m l x)).map (fun l => w :: l)) := by
  rw [List.filter_map]
  cases h : qto m c w with
  | none =>
    show List.map (fun l => w :: l) (L.filter (fun l => vl m (w :: l) c)) = []
    have e : (fun l => vl m (w :: l) c) = fun _ => false := by
      funext l
      show (match qto m c w with | none => false | some x => vl m l x) = false
      rw [h]
    rw [e]
    simp
  | some x =>
    show List.map (fun l => w :: l) (L.filter (fun l => vl m (w :: l) c)) = _
    have e : (fun l => vl m (w :: l) c) = fun l => vl m l x := by
      funext l
      show (match qto m c w with | none => false | some x => vl m l x) = _
      rw [h]
    rw [e]
/-- on this side of the harbour -/
def Dn (m : Mm) (up side c : Nat) : Prop := ((up = 0 ∧ qH m / qW m ≤ c / qW m) ∨ (up = 2 ∧ c / qW m ≤ qH m / qW m)) ∧ ((side = 3 ∧ qH m % qW m ≤ c % qW m) ∨ (side = 1 ∧ c % qW m ≤ qH m % qW m))
theorem geo0 {c W : Nat} (w : 0 < W) (h : W ≤ c) : (c - W) / W + 1 = c / W ∧ (c - W) % W = c % W := by
  obtain ⟨x, rfl⟩ : ∃ x, c = x + W := ⟨c - W, by omega⟩
  rw [Nat.add_sub_cancel, Nat.add_div_right _ w, Nat.add_mod_right]
  exact ⟨rfl, rfl⟩
theorem geo1 {c W : Nat} (h : c % W + 1 < W) : (c + 1) / W = c / W ∧ (c + 1) % W = c % W + 1 := by
  have e : c + 1 = W * (c / W) + (c % W + 1) := by have := Nat.div_add_mod c W; omega
  refine ⟨?_, ?_⟩
  · conv => lhs; rw [e]
    rw [Nat.mul_add_div (by omega), Nat.div_eq_of_lt h, Nat.add_zero]
  · conv => lhs; rw [e]
    rw [Nat.mul_add_mod, Nat.mod_eq_of_lt h]
theorem geo2 {c W : Nat} (w : 0 < W) : (c + W) / W = c / W + 1 ∧ (c + W) % W = c % W := ⟨Nat.add_div_right _ w, Nat.add_mod_right _ _⟩
theorem geo3 {c W : Nat} (w : 0 < W) (h : 0 < c % W) : (c - 1) / W = c / W ∧ (c - 1) % W + 1 = c % W := by
  have lt := Nat.mod_lt c w
  have e : c - 1 = W * (c / W) + (c % W - 1) := by have := Nat.div_add_mod c W; omega
  refine ⟨?_, ?_⟩
  · conv => lhs; rw [e]
    rw [Nat.mul_add_div w, Nat.div_eq_of_lt (show c % W - 1 < W by omega), Nat.add_zero]
  · conv => lhs; rw [e]
    rw [Nat.mul_add_mod, Nat.mod_eq_of_lt (show c % W - 1 < W by omega)]
    omega
theorem Dn_to {m : Mm} {up side c w x : Nat} (w1 : 2 ≤ qW m) (w2 : qW m ≤ 6) (hw : w < 4) (d : Dn m up side c) (h : qto m c w = some x) : (w = up ∨ w = side) ∧ Dn m up side x := by
  obtain ⟨h1, -, h3⟩ := qto_i h
  unfold qbes at h1
  unfold qF qfar qad at h3
  unfold Dn at d ⊢
  generalize qW m = W at *
  generalize qH m / W = p at *
  generalize qH m % W = q at *
  rcases (show w = 0 ∨ w = 1 ∨ w = 2 ∨ w = 3 by omega) with rfl | rfl | rfl | rfl
  · rw [if_pos rfl] at h1
    by_cases z : W ≤ c
    · rw [if_pos z] at h1; cases h1
      obtain ⟨g1, g2⟩ := geo0 (by omega) z
      rw [g2] at h3 ⊢
      generalize (c - W) / W = a' at *
      generalize c / W = a at *
      generalize c % W = b at *
      omega
    · rw [if_neg z] at h1; cases h1
  · rw [if_neg (by omega), if_pos rfl] at h1
    by_cases z : c % W + 1 < W
    · rw [if_pos z] at h1; cases h1
      obtain ⟨g1, g2⟩ := geo1 z
      rw [g1, g2] at h3 ⊢
      generalize c / W = a at *
      generalize c % W = b at *
      omega
    · rw [if_neg z] at h1; cases h1
  · rw [if_neg (by omega), if_neg (by omega), if_pos rfl] at h1
    by_cases z : c + W < qR m * W
    · rw [if_pos z] at h1; cases h1
      obtain ⟨g1, g2⟩ := geo2 (c := c) (show 0 < W by omega)
      rw [g1, g2] at h3 ⊢
      clear z
      generalize c / W = a at *
      generalize c % W = b at *
      omega
    · rw [if_neg z] at h1; cases h1
  · rw [if_neg (by omega), if_neg (by omega), if_neg (by omega)] at h1
    by_cases z : 0 < c % W
    · rw [if_pos z] at h1; cases h1
      obtain ⟨g1, g2⟩ := geo3 (by omega) z
      rw [g1] at h3 ⊢
      generalize (c - 1) % W = b' at *
      generalize c / W = a at *
      generalize c % W = b at *
      omega
    · rw [if_neg z] at h1; cases h1
theorem qone_n {m : Mm} {rec : Nat → List (List Nat)} {c w : Nat} (h : qto m c w = none) : qone m rec c w = [] := by
  unfold qone; rw [h]
/-- of all rows of steps the ways are left, in their order -/
theorem en_ways {m : Mm} {up side lo hi : Nat} (v : VS m) (hlo : lo = min up side) (hhi : hi = max up side) : ∀ (k c : Nat), c < qR m * qW m → qF m c = k → Dn m up side c → (enL lo hi k).filter (fun l => vl m l c) = if k = 0 then [[]] else qwy m k c
  | 0, c, hc, hF, d => by
    rw [if_pos rfl]
    show List.filter _ [[]] = _
    have e : vl m [] c = true := decide_eq_true (qF_0 v hF)
    rw [List.filter_cons_of_pos (by exact e)]
    rfl
  | k + 1, c, hc, hF, d => by
    obtain ⟨-, w1, w2⟩ := v.W
    obtain ⟨-, r1, r2⟩ := v.R
    rw [if_neg (by omega)]
    show ((enL lo hi k).map (fun l => lo :: l) ++ (enL lo hi k).map (fun l => hi :: l)).filter (fun l => vl m l c) = qone m (qwy m k) c 0 ++ (qone m (qwy m k) c 1 ++ (qone m (qwy m k) c 2 ++ (qone m (qwy m k) c 3 ++ [])))
    rw [List.filter_append, vl_map, vl_map]
    have O : ∀ w, w < 4 → (match qto m c w with | none => [] | some x => ((enL lo hi k).filter (fun l => vl m l x)).map (fun l => w :: l)) = qone m (qwy m k) c w := fun w hw => by
      unfold qone
      cases h : qto m c w with
      | none => rfl
      | some x =>
        have h1 := (qto_i h).1
        have hx := qbes_b r1 r2 w1 w2 hc h1
        have hFx := qto_f w1 w2 h
        have dx := (Dn_to w1 w2 hw d h).2
        dsimp only
        rw [en_ways v hlo hhi k x hx (by omega) dx]
        by_cases z : k = 0
        · rw [if_pos z, if_pos (qF_0 v (by omega))]; rfl
        · rw [if_neg z, if_neg (fun e => by rw [e, qF_H] at hFx; omega)]
    have N : ∀ w, w < 4 → w ≠ up → w ≠ side → qone m (qwy m k) c w = [] := fun w hw a b => by
      cases h : qto m c w with
      | none => exact qone_n h
      | some x =>
        rcases (Dn_to w1 w2 hw d h).1 with e | e
        · exact absurd e a
        · exact absurd e b
    obtain ⟨d1, d2⟩ := d
    rcases d1 with ⟨u, -⟩ | ⟨u, -⟩
    · rcases d2 with ⟨sd, -⟩ | ⟨sd, -⟩
      · have el : lo = 0 := by omega
        have eh : hi = 3 := by omega
        subst el eh
        rw [O 0 (by omega), O 3 (by omega), N 1 (by omega) (by omega) (by omega), N 2 (by omega) (by omega) (by omega)]
        simp
      · have el : lo = 0 := by omega
        have eh : hi = 1 := by omega
        subst el eh
        rw [O 0 (by omega), O 1 (by omega), N 2 (by omega) (by omega) (by omega), N 3 (by omega) (by omega) (by omega)]
        simp
    · rcases d2 with ⟨sd, -⟩ | ⟨sd, -⟩
      · have el : lo = 2 := by omega
        have eh : hi = 3 := by omega
        subst el eh
        rw [O 2 (by omega), O 3 (by omega), N 0 (by omega) (by omega) (by omega), N 1 (by omega) (by omega) (by omega)]
        simp
      · have el : lo = 1 := by omega
        have eh : hi = 2 := by omega
        subst el eh
        rw [O 1 (by omega), O 2 (by omega), N 0 (by omega) (by omega) (by omega), N 3 (by omega) (by omega) (by omega)]
        simp
/-- the figures as one number -/
def cv : List Nat → Nat
  | [] => 0
  | w :: l => w * 2 ^ (2 * l.length) + cv l
theorem cv_b : ∀ (l : List Nat), A4l l → cv l < 2 ^ (2 * l.length)
  | [], _ => by show 0 < 2 ^ 0; decide
  | w :: l, h => by
    have ih := cv_b l (fun x hx => h x (List.mem_cons_of_mem _ hx))
    have hw := h w List.mem_cons_self
    show w * 2 ^ (2 * l.length) + cv l < 2 ^ (2 * (l.length + 1))
    rw [show 2 * (l.length + 1) = 2 * l.length + 2 by omega, Nat.pow_add]
    have : w * 2 ^ (2 * l.length) ≤ 3 * 2 ^ (2 * l.length) := Nat.mul_le_mul_right _ (by omega)
    omega
theorem dg_cv : ∀ (l : List Nat) (a : Nat), A4l l → dg (a * 2 ^ (2 * l.length) + cv l) l.length = l
  | [], _, _ => rfl
  | w :: l, a, h => by
    have hl : A4l l := fun x hx => h x (List.mem_cons_of_mem _ hx)
    have hw := h w List.mem_cons_self
    have ih := dg_cv l (a * 4 + w) hl
    have b := cv_b l hl
    have e : a * 2 ^ (2 * (l.length + 1)) + (w * 2 ^ (2 * l.length) + cv l) = (a * 4 + w) * 2 ^ (2 * l.length) + cv l := by
      rw [show 2 * (l.length + 1) = 2 * l.length + 2 by omega, Nat.pow_add, Nat.add_mul, Nat.mul_assoc a 4, Nat.mul_comm 4, ← Nat.add_assoc]
    show ((a * 2 ^ (2 * (l.length + 1)) + (w * 2 ^ (2 * l.length) + cv l)) / 2 ^ (2 * l.length) % 4) :: dg (a * 2 ^ (2 * (l.length + 1)) + (w * 2 ^ (2 * l.length) + cv l)) l.length = w :: l
    rw [e, ih]
    congr 1
    rw [Nat.mul_comm, Nat.mul_add_div (Nat.pow_pos (by omega)), Nat.div_eq_of_lt b]
    omega
theorem dg_cv0 (l : List Nat) (h : A4l l) : dg (cv l) l.length = l := by
  have := dg_cv l 0 h
  rw [Nat.zero_mul, Nat.zero_add] at this
  exact this
theorem dg_get (code : Nat) : ∀ (k i : Nat), i < k → (dg code k).getD i 0 = code / 2 ^ (2 * (k - 1 - i)) % 4
  | 0, i, h => absurd h (Nat.not_lt_zero i)
  | k + 1, 0, _ => by
    show code / 2 ^ (2 * k) % 4 = _
    congr 4
  | k + 1, i + 1, h => by
    show (dg code k).getD i 0 = _
    rw [dg_get code k i (by omega)]
    congr 4
    omega
/-- what the law walked is what both sides reckon -/
theorem wlk_tw {m : Mm} {E : QE} (v : VS m) : ∀ (l : List Nat) (c : Nat) (T : QT), c < qR m * qW m → TB T → (match wlk m E l c T with
    | none => vl m l c = false
    | some r => r.2 = qtw m E l c T ∧ TB r.2 ∧ (vl m l c = decide (r.1 = qH m)))
  | [], c, T, _, tb => ⟨rfl, tb, rfl⟩
  | w :: l, c, T, hc, tb => by
    obtain ⟨-, w1, w2⟩ := v.W
    obtain ⟨-, r1, r2⟩ := v.R
    show (match (match qto m c w with | none => none | some x => wlk m E l x (qst m E c w T)) with
      | none => (match qto m c w with | none => false | some x => vl m l x) = false
      | some r => r.2 = qtw m E l (qgo m c w) (qst m E c w T) ∧ TB r.2 ∧ ((match qto m c w with | none => false | some x => vl m l x) = decide (r.1 = qH m)))
    cases h : qto m c w with
    | none => rfl
    | some x =>
      have hx := qbes_b r1 r2 w1 w2 hc (qto_i h).1
      have g : qgo m c w = x := by unfold qgo; rw [h]; rfl
      rw [g]
      exact wlk_tw v l x (qst m E c w T) hx (qst_b (qL_b v hc).2.1 tb).1
