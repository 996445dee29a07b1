/-! ===== no later step adds ice or takes days back ===== -/
theorem mem_qsf {m : Mm} {rec : Nat → List (List Nat)} {c : Nat} {l : List Nat} : ∀ k, k ≤ 4 → l ∈ qsf m rec c k → ∃ w, w < 4 ∧ l ∈ qone m rec c w
  | 0, _, h => by cases h
  | k + 1, h4, h => by
    have h : l ∈ qone m rec c (3 - k) ++ qsf m rec c k := h
    rcases List.mem_append.mp h with q | q
    · exact ⟨3 - k, by omega, q⟩
    · exact mem_qsf k (by omega) q
theorem qwy_in {m : Mm} (v : VS m) : ∀ (d c : Nat) (l : List Nat), c < qR m * qW m → l ∈ qwy m d c → PC m l c ∧ A4 l ∧ l.length ≤ d
  | 0, c, l, _, h => by cases h
  | d + 1, c, l, hc, h => by
    obtain ⟨-, w1, w2⟩ := v.W
    obtain ⟨-, r1, r2⟩ := v.R
    obtain ⟨w, hw, hl⟩ := mem_qsf 4 (Nat.le_refl _) h
    unfold qone at hl
    cases hq : qto m c w with
    | none => rw [hq] at hl; cases hl
    | some x =>
      rw [hq] at hl
      dsimp only at hl
      by_cases z : x = qH m
      · rw [if_pos z] at hl
        have e := List.mem_singleton.mp hl
        subst e
        exact ⟨⟨hc, trivial⟩, fun y hy => by rw [List.mem_singleton.mp hy]; exact hw, by rw [List.length_singleton]; omega⟩
      · rw [if_neg z] at hl
        obtain ⟨l', h1, rfl⟩ := List.mem_map.mp hl
        have xb := qbes_b r1 r2 w1 w2 hc (qto_i hq).1
        obtain ⟨a1, a2, a3⟩ := qwy_in v d x l' xb h1
        have eg : qgo m c w = x := by unfold qgo; rw [hq]; rfl
        refine ⟨⟨hc, by rw [eg]; exact a1⟩, fun y hy => ?_, by rw [List.length_cons]; omega⟩
        rcases List.mem_cons.mp hy with rfl | q
        · exact hw
        · exact a2 y q
theorem qtw_app {m : Mm} {E : QE} {l' : List Nat} : ∀ (l : List Nat) (c : Nat) (T : QT), qtw m E (l ++ l') c T = qtw m E l' (qen m l c) (qtw m E l c T)
  | [], _, _ => rfl
  | w :: l, c, T => qtw_app l (qgo m c w) (qst m E c w T)
theorem PC_app {m : Mm} {l' : List Nat} : ∀ (l : List Nat) (c : Nat), PC m l c → PC m l' (qen m l c) → PC m (l ++ l') c
  | [], _, _, h => h
  | _ :: l, _, h, k => ⟨h.1, PC_app l _ h.2 k⟩
theorem gain_mono {m : Mm} {t sk s s' d d' : Nat} (k : VK (m 0 17) (m 0 18) (m 0 19)) (h1 : s' ≤ s) (h2 : d ≤ d') : qgain m t sk s' d' ≤ qgain m t sk s d := by
  obtain ⟨k1, k2, k3, k4, k5, k6⟩ := k
  have a1 : m 0 17 * (s' : Int) ≤ m 0 17 * (s : Int) := Int.mul_le_mul_of_nonneg_left (by omega) (by omega)
  have a2 : 0 ≤ m 0 18 * (t : Int) := Int.mul_nonneg (by omega) (by omega)
  have a3 : m 0 18 * (t : Int) * (d : Int) ≤ m 0 18 * (t : Int) * (d' : Int) := Int.mul_le_mul_of_nonneg_left (by omega) a2
  unfold qgain
  omega
/-- nothing better can come -/
abbrev hop (m : Mm) (E : QE) (B : QB) (T : QT) : Prop := B.1 ≠ 0 ∧ (qgain m E.2.2.1 E.2.2.2.1 T.1 T.2.2.1 < B.2.1 ∨ (qgain m E.2.2.1 E.2.2.2.1 T.1 T.2.2.1 = B.2.1 ∧ B.2.2.1 ≤ T.2.2.1))
theorem qup_hop {m : Mm} {E : QE} {c c0 : Nat} {T T0 : QT} {B : QB} {pre l : List Nat} (v : VS m) (k : VK (m 0 17) (m 0 18) (m 0 19)) (hc : qen m pre c0 = c) (hT : qtw m E pre c0 T0 = T) (tb : TB T) (p : PC m l c) (h : hop m E B T) : qup m E c0 T0 B (pre ++ l) = (B.1 + 1, B.2) := by
  have e : qtw m E (pre ++ l) c0 T0 = qtw m E l c T := by rw [qtw_app, hc, hT]
  obtain ⟨-, m1, m2⟩ := qtw_c (E := E) v l c T p tb
  have g := gain_mono (t := E.2.2.1) (sk := E.2.2.2.1) k m1 m2
  unfold qup
  dsimp only
  rw [e]
  obtain ⟨n0, h⟩ := h
  rw [if_neg]
  intro q
  rcases q with q | q | q
  · exact n0 q
  · rcases h with h | h
    · omega
    · omega
  · rcases h with h | h
    · omega
    · omega
theorem fold_hop {m : Mm} {E : QE} {c c0 : Nat} {T T0 : QT} {pre : List Nat} (v : VS m) (k : VK (m 0 17) (m 0 18) (m 0 19)) (hc : qen m pre c0 = c) (hT : qtw m E pre c0 T0 = T) (tb : TB T) : ∀ (ls : List (List Nat)) (B : QB), (∀ l, l ∈ ls → PC m l c) → hop m E B T → (((ls.map (pre ++ ·)).foldl (qup m E c0 T0) B).2 = B.2 ∧ ((ls.map (pre ++ ·)).foldl (qup m E c0 T0) B).1 ≠ 0)
  | [], B, _, h => ⟨rfl, h.1⟩
  | l :: ls, B, p, h => by
    rw [List.map_cons, List.foldl_cons, qup_hop v k hc hT tb (p l (List.mem_cons_self ..)) h]
    exact fold_hop v k hc hT tb ls (B.1 + 1, B.2) (fun x hx => p x (List.mem_cons_of_mem _ hx)) ⟨Nat.succ_ne_zero _, h.2⟩
/-- the ways on from a square, none of them for the harbour but the empty one -/
def WS (m : Mm) (d c : Nat) : List (List Nat) := if c = qH m then [[]] else qwy m d c
theorem qone_WS {m : Mm} {c w x d : Nat} (hq : qto m c w = some x) : qone m (qwy m d) c w = (WS m d x).map (fun l => w :: l) := by
  unfold qone WS
  rw [hq]
  dsimp only
  by_cases z : x = qH m
  · rw [if_pos z, if_pos z]; rfl
  · rw [if_neg z, if_neg z]
theorem WS_in {m : Mm} (v : VS m) {d c : Nat} {l : List Nat} (hc : c < qR m * qW m) (h : l ∈ WS m d c) : PC m l c ∧ A4 l ∧ l.length ≤ d := by
  unfold WS at h
  by_cases z : c = qH m
  · rw [if_pos z] at h
    rw [List.mem_singleton.mp h]
    exact ⟨trivial, (fun _ hy => by cases hy), Nat.zero_le _⟩
  · rw [if_neg z] at h
    exact qwy_in v d c l hc h
/-- the ways by the first k steps -/
def pfx (m : Mm) (d c : Nat) : Nat → List (List Nat)
  | 0 => []
  | k + 1 => pfx m d c k ++ qone m (qwy m d) c k
theorem pfx_4 (m : Mm) (d c : Nat) : pfx m d c 4 = qwy m (d + 1) c := by
  show ((([] ++ qone m (qwy m d) c 0) ++ qone m (qwy m d) c 1) ++ qone m (qwy m d) c 2) ++ qone m (qwy m d) c 3 = qone m (qwy m d) c 0 ++ (qone m (qwy m d) c 1 ++ (qone m (qwy m d) c 2 ++ (qone m (qwy m d) c 3 ++ [])))
  rw [List.nil_append, List.append_nil, List.append_assoc, List.append_assoc]
theorem fold_bb {m : Mm} {E : QE} {c0 : Nat} {T0 : QT} (v : VS m) (k : VK (m 0 17) (m 0 18) (m 0 19)) (eb : EB E) (tb : TB T0) : ∀ (ls : List (List Nat)) (B : QB), (∀ l, l ∈ ls → PC m l c0 ∧ A4 l ∧ l.length ≤ 9) → BB B → BB (ls.foldl (qup m E c0 T0) B)
  | [], _, _, h => h
  | l :: ls, B, p, h => by
    rw [List.foldl_cons]
    obtain ⟨p1, p2, p3⟩ := p l (List.mem_cons_self ..)
    exact fold_bb v k eb tb ls _ (fun x hx => p x (List.mem_cons_of_mem _ hx)) (qup_bb v k eb tb p1 p3 p2 h)
