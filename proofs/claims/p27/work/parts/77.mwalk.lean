/-! ===== the model walks all ways ===== -/
/-- where a way ends -/
def qen (m : Mm) : List Nat → Nat → Nat
  | [], c => c
  | w :: l, c => qen m l (qgo m c w)
theorem PL_add {τ : Sg} {m : Mm} {w : Nat} : ∀ (l : List Nat) (c i : Nat), PL τ m l c i → rI τ 8 (i + l.length) = yI (w : Int) → rI τ 9 (i + l.length) = yI (qen m l c : Int) → w < 4 → qen m l c < qR m * qW m → PL τ m (l ++ [w]) c i
  | [], c, i, _, h1, h2, h3, h4 => ⟨⟨h1, h2, h3, h4⟩, trivial⟩
  | x :: l, c, i, h, h1, h2, h3, h4 => by
    rw [List.length_cons, show i + (l.length + 1) = i + 1 + l.length by omega] at h1 h2
    exact ⟨h.1, PL_add l _ _ h.2 h1 h2 h3 h4⟩
theorem qen_add {m : Mm} {w : Nat} : ∀ (l : List Nat) (c : Nat), qen m (l ++ [w]) c = qgo m (qen m l c) w
  | [], _ => rfl
  | _ :: l, c => qen_add l _
def TT : Nat → Nat
  | 0 => 0
  | d + 1 => 1 + 4 * (1 + TT d)
/-- what lays a way may do, and what it keeps -/
def WY {β : Type} (m : Mm) (c0 : Nat) (x1 x2 x3 x4 : Int32) (I : β → Sg → Prop) (u : β → List Nat → β) (κ : β → Nat) (M : Nat) : Prop := (∀ β τ τ', I β τ → (∀ o j, o ≠ 8 → o ≠ 9 → rI τ' o j = rI τ o j) → I β τ') ∧ (∀ β τ, I β τ → GM τ m) ∧ (∀ β l, κ (u β l) = κ β + 1) ∧ ∀ β τ l, κ β < M → I β τ → PL τ m l c0 0 → l.length ≤ 9 → ∃ τ', fX10_tryWay x1 x2 x3 x4 (yI (l.length : Int)) τ = some τ' ∧ I (u β l) τ' ∧ ∀ j, rI τ' 8 j = rI τ 8 j ∧ rI τ' 9 j = rI τ 9 j
theorem k_fold {β : Type} {u : β → List Nat → β} {κ : β → Nat} (h : ∀ b l, κ (u b l) = κ b + 1) : ∀ (ls : List (List Nat)) (b : β), κ (ls.foldl u b) = κ b + ls.length
  | [], _ => rfl
  | l :: ls, b => by
    rw [List.foldl_cons, k_fold h ls, h, List.length_cons]; omega
/-- the next way of a square: the loop's state behind its round -/
theorem f10_round {m : Mm} {x1 x2 x3 x4 : Int32} {τ : Sg} {a c w : Nat} (v : VS m) (gm : GM τ m) (a9 : a ≤ 8) (hw : w < 4) (hc : c < qR m * qW m) (h9 : rI τ 9 a = yI (c : Int)) (h8 : rI τ 8 a = yI ((w : Int) - 1)) : fX10_layWays_b36 x1 x2 x3 x4 (yI (a : Int)) τ = (if qto m c w = none then some (.inl (yI (a : Int), wI τ 8 a (yI (w : Int)))) else if qto m c w = some (qH m) then Option.bind (fX10_tryWay x1 x2 x3 x4 (yI ((a + 1 : Nat) : Int)) (wI τ 8 a (yI (w : Int)))) fun p => some (.inl (yI (a : Int), p)) else some (.inl (yI ((a + 1 : Nat) : Int), wI (wI (wI τ 8 a (yI (w : Int))) 9 (a + 1) (yI (oZ (qto m c w)))) 8 (a + 1) (-1)))) := by
  have b30 := v.b30
  have hH := v.H.2
  obtain ⟨-, w1, w2⟩ := v.W
  obtain ⟨-, r1, r2⟩ := v.R
  have gm2 : GM (wI τ 8 a (yI (w : Int))) m := GM_f gm (fun o j q => by rw [rI_o (by omega)])
  have ht := f10_to v gm2 hc hw
  have e8 : yI ((w : Int) - 1) + (1 : Int32) = yI (w : Int) := by rw [yI_1, yI_add]; congr 1; omega
  unfold fX10_layWays_b36
  rw [if_neg (ltn (v := 0) (b := 0) rfl (by omega) (by omega) (by omega)), if_pos (inb_n (by omega) (by omega)), if_pos (inb_n (by omega) (by omega)), if_pos (inb_n (by omega) (by omega)), yI_cln (by omega), h8, e8, rI_s, if_neg (gen (v := 4) (b := 4) rfl (by omega) (by omega) (by omega)), if_pos (inb_n (by omega) (by omega)), if_pos (inb_n (by omega) (by omega)), rI_o (by omega), h9, b1 ht]
  dsimp only
  unfold fX10_layWays_b85 fX10_layWays_b155
  rw [if_pos (inb_n (by omega) (by omega)), yI_cln (by omega), rI_s, if_pos (lep (v := 3) (b := 3) rfl (by omega) (by omega) (by omega)), rI_o (by omega), gm.2.2.1, add1]
  cases hq : qto m c w with
  | none =>
    rw [oZ_none, if_neg (fun q => by have := yI_inj (by omega) (by omega) (by omega) (by omega) q; omega), if_pos (show yI (-1) = -1 from rfl), if_pos rfl]
  | some x =>
    have xb := qbes_b r1 r2 w1 w2 hc (qto_i hq).1
    rw [oZ_some, if_neg (c := (some x = none)) (fun q => by cases q)]
    by_cases z : x = qH m
    · rw [if_pos (by rw [z]), if_pos (by rw [z])]
    · rw [if_neg (fun q => z (by have := yI_inj (by omega) (by omega) (by omega) (by omega) q; omega)), if_neg (yI_nl (v := -1) (b := -1) rfl (by omega) (by omega) (by omega)), if_pos (inb_n (by omega) (by omega)), if_pos (inb_n (by omega) (by omega)), if_neg (fun q => z (by cases q; rfl)), yI_cln (by omega)]
theorem f10_up {x1 x2 x3 x4 : Int32} {τ : Sg} {a : Nat} (a9 : a ≤ 8) (h8 : rI τ 8 a = yI 3) : fX10_layWays_b36 x1 x2 x3 x4 (yI (a : Int)) τ = some (.inl (yI ((a : Int) - 1), wI τ 8 a (yI 4))) := by
  unfold fX10_layWays_b36
  rw [if_neg (ltn (v := 0) (b := 0) rfl (by omega) (by omega) (by omega)), if_pos (inb_n (by omega) (by omega)), if_pos (inb_n (by omega) (by omega)), if_pos (inb_n (by omega) (by omega)), yI_cln (by omega), h8, show yI 3 + 1 = yI 4 from rfl, rI_s, if_pos (show (4 : Int32) ≤ yI 4 by decide)]
  unfold fX10_layWays_b85 fX10_layWays_b155
  rw [if_pos (inb_n (by omega) (by omega)), yI_cln (by omega), rI_s, if_neg (show ¬ yI 4 ≤ 3 by decide), show yI (a : Int) + (-1 : Int32) = yI ((a : Int) - 1) from by rw [yI_m1, yI_add]; rfl]
theorem f10_walkK {β : Type} {m : Mm} {c0 : Nat} {x1 x2 x3 x4 : Int32} {I : β → Sg → Prop} {u : β → List Nat → β} {κ : β → Nat} {M : Nat} (v : VS m) (wi : WY m c0 x1 x2 x3 x4 I u κ M) {d : Nat} (ih : ∀ (pre : List Nat) (c : Nat) (b : β) (τ : Sg), PL τ m pre c0 0 → qen m pre c0 = c → c < qR m * qW m → 1 ≤ d → qF m c = d → pre.length + d ≤ 9 → rI τ 9 pre.length = yI (c : Int) → rI τ 8 pre.length = yI (-1) → κ b + (qwy m d c).length ≤ M → I b τ → ∃ K τ', K ≤ TT d ∧ (∀ n, lp (fun s : Int32 × Sg => fX10_layWays_b36 x1 x2 x3 x4 s.1 s.2) (n + K) (yI (pre.length : Int), τ) = lp (fun s : Int32 × Sg => fX10_layWays_b36 x1 x2 x3 x4 s.1 s.2) n (yI ((pre.length : Int) - 1), τ')) ∧ I (((qwy m d c).map (pre ++ ·)).foldl u b) τ' ∧ ∀ j, j < pre.length → rI τ' 8 j = rI τ 8 j ∧ rI τ' 9 j = rI τ 9 j) : ∀ (k : Nat) (pre : List Nat) (c : Nat) (b : β) (τ : Sg), k ≤ 4 → PL τ m pre c0 0 → qen m pre c0 = c → c < qR m * qW m → qF m c = d + 1 → pre.length + d + 1 ≤ 9 → rI τ 9 pre.length = yI (c : Int) → rI τ 8 pre.length = yI (3 - (k : Int)) → κ b + (qsf m (qwy m d) c k).length ≤ M → I b τ → ∃ K τ', K ≤ 1 + k * (1 + TT d) ∧ (∀ n, lp (fun s : Int32 × Sg => fX10_layWays_b36 x1 x2 x3 x4 s.1 s.2) (n + K) (yI (pre.length : Int), τ) = lp (fun s : Int32 × Sg => fX10_layWays_b36 x1 x2 x3 x4 s.1 s.2) n (yI ((pre.length : Int) - 1), τ')) ∧ I (((qsf m (qwy m d) c k).map (pre ++ ·)).foldl u b) τ' ∧ ∀ j, j < pre.length → rI τ' 8 j = rI τ 8 j ∧ rI τ' 9 j = rI τ 9 j
  | 0, pre, c, b, τ, _, pl, qe, hc, hF, h9, p9, p8, hk, hi => by
    refine ⟨1, wI τ 8 pre.length (yI 4), by omega, fun n => lp_st (f10_up (by omega) p8), wi.1 _ _ _ hi (fun o j a _ => by rw [rI_o a]), fun j hj => ⟨by rw [rI_k (by omega)], by rw [rI_o (by omega)]⟩⟩
  | k + 1, pre, c, b, τ, k4, pl, qe, hc, hF, h9, p9, p8, hk, hi => by
    have gm := wi.2.1 _ _ hi
    have rd := f10_round (x1 := x1) (x2 := x2) (x3 := x3) (x4 := x4) (a := pre.length) (w := 3 - k) v gm (by omega) (by omega) hc p9 (by rw [p8]; congr 1; omega)
    have es : qsf m (qwy m d) c (k + 1) = qone m (qwy m d) c (3 - k) ++ qsf m (qwy m d) c k := rfl
    have e3 : ((3 - k : Nat) : Int) = 3 - (k : Int) := by omega
    have mul1 : (k + 1) * (1 + TT d) = k * (1 + TT d) + (1 + TT d) := Nat.succ_mul _ _
    rw [es, List.length_append] at hk
    rw [es, List.map_append, List.foldl_append]
    have kf := k_fold wi.2.2.1 ((qone m (qwy m d) c (3 - k)).map (pre ++ ·)) b
    rw [List.length_map] at kf
    -- what follows, from a state behind this step
    have REST : ∀ (b1 : β) (τ1 : Sg) (K1 : Nat), K1 ≤ 1 + TT d → (∀ n, lp (fun s : Int32 × Sg => fX10_layWays_b36 x1 x2 x3 x4 s.1 s.2) (n + K1) (yI (pre.length : Int), τ) = lp (fun s : Int32 × Sg => fX10_layWays_b36 x1 x2 x3 x4 s.1 s.2) n (yI (pre.length : Int), τ1)) → rI τ1 8 pre.length = yI (3 - (k : Int)) → (∀ j, j ≤ pre.length → rI τ1 9 j = rI τ 9 j) → (∀ j, j < pre.length → rI τ1 8 j = rI τ 8 j) → I b1 τ1 → ((qone m (qwy m d) c (3 - k)).map (pre ++ ·)).foldl u b = b1 → ∃ K τ', K ≤ 1 + (k + 1) * (1 + TT d) ∧ (∀ n, lp (fun s : Int32 × Sg => fX10_layWays_b36 x1 x2 x3 x4 s.1 s.2) (n + K) (yI (pre.length : Int), τ) = lp (fun s : Int32 × Sg => fX10_layWays_b36 x1 x2 x3 x4 s.1 s.2) n (yI ((pre.length : Int) - 1), τ')) ∧ I (((qsf m (qwy m d) c k).map (pre ++ ·)).foldl u (((qone m (qwy m d) c (3 - k)).map (pre ++ ·)).foldl u b)) τ' ∧ ∀ j, j < pre.length → rI τ' 8 j = rI τ 8 j ∧ rI τ' 9 j = rI τ 9 j := fun b1 τ1 K1 hK1 hrun h8 h9' h8' hi1 eb1 => by
      obtain ⟨K, τ', r1, r2, r3, r4⟩ := f10_walkK v wi ih k pre c b1 τ1 (by omega) (PL_f pre c0 0 pl (fun j _ hj => ⟨h8' j (by omega), h9' j (by omega)⟩)) qe hc hF h9 (by rw [h9' _ (Nat.le_refl _), p9]) h8 (by rw [← eb1]; omega) hi1
      refine ⟨K + K1, τ', by omega, fun n => ?_, by rw [eb1]; exact r3, fun j hj => ⟨by rw [(r4 j hj).1, h8' j hj], by rw [(r4 j hj).2, h9' j (by omega)]⟩⟩
      rw [← Nat.add_assoc, hrun, r2]
    cases hq : qto m c (3 - k) with
    | none =>
      have eo : qone m (qwy m d) c (3 - k) = [] := by unfold qone; rw [hq]
      rw [hq, if_pos rfl] at rd
      refine REST b (wI τ 8 pre.length (yI ((3 - k : Nat) : Int))) 1 (by omega) (fun n => lp_st rd) (by rw [rI_s, e3]) (fun j _ => by rw [rI_o (by omega)]) (fun j hj => by rw [rI_k (by omega)]) (wi.1 _ _ _ hi (fun o j a _ => by rw [rI_o a])) (by rw [eo]; rfl)
    | some x =>
      obtain ⟨-, w1, w2⟩ := v.W
      obtain ⟨-, r1, r2⟩ := v.R
      have xb := qbes_b r1 r2 w1 w2 hc (qto_i hq).1
      have xF := qto_f w1 w2 hq
      have eg : qgo m c (3 - k) = x := by unfold qgo; rw [hq]; rfl
      rw [hq, if_neg (c := (some x = none)) (fun q => by cases q)] at rd
      have PLa : ∀ τ1 : Sg, rI τ1 8 pre.length = yI ((3 - k : Nat) : Int) → (∀ j, j ≤ pre.length → rI τ1 9 j = rI τ 9 j) → (∀ j, j < pre.length → rI τ1 8 j = rI τ 8 j) → PL τ1 m (pre ++ [3 - k]) c0 0 := fun τ1 h8 h9' h8' => by
        refine PL_add pre c0 0 (PL_f pre c0 0 pl (fun j _ hj => ⟨h8' j (by omega), h9' j (by omega)⟩)) ?_ ?_ (by omega) (by rw [qe]; exact hc)
        · rw [Nat.zero_add]; exact h8
        · rw [Nat.zero_add, h9' _ (Nat.le_refl _), p9, qe]
      have el : (pre ++ [3 - k]).length = pre.length + 1 := by rw [List.length_append]; rfl
      by_cases hx : x = qH m
      · have eo : qone m (qwy m d) c (3 - k) = [[3 - k]] := by unfold qone; rw [hq]; dsimp only; rw [if_pos hx]
        rw [if_pos (by rw [hx])] at rd
        obtain ⟨τ1, t1, t2, t3⟩ := wi.2.2.2 b (wI τ 8 pre.length (yI ((3 - k : Nat) : Int))) (pre ++ [3 - k]) (by rw [eo] at hk; exact Nat.lt_of_lt_of_le (Nat.lt_of_lt_of_le (Nat.lt_succ_self _) (Nat.le_add_right (κ b + 1) _)) (by rw [← Nat.add_assoc] at hk; exact hk)) (wi.1 _ _ _ hi (fun o j a _ => by rw [rI_o a])) (PLa _ rI_s (fun j _ => by rw [rI_o (by omega)]) (fun j hj => by rw [rI_k (by omega)])) (by rw [el]; omega)
        rw [el] at t1
        rw [b1 t1] at rd
        refine REST _ τ1 1 (by omega) (fun n => lp_st rd) (by rw [(t3 _).1, rI_s, e3]) (fun j _ => by rw [(t3 j).2, rI_o (by omega)]) (fun j hj => by rw [(t3 j).1, rI_k (by omega)]) t2 (by rw [eo]; rfl)
      · have eo : qone m (qwy m d) c (3 - k) = (qwy m d x).map (fun l => (3 - k) :: l) := by unfold qone; rw [hq]; dsimp only; rw [if_neg hx]
        rw [if_neg (fun q => hx (by cases q; rfl)), oZ_some] at rd
        have d1 : 1 ≤ d := by
          by_cases z : d = 0
          · exact absurd (qF_0 v (by omega)) hx
          · omega
        obtain ⟨K, τ', s1, s2, s3, s4⟩ := ih (pre ++ [3 - k]) x b (wI (wI (wI τ 8 pre.length (yI ((3 - k : Nat) : Int))) 9 (pre.length + 1) (yI (x : Int))) 8 (pre.length + 1) (-1)) (PLa _ (by rw [rI_k (by omega), rI_o (by omega), rI_s]) (fun j hj => by rw [rI_o (by omega), rI_k (by omega), rI_o (by omega)]) (fun j hj => by rw [rI_k (by omega), rI_o (by omega), rI_k (by omega)])) (by rw [qen_add, qe, eg]) xb d1 (by omega) (by rw [el]; omega) (by rw [el, rI_o (by omega), rI_s]) (by rw [el, rI_s]; rfl) (by rw [eo, List.length_map] at hk; omega) (wi.1 _ _ _ hi (fun o j a b => by rw [rI_o a, rI_o b, rI_o a]))
        rw [el] at s2 s4
        refine REST _ τ' (K + 1) (by omega) (fun n => ?_) ?_ (fun j hj => ?_) (fun j hj => ?_) s3 ?_
        · have e9 : ((pre.length + 1 : Nat) : Int) - 1 = (pre.length : Int) := by omega
          rw [e9] at s2
          exact (lp_st rd).trans (s2 n)
        · rw [(s4 _ (by omega)).1, rI_k (by omega), rI_o (by omega), rI_s, e3]
        · rw [(s4 j (by omega)).2, rI_o (by omega), rI_k (by omega), rI_o (by omega)]
        · rw [(s4 j (by omega)).1, rI_k (by omega), rI_o (by omega), rI_k (by omega)]
        · rw [eo, List.map_map]
          congr 1
          refine List.map_congr_left (fun l _ => ?_)
          show pre ++ (3 - k) :: l = pre ++ [3 - k] ++ l
          rw [List.append_assoc]
          rfl
theorem f10_walk {β : Type} {m : Mm} {c0 : Nat} {x1 x2 x3 x4 : Int32} {I : β → Sg → Prop} {u : β → List Nat → β} {κ : β → Nat} {M : Nat} (v : VS m) (wi : WY m c0 x1 x2 x3 x4 I u κ M) : ∀ (d : Nat) (pre : List Nat) (c : Nat) (b : β) (τ : Sg), PL τ m pre c0 0 → qen m pre c0 = c → c < qR m * qW m → 1 ≤ d → qF m c = d → pre.length + d ≤ 9 → rI τ 9 pre.length = yI (c : Int) → rI τ 8 pre.length = yI (-1) → κ b + (qwy m d c).length ≤ M → I b τ → ∃ K τ', K ≤ TT d ∧ (∀ n, lp (fun s : Int32 × Sg => fX10_layWays_b36 x1 x2 x3 x4 s.1 s.2) (n + K) (yI (pre.length : Int), τ) = lp (fun s : Int32 × Sg => fX10_layWays_b36 x1 x2 x3 x4 s.1 s.2) n (yI ((pre.length : Int) - 1), τ')) ∧ I (((qwy m d c).map (pre ++ ·)).foldl u b) τ' ∧ ∀ j, j < pre.length → rI τ' 8 j = rI τ 8 j ∧ rI τ' 9 j = rI τ 9 j
  | 0, pre, c, b, τ, _, _, _, h, _, _, _, _, _, _ => absurd h (by decide)
  | d + 1, pre, c, b, τ, pl, qe, hc, _, hF, h9, p9, p8, hk, hi => by
    obtain ⟨K, τ', r1, r2, r3, r4⟩ := f10_walkK v wi (f10_walk v wi d) 4 pre c b τ (Nat.le_refl _) pl qe hc hF (by omega) p9 (by rw [p8]; rfl) hk hi
    exact ⟨K, τ', r1, r2, r3, r4⟩
