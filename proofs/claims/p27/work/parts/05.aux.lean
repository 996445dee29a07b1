/-! ===== small things for the printed functions ===== -/
def okI (p : Int32 × Sg) : Ok := fun v τ => v = some (.int p.1) ∧ τ = p.2
def okJ (p : Int64 × Sg) : Ok := fun v τ => v = some (.long p.1) ∧ τ = p.2
def okV (p : Sg) : Ok := fun v τ => v = none ∧ τ = p
/-- how deep the one recursion may go -/
abbrev FD : Nat := 12
def el {A B C : Type} (f : A → C) (g : B → C) : A ⊕ B → C
  | .inl a => f a
  | .inr b => g b
theorem el_l {A B C : Type} {f : A → C} {g : B → C} {a : A} {o : C} (h : el f g (.inl a) = o) : f a = o := h
theorem el_r {A B C : Type} {f : A → C} {g : B → C} {b : B} {o : C} (h : el f g (.inr b) = o) : g b = o := h
theorem lp_bind {S T R : Type} {f : S → Option (S ⊕ T)} {Gh : S → Prop} {k : T → Option R} {o : R} {n : Nat} {s : S} (h : Option.bind (lp f n s) k = some o) (hb : ∀ s o2, f s = some o2 → (∀ s', o2 = .inl s' → Gh s') → (∀ t, o2 = .inr t → k t = some o) → Gh s) : Gh s := by
  obtain ⟨t, e, h⟩ := Option.bind_eq_some_iff.mp h
  exact lp_ind (KK := fun t => k t = some o) hb n s t e h
theorem chk0 {c : Prop} {i : Decidable c} {α : Type} {x : Option α} {o : α} (h : (@ite _ c i none x) = some o) : ¬ c ∧ x = some o := by
  by_cases q : c
  · rw [if_pos q] at h; cases h
  · rw [if_neg q] at h; exact ⟨q, h⟩
def allNe (x : Int32) : List Int32 → Prop
  | [] => True
  | v :: t => ¬ x = v ∧ allNe x t
theorem allNe_at {x : Int32} : ∀ (l : List Int32) (i : Nat), allNe x l → i < l.length → ¬ x = l.getD i 0
  | [], _, _, h => by simp at h
  | v :: t, 0, h, _ => by simpa using h.1
  | v :: t, i + 1, h, hi => by
    have := allNe_at t i h.2 (by simpa using hi)
    simpa using this
def tblOk (lo hi : Int) (ks : List Int32) : Bool := (List.range ks.length).all (fun i => decide ((ks.getD i 0).toInt = lo + (i : Int))) && decide (hi + 1 = lo + (ks.length : Int))
theorem tbl_out {x : Int32} {lo hi : Int} {ks : List Int32} (hk : tblOk lo hi ks = true) (hne : allNe x ks) : x.toInt < lo ∨ hi < x.toInt := by
  unfold tblOk at hk
  rw [Bool.and_eq_true, List.all_eq_true, decide_eq_true_eq] at hk
  rcases Int.lt_or_le x.toInt lo with h | h
  · exact Or.inl h
  · rcases Int.lt_or_le hi x.toInt with h2 | h2
    · exact Or.inr h2
    · exfalso
      have h3 : (x.toInt - lo).toNat < ks.length := by omega
      have h4 := of_decide_eq_true (hk.1 _ (List.mem_range.mpr h3))
      exact allNe_at ks _ hne h3 (Int32.toInt_inj.mp (by rw [h4]; omega))
section GSw
variable {K : KT} {cc : ByteArray} {own : String} {nL d : Nat} {pc : Nat} {L : List (Option Value)} {st : List Value} {P : Heap → List Loc → Prop}
theorem g_tblIn (C : Cb K cc own nL d) {dflt lo hi off : Int} {offs : Array Int} {len tgt : Nat} {x v : Int32} (hx : x = v) (hd : decode cc pc = .ok (.tableswitch dflt lo hi offs, len)) (h1 : ¬ v.toInt < lo) (h2 : ¬ hi < v.toInt) (ho : offs[(v.toInt - lo).toNat]? = some off) (ht : (pc : Int) + off = (tgt : Int)) (k : G K tgt L st P) : G K pc L (.int x :: st) P := by
  subst hx
  exact g_tableIn C hd h1 h2 ho ht k
theorem g_tblOut (C : Cb K cc own nL d) {dflt lo hi : Int} {offs : Array Int} {len tgt : Nat} {x : Int32} (ks : List Int32) (hk : tblOk lo hi ks = true) (hne : allNe x ks) (hd : decode cc pc = .ok (.tableswitch dflt lo hi offs, len)) (ht : (pc : Int) + dflt = (tgt : Int)) (k : G K tgt L st P) : G K pc L (.int x :: st) P :=
  g_tableOut C hd (tbl_out hk hne) ht k
theorem g_lkIn (C : Cb K cc own nL d) {dflt off : Int} {ps : Array (Int × Int)} {len tgt : Nat} {x v : Int32} (hx : x = v) (hd : decode cc pc = .ok (.lookupswitch dflt ps, len)) (hp : (ps.toList.zip (ps.toList.drop 1)).all (fun (a, next) => a.1 < next.1) = true) (ho : Op.lookupswitch.offset ps.toList dflt v.toInt = off) (ht : (pc : Int) + off = (tgt : Int)) (k : G K tgt L st P) : G K pc L (.int x :: st) P := by
  subst hx
  exact g_lookup C hd hp ho ht k
theorem lk_out {x : Int32} {d : Int} : ∀ (r : List (Int × Int)) (ks : List Int32), r.map Prod.fst = ks.map Int32.toInt → allNe x ks → Op.lookupswitch.offset r d x.toInt = d
  | [], _, _, _ => rfl
  | (a, o) :: r, [], h, _ => by simp at h
  | (a, o) :: r, k :: ks, h, hne => by
    simp only [List.map_cons, List.cons.injEq] at h
    rw [lv_osw hne.1 h.1.symm]
    exact lk_out r ks h.2 hne.2
theorem g_lkOut (C : Cb K cc own nL d) {dflt : Int} {ps : Array (Int × Int)} {len tgt : Nat} {x : Int32} (ks : List Int32) (hk : ps.toList.map Prod.fst = ks.map Int32.toInt) (hne : allNe x ks) (hd : decode cc pc = .ok (.lookupswitch dflt ps, len)) (hp : (ps.toList.zip (ps.toList.drop 1)).all (fun (a, next) => a.1 < next.1) = true) (ht : (pc : Int) + dflt = (tgt : Int)) (k : G K tgt L st P) : G K pc L (.int x :: st) P :=
  g_lookup C hd hp (lk_out _ ks hk hne) ht k
end GSw

abbrev slX0 : List (Nat × Nat) := [(0, 0), (0, 0), (0, 0), (0, 0), (0, 0), (0, 0)]
abbrev slX1 : List (Nat × Nat) := [(2, 1)]
abbrev slX2 : List (Nat × Nat) := [(2, 1), (2, 2), (2, 3), (0, 0), (0, 0), (0, 0)]
abbrev slX3 : List (Nat × Nat) := [(2, 1), (2, 7), (2, 8), (2, 9)]
abbrev slX4 : List (Nat × Nat) := [(2, 1), (2, 2), (2, 3), (0, 0)]
abbrev slX5 : List (Nat × Nat) := [(2, 1), (1, 0), (1, 0), (0, 0)]
abbrev slX6 : List (Nat × Nat) := [(2, 1), (0, 0), (0, 0), (0, 0), (0, 0), (0, 0), (0, 0)]
abbrev slX7 : List (Nat × Nat) := [(2, 1), (2, 2), (2, 3), (2, 4), (2, 5), (0, 0), (0, 0), (0, 0)]
abbrev slX8 : List (Nat × Nat) := [(2, 1), (2, 37), (2, 39), (2, 40), (2, 41), (2, 42), (2, 43), (3, 0), (0, 0), (0, 0), (0, 0), (0, 0), (0, 0), (0, 0), (0, 0), (0, 0), (1, 0)]
abbrev slX9 : List (Nat × Nat) := [(2, 1), (2, 3), (2, 4), (2, 40), (2, 48), (2, 49), (2, 53), (2, 58), (2, 74), (0, 0), (0, 0), (0, 0)]
abbrev layC : List Sh := [(0, 9, slX9), (0, 6, slX6), (1, 64, []), (0, 8, slX8), (0, 7, slX7), (1, 30, []), (1, 30, []), (1, 30, []), (1, 30, []), (5, 30, [(1, 30)]), (1, 4, []), (1, 4, []), (1, 4, []), (1, 4, []), (1, 4, []), (1, 4, []), (1, 4, []), (1, 4, []), (1, 4, []), (1, 4, []), (1, 4, []), (1, 4, []), (1, 4, []), (1, 4, []), (1, 4, []), (1, 4, []), (1, 4, []), (1, 4, []), (1, 4, []), (1, 4, []), (1, 4, []), (1, 4, []), (1, 4, []), (1, 4, []), (1, 4, []), (1, 4, []), (1, 4, []), (1, 4, []), (1, 4, []), (1, 4, []), (0, 1, slX1), (1, 3, []), (1, 10, []), (1, 10, []), (1, 10, []), (1, 9, []), (1, 9, []), (0, 0, slX0), (4, 5, [(28, 5)]), (0, 4, slX4), (1, 10, []), (1, 10, []), (1, 10, []), (0, 2, slX2), (1, 5, []), (1, 5, []), (0, 1, slX1), (1, 3, []), (0, 3, slX3), (5, 5, [(1, 5)]), (1, 24, []), (1, 24, []), (1, 24, []), (1, 24, []), (1, 24, []), (3, 5, []), (3, 5, []), (5, 6, [(1, 6)]), (1, 12, []), (1, 12, []), (1, 12, []), (1, 12, []), (1, 12, []), (1, 12, []), (0, 5, slX5), (2, 1000, []), (0, 0, slX0), (0, 0, slX0), (0, 0, slX0), (0, 0, slX0), (0, 0, slX0)]
theorem rng {n : Nat} {f : Nat → Bool} (h : (List.range n).all f = true) {j : Nat} (hj : j < n) : f j = true := List.all_eq_true.mp h j (List.mem_range.mpr hj)
theorem rw_9 {j : Nat} (h : j < 30) : layC[10 + j]? = some (1, 4, []) := of_decide_eq_true (rng (f := fun j => decide (layC[10 + j]? = some (1, 4, []))) (by decide +kernel) h)
theorem rw_59 {j : Nat} (h : j < 5) : layC[60 + j]? = some (1, 24, []) := of_decide_eq_true (rng (f := fun j => decide (layC[60 + j]? = some (1, 24, []))) (by decide +kernel) h)
theorem rw_67 {j : Nat} (h : j < 6) : layC[68 + j]? = some (1, 12, []) := of_decide_eq_true (rng (f := fun j => decide (layC[68 + j]? = some (1, 12, []))) (by decide +kernel) h)
theorem rw_48 {j : Nat} (h : j < 5) : layC[76 + j]? = some (0, 0, slX0) := of_decide_eq_true (rng (f := fun j => decide (layC[76 + j]? = some (0, 0, slX0))) (by decide +kernel) h)
theorem lay_lt {Y : List Sh} {o : Nat} {s : Sh} (h : Y[o]? = some s) : o < Y.length := (List.getElem?_eq_some_iff.mp h).1
theorem cn_val {o : Nat} (h : layC[o]? = some (0, 1, slX1)) : layC[o + 1]? = some (1, 3, []) := by
  have h1 := rng (n := 81) (f := fun o => decide (layC[o]? = some (0, 1, slX1)) == false || decide (layC[o + 1]? = some (1, 3, []))) (by decide +kernel) (lay_lt h)
  have h2 : decide (layC[o]? = some (0, 1, slX1)) = true := decide_eq_true h
  rw [h2] at h1
  exact of_decide_eq_true (by simpa using h1)
