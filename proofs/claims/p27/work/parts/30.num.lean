/-! ===== the functions' side: numbers, cells, loops ===== -/
def yI (a : Int) : Int32 := Int32.ofInt a
def yJ (a : Int) : Int64 := Int64.ofInt a
theorem yI_of (x : Int32) : yI x.toInt = x := Int32.ofInt_toInt x
theorem yI_ex (x : Int32) : ∃ a : Int, -2147483648 ≤ a ∧ a < 2147483648 ∧ x = yI a := ⟨x.toInt, x.le_toInt, x.toInt_lt, (yI_of x).symm⟩
theorem yI_int {a : Int} (h1 : -2147483648 ≤ a) (h2 : a < 2147483648) : (yI a).toInt = a := Int32.toInt_ofInt_of_le h1 h2
theorem yI_add (a b : Int) : yI a + yI b = yI (a + b) := (Int32.ofInt_add a b).symm
theorem yI_sub (a b : Int) : yI a - yI b = yI (a - b) := (Int32.ofInt_sub a b).symm
theorem yI_mul (a b : Int) : yI a * yI b = yI (a * b) := (Int32.ofInt_mul a b).symm
theorem yI_neg (a : Int) : -yI a = yI (-a) := (Int32.ofInt_neg a).symm
theorem yI_lit (n : Nat) : (OfNat.ofNat n : Int32) = yI (OfNat.ofNat n : Int) := (Int32.ofInt_eq_ofNat (n := n)).symm
theorem yI_nat (n : Nat) : nI n = yI (n : Int) := (Int32.ofInt_eq_ofNat (n := n)).symm
theorem yI_0 : (0 : Int32) = yI 0 := rfl
theorem yI_1 : (1 : Int32) = yI 1 := rfl
theorem yI_m1 : (-1 : Int32) = yI (-1) := rfl
theorem yI_lt {a b : Int} (h1 : -2147483648 ≤ a) (h2 : a < 2147483648) (h3 : -2147483648 ≤ b) (h4 : b < 2147483648) : (yI a < yI b) ↔ a < b := by
  rw [Int32.lt_iff_toInt_lt, yI_int h1 h2, yI_int h3 h4]
theorem yI_le {a b : Int} (h1 : -2147483648 ≤ a) (h2 : a < 2147483648) (h3 : -2147483648 ≤ b) (h4 : b < 2147483648) : (yI a ≤ yI b) ↔ a ≤ b := by
  rw [Int32.le_iff_toInt_le, yI_int h1 h2, yI_int h3 h4]
theorem yI_eq {a b : Int} (h1 : -2147483648 ≤ a) (h2 : a < 2147483648) (h3 : -2147483648 ≤ b) (h4 : b < 2147483648) : (yI a = yI b) ↔ a = b := by
  rw [← Int32.toInt_inj, yI_int h1 h2, yI_int h3 h4]
theorem yI_inj {a b : Int} (h1 : -2147483648 ≤ a) (h2 : a < 2147483648) (h3 : -2147483648 ≤ b) (h4 : b < 2147483648) (h : yI a = yI b) : a = b := (yI_eq h1 h2 h3 h4).mp h
theorem yI_cl {a : Int} (h1 : -2147483648 ≤ a) (h2 : a < 2147483648) : (yI a).toNatClampNeg = a.toNat := Int32.toNatClampNeg_ofInt_of_le h1 h2
theorem yI_cln {n : Nat} (h : n < 2147483648) : (yI (n : Int)).toNatClampNeg = n := by
  rw [yI_cl (by omega) (by omega)]; rfl
theorem yI_div {a b : Int} (h1 : 0 ≤ a) (h2 : a < 2147483648) (h3 : 0 < b) (h4 : b < 2147483648) : yI a / yI b = yI (a / b) := by
  obtain ⟨n, rfl⟩ := Int.eq_ofNat_of_zero_le h1
  obtain ⟨d, rfl⟩ := Int.eq_ofNat_of_zero_le (Int.le_of_lt h3)
  rw [← yI_nat, ← yI_nat, pk_div (by omega) (by omega) (by omega), yI_nat]
  rfl
theorem yI_rem {a b : Int} (h1 : 0 ≤ a) (h2 : a < 2147483648) (h3 : 0 < b) (h4 : b < 2147483648) : yI a - yI a / yI b * yI b = yI (a % b) := by
  rw [yI_div h1 h2 h3 h4, yI_mul, yI_sub, Int.emod_def, Int.mul_comm]
theorem yI_ne0 {a : Int} (h1 : -2147483648 ≤ a) (h2 : a < 2147483648) (h : a ≠ 0) : ¬ yI a = 0 := fun e => h (yI_inj h1 h2 (by omega) (by omega) (e.trans yI_0))
theorem inb_z {a : Int} {n : Nat} (h1 : -2147483648 ≤ a) (h2 : a < 2147483648) : (inb (yI a) n = true) ↔ (0 ≤ a ∧ a < (n : Int)) := by
  unfold inb
  rw [yI_cl h1 h2, yI_0, Bool.and_eq_true, decide_eq_true_eq, decide_eq_true_eq, yI_lt h1 h2 (by omega) (by omega)]
  omega
theorem inb_t {a : Int} {n : Nat} (h2 : a < 2147483648) (h3 : 0 ≤ a) (h4 : a < (n : Int)) : inb (yI a) n = true := (inb_z (by omega) h2).mpr ⟨h3, h4⟩
theorem inb_n {k n : Nat} (h2 : k < 2147483648) (h4 : k < n) : inb (yI (k : Int)) n = true := inb_t (by omega) (by omega) (by omega)
theorem imax_z {a b : Int} (h1 : -2147483648 ≤ a) (h2 : a < 2147483648) (h3 : -2147483648 ≤ b) (h4 : b < 2147483648) : imax (yI a) (yI b) = yI (max a b) := by
  unfold imax
  by_cases h : a < b
  · rw [if_pos ((yI_lt h1 h2 h3 h4).mpr h)]; congr 1; omega
  · rw [if_neg (fun q => h ((yI_lt h1 h2 h3 h4).mp q))]; congr 1; omega
theorem imin_z {a b : Int} (h1 : -2147483648 ≤ a) (h2 : a < 2147483648) (h3 : -2147483648 ≤ b) (h4 : b < 2147483648) : imin (yI a) (yI b) = yI (min a b) := by
  unfold imin
  by_cases h : b < a
  · rw [if_pos ((yI_lt h3 h4 h1 h2).mpr h)]; congr 1; omega
  · rw [if_neg (fun q => h ((yI_lt h3 h4 h1 h2).mp q))]; congr 1; omega
theorem iabs_z {a : Int} (h1 : -2147483648 < a) (h2 : a < 2147483648) : iabs (yI a) = yI (if 0 ≤ a then a else -a) := by
  unfold iabs
  rw [yI_0]
  by_cases h : 0 ≤ a
  · rw [if_pos ((yI_le (by omega) (by omega) (by omega) h2).mpr h), if_pos h]
  · rw [if_neg (fun q => h ((yI_le (by omega) (by omega) (by omega) h2).mp q)), if_neg h, yI_sub]; congr 1; omega
theorem isB_0 : isB 0 = true := rfl
theorem isB_1 : isB 1 = true := rfl
theorem isB_ite {p : Prop} {i : Decidable p} : isB (@ite _ p i 1 0) = true := by
  by_cases h : p
  · rw [if_pos h]; rfl
  · rw [if_neg h]; rfl
theorem isB_or {v : Int32} (h : isB v = true) : v = 0 ∨ v = 1 := by
  unfold isB at h
  rwa [Bool.or_eq_true, decide_eq_true_eq, decide_eq_true_eq] at h
/-- the model's own test of a range, on longs -/
theorem in_z {a : Int32} {lo hi : Int64} (σ : Sg) : fX10_in a.toInt64 lo hi σ = some (if lo.toInt ≤ a.toInt ∧ a.toInt ≤ hi.toInt then 1 else 0, σ) := by
  unfold fX10_in fX10_in_b0 lg_cmp
  have e : a.toInt64.toInt = a.toInt := Int32.toInt_toInt64 a
  simp only [gt_iff_lt, Int64.lt_iff_toInt_lt, e, ← Int64.toInt_inj]
  by_cases h1 : lo.toInt ≤ a.toInt
  · have c1 : ¬ ((if lo.toInt < a.toInt then (1 : Int32) else if a.toInt = lo.toInt then 0 else -1) < 0) := by
      by_cases h : lo.toInt < a.toInt
      · rw [if_pos h]; decide
      · rw [if_neg h, if_pos (by omega)]; decide
    rw [if_neg c1]
    by_cases h2 : a.toInt ≤ hi.toInt
    · have c2 : ¬ (0 < (if hi.toInt < a.toInt then (1 : Int32) else if a.toInt = hi.toInt then 0 else -1)) := by
        rw [if_neg (by omega)]
        by_cases h : a.toInt = hi.toInt
        · rw [if_pos h]; decide
        · rw [if_neg h]; decide
      rw [if_neg c2, if_pos ⟨h1, h2⟩]
    · have c2 : (0 < (if hi.toInt < a.toInt then (1 : Int32) else if a.toInt = hi.toInt then 0 else -1)) := by
        rw [if_pos (by omega)]; decide
      rw [if_pos c2, if_neg (fun q => h2 q.2)]
  · have c1 : ((if lo.toInt < a.toInt then (1 : Int32) else if a.toInt = lo.toInt then 0 else -1) < 0) := by
      rw [if_neg (by omega), if_neg (by omega)]; decide
    rw [if_pos c1, if_neg (fun q => h1 q.1)]
theorem in_zz {a b c : Int} (h1 : -2147483648 ≤ a) (h2 : a < 2147483648) {lo hi : Int64} (e1 : lo.toInt = b) (e2 : hi.toInt = c) (σ : Sg) : fX10_in (yI a).toInt64 lo hi σ = some (if b ≤ a ∧ a ≤ c then 1 else 0, σ) := by
  rw [in_z, yI_int h1 h2, e1, e2]
theorem yI_l {a : Int} (h1 : -2147483648 ≤ a) (h2 : a < 2147483648) : (yI a).toInt64.toInt = a := by
  rw [Int32.toInt_toInt64, yI_int h1 h2]
/-! cells -/
theorem rI_wI {σ : Sg} {o k o' k' : Nat} {v : Int32} : rI (wI σ o k v) o' k' = if o' = o ∧ k' = k then v else rI σ o' k' := rfl
theorem rI_s {σ : Sg} {o k : Nat} {v : Int32} : rI (wI σ o k v) o k = v := if_pos ⟨rfl, rfl⟩
theorem rI_wJ {σ : Sg} {o k o' k' : Nat} {v : Int64} : rI (wJ σ o k v) o' k' = rI σ o' k' := rfl
theorem rI_wR {σ : Sg} {o k o' k' v : Nat} : rI (wR σ o k v) o' k' = rI σ o' k' := rfl
theorem rI_wC {σ : Sg} {a0 sp a1 dp n o' k' : Nat} : rI (wC σ a0 sp a1 dp n) o' k' = if o' = a1 ∧ dp ≤ k' ∧ k' < dp + n then rI σ a0 (sp + (k' - dp)) else rI σ o' k' := rfl
theorem rJ_wI {σ : Sg} {o k o' k' : Nat} {v : Int32} : rJ (wI σ o k v) o' k' = rJ σ o' k' := rfl
theorem rJ_wJ {σ : Sg} {o k o' k' : Nat} {v : Int64} : rJ (wJ σ o k v) o' k' = if o' = o ∧ k' = k then v else rJ σ o' k' := rfl
theorem rJ_wR {σ : Sg} {o k o' k' v : Nat} : rJ (wR σ o k v) o' k' = rJ σ o' k' := rfl
theorem rJ_wC {σ : Sg} {a0 sp a1 dp n o' k' : Nat} : rJ (wC σ a0 sp a1 dp n) o' k' = rJ σ o' k' := rfl
theorem rR_wI {σ : Sg} {o k o' k' : Nat} {v : Int32} : rR (wI σ o k v) o' k' = rR σ o' k' := rfl
theorem rR_wJ {σ : Sg} {o k o' k' : Nat} {v : Int64} : rR (wJ σ o k v) o' k' = rR σ o' k' := rfl
theorem rR_wR {σ : Sg} {o k o' k' v : Nat} : rR (wR σ o k v) o' k' = if o' = o ∧ k' = k then v else rR σ o' k' := rfl
theorem rR_wC {σ : Sg} {a0 sp a1 dp n o' k' : Nat} : rR (wC σ a0 sp a1 dp n) o' k' = rR σ o' k' := rfl
abbrev Mm : Type := Nat → Nat → Int
def up (m : Mm) (o k : Nat) (x : Int) : Mm := fun a b => if a = o ∧ b = k then x else m a b
theorem up_g {m : Mm} {o k a b : Nat} {x : Int} : up m o k x a b = if a = o ∧ b = k then x else m a b := rfl
theorem up_s {m : Mm} {o k : Nat} {x : Int} : up m o k x o k = x := if_pos ⟨rfl, rfl⟩
theorem up_n {m : Mm} {o k a b : Nat} {x : Int} (h : ¬ (a = o ∧ b = k)) : up m o k x a b = m a b := if_neg h
/-- the part of the memory that outlives a call -/
def core (ns : Nat → Nat → Bool) (σ : Sg) : Mm := fun o k => if ns o k = true then (rI σ o k).toInt else 0
theorem core_g {ns : Nat → Nat → Bool} {σ : Sg} {o k : Nat} (h : ns o k = true) : core ns σ o k = (rI σ o k).toInt := if_pos h
theorem core_r {ns : Nat → Nat → Bool} {σ : Sg} {o k : Nat} (h : ns o k = true) : rI σ o k = yI (core ns σ o k) := by
  rw [core_g h, yI_of]
theorem core_b {ns : Nat → Nat → Bool} (σ : Sg) (o k : Nat) : -2147483648 ≤ core ns σ o k ∧ core ns σ o k < 2147483648 := by
  unfold core
  by_cases h : ns o k = true
  · rw [if_pos h]; exact ⟨Int32.le_toInt _, Int32.toInt_lt _⟩
  · rw [if_neg h]; omega
theorem core_w {ns : Nat → Nat → Bool} {σ : Sg} {o k : Nat} {v : Int32} (h : ns o k = true) : core ns (wI σ o k v) = up (core ns σ) o k v.toInt := by
  funext a b
  unfold core up
  rw [rI_wI]
  by_cases e : a = o ∧ b = k
  · rw [if_pos e, if_pos e, e.1, e.2, if_pos h]
  · rw [if_neg e, if_neg e]
theorem core_wz {ns : Nat → Nat → Bool} {σ : Sg} {o k : Nat} {x : Int} (h : ns o k = true) (h1 : -2147483648 ≤ x) (h2 : x < 2147483648) : core ns (wI σ o k (yI x)) = up (core ns σ) o k x := by
  rw [core_w h, yI_int h1 h2]
theorem core_s {ns : Nat → Nat → Bool} {σ : Sg} {o k : Nat} {v : Int32} (h : ns o k = false) : core ns (wI σ o k v) = core ns σ := by
  funext a b
  unfold core
  rw [rI_wI]
  by_cases e : a = o ∧ b = k
  · rw [e.1, e.2, h, if_neg Bool.false_ne_true, if_neg Bool.false_ne_true]
  · rw [if_neg e]
theorem core_J {ns : Nat → Nat → Bool} {σ : Sg} {o k : Nat} {v : Int64} : core ns (wJ σ o k v) = core ns σ := rfl
theorem core_R {ns : Nat → Nat → Bool} {σ : Sg} {o k v : Nat} : core ns (wR σ o k v) = core ns σ := rfl
theorem core_C {ns : Nat → Nat → Bool} {σ : Sg} {a0 sp a1 dp n : Nat} (h : ∀ k, ns a1 k = false) : core ns (wC σ a0 sp a1 dp n) = core ns σ := by
  funext a b
  unfold core
  rw [rI_wC]
  by_cases e : a = a1 ∧ dp ≤ b ∧ b < dp + n
  · rw [e.1, h, if_neg Bool.false_ne_true, if_neg Bool.false_ne_true]
  · rw [if_neg e]
/-! loops -/
theorem lp_st {S T : Type} {f : S → Option (S ⊕ T)} {n : Nat} {s s' : S} (h : f s = some (.inl s')) : lp f (n + 1) s = lp f n s' := by
  show (match f s with | none => none | some (.inl s') => lp f n s' | some (.inr t) => some t) = _
  rw [h]
theorem lp_en {S T : Type} {f : S → Option (S ⊕ T)} {n : Nat} {s : S} {t : T} (h : f s = some (.inr t)) : lp f (n + 1) s = some t := by
  show (match f s with | none => none | some (.inl s') => lp f n s' | some (.inr t) => some t) = _
  rw [h]
/-- a loop of at most N rounds; each goes on or leaves -/
theorem lp_for {S T : Type} {f : S → Option (S ⊕ T)} (Q : Nat → S → Prop) (N : Nat) (E : T → Prop) (hs : ∀ k s, k < N → Q k s → ∃ o, f s = some o ∧ el (Q (k + 1)) E o) (he : ∀ s, Q N s → ∃ t, f s = some (.inr t) ∧ E t) {n : Nat} {s : S} (h0 : Q 0 s) (hn : N < n) : ∃ t, lp f n s = some t ∧ E t := by
  suffices H : ∀ (j k : Nat) (s : S) (n : Nat), k + j = N → j < n → Q k s → ∃ t, lp f n s = some t ∧ E t from H N 0 s n (Nat.zero_add N) hn h0
  intro j
  induction j with
  | zero =>
    intro k s n hk hn hq
    obtain ⟨t, h1, h2⟩ := he s (by rw [← hk]; exact hq)
    cases n with
    | zero => omega
    | succ n => exact ⟨t, lp_en h1, h2⟩
  | succ j ih =>
    intro k s n hk hn hq
    obtain ⟨o, h1, h2⟩ := hs k s (by omega) hq
    cases n with
    | zero => omega
    | succ n =>
      cases o with
      | inl s' =>
        rw [lp_st h1]
        exact ih (k + 1) s' n (by omega) (by omega) h2
      | inr t => exact ⟨t, lp_en h1, h2⟩
/-- the same, when no round leaves early -/
theorem lp_all {S T : Type} {f : S → Option (S ⊕ T)} (Q : Nat → S → Prop) (N : Nat) (E : T → Prop) (hs : ∀ k s, k < N → Q k s → ∃ s', f s = some (.inl s') ∧ Q (k + 1) s') (he : ∀ s, Q N s → ∃ t, f s = some (.inr t) ∧ E t) {n : Nat} {s : S} (h0 : Q 0 s) (hn : N < n) : ∃ t, lp f n s = some t ∧ E t :=
  lp_for Q N E (fun k s hk hq => let ⟨s', h1, h2⟩ := hs k s hk hq; ⟨.inl s', h1, h2⟩) he h0 hn
theorem bindE {A B : Type} {x : Option A} {f : A → Option B} {P : B → Prop} {Q : A → Prop} (h : ∃ a, x = some a ∧ Q a) (k : ∀ a, Q a → ∃ b, f a = some b ∧ P b) : ∃ b, Option.bind x f = some b ∧ P b := by
  obtain ⟨a, rfl, q⟩ := h
  exact k a q
theorem FU_b {n : Nat} (h : n < 1000000) : n < FU := h
