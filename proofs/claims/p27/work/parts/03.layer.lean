/-! ===== the layer: the state of a world as numbers ===== -/
/-- ints, longs and moving references of a world, by cell and place -/
abbrev Sg : Type := (Nat → Nat → Int32) × (Nat → Nat → Int64) × (Nat → Nat → Nat)
def rI (σ : Sg) (o k : Nat) : Int32 := σ.1 o k
def rJ (σ : Sg) (o k : Nat) : Int64 := σ.2.1 o k
def rR (σ : Sg) (o k : Nat) : Nat := σ.2.2 o k
def wI (σ : Sg) (o k : Nat) (v : Int32) : Sg := (fun a b => if a = o ∧ b = k then v else σ.1 a b, σ.2)
def wJ (σ : Sg) (o k : Nat) (v : Int64) : Sg := (σ.1, fun a b => if a = o ∧ b = k then v else σ.2.1 a b, σ.2.2)
def wR (σ : Sg) (o k : Nat) (v : Nat) : Sg := (σ.1, σ.2.1, fun a b => if a = o ∧ b = k then v else σ.2.2 a b)
/-- a stretch of one row of ints copied into another -/
def wC (σ : Sg) (a0 sp a1 dp n : Nat) : Sg := (fun a b => if a = a1 ∧ dp ≤ b ∧ b < dp + n then σ.1 a0 (sp + (b - dp)) else σ.1 a b, σ.2)
/-- a shape: (0, class, slots) an object, a slot (0,_) an int, (1,_) a long, (2,d) the cell d further on, (3,_) a moving reference, (4,_) null; (1,n,_) ints, (2,n,_) longs, (3,n,_) booleans, (4,n,[(b,m)]) objects, (5,n,[(b,m)]) rows, from the b-th cell behind on, m of them -/
abbrev Sh : Type := Nat × Nat × List (Nat × Nat)
def slotV (ad : Nat → Nat) (σ : Sg) (i k : Nat) (s : Nat × Nat) : Value := match s.1 with
  | 0 => .int (rI σ i k)
  | 1 => .long (rJ σ i k)
  | 2 => .ref (ad (i + s.2))
  | 3 => .ref (ad (rR σ i k))
  | _ => .null
def slv (ad : Nat → Nat) (σ : Sg) (i : Nat) : Nat → List (Nat × Nat) → List Value
  | _, [] => []
  | k, s :: t => slotV ad σ i k s :: slv ad σ i (k + 1) t
def rowB (sh : Sh) : Nat := (sh.2.2.headD (0, 0)).1
def rowM (sh : Sh) : Nat := (sh.2.2.headD (0, 0)).2
def ent (cys : Nat → ClassId) (ad : Nat → Nat) (σ : Sg) (i : Nat) (sh : Sh) : va_E := match sh.1 with
  | 0 => .inr (sh.2.1, slv ad σ i 0 sh.2.2)
  | 1 => .inl (cys 0, sh.2.1, .inl (rI σ i))
  | 2 => .inl (cys 1, sh.2.1, .inr (.inl (rJ σ i)))
  | 3 => .inl (cys 2, sh.2.1, .inl (rI σ i))
  | 4 => .inl (cys 3, sh.2.1, .inr (.inr (.inr (.inr (fun j => if j < rowM sh then some (ad (i + rowB sh + j)) else none)))))
  | _ => .inl (cys 4, sh.2.1, .inr (.inr (.inr (.inr (fun j => if j < rowM sh then some (ad (i + rowB sh + j)) else none)))))
def wd (cys : Nat → ClassId) (ad : Nat → Nat) (σ : Sg) : Nat → List Sh → va_W
  | _, [] => []
  | i, sh :: t => (ad i, ent cys ad σ i sh) :: wd cys ad σ (i + 1) t
abbrev tysOf (cys : Nat → ClassId) : List (ClassId × FieldType) := [(cys 0, .int), (cys 1, .long), (cys 2, .boolean), (cys 3, .object RX0), (cys 4, .array .int)]
theorem slv_get {ad : Nat → Nat} {σ : Sg} {i : Nat} : ∀ (l : List (Nat × Nat)) (k0 j : Nat), (slv ad σ i k0 l)[j]? = (l[j]?).map (slotV ad σ i (k0 + j))
  | [], k0, j => by simp [slv]
  | s :: t, k0, 0 => by simp [slv]
  | s :: t, k0, j + 1 => by
    simp only [slv, List.getElem?_cons_succ]
    rw [slv_get t (k0 + 1) j, show k0 + 1 + j = k0 + (j + 1) by omega]
theorem slv_len {ad : Nat → Nat} {σ : Sg} {i : Nat} : ∀ (l : List (Nat × Nat)) (k0 : Nat), (slv ad σ i k0 l).length = l.length
  | [], _ => rfl
  | s :: t, k0 => by simp only [slv, List.length_cons]; rw [slv_len t (k0 + 1)]
theorem slv_eq {ad : Nat → Nat} {σ σ' : Sg} {i : Nat} : ∀ (l : List (Nat × Nat)) (k0 : Nat), (∀ q t, k0 ≤ q → slotV ad σ' i q t = slotV ad σ i q t) → slv ad σ' i k0 l = slv ad σ i k0 l
  | [], _, _ => rfl
  | s :: t, k0, h => by
    simp only [slv]
    rw [h k0 s (Nat.le_refl _), slv_eq t (k0 + 1) (fun q t hq => h q t (by omega))]
theorem slv_set {ad : Nat → Nat} {σ σ' : Sg} {i : Nat} {v : Value} : ∀ (l : List (Nat × Nat)) (k0 j : Nat) (s : Nat × Nat), l[j]? = some s → (∀ q t, q ≠ k0 + j → slotV ad σ' i q t = slotV ad σ i q t) → slotV ad σ' i (k0 + j) s = v → (slv ad σ i k0 l).set j v = slv ad σ' i k0 l
  | [], _, _, _, h, _, _ => by simp at h
  | s0 :: t, k0, 0, s, h, hq, hv => by
    rw [List.getElem?_cons_zero] at h
    cases h
    simp only [slv, List.set_cons_zero]
    rw [← hv, Nat.add_zero, slv_eq t (k0 + 1) (fun q u hu => hq q u (by omega))]
  | s0 :: t, k0, j + 1, s, h, hq, hv => by
    rw [List.getElem?_cons_succ] at h
    simp only [slv, List.set_cons_succ]
    rw [hq k0 s0 (by omega), slv_set t (k0 + 1) j s h (fun q u hu => hq q u (by omega)) (by rw [show k0 + 1 + j = k0 + (j + 1) by omega]; exact hv)]
theorem wd_get {cys : Nat → ClassId} {ad : Nat → Nat} {σ : Sg} : ∀ (Y : List Sh) (i0 j : Nat), (wd cys ad σ i0 Y)[j]? = (Y[j]?).map (fun sh => (ad (i0 + j), ent cys ad σ (i0 + j) sh))
  | [], i0, j => by simp [wd]
  | s :: t, i0, 0 => by simp [wd]
  | s :: t, i0, j + 1 => by
    simp only [wd, List.getElem?_cons_succ]
    rw [wd_get t (i0 + 1) j, show i0 + 1 + j = i0 + (j + 1) by omega]
theorem wd_at {cys : Nat → ClassId} {ad : Nat → Nat} {σ : Sg} {Y : List Sh} {o : Nat} {sh : Sh} (h : Y[o]? = some sh) : (wd cys ad σ 0 Y)[o]? = some (ad o, ent cys ad σ o sh) := by
  rw [wd_get, h, Nat.zero_add]
  rfl
theorem wd_eq {cys : Nat → ClassId} {ad : Nat → Nat} {σ σ' : Sg} : ∀ (Y : List Sh) (i0 : Nat), (∀ q sh, i0 ≤ q → ent cys ad σ' q sh = ent cys ad σ q sh) → wd cys ad σ' i0 Y = wd cys ad σ i0 Y
  | [], _, _ => rfl
  | s :: t, i0, h => by
    simp only [wd]
    rw [h i0 s (Nat.le_refl _), wd_eq t (i0 + 1) (fun q t hq => h q t (by omega))]
theorem wd_set {cys : Nat → ClassId} {ad : Nat → Nat} {σ σ' : Sg} {e : va_E} : ∀ (Y : List Sh) (i0 j : Nat) (sh : Sh), Y[j]? = some sh → (∀ q t, q ≠ i0 + j → ent cys ad σ' q t = ent cys ad σ q t) → ent cys ad σ' (i0 + j) sh = e → (wd cys ad σ i0 Y).set j (ad (i0 + j), e) = wd cys ad σ' i0 Y
  | [], _, _, _, h, _, _ => by simp at h
  | s0 :: t, i0, 0, s, h, hq, hv => by
    rw [List.getElem?_cons_zero] at h
    cases h
    simp only [wd, List.set_cons_zero]
    rw [← hv, Nat.add_zero, wd_eq t (i0 + 1) (fun q u hu => hq q u (by omega))]
  | s0 :: t, i0, j + 1, s, h, hq, hv => by
    rw [List.getElem?_cons_succ] at h
    simp only [wd, List.set_cons_succ]
    rw [hq i0 s0 (by omega), show i0 + (j + 1) = i0 + 1 + j by omega, wd_set t (i0 + 1) j s h (fun q u hu => hq q u (by omega)) (by rw [show i0 + 1 + j = i0 + (j + 1) by omega]; exact hv)]
theorem wd_len {cys : Nat → ClassId} {ad : Nat → Nat} {σ : Sg} : ∀ (Y : List Sh) (i0 : Nat), (wd cys ad σ i0 Y).length = Y.length
  | [], _ => rfl
  | s :: t, i0 => by simp only [wd, List.length_cons]; rw [wd_len t (i0 + 1)]
/-- the addresses apart, and of a kind -/
theorem wd_D {cys : Nat → ClassId} {ad : Nat → Nat} {σ : Sg} {Y : List Sh} {A : Nat → Prop} (hi : ∀ i j, i < Y.length → j < Y.length → ad i = ad j → i = j) (hA : ∀ i, i < Y.length → A (ad i)) : va_D A (wd cys ad σ 0 Y) := by
  have key : ∀ (k : Nat) (q : Nat × va_E), (wd cys ad σ 0 Y)[k]? = some q → k < Y.length ∧ q.1 = ad k := by
    intro k q hk
    have hl : k < (wd cys ad σ 0 Y).length := (List.getElem?_eq_some_iff.mp hk).1
    rw [wd_len] at hl
    rw [wd_at (List.getElem?_eq_getElem hl)] at hk
    cases hk
    exact ⟨hl, rfl⟩
  refine ⟨fun i j p q h1 h2 h3 => ?_, fun k q h => ?_⟩
  · obtain ⟨a1, a2⟩ := key i p h1
    obtain ⟨b1, b2⟩ := key j q h2
    exact hi i j a1 b1 (by rw [← a2, ← b2]; exact h3)
  · obtain ⟨a1, a2⟩ := key k q h
    rw [a2]
    exact hA k a1
theorem ent_wI {cys : Nat → ClassId} {ad : Nat → Nat} {σ : Sg} {o k : Nat} {v : Int32} (q : Nat) (sh : Sh) (h : q ≠ o) : ent cys ad (wI σ o k v) q sh = ent cys ad σ q sh := by
  have e1 : rI (wI σ o k v) q = rI σ q := by funext j; simp [rI, wI, h]
  have e2 : rJ (wI σ o k v) q = rJ σ q := rfl
  have e3 : ∀ k0, slv ad (wI σ o k v) q k0 sh.2.2 = slv ad σ q k0 sh.2.2 := fun k0 => slv_eq _ _ (fun j t _ => by
    unfold slotV
    split
    · rw [e1]
    · rfl
    · rfl
    · rfl
    · rfl)
  unfold ent
  split
  · rw [e3]
  · rw [e1]
  · rw [e2]
  · rw [e1]
  · rfl
  · rfl
theorem ent_wJ {cys : Nat → ClassId} {ad : Nat → Nat} {σ : Sg} {o k : Nat} {v : Int64} (q : Nat) (sh : Sh) (h : q ≠ o) : ent cys ad (wJ σ o k v) q sh = ent cys ad σ q sh := by
  have e1 : rI (wJ σ o k v) q = rI σ q := rfl
  have e2 : rJ (wJ σ o k v) q = rJ σ q := by funext j; simp [rJ, wJ, h]
  have e3 : ∀ k0, slv ad (wJ σ o k v) q k0 sh.2.2 = slv ad σ q k0 sh.2.2 := fun k0 => slv_eq _ _ (fun j t _ => by
    unfold slotV
    split
    · rfl
    · rw [e2]
    · rfl
    · rfl
    · rfl)
  unfold ent
  split
  · rw [e3]
  · rfl
  · rw [e2]
  · rfl
  · rfl
  · rfl
theorem ent_wR {cys : Nat → ClassId} {ad : Nat → Nat} {σ : Sg} {o k v : Nat} (q : Nat) (sh : Sh) (h : q ≠ o) : ent cys ad (wR σ o k v) q sh = ent cys ad σ q sh := by
  have e1 : rI (wR σ o k v) q = rI σ q := rfl
  have e2 : rJ (wR σ o k v) q = rJ σ q := rfl
  have e3 : ∀ k0, slv ad (wR σ o k v) q k0 sh.2.2 = slv ad σ q k0 sh.2.2 := fun k0 => slv_eq _ _ (fun j t _ => by
    unfold slotV
    split
    · rfl
    · rfl
    · rfl
    · have e4 : rR (wR σ o k v) q j = rR σ q j := by simp [rR, wR, h]
      rw [e4]
    · rfl)
  unfold ent
  split
  · rw [e3]
  · rfl
  · rfl
  · rfl
  · rfl
  · rfl
theorem ent_wC {cys : Nat → ClassId} {ad : Nat → Nat} {σ : Sg} {a0 sp a1 dp n : Nat} (q : Nat) (sh : Sh) (h : q ≠ a1) : ent cys ad (wC σ a0 sp a1 dp n) q sh = ent cys ad σ q sh := by
  have e1 : rI (wC σ a0 sp a1 dp n) q = rI σ q := by funext j; simp [rI, wC, h]
  have e2 : rJ (wC σ a0 sp a1 dp n) q = rJ σ q := rfl
  have e3 : ∀ k0, slv ad (wC σ a0 sp a1 dp n) q k0 sh.2.2 = slv ad σ q k0 sh.2.2 := fun k0 => slv_eq _ _ (fun j t _ => by
    unfold slotV
    split
    · rw [e1]
    · rfl
    · rfl
    · rfl
    · rfl)
  unfold ent
  split
  · rw [e3]
  · rw [e1]
  · rw [e2]
  · rw [e1]
  · rfl
  · rfl

/-! ===== a method's point: context, program counter, locals, stack, what holds of the heap ===== -/
abbrev KT : Type := Program × Launch × Env × Room × State × MethodId × Array Value × List Frame × Method × Code × va_G × (Nat → ClassId) × (Nat → Nat) × (Nat → Prop) × (State → Prop)
abbrev kp (K : KT) : Program := K.1
abbrev kl (K : KT) : Launch := K.2.1
abbrev ke (K : KT) : Env := K.2.2.1
abbrev kR (K : KT) : Room := K.2.2.2.1
abbrev ks (K : KT) : State := K.2.2.2.2.1
abbrev km (K : KT) : MethodId := K.2.2.2.2.2.1
abbrev ka (K : KT) : Array Value := K.2.2.2.2.2.2.1
abbrev kb (K : KT) : List Frame := K.2.2.2.2.2.2.2.1
abbrev kmeth (K : KT) : Method := K.2.2.2.2.2.2.2.2.1
abbrev kc (K : KT) : Code := K.2.2.2.2.2.2.2.2.2.1
abbrev kD (K : KT) : va_G := K.2.2.2.2.2.2.2.2.2.2.1
abbrev kcy (K : KT) : Nat → ClassId := K.2.2.2.2.2.2.2.2.2.2.2.1
def kad (K : KT) : Nat → Nat := K.2.2.2.2.2.2.2.2.2.2.2.2.1
abbrev kA (K : KT) : Nat → Prop := K.2.2.2.2.2.2.2.2.2.2.2.2.2.1
abbrev kQ (K : KT) : State → Prop := K.2.2.2.2.2.2.2.2.2.2.2.2.2.2
abbrev Wk (K : KT) (H : Heap) (locs : List Loc) (g : JFrame) : Prop := W (kp K) (kl K) (ke K) (kR K) (ks K) (km K) (ka K) (kb K) (kmeth K) (kc K) H locs 0 0 (kQ K) g
def LX (ls : Array Slot) (L : List (Option Value)) : Prop := ls.size = L.length ∧ lv_wf ls ∧ ∀ (i : Nat) (v : Value), L[i]? = some (some v) → ls[i]? = some (Slot.val v)
def G (K : KT) (pc : Nat) (L : List (Option Value)) (st : List Value) (P : Heap → List Loc → Prop) : Prop :=
  ∀ (H : Heap) (locs : List Loc) (ls : Array Slot), P H locs → LX ls L → Wk K H locs (F0 (km K) pc ls st)
def Cb (K : KT) (cc : ByteArray) (own : String) (nL d : Nat) : Prop :=
  (kp K).tables.exec = Jvm.exec ∧ (kc K).code = cc ∧ (kc K).maxLocals = nL ∧ (ks K).vm.findClass own = some (km K).cls ∧ (∀ w ∈ AL, w.before (ka K) (ks K) = true) ∧ (kmeth K).locks = false ∧ d ≤ (kR K).frames ∧ 40 * d ≤ (kR K).locals
theorem Cb.fix {K : KT} {cc : ByteArray} {own : String} {nL d : Nat} (C : Cb K cc own nL d) : CallFix (kp K) (km K) (kc K) cc nL (ks K) (ka K) AL own := ⟨C.1, C.2.1, C.2.2.1, C.2.2.2.1, C.2.2.2.2.1⟩
theorem Cb.x {K : KT} {cc : ByteArray} {own : String} {nL d : Nat} (C : Cb K cc own nL d) : (kp K).tables.exec = Jvm.exec := C.1
theorem Cb.b {K : KT} {cc : ByteArray} {own : String} {nL d : Nat} (C : Cb K cc own nL d) : (kc K).code = cc := C.2.1
theorem Cb.o {K : KT} {cc : ByteArray} {own : String} {nL d : Nat} (C : Cb K cc own nL d) : (ks K).vm.findClass own = some (km K).cls := C.2.2.2.1
theorem Cb.t {K : KT} {cc : ByteArray} {own : String} {nL d : Nat} (C : Cb K cc own nL d) {w : Cond} (h : w ∈ AL) : w.before (ka K) (ks K) = true := C.2.2.2.2.1 w h
/-! the locals -/
def prs (L : List (Option Value)) : List (Nat × Value) := (List.range L.length).filterMap (fun i => (L[i]?.join).map (fun v => (i, v)))
theorem prs_iff {L : List (Option Value)} {q : Nat × Value} : q ∈ prs L ↔ L[q.1]? = some (some q.2) := by
  unfold prs
  rw [List.mem_filterMap]
  constructor
  · rintro ⟨i, -, h⟩
    obtain ⟨v, h1, h2⟩ := Option.map_eq_some_iff.mp h
    subst h2
    exact Option.join_eq_some_iff.mp h1
  · intro h
    refine ⟨q.1, List.mem_range.mpr ((List.getElem?_eq_some_iff.mp h).1), ?_⟩
    rw [h]
    rfl
theorem LX.has {ls : Array Slot} {L : List (Option Value)} (h : LX ls L) : lv_has ls L.length (prs L) := ⟨h.1, h.2.1, fun q hq => h.2.2 q.1 q.2 (prs_iff.mp hq)⟩
def c2 : Option (Option Value) → Bool
  | some (some (.long _)) => true
  | some (some (.double _)) => true
  | _ => false
/-- a store ends a long whose second half it takes -/
def clr (L : List (Option Value)) : Nat → List (Option Value)
  | 0 => L
  | j + 1 => if c2 L[j]? = true then L.set j none else L
def st1 (L : List (Option Value)) (i : Nat) (v : Value) : List (Option Value) := (clr L i).set i (some v)
def st2 (L : List (Option Value)) (i : Nat) (v : Value) : List (Option Value) := ((clr L i).set i (some v)).set (i + 1) none
theorem clr_len (L : List (Option Value)) (i : Nat) : (clr L i).length = L.length := by
  cases i with
  | zero => rfl
  | succ j => simp only [clr]; split <;> simp
theorem clr_get {L : List (Option Value)} {i j : Nat} {v : Value} (h : (clr L i)[j]? = some (some v)) : L[j]? = some (some v) ∧ ¬ (j + 1 = i ∧ v.category = 2) := by
  cases i with
  | zero => exact ⟨h, fun q => by omega⟩
  | succ q =>
    simp only [clr] at h
    split at h
    next hc =>
      rw [List.getElem?_set] at h
      split at h
      next => split at h <;> cases h
      next hne => exact ⟨h, fun z => hne (by omega)⟩
    next hc =>
      refine ⟨h, fun z => hc ?_⟩
      have hj : j = q := by omega
      subst hj
      rw [h]
      cases v <;> first | rfl | (exfalso; have := z.2; simp [Value.category] at this)
theorem LX.s1 {ls' : Array Slot} {L : List (Option Value)} {i : Nat} {v : Value} (hi : i < L.length) (h : lv_has ls' L.length ((i, v) :: (prs L).filter (fun q => !(q.1 == i) && !(q.1 + 1 == i && q.2.category == 2)))) : LX ls' (st1 L i v) := by
  refine ⟨by rw [h.1]; simp [st1, clr_len], h.2.1, fun j u hj => ?_⟩
  unfold st1 at hj
  rw [List.getElem?_set] at hj
  split at hj
  next e =>
    subst e
    rw [clr_len, if_pos hi] at hj
    cases hj
    exact h.2.2 (i, v) List.mem_cons_self
  next e =>
    obtain ⟨h1, h2⟩ := clr_get hj
    refine h.2.2 (j, u) (List.mem_cons_of_mem _ (List.mem_filter.mpr ⟨prs_iff.mpr h1, ?_⟩))
    have e' : j ≠ i := fun z => e z.symm
    by_cases z : j + 1 = i
    · have : ¬ u.category = 2 := fun y => h2 ⟨z, y⟩
      simp [e', this]
    · simp [e', z]
theorem LX.s2 {ls' : Array Slot} {L : List (Option Value)} {i : Nat} {v : Value} (hi : i + 1 < L.length) (h : lv_has ls' L.length ((i, v) :: (prs L).filter (fun q => !(q.1 == i) && (!(q.1 == i + 1) && !(q.1 + 1 == i && q.2.category == 2))))) : LX ls' (st2 L i v) := by
  refine ⟨by rw [h.1]; simp [st2, clr_len], h.2.1, fun j u hj => ?_⟩
  unfold st2 at hj
  rw [List.getElem?_set] at hj
  split at hj
  next e => split at hj <;> cases hj
  next e0 =>
    rw [List.getElem?_set] at hj
    split at hj
    next e =>
      subst e
      rw [clr_len, if_pos (by omega)] at hj
      cases hj
      exact h.2.2 (i, v) List.mem_cons_self
    next e =>
      obtain ⟨h1, h2⟩ := clr_get hj
      refine h.2.2 (j, u) (List.mem_cons_of_mem _ (List.mem_filter.mpr ⟨prs_iff.mpr h1, ?_⟩))
      have e' : j ≠ i := fun z => e z.symm
      have e0' : j ≠ i + 1 := fun z => e0 z.symm
      by_cases z : j + 1 = i
      · have : ¬ u.category = 2 := fun y => h2 ⟨z, y⟩
        simp [e', e0', this]
      · simp [e', e0', z]
/-- fewer locals are known -/
def ksel : List Bool → List (Option Value) → List (Option Value)
  | b :: bs, x :: xs => (if b = true then x else none) :: ksel bs xs
  | _, xs => xs
theorem ksel_len : ∀ (bs : List Bool) (L : List (Option Value)), (ksel bs L).length = L.length
  | [], L => by cases L <;> rfl
  | b :: bs, [] => rfl
  | b :: bs, x :: xs => by simp only [ksel, List.length_cons]; rw [ksel_len bs xs]
theorem ksel_get : ∀ (bs : List Bool) (L : List (Option Value)) (i : Nat) (v : Value), (ksel bs L)[i]? = some (some v) → L[i]? = some (some v)
  | [], L, i, v, h => by cases L <;> exact h
  | b :: bs, [], i, v, h => h
  | b :: bs, x :: xs, 0, v, h => by
    simp only [ksel, List.getElem?_cons_zero] at h ⊢
    split at h
    · exact h
    · cases h
  | b :: bs, x :: xs, i + 1, v, h => by
    simp only [ksel, List.getElem?_cons_succ] at h ⊢
    exact ksel_get bs xs i v h
theorem g_mask {K : KT} {pc : Nat} {L L' : List (Option Value)} {st : List Value} {P : Heap → List Loc → Prop} (bs : List Bool) (h : ksel bs L = L') (k : G K pc L' st P) : G K pc L st P := by
  intro H locs ls hP hL
  subst h
  exact k H locs ls hP ⟨by rw [hL.1, ksel_len], hL.2.1, fun i v hi => hL.2.2 i v (ksel_get bs L i v hi)⟩
theorem ite_t {c : Prop} {i : Decidable c} {α : Type} {a b o : α} (hc : c) (h : (@ite α c i a b) = o) : a = o := by rw [if_pos hc] at h; exact h
theorem ite_f {c : Prop} {i : Decidable c} {α : Type} {a b o : α} (hc : ¬ c) (h : (@ite α c i a b) = o) : b = o := by rw [if_neg hc] at h; exact h
/-- a place is in its row -/
def inb (i : Int32) (n : Nat) : Bool := decide (¬ i < 0) && decide (i.toNatClampNeg < n)
theorem inb_in {i : Int32} {n : Nat} (h : inb i n = true) : vp_in i n := by
  unfold inb at h
  rw [Bool.and_eq_true, decide_eq_true_eq, decide_eq_true_eq] at h
  exact fun q => q.elim h.1 (fun z => absurd h.2 (by omega))
theorem inb_lt {i : Int32} {n : Nat} (h : inb i n = true) : i.toNatClampNeg < n := by
  unfold inb at h
  rw [Bool.and_eq_true, decide_eq_true_eq, decide_eq_true_eq] at h
  exact h.2
/-- 0 or 1 -/
def isB (v : Int32) : Bool := decide (v = 0) || decide (v = 1)
theorem isB_n {v : Int32} (h : isB v = true) : narrow .boolean (.int v) = .int v := by
  unfold isB at h
  rw [Bool.or_eq_true, decide_eq_true_eq, decide_eq_true_eq] at h
  rcases h with rfl | rfl <;> rfl
theorem isB_f {v : Int32} (h : isB v = true) : fits .boolean (.int v) = true := by
  unfold isB at h
  rw [Bool.or_eq_true, decide_eq_true_eq, decide_eq_true_eq] at h
  rcases h with rfl | rfl <;> rfl
theorem chk {b : Bool} {α : Type} {x : Option α} {o : α} (h : (if b = true then x else none) = some o) : b = true ∧ x = some o := by
  by_cases c : b = true
  · rw [if_pos c] at h; exact ⟨c, h⟩
  · rw [if_neg c] at h; cases h
/-- the shape of a cell is as told -/
def isSh (Y : List Sh) (o : Nat) (sh : Sh) : Bool := decide (Y[o]? = some sh)
theorem isSh_e {Y : List Sh} {o : Nat} {sh : Sh} (h : isSh Y o sh = true) : Y[o]? = some sh := of_decide_eq_true h
/-- a loop of at most so many rounds -/
def lp {S T : Type} (f : S → Option (S ⊕ T)) : Nat → S → Option T
  | 0, _ => none
  | n + 1, s => match f s with
    | none => none
    | some (.inl s') => lp f n s'
    | some (.inr t) => some t
def FU : Nat := 1000000
theorem lp_ind {S T : Type} {f : S → Option (S ⊕ T)} {Gh : S → Prop} {KK : T → Prop} (hb : ∀ s o, f s = some o → (∀ s', o = .inl s' → Gh s') → (∀ t, o = .inr t → KK t) → Gh s) : ∀ (n : Nat) (s : S) (t : T), lp f n s = some t → KK t → Gh s
  | 0, s, t, h, _ => by cases h
  | n + 1, s, t, h, hk => by
    unfold lp at h
    cases hf : f s with
    | none => rw [hf] at h; cases h
    | some o =>
      rw [hf] at h
      cases o with
      | inl s' => exact hb s _ hf (fun s2 e => by cases e; exact lp_ind hb n s' t h hk) (fun t2 e => by cases e)
      | inr t' => exact hb s _ hf (fun s2 e => by cases e) (fun t2 e => by cases e; cases h; exact hk)

section GI
variable {K : KT} {cc : ByteArray} {own : String} {nL d pc : Nat} {L : List (Option Value)} {st : List Value} {P : Heap → List Loc → Prop}
theorem g_iconst (C : Cb K cc own nL d) {n : Int} {v : Int32} (hd : decode cc pc = .ok (.iconst n, 1)) (hv : Int32.ofInt n = v)
    (k : G K (pc + 1) L (.int v :: st) P) : G K pc L st P := fun H locs ls hP hL => lv_iconst C.x C.b hd hv (k H locs ls hP hL)
theorem g_bipush (C : Cb K cc own nL d) {n : Int} {v : Int32} (hd : decode cc pc = .ok (.bipush n, 2)) (hv : (Int8.ofInt n).toInt32 = v)
    (k : G K (pc + 2) L (.int v :: st) P) : G K pc L st P := fun H locs ls hP hL => lv_bipush C.x C.b hd hv (k H locs ls hP hL)
theorem g_sipush (C : Cb K cc own nL d) {n : Int} {v : Int32} (hd : decode cc pc = .ok (.sipush n, 3)) (hv : (Int16.ofInt n).toInt32 = v)
    (k : G K (pc + 3) L (.int v :: st) P) : G K pc L st P := fun H locs ls hP hL => lv_sipush C.x C.b hd hv (k H locs ls hP hL)
theorem g_lconst (C : Cb K cc own nL d) {n : Fin 2} {v : Int64} (hd : decode cc pc = .ok (.lconst n, 1)) (hv : Int64.ofNat (n : Nat) = v)
    (k : G K (pc + 1) L (.long v :: st) P) : G K pc L st P := fun H locs ls hP hL => lv_lconst C.x C.b hd hv (k H locs ls hP hL)
theorem g_iload_n (C : Cb K cc own nL d) {n : Fin 4} {i : Nat} {x : Int32} (hd : decode cc pc = .ok (.iload_n n, 1)) (hi : (n : Nat) = i) (hl : L[i]? = some (some (.int x)))
    (k : G K (pc + 1) L (.int x :: st) P) : G K pc L st P := fun H locs ls hP hL => lv_iload_n C.x C.b hd hi (hL.2.2 _ _ hl) (k H locs ls hP hL)
theorem g_iload (C : Cb K cc own nL d) {i : Nat} {x : Int32} (hd : decode cc pc = .ok (.iload i, 2)) (hl : L[i]? = some (some (.int x)))
    (k : G K (pc + 2) L (.int x :: st) P) : G K pc L st P := fun H locs ls hP hL => lv_iload C.x C.b hd (hL.2.2 _ _ hl) (k H locs ls hP hL)
theorem g_istore_n (C : Cb K cc own nL d) {n : Fin 4} {i : Nat} {x : Int32} {L' : List (Option Value)} (hd : decode cc pc = .ok (.istore_n n, 1)) (hi : (n : Nat) = i) (hn : i < L.length) (hL' : st1 L i (.int x) = L')
    (k : G K (pc + 1) L' st P) : G K pc L (.int x :: st) P := fun H locs ls hP hL => lv_istore_n C.x C.b hd hi hL.has hn rfl (fun ls' h' => k H locs ls' hP (hL' ▸ LX.s1 hn h'))
theorem g_istore (C : Cb K cc own nL d) {i : Nat} {x : Int32} {L' : List (Option Value)} (hd : decode cc pc = .ok (.istore i, 2)) (hn : i < L.length) (hL' : st1 L i (.int x) = L')
    (k : G K (pc + 2) L' st P) : G K pc L (.int x :: st) P := fun H locs ls hP hL => lv_istore C.x C.b hd hL.has hn rfl (fun ls' h' => k H locs ls' hP (hL' ▸ LX.s1 hn h'))
theorem g_lload_n (C : Cb K cc own nL d) {n : Fin 4} {i : Nat} {x : Int64} (hd : decode cc pc = .ok (.lload_n n, 1)) (hi : (n : Nat) = i) (hl : L[i]? = some (some (.long x)))
    (k : G K (pc + 1) L (.long x :: st) P) : G K pc L st P := fun H locs ls hP hL => lv_lload_n C.x C.b hd hi (hL.2.2 _ _ hl) (k H locs ls hP hL)
theorem g_lload (C : Cb K cc own nL d) {i : Nat} {x : Int64} (hd : decode cc pc = .ok (.lload i, 2)) (hl : L[i]? = some (some (.long x)))
    (k : G K (pc + 2) L (.long x :: st) P) : G K pc L st P := fun H locs ls hP hL => lv_lload C.x C.b hd (hL.2.2 _ _ hl) (k H locs ls hP hL)
theorem g_lstore_n (C : Cb K cc own nL d) {n : Fin 4} {i : Nat} {x : Int64} {L' : List (Option Value)} (hd : decode cc pc = .ok (.lstore_n n, 1)) (hi : (n : Nat) = i) (hn : i + 1 < L.length) (hL' : st2 L i (.long x) = L')
    (k : G K (pc + 1) L' st P) : G K pc L (.long x :: st) P := fun H locs ls hP hL => lv_lstore_n C.x C.b hd hi hL.has hn rfl (fun ls' h' => k H locs ls' hP (hL' ▸ LX.s2 hn h'))
theorem g_lstore (C : Cb K cc own nL d) {i : Nat} {x : Int64} {L' : List (Option Value)} (hd : decode cc pc = .ok (.lstore i, 2)) (hn : i + 1 < L.length) (hL' : st2 L i (.long x) = L')
    (k : G K (pc + 2) L' st P) : G K pc L (.long x :: st) P := fun H locs ls hP hL => lv_lstore C.x C.b hd hL.has hn rfl (fun ls' h' => k H locs ls' hP (hL' ▸ LX.s2 hn h'))
theorem g_aload_n (C : Cb K cc own nL d) {n : Fin 4} {i : Nat} {x : Nat} (hd : decode cc pc = .ok (.aload_n n, 1)) (hi : (n : Nat) = i) (hl : L[i]? = some (some (.ref x)))
    (k : G K (pc + 1) L (.ref x :: st) P) : G K pc L st P := fun H locs ls hP hL => lv_aload_n C.x C.b hd hi (hL.2.2 _ _ hl) (k H locs ls hP hL)
theorem g_aload (C : Cb K cc own nL d) {i : Nat} {x : Nat} (hd : decode cc pc = .ok (.aload i, 2)) (hl : L[i]? = some (some (.ref x)))
    (k : G K (pc + 2) L (.ref x :: st) P) : G K pc L st P := fun H locs ls hP hL => lv_aload C.x C.b hd (hL.2.2 _ _ hl) (k H locs ls hP hL)
theorem g_astore_n (C : Cb K cc own nL d) {n : Fin 4} {i : Nat} {x : Nat} {L' : List (Option Value)} (hd : decode cc pc = .ok (.astore_n n, 1)) (hi : (n : Nat) = i) (hn : i < L.length) (hL' : st1 L i (.ref x) = L')
    (k : G K (pc + 1) L' st P) : G K pc L (.ref x :: st) P := fun H locs ls hP hL => lv_astore_n C.x C.b hd hi hL.has hn rfl (fun ls' h' => k H locs ls' hP (hL' ▸ LX.s1 hn h'))
theorem g_astore (C : Cb K cc own nL d) {i : Nat} {x : Nat} {L' : List (Option Value)} (hd : decode cc pc = .ok (.astore i, 2)) (hn : i < L.length) (hL' : st1 L i (.ref x) = L')
    (k : G K (pc + 2) L' st P) : G K pc L (.ref x :: st) P := fun H locs ls hP hL => lv_astore C.x C.b hd hL.has hn rfl (fun ls' h' => k H locs ls' hP (hL' ▸ LX.s1 hn h'))
theorem g_iinc (C : Cb K cc own nL d) {i : Nat} {n : Int} {x y : Int32} {L' : List (Option Value)} (hd : decode cc pc = .ok (.iinc i n, 3)) (hl : L[i]? = some (some (.int x))) (hy : Int32.ofInt n = y) (hn : i < L.length) (hL' : st1 L i (.int (x + y)) = L')
    (k : G K (pc + 3) L' st P) : G K pc L st P := fun H locs ls hP hL => by
  obtain ⟨j, hj⟩ := List.getElem?_of_mem ((prs_iff (q := (i, .int x))).mpr hl)
  exact lv_iinc C.x C.b hd hL.has hj (by rw [hy]) hn rfl (fun ls' h' => k H locs ls' hP (hL' ▸ LX.s1 hn h'))
theorem g_iadd (C : Cb K cc own nL d) {x y : Int32} (hd : decode cc pc = .ok (.iadd, 1))
    (k : G K (pc + 1) L (.int (x + y) :: st) P) : G K pc L (.int y :: .int x :: st) P := fun H locs ls hP hL => lv_iadd C.x C.b hd (k H locs ls hP hL)
theorem g_isub (C : Cb K cc own nL d) {x y : Int32} (hd : decode cc pc = .ok (.isub, 1))
    (k : G K (pc + 1) L (.int (x - y) :: st) P) : G K pc L (.int y :: .int x :: st) P := fun H locs ls hP hL => lv_isub C.x C.b hd (k H locs ls hP hL)
theorem g_imul (C : Cb K cc own nL d) {x y : Int32} (hd : decode cc pc = .ok (.imul, 1))
    (k : G K (pc + 1) L (.int (x * y) :: st) P) : G K pc L (.int y :: .int x :: st) P := fun H locs ls hP hL => lv_imul C.x C.b hd (k H locs ls hP hL)
theorem g_iand (C : Cb K cc own nL d) {x y : Int32} (hd : decode cc pc = .ok (.iand, 1))
    (k : G K (pc + 1) L (.int (x &&& y) :: st) P) : G K pc L (.int y :: .int x :: st) P := fun H locs ls hP hL => lv_iand C.x C.b hd (k H locs ls hP hL)
theorem g_idiv (C : Cb K cc own nL d) {x y : Int32} (hd : decode cc pc = .ok (.idiv, 1)) (hne : ¬ y = 0)
    (k : G K (pc + 1) L (.int (x / y) :: st) P) : G K pc L (.int y :: .int x :: st) P := fun H locs ls hP hL => lv_idiv C.x C.b hd hne (k H locs ls hP hL)
theorem g_irem (C : Cb K cc own nL d) {x y : Int32} (hd : decode cc pc = .ok (.irem, 1)) (hne : ¬ y = 0)
    (k : G K (pc + 1) L (.int (x - x / y * y) :: st) P) : G K pc L (.int y :: .int x :: st) P := fun H locs ls hP hL => lv_irem C.x C.b hd hne (k H locs ls hP hL)
theorem g_ineg (C : Cb K cc own nL d) {x : Int32} (hd : decode cc pc = .ok (.ineg, 1))
    (k : G K (pc + 1) L (.int (-x) :: st) P) : G K pc L (.int x :: st) P := fun H locs ls hP hL => lv_ineg C.x C.b hd (k H locs ls hP hL)
theorem g_ladd (C : Cb K cc own nL d) {x y : Int64} (hd : decode cc pc = .ok (.ladd, 1))
    (k : G K (pc + 1) L (.long (x + y) :: st) P) : G K pc L (.long y :: .long x :: st) P := fun H locs ls hP hL => lv_ladd C.x C.b hd (k H locs ls hP hL)
theorem g_lsub (C : Cb K cc own nL d) {x y : Int64} (hd : decode cc pc = .ok (.lsub, 1))
    (k : G K (pc + 1) L (.long (x - y) :: st) P) : G K pc L (.long y :: .long x :: st) P := fun H locs ls hP hL => lv_lsub C.x C.b hd (k H locs ls hP hL)
theorem g_lmul (C : Cb K cc own nL d) {x y : Int64} (hd : decode cc pc = .ok (.lmul, 1))
    (k : G K (pc + 1) L (.long (x * y) :: st) P) : G K pc L (.long y :: .long x :: st) P := fun H locs ls hP hL => lv_lmul C.x C.b hd (k H locs ls hP hL)
theorem g_land (C : Cb K cc own nL d) {x y : Int64} (hd : decode cc pc = .ok (.land, 1))
    (k : G K (pc + 1) L (.long (x &&& y) :: st) P) : G K pc L (.long y :: .long x :: st) P := fun H locs ls hP hL => lv_land C.x C.b hd (k H locs ls hP hL)
theorem g_lor (C : Cb K cc own nL d) {x y : Int64} (hd : decode cc pc = .ok (.lor, 1))
    (k : G K (pc + 1) L (.long (x ||| y) :: st) P) : G K pc L (.long y :: .long x :: st) P := fun H locs ls hP hL => lv_lor C.x C.b hd (k H locs ls hP hL)
theorem g_ldiv (C : Cb K cc own nL d) {x y : Int64} (hd : decode cc pc = .ok (.ldiv, 1)) (hne : ¬ y = 0)
    (k : G K (pc + 1) L (.long (x / y) :: st) P) : G K pc L (.long y :: .long x :: st) P := fun H locs ls hP hL => lv_ldiv C.x C.b hd hne (k H locs ls hP hL)
theorem g_lrem (C : Cb K cc own nL d) {x y : Int64} (hd : decode cc pc = .ok (.lrem, 1)) (hne : ¬ y = 0)
    (k : G K (pc + 1) L (.long (x - x / y * y) :: st) P) : G K pc L (.long y :: .long x :: st) P := fun H locs ls hP hL => lv_lrem C.x C.b hd hne (k H locs ls hP hL)
def lushr (x : Int64) (y : Int32) : Int64 := (x.toUInt64 >>> (y.toInt64.toUInt64 &&& Int64.toUInt64 63)).toInt64
def lshl (x : Int64) (y : Int32) : Int64 := x <<< (y.toInt64 &&& 63)
theorem g_lushr (C : Cb K cc own nL d) {x : Int64} {y : Int32} (hd : decode cc pc = .ok (.lushr, 1))
    (k : G K (pc + 1) L (.long (lushr x y) :: st) P) : G K pc L (.int y :: .long x :: st) P := fun H locs ls hP hL => lv_lushr C.x C.b hd rfl (k H locs ls hP hL)
theorem g_lshl (C : Cb K cc own nL d) {x : Int64} {y : Int32} (hd : decode cc pc = .ok (.lshl, 1))
    (k : G K (pc + 1) L (.long (lshl x y) :: st) P) : G K pc L (.int y :: .long x :: st) P := fun H locs ls hP hL => lv_lshl C.x C.b hd rfl (k H locs ls hP hL)
theorem g_i2l (C : Cb K cc own nL d) {x : Int32} (hd : decode cc pc = .ok (.i2l, 1))
    (k : G K (pc + 1) L (.long x.toInt64 :: st) P) : G K pc L (.int x :: st) P := fun H locs ls hP hL => lv_i2l C.x C.b hd rfl (k H locs ls hP hL)
theorem g_l2i (C : Cb K cc own nL d) {x : Int64} (hd : decode cc pc = .ok (.l2i, 1))
    (k : G K (pc + 1) L (.int x.toInt32 :: st) P) : G K pc L (.long x :: st) P := fun H locs ls hP hL => lv_l2i C.x C.b hd rfl (k H locs ls hP hL)
theorem g_lcmp (C : Cb K cc own nL d) {x y : Int64} (hd : decode cc pc = .ok (.lcmp, 1))
    (k : G K (pc + 1) L (.int (lg_cmp x y) :: st) P) : G K pc L (.long y :: .long x :: st) P := fun H locs ls hP hL => W.lcmp C.x C.b hd (k H locs ls hP hL)
theorem g_dup (C : Cb K cc own nL d) {v : Value} (hd : decode cc pc = .ok (.dup, 1)) (hv : v.category = 1)
    (k : G K (pc + 1) L (v :: v :: st) P) : G K pc L (v :: st) P := fun H locs ls hP hL => lv_dup C.x C.b hd hv (k H locs ls hP hL)
theorem g_dup2 (C : Cb K cc own nL d) {u v : Value} (hd : decode cc pc = .ok (.dup2, 1)) (hu : u.category = 1) (hv : v.category = 1)
    (k : G K (pc + 1) L (u :: v :: u :: v :: st) P) : G K pc L (u :: v :: st) P := fun H locs ls hP hL => lv_dup2_11 C.x C.b hd hu hv (k H locs ls hP hL)
theorem g_pop (C : Cb K cc own nL d) {v : Value} (hd : decode cc pc = .ok (.pop, 1)) (hv : v.category = 1)
    (k : G K (pc + 1) L st P) : G K pc L (v :: st) P := fun H locs ls hP hL => lv_pop C.x C.b hd hv (k H locs ls hP hL)
theorem g_if_eq (C : Cb K cc own nL d) {x : Int32} {off : Int} {tgt : Nat} (hd : decode cc pc = .ok (.ifCond .eq off, 3)) (ht : (pc : Int) + off = (tgt : Int))
    (kt : x = 0 → G K tgt L st P) (kf : ¬ x = 0 → G K (pc + 3) L st P) : G K pc L (.int x :: st) P := fun H locs ls hP hL => lv_if_eq C.x C.b hd ht (fun q => kt q H locs ls hP hL) (fun q => kf q H locs ls hP hL)
theorem g_if_ne (C : Cb K cc own nL d) {x : Int32} {off : Int} {tgt : Nat} (hd : decode cc pc = .ok (.ifCond .ne off, 3)) (ht : (pc : Int) + off = (tgt : Int))
    (kt : ¬ x = 0 → G K tgt L st P) (kf : x = 0 → G K (pc + 3) L st P) : G K pc L (.int x :: st) P := fun H locs ls hP hL => lv_if_ne C.x C.b hd ht (fun q => kt q H locs ls hP hL) (fun q => kf q H locs ls hP hL)
theorem g_if_lt (C : Cb K cc own nL d) {x : Int32} {off : Int} {tgt : Nat} (hd : decode cc pc = .ok (.ifCond .lt off, 3)) (ht : (pc : Int) + off = (tgt : Int))
    (kt : x < 0 → G K tgt L st P) (kf : ¬ x < 0 → G K (pc + 3) L st P) : G K pc L (.int x :: st) P := fun H locs ls hP hL => lv_if_lt C.x C.b hd ht (fun q => kt q H locs ls hP hL) (fun q => kf q H locs ls hP hL)
theorem g_if_ge (C : Cb K cc own nL d) {x : Int32} {off : Int} {tgt : Nat} (hd : decode cc pc = .ok (.ifCond .ge off, 3)) (ht : (pc : Int) + off = (tgt : Int))
    (kt : 0 ≤ x → G K tgt L st P) (kf : ¬ 0 ≤ x → G K (pc + 3) L st P) : G K pc L (.int x :: st) P := fun H locs ls hP hL => lv_if_ge C.x C.b hd ht (fun q => kt q H locs ls hP hL) (fun q => kf q H locs ls hP hL)
theorem g_if_gt (C : Cb K cc own nL d) {x : Int32} {off : Int} {tgt : Nat} (hd : decode cc pc = .ok (.ifCond .gt off, 3)) (ht : (pc : Int) + off = (tgt : Int))
    (kt : 0 < x → G K tgt L st P) (kf : ¬ 0 < x → G K (pc + 3) L st P) : G K pc L (.int x :: st) P := fun H locs ls hP hL => lv_if_gt C.x C.b hd ht (fun q => kt q H locs ls hP hL) (fun q => kf q H locs ls hP hL)
theorem g_if_le (C : Cb K cc own nL d) {x : Int32} {off : Int} {tgt : Nat} (hd : decode cc pc = .ok (.ifCond .le off, 3)) (ht : (pc : Int) + off = (tgt : Int))
    (kt : x ≤ 0 → G K tgt L st P) (kf : ¬ x ≤ 0 → G K (pc + 3) L st P) : G K pc L (.int x :: st) P := fun H locs ls hP hL => lv_if_le C.x C.b hd ht (fun q => kt q H locs ls hP hL) (fun q => kf q H locs ls hP hL)
theorem g_icmp_eq (C : Cb K cc own nL d) {x y : Int32} {off : Int} {tgt : Nat} (hd : decode cc pc = .ok (.if_icmp .eq off, 3)) (ht : (pc : Int) + off = (tgt : Int))
    (kt : x = y → G K tgt L st P) (kf : ¬ x = y → G K (pc + 3) L st P) : G K pc L (.int y :: .int x :: st) P := fun H locs ls hP hL => lv_icmp_eq C.x C.b hd ht (fun q => kt q H locs ls hP hL) (fun q => kf q H locs ls hP hL)
theorem g_icmp_ne (C : Cb K cc own nL d) {x y : Int32} {off : Int} {tgt : Nat} (hd : decode cc pc = .ok (.if_icmp .ne off, 3)) (ht : (pc : Int) + off = (tgt : Int))
    (kt : ¬ x = y → G K tgt L st P) (kf : x = y → G K (pc + 3) L st P) : G K pc L (.int y :: .int x :: st) P := fun H locs ls hP hL => lv_icmp_ne C.x C.b hd ht (fun q => kt q H locs ls hP hL) (fun q => kf q H locs ls hP hL)
theorem g_icmp_lt (C : Cb K cc own nL d) {x y : Int32} {off : Int} {tgt : Nat} (hd : decode cc pc = .ok (.if_icmp .lt off, 3)) (ht : (pc : Int) + off = (tgt : Int))
    (kt : x < y → G K tgt L st P) (kf : ¬ x < y → G K (pc + 3) L st P) : G K pc L (.int y :: .int x :: st) P := fun H locs ls hP hL => lv_icmp_lt C.x C.b hd ht (fun q => kt q H locs ls hP hL) (fun q => kf q H locs ls hP hL)
theorem g_icmp_ge (C : Cb K cc own nL d) {x y : Int32} {off : Int} {tgt : Nat} (hd : decode cc pc = .ok (.if_icmp .ge off, 3)) (ht : (pc : Int) + off = (tgt : Int))
    (kt : y ≤ x → G K tgt L st P) (kf : ¬ y ≤ x → G K (pc + 3) L st P) : G K pc L (.int y :: .int x :: st) P := fun H locs ls hP hL => lv_icmp_ge C.x C.b hd ht (fun q => kt q H locs ls hP hL) (fun q => kf q H locs ls hP hL)
theorem g_icmp_gt (C : Cb K cc own nL d) {x y : Int32} {off : Int} {tgt : Nat} (hd : decode cc pc = .ok (.if_icmp .gt off, 3)) (ht : (pc : Int) + off = (tgt : Int))
    (kt : y < x → G K tgt L st P) (kf : ¬ y < x → G K (pc + 3) L st P) : G K pc L (.int y :: .int x :: st) P := fun H locs ls hP hL => lv_icmp_gt C.x C.b hd ht (fun q => kt q H locs ls hP hL) (fun q => kf q H locs ls hP hL)
theorem g_icmp_le (C : Cb K cc own nL d) {x y : Int32} {off : Int} {tgt : Nat} (hd : decode cc pc = .ok (.if_icmp .le off, 3)) (ht : (pc : Int) + off = (tgt : Int))
    (kt : x ≤ y → G K tgt L st P) (kf : ¬ x ≤ y → G K (pc + 3) L st P) : G K pc L (.int y :: .int x :: st) P := fun H locs ls hP hL => lv_icmp_le C.x C.b hd ht (fun q => kt q H locs ls hP hL) (fun q => kf q H locs ls hP hL)
theorem g_goto (C : Cb K cc own nL d) {off : Int} {tgt : Nat} (hd : decode cc pc = .ok (.goto off, 3)) (ht : (pc : Int) + off = (tgt : Int)) (k : G K tgt L st P) : G K pc L st P := fun H locs ls hP hL => lv_goto C.x C.b hd ht (k H locs ls hP hL)
theorem g_tableIn (C : Cb K cc own nL d) {dflt lo hi : Int} {offs : Array Int} {len : Nat} {x : Int32} {off : Int} {tgt : Nat} (hd : decode cc pc = .ok (.tableswitch dflt lo hi offs, len)) (h1 : ¬ x.toInt < lo) (h2 : ¬ hi < x.toInt) (ho : offs[(x.toInt - lo).toNat]? = some off) (ht : (pc : Int) + off = (tgt : Int))
    (k : G K tgt L st P) : G K pc L (.int x :: st) P := fun H locs ls hP hL => lv_tableIn C.x C.b hd h1 h2 ho ht (k H locs ls hP hL)
theorem g_tableOut (C : Cb K cc own nL d) {dflt lo hi : Int} {offs : Array Int} {len : Nat} {x : Int32} {tgt : Nat} (hd : decode cc pc = .ok (.tableswitch dflt lo hi offs, len)) (h : x.toInt < lo ∨ hi < x.toInt) (ht : (pc : Int) + dflt = (tgt : Int))
    (k : G K tgt L st P) : G K pc L (.int x :: st) P := fun H locs ls hP hL => lv_tableOut C.x C.b hd h ht (k H locs ls hP hL)
theorem g_lookup (C : Cb K cc own nL d) {dflt : Int} {ps : Array (Int × Int)} {len : Nat} {x : Int32} {off : Int} {tgt : Nat} (hd : decode cc pc = .ok (.lookupswitch dflt ps, len)) (hp : (ps.toList.zip (ps.toList.drop 1)).all (fun (a, next) => a.1 < next.1) = true) (ho : Op.lookupswitch.offset ps.toList dflt x.toInt = off) (ht : (pc : Int) + off = (tgt : Int))
    (k : G K tgt L st P) : G K pc L (.int x :: st) P := fun H locs ls hP hL => lv_lookup C.x C.b hd hp ho ht (k H locs ls hP hL)
theorem g_ldc (C : Cb K cc own nL d) {index : Nat} {v : Int32} (hw : Cond.constant own index v ∈ AL) (hd : decode cc pc = .ok (.ldc index, 2)) (k : G K (pc + 2) L (.int v :: st) P) : G K pc L st P := fun H locs ls hP hL => lv_ldc C.x C.b C.o (C.t hw) hd (k H locs ls hP hL)
theorem g_ldcw (C : Cb K cc own nL d) {index : Nat} {v : Int32} (hw : Cond.constant own index v ∈ AL) (hd : decode cc pc = .ok (.ldc_w index, 3)) (k : G K (pc + 3) L (.int v :: st) P) : G K pc L st P := fun H locs ls hP hL => lv_ldcw C.x C.b C.o (C.t hw) hd (k H locs ls hP hL)
theorem g_ldc2 (C : Cb K cc own nL d) {index : Nat} {v : Int64} (hw : Cond.constantLong own index v ∈ AL) (hd : decode cc pc = .ok (.ldc2_w index, 3)) (k : G K (pc + 3) L (.long v :: st) P) : G K pc L st P := fun H locs ls hP hL => lv_ldc2 C.x C.b C.o (C.t hw) hd (k H locs ls hP hL)
end GI

