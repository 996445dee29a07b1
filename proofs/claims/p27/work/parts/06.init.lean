/-! ===== constructors: worlds that grow ===== -/
def σz : Sg := (fun _ _ => 0, fun _ _ => 0, fun _ _ => 0)
def dfl : List (Nat × Nat) → List Value
  | [] => []
  | (0, _) :: t => .int 0 :: dfl t
  | (1, _) :: t => .long 0 :: dfl t
  | _ :: t => .null :: dfl t
def bare : List (Nat × Nat) → Bool
  | [] => true
  | s :: t => (s.1 == 0 || s.1 == 1 || s.1 == 4) && bare t
def Zb (σ : Sg) (N : Nat) : Prop := ∀ o k, N ≤ o → rI σ o k = 0 ∧ rJ σ o k = 0
theorem slv_dfl {ad : Nat → Nat} {σ : Sg} {i : Nat} (h : ∀ k, rI σ i k = 0 ∧ rJ σ i k = 0) : ∀ (l : List (Nat × Nat)) (k0 : Nat), bare l = true → slv ad σ i k0 l = dfl l
  | [], _, _ => rfl
  | (a, b) :: t, k0, hb => by
    simp only [bare, Bool.and_eq_true] at hb
    have ih := slv_dfl (ad := ad) h t (k0 + 1) hb.2
    simp only [slv, ih]
    match a, hb.1 with
    | 0, _ => simp [slotV, dfl, (h k0).1]
    | 1, _ => simp [slotV, dfl, (h k0).2]
    | 4, _ => simp [slotV, dfl]
    | 2, h2 => simp at h2
    | 3, h2 => simp at h2
    | n + 5, h2 => simp at h2
/-- all that the cell i refers to is below N -/
def slc (σ : Sg) (N i : Nat) : Nat → List (Nat × Nat) → Prop
  | _, [] => True
  | k, s :: t => (s.1 = 2 → i + s.2 < N) ∧ (s.1 = 3 → rR σ i k < N) ∧ slc σ N i (k + 1) t
def shc (σ : Sg) (N i : Nat) (sh : Sh) : Prop := (sh.1 = 0 → slc σ N i 0 sh.2.2) ∧ (sh.1 ≠ 0 → ∀ j, j < rowM sh → i + rowB sh + j < N)
def Cl (σ : Sg) (Y : List Sh) : Prop := ∀ i sh, Y[i]? = some sh → shc σ Y.length i sh
theorem slc_mono {σ : Sg} {N M i : Nat} (h : N ≤ M) : ∀ (l : List (Nat × Nat)) (k : Nat), slc σ N i k l → slc σ M i k l
  | [], _, _ => trivial
  | s :: t, k, q => ⟨fun e => Nat.lt_of_lt_of_le (q.1 e) h, fun e => Nat.lt_of_lt_of_le (q.2.1 e) h, slc_mono h t (k + 1) q.2.2⟩
theorem shc_mono {σ : Sg} {N M i : Nat} {sh : Sh} (h : N ≤ M) (q : shc σ N i sh) : shc σ M i sh := ⟨fun e => slc_mono h _ _ (q.1 e), fun e j hj => Nat.lt_of_lt_of_le (q.2 e j hj) h⟩
theorem slc_R {σ σ' : Sg} {N i : Nat} (h : ∀ k, rR σ' i k = rR σ i k) : ∀ (l : List (Nat × Nat)) (k : Nat), slc σ N i k l → slc σ' N i k l
  | [], _, _ => trivial
  | s :: t, k, q => ⟨q.1, fun e => by rw [h]; exact q.2.1 e, slc_R h t (k + 1) q.2.2⟩
theorem shc_R {σ σ' : Sg} {N i : Nat} {sh : Sh} (h : ∀ k, rR σ' i k = rR σ i k) (q : shc σ N i sh) : shc σ' N i sh := ⟨fun e => slc_R h _ _ (q.1 e), q.2⟩
theorem slc_bare {σ : Sg} {N i : Nat} : ∀ (l : List (Nat × Nat)) (k : Nat), bare l = true → slc σ N i k l
  | [], _, _ => trivial
  | s :: t, k, h => by
    simp only [bare, Bool.and_eq_true, Bool.or_eq_true, beq_iff_eq] at h
    exact ⟨fun e => by omega, fun e => by omega, slc_bare t (k + 1) h.2⟩
theorem slv_shift {ad ad' : Nat → Nat} {σ σ' : Sg} {n N i : Nat} (ha : ∀ j, j < N → ad' (n + j) = ad j) (h1 : rI σ' (n + i) = rI σ i) (h2 : rJ σ' (n + i) = rJ σ i) (h3 : ∀ k, rR σ' (n + i) k = n + rR σ i k) : ∀ (l : List (Nat × Nat)) (k : Nat), slc σ N i k l → slv ad' σ' (n + i) k l = slv ad σ i k l
  | [], _, _ => rfl
  | (a, b) :: t, k, q => by
    simp only [slv]
    rw [slv_shift ha h1 h2 h3 t (k + 1) q.2.2]
    congr 1
    unfold slotV
    split
    · rw [h1]
    · rw [h2]
    next e => rw [Nat.add_assoc, ha _ (q.1 e)]
    next e => rw [h3, ha _ (q.2.1 e)]
    · rfl
theorem ent_shift {cys : Nat → ClassId} {ad ad' : Nat → Nat} {σ σ' : Sg} {n N i : Nat} {sh : Sh} (hc : shc σ N i sh) (ha : ∀ j, j < N → ad' (n + j) = ad j) (h1 : rI σ' (n + i) = rI σ i) (h2 : rJ σ' (n + i) = rJ σ i) (h3 : ∀ k, rR σ' (n + i) k = n + rR σ i k) : ent cys ad' σ' (n + i) sh = ent cys ad σ i sh := by
  have rows : sh.1 ≠ 0 → (fun j => if j < rowM sh then some (ad' (n + i + rowB sh + j)) else none) = (fun j => if j < rowM sh then some (ad (i + rowB sh + j)) else none) := by
    intro hne
    funext j
    by_cases hj : j < rowM sh
    · rw [if_pos hj, if_pos hj, ← ha _ (hc.2 hne j hj)]
      congr 2
      omega
    · rw [if_neg hj, if_neg hj]
  unfold ent
  split
  next e => rw [slv_shift ha h1 h2 h3 _ _ (hc.1 e)]
  · rw [h1]
  · rw [h2]
  · rw [h1]
  next e => rw [rows (by rw [e]; decide)]
  next e1 e2 e3 e4 e5 => rw [rows e1]
theorem wd_shift {cys : Nat → ClassId} {ad ad' : Nat → Nat} {σ σ' : Sg} {n N : Nat} (ha : ∀ j, j < N → ad' (n + j) = ad j) : ∀ (Y : List Sh) (i0 : Nat), (∀ i sh, Y[i]? = some sh → i0 + i < N ∧ shc σ N (i0 + i) sh ∧ rI σ' (n + (i0 + i)) = rI σ (i0 + i) ∧ rJ σ' (n + (i0 + i)) = rJ σ (i0 + i) ∧ ∀ k, rR σ' (n + (i0 + i)) k = n + rR σ (i0 + i) k) → wd cys ad' σ' (n + i0) Y = wd cys ad σ i0 Y
  | [], _, _ => rfl
  | sh :: t, i0, h => by
    simp only [wd]
    obtain ⟨h0, h1, h2, h3, h4⟩ := h 0 sh rfl
    rw [Nat.add_zero] at h0 h1 h2 h3 h4
    rw [ha i0 h0, ent_shift h1 ha h2 h3 h4, Nat.add_assoc, wd_shift ha t (i0 + 1) (fun i s hs => by
      have := h (i + 1) s hs
      rw [show i0 + (i + 1) = i0 + 1 + i by omega] at this
      exact this)]
theorem wd_app {cys : Nat → ClassId} {ad : Nat → Nat} {σ : Sg} : ∀ (Y1 Y2 : List Sh) (i0 : Nat), wd cys ad σ i0 (Y1 ++ Y2) = wd cys ad σ i0 Y1 ++ wd cys ad σ (i0 + Y1.length) Y2
  | [], Y2, i0 => rfl
  | s :: t, Y2, i0 => by
    simp only [wd, List.cons_append, List.length_cons]
    rw [wd_app t Y2 (i0 + 1), show i0 + 1 + t.length = i0 + (t.length + 1) by omega]
/-- the same world under addresses that agree where they are asked -/
theorem wd_same {cys : Nat → ClassId} {ad ad' : Nat → Nat} {σ σ' : Sg} {Y : List Sh} (hc : Cl σ Y) (ha : ∀ j, j < Y.length → ad' j = ad j) (hs : ∀ i, i < Y.length → rI σ' i = rI σ i ∧ rJ σ' i = rJ σ i ∧ ∀ k, rR σ' i k = rR σ i k) : wd cys ad' σ' 0 Y = wd cys ad σ 0 Y := by
  have := wd_shift (cys := cys) (ad := ad) (ad' := ad') (σ := σ) (σ' := σ') (n := 0) (N := Y.length) (fun j hj => by rw [Nat.zero_add]; exact ha j hj) Y 0 (fun i sh h => by
    have hl : i < Y.length := (List.getElem?_eq_some_iff.mp h).1
    rw [Nat.zero_add, Nat.zero_add]
    obtain ⟨h1, h2, h3⟩ := hs i hl
    exact ⟨hl, hc i sh h, h1, h2, fun k => by rw [h3, Nat.zero_add]⟩)
  exact this
theorem wd_setY {cys : Nat → ClassId} {ad : Nat → Nat} {σ : Sg} {sh : Sh} : ∀ (Y : List Sh) (i0 o : Nat), (wd cys ad σ i0 Y).set o (ad (i0 + o), ent cys ad σ (i0 + o) sh) = wd cys ad σ i0 (Y.set o sh)
  | [], _, _ => rfl
  | s :: t, i0, 0 => rfl
  | s :: t, i0, o + 1 => by
    simp only [wd, List.set_cons_succ]
    rw [show i0 + (o + 1) = i0 + 1 + o by omega, wd_setY t (i0 + 1) o]
theorem slv_setS {ad : Nat → Nat} {σ : Sg} {i : Nat} {s : Nat × Nat} : ∀ (l : List (Nat × Nat)) (k0 k : Nat), (slv ad σ i k0 l).set k (slotV ad σ i (k0 + k) s) = slv ad σ i k0 (l.set k s)
  | [], _, _ => rfl
  | a :: t, k0, 0 => rfl
  | a :: t, k0, k + 1 => by
    simp only [slv, List.set_cons_succ]
    rw [show k0 + (k + 1) = k0 + 1 + k by omega, slv_setS t (k0 + 1) k]
/-! the state behind a callee's making -/
def sapp (n : Nat) (σ σ' : Sg) : Sg := (fun o k => if o < n then σ.1 o k else σ'.1 (o - n) k, fun o k => if o < n then σ.2.1 o k else σ'.2.1 (o - n) k, fun o k => if o < n then σ.2.2 o k else n + σ'.2.2 (o - n) k)
def va_AOA (ty : FieldType) (U : State) : Prop := (Cond.arrayOver (.array ty)).before #[] U = true
theorem va_AOA.use {ty : FieldType} {A : Array Value} {U : State} (h : va_AOA ty U) : (Cond.arrayOver (.array ty)).before A U = true := h
theorem va_AOA.of {ty : FieldType} {A : Array Value} {U : State} (h : (Cond.arrayOver (.array ty)).before A U = true) : va_AOA ty U := h
theorem vi_bare (vm : Vm) (comp : ClassId) : (vm.bare.classes.findIdx? fun (x : Class) => match x.kind with | .array component _ => component == comp | _ => false) = (vm.classes.findIdx? fun (x : Class) => match x.kind with | .array component _ => component == comp | _ => false) := by
  simp only [Vm.bare, Array.findIdx?_map]
  rfl
theorem va_AOA.spec {ty : FieldType} {U : State} (h : va_AOA ty U) : ∃ (comp c : ClassId) (k : Class), U.vm.findClass (FieldType.array ty).toString = some comp ∧ (U.vm.classes.findIdx? fun x => match x.kind with | .array component _ => component == comp | _ => false) = some c ∧ U.vm.classes[c]? = some k ∧ k.kind = .array comp (.array ty) ∧ U.vm.findClass ("[" ++ (FieldType.array ty).toString) = some c := by
  unfold va_AOA Cond.before Cond.holds at h
  simp only [Cond.value, beq_iff_eq] at h
  cases hc : U.vm.findClass (FieldType.array ty).toString with
  | none => simp [hc] at h
  | some comp =>
    simp only [hc, Option.bind_some, Option.bind_eq_some_iff, Option.map_eq_some_iff] at h
    obtain ⟨c, hi, k, hk, hb⟩ := h
    obtain ⟨hlt, hp, -⟩ := Array.findIdx?_eq_some_iff_getElem.mp hi
    have hkk : U.vm.classes[c] = k := (Array.getElem?_eq_some_iff.mp hk).2
    rw [hkk] at hp
    cases hkind : k.kind with
    | array component ty2 =>
      rw [hkind] at hb hp
      simp at hb hp
      exact ⟨comp, c, k, rfl, hi, hk, by rw [hkind, hp, hb.1], hb.2⟩
    | _ => rw [hkind] at hb; simp at hb
theorem va_AOA.moved {ty : FieldType} {u U : State} (hvm : u.vm.Alike U.vm) (h : va_AOA ty u) : va_AOA ty U := by
  obtain ⟨comp, c, k, h1, h2, h3, h4, h5⟩ := h.spec
  obtain ⟨k', hk', he⟩ := hvm.2.2 _ _ h3
  have hi : (U.vm.classes.findIdx? fun (x : Class) => match x.kind with | .array component _ => component == comp | _ => false) = some c := by
    rw [← vi_bare]
    first | rw [hvm.bare_eq] | rw [← hvm.bare_eq]
    rw [vi_bare]
    exact h2
  have hkind : k'.kind = .array comp (.array ty) := by rw [he]; exact h4
  have f1 : U.vm.findClass (FieldType.array ty).toString = some comp := by rw [hvm.findClass]; exact h1
  have f2 : U.vm.findClass ("[" ++ (FieldType.array ty).toString) = some c := by rw [hvm.findClass]; exact h5
  unfold va_AOA Cond.before Cond.holds
  simp only [Cond.value]
  rw [f1, Option.bind_some]
  refine (congrArg (fun o : Option Nat => (o.bind (fun c => (U.vm.classes[c]?).map fun (k : Class) => match k.kind with | .array _ ty2 => decide (ty2 = FieldType.array ty) && decide (U.vm.findClass ("[" ++ (FieldType.array ty).toString) = some c) | _ => false) == some true)) hi).trans ?_
  simp [hk', hkind, f2]
def Ei (U : State) : Prop := (∀ w ∈ NW, va_Nw w U) ∧ va_AO RX0 U ∧ va_AOA .int U
theorem Ei.moved {s U : State} (hW : s.WarmedH U.vm) (h : Ei s) : Ei U := by
  refine ⟨fun w hw => ?_, h.2.1.moved hW.alike, h.2.2.moved hW.alike⟩
  have hn := (List.mem_filter.mp hw).2
  have hz := h.1 w hw
  cases w with
  | fieldLinkNest a i b n d h => exact va_Nw.warmF hW hz
  | methodLinkNest a i x h => exact va_Nw.warmM hW hz
  | _ => cases hn
theorem Ei.frame {U : State} {g : JFrame} {mk : MethodId} {a : Array Value} (h : Ei U) : Ei (U.calling g mk a) := by
  have al : U.vm.Alike (U.calling g mk a).vm := Vm.Alike.refl U.vm
  refine ⟨fun w hw => ?_, h.2.1.moved al, h.2.2.moved al⟩
  have hn := (List.mem_filter.mp hw).2
  have hz := h.1 w hw
  cases w with
  | fieldLinkNest a i b n d h => exact va_Nw.same rfl rfl hz
  | methodLinkNest a i x h => exact va_Nw.same rfl rfl hz
  | _ => cases hn
def GW (K : KT) (pc : Nat) (L : List (Option Value)) (st : List Value) (ci si : Nat) (P : Heap → List Loc → Prop) : Prop :=
  ∀ (H : Heap) (locs : List Loc) (ls : Array Slot), P H locs → LX ls L → W (kp K) (kl K) (ke K) (kR K) (ks K) (km K) (ka K) (kb K) (kmeth K) (kc K) H locs ci si (kQ K) (F0 (km K) pc ls st)
def CxI (K : KT) (cc : ByteArray) (own : String) (nL d mc ms : Nat) : Prop := Cb K cc own nL d ∧ True ∧ va_K (kD K) vwCl (tysOf (kcy K)) (ks K) ∧ (∀ q, (ks K).heap.size ≤ q → kA K q) ∧ Ei (ks K) ∧ mc ≤ (kR K).cells ∧ ms ≤ (kR K).slots
def WI (K : KT) (Y : List Sh) (σ : Sg) (ad : Nat → Nat) : Heap → List Loc → Prop := fun H locs => va_P (kD K) vwCl (wd (kcy K) ad σ 0 Y) H ∧ va_S (kA K) (ks K).heap H locs ∧ (∀ i j, i < Y.length → j < Y.length → ad i = ad j → i = j) ∧ (∀ i, i < Y.length → kA K (ad i)) ∧ Zb σ Y.length ∧ Cl σ Y
theorem WI.D {K : KT} {Y : List Sh} {σ : Sg} {ad : Nat → Nat} {H : Heap} {locs : List Loc} (h : WI K Y σ ad H locs) : va_D (kA K) (wd (kcy K) ad σ 0 Y) := wd_D h.2.2.1 h.2.2.2.1
section GWP
variable {K : KT} {cc : ByteArray} {own : String} {nL d pc ci si : Nat} {L : List (Option Value)} {st : List Value} {P : Heap → List Loc → Prop}
theorem n_iconst (C : Cb K cc own nL d) {n : Int} {v : Int32} (hd : decode cc pc = .ok (.iconst n, 1)) (hv : Int32.ofInt n = v) (k : GW K (pc + 1) L (.int v :: st) ci si P) : GW K pc L st ci si P := fun H locs ls hP hL => lv_iconst C.x C.b hd hv (k H locs ls hP hL)
theorem n_bipush (C : Cb K cc own nL d) {n : Int} {v : Int32} (hd : decode cc pc = .ok (.bipush n, 2)) (hv : (Int8.ofInt n).toInt32 = v) (k : GW K (pc + 2) L (.int v :: st) ci si P) : GW K pc L st ci si P := fun H locs ls hP hL => lv_bipush C.x C.b hd hv (k H locs ls hP hL)
theorem n_sipush (C : Cb K cc own nL d) {n : Int} {v : Int32} (hd : decode cc pc = .ok (.sipush n, 3)) (hv : (Int16.ofInt n).toInt32 = v) (k : GW K (pc + 3) L (.int v :: st) ci si P) : GW K pc L st ci si P := fun H locs ls hP hL => lv_sipush C.x C.b hd hv (k H locs ls hP hL)
theorem n_aload_n (C : Cb K cc own nL d) {n : Fin 4} {i : Nat} {x : Nat} (hd : decode cc pc = .ok (.aload_n n, 1)) (hi : (n : Nat) = i) (hl : L[i]? = some (some (.ref x))) (k : GW K (pc + 1) L (.ref x :: st) ci si P) : GW K pc L st ci si P := fun H locs ls hP hL => lv_aload_n C.x C.b hd hi (hL.2.2 _ _ hl) (k H locs ls hP hL)
theorem n_iload_n (C : Cb K cc own nL d) {n : Fin 4} {i : Nat} {x : Int32} (hd : decode cc pc = .ok (.iload_n n, 1)) (hi : (n : Nat) = i) (hl : L[i]? = some (some (.int x))) (k : GW K (pc + 1) L (.int x :: st) ci si P) : GW K pc L st ci si P := fun H locs ls hP hL => lv_iload_n C.x C.b hd hi (hL.2.2 _ _ hl) (k H locs ls hP hL)
theorem n_istore_n (C : Cb K cc own nL d) {n : Fin 4} {i : Nat} {x : Int32} {L' : List (Option Value)} (hd : decode cc pc = .ok (.istore_n n, 1)) (hi : (n : Nat) = i) (hn : i < L.length) (hL' : st1 L i (.int x) = L') (k : GW K (pc + 1) L' st ci si P) : GW K pc L (.int x :: st) ci si P := fun H locs ls hP hL => lv_istore_n C.x C.b hd hi hL.has hn rfl (fun ls' h' => k H locs ls' hP (hL' ▸ LX.s1 hn h'))
theorem n_astore_n (C : Cb K cc own nL d) {n : Fin 4} {i : Nat} {x : Nat} {L' : List (Option Value)} (hd : decode cc pc = .ok (.astore_n n, 1)) (hi : (n : Nat) = i) (hn : i < L.length) (hL' : st1 L i (.ref x) = L') (k : GW K (pc + 1) L' st ci si P) : GW K pc L (.ref x :: st) ci si P := fun H locs ls hP hL => lv_astore_n C.x C.b hd hi hL.has hn rfl (fun ls' h' => k H locs ls' hP (hL' ▸ LX.s1 hn h'))
theorem n_iinc (C : Cb K cc own nL d) {i : Nat} {n : Int} {x y : Int32} {L' : List (Option Value)} (hd : decode cc pc = .ok (.iinc i n, 3)) (hl : L[i]? = some (some (.int x))) (hy : x + Int32.ofInt n = y) (hn : i < L.length) (hL' : st1 L i (.int y) = L') (k : GW K (pc + 3) L' st ci si P) : GW K pc L st ci si P := fun H locs ls hP hL => by
  obtain ⟨j, hj⟩ := List.getElem?_of_mem ((prs_iff (q := (i, .int x))).mpr hl)
  exact lv_iinc C.x C.b hd hL.has hj hy hn rfl (fun ls' h' => k H locs ls' hP (hL' ▸ LX.s1 hn h'))
theorem n_dup (C : Cb K cc own nL d) {v : Value} (hd : decode cc pc = .ok (.dup, 1)) (hv : v.category = 1) (k : GW K (pc + 1) L (v :: v :: st) ci si P) : GW K pc L (v :: st) ci si P := fun H locs ls hP hL => lv_dup C.x C.b hd hv (k H locs ls hP hL)
theorem n_goto (C : Cb K cc own nL d) {off : Int} {tgt : Nat} (hd : decode cc pc = .ok (.goto off, 3)) (ht : (pc : Int) + off = (tgt : Int)) (k : GW K tgt L st ci si P) : GW K pc L st ci si P := fun H locs ls hP hL => lv_goto C.x C.b hd ht (k H locs ls hP hL)
theorem n_ge_t (C : Cb K cc own nL d) {x y : Int32} {off : Int} {tgt : Nat} (hd : decode cc pc = .ok (.if_icmp .ge off, 3)) (ht : (pc : Int) + off = (tgt : Int)) (h : y ≤ x) (k : GW K tgt L st ci si P) : GW K pc L (.int y :: .int x :: st) ci si P := fun H locs ls hP hL => lv_icmp_ge C.x C.b hd ht (fun _ => k H locs ls hP hL) (fun q => absurd h q)
theorem n_ge_f (C : Cb K cc own nL d) {x y : Int32} {off : Int} {tgt : Nat} (hd : decode cc pc = .ok (.if_icmp .ge off, 3)) (ht : (pc : Int) + off = (tgt : Int)) (h : ¬ y ≤ x) (k : GW K (pc + 3) L st ci si P) : GW K pc L (.int y :: .int x :: st) ci si P := fun H locs ls hP hL => lv_icmp_ge C.x C.b hd ht (fun q => absurd q h) (fun _ => k H locs ls hP hL)
end GWP
section GWI
variable {K : KT} {cc : ByteArray} {own : String} {nL d mc ms pc ci si : Nat} {L : List (Option Value)} {st : List Value} {Y : List Sh} {σ : Sg} {ad : Nat → Nat}
theorem n_obj (C : CxI K cc own nL d mc ms) {a idx : Nat} (hd : decode cc pc = .ok (.invokespecial idx, 3)) (hl : Cond.methodLink own idx objectInit ∈ AL) (hi : Cond.instanceMethod objectInit ∈ AL) (hc : Cond.code objectInit ⟨#[0xb1]⟩ 1 none ∈ AL) (hLn : L.length = nL) (hd1 : 1 ≤ d) (hr : (st.map fun v => v.category).sum ≤ 8) {P : Heap → List Loc → Prop}
    (k : GW K (pc + 3) L st ci si P) : GW K pc L (.ref a :: st) ci si P := fun H locs ls hP hL => by
  have hf := C.1.2.2.2.2.2.2.1
  have hlo := C.1.2.2.2.2.2.2.2
  refine W.objInit C.1.x C.1.b C.1.o (C.1.t hl) (C.1.t hi) (C.1.t hc) rfl (by show ls.size = _; rw [C.1.2.2.1, hL.1, hLn]) rfl hd (by omega) (by show 2 * 0 + _ + 12 ≤ _; omega) ?_
  exact k H locs ls hP hL
theorem n_get (C : CxI K cc own nL d mc ms) {o kx k index N : Nat} {C0 : String} {T : u_T} {sl : List (Nat × Nat)} {s : Nat × Nat} {v : Value} (hd : decode cc pc = .ok (.getfield index, 3)) (hY : Y[o]? = some (0, kx, sl)) (hs : sl[k]? = some s) (hc : vwCl[kx]? = some (C0, T, N)) (hk : k < N) (hl : FL own index (T k).1 (T k).2.1 (T k).2.2.1) (hin : ∀ w ∈ u_ws C0 T N, w ∈ AL) (hv : slotV ad σ o k s = v)
    (kk : GW K (pc + 3) L (v :: st) ci si (WI K Y σ ad)) : GW K pc L (.ref (ad o) :: st) ci si (WI K Y σ ad) := fun H locs ls hP hL => by
  subst hv
  have he : (wd (kcy K) ad σ 0 Y)[o]? = some (ad o, .inr (kx, slv ad σ o 0 sl)) := wd_at hY
  have hv : (slv ad σ o 0 sl)[k]? = some (slotV ad σ o k s) := by rw [slv_get, hs, Nat.zero_add]; rfl
  rcases hl with hl | ⟨host, hl⟩
  · exact va_get C.1.x C.1.b C.1.fix.2.2.2.2 hin C.1.o C.2.2.1 hP.1 o he hc k hk (C.1.t hl) (fun _ h => h) hv hd (kk H locs ls hP hL)
  · exact va_getN C.1.x C.1.b C.1.fix.2.2.2.2 hin C.1.o C.2.2.1 hP.1 o he hc k hk (va_Nw.use rfl (C.2.2.2.2.1.1 _ hl)) (fun _ h => h) hv hd (kk H locs ls hP hL)
/-- a field of the object that is being made -/
theorem n_put (C : CxI K cc own nL d mc ms) {o kx k index N : Nat} {C0 : String} {T : u_T} {ty0 : Nat → FieldType} {sl : List (Nat × Nat)} {v : Value} {Y' : List Sh} {σ' : Sg} (hin2 : (kmeth K).name = "<init>") (hd : decode cc pc = .ok (.putfield index, 3)) (hY : Y[o]? = some (0, kx, sl)) (hlen : k < sl.length) (hc : vwCl[kx]? = some (C0, T, N)) (hk : k < N) (hl : Cond.fieldLink own index (T k).1 (T k).2.1 (T k).2.2.1 ∈ AL) (hin : ∀ w ∈ u_ws C0 T N, w ∈ AL)
    (hty : ∀ k, k < N → parseFieldDescriptor (T k).2.2.1 = some (ty0 k)) (hnm : ∀ a, a < N → ∀ b, b < N → a ≠ b → (T a).2.1 ≠ (T b).2.1) (hdecl : (T k).1 = own) (hn : narrow (ty0 k) v = v) (hf : fits (ty0 k) v = true)
    (hw : (wd (kcy K) ad σ 0 Y).set o (ad o, .inr (kx, (slv ad σ o 0 sl).set k v)) = wd (kcy K) ad σ' 0 Y') (hl' : Y'.length = Y.length) (hz : Zb σ Y.length → Zb σ' Y'.length) (hcl : Cl σ Y → Cl σ' Y')
    (kk : GW K (pc + 3) L st ci si (WI K Y' σ' ad)) : GW K pc L (v :: .ref (ad o) :: st) ci si (WI K Y σ ad) := fun H locs ls hP hL => by
  have he : (wd (kcy K) ad σ 0 Y)[o]? = some (ad o, .inr (kx, slv ad σ o 0 sl)) := wd_at hY
  have hlen2 : k < (slv ad σ o 0 sl).length := by rw [slv_len]; exact hlen
  have go : ∀ (H1 : Heap) (locs1 : List Loc), va_P (kD K) vwCl ((wd (kcy K) ad σ 0 Y).set o (ad o, .inr (kx, (slv ad σ o 0 sl).set k v))) H1 → va_S (kA K) (ks K).heap H1 locs1 → W (kp K) (kl K) (ke K) (kR K) (ks K) (km K) (ka K) (kb K) (kmeth K) (kc K) H1 locs1 ci si (kQ K) (F0 (km K) (pc + 3) ls st) := fun H1 locs1 q1 q3 => kk H1 locs1 ls ⟨hw ▸ q1, q3, by rw [hl']; exact hP.2.2.1, by rw [hl']; exact hP.2.2.2.1, hz hP.2.2.2.2.1, hcl hP.2.2.2.2.2⟩ hL
  cases hfin : (T k).2.2.2 with
  | false => exact va_put C.1.x C.1.b C.1.fix.2.2.2.2 hin ty0 hty hnm C.1.o C.2.2.1 hP.1 hP.D hP.2.1 o he hc k hk (C.1.t hl) (fun _ h => h) hfin (hty k hk) hn hf hlen2 hd (fun H1 locs1 q1 q2 q3 => go H1 locs1 q1 q3)
  | true => exact va_putF C.1.x C.1.b C.1.fix.2.2.2.2 hin ty0 hty hnm C.1.o C.2.2.1 hP.1 hP.D hP.2.1 o he hc k hk (C.1.t hl) (fun _ h => h) hfin hin2 hdecl (hty k hk) hn hf hlen2 hd (fun H1 locs1 q1 q2 q3 => go H1 locs1 q1 q3)
def adx (ad : Nat → Nat) (n : Nat) (f : Nat → Nat) : Nat → Nat := fun i => if i < n then ad i else f (i - n)
theorem adx_lo {ad f : Nat → Nat} {n i : Nat} (h : i < n) : adx ad n f i = ad i := if_pos h
theorem adx_hi {ad f : Nat → Nat} {n i : Nat} : adx ad n f (n + i) = f i := by
  unfold adx
  rw [if_neg (by omega)]
  congr 1
  omega
/-- cells come -/
theorem WI.push {H H1 : Heap} {locs locs1 : List Loc} (hP : WI K Y σ ad H locs) (Ys : List Sh) (f : Nat → Nat) (q1 : va_P (kD K) vwCl (wd (kcy K) ad σ 0 Y ++ wd (kcy K) (adx ad Y.length f) σ Y.length Ys) H1) (q2 : va_D (kA K) (wd (kcy K) ad σ 0 Y ++ wd (kcy K) (adx ad Y.length f) σ Y.length Ys)) (q3 : va_S (kA K) (ks K).heap H1 locs1)
    (hc : ∀ i sh, Ys[i]? = some sh → shc σ (Y.length + Ys.length) (Y.length + i) sh) : WI K (Y ++ Ys) σ (adx ad Y.length f) H1 locs1 := by
  have hw : wd (kcy K) (adx ad Y.length f) σ 0 (Y ++ Ys) = wd (kcy K) ad σ 0 Y ++ wd (kcy K) (adx ad Y.length f) σ Y.length Ys := by
    rw [wd_app, wd_same hP.2.2.2.2.2 (fun j hj => adx_lo hj) (fun i _ => ⟨rfl, rfl, fun _ => rfl⟩), Nat.zero_add]
  rw [← hw] at q1 q2
  have key : ∀ i, i < (Y ++ Ys).length → ∃ e, (wd (kcy K) (adx ad Y.length f) σ 0 (Y ++ Ys))[i]? = some (adx ad Y.length f i, e) := fun i hi => ⟨_, wd_at (List.getElem?_eq_getElem hi)⟩
  refine ⟨q1, q3, fun i j hi hj hij => ?_, fun i hi => ?_, fun o k ho => hP.2.2.2.2.1 o k (by rw [List.length_append] at ho; omega), fun i sh hi => ?_⟩
  · obtain ⟨e1, h1⟩ := key i hi
    obtain ⟨e2, h2⟩ := key j hj
    exact q2.1 i j _ _ h1 h2 hij
  · obtain ⟨e1, h1⟩ := key i hi
    exact q2.2 i _ h1
  · rw [List.length_append]
    by_cases h1 : i < Y.length
    · rw [List.getElem?_append_left h1] at hi
      exact shc_mono (by omega) (hP.2.2.2.2.2 i sh hi)
    · rw [List.getElem?_append_right (by omega)] at hi
      have := hc _ sh hi
      rw [show Y.length + (i - Y.length) = i by omega] at this
      exact this
/-- one cell comes -/
theorem WI.push1 {H H1 : Heap} {locs locs1 : List Loc} {sh : Sh} {e : va_E} {q : Nat} (hP : WI K Y σ ad H locs) (q1 : va_P (kD K) vwCl (wd (kcy K) ad σ 0 Y ++ [(q, e)]) H1) (q2 : va_D (kA K) (wd (kcy K) ad σ 0 Y ++ [(q, e)])) (q3 : va_S (kA K) (ks K).heap H1 locs1)
    (he : ∀ ad', ent (kcy K) ad' σ Y.length sh = e) (hc : shc σ (Y.length + 1) Y.length sh) : ∃ ad', (∀ i, i < Y.length → ad' i = ad i) ∧ ad' Y.length = q ∧ WI K (Y ++ [sh]) σ ad' H1 locs1 := by
  have eN : adx ad Y.length (fun _ => q) Y.length = q := by
    have := adx_hi (ad := ad) (f := fun _ => q) (n := Y.length) (i := 0)
    exact this
  have hw : wd (kcy K) (adx ad Y.length (fun _ => q)) σ Y.length [sh] = [(q, e)] := by
    show [(adx ad Y.length (fun _ => q) Y.length, ent (kcy K) (adx ad Y.length (fun _ => q)) σ Y.length sh)] = _
    rw [eN, he]
  refine ⟨adx ad Y.length (fun _ => q), fun i hi => adx_lo hi, eN, hP.push [sh] (fun _ => q) (by rw [hw]; exact q1) (by rw [hw]; exact q2) q3 (fun i s hi => ?_)⟩
  have hz0 : i < 1 := (List.getElem?_eq_some_iff.mp hi).1
  rw [show i = 0 by omega] at hi ⊢
  cases hi
  exact hc
theorem n_new (C : CxI K cc own nL d mc ms) {kx index N : Nat} {C0 : String} {T : u_T} {ty0 : Nat → FieldType} {sl : List (Nat × Nat)} (hd : decode cc pc = .ok (.new index, 3)) (hc : vwCl[kx]? = some (C0, T, N)) (hin : ∀ w ∈ u_ws C0 T N, w ∈ AL) (hty : ∀ k, k < N → parseFieldDescriptor (T k).2.2.1 = some (ty0 k)) (h1 : Cond.classLink own index C0 ∈ AL) (h2 : Cond.instantiable C0 N ∈ AL) (h3 : Cond.initialized C0 ∈ AL) (hb : bare sl = true) (hdf : ∀ j, j < N → defaultValue (ty0 j) = vp_V (dfl sl) j) (hci : ci + 1 ≤ mc) (hsi : si + N ≤ ms)
    (kk : ∀ ad', (∀ i, i < Y.length → ad' i = ad i) → (∀ k, rI σ Y.length k = 0 ∧ rJ σ Y.length k = 0) → GW K (pc + 3) L (.ref (ad' Y.length) :: st) (ci + 1) (si + N) (WI K (Y ++ [(0, kx, sl)]) σ ad')) : GW K pc L st ci si (WI K Y σ ad) := fun H locs ls hP hL => by
  have hm1 := C.2.2.2.2.2.1
  have hm2 := C.2.2.2.2.2.2
  refine va_new (fs := dfl sl) C.1.x C.1.b C.1.fix.2.2.2.2 hin ty0 hty C.1.o (C.1.t h1) (C.1.t h2) (C.1.t h3) C.2.2.1 hP.1 hP.D hP.2.1 C.2.2.2.1 hc hdf (by omega) (by omega) hd (fun q H1 q1 q2 q3 => ?_)
  obtain ⟨ad', e0, eN, hW⟩ := hP.push1 (sh := (0, kx, sl)) q1 q2 q3 (fun ad' => congrArg (fun z => Sum.inr (kx, z)) (slv_dfl (fun k => hP.2.2.2.2.1 _ k (Nat.le_refl _)) sl 0 hb)) ⟨fun _ => slc_bare sl 0 hb, fun e => absurd rfl e⟩
  have hk := kk ad' e0 (fun k => hP.2.2.2.2.1 _ k (Nat.le_refl _)) H1 locs ls hW hL
  rw [eN] at hk
  exact hk
theorem zI (hz : Zb σ Y.length) : rI σ Y.length = fun _ => 0 := funext fun k => (hz _ k (Nat.le_refl _)).1
theorem zJ (hz : Zb σ Y.length) : rJ σ Y.length = fun _ => 0 := funext fun k => (hz _ k (Nat.le_refl _)).2
theorem n_newI (C : CxI K cc own nL d mc ms) {n : Int32} {N : Nat} (hd : decode cc pc = .ok (.newarray .int, 2)) (hw : Cond.arrayClass .int ∈ AL) (hn : ¬ n < 0) (hN : n.toNatClampNeg = N) (hb : N * 4 ≤ 536870912) (hci : ci + 1 ≤ mc) (hsi : si + N ≤ ms)
    (kk : ∀ ad', (∀ i, i < Y.length → ad' i = ad i) → GW K (pc + 2) L (.ref (ad' Y.length) :: st) (ci + 1) (si + N) (WI K (Y ++ [(1, N, [])]) σ ad')) : GW K pc L (.int n :: st) ci si (WI K Y σ ad) := fun H locs ls hP hL => by
  have hm1 := C.2.2.2.2.2.1
  have hm2 := C.2.2.2.2.2.2
  refine va_newa (atype := .int) (ty := .int) (a0 := (N, .inl (fun _ => 0))) C.1.x C.1.b (C.1.t hw) rfl C.2.2.1 hP.1 hP.D hP.2.1 C.2.2.2.1 (fun cA => by rw [vp_cell_i]; rfl) hn hN (by show N * 4 ≤ _; exact hb) (by omega) (by omega) hd (fun q cA H1 qK q1 q2 q3 => ?_)
  have ec : cA = kcy K 0 := by
    have a1 : va_RA (ks K) cA .int := (qK.2 5 (cA, .int) rfl).2
    have a2 : va_RA (ks K) (kcy K 0) .int := (C.2.2.1.2 0 _ rfl).2
    exact Option.some.inj (a1.symm.trans a2)
  subst ec
  obtain ⟨ad', e0, eN, hW⟩ := hP.push1 (sh := (1, N, [])) q1 q2 q3 (fun ad' => by show Sum.inl (kcy K 0, N, Sum.inl (rI σ Y.length)) = _; rw [zI hP.2.2.2.2.1]) ⟨fun e => (by cases e), fun _ j hj => absurd hj (Nat.not_lt_zero _)⟩
  have hk := kk ad' e0 H1 locs ls hW hL
  rw [eN] at hk
  exact hk
theorem n_newJ (C : CxI K cc own nL d mc ms) {n : Int32} {N : Nat} (hd : decode cc pc = .ok (.newarray .long, 2)) (hw : Cond.arrayClass .long ∈ AL) (hn : ¬ n < 0) (hN : n.toNatClampNeg = N) (hb : N * 8 ≤ 536870912) (hci : ci + 1 ≤ mc) (hsi : si + N ≤ ms)
    (kk : ∀ ad', (∀ i, i < Y.length → ad' i = ad i) → GW K (pc + 2) L (.ref (ad' Y.length) :: st) (ci + 1) (si + N) (WI K (Y ++ [(2, N, [])]) σ ad')) : GW K pc L (.int n :: st) ci si (WI K Y σ ad) := fun H locs ls hP hL => by
  have hm1 := C.2.2.2.2.2.1
  have hm2 := C.2.2.2.2.2.2
  refine va_newa (atype := .long) (ty := .long) (a0 := (N, .inr (.inl (fun _ => 0)))) C.1.x C.1.b (C.1.t hw) rfl C.2.2.1 hP.1 hP.D hP.2.1 C.2.2.2.1 (fun cA => by rw [vp_cell_l]; rfl) hn hN (by show N * 8 ≤ _; exact hb) (by omega) (by omega) hd (fun q cA H1 qK q1 q2 q3 => ?_)
  have ec : cA = kcy K 1 := by
    have a1 : va_RA (ks K) cA .long := (qK.2 5 (cA, .long) rfl).2
    have a2 : va_RA (ks K) (kcy K 1) .long := (C.2.2.1.2 1 _ rfl).2
    exact Option.some.inj (a1.symm.trans a2)
  subst ec
  obtain ⟨ad', e0, eN, hW⟩ := hP.push1 (sh := (2, N, [])) q1 q2 q3 (fun ad' => by show Sum.inl (kcy K 1, N, Sum.inr (Sum.inl (rJ σ Y.length))) = _; rw [zJ hP.2.2.2.2.1]) ⟨fun e => (by cases e), fun _ j hj => absurd hj (Nat.not_lt_zero _)⟩
  have hk := kk ad' e0 H1 locs ls hW hL
  rw [eN] at hk
  exact hk
theorem n_newZ (C : CxI K cc own nL d mc ms) {n : Int32} {N : Nat} (hd : decode cc pc = .ok (.newarray .boolean, 2)) (hw : Cond.arrayClass .boolean ∈ AL) (hn : ¬ n < 0) (hN : n.toNatClampNeg = N) (hb : N * 1 ≤ 536870912) (hci : ci + 1 ≤ mc) (hsi : si + N ≤ ms)
    (kk : ∀ ad', (∀ i, i < Y.length → ad' i = ad i) → GW K (pc + 2) L (.ref (ad' Y.length) :: st) (ci + 1) (si + N) (WI K (Y ++ [(3, N, [])]) σ ad')) : GW K pc L (.int n :: st) ci si (WI K Y σ ad) := fun H locs ls hP hL => by
  have hm1 := C.2.2.2.2.2.1
  have hm2 := C.2.2.2.2.2.2
  refine va_newa (atype := .boolean) (ty := .boolean) (a0 := (N, .inl (fun _ => 0))) C.1.x C.1.b (C.1.t hw) rfl C.2.2.1 hP.1 hP.D hP.2.1 C.2.2.2.1 (fun cA => by rw [vp_cell_i]; rfl) hn hN (by show N * 1 ≤ _; exact hb) (by omega) (by omega) hd (fun q cA H1 qK q1 q2 q3 => ?_)
  have ec : cA = kcy K 2 := by
    have a1 : va_RA (ks K) cA .boolean := (qK.2 5 (cA, .boolean) rfl).2
    have a2 : va_RA (ks K) (kcy K 2) .boolean := (C.2.2.1.2 2 _ rfl).2
    exact Option.some.inj (a1.symm.trans a2)
  subst ec
  obtain ⟨ad', e0, eN, hW⟩ := hP.push1 (sh := (3, N, [])) q1 q2 q3 (fun ad' => by show Sum.inl (kcy K 2, N, Sum.inl (rI σ Y.length)) = _; rw [zI hP.2.2.2.2.1]) ⟨fun e => (by cases e), fun _ j hj => absurd hj (Nat.not_lt_zero _)⟩
  have hk := kk ad' e0 H1 locs ls hW hL
  rw [eN] at hk
  exact hk
theorem n_newA (C : CxI K cc own nL d mc ms) {n : Int32} {N b index : Nat} (hd : decode cc pc = .ok (.anewarray index, 3)) (hw : Cond.classLink own index RX0 ∈ AL) (hn : ¬ n < 0) (hN : n.toNatClampNeg = N) (hb : N * 4 ≤ 536870912) (hci : ci + 1 ≤ mc) (hsi : si + N ≤ ms)
    (kk : ∀ ad', (∀ i, i < Y.length → ad' i = ad i) → GW K (pc + 3) L (.ref (ad' Y.length) :: st) (ci + 1) (si + N) (WI K (Y ++ [(4, N, [(b, 0)])]) σ ad')) : GW K pc L (.int n :: st) ci si (WI K Y σ ad) := fun H locs ls hP hL => by
  have hm1 := C.2.2.2.2.2.1
  have hm2 := C.2.2.2.2.2.2
  refine va_newq (C := RX0) C.1.x C.1.b C.1.o (C.1.t hw) C.2.2.2.2.1.2.1 C.2.2.1 hP.1 hP.D hP.2.1 C.2.2.2.1 hn hN hb (by omega) (by omega) hd (fun q cA H1 qK q1 q2 q3 => ?_)
  have ec : cA = kcy K 3 := by
    obtain ⟨_, _, -, -, -, a1⟩ : va_RA (ks K) cA (.object RX0) := (qK.2 5 (cA, .object RX0) rfl).2
    obtain ⟨_, _, -, -, -, a2⟩ : va_RA (ks K) (kcy K 3) (.object RX0) := (C.2.2.1.2 3 _ rfl).2
    exact Option.some.inj (a1.symm.trans a2)
  subst ec
  obtain ⟨ad', e0, eN, hW⟩ := hP.push1 (sh := (4, N, [(b, 0)])) q1 q2 q3 (fun ad' => by
    show Sum.inl (kcy K 3, N, Sum.inr (Sum.inr (Sum.inr (Sum.inr (fun j => if j < 0 then some (ad' (Y.length + b + j)) else none))))) = _
    congr 8) ⟨fun e => (by cases e), fun _ j hj => absurd hj (Nat.not_lt_zero _)⟩
  have hk := kk ad' e0 H1 locs ls hW hL
  rw [eN] at hk
  exact hk
theorem n_iast (C : CxI K cc own nL d mc ms) {o n : Nat} {z : List (Nat × Nat)} {i x : Int32} (hd : decode cc pc = .ok (.iastore, 1)) (hY : Y[o]? = some (1, n, z)) (hi : inb i n = true)
    (kk : GW K (pc + 1) L st ci si (WI K Y (wI σ o i.toNatClampNeg x) ad)) : GW K pc L (.int x :: .int i :: .ref (ad o) :: st) ci si (WI K Y σ ad) := fun H locs ls hP hL => by
  have he : (wd (kcy K) ad σ 0 Y)[o]? = some (ad o, .inl (kcy K 0, n, .inl (rI σ o))) := wd_at hY
  have hlt : o < Y.length := lay_lt hY
  have hw := wd_put (cys := kcy K) (ad := ad) (σ := σ) (σ' := wI σ o i.toNatClampNeg x) (e := .inl (kcy K 0, n, .inl (upd (rI σ o) i.toNatClampNeg x))) hY (fun q sh h => ent_wI q sh h) (by show Sum.inl (kcy K 0, n, Sum.inl (rI _ o)) = _; rw [rI_upd])
  refine va_iast C.1.x C.1.b C.2.2.1 hP.1 hP.D hP.2.1 o 0 he rfl (inb_in hi) hd (fun H1 locs1 q1 q2 q3 => kk H1 locs1 ls ⟨hw ▸ q1, q3, hP.2.2.1, hP.2.2.2.1, fun p k hp => ?_, fun j sh hj => shc_R (σ := σ) (fun _ => rfl) (hP.2.2.2.2.2 j sh hj)⟩ hL)
  have := hP.2.2.2.2.1 p k hp
  refine ⟨?_, this.2⟩
  have hne : ¬ p = o := by omega
  show (if p = o ∧ k = _ then x else σ.1 p k) = 0
  rw [if_neg (fun q => hne q.1)]
  exact this.1
theorem n_aast (C : CxI K cc own nL d mc ms) {o v n b k : Nat} {sl : List (Nat × Nat)} {i : Int32} (hd : decode cc pc = .ok (.aastore, 1)) (hY : Y[o]? = some (4, n, [(b, k)])) (hv : Y[v]? = some (0, 0, sl)) (hi : inb i n = true) (hik : i.toNatClampNeg = k) (hvk : v = o + b + k)
    (kk : GW K (pc + 1) L st ci si (WI K (Y.set o (4, n, [(b, k + 1)])) σ ad)) : GW K pc L (.ref (ad v) :: .int i :: .ref (ad o) :: st) ci si (WI K Y σ ad) := fun H locs ls hP hL => by
  have he : (wd (kcy K) ad σ 0 Y)[o]? = some (ad o, .inl (kcy K 3, n, .inr (.inr (.inr (.inr (fun j => if j < k then some (ad (o + b + j)) else none)))))) := wd_at hY
  have hev : (wd (kcy K) ad σ 0 Y)[v]? = some (ad v, .inr (0, slv ad σ v 0 sl)) := wd_at hv
  have hlt : o < Y.length := lay_lt hY
  have hltv : v < Y.length := lay_lt hv
  have hw : (wd (kcy K) ad σ 0 Y).set o (ad o, .inl (kcy K 3, n, .inr (.inr (.inr (.inr (va_up (fun j => if j < k then some (ad (o + b + j)) else none) i.toNatClampNeg (some (ad v)))))))) = wd (kcy K) ad σ 0 (Y.set o (4, n, [(b, k + 1)])) := by
    have := wd_setY (cys := kcy K) (ad := ad) (σ := σ) (sh := (4, n, [(b, k + 1)])) Y 0 o
    rw [Nat.zero_add] at this
    rw [← this]
    congr 2
    show Sum.inl (kcy K 3, n, _) = Sum.inl (kcy K 3, n, Sum.inr (Sum.inr (Sum.inr (Sum.inr (fun j => if j < k + 1 then some (ad (o + b + j)) else none)))))
    congr 7
    funext j
    unfold va_up
    rw [hik, hvk]
    by_cases h1 : j = k
    · subst h1
      rw [if_pos rfl, if_pos (by omega)]
    · rw [if_neg h1]
      show (if j < k then some (ad (o + b + j)) else none) = _
      by_cases h2 : j < k
      · rw [if_pos h2, if_pos (by omega)]
      · rw [if_neg h2, if_neg (by omega)]
  refine va_astq (r := (RX0, TX0, 6)) C.1.x C.1.b C.2.2.1 hP.1 hP.D hP.2.1 o 3 v 0 he rfl hev rfl (inb_in hi) hd (fun H1 locs1 q1 q2 q3 => kk H1 locs1 ls ⟨hw ▸ q1, q3, ?_, ?_, ?_, ?_⟩ hL)
  · rw [List.length_set]; exact hP.2.2.1
  · rw [List.length_set]; exact hP.2.2.2.1
  · rw [List.length_set]; exact hP.2.2.2.2.1
  · intro j sh hj
    rw [List.length_set]
    rw [List.getElem?_set] at hj
    split at hj
    next e =>
      subst e
      first | cases hj | (rw [if_pos hlt] at hj; cases hj)
      refine ⟨fun e => (by cases e), fun _ q hq => ?_⟩
      have hc := hP.2.2.2.2.2 o _ hY
      have hq' : q < k + 1 := hq
      show o + b + q < Y.length
      by_cases h2 : q < k
      · exact hc.2 (fun e => by cases e) q h2
      · omega
    next e => exact hP.2.2.2.2.2 j sh hj
theorem vr_outer (c : ClassId) (N h0 : Nat) : ∀ i : Nat, Jvm.Free.Multi.outerC c N h0 i = arrV c N (fun j => va_rf (if j < i then some (h0 + 1 + j) else none))
  | 0 => by
    show ({ cls := c, slots := Array.replicate N .null, vm := .none } : Cell) = _
    rw [arrV_new]
    refine congrArg (arrV c N) (funext fun j => ?_)
    simp [va_rf]
  | i + 1 => by
    show (Jvm.Free.Multi.outerC c N h0 i).setSlot i (.ref (h0 + 1 + i)) = _
    rw [vr_outer c N h0 i, arrV_store]
    refine congrArg (arrV c N) (funext fun j => ?_)
    by_cases e : j = i
    · subst e
      simp [updV, va_rf]
    · by_cases h : j < i
      · simp [updV, e, h, Nat.lt_succ_of_lt h]
      · simp [updV, e, h, show ¬ j < i + 1 by omega]
theorem wd_rep {cys : Nat → ClassId} {ad : Nat → Nat} {σ : Sg} {sh : Sh} : ∀ (n i0 k : Nat) (q : Nat × va_E), (wd cys ad σ i0 (List.replicate n sh))[k]? = some q → k < n ∧ q = (ad (i0 + k), ent cys ad σ (i0 + k) sh) := by
  intro n i0 k q h
  rw [wd_get, List.getElem?_replicate] at h
  split at h
  next hk => cases h; exact ⟨hk, rfl⟩
  next => cases h
theorem n_alen (C : CxI K cc own nL d mc ms) {o n b k : Nat} {v : Int32} (hd : decode cc pc = .ok (.arraylength, 1)) (hY : Y[o]? = some (4, n, [(b, k)])) (hv : Int32.ofNat n = v)
    (kk : GW K (pc + 1) L (.int v :: st) ci si (WI K Y σ ad)) : GW K pc L (.ref (ad o) :: st) ci si (WI K Y σ ad) := fun H locs ls hP hL => by
  have he : (wd (kcy K) ad σ 0 Y)[o]? = some (ad o, .inl (kcy K 3, n, .inr (.inr (.inr (.inr (fun j => if j < k then some (ad (o + b + j)) else none)))))) := wd_at hY
  exact va_alen C.1.x C.1.b C.2.2.1 hP.1 o 3 he rfl hv hd (kk H locs ls hP hL)
theorem n_mna (C : CxI K cc own nL d mc ms) {n m : Int32} {N M index : Nat} (hd : decode cc pc = .ok (.multianewarray index 2, 4)) (hw : Cond.classLink own index ("[" ++ (FieldType.array .int).toString) ∈ AL) (hw2 : Cond.arrayClass .int ∈ AL) (hn : ¬ n < 0) (hm : ¬ m < 0) (hN : n.toNatClampNeg = N) (hM : m.toNatClampNeg = M) (hb1 : N * 4 ≤ 536870912) (hb2 : M * 4 ≤ 536870912) (hci : ci + (1 + N) ≤ mc) (hsi : si + (N + N * M) ≤ ms)
    (kk : ∀ ad', (∀ i, i < Y.length → ad' i = ad i) → GW K (pc + 4) L (.ref (ad' Y.length) :: st) (ci + 1 + N) (si + N + N * M) (WI K (Y ++ ((5, N, [(1, N)]) :: List.replicate N (1, M, []))) σ ad')) : GW K pc L (.int m :: .int n :: st) ci si (WI K Y σ ad) := fun H locs ls hP hL => by
  subst hN
  subst hM
  have hm1 := C.2.2.2.2.2.1
  have hm2 := C.2.2.2.2.2.2
  intro T hT Xs
  obtain ⟨vm₁, cA, comp, -, fA, fC, -, -, X', step⟩ := Xs.multianewarray2F C.1.x C.1.o (C.1.t hw) (va_AOA.use C.2.2.2.2.1.2.2) (C.1.t hw2) (g := F0 (km K) pc ls (.int m :: .int n :: st)) rfl (by rw [C.1.b]; exact hd) rfl hn hm hb1 (by show _ * 4 ≤ _; exact hb2) (by omega) rfl rfl (by omega) (by omega)
  have eA : cA = kcy K 4 := by
    have a2 : va_RA (ks K) (kcy K 4) (.array .int) := (C.2.2.1.2 4 _ rfl).2
    exact Option.some.inj (fA.symm.trans a2)
  have eC : comp = kcy K 0 := by
    have a2 : va_RA (ks K) (kcy K 0) .int := (C.2.2.1.2 0 _ rfl).2
    exact Option.some.inj (fC.symm.trans a2)
  subst eA
  subst eC
  generalize hF : Jvm.Free.Multi.fill (T.setVm vm₁) (kcy K 4) (kcy K 0) n.toNatClampNeg m.toNatClampNeg (defaultValue .int) n.toNatClampNeg = F at X' step
  have hTh : (T.setVm vm₁).heap = H := hT
  obtain ⟨f1, f2, -, -⟩ := Jvm.Free.Multi.fill_facts (T.setVm vm₁) (kcy K 4) (kcy K 0) n.toNatClampNeg m.toNatClampNeg (defaultValue .int) n.toNatClampNeg
  rw [hF, hTh] at f1 f2
  have hold : ∀ x : Nat, x < H.size → F.heap[x]? = H[x]? := fun x hx => by
    have := Jvm.Free.Multi.fill_old (T.setVm vm₁) (kcy K 4) (kcy K 0) n.toNatClampNeg m.toNatClampNeg (defaultValue .int) (a := x) (by rw [hTh]; exact hx) n.toNatClampNeg
    rw [hF, hTh] at this
    exact this
  have hrow : ∀ j : Nat, j < n.toNatClampNeg → F.heap[H.size + 1 + j]? = some (Jvm.Free.Multi.innerC (kcy K 0) m.toNatClampNeg (defaultValue .int)) := fun j hj => by
    have := Jvm.Free.Multi.fill_inner (T.setVm vm₁) (kcy K 4) (kcy K 0) n.toNatClampNeg m.toNatClampNeg (defaultValue .int) n.toNatClampNeg j hj
    rw [hF, hTh] at this
    exact this
  have hz := hP.2.2.2.2.1
  have fz : ∀ j, rI σ (Y.length + j) = fun _ => 0 := fun j => funext fun k => (hz _ k (by omega)).1
  -- the new cells' addresses
  have hN0 : adx ad Y.length (fun i => H.size + i) Y.length = H.size := adx_hi (i := 0)
  have hNj : ∀ j, adx ad Y.length (fun i => H.size + i) (Y.length + j) = H.size + j := fun j => adx_hi
  have hat : ∀ (k : Nat) (q : Nat × va_E), (wd (kcy K) (adx ad Y.length (fun i => H.size + i)) σ Y.length ((5, n.toNatClampNeg, [(1, n.toNatClampNeg)]) :: List.replicate n.toNatClampNeg (1, m.toNatClampNeg, [])))[k]? = some q → q.1 = H.size + k ∧ va_at (kD K) vwCl q F.heap := by
    intro k q h
    simp only [wd] at h
    cases k with
    | zero =>
      rw [List.getElem?_cons_zero] at h
      cases h
      refine ⟨hN0, ?_⟩
      show F.heap[adx ad Y.length (fun i => H.size + i) Y.length]? = some (vp_cell (kcy K 4) (n.toNatClampNeg, .inr (.inr (.inr (.inr (fun j => if j < n.toNatClampNeg then some (adx ad Y.length (fun i => H.size + i) (Y.length + 1 + j)) else none))))))
      rw [hN0, f2, vr_outer, vp_cell_q]
      congr 3
      funext j
      have e9 : adx ad Y.length (fun i => H.size + i) (Y.length + 1 + j) = H.size + 1 + j := by rw [Nat.add_assoc, hNj]; omega
      rw [e9]
    | succ k =>
      rw [List.getElem?_cons_succ] at h
      obtain ⟨hk, hq⟩ := wd_rep _ _ _ _ h
      subst hq
      have e1 : adx ad Y.length (fun i => H.size + i) (Y.length + 1 + k) = H.size + (k + 1) := by rw [Nat.add_assoc, hNj]; omega
      refine ⟨e1, ?_⟩
      show F.heap[adx ad Y.length (fun i => H.size + i) (Y.length + 1 + k)]? = some (vp_cell (kcy K 0) (m.toNatClampNeg, .inl (rI σ (Y.length + 1 + k))))
      rw [e1, show H.size + (k + 1) = H.size + 1 + k by omega, hrow k hk, Nat.add_assoc, fz, vp_cell_i]
      exact congrArg some (by show ({ cls := kcy K 0, slots := Array.replicate m.toNatClampNeg (.int 0), vm := .none } : Cell) = _; rw [arrV_new])
  have hPold : va_P (kD K) vwCl (wd (kcy K) ad σ 0 Y) F.heap := hP.1.kept (fun k x hx => hold x.1 ((hP.1 k x hx).lt))
  have hPnew : va_P (kD K) vwCl (wd (kcy K) (adx ad Y.length (fun i => H.size + i)) σ Y.length ((5, n.toNatClampNeg, [(1, n.toNatClampNeg)]) :: List.replicate n.toNatClampNeg (1, m.toNatClampNeg, []))) F.heap := fun k q h => (hat k q h).2
  have hS0 := hP.2.1.1
  have hDD : va_D (kA K) (wd (kcy K) ad σ 0 Y ++ wd (kcy K) (adx ad Y.length (fun i => H.size + i)) σ Y.length ((5, n.toNatClampNeg, [(1, n.toNatClampNeg)]) :: List.replicate n.toNatClampNeg (1, m.toNatClampNeg, []))) :=
    va_D.app hP.D ⟨fun i j p q h1 h2 h3 => by have := (hat i p h1).1; have := (hat j q h2).1; omega, fun k q h => C.2.2.2.1 _ (by have := (hat k q h).1; omega)⟩
      (fun i j p q h1 h2 => by have := (hP.1 i p h1).lt; have := (hat j q h2).1; omega)
  have hSn : va_S (kA K) (ks K).heap F.heap locs := ⟨by rw [f1]; omega, fun x h1 h2 => by rw [hold x (Nat.lt_of_lt_of_le h1 hS0)]; exact hP.2.1.2.1 x h1 h2, hP.2.1.2.2⟩
  have hW := hP.push ((5, n.toNatClampNeg, [(1, n.toNatClampNeg)]) :: List.replicate n.toNatClampNeg (1, m.toNatClampNeg, [])) (fun i => H.size + i) (hPold.app hPnew) hDD hSn (fun i sh hi => by
    rw [List.length_cons, List.length_replicate]
    cases i with
    | zero =>
      rw [List.getElem?_cons_zero] at hi
      cases hi
      refine ⟨fun e => (by cases e), fun _ j hj => ?_⟩
      have hj' : j < n.toNatClampNeg := hj
      show Y.length + 0 + 1 + j < _
      omega
    | succ i =>
      rw [List.getElem?_cons_succ, List.getElem?_replicate] at hi
      split at hi
      · cases hi
        exact ⟨fun e => (by cases e), fun _ j hj => absurd hj (Nat.not_lt_zero _)⟩
      · cases hi)
  have hk := kk _ (fun i hi => adx_lo hi) F.heap locs ls hW hL
  rw [hN0] at hk
  obtain ⟨t, a1, b1⟩ := hk F rfl X'
  refine ⟨t, step t ?_, b1⟩
  have e : T.heap.size = H.size := by rw [hT]
  rw [e]
  exact a1
end GWI
section GPut
variable {K : KT} {cc : ByteArray} {own : String} {nL d mc ms pc ci si : Nat} {L : List (Option Value)} {st : List Value} {Y : List Sh} {σ : Sg} {ad : Nat → Nat}
theorem wd_putS {cys : Nat → ClassId} {o kx k : Nat} {sl : List (Nat × Nat)} {s : Nat × Nat} {v : Value} (hv : slotV ad σ o k s = v) : (wd cys ad σ 0 Y).set o (ad o, .inr (kx, (slv ad σ o 0 sl).set k v)) = wd cys ad σ 0 (Y.set o (0, kx, sl.set k s)) := by
  have h1 := wd_setY (cys := cys) (ad := ad) (σ := σ) (sh := (0, kx, sl.set k s)) Y 0 o
  have h2 := slv_setS (ad := ad) (σ := σ) (i := o) (s := s) sl 0 k
  rw [Nat.zero_add] at h1 h2
  rw [← h1, ← hv, h2]
  rfl
theorem slc_set {N i : Nat} {s : Nat × Nat} : ∀ (l : List (Nat × Nat)) (k0 k : Nat), slc σ N i k0 l → (s.1 = 2 → i + s.2 < N) → (s.1 = 3 → rR σ i (k0 + k) < N) → slc σ N i k0 (l.set k s)
  | [], _, _, _, _, _ => trivial
  | a :: t, k0, 0, q, h1, h2 => ⟨h1, h2, q.2.2⟩
  | a :: t, k0, k + 1, q, h1, h2 => ⟨q.1, q.2.1, slc_set t (k0 + 1) k q.2.2 h1 (by rw [show k0 + 1 + k = k0 + (k + 1) by omega]; exact h2)⟩
theorem Cl_set {o kx k : Nat} {sl : List (Nat × Nat)} {s : Nat × Nat} (hc : Cl σ Y) (hY : Y[o]? = some (0, kx, sl)) (h1 : s.1 = 2 → o + s.2 < Y.length) (h2 : s.1 = 3 → rR σ o k < Y.length) : Cl σ (Y.set o (0, kx, sl.set k s)) := by
  intro i sh hi
  rw [List.length_set]
  rw [List.getElem?_set] at hi
  split at hi
  next e =>
    subst e
    have hlt := lay_lt hY
    first | cases hi | (rw [if_pos hlt] at hi; cases hi)
    exact ⟨fun _ => slc_set sl 0 k ((hc o _ hY).1 rfl) h1 (by rw [Nat.zero_add]; exact h2), fun e => absurd rfl e⟩
  next e => exact hc i sh hi
theorem slv_setS' {ad : Nat → Nat} {σ σ' : Sg} {i : Nat} {s : Nat × Nat} : ∀ (l : List (Nat × Nat)) (k0 k : Nat) {s0 : Nat × Nat}, l[k]? = some s0 → (∀ q t, q ≠ k0 + k → slotV ad σ' i q t = slotV ad σ i q t) → (slv ad σ i k0 l).set k (slotV ad σ' i (k0 + k) s) = slv ad σ' i k0 (l.set k s)
  | [], _, _, _, h, _ => by simp at h
  | a :: t, k0, 0, _, _, hq => by
    simp only [slv, List.set_cons_zero, Nat.add_zero]
    rw [slv_eq t (k0 + 1) (fun q u hu => (hq q u (by omega)))]
  | a :: t, k0, k + 1, s0, h, hq => by
    rw [List.getElem?_cons_succ] at h
    simp only [slv, List.set_cons_succ]
    rw [hq k0 a (by omega), show k0 + (k + 1) = k0 + 1 + k by omega, slv_setS' t (k0 + 1) k h (fun q u hu => hq q u (by omega))]
theorem slc_R2 {σ σ' : Sg} {N i k : Nat} (h : ∀ q, q ≠ k → rR σ' i q = rR σ i q) : ∀ (l : List (Nat × Nat)) (k0 : Nat), (∀ j, k0 + j = k → l[j]? = some (4, 0) ∨ l.length ≤ j) → slc σ N i k0 l → slc σ' N i k0 l
  | [], _, _, _ => trivial
  | s :: t, k0, h4, q => by
    refine ⟨q.1, fun e => ?_, slc_R2 h t (k0 + 1) (fun j hj => ?_) q.2.2⟩
    · by_cases hk : k0 = k
      · rcases h4 0 (by omega) with h5 | h5
        · rw [List.getElem?_cons_zero] at h5
          cases h5
          cases e
        · simp at h5
      · rw [h k0 hk]; exact q.2.1 e
    · rcases h4 (j + 1) (by omega) with h5 | h5
      · exact Or.inl (by rw [List.getElem?_cons_succ] at h5; exact h5)
      · exact Or.inr (by simp at h5; exact h5)
/-- a reference to a cell further on -/
theorem n_putC (C : CxI K cc own nL d mc ms) {o kx k index N off v : Nat} {C0 : String} {T : u_T} {ty0 : Nat → FieldType} {sl : List (Nat × Nat)} (hin2 : (kmeth K).name = "<init>") (hd : decode cc pc = .ok (.putfield index, 3)) (hY : Y[o]? = some (0, kx, sl)) (hlen : k < sl.length) (hc : vwCl[kx]? = some (C0, T, N)) (hk : k < N) (hl : Cond.fieldLink own index (T k).1 (T k).2.1 (T k).2.2.1 ∈ AL) (hin : ∀ w ∈ u_ws C0 T N, w ∈ AL)
    (hty : ∀ k, k < N → parseFieldDescriptor (T k).2.2.1 = some (ty0 k)) (hnm : ∀ a, a < N → ∀ b, b < N → a ≠ b → (T a).2.1 ≠ (T b).2.1) (hdecl : (T k).1 = own) (hn : ∀ a, narrow (ty0 k) (.ref a) = .ref a) (hf : ∀ a, fits (ty0 k) (.ref a) = true) (hv : o + off = v) (hb : v < Y.length)
    (kk : GW K (pc + 3) L st ci si (WI K (Y.set o (0, kx, sl.set k (2, off))) σ ad)) : GW K pc L (.ref (ad v) :: .ref (ad o) :: st) ci si (WI K Y σ ad) := by
  subst hv
  exact n_put C hin2 hd hY hlen hc hk hl hin hty hnm hdecl (hn _) (hf _) (wd_putS rfl) (by rw [List.length_set]) (fun h => by rw [List.length_set]; exact h) (fun h => Cl_set h hY (fun _ => hb) (fun e => (by cases e))) kk
theorem n_putI (C : CxI K cc own nL d mc ms) {o kx k index N z : Nat} {C0 : String} {T : u_T} {ty0 : Nat → FieldType} {sl : List (Nat × Nat)} {v : Int32} (hin2 : (kmeth K).name = "<init>") (hd : decode cc pc = .ok (.putfield index, 3)) (hY : Y[o]? = some (0, kx, sl)) (hs : sl[k]? = some (0, z)) (hc : vwCl[kx]? = some (C0, T, N)) (hk : k < N) (hl : Cond.fieldLink own index (T k).1 (T k).2.1 (T k).2.2.1 ∈ AL) (hin : ∀ w ∈ u_ws C0 T N, w ∈ AL)
    (hty : ∀ k, k < N → parseFieldDescriptor (T k).2.2.1 = some (ty0 k)) (hnm : ∀ a, a < N → ∀ b, b < N → a ≠ b → (T a).2.1 ≠ (T b).2.1) (hdecl : (T k).1 = own) (hn : narrow (ty0 k) (.int v) = .int v) (hf : fits (ty0 k) (.int v) = true)
    (kk : GW K (pc + 3) L st ci si (WI K Y (wI σ o k v) ad)) : GW K pc L (.int v :: .ref (ad o) :: st) ci si (WI K Y σ ad) := by
  have hset : (slv ad σ o 0 sl).set k (.int v) = slv ad (wI σ o k v) o 0 sl := slv_set sl 0 k _ hs (fun q t hq => slot_wI q t (by omega)) (by rw [Nat.zero_add]; simp [slotV, rI, wI])
  refine n_put C hin2 hd hY (List.getElem?_eq_some_iff.mp hs).1 hc hk hl hin hty hnm hdecl hn hf (σ' := wI σ o k v) (Y' := Y) ?_ rfl (fun h p q hp => ?_) (fun h j sh hj => shc_R (σ := σ) (fun _ => rfl) (h j sh hj)) kk
  · rw [hset]
    exact wd_put hY (fun q sh h => ent_wI q sh h) rfl
  · have := h p q hp
    have hlt := lay_lt hY
    refine ⟨?_, this.2⟩
    show (if p = o ∧ q = k then v else σ.1 p q) = 0
    rw [if_neg (fun z => by omega)]
    exact this.1
/-- a moving reference, for the first time -/
theorem n_putM (C : CxI K cc own nL d mc ms) {o kx k index N v : Nat} {C0 : String} {T : u_T} {ty0 : Nat → FieldType} {sl : List (Nat × Nat)} (hin2 : (kmeth K).name = "<init>") (hd : decode cc pc = .ok (.putfield index, 3)) (hY : Y[o]? = some (0, kx, sl)) (hlen : k < sl.length) (hc : vwCl[kx]? = some (C0, T, N)) (hk : k < N) (hl : Cond.fieldLink own index (T k).1 (T k).2.1 (T k).2.2.1 ∈ AL) (hin : ∀ w ∈ u_ws C0 T N, w ∈ AL)
    (hty : ∀ k, k < N → parseFieldDescriptor (T k).2.2.1 = some (ty0 k)) (hnm : ∀ a, a < N → ∀ b, b < N → a ≠ b → (T a).2.1 ≠ (T b).2.1) (hdecl : (T k).1 = own) (hn : ∀ a, narrow (ty0 k) (.ref a) = .ref a) (hf : ∀ a, fits (ty0 k) (.ref a) = true) (hb : v < Y.length) (hs4 : sl[k]? = some (4, 0))
    (kk : GW K (pc + 3) L st ci si (WI K (Y.set o (0, kx, sl.set k (3, 0))) (wR σ o k v) ad)) : GW K pc L (.ref (ad v) :: .ref (ad o) :: st) ci si (WI K Y σ ad) := by
  have hR : ∀ q, q ≠ k → rR (wR σ o k v) o q = rR σ o q := fun q h => by simp [rR, wR, h]
  have hlt := lay_lt hY
  have hs1 : slv ad (wR σ o k v) o 0 (sl.set k (3, 0)) = (slv ad σ o 0 sl).set k (.ref (ad v)) := by
    rw [← slv_setS' (σ := σ) (σ' := wR σ o k v) (s := (3, 0)) sl 0 k hs4 (fun q t hq => slot_wR q t (by omega))]
    congr 1
    rw [Nat.zero_add]
    simp [slotV, rR, wR]
  refine n_put C hin2 hd hY hlen hc hk hl hin hty hnm hdecl (hn _) (hf _) (σ' := wR σ o k v) (Y' := Y.set o (0, kx, sl.set k (3, 0))) ?_ (by rw [List.length_set]) (fun h => by rw [List.length_set]; exact h) (fun h => ?_) kk
  · rw [← hs1]
    have h1 := wd_setY (cys := kcy K) (ad := ad) (σ := wR σ o k v) (sh := (0, kx, sl.set k (3, 0))) Y 0 o
    rw [Nat.zero_add] at h1
    rw [← h1]
    have h2 : ∀ e, (wd (kcy K) ad σ 0 Y).set o (ad o, e) = (wd (kcy K) ad (wR σ o k v) 0 Y).set o (ad o, e) := fun e => by
      have a1 := wd_put (cys := kcy K) (ad := ad) (σ := σ) (σ' := wR σ o k v) (e := ent (kcy K) ad (wR σ o k v) o (0, kx, sl)) hY (fun q sh h => ent_wR q sh h) rfl
      rw [← a1, List.set_set]
    exact h2 _
  · have h3 : Cl (wR σ o k v) (Y.set o (0, kx, sl.set k (4, 0))) := fun i sh hi => by
      rw [List.length_set]
      rw [List.getElem?_set] at hi
      split at hi
      next e =>
        subst e
        first | cases hi | (rw [if_pos hlt] at hi; cases hi)
        have he : sl.set k (4, 0) = sl := by
          have := List.getElem?_eq_some_iff.mp hs4
          obtain ⟨h1, h2⟩ := this
          rw [← h2]
          exact List.set_getElem_self h1
        rw [he]
        exact ⟨fun _ => slc_R2 (k := k) hR sl 0 (fun j hj => Or.inl (by rw [show j = k by omega]; exact hs4)) ((h o _ hY).1 rfl), fun e => absurd rfl e⟩
      next e => exact shc_R (σ := σ) (fun q => by have e' : ¬ i = o := fun z => e z.symm; simp [rR, wR, e']) (h i sh hi)
    have h4 : (Y.set o (0, kx, sl.set k (4, 0)))[o]? = some (0, kx, sl.set k (4, 0)) := by rw [List.getElem?_set_self hlt]
    have h5 := Cl_set (k := k) (s := (3, 0)) h3 h4 (fun e => (by cases e)) (fun _ => by rw [List.length_set]; simp [rR, wR]; exact hb)
    rw [List.set_set, List.set_set] at h5
    exact h5
end GPut
/-! ===== contracts of constructors ===== -/
def Aq (q sz : Nat) : Nat → Prop := fun p => p = q ∨ sz ≤ p
def QI (D : va_G) (cys : Nat → ClassId) (YF : List Sh) (σF : Sg) (q sz : Nat) : Array Value → State → Outcome → State → Prop := fun _ st oc t =>
  oc = .returned none ∧ (∃ ad : Nat → Nat, ad 0 = q ∧ va_P D vwCl (wd cys ad σF 0 YF) t.heap ∧ (∀ i j, i < YF.length → j < YF.length → ad i = ad j → i = j) ∧ ∀ i, 0 < i → i < YF.length → sz ≤ ad i) ∧ (Zb σF YF.length ∧ Cl σF YF) ∧ va_F (Aq q sz) st t
def rmi (d mc ms : Nat) : Room := { frames := d, cells := mc, slots := ms, locals := 40 * d }
def Cn (y : MethodName) (cc : ByteArray) (nL d kx : Nat) (nsl : List (Nat × Nat)) (YF : List Sh) (σF : Sg) (mc ms : Nat) : Prop :=
  ∀ (l : Launch) (D : va_G) (cys : Nat → ClassId) (q sz : Nat), Met l y (.code y cc nL none :: AL) (rmi d mc ms) (va_Pc [.ref q] (fun U => U.heap.size = sz ∧ va_P D vwCl [(q, .inr (kx, dfl nsl))] U.heap ∧ va_K D vwCl (tysOf cys) U ∧ Ei U)) (QI D cys YF σF q sz) mc ms (Aq q sz)
def Rki (K : KT) (YF : List Sh) (σF : Sg) (mc ms : Nat) : Prop := kQ K = MQ (kb K) (QI (kD K) (kcy K) YF σF (kad K 0) (ks K).heap.size) (ka K) (ks K) mc ms (kA K) ∧ kA K = Aq (kad K 0) (ks K).heap.size ∧ (kmeth K).sig.returnType = none
theorem cn_of {y : MethodName} {cc : ByteArray} {nL d kx mc ms : Nat} {nsl : List (Nat × Nat)} {YF : List Sh} {σF : Sg} (hy : plainName y.cls = true) (hy1 : y.name = "<init>") (hn : 1 ≤ nL) (hb : bare nsl = true)
    (body : ∀ K, CxI K cc y.cls nL d mc ms → (kmeth K).name = "<init>" → Rki K YF σF mc ms → GW K 0 (pad [some (.ref (kad K 0))] nL) [] 0 0 (WI K [(0, kx, nsl)] σz (kad K))) : Cn y cc nL d kx nsl YF σF mc ms := by
  intro l D cys q sz
  refine Met.ofW (cc := cc) (maxL := nL) (ret := none) hy rfl ?_
  intro p e s m args below meth c s₁ B hml hv
  obtain ⟨rfl, hsz, hP, hK, hE⟩ := hv
  subst hsz
  have hts := atoms_spec (ws := .code y cc nL none :: AL) B.pre
  have hown : s.vm.findClass y.cls = some m.cls := findClass_of_methodNamed B.named
  have hin : meth.name = "<init>" := (name_of_methodNamed B.named B.method).1.trans hy1
  let K : KT := (p, l, e, rmi d mc ms, s, m, [Value.ref q].toArray, below, meth, c, D, cys, fun _ => q, Aq q s.heap.size, MQ below (QI D cys YF σF q s.heap.size) [Value.ref q].toArray s mc ms (Aq q s.heap.size))
  have C : CxI K cc y.cls nL d mc ms := ⟨⟨B.exec, B.bytes, hml, hown, fun w hw => hts w (List.mem_cons_of_mem _ hw), B.notSynchronized, Nat.le_refl _, Nat.le_refl _⟩, trivial, hK, fun p h => Or.inr h, hE, Nat.le_refl _, Nat.le_refl _⟩
  have hG := body K C hin ⟨rfl, rfl, B.returns⟩
  rw [lg_entry_eq]
  have hz : ∀ k, rI σz 0 k = 0 ∧ rJ σz 0 k = 0 := fun k => ⟨rfl, rfl⟩
  have hw : wd cys (fun _ => q) σz 0 [(0, kx, nsl)] = [(q, .inr (kx, dfl nsl))] := by
    show [(q, Sum.inr (kx, slv (fun _ => q) σz 0 0 nsl))] = _
    rw [slv_dfl hz nsl 0 hb]
  have hW : WI K [(0, kx, nsl)] σz (kad K) s.heap [] := by
    refine ⟨by rw [← hw] at hP; exact hP, va_S.rf, fun i j hi hj _ => ?_, fun i hi => Or.inl rfl, fun o k _ => ⟨rfl, rfl⟩, fun i sh hi => ?_⟩
    · have hi' : i < 1 := hi
      have hj' : j < 1 := hj
      omega
    · have hz0 : i < 1 := (List.getElem?_eq_some_iff.mp hi).1
      rw [show i = 0 by omega] at hi ⊢
      cases hi
      exact ⟨fun _ => slc_bare nsl 0 hb, fun e => absurd rfl e⟩
  exact hG s.heap [] _ hW (lx_entry [.ref q] hn)
section GIR
variable {K : KT} {cc : ByteArray} {own : String} {nL d mc ms pc ci si : Nat} {L : List (Option Value)} {st : List Value} {Y : List Sh} {σ : Sg} {ad : Nat → Nat}
theorem n_vret (C : CxI K cc own nL d mc ms) (hQ : Rki K Y σ mc ms) (h0 : ad 0 = kad K 0) (hY : 0 < Y.length) (hd : decode cc pc = .ok (.return_, 1)) : GW K pc L [] mc ms (WI K Y σ ad) := fun H locs ls hP hL => by
  show W _ _ _ _ _ _ _ _ _ _ _ _ _ _ (kQ K) _
  rw [hQ.1]
  refine W.vret C.1.x C.1.b hQ.2.2 (fun t ht _ => ⟨rfl, ⟨ad, h0, by rw [ht]; exact hP.1, hP.2.2.1, fun i h1 h2 => ?_⟩, ⟨hP.2.2.2.2.1, hP.2.2.2.2.2⟩, by rw [← hQ.2.1]; exact hP.2.1.F ht⟩) hP.2.1.2.2 hd C.1.2.2.2.2.2.1
  have hA := hP.2.2.2.1 i h2
  rw [hQ.2.1] at hA
  rcases hA with h | h
  · have := hP.2.2.1 i 0 h2 hY (h.trans h0.symm)
    omega
  · exact h
def Cwi (y : MethodName) (cc : ByteArray) (nL : Nat) : Prop := (Cond.code y cc nL none ∈ AL) ∧ (Cond.initialized y.cls ∈ AL) ∧ (y.cls ≠ "java/lang/invoke/MethodHandle" ∧ y.cls ≠ "java/lang/invoke/VarHandle") ∧ (parseMethodDescriptor y.desc).map (fun d => d.parameters.length) = some 0 ∧ nL ≤ 21 ∧ y.name = "<init>"
theorem sapp_I {n o : Nat} {σ σ' : Sg} (h : o < n) : rI (sapp n σ σ') o = rI σ o := funext fun k => if_pos h
theorem sapp_J {n o : Nat} {σ σ' : Sg} (h : o < n) : rJ (sapp n σ σ') o = rJ σ o := funext fun k => if_pos h
theorem sapp_R {n o : Nat} {σ σ' : Sg} (h : o < n) (k : Nat) : rR (sapp n σ σ') o k = rR σ o k := if_pos h
theorem sapp_I2 {n o : Nat} {σ σ' : Sg} : rI (sapp n σ σ') (n + o) = rI σ' o := funext fun k => by
  show (if n + o < n then _ else σ'.1 (n + o - n) k) = _
  rw [if_neg (by omega), Nat.add_sub_cancel_left]; rfl
theorem sapp_J2 {n o : Nat} {σ σ' : Sg} : rJ (sapp n σ σ') (n + o) = rJ σ' o := funext fun k => by
  show (if n + o < n then _ else σ'.2.1 (n + o - n) k) = _
  rw [if_neg (by omega), Nat.add_sub_cancel_left]; rfl
theorem sapp_R2 {n o : Nat} {σ σ' : Sg} (k : Nat) : rR (sapp n σ σ') (n + o) k = n + rR σ' o k := by
  show (if n + o < n then _ else n + σ'.2.2 (n + o - n) k) = _
  rw [if_neg (by omega), Nat.add_sub_cancel_left]; rfl
theorem slc_sapp {σ σF : Sg} {n N i : Nat} : ∀ (l : List (Nat × Nat)) (k : Nat), slc σF N i k l → slc (sapp n σ σF) (n + N) (n + i) k l
  | [], _, _ => trivial
  | s :: t, k, q => ⟨fun e => by have := q.1 e; omega, fun e => by rw [sapp_R2]; have := q.2.1 e; omega, slc_sapp t (k + 1) q.2.2⟩
/-- a constructor's call, behind 'new' -/
theorem n_call (C : CxI K cc own nL d mc ms) {index d' nL' kx mc' ms' N : Nat} {y : MethodName} {cc' : ByteArray} {T : u_T} {nsl : List (Nat × Nat)} {YF : List Sh} {σF : Sg} (hM : Cn y cc' nL' d' kx nsl YF σF mc' ms') (hd : decode cc pc = .ok (.invokespecial index, 3)) (hw : Cwi y cc' nL') (hl : (Cond.methodLink own index y ∈ AL) ∨ ∃ host, Cond.methodLinkNest own index y host ∈ NW) (hi : Cond.instanceMethod y ∈ AL) (hb : bare nsl = true)
    (hdd : d' + 1 ≤ d) (hLn : L.length = nL) (hc : vwCl[kx]? = some (y.cls, T, N)) (hr : (st.map fun v => v.category).sum ≤ 8) (hci : ci + mc' ≤ mc) (hsi : si + ms' ≤ ms) (hF0 : 0 < YF.length) {n : Nat} (hYn : Y.length = n) (hzn : ∀ k, rI σ n k = 0 ∧ rJ σ n k = 0)
    (kk : ∀ ad', (∀ i, i < n + 1 → ad' i = ad i) → Cl σF YF → GW K (pc + 3) L st (ci + mc') (si + ms') (WI K (Y ++ YF) (sapp n σ σF) ad')) : GW K pc L (.ref (ad n) :: st) ci si (WI K (Y ++ [(0, kx, nsl)]) σ ad) := fun H locs ls hP hL => by
  subst hYn
  have hm1 := C.2.2.2.2.2.1
  have hm2 := C.2.2.2.2.2.2
  have hlen : (Y ++ [((0, kx, nsl) : Sh)]).length = Y.length + 1 := by simp
  have hz := hP.2.2.2.2.1
  have hYN : (Y ++ [((0, kx, nsl) : Sh)])[Y.length]? = some (0, kx, nsl) := by rw [List.getElem?_append_right (Nat.le_refl _), Nat.sub_self]; rfl
  have hNobj : ∀ k, rI σ Y.length k = 0 ∧ rJ σ Y.length k = 0 := hzn
  have he : (wd (kcy K) ad σ 0 (Y ++ [(0, kx, nsl)]))[Y.length]? = some (ad Y.length, .inr (kx, dfl nsl)) := by
    rw [wd_at hYN]
    show some (ad Y.length, Sum.inr (kx, slv ad σ Y.length 0 nsl)) = _
    rw [slv_dfl hNobj nsl 0 hb]
  have hf := C.1.2.2.2.2.2.2.1
  have hlo := C.1.2.2.2.2.2.2.2
  have hR : (rmi d' mc' ms').frames + 1 ≤ (kR K).frames ∧ 8 + (nL' + 11) + (rmi d' mc' ms').locals ≤ (kR K).locals := ⟨by show d' + 1 ≤ _; omega, by have := hw.2.2.2.2.1; show 8 + (nL' + 11) + 40 * d' ≤ _; omega⟩
  have hM' := hM (kl K) (kD K) (kcy K) (ad Y.length) H.size
  have hPq : va_P (kD K) vwCl [(ad Y.length, .inr (kx, dfl nsl))] H := fun k q h => by
    have hz0 : k < 1 := (List.getElem?_eq_some_iff.mp h).1
    rw [show k = 0 by omega] at h
    cases h
    exact hP.1 _ _ he
  have hpre : PreS (ks K) H (va_Pc [.ref (ad Y.length)] (fun U => U.heap.size = H.size ∧ va_P (kD K) vwCl [(ad Y.length, .inr (kx, dfl nsl))] U.heap ∧ va_K (kD K) vwCl (tysOf (kcy K)) U ∧ Ei U)) [.ref (ad Y.length)] :=
    ⟨fun a U g mk q => ⟨q.1, q.2.1, q.2.2.1, va_K.moved (u := U) (U := U.calling g mk a) (Vm.Alike.refl U.vm) q.2.2.2.1, q.2.2.2.2.frame⟩, fun U hU hW => ⟨rfl, by rw [hU], by rw [hU]; exact hPq, va_K.moved hW.alike C.2.2.1, C.2.2.2.2.1.moved hW⟩⟩
  have hz1 : ls.size = nL := hL.1.trans hLn
  have hrun : va_Run (kp K) (kl K) (ke K) (kR K) (ks K) (km K) (ka K) (kb K) (kmeth K) (kc K) H locs ci si mc' ms' (F0 (km K) pc ls (.ref (ad Y.length) :: st)) st (QI (kD K) (kcy K) YF σF (ad Y.length) H.size (Value.ref (ad Y.length) :: []).toArray) (Aq (ad Y.length) H.size) := by
    rcases hl with hl | ⟨host, hl⟩
    · have cb : CallB (kR K) (ks K) (ka K) own index y cc' nL' none (.code y cc' nL' none :: AL) (rmi d' mc' ms') mc' ms' 0 := callB_of 0 C.1.2.2.2.2.1 (ct_in hw.1) rfl rfl rfl (C.1.t hw.2.1) (C.1.t hl) ⟨hw.2.2.1.1, hw.2.2.1.2, hw.2.2.2.1⟩ hR
      exact va_runI (As := []) (rest := st) C.1.fix hM' ⟨cb, hw.2.2.2.2.2, C.1.t hi⟩ hpre rfl rfl hz1 rfl (lv_room hr) hd ⟨by omega, by omega⟩
    · have cb : va_CN (kR K) (ks K) (ka K) own index y host cc' nL' none (.code y cc' nL' none :: AL) (rmi d' mc' ms') mc' ms' 0 := va_cnB 0 C.1.2.2.2.2.1 (ct_in hw.1) rfl rfl rfl (C.2.2.2.2.1.1 _ hl) (C.1.t hw.2.1) ⟨hw.2.2.1.1, hw.2.2.1.2, hw.2.2.2.1⟩ hR
      exact va_runIN (As := []) (rest := st) C.1.fix hM' ⟨cb, hw.2.2.2.2.2, C.1.t hi⟩ hpre rfl rfl hz1 rfl (lv_room hr) hd ⟨by omega, by omega⟩
  intro Tm hT X
  obtain ⟨v, st₀, t, T', L2, hst0, X', hL2, e1, e2, ⟨hv, ⟨adc, a0, aP, ai, an⟩, ⟨hFz, hFc⟩, hzz, hkk⟩, stp⟩ := hrun Tm hT X
  cases hv
  rw [hst0] at hzz hkk
  have hS0 := hP.2.1.1
  have hqA : kA K (ad Y.length) := hP.2.2.2.1 _ (by omega)
  have hsub : ∀ p, Aq (ad Y.length) H.size p → kA K p := fun p h => by
    rcases h with h | h
    · rw [h]; exact hqA
    · exact C.2.2.2.1 p (Nat.le_trans hS0 h)
  have hold : ∀ i, i < Y.length → ad i < H.size ∧ ad i ≠ ad Y.length := fun i h => by
    have hi : i < (Y ++ [((0, kx, nsl) : Sh)]).length := by omega
    refine ⟨(hP.1 i _ (wd_at (List.getElem?_eq_getElem hi))).lt, fun e => ?_⟩
    have := hP.2.2.1 i Y.length hi (by omega) e
    omega
  have hkeep : ∀ i, i < Y.length → t.heap[ad i]? = H[ad i]? := fun i h => hkk _ (hold i h).1 (fun z => by
    rcases z with z | z
    · exact (hold i h).2 z
    · have := (hold i h).1; omega)
  have alo : ∀ i, i < Y.length + 1 → adx ad Y.length adc i = ad i := fun i h => by
    by_cases h1 : i < Y.length
    · exact adx_lo h1
    · rw [show i = Y.length + 0 by omega, adx_hi, a0]; rfl
  have hw1 : wd (kcy K) (adx ad Y.length adc) (sapp Y.length σ σF) 0 Y = wd (kcy K) ad σ 0 Y := by
    have := wd_shift (cys := kcy K) (ad := ad) (ad' := adx ad Y.length adc) (σ := σ) (σ' := sapp Y.length σ σF) (n := 0) (N := Y.length + 1) (fun j hj => by rw [Nat.zero_add]; exact alo j hj) Y 0 (fun i sh h => by
      have hl : i < Y.length := lay_lt h
      rw [Nat.zero_add, Nat.zero_add]
      refine ⟨by omega, ?_, sapp_I hl, sapp_J hl, fun k => by rw [sapp_R hl, Nat.zero_add]⟩
      have h2 := hP.2.2.2.2.2 i sh (by rw [List.getElem?_append_left hl]; exact h)
      rw [hlen] at h2
      exact h2)
    exact this
  have hw2 : wd (kcy K) (adx ad Y.length adc) (sapp Y.length σ σF) Y.length YF = wd (kcy K) adc σF 0 YF := by
    have := wd_shift (cys := kcy K) (ad := adc) (ad' := adx ad Y.length adc) (σ := σF) (σ' := sapp Y.length σ σF) (n := Y.length) (N := YF.length) (fun j hj => adx_hi) YF 0 (fun i sh h => by
      rw [Nat.zero_add]
      exact ⟨lay_lt h, hFc i sh h, sapp_I2, sapp_J2, fun k => sapp_R2 k⟩)
    exact this
  have hpart : va_P (kD K) vwCl (wd (kcy K) ad σ 0 Y) H := fun k q h => hP.1 k q (by
    rw [wd_app]
    have hl : k < (wd (kcy K) ad σ 0 Y).length := (List.getElem?_eq_some_iff.mp h).1
    rw [List.getElem?_append_left hl]; exact h)
  have hW : WI K (Y ++ YF) (sapp Y.length σ σF) (adx ad Y.length adc) T'.heap (locs ++ L2) := by
    refine ⟨?_, ?_, ?_, ?_, ?_, ?_⟩
    · rw [wd_app, hw1, Nat.zero_add, hw2, e1]
      refine va_P.app (fun k q h => ?_) aP
      have hl : k < Y.length := by have := (List.getElem?_eq_some_iff.mp h).1; rw [wd_len] at this; exact this
      have hq := h
      rw [wd_at (List.getElem?_eq_getElem hl)] at hq
      cases hq
      exact (hpart k _ h).kept (hkeep k hl)
    · exact ⟨Nat.le_trans hS0 (by rw [e1]; exact hzz), fun p h1 h2 => by rw [e1, hkk p (Nat.lt_of_lt_of_le h1 hS0) (fun z => h2 (hsub p z))]; exact hP.2.1.2.1 p h1 h2, fun p hp => by
        rcases List.mem_append.mp hp with h | h
        · exact hP.2.1.2.2 p h
        · exact hsub _ (hL2 p h)⟩
    · have ahi : ∀ j, j < YF.length → adc j = ad Y.length ∨ H.size ≤ adc j := fun j hj => by
        cases j with
        | zero => exact Or.inl a0
        | succ j => exact Or.inr (an _ (Nat.succ_pos _) hj)
      intro i j hi hj hij
      rw [List.length_append] at hi hj
      by_cases h1 : i < Y.length <;> by_cases h2 : j < Y.length
      · rw [adx_lo h1, adx_lo h2] at hij
        exact hP.2.2.1 i j (by omega) (by omega) hij
      · rw [adx_lo h1, show j = Y.length + (j - Y.length) by omega, adx_hi] at hij
        rcases ahi (j - Y.length) (by omega) with h | h
        · exact absurd (hij.trans h) (hold i h1).2
        · have := (hold i h1).1; omega
      · rw [adx_lo h2, show i = Y.length + (i - Y.length) by omega, adx_hi] at hij
        rcases ahi (i - Y.length) (by omega) with h | h
        · exact absurd (hij.symm.trans h) (hold j h2).2
        · have := (hold j h2).1; omega
      · rw [show i = Y.length + (i - Y.length) by omega, show j = Y.length + (j - Y.length) by omega, adx_hi, adx_hi] at hij
        have := ai _ _ (by omega) (by omega) hij
        omega
    · intro i hi
      rw [List.length_append] at hi
      by_cases h1 : i < Y.length
      · rw [adx_lo h1]; exact hP.2.2.2.1 i (by omega)
      · rw [show i = Y.length + (i - Y.length) by omega, adx_hi]
        refine hsub _ ?_
        cases h3 : i - Y.length with
        | zero => exact Or.inl a0
        | succ j => exact Or.inr (an _ (Nat.succ_pos _) (by omega))
    · intro o k ho
      rw [List.length_append] at ho
      rw [show o = Y.length + (o - Y.length) by omega, sapp_I2, sapp_J2]
      exact hFz _ k (by omega)
    · intro i sh hi2
      rw [List.length_append]
      by_cases h1 : i < Y.length
      · rw [List.getElem?_append_left h1] at hi2
        have h2 := hP.2.2.2.2.2 i sh (by rw [List.getElem?_append_left h1]; exact hi2)
        rw [hlen] at h2
        exact shc_mono (by omega) (shc_R (σ := σ) (fun k => sapp_R h1 k) h2)
      · rw [List.getElem?_append_right (by omega)] at hi2
        have h2 := hFc _ sh hi2
        rw [show i = Y.length + (i - Y.length) by omega]
        exact ⟨fun e => slc_sapp _ _ (h2.1 e), fun e j hj => by have := h2.2 e j hj; omega⟩
  obtain ⟨t2, b1, b2⟩ := kk _ alo hFc T'.heap (locs ++ L2) ls hW hL T' rfl X'
  exact ⟨t2, stp t2 b1, b2⟩
end GIR

