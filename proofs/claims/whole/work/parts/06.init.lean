/-! ===== constructors: worlds that grow ===== -/
def σz : Sg := (fun _ _ => 0, fun _ _ => 0, fun _ _ => 0)
def dfl : List (Nat × Nat) → List Value
  | [] => []
  | (0, _) :: t => .int 0 :: dfl t
  | (1, _) :: t => .long 0 :: dfl t
  | _ :: t => .null :: dfl t
def bare : List (Nat × Nat) → Bool
  | [] => true
  | s :: t => (s.1 == 0 || s.1 == 1 || s.1 == 4) && bare t
def Zb (σ : Sg) (N : Nat) : Prop := ∀ o k, N ≤ o → rI σ o k = 0 ∧ rJ σ o k = 0
theorem slv_dfl {ad : Nat → Nat} {σ : Sg} {i : Nat} (h : ∀ k, rI σ i k = 0 ∧ rJ σ i k = 0) : ∀ (l : List (Nat × Nat)) (k0 : Nat), bare l = true → slv ad σ i k0 l = dfl l
  | [], _, _ => rfl
  | (a, b) :: t, k0, hb => by
    simp only [bare, Bool.and_eq_true] at hb
    have ih := slv_dfl h t (k0 + 1) hb.2
    simp only [slv, ih]
    match a, hb.1 with
    | 0, _ => simp [slotV, dfl, (h k0).1]
    | 1, _ => simp [slotV, dfl, (h k0).2]
    | 4, _ => simp [slotV, dfl]
    | 2, h2 => simp at h2
    | 3, h2 => simp at h2
    | n + 5, h2 => simp at h2
/-- all that the cell i refers to is below N -/
def slc (σ : Sg) (N i : Nat) : Nat → List (Nat × Nat) → Prop
  | _, [] => True
  | k, s :: t => (s.1 = 2 → i + s.2 < N) ∧ (s.1 = 3 → rR σ i k < N) ∧ slc σ N i (k + 1) t
def shc (σ : Sg) (N i : Nat) (sh : Sh) : Prop := (sh.1 = 0 → slc σ N i 0 sh.2.2) ∧ (sh.1 ≠ 0 → ∀ j, j < rowM sh → i + rowB sh + j < N)
def Cl (σ : Sg) (Y : List Sh) : Prop := ∀ i sh, Y[i]? = some sh → shc σ Y.length i sh
theorem slc_mono {σ : Sg} {N M i : Nat} (h : N ≤ M) : ∀ (l : List (Nat × Nat)) (k : Nat), slc σ N i k l → slc σ M i k l
  | [], _, _ => trivial
  | s :: t, k, q => ⟨fun e => Nat.lt_of_lt_of_le (q.1 e) h, fun e => Nat.lt_of_lt_of_le (q.2.1 e) h, slc_mono h t (k + 1) q.2.2⟩
theorem shc_mono {σ : Sg} {N M i : Nat} {sh : Sh} (h : N ≤ M) (q : shc σ N i sh) : shc σ M i sh := ⟨fun e => slc_mono h _ _ (q.1 e), fun e j hj => Nat.lt_of_lt_of_le (q.2 e j hj) h⟩
theorem slc_bare {σ : Sg} {N i : Nat} : ∀ (l : List (Nat × Nat)) (k : Nat), bare l = true → slc σ N i k l
  | [], _, _ => trivial
  | s :: t, k, h => by
    simp only [bare, Bool.and_eq_true, Bool.or_eq_true, beq_iff_eq] at h
    exact ⟨fun e => by omega, fun e => by omega, slc_bare t (k + 1) h.2⟩
theorem slv_shift {ad ad' : Nat → Nat} {σ σ' : Sg} {n N i : Nat} (ha : ∀ j, j < N → ad' (n + j) = ad j) (h1 : rI σ' (n + i) = rI σ i) (h2 : rJ σ' (n + i) = rJ σ i) (h3 : ∀ k, rR σ' (n + i) k = n + rR σ i k) : ∀ (l : List (Nat × Nat)) (k : Nat), slc σ N i k l → slv ad' σ' (n + i) k l = slv ad σ i k l
  | [], _, _ => rfl
  | (a, b) :: t, k, q => by
    simp only [slv]
    rw [slv_shift ha h1 h2 h3 t (k + 1) q.2.2]
    congr 1
    unfold slotV
    split
    · rw [h1]
    · rw [h2]
    next e => rw [Nat.add_assoc, ha _ (q.1 e)]
    next e => rw [h3, ha _ (q.2.1 e)]
    · rfl
theorem ent_shift {cys : Nat → ClassId} {ad ad' : Nat → Nat} {σ σ' : Sg} {n N i : Nat} {sh : Sh} (hc : shc σ N i sh) (ha : ∀ j, j < N → ad' (n + j) = ad j) (h1 : rI σ' (n + i) = rI σ i) (h2 : rJ σ' (n + i) = rJ σ i) (h3 : ∀ k, rR σ' (n + i) k = n + rR σ i k) : ent cys ad' σ' (n + i) sh = ent cys ad σ i sh := by
  have rows : sh.1 ≠ 0 → (fun j => if j < rowM sh then some (ad' (n + i + rowB sh + j)) else none) = (fun j => if j < rowM sh then some (ad (i + rowB sh + j)) else none) := by
    intro hne
    funext j
    by_cases hj : j < rowM sh
    · rw [if_pos hj, if_pos hj, ← ha _ (hc.2 hne j hj)]
      congr 2
      omega
    · rw [if_neg hj, if_neg hj]
  unfold ent
  split
  next e => rw [slv_shift ha h1 h2 h3 _ _ (hc.1 e)]
  · rw [h1]
  · rw [h2]
  · rw [h1]
  next e => rw [rows (by rw [e]; decide)]
  next e1 e2 e3 e4 e5 => rw [rows e1]
theorem wd_shift {cys : Nat → ClassId} {ad ad' : Nat → Nat} {σ σ' : Sg} {n N : Nat} (ha : ∀ j, j < N → ad' (n + j) = ad j) : ∀ (Y : List Sh) (i0 : Nat), (∀ i sh, Y[i]? = some sh → i0 + i < N ∧ shc σ N (i0 + i) sh ∧ rI σ' (n + (i0 + i)) = rI σ (i0 + i) ∧ rJ σ' (n + (i0 + i)) = rJ σ (i0 + i) ∧ ∀ k, rR σ' (n + (i0 + i)) k = n + rR σ (i0 + i) k) → wd cys ad' σ' (n + i0) Y = wd cys ad σ i0 Y
  | [], _, _ => rfl
  | sh :: t, i0, h => by
    simp only [wd]
    obtain ⟨h0, h1, h2, h3, h4⟩ := h 0 sh rfl
    rw [Nat.add_zero] at h0 h1 h2 h3 h4
    rw [ha i0 h0, ent_shift h1 ha h2 h3 h4, Nat.add_assoc, wd_shift ha t (i0 + 1) (fun i s hs => by
      have := h (i + 1) s hs
      rw [show i0 + (i + 1) = i0 + 1 + i by omega] at this
      exact this)]
theorem wd_app {cys : Nat → ClassId} {ad : Nat → Nat} {σ : Sg} : ∀ (Y1 Y2 : List Sh) (i0 : Nat), wd cys ad σ i0 (Y1 ++ Y2) = wd cys ad σ i0 Y1 ++ wd cys ad σ (i0 + Y1.length) Y2
  | [], Y2, i0 => rfl
  | s :: t, Y2, i0 => by
    simp only [wd, List.cons_append, List.length_cons]
    rw [wd_app t Y2 (i0 + 1), show i0 + 1 + t.length = i0 + (t.length + 1) by omega]
/-- the same world under addresses that agree where they are asked -/
theorem wd_same {cys : Nat → ClassId} {ad ad' : Nat → Nat} {σ σ' : Sg} {Y : List Sh} (hc : Cl σ Y) (ha : ∀ j, j < Y.length → ad' j = ad j) (hs : ∀ i, i < Y.length → rI σ' i = rI σ i ∧ rJ σ' i = rJ σ i ∧ ∀ k, rR σ' i k = rR σ i k) : wd cys ad' σ' 0 Y = wd cys ad σ 0 Y := by
  have := wd_shift (cys := cys) (ad := ad) (ad' := ad') (σ := σ) (σ' := σ') (n := 0) (N := Y.length) (fun j hj => by rw [Nat.zero_add]; exact ha j hj) Y 0 (fun i sh h => by
    have hl : i < Y.length := (List.getElem?_eq_some_iff.mp h).1
    rw [Nat.zero_add, Nat.zero_add]
    obtain ⟨h1, h2, h3⟩ := hs i hl
    exact ⟨hl, hc i sh h, h1, h2, fun k => by rw [h3, Nat.zero_add]⟩)
  exact this
theorem wd_setY {cys : Nat → ClassId} {ad : Nat → Nat} {σ : Sg} {sh : Sh} : ∀ (Y : List Sh) (i0 o : Nat), (wd cys ad σ i0 Y).set o (ad (i0 + o), ent cys ad σ (i0 + o) sh) = wd cys ad σ i0 (Y.set o sh)
  | [], _, _ => rfl
  | s :: t, i0, 0 => rfl
  | s :: t, i0, o + 1 => by
    simp only [wd, List.set_cons_succ]
    rw [show i0 + (o + 1) = i0 + 1 + o by omega, wd_setY t (i0 + 1) o]
theorem slv_setS {ad : Nat → Nat} {σ : Sg} {i : Nat} {s : Nat × Nat} : ∀ (l : List (Nat × Nat)) (k0 k : Nat), (slv ad σ i k0 l).set k (slotV ad σ i (k0 + k) s) = slv ad σ i k0 (l.set k s)
  | [], _, _ => rfl
  | a :: t, k0, 0 => rfl
  | a :: t, k0, k + 1 => by
    simp only [slv, List.set_cons_succ]
    rw [show k0 + (k + 1) = k0 + 1 + k by omega, slv_setS t (k0 + 1) k]
/-! the state behind a callee's making -/
def sapp (n : Nat) (σ σ' : Sg) : Sg := (fun o k => if o < n then σ.1 o k else σ'.1 (o - n) k, fun o k => if o < n then σ.2.1 o k else σ'.2.1 (o - n) k, fun o k => if o < n then σ.2.2 o k else n + σ'.2.2 (o - n) k)
def va_AOA (ty : FieldType) (U : State) : Prop := (Cond.arrayOver (.array ty)).before #[] U = true
theorem va_AOA.use {ty : FieldType} {A : Array Value} {U : State} (h : va_AOA ty U) : (Cond.arrayOver (.array ty)).before A U = true := h
theorem va_AOA.of {ty : FieldType} {A : Array Value} {U : State} (h : (Cond.arrayOver (.array ty)).before A U = true) : va_AOA ty U := h
theorem va_AOA.spec {ty : FieldType} {U : State} (h : va_AOA ty U) : ∃ (comp c : ClassId) (k : Class), U.vm.findClass (FieldType.array ty).toString = some comp ∧ (U.vm.classes.findIdx? fun x => match x.kind with | .array component _ => component == comp | _ => false) = some c ∧ U.vm.classes[c]? = some k ∧ k.kind = .array comp (.array ty) ∧ U.vm.findClass ("[" ++ (FieldType.array ty).toString) = some c := by
  unfold va_AOA Cond.before Cond.holds at h
  simp only [Cond.value, beq_iff_eq] at h
  cases hc : U.vm.findClass (FieldType.array ty).toString with
  | none => simp [hc] at h
  | some comp =>
    simp only [hc, Option.bind_some, Option.bind_eq_some_iff, Option.map_eq_some_iff] at h
    obtain ⟨c, hi, k, hk, hb⟩ := h
    obtain ⟨hlt, hp, -⟩ := Array.findIdx?_eq_some_iff_getElem.mp hi
    have hkk : U.vm.classes[c] = k := (Array.getElem?_eq_some_iff.mp hk).2
    rw [hkk] at hp
    cases hkind : k.kind with
    | array component ty2 =>
      rw [hkind] at hb hp
      simp at hb hp
      exact ⟨comp, c, k, rfl, hi, hk, by rw [hkind, hp, hb.1], hb.2⟩
    | _ => rw [hkind] at hb; simp at hb
theorem va_AOA.moved {ty : FieldType} {u U : State} (hvm : u.vm.Alike U.vm) (h : va_AOA ty u) : va_AOA ty U := by
  obtain ⟨comp, c, k, h1, h2, h3, h4, h5⟩ := h.spec
  obtain ⟨k', hk', he⟩ := hvm.2.2 _ _ h3
  have hi : (U.vm.classes.findIdx? fun (x : Class) => match x.kind with | .array component _ => component == comp | _ => false) = some c := by
    rw [← va_idx_bare]
    first | rw [hvm.bare_eq] | rw [← hvm.bare_eq]
    rw [va_idx_bare]
    exact h2
  have hkind : k'.kind = .array comp (.array ty) := by rw [he]; exact h4
  have f1 : U.vm.findClass (FieldType.array ty).toString = some comp := by rw [hvm.findClass]; exact h1
  have f2 : U.vm.findClass ("[" ++ (FieldType.array ty).toString) = some c := by rw [hvm.findClass]; exact h5
  unfold va_AOA Cond.before Cond.holds
  simp only [Cond.value]
  rw [f1, Option.bind_some]
  refine (congrArg (fun o : Option Nat => (o.bind (fun c => (U.vm.classes[c]?).map fun (k : Class) => match k.kind with | .array _ ty2 => decide (ty2 = FieldType.array ty) && decide (U.vm.findClass ("[" ++ (FieldType.array ty).toString) = some c) | _ => false) == some true)) hi).trans ?_
  simp [hk', hkind, f2]
def Ei (U : State) : Prop := (∀ w ∈ NW, va_Nw w U) ∧ va_AO RX0 U ∧ va_AOA .int U
theorem Ei.moved {s U : State} (hW : s.WarmedH U.vm) (h : Ei s) : Ei U := by
  refine ⟨fun w hw => ?_, h.2.1.moved hW.alike, h.2.2.moved hW.alike⟩
  have hn := (List.mem_filter.mp hw).2
  have hz := h.1 w hw
  cases w with
  | fieldLinkNest a i b n d h => exact va_Nw.warmF hW hz
  | methodLinkNest a i x h => exact va_Nw.warmM hW hz
  | _ => cases hn
theorem Ei.frame {U : State} {g : JFrame} {mk : MethodId} {a : Array Value} (h : Ei U) : Ei (U.calling g mk a) := by
  have al : U.vm.Alike (U.calling g mk a).vm := Vm.Alike.refl U.vm
  refine ⟨fun w hw => ?_, h.2.1.moved al, h.2.2.moved al⟩
  have hn := (List.mem_filter.mp hw).2
  have hz := h.1 w hw
  cases w with
  | fieldLinkNest a i b n d h => exact va_Nw.same rfl rfl hz
  | methodLinkNest a i x h => exact va_Nw.same rfl rfl hz
  | _ => cases hn
def GW (K : KT) (pc : Nat) (L : List (Option Value)) (st : List Value) (ci si : Nat) (P : Heap → List Loc → Prop) : Prop :=
  ∀ (H : Heap) (locs : List Loc) (ls : Array Slot), P H locs → LX ls L → W (kp K) (kl K) (ke K) (kR K) (ks K) (km K) (ka K) (kb K) (kmeth K) (kc K) H locs ci si (kQ K) (F0 (km K) pc ls st)
def CxI (K : KT) (cc : ByteArray) (own : String) (nL d mc ms : Nat) : Prop := Cb K cc own nL d ∧ (kmeth K).sig.returnType = none ∧ va_K (kD K) vwCl (tysOf (kcy K)) (ks K) ∧ (∀ q, (ks K).heap.size ≤ q → kA K q) ∧ Ei (ks K) ∧ mc ≤ (kR K).cells ∧ ms ≤ (kR K).slots
def WI (K : KT) (Y : List Sh) (σ : Sg) (ad : Nat → Nat) : Heap → List Loc → Prop := fun H locs => va_P (kD K) vwCl (wd (kcy K) ad σ 0 Y) H ∧ va_S (kA K) (ks K).heap H locs ∧ (∀ i j, i < Y.length → j < Y.length → ad i = ad j → i = j) ∧ (∀ i, i < Y.length → kA K (ad i)) ∧ Zb σ Y.length ∧ Cl σ Y
theorem WI.D {K : KT} {Y : List Sh} {σ : Sg} {ad : Nat → Nat} {H : Heap} {locs : List Loc} (h : WI K Y σ ad H locs) : va_D (kA K) (wd (kcy K) ad σ 0 Y) := wd_D h.2.2.1 h.2.2.2.1
section GWP
variable {K : KT} {cc : ByteArray} {own : String} {nL d pc ci si : Nat} {L : List (Option Value)} {st : List Value} {P : Heap → List Loc → Prop}
theorem n_iconst (C : Cb K cc own nL d) {n : Int} {v : Int32} (hd : decode cc pc = .ok (.iconst n, 1)) (hv : Int32.ofInt n = v) (k : GW K (pc + 1) L (.int v :: st) ci si P) : GW K pc L st ci si P := fun H locs ls hP hL => lv_iconst C.x C.b hd hv (k H locs ls hP hL)
theorem n_bipush (C : Cb K cc own nL d) {n : Int} {v : Int32} (hd : decode cc pc = .ok (.bipush n, 2)) (hv : (Int8.ofInt n).toInt32 = v) (k : GW K (pc + 2) L (.int v :: st) ci si P) : GW K pc L st ci si P := fun H locs ls hP hL => lv_bipush C.x C.b hd hv (k H locs ls hP hL)
theorem n_sipush (C : Cb K cc own nL d) {n : Int} {v : Int32} (hd : decode cc pc = .ok (.sipush n, 3)) (hv : (Int16.ofInt n).toInt32 = v) (k : GW K (pc + 3) L (.int v :: st) ci si P) : GW K pc L st ci si P := fun H locs ls hP hL => lv_sipush C.x C.b hd hv (k H locs ls hP hL)
theorem n_aload_n (C : Cb K cc own nL d) {n : Fin 4} {i : Nat} {x : Nat} (hd : decode cc pc = .ok (.aload_n n, 1)) (hi : (n : Nat) = i) (hl : L[i]? = some (some (.ref x))) (k : GW K (pc + 1) L (.ref x :: st) ci si P) : GW K pc L st ci si P := fun H locs ls hP hL => lv_aload_n C.x C.b hd hi (hL.2.2 _ _ hl) (k H locs ls hP hL)
theorem n_iload_n (C : Cb K cc own nL d) {n : Fin 4} {i : Nat} {x : Int32} (hd : decode cc pc = .ok (.iload_n n, 1)) (hi : (n : Nat) = i) (hl : L[i]? = some (some (.int x))) (k : GW K (pc + 1) L (.int x :: st) ci si P) : GW K pc L st ci si P := fun H locs ls hP hL => lv_iload_n C.x C.b hd hi (hL.2.2 _ _ hl) (k H locs ls hP hL)
theorem n_istore_n (C : Cb K cc own nL d) {n : Fin 4} {i : Nat} {x : Int32} {L' : List (Option Value)} (hd : decode cc pc = .ok (.istore_n n, 1)) (hi : (n : Nat) = i) (hn : i < L.length) (hL' : st1 L i (.int x) = L') (k : GW K (pc + 1) L' st ci si P) : GW K pc L (.int x :: st) ci si P := fun H locs ls hP hL => lv_istore_n C.x C.b hd hi hL.has hn rfl (fun ls' h' => k H locs ls' hP (hL' ▸ LX.s1 hn h'))
theorem n_astore_n (C : Cb K cc own nL d) {n : Fin 4} {i : Nat} {x : Nat} {L' : List (Option Value)} (hd : decode cc pc = .ok (.astore_n n, 1)) (hi : (n : Nat) = i) (hn : i < L.length) (hL' : st1 L i (.ref x) = L') (k : GW K (pc + 1) L' st ci si P) : GW K pc L (.ref x :: st) ci si P := fun H locs ls hP hL => lv_astore_n C.x C.b hd hi hL.has hn rfl (fun ls' h' => k H locs ls' hP (hL' ▸ LX.s1 hn h'))
theorem n_iinc (C : Cb K cc own nL d) {i : Nat} {n : Int} {x y : Int32} {L' : List (Option Value)} (hd : decode cc pc = .ok (.iinc i n, 3)) (hl : L[i]? = some (some (.int x))) (hy : x + Int32.ofInt n = y) (hn : i < L.length) (hL' : st1 L i (.int y) = L') (k : GW K (pc + 3) L' st ci si P) : GW K pc L st ci si P := fun H locs ls hP hL => by
  obtain ⟨j, hj⟩ := List.getElem?_of_mem ((prs_iff (q := (i, .int x))).mpr hl)
  exact lv_iinc C.x C.b hd hL.has hj hy hn rfl (fun ls' h' => k H locs ls' hP (hL' ▸ LX.s1 hn h'))
theorem n_dup (C : Cb K cc own nL d) {v : Value} (hd : decode cc pc = .ok (.dup, 1)) (hv : v.category = 1) (k : GW K (pc + 1) L (v :: v :: st) ci si P) : GW K pc L (v :: st) ci si P := fun H locs ls hP hL => lv_dup C.x C.b hd hv (k H locs ls hP hL)
theorem n_goto (C : Cb K cc own nL d) {off : Int} {tgt : Nat} (hd : decode cc pc = .ok (.goto off, 3)) (ht : (pc : Int) + off = (tgt : Int)) (k : GW K tgt L st ci si P) : GW K pc L st ci si P := fun H locs ls hP hL => lv_goto C.x C.b hd ht (k H locs ls hP hL)
theorem n_ge_t (C : Cb K cc own nL d) {x y : Int32} {off : Int} {tgt : Nat} (hd : decode cc pc = .ok (.if_icmp .ge off, 3)) (ht : (pc : Int) + off = (tgt : Int)) (h : y ≤ x) (k : GW K tgt L st ci si P) : GW K pc L (.int y :: .int x :: st) ci si P := fun H locs ls hP hL => lv_icmp_ge C.x C.b hd ht (fun _ => k H locs ls hP hL) (fun q => absurd h q)
theorem n_ge_f (C : Cb K cc own nL d) {x y : Int32} {off : Int} {tgt : Nat} (hd : decode cc pc = .ok (.if_icmp .ge off, 3)) (ht : (pc : Int) + off = (tgt : Int)) (h : ¬ y ≤ x) (k : GW K (pc + 3) L st ci si P) : GW K pc L (.int y :: .int x :: st) ci si P := fun H locs ls hP hL => lv_icmp_ge C.x C.b hd ht (fun q => absurd q h) (fun _ => k H locs ls hP hL)
end GWP
section GWI
variable {K : KT} {cc : ByteArray} {own : String} {nL d mc ms pc ci si : Nat} {L : List (Option Value)} {st : List Value} {Y : List Sh} {σ : Sg} {ad : Nat → Nat}
theorem n_obj (C : CxI K cc own nL d mc ms) {a idx : Nat} (hd : decode cc pc = .ok (.invokespecial idx, 3)) (hl : Cond.methodLink own idx objectInit ∈ AL) (hi : Cond.instanceMethod objectInit ∈ AL) (hc : Cond.code objectInit ⟨#[0xb1]⟩ 1 none ∈ AL) (hLn : L.length = nL) (hd1 : 1 ≤ d) (hr : (st.map fun v => v.category).sum ≤ 8) {P : Heap → List Loc → Prop}
    (k : GW K (pc + 3) L st ci si P) : GW K pc L (.ref a :: st) ci si P := fun H locs ls hP hL => by
  have hf := C.1.2.2.2.2.2.2.1
  have hlo := C.1.2.2.2.2.2.2.2
  refine W.objInit C.1.x C.1.b C.1.o (C.1.t hl) (C.1.t hi) (C.1.t hc) rfl (by show ls.size = _; rw [C.1.2.2.1, hL.1, hLn]) rfl hd (by omega) (by show 2 * 0 + _ + 12 ≤ _; omega) ?_
  exact k H locs ls hP hL
theorem n_get (C : CxI K cc own nL d mc ms) {o kx k index N : Nat} {C0 : String} {T : u_T} {sl : List (Nat × Nat)} {s : Nat × Nat} {v : Value} (hd : decode cc pc = .ok (.getfield index, 3)) (hY : Y[o]? = some (0, kx, sl)) (hs : sl[k]? = some s) (hc : vwCl[kx]? = some (C0, T, N)) (hk : k < N) (hl : FL own index (T k).1 (T k).2.1 (T k).2.2.1) (hin : ∀ w ∈ u_ws C0 T N, w ∈ AL) (hv : slotV ad σ o k s = v)
    (kk : GW K (pc + 3) L (v :: st) ci si (WI K Y σ ad)) : GW K pc L (.ref (ad o) :: st) ci si (WI K Y σ ad) := fun H locs ls hP hL => by
  subst hv
  have he : (wd (kcy K) ad σ 0 Y)[o]? = some (ad o, .inr (kx, slv ad σ o 0 sl)) := wd_at hY
  have hv : (slv ad σ o 0 sl)[k]? = some (slotV ad σ o k s) := by rw [slv_get, hs, Nat.zero_add]; rfl
  rcases hl with hl | ⟨host, hl⟩
  · exact va_get C.1.x C.1.b C.1.fix.2.2.2.2 hin C.1.o C.2.2.1 hP.1 o he hc k hk (C.1.t hl) (fun _ h => h) hv hd (kk H locs ls hP hL)
  · exact va_getN C.1.x C.1.b C.1.fix.2.2.2.2 hin C.1.o C.2.2.1 hP.1 o he hc k hk (va_Nw.use rfl (C.2.2.2.2.1.1 _ hl)) (fun _ h => h) hv hd (kk H locs ls hP hL)
/-- a field of the object that is being made -/
theorem n_put (C : CxI K cc own nL d mc ms) {o kx k index N : Nat} {C0 : String} {T : u_T} {ty0 : Nat → FieldType} {sl : List (Nat × Nat)} {v : Value} {Y' : List Sh} {σ' : Sg} (hin2 : (kmeth K).name = "<init>") (hd : decode cc pc = .ok (.putfield index, 3)) (hY : Y[o]? = some (0, kx, sl)) (hlen : k < sl.length) (hc : vwCl[kx]? = some (C0, T, N)) (hk : k < N) (hl : Cond.fieldLink own index (T k).1 (T k).2.1 (T k).2.2.1 ∈ AL) (hin : ∀ w ∈ u_ws C0 T N, w ∈ AL)
    (hty : ∀ k, k < N → parseFieldDescriptor (T k).2.2.1 = some (ty0 k)) (hnm : ∀ a, a < N → ∀ b, b < N → a ≠ b → (T a).2.1 ≠ (T b).2.1) (hdecl : (T k).1 = own) (hn : narrow (ty0 k) v = v) (hf : fits (ty0 k) v = true)
    (hw : (wd (kcy K) ad σ 0 Y).set o (ad o, .inr (kx, (slv ad σ o 0 sl).set k v)) = wd (kcy K) ad σ' 0 Y') (hl' : Y'.length = Y.length) (hz : Zb σ Y.length → Zb σ' Y'.length) (hcl : Cl σ Y → Cl σ' Y')
    (kk : GW K (pc + 3) L st ci si (WI K Y' σ' ad)) : GW K pc L (v :: .ref (ad o) :: st) ci si (WI K Y σ ad) := fun H locs ls hP hL => by
  have he : (wd (kcy K) ad σ 0 Y)[o]? = some (ad o, .inr (kx, slv ad σ o 0 sl)) := wd_at hY
  have hlen2 : k < (slv ad σ o 0 sl).length := by rw [slv_len]; exact hlen
  have go : ∀ (H1 : Heap) (locs1 : List Loc), va_P (kD K) vwCl ((wd (kcy K) ad σ 0 Y).set o (ad o, .inr (kx, (slv ad σ o 0 sl).set k v))) H1 → va_S (kA K) (ks K).heap H1 locs1 → W (kp K) (kl K) (ke K) (kR K) (ks K) (km K) (ka K) (kb K) (kmeth K) (kc K) H1 locs1 ci si (kQ K) (F0 (km K) (pc + 3) ls st) := fun H1 locs1 q1 q3 => kk H1 locs1 ls ⟨hw ▸ q1, q3, by rw [hl']; exact hP.2.2.1, by rw [hl']; exact hP.2.2.2.1, hz hP.2.2.2.2.1, hcl hP.2.2.2.2.2⟩ hL
  cases hfin : (T k).2.2.2 with
  | false => exact va_put C.1.x C.1.b C.1.fix.2.2.2.2 hin ty0 hty hnm C.1.o C.2.2.1 hP.1 hP.D hP.2.1 o he hc k hk (C.1.t hl) (fun _ h => h) hfin (hty k hk) hn hf hlen2 hd (fun H1 locs1 q1 q2 q3 => go H1 locs1 q1 q3)
  | true => exact va_putF C.1.x C.1.b C.1.fix.2.2.2.2 hin ty0 hty hnm C.1.o C.2.2.1 hP.1 hP.D hP.2.1 o he hc k hk (C.1.t hl) (fun _ h => h) hfin hin2 hdecl (hty k hk) hn hf hlen2 hd (fun H1 locs1 q1 q2 q3 => go H1 locs1 q1 q3)
def adx (ad : Nat → Nat) (n : Nat) (f : Nat → Nat) : Nat → Nat := fun i => if i < n then ad i else f (i - n)
theorem adx_lo {ad f : Nat → Nat} {n i : Nat} (h : i < n) : adx ad n f i = ad i := if_pos h
theorem adx_hi {ad f : Nat → Nat} {n i : Nat} : adx ad n f (n + i) = f i := by
  unfold adx
  rw [if_neg (by omega)]
  congr 1
  omega
/-- cells come -/
theorem WI.push {H H1 : Heap} {locs locs1 : List Loc} (hP : WI K Y σ ad H locs) (Ys : List Sh) (f : Nat → Nat) (q1 : va_P (kD K) vwCl (wd (kcy K) ad σ 0 Y ++ wd (kcy K) (adx ad Y.length f) σ Y.length Ys) H1) (q2 : va_D (kA K) (wd (kcy K) ad σ 0 Y ++ wd (kcy K) (adx ad Y.length f) σ Y.length Ys)) (q3 : va_S (kA K) (ks K).heap H1 locs1)
    (hc : ∀ i sh, Ys[i]? = some sh → shc σ (Y.length + Ys.length) (Y.length + i) sh) : WI K (Y ++ Ys) σ (adx ad Y.length f) H1 locs1 := by
  have hw : wd (kcy K) (adx ad Y.length f) σ 0 (Y ++ Ys) = wd (kcy K) ad σ 0 Y ++ wd (kcy K) (adx ad Y.length f) σ Y.length Ys := by
    rw [wd_app, wd_same hP.2.2.2.2.2 (fun j hj => adx_lo hj) (fun i _ => ⟨rfl, rfl, fun _ => rfl⟩), Nat.zero_add]
  rw [← hw] at q1 q2
  have key : ∀ i, i < (Y ++ Ys).length → ∃ e, (wd (kcy K) (adx ad Y.length f) σ 0 (Y ++ Ys))[i]? = some (adx ad Y.length f i, e) := fun i hi => ⟨_, wd_at (List.getElem?_eq_getElem hi)⟩
  refine ⟨q1, q3, fun i j hi hj hij => ?_, fun i hi => ?_, fun o k ho => hP.2.2.2.2.1 o k (by rw [List.length_append] at ho; omega), fun i sh hi => ?_⟩
  · obtain ⟨e1, h1⟩ := key i hi
    obtain ⟨e2, h2⟩ := key j hj
    exact q2.1 i j _ _ h1 h2 hij
  · obtain ⟨e1, h1⟩ := key i hi
    exact q2.2 i _ h1
  · rw [List.length_append]
    by_cases h1 : i < Y.length
    · rw [List.getElem?_append_left h1] at hi
      exact shc_mono (by omega) (hP.2.2.2.2.2 i sh hi)
    · rw [List.getElem?_append_right (by omega)] at hi
      have := hc _ sh hi
      rw [show Y.length + (i - Y.length) = i by omega] at this
      exact this
/-- one cell comes -/
theorem WI.push1 {H H1 : Heap} {locs locs1 : List Loc} {sh : Sh} {e : va_E} {q : Nat} (hP : WI K Y σ ad H locs) (q1 : va_P (kD K) vwCl (wd (kcy K) ad σ 0 Y ++ [(q, e)]) H1) (q2 : va_D (kA K) (wd (kcy K) ad σ 0 Y ++ [(q, e)])) (q3 : va_S (kA K) (ks K).heap H1 locs1)
    (he : ∀ ad', ent (kcy K) ad' σ Y.length sh = e) (hc : shc σ (Y.length + 1) Y.length sh) : ∃ ad', (∀ i, i < Y.length → ad' i = ad i) ∧ ad' Y.length = q ∧ WI K (Y ++ [sh]) σ ad' H1 locs1 := by
  have eN : adx ad Y.length (fun _ => q) Y.length = q := by
    have := adx_hi (ad := ad) (f := fun _ => q) (n := Y.length) (i := 0)
    exact this
  have hw : wd (kcy K) (adx ad Y.length (fun _ => q)) σ Y.length [sh] = [(q, e)] := by
    show [(adx ad Y.length (fun _ => q) Y.length, ent (kcy K) (adx ad Y.length (fun _ => q)) σ Y.length sh)] = _
    rw [eN, he]
  refine ⟨adx ad Y.length (fun _ => q), fun i hi => adx_lo hi, eN, hP.push [sh] (fun _ => q) (by rw [hw]; exact q1) (by rw [hw]; exact q2) q3 (fun i s hi => ?_)⟩
  have hz0 : i < 1 := (List.getElem?_eq_some_iff.mp hi).1
  rw [show i = 0 by omega] at hi ⊢
  cases hi
  exact hc
theorem n_new (C : CxI K cc own nL d mc ms) {kx index N : Nat} {C0 : String} {T : u_T} {ty0 : Nat → FieldType} {sl : List (Nat × Nat)} (hd : decode cc pc = .ok (.new index, 3)) (hc : vwCl[kx]? = some (C0, T, N)) (hin : ∀ w ∈ u_ws C0 T N, w ∈ AL) (hty : ∀ k, k < N → parseFieldDescriptor (T k).2.2.1 = some (ty0 k)) (h1 : Cond.classLink own index C0 ∈ AL) (h2 : Cond.instantiable C0 N ∈ AL) (h3 : Cond.initialized C0 ∈ AL) (hb : bare sl = true) (hdf : ∀ j, j < N → defaultValue (ty0 j) = vp_V (dfl sl) j) (hci : ci + 1 ≤ mc) (hsi : si + N ≤ ms)
    (kk : ∀ ad', (∀ i, i < Y.length → ad' i = ad i) → GW K (pc + 3) L (.ref (ad' Y.length) :: st) (ci + 1) (si + N) (WI K (Y ++ [(0, kx, sl)]) σ ad')) : GW K pc L st ci si (WI K Y σ ad) := fun H locs ls hP hL => by
  have hm1 := C.2.2.2.2.2.1
  have hm2 := C.2.2.2.2.2.2
  refine va_new (fs := dfl sl) C.1.x C.1.b C.1.fix.2.2.2.2 hin ty0 hty C.1.o (C.1.t h1) (C.1.t h2) (C.1.t h3) C.2.2.1 hP.1 hP.D hP.2.1 C.2.2.2.1 hc hdf (by omega) (by omega) hd (fun q H1 q1 q2 q3 => ?_)
  obtain ⟨ad', e0, eN, hW⟩ := hP.push1 (sh := (0, kx, sl)) q1 q2 q3 (fun ad' => congrArg (fun z => Sum.inr (kx, z)) (slv_dfl (fun k => hP.2.2.2.2.1 _ k (Nat.le_refl _)) sl 0 hb)) ⟨fun _ => slc_bare sl 0 hb, fun e => absurd rfl e⟩
  have hk := kk ad' e0 H1 locs ls hW hL
  rw [eN] at hk
  exact hk
theorem zI (hz : Zb σ Y.length) : rI σ Y.length = fun _ => 0 := funext fun k => (hz _ k (Nat.le_refl _)).1
theorem zJ (hz : Zb σ Y.length) : rJ σ Y.length = fun _ => 0 := funext fun k => (hz _ k (Nat.le_refl _)).2
theorem n_newI (C : CxI K cc own nL d mc ms) {n : Int32} {N : Nat} (hd : decode cc pc = .ok (.newarray .int, 2)) (hw : Cond.arrayClass .int ∈ AL) (hn : ¬ n < 0) (hN : n.toNatClampNeg = N) (hb : N * 4 ≤ 536870912) (hci : ci + 1 ≤ mc) (hsi : si + N ≤ ms)
    (kk : ∀ ad', (∀ i, i < Y.length → ad' i = ad i) → GW K (pc + 2) L (.ref (ad' Y.length) :: st) (ci + 1) (si + N) (WI K (Y ++ [(1, N, [])]) σ ad')) : GW K pc L (.int n :: st) ci si (WI K Y σ ad) := fun H locs ls hP hL => by
  have hm1 := C.2.2.2.2.2.1
  have hm2 := C.2.2.2.2.2.2
  refine va_newa (atype := .int) (ty := .int) (a0 := (N, .inl (fun _ => 0))) C.1.x C.1.b (C.1.t hw) rfl C.2.2.1 hP.1 hP.D hP.2.1 C.2.2.2.1 (fun cA => by rw [vp_cell_i]; rfl) hn hN (by show N * 4 ≤ _; exact hb) (by omega) (by omega) hd (fun q cA H1 qK q1 q2 q3 => ?_)
  have ec : cA = kcy K 0 := by
    have a1 : va_RA (ks K) cA .int := (qK.2 5 (cA, .int) rfl).2
    have a2 : va_RA (ks K) (kcy K 0) .int := (C.2.2.1.2 0 _ rfl).2
    exact Option.some.inj (a1.symm.trans a2)
  subst ec
  obtain ⟨ad', e0, eN, hW⟩ := hP.push1 (sh := (1, N, [])) q1 q2 q3 (fun ad' => by show Sum.inl (kcy K 0, N, Sum.inl (rI σ Y.length)) = _; rw [zI hP.2.2.2.2.1]) ⟨fun e => (by cases e), fun _ j hj => absurd hj (Nat.not_lt_zero _)⟩
  have hk := kk ad' e0 H1 locs ls hW hL
  rw [eN] at hk
  exact hk
theorem n_newJ (C : CxI K cc own nL d mc ms) {n : Int32} {N : Nat} (hd : decode cc pc = .ok (.newarray .long, 2)) (hw : Cond.arrayClass .long ∈ AL) (hn : ¬ n < 0) (hN : n.toNatClampNeg = N) (hb : N * 8 ≤ 536870912) (hci : ci + 1 ≤ mc) (hsi : si + N ≤ ms)
    (kk : ∀ ad', (∀ i, i < Y.length → ad' i = ad i) → GW K (pc + 2) L (.ref (ad' Y.length) :: st) (ci + 1) (si + N) (WI K (Y ++ [(2, N, [])]) σ ad')) : GW K pc L (.int n :: st) ci si (WI K Y σ ad) := fun H locs ls hP hL => by
  have hm1 := C.2.2.2.2.2.1
  have hm2 := C.2.2.2.2.2.2
  refine va_newa (atype := .long) (ty := .long) (a0 := (N, .inr (.inl (fun _ => 0)))) C.1.x C.1.b (C.1.t hw) rfl C.2.2.1 hP.1 hP.D hP.2.1 C.2.2.2.1 (fun cA => by rw [vp_cell_l]; rfl) hn hN (by show N * 8 ≤ _; exact hb) (by omega) (by omega) hd (fun q cA H1 qK q1 q2 q3 => ?_)
  have ec : cA = kcy K 1 := by
    have a1 : va_RA (ks K) cA .long := (qK.2 5 (cA, .long) rfl).2
    have a2 : va_RA (ks K) (kcy K 1) .long := (C.2.2.1.2 1 _ rfl).2
    exact Option.some.inj (a1.symm.trans a2)
  subst ec
  obtain ⟨ad', e0, eN, hW⟩ := hP.push1 (sh := (2, N, [])) q1 q2 q3 (fun ad' => by show Sum.inl (kcy K 1, N, Sum.inr (Sum.inl (rJ σ Y.length))) = _; rw [zJ hP.2.2.2.2.1]) ⟨fun e => (by cases e), fun _ j hj => absurd hj (Nat.not_lt_zero _)⟩
  have hk := kk ad' e0 H1 locs ls hW hL
  rw [eN] at hk
  exact hk
theorem n_newZ (C : CxI K cc own nL d mc ms) {n : Int32} {N : Nat} (hd : decode cc pc = .ok (.newarray .boolean, 2)) (hw : Cond.arrayClass .boolean ∈ AL) (hn : ¬ n < 0) (hN : n.toNatClampNeg = N) (hb : N * 1 ≤ 536870912) (hci : ci + 1 ≤ mc) (hsi : si + N ≤ ms)
    (kk : ∀ ad', (∀ i, i < Y.length → ad' i = ad i) → GW K (pc + 2) L (.ref (ad' Y.length) :: st) (ci + 1) (si + N) (WI K (Y ++ [(3, N, [])]) σ ad')) : GW K pc L (.int n :: st) ci si (WI K Y σ ad) := fun H locs ls hP hL => by
  have hm1 := C.2.2.2.2.2.1
  have hm2 := C.2.2.2.2.2.2
  refine va_newa (atype := .boolean) (ty := .boolean) (a0 := (N, .inl (fun _ => 0))) C.1.x C.1.b (C.1.t hw) rfl C.2.2.1 hP.1 hP.D hP.2.1 C.2.2.2.1 (fun cA => by rw [vp_cell_i]; rfl) hn hN (by show N * 1 ≤ _; exact hb) (by omega) (by omega) hd (fun q cA H1 qK q1 q2 q3 => ?_)
  have ec : cA = kcy K 2 := by
    have a1 : va_RA (ks K) cA .boolean := (qK.2 5 (cA, .boolean) rfl).2
    have a2 : va_RA (ks K) (kcy K 2) .boolean := (C.2.2.1.2 2 _ rfl).2
    exact Option.some.inj (a1.symm.trans a2)
  subst ec
  obtain ⟨ad', e0, eN, hW⟩ := hP.push1 (sh := (3, N, [])) q1 q2 q3 (fun ad' => by show Sum.inl (kcy K 2, N, Sum.inl (rI σ Y.length)) = _; rw [zI hP.2.2.2.2.1]) ⟨fun e => (by cases e), fun _ j hj => absurd hj (Nat.not_lt_zero _)⟩
  have hk := kk ad' e0 H1 locs ls hW hL
  rw [eN] at hk
  exact hk
theorem n_newA (C : CxI K cc own nL d mc ms) {n : Int32} {N b index : Nat} (hd : decode cc pc = .ok (.anewarray index, 3)) (hw : Cond.classLink own index RX0 ∈ AL) (hn : ¬ n < 0) (hN : n.toNatClampNeg = N) (hb : N * 4 ≤ 536870912) (hci : ci + 1 ≤ mc) (hsi : si + N ≤ ms)
    (kk : ∀ ad', (∀ i, i < Y.length → ad' i = ad i) → GW K (pc + 3) L (.ref (ad' Y.length) :: st) (ci + 1) (si + N) (WI K (Y ++ [(4, N, [(b, 0)])]) σ ad')) : GW K pc L (.int n :: st) ci si (WI K Y σ ad) := fun H locs ls hP hL => by
  have hm1 := C.2.2.2.2.2.1
  have hm2 := C.2.2.2.2.2.2
  refine va_newq (C := RX0) C.1.x C.1.b C.1.o (C.1.t hw) C.2.2.2.2.1.2.1 C.2.2.1 hP.1 hP.D hP.2.1 C.2.2.2.1 hn hN hb (by omega) (by omega) hd (fun q cA H1 qK q1 q2 q3 => ?_)
  have ec : cA = kcy K 3 := by
    obtain ⟨_, _, -, -, -, a1⟩ : va_RA (ks K) cA (.object RX0) := (qK.2 5 (cA, .object RX0) rfl).2
    obtain ⟨_, _, -, -, -, a2⟩ : va_RA (ks K) (kcy K 3) (.object RX0) := (C.2.2.1.2 3 _ rfl).2
    exact Option.some.inj (a1.symm.trans a2)
  subst ec
  obtain ⟨ad', e0, eN, hW⟩ := hP.push1 (sh := (4, N, [(b, 0)])) q1 q2 q3 (fun ad' => by
    show Sum.inl (kcy K 3, N, Sum.inr (Sum.inr (Sum.inr (Sum.inr (fun j => if j < 0 then some (ad' (Y.length + b + j)) else none))))) = _
    congr 8) ⟨fun e => (by cases e), fun _ j hj => absurd hj (Nat.not_lt_zero _)⟩
  have hk := kk ad' e0 H1 locs ls hW hL
  rw [eN] at hk
  exact hk
end GWI

