/-! ===== the law's own methods: the class's world, the law's rows, the script ===== -/
/-- the class's world, the law's rows, how many cells were made since the method began -/
abbrev LwS : Type := Sg × Sg × Nat
def rT (s : LwS) (o k : Nat) : Int32 := s.2.1.1 o k
def wT (s : LwS) (o k : Nat) (v : Int32) : LwS := (s.1, wI s.2.1 o k v, s.2.2)
def cS (s : LwS) (σ : Sg) : LwS := (σ, s.2)
def zc (τ : Sg) (n : Nat) : Sg := (fun o k => if o = n then 0 else τ.1 o k, τ.2)
def nT (s : LwS) (n : Nat) : LwS := (s.1, zc s.2.1 n, s.2.2 + 1)
/-- the state in which a method of the law begins, and the caller's behind it -/
def eT (s : LwS) : LwS := (s.1, s.2.1, 0)
def uT (s p : LwS) (m : Nat) : LwS := (p.1, p.2.1, s.2.2 + m)
/-- the law's rows: address and length -/
abbrev Wl : Type := List (Nat × Nat)
def wz (cys : Nat → ClassId) (τ : Sg) : Nat → Wl → va_W
  | _, [] => []
  | i, p :: t => (p.1, .inl (cys 0, p.2, .inl (rI τ i))) :: wz cys τ (i + 1) t
theorem wz_get {cys : Nat → ClassId} {τ : Sg} : ∀ (V : Wl) (i0 j : Nat), (wz cys τ i0 V)[j]? = (V[j]?).map (fun p => (p.1, .inl (cys 0, p.2, .inl (rI τ (i0 + j)))))
  | [], i0, j => by simp [wz]
  | p :: t, i0, 0 => by simp [wz]
  | p :: t, i0, j + 1 => by
    simp only [wz, List.getElem?_cons_succ]
    rw [wz_get t (i0 + 1) j, show i0 + 1 + j = i0 + (j + 1) by omega]
theorem wz_at {cys : Nat → ClassId} {τ : Sg} {V : Wl} {o a n : Nat} (h : V[o]? = some (a, n)) : (wz cys τ 0 V)[o]? = some (a, .inl (cys 0, n, .inl (rI τ o))) := by
  rw [wz_get, h, Nat.zero_add]
  rfl
theorem wz_len {cys : Nat → ClassId} {τ : Sg} : ∀ (V : Wl) (i0 : Nat), (wz cys τ i0 V).length = V.length
  | [], _ => rfl
  | p :: t, i0 => by simp only [wz, List.length_cons]; rw [wz_len t (i0 + 1)]
theorem wz_eq {cys : Nat → ClassId} {τ τ' : Sg} : ∀ (V : Wl) (i0 : Nat), (∀ q, i0 ≤ q → q < i0 + V.length → rI τ' q = rI τ q) → wz cys τ' i0 V = wz cys τ i0 V
  | [], _, _ => rfl
  | p :: t, i0, h => by
    simp only [wz]
    rw [h i0 (Nat.le_refl _) (by simp), wz_eq t (i0 + 1) (fun q h1 h2 => h q (by omega) (by simp only [List.length_cons]; omega))]
theorem wz_set {cys : Nat → ClassId} {τ τ' : Sg} {a n : Nat} : ∀ (V : Wl) (i0 j : Nat), V[j]? = some (a, n) → (∀ q, q ≠ i0 + j → rI τ' q = rI τ q) → (wz cys τ i0 V).set j (a, .inl (cys 0, n, .inl (rI τ' (i0 + j)))) = wz cys τ' i0 V
  | [], _, _, h, _ => by simp at h
  | p :: t, i0, 0, h, hq => by
    rw [List.getElem?_cons_zero] at h
    cases h
    simp only [wz, List.set_cons_zero]
    rw [Nat.add_zero, wz_eq t (i0 + 1) (fun q h1 _ => (hq q (by omega)))]
  | p :: t, i0, j + 1, h, hq => by
    rw [List.getElem?_cons_succ] at h
    simp only [wz, List.set_cons_succ]
    rw [hq i0 (by omega), show i0 + (j + 1) = i0 + 1 + j by omega, wz_set t (i0 + 1) j h (fun q hne => hq q (by omega))]
theorem wz_app {cys : Nat → ClassId} {τ : Sg} : ∀ (V X : Wl) (i0 : Nat), wz cys τ i0 (V ++ X) = wz cys τ i0 V ++ wz cys τ (i0 + V.length) X
  | [], X, i0 => rfl
  | p :: t, X, i0 => by
    simp only [wz, List.cons_append, List.length_cons]
    rw [wz_app t X (i0 + 1), show i0 + 1 + t.length = i0 + (t.length + 1) by omega]
/-- the rows lie apart, and each in A -/
def DZ (A : Nat → Prop) (V : Wl) : Prop := (∀ (i j a n n' : Nat), V[i]? = some (a, n) → V[j]? = some (a, n') → i = j) ∧ ∀ (i a n : Nat), V[i]? = some (a, n) → A a
theorem DZ.D {cys : Nat → ClassId} {τ : Sg} {A : Nat → Prop} {V : Wl} (h : DZ A V) : va_D A (wz cys τ 0 V) := by
  have key : ∀ (k : Nat) (q : Nat × va_E), (wz cys τ 0 V)[k]? = some q → ∃ n, V[k]? = some (q.1, n) := by
    intro k q hk
    rw [wz_get] at hk
    obtain ⟨p, h1, h2⟩ := Option.map_eq_some_iff.mp hk
    subst h2
    exact ⟨p.2, h1⟩
  refine ⟨fun i j p q h1 h2 h3 => ?_, fun k q hk => ?_⟩
  · obtain ⟨n, a1⟩ := key i p h1
    obtain ⟨n', a2⟩ := key j q h2
    rw [h3] at a1
    exact h.1 i j _ _ _ a1 a2
  · obtain ⟨n, a1⟩ := key k q hk
    exact h.2 k _ _ a1
def A2 (adC : Nat → Nat) (V : Wl) (sz : Nat) : Nat → Prop := fun q => (∃ i, i < layC.length ∧ q = adC i) ∨ (∃ (i n : Nat), V[i]? = some (q, n)) ∨ sz ≤ q
def WZ (K : KT) (V : Wl) (s : LwS) : Heap → List Loc → Prop := fun H locs => va_P (kD K) vwCl (wd (kcy K) (kad K) s.1 0 layC) H ∧ va_P (kD K) vwCl (wz (kcy K) s.2.1 0 V) H ∧ va_S (kA K) (ks K).heap H locs ∧ DZ (kA K) V ∧ (∀ (i j n : Nat), i < layC.length → V[j]? = some (kad K i, n) → False)
def CZ (K : KT) (cc : ByteArray) (own : String) (nL d M : Nat) (ret : Option FieldType) (b Ln : Nat) (xs : Nat → Int32) : Prop :=
  Cb K cc own nL d ∧ (kmeth K).sig.returnType = ret ∧ va_K (kD K) vwCl (tysOf (kcy K)) (ks K) ∧ (∀ i j, i < layC.length → j < layC.length → kad K i = kad K j → i = j) ∧ (∀ i, i < layC.length → kA K (kad K i)) ∧ (∀ q, (ks K).heap.size ≤ q → kA K q) ∧ Ev (kA K) (ks K) ∧ va_X b Ln xs (ks K) (ks K).heap ∧ b < (ks K).heap.size ∧ ¬ kA K b ∧ M ≤ (kR K).cells ∧ 64 * M ≤ (kR K).slots
/-- at a point of a method of the law, while its room lasts -/
def GZ (K : KT) (M pc : Nat) (L : List (Option Value)) (st : List Value) (V : Wl) (s : LwS) : Prop := s.2.2 ≤ M → GW K pc L st s.2.2 (64 * s.2.2) (WZ K V s)
theorem CZ.c {K : KT} {cc : ByteArray} {own : String} {nL d M : Nat} {ret : Option FieldType} {b Ln : Nat} {xs : Nat → Int32} (C : CZ K cc own nL d M ret b Ln xs) : Cb K cc own nL d := C.1
def Pf (Wc V : Wl) : Prop := ∃ X, V = Wc ++ X
theorem Pf.rf {V : Wl} : Pf V V := ⟨[], by simp⟩
theorem Pf.up {Wc V X : Wl} (h : Pf Wc V) : Pf Wc (V ++ X) := by
  obtain ⟨Z, rfl⟩ := h
  exact ⟨Z ++ X, by rw [List.append_assoc]⟩
theorem z_up {V X : Wl} {o : Nat} {p : Nat × Nat} (h : V[o]? = some p) : (V ++ X)[o]? = some p := by
  rw [List.getElem?_append_left (List.getElem?_eq_some_iff.mp h).1]; exact h
theorem z_new {V : Wl} {n : Nat} {p : Nat × Nat} (h : V.length = n) : (V ++ [p])[n]? = some p := by
  subst h
  rw [List.getElem?_append_right (Nat.le_refl _), Nat.sub_self]; rfl
theorem z_len {V : Wl} {n : Nat} {p : Nat × Nat} (h : V.length = n) : (V ++ [p]).length = n + 1 := by
  subst h; simp
section ZI
variable {K : KT} {cc : ByteArray} {own : String} {nL d M pc : Nat} {L : List (Option Value)} {st : List Value} {V : Wl} {s : LwS}
theorem z_iconst (C : Cb K cc own nL d) {n : Int} {v : Int32} (hd : decode cc pc = .ok (.iconst n, 1)) (hv : Int32.ofInt n = v)
    (k : GZ K M (pc + 1) L (.int v :: st) V s) : GZ K M pc L st V s := fun hU H locs ls hP hL => lv_iconst C.x C.b hd hv (k hU H locs ls hP hL)
theorem z_bipush (C : Cb K cc own nL d) {n : Int} {v : Int32} (hd : decode cc pc = .ok (.bipush n, 2)) (hv : (Int8.ofInt n).toInt32 = v)
    (k : GZ K M (pc + 2) L (.int v :: st) V s) : GZ K M pc L st V s := fun hU H locs ls hP hL => lv_bipush C.x C.b hd hv (k hU H locs ls hP hL)
theorem z_sipush (C : Cb K cc own nL d) {n : Int} {v : Int32} (hd : decode cc pc = .ok (.sipush n, 3)) (hv : (Int16.ofInt n).toInt32 = v)
    (k : GZ K M (pc + 3) L (.int v :: st) V s) : GZ K M pc L st V s := fun hU H locs ls hP hL => lv_sipush C.x C.b hd hv (k hU H locs ls hP hL)
theorem z_lconst (C : Cb K cc own nL d) {n : Fin 2} {v : Int64} (hd : decode cc pc = .ok (.lconst n, 1)) (hv : Int64.ofNat (n : Nat) = v)
    (k : GZ K M (pc + 1) L (.long v :: st) V s) : GZ K M pc L st V s := fun hU H locs ls hP hL => lv_lconst C.x C.b hd hv (k hU H locs ls hP hL)
theorem z_iload_n (C : Cb K cc own nL d) {n : Fin 4} {i : Nat} {x : Int32} (hd : decode cc pc = .ok (.iload_n n, 1)) (hi : (n : Nat) = i) (hl : L[i]? = some (some (.int x)))
    (k : GZ K M (pc + 1) L (.int x :: st) V s) : GZ K M pc L st V s := fun hU H locs ls hP hL => lv_iload_n C.x C.b hd hi (hL.2.2 _ _ hl) (k hU H locs ls hP hL)
theorem z_iload (C : Cb K cc own nL d) {i : Nat} {x : Int32} (hd : decode cc pc = .ok (.iload i, 2)) (hl : L[i]? = some (some (.int x)))
    (k : GZ K M (pc + 2) L (.int x :: st) V s) : GZ K M pc L st V s := fun hU H locs ls hP hL => lv_iload C.x C.b hd (hL.2.2 _ _ hl) (k hU H locs ls hP hL)
theorem z_istore_n (C : Cb K cc own nL d) {n : Fin 4} {i : Nat} {x : Int32} {L' : List (Option Value)} (hd : decode cc pc = .ok (.istore_n n, 1)) (hi : (n : Nat) = i) (hn : i < L.length) (hL' : st1 L i (.int x) = L')
    (k : GZ K M (pc + 1) L' st V s) : GZ K M pc L (.int x :: st) V s := fun hU H locs ls hP hL => lv_istore_n C.x C.b hd hi hL.has hn rfl (fun ls' h' => k hU H locs ls' hP (hL' ▸ LX.s1 hn h'))
theorem z_istore (C : Cb K cc own nL d) {i : Nat} {x : Int32} {L' : List (Option Value)} (hd : decode cc pc = .ok (.istore i, 2)) (hn : i < L.length) (hL' : st1 L i (.int x) = L')
    (k : GZ K M (pc + 2) L' st V s) : GZ K M pc L (.int x :: st) V s := fun hU H locs ls hP hL => lv_istore C.x C.b hd hL.has hn rfl (fun ls' h' => k hU H locs ls' hP (hL' ▸ LX.s1 hn h'))
theorem z_lload_n (C : Cb K cc own nL d) {n : Fin 4} {i : Nat} {x : Int64} (hd : decode cc pc = .ok (.lload_n n, 1)) (hi : (n : Nat) = i) (hl : L[i]? = some (some (.long x)))
    (k : GZ K M (pc + 1) L (.long x :: st) V s) : GZ K M pc L st V s := fun hU H locs ls hP hL => lv_lload_n C.x C.b hd hi (hL.2.2 _ _ hl) (k hU H locs ls hP hL)
theorem z_lload (C : Cb K cc own nL d) {i : Nat} {x : Int64} (hd : decode cc pc = .ok (.lload i, 2)) (hl : L[i]? = some (some (.long x)))
    (k : GZ K M (pc + 2) L (.long x :: st) V s) : GZ K M pc L st V s := fun hU H locs ls hP hL => lv_lload C.x C.b hd (hL.2.2 _ _ hl) (k hU H locs ls hP hL)
theorem z_lstore_n (C : Cb K cc own nL d) {n : Fin 4} {i : Nat} {x : Int64} {L' : List (Option Value)} (hd : decode cc pc = .ok (.lstore_n n, 1)) (hi : (n : Nat) = i) (hn : i + 1 < L.length) (hL' : st2 L i (.long x) = L')
    (k : GZ K M (pc + 1) L' st V s) : GZ K M pc L (.long x :: st) V s := fun hU H locs ls hP hL => lv_lstore_n C.x C.b hd hi hL.has hn rfl (fun ls' h' => k hU H locs ls' hP (hL' ▸ LX.s2 hn h'))
theorem z_lstore (C : Cb K cc own nL d) {i : Nat} {x : Int64} {L' : List (Option Value)} (hd : decode cc pc = .ok (.lstore i, 2)) (hn : i + 1 < L.length) (hL' : st2 L i (.long x) = L')
    (k : GZ K M (pc + 2) L' st V s) : GZ K M pc L (.long x :: st) V s := fun hU H locs ls hP hL => lv_lstore C.x C.b hd hL.has hn rfl (fun ls' h' => k hU H locs ls' hP (hL' ▸ LX.s2 hn h'))
theorem z_aload_n (C : Cb K cc own nL d) {n : Fin 4} {i : Nat} {x : Nat} (hd : decode cc pc = .ok (.aload_n n, 1)) (hi : (n : Nat) = i) (hl : L[i]? = some (some (.ref x)))
    (k : GZ K M (pc + 1) L (.ref x :: st) V s) : GZ K M pc L st V s := fun hU H locs ls hP hL => lv_aload_n C.x C.b hd hi (hL.2.2 _ _ hl) (k hU H locs ls hP hL)
theorem z_aload (C : Cb K cc own nL d) {i : Nat} {x : Nat} (hd : decode cc pc = .ok (.aload i, 2)) (hl : L[i]? = some (some (.ref x)))
    (k : GZ K M (pc + 2) L (.ref x :: st) V s) : GZ K M pc L st V s := fun hU H locs ls hP hL => lv_aload C.x C.b hd (hL.2.2 _ _ hl) (k hU H locs ls hP hL)
theorem z_astore_n (C : Cb K cc own nL d) {n : Fin 4} {i : Nat} {x : Nat} {L' : List (Option Value)} (hd : decode cc pc = .ok (.astore_n n, 1)) (hi : (n : Nat) = i) (hn : i < L.length) (hL' : st1 L i (.ref x) = L')
    (k : GZ K M (pc + 1) L' st V s) : GZ K M pc L (.ref x :: st) V s := fun hU H locs ls hP hL => lv_astore_n C.x C.b hd hi hL.has hn rfl (fun ls' h' => k hU H locs ls' hP (hL' ▸ LX.s1 hn h'))
theorem z_astore (C : Cb K cc own nL d) {i : Nat} {x : Nat} {L' : List (Option Value)} (hd : decode cc pc = .ok (.astore i, 2)) (hn : i < L.length) (hL' : st1 L i (.ref x) = L')
    (k : GZ K M (pc + 2) L' st V s) : GZ K M pc L (.ref x :: st) V s := fun hU H locs ls hP hL => lv_astore C.x C.b hd hL.has hn rfl (fun ls' h' => k hU H locs ls' hP (hL' ▸ LX.s1 hn h'))
theorem z_iinc (C : Cb K cc own nL d) {i : Nat} {n : Int} {x y : Int32} {L' : List (Option Value)} (hd : decode cc pc = .ok (.iinc i n, 3)) (hl : L[i]? = some (some (.int x))) (hy : Int32.ofInt n = y) (hn : i < L.length) (hL' : st1 L i (.int (x + y)) = L')
    (k : GZ K M (pc + 3) L' st V s) : GZ K M pc L st V s := fun hU H locs ls hP hL => by
  obtain ⟨j, hj⟩ := List.getElem?_of_mem ((prs_iff (q := (i, .int x))).mpr hl)
  exact lv_iinc C.x C.b hd hL.has hj (by rw [hy]) hn rfl (fun ls' h' => k hU H locs ls' hP (hL' ▸ LX.s1 hn h'))
theorem z_iadd (C : Cb K cc own nL d) {x y : Int32} (hd : decode cc pc = .ok (.iadd, 1))
    (k : GZ K M (pc + 1) L (.int (x + y) :: st) V s) : GZ K M pc L (.int y :: .int x :: st) V s := fun hU H locs ls hP hL => lv_iadd C.x C.b hd (k hU H locs ls hP hL)
theorem z_isub (C : Cb K cc own nL d) {x y : Int32} (hd : decode cc pc = .ok (.isub, 1))
    (k : GZ K M (pc + 1) L (.int (x - y) :: st) V s) : GZ K M pc L (.int y :: .int x :: st) V s := fun hU H locs ls hP hL => lv_isub C.x C.b hd (k hU H locs ls hP hL)
theorem z_imul (C : Cb K cc own nL d) {x y : Int32} (hd : decode cc pc = .ok (.imul, 1))
    (k : GZ K M (pc + 1) L (.int (x * y) :: st) V s) : GZ K M pc L (.int y :: .int x :: st) V s := fun hU H locs ls hP hL => lv_imul C.x C.b hd (k hU H locs ls hP hL)
theorem z_iand (C : Cb K cc own nL d) {x y : Int32} (hd : decode cc pc = .ok (.iand, 1))
    (k : GZ K M (pc + 1) L (.int (x &&& y) :: st) V s) : GZ K M pc L (.int y :: .int x :: st) V s := fun hU H locs ls hP hL => lv_iand C.x C.b hd (k hU H locs ls hP hL)
theorem z_idiv (C : Cb K cc own nL d) {x y : Int32} (hd : decode cc pc = .ok (.idiv, 1)) (hne : ¬ y = 0)
    (k : GZ K M (pc + 1) L (.int (x / y) :: st) V s) : GZ K M pc L (.int y :: .int x :: st) V s := fun hU H locs ls hP hL => lv_idiv C.x C.b hd hne (k hU H locs ls hP hL)
theorem z_irem (C : Cb K cc own nL d) {x y : Int32} (hd : decode cc pc = .ok (.irem, 1)) (hne : ¬ y = 0)
    (k : GZ K M (pc + 1) L (.int (x - x / y * y) :: st) V s) : GZ K M pc L (.int y :: .int x :: st) V s := fun hU H locs ls hP hL => lv_irem C.x C.b hd hne (k hU H locs ls hP hL)
theorem z_ineg (C : Cb K cc own nL d) {x : Int32} (hd : decode cc pc = .ok (.ineg, 1))
    (k : GZ K M (pc + 1) L (.int (-x) :: st) V s) : GZ K M pc L (.int x :: st) V s := fun hU H locs ls hP hL => lv_ineg C.x C.b hd (k hU H locs ls hP hL)
theorem z_ladd (C : Cb K cc own nL d) {x y : Int64} (hd : decode cc pc = .ok (.ladd, 1))
    (k : GZ K M (pc + 1) L (.long (x + y) :: st) V s) : GZ K M pc L (.long y :: .long x :: st) V s := fun hU H locs ls hP hL => lv_ladd C.x C.b hd (k hU H locs ls hP hL)
theorem z_lmul (C : Cb K cc own nL d) {x y : Int64} (hd : decode cc pc = .ok (.lmul, 1))
    (k : GZ K M (pc + 1) L (.long (x * y) :: st) V s) : GZ K M pc L (.long y :: .long x :: st) V s := fun hU H locs ls hP hL => lv_lmul C.x C.b hd (k hU H locs ls hP hL)
theorem z_land (C : Cb K cc own nL d) {x y : Int64} (hd : decode cc pc = .ok (.land, 1))
    (k : GZ K M (pc + 1) L (.long (x &&& y) :: st) V s) : GZ K M pc L (.long y :: .long x :: st) V s := fun hU H locs ls hP hL => lv_land C.x C.b hd (k hU H locs ls hP hL)
theorem z_lor (C : Cb K cc own nL d) {x y : Int64} (hd : decode cc pc = .ok (.lor, 1))
    (k : GZ K M (pc + 1) L (.long (x ||| y) :: st) V s) : GZ K M pc L (.long y :: .long x :: st) V s := fun hU H locs ls hP hL => lv_lor C.x C.b hd (k hU H locs ls hP hL)
theorem z_ldiv (C : Cb K cc own nL d) {x y : Int64} (hd : decode cc pc = .ok (.ldiv, 1)) (hne : ¬ y = 0)
    (k : GZ K M (pc + 1) L (.long (x / y) :: st) V s) : GZ K M pc L (.long y :: .long x :: st) V s := fun hU H locs ls hP hL => lv_ldiv C.x C.b hd hne (k hU H locs ls hP hL)
theorem z_lrem (C : Cb K cc own nL d) {x y : Int64} (hd : decode cc pc = .ok (.lrem, 1)) (hne : ¬ y = 0)
    (k : GZ K M (pc + 1) L (.long (x - x / y * y) :: st) V s) : GZ K M pc L (.long y :: .long x :: st) V s := fun hU H locs ls hP hL => lv_lrem C.x C.b hd hne (k hU H locs ls hP hL)
theorem z_i2l (C : Cb K cc own nL d) {x : Int32} (hd : decode cc pc = .ok (.i2l, 1))
    (k : GZ K M (pc + 1) L (.long x.toInt64 :: st) V s) : GZ K M pc L (.int x :: st) V s := fun hU H locs ls hP hL => lv_i2l C.x C.b hd rfl (k hU H locs ls hP hL)
theorem z_l2i (C : Cb K cc own nL d) {x : Int64} (hd : decode cc pc = .ok (.l2i, 1))
    (k : GZ K M (pc + 1) L (.int x.toInt32 :: st) V s) : GZ K M pc L (.long x :: st) V s := fun hU H locs ls hP hL => lv_l2i C.x C.b hd rfl (k hU H locs ls hP hL)
theorem z_lcmp (C : Cb K cc own nL d) {x y : Int64} (hd : decode cc pc = .ok (.lcmp, 1))
    (k : GZ K M (pc + 1) L (.int (lg_cmp x y) :: st) V s) : GZ K M pc L (.long y :: .long x :: st) V s := fun hU H locs ls hP hL => W.lcmp C.x C.b hd (k hU H locs ls hP hL)
theorem z_dup (C : Cb K cc own nL d) {v : Value} (hd : decode cc pc = .ok (.dup, 1)) (hv : v.category = 1)
    (k : GZ K M (pc + 1) L (v :: v :: st) V s) : GZ K M pc L (v :: st) V s := fun hU H locs ls hP hL => lv_dup C.x C.b hd hv (k hU H locs ls hP hL)
theorem z_dup2 (C : Cb K cc own nL d) {u v : Value} (hd : decode cc pc = .ok (.dup2, 1)) (hu : u.category = 1) (hv : v.category = 1)
    (k : GZ K M (pc + 1) L (u :: v :: u :: v :: st) V s) : GZ K M pc L (u :: v :: st) V s := fun hU H locs ls hP hL => lv_dup2_11 C.x C.b hd hu hv (k hU H locs ls hP hL)
theorem z_pop (C : Cb K cc own nL d) {v : Value} (hd : decode cc pc = .ok (.pop, 1)) (hv : v.category = 1)
    (k : GZ K M (pc + 1) L st V s) : GZ K M pc L (v :: st) V s := fun hU H locs ls hP hL => lv_pop C.x C.b hd hv (k hU H locs ls hP hL)
theorem z_if_eq (C : Cb K cc own nL d) {x : Int32} {off : Int} {tgt : Nat} (hd : decode cc pc = .ok (.ifCond .eq off, 3)) (ht : (pc : Int) + off = (tgt : Int))
    (kt : x = 0 → GZ K M tgt L st V s) (kf : ¬ x = 0 → GZ K M (pc + 3) L st V s) : GZ K M pc L (.int x :: st) V s := fun hU H locs ls hP hL => lv_if_eq C.x C.b hd ht (fun q => kt q hU H locs ls hP hL) (fun q => kf q hU H locs ls hP hL)
theorem z_if_ne (C : Cb K cc own nL d) {x : Int32} {off : Int} {tgt : Nat} (hd : decode cc pc = .ok (.ifCond .ne off, 3)) (ht : (pc : Int) + off = (tgt : Int))
    (kt : ¬ x = 0 → GZ K M tgt L st V s) (kf : x = 0 → GZ K M (pc + 3) L st V s) : GZ K M pc L (.int x :: st) V s := fun hU H locs ls hP hL => lv_if_ne C.x C.b hd ht (fun q => kt q hU H locs ls hP hL) (fun q => kf q hU H locs ls hP hL)
theorem z_if_lt (C : Cb K cc own nL d) {x : Int32} {off : Int} {tgt : Nat} (hd : decode cc pc = .ok (.ifCond .lt off, 3)) (ht : (pc : Int) + off = (tgt : Int))
    (kt : x < 0 → GZ K M tgt L st V s) (kf : ¬ x < 0 → GZ K M (pc + 3) L st V s) : GZ K M pc L (.int x :: st) V s := fun hU H locs ls hP hL => lv_if_lt C.x C.b hd ht (fun q => kt q hU H locs ls hP hL) (fun q => kf q hU H locs ls hP hL)
theorem z_if_ge (C : Cb K cc own nL d) {x : Int32} {off : Int} {tgt : Nat} (hd : decode cc pc = .ok (.ifCond .ge off, 3)) (ht : (pc : Int) + off = (tgt : Int))
    (kt : 0 ≤ x → GZ K M tgt L st V s) (kf : ¬ 0 ≤ x → GZ K M (pc + 3) L st V s) : GZ K M pc L (.int x :: st) V s := fun hU H locs ls hP hL => lv_if_ge C.x C.b hd ht (fun q => kt q hU H locs ls hP hL) (fun q => kf q hU H locs ls hP hL)
theorem z_if_gt (C : Cb K cc own nL d) {x : Int32} {off : Int} {tgt : Nat} (hd : decode cc pc = .ok (.ifCond .gt off, 3)) (ht : (pc : Int) + off = (tgt : Int))
    (kt : 0 < x → GZ K M tgt L st V s) (kf : ¬ 0 < x → GZ K M (pc + 3) L st V s) : GZ K M pc L (.int x :: st) V s := fun hU H locs ls hP hL => lv_if_gt C.x C.b hd ht (fun q => kt q hU H locs ls hP hL) (fun q => kf q hU H locs ls hP hL)
theorem z_if_le (C : Cb K cc own nL d) {x : Int32} {off : Int} {tgt : Nat} (hd : decode cc pc = .ok (.ifCond .le off, 3)) (ht : (pc : Int) + off = (tgt : Int))
    (kt : x ≤ 0 → GZ K M tgt L st V s) (kf : ¬ x ≤ 0 → GZ K M (pc + 3) L st V s) : GZ K M pc L (.int x :: st) V s := fun hU H locs ls hP hL => lv_if_le C.x C.b hd ht (fun q => kt q hU H locs ls hP hL) (fun q => kf q hU H locs ls hP hL)
theorem z_icmp_eq (C : Cb K cc own nL d) {x y : Int32} {off : Int} {tgt : Nat} (hd : decode cc pc = .ok (.if_icmp .eq off, 3)) (ht : (pc : Int) + off = (tgt : Int))
    (kt : x = y → GZ K M tgt L st V s) (kf : ¬ x = y → GZ K M (pc + 3) L st V s) : GZ K M pc L (.int y :: .int x :: st) V s := fun hU H locs ls hP hL => lv_icmp_eq C.x C.b hd ht (fun q => kt q hU H locs ls hP hL) (fun q => kf q hU H locs ls hP hL)
theorem z_icmp_ne (C : Cb K cc own nL d) {x y : Int32} {off : Int} {tgt : Nat} (hd : decode cc pc = .ok (.if_icmp .ne off, 3)) (ht : (pc : Int) + off = (tgt : Int))
    (kt : ¬ x = y → GZ K M tgt L st V s) (kf : x = y → GZ K M (pc + 3) L st V s) : GZ K M pc L (.int y :: .int x :: st) V s := fun hU H locs ls hP hL => lv_icmp_ne C.x C.b hd ht (fun q => kt q hU H locs ls hP hL) (fun q => kf q hU H locs ls hP hL)
theorem z_icmp_lt (C : Cb K cc own nL d) {x y : Int32} {off : Int} {tgt : Nat} (hd : decode cc pc = .ok (.if_icmp .lt off, 3)) (ht : (pc : Int) + off = (tgt : Int))
    (kt : x < y → GZ K M tgt L st V s) (kf : ¬ x < y → GZ K M (pc + 3) L st V s) : GZ K M pc L (.int y :: .int x :: st) V s := fun hU H locs ls hP hL => lv_icmp_lt C.x C.b hd ht (fun q => kt q hU H locs ls hP hL) (fun q => kf q hU H locs ls hP hL)
theorem z_icmp_ge (C : Cb K cc own nL d) {x y : Int32} {off : Int} {tgt : Nat} (hd : decode cc pc = .ok (.if_icmp .ge off, 3)) (ht : (pc : Int) + off = (tgt : Int))
    (kt : y ≤ x → GZ K M tgt L st V s) (kf : ¬ y ≤ x → GZ K M (pc + 3) L st V s) : GZ K M pc L (.int y :: .int x :: st) V s := fun hU H locs ls hP hL => lv_icmp_ge C.x C.b hd ht (fun q => kt q hU H locs ls hP hL) (fun q => kf q hU H locs ls hP hL)
theorem z_icmp_gt (C : Cb K cc own nL d) {x y : Int32} {off : Int} {tgt : Nat} (hd : decode cc pc = .ok (.if_icmp .gt off, 3)) (ht : (pc : Int) + off = (tgt : Int))
    (kt : y < x → GZ K M tgt L st V s) (kf : ¬ y < x → GZ K M (pc + 3) L st V s) : GZ K M pc L (.int y :: .int x :: st) V s := fun hU H locs ls hP hL => lv_icmp_gt C.x C.b hd ht (fun q => kt q hU H locs ls hP hL) (fun q => kf q hU H locs ls hP hL)
theorem z_icmp_le (C : Cb K cc own nL d) {x y : Int32} {off : Int} {tgt : Nat} (hd : decode cc pc = .ok (.if_icmp .le off, 3)) (ht : (pc : Int) + off = (tgt : Int))
    (kt : x ≤ y → GZ K M tgt L st V s) (kf : ¬ x ≤ y → GZ K M (pc + 3) L st V s) : GZ K M pc L (.int y :: .int x :: st) V s := fun hU H locs ls hP hL => lv_icmp_le C.x C.b hd ht (fun q => kt q hU H locs ls hP hL) (fun q => kf q hU H locs ls hP hL)
theorem z_goto (C : Cb K cc own nL d) {off : Int} {tgt : Nat} (hd : decode cc pc = .ok (.goto off, 3)) (ht : (pc : Int) + off = (tgt : Int)) (k : GZ K M tgt L st V s) : GZ K M pc L st V s := fun hU H locs ls hP hL => lv_goto C.x C.b hd ht (k hU H locs ls hP hL)
theorem z_ldc (C : Cb K cc own nL d) {index : Nat} {v : Int32} (hw : Cond.constant own index v ∈ AL) (hd : decode cc pc = .ok (.ldc index, 2)) (k : GZ K M (pc + 2) L (.int v :: st) V s) : GZ K M pc L st V s := fun hU H locs ls hP hL => lv_ldc C.x C.b C.o (C.t hw) hd (k hU H locs ls hP hL)
theorem z_ldc2 (C : Cb K cc own nL d) {index : Nat} {v : Int64} (hw : Cond.constantLong own index v ∈ AL) (hd : decode cc pc = .ok (.ldc2_w index, 3)) (k : GZ K M (pc + 3) L (.long v :: st) V s) : GZ K M pc L st V s := fun hU H locs ls hP hL => lv_ldc2 C.x C.b C.o (C.t hw) hd (k hU H locs ls hP hL)
def ishl (x y : Int32) : Int32 := x <<< (y &&& 31)
def ishr (x y : Int32) : Int32 := x >>> (y &&& 31)
def iushr (x y : Int32) : Int32 := (x.toUInt32 >>> (y.toUInt32 &&& Int32.toUInt32 31)).toInt32
theorem z_ishl (C : Cb K cc own nL d) {x y : Int32} (hd : decode cc pc = .ok (.ishl, 1)) (k : GZ K M (pc + 1) L (.int (ishl x y) :: st) V s) : GZ K M pc L (.int y :: .int x :: st) V s := fun hu H locs ls hP hL => lv_ishl C.x C.b hd (k hu H locs ls hP hL)
theorem z_ishr (C : Cb K cc own nL d) {x y : Int32} (hd : decode cc pc = .ok (.ishr, 1)) (k : GZ K M (pc + 1) L (.int (ishr x y) :: st) V s) : GZ K M pc L (.int y :: .int x :: st) V s := fun hu H locs ls hP hL => lv_ishr C.x C.b hd (k hu H locs ls hP hL)
theorem z_iushr (C : Cb K cc own nL d) {x y : Int32} (hd : decode cc pc = .ok (.iushr, 1)) (k : GZ K M (pc + 1) L (.int (iushr x y) :: st) V s) : GZ K M pc L (.int y :: .int x :: st) V s := fun hu H locs ls hP hL => lv_iushr C.x C.b hd rfl (k hu H locs ls hP hL)
theorem z_mask {L' : List (Option Value)} (bs : List Bool) (h : ksel bs L = L') (k : GZ K M pc L' st V s) : GZ K M pc L st V s := by
  intro hu H locs ls hP hL
  subst h
  exact k hu H locs ls hP ⟨by rw [hL.1, ksel_len], hL.2.1, fun i v hi => hL.2.2 i v (ksel_get bs L i v hi)⟩
/-- the rows made since are forgotten -/
theorem z_drop {Wc : Wl} (hp : Pf Wc V) (k : GZ K M pc L st Wc s) : GZ K M pc L st V s := by
  obtain ⟨X, rfl⟩ := hp
  intro hu H locs ls hP hL
  refine k hu H locs ls ⟨hP.1, fun i q h => hP.2.1 i q ?_, hP.2.2.1, ⟨fun i j a n n' h1 h2 => hP.2.2.2.1.1 i j a n n' (z_up h1) (z_up h2), fun i a n h => hP.2.2.2.1.2 i a n (z_up h)⟩, fun i j n hi h => hP.2.2.2.2 i j n hi (z_up h)⟩ hL
  rw [wz_app, List.getElem?_append_left (List.getElem?_eq_some_iff.mp h).1]
  exact h
variable {ret : Option FieldType} {b Ln : Nat} {xs : Nat → Int32}
theorem z_iald (C : CZ K cc own nL d M ret b Ln xs) {o a n : Nat} {i : Int32} (hd : decode cc pc = .ok (.iaload, 1)) (hW : V[o]? = some (a, n)) (hi : inb i n = true)
    (k : GZ K M (pc + 1) L (.int (rT s o i.toNatClampNeg) :: st) V s) : GZ K M pc L (.int i :: .ref a :: st) V s := fun hu H locs ls hP hL =>
  va_iald C.c.x C.c.b C.2.2.1 hP.2.1 o 0 (wz_at hW) rfl (inb_in hi) hd (k hu H locs ls hP hL)
theorem wz_P1 {A B : va_W} {D : va_G} {H : Heap} (h : va_P D vwCl (A ++ B) H) : va_P D vwCl A H := fun k q hk => h k q (by rw [List.getElem?_append_left (List.getElem?_eq_some_iff.mp hk).1]; exact hk)
theorem wz_P2 {A B : va_W} {D : va_G} {H : Heap} (h : va_P D vwCl (A ++ B) H) : va_P D vwCl B H := fun k q hk => h (A.length + k) q (by rw [List.getElem?_append_right (Nat.le_add_right _ _), Nat.add_sub_cancel_left]; exact hk)
theorem wz_at2 {cys : Nat → ClassId} {A : va_W} {τ : Sg} {o a n : Nat} (h : V[o]? = some (a, n)) : (A ++ wz cys τ 0 V)[A.length + o]? = some (a, .inl (cys 0, n, .inl (rI τ o))) := by
  rw [List.getElem?_append_right (Nat.le_add_right _ _), Nat.add_sub_cancel_left]; exact wz_at h
/-- both worlds as one -/
theorem WZ.D (C : CZ K cc own nL d M ret b Ln xs) {H : Heap} {locs : List Loc} (hP : WZ K V s H locs) : va_D (kA K) (wd (kcy K) (kad K) s.1 0 layC ++ wz (kcy K) s.2.1 0 V) := by
  refine va_D.app (wd_D C.2.2.2.1 C.2.2.2.2.1) hP.2.2.2.1.D (fun i j p q h1 h2 e => ?_)
  have hl : i < layC.length := by have := (List.getElem?_eq_some_iff.mp h1).1; rw [wd_len] at this; exact this
  rw [wd_at (List.getElem?_eq_getElem hl)] at h1
  cases h1
  rw [wz_get] at h2
  obtain ⟨z, h3, h4⟩ := Option.map_eq_some_iff.mp h2
  subst h4
  refine hP.2.2.2.2 i j z.2 hl ?_
  rw [h3]
  exact congrArg some (by rw [show kad K i = z.1 from e])
theorem z_iast (C : CZ K cc own nL d M ret b Ln xs) {o a n : Nat} {i x : Int32} (hd : decode cc pc = .ok (.iastore, 1)) (hW : V[o]? = some (a, n)) (hi : inb i n = true)
    (k : GZ K M (pc + 1) L st V (wT s o i.toNatClampNeg x)) : GZ K M pc L (.int x :: .int i :: .ref a :: st) V s := fun hu H locs ls hP hL => by
  have he := wz_at2 (cys := kcy K) (A := wd (kcy K) (kad K) s.1 0 layC) (τ := s.2.1) hW
  have hw : (wz (kcy K) s.2.1 0 V).set o (a, .inl (kcy K 0, n, .inl (upd (rI s.2.1 o) i.toNatClampNeg x))) = wz (kcy K) (wI s.2.1 o i.toNatClampNeg x) 0 V := by
    have := wz_set (cys := kcy K) (τ := s.2.1) (τ' := wI s.2.1 o i.toNatClampNeg x) V 0 o hW (fun q hq => by funext j; simp [rI, wI]; omega)
    rw [Nat.zero_add, rI_upd] at this
    exact this
  refine va_iast C.c.x C.c.b C.2.2.1 (hP.1.app hP.2.1) (hP.D C) hP.2.2.1 _ 0 he rfl (inb_in hi) hd (fun H1 locs1 q1 q2 q3 => ?_)
  rw [List.set_append_right _ _ (Nat.le_add_right _ _), Nat.add_sub_cancel_left, hw] at q1
  exact k hu H1 locs1 ls ⟨wz_P1 q1, wz_P2 q1, q3, hP.2.2.2⟩ hL
theorem zc_o {τ : Sg} {n q : Nat} (h : q ≠ n) : rI (zc τ n) q = rI τ q := by funext j; simp [rI, zc, h]
theorem zc_n {τ : Sg} {n : Nat} : rI (zc τ n) n = fun _ => 0 := by funext j; simp [rI, zc]
theorem z_newI (C : CZ K cc own nL d M ret b Ln xs) {n : Int32} {N nw : Nat} (hd : decode cc pc = .ok (.newarray .int, 2)) (hw : Cond.arrayClass .int ∈ AL) (hn : ¬ n < 0) (hN : n.toNatClampNeg = N) (hb : N ≤ 64) (hW : V.length = nw) (hm : decide (s.2.2 + 1 ≤ M) = true)
    (kk : ∀ q, GZ K M (pc + 2) L (.ref q :: st) (V ++ [(q, N)]) (nT s nw)) : GZ K M pc L (.int n :: st) V s := fun hu H locs ls hP hL => by
  have hm' := of_decide_eq_true hm
  have hm1 := C.2.2.2.2.2.2.2.2.2.2.1
  have hm2 := C.2.2.2.2.2.2.2.2.2.2.2
  subst hW
  refine va_newa (atype := .int) (ty := .int) (a0 := (N, .inl (fun _ => 0))) C.c.x C.c.b (C.c.t hw) rfl C.2.2.1 (hP.1.app hP.2.1) (hP.D C) hP.2.2.1 C.2.2.2.2.2.1 (fun cA => by rw [vp_cell_i]; rfl) hn hN (by show N * 4 ≤ _; omega) (by omega) (by omega) hd (fun q cA H1 qK q1 q2 q3 => ?_)
  have ec : cA = kcy K 0 := by
    have a1 : va_RA (ks K) cA .int := (qK.2 5 (cA, .int) rfl).2
    have a2 : va_RA (ks K) (kcy K 0) .int := (C.2.2.1.2 0 _ rfl).2
    exact Option.some.inj (a1.symm.trans a2)
  subst ec
  rw [List.append_assoc] at q1 q2
  have hw2 : wz (kcy K) s.2.1 0 V ++ [(q, .inl (kcy K 0, N, .inl (fun _ => 0)))] = wz (kcy K) (zc s.2.1 V.length) 0 (V ++ [(q, N)]) := by
    rw [wz_app, wz_eq V 0 (fun p _ h => zc_o (by omega)), Nat.zero_add]
    show _ = _ ++ [(q, Sum.inl (kcy K 0, N, Sum.inl (rI (zc s.2.1 V.length) V.length)))]
    rw [zc_n]
  rw [hw2] at q1 q2
  refine W.widen (k := s.2.2 + 1) (n := 64 * (s.2.2 + 1)) (Nat.le_refl _) (by omega) ?_
  refine kk q hm' H1 locs ls ⟨wz_P1 q1, wz_P2 q1, q3, ⟨fun i j a n1 n2 h1 h2 => ?_, fun i a n1 h1 => ?_⟩, fun i j n1 hi h1 => ?_⟩ hL
  · have := q2.1 _ _ _ _ (wz_at2 (cys := kcy K) (A := wd (kcy K) (kad K) s.1 0 layC) (τ := zc s.2.1 V.length) h1) (wz_at2 (cys := kcy K) (A := wd (kcy K) (kad K) s.1 0 layC) (τ := zc s.2.1 V.length) h2) rfl
    omega
  · exact q2.2 _ _ (wz_at2 (cys := kcy K) (A := wd (kcy K) (kad K) s.1 0 layC) (τ := zc s.2.1 V.length) h1)
  · have e1 : (wd (kcy K) (kad K) s.1 0 layC ++ wz (kcy K) (zc s.2.1 V.length) 0 (V ++ [(q, N)]))[i]? = some (kad K i, ent (kcy K) (kad K) s.1 i layC[i]) := by
      rw [List.getElem?_append_left (by rw [wd_len]; exact hi)]
      exact wd_at (List.getElem?_eq_getElem hi)
    have := q2.1 _ _ _ _ e1 (wz_at2 (cys := kcy K) (A := wd (kcy K) (kad K) s.1 0 layC) (τ := zc s.2.1 V.length) h1) rfl
    rw [wd_len] at this
    omega
theorem z_sld (C : CZ K cc own nL d M ret b Ln xs) {i : Int32} (hd : decode cc pc = .ok (.iaload, 1)) (hi : inb i Ln = true) (k : GZ K M (pc + 1) L (.int (xs i.toNatClampNeg) :: st) V s) : GZ K M pc L (.int i :: .ref b :: st) V s := fun hu H locs ls hP hL =>
  va_sld C.c.x C.c.b C.2.2.2.2.2.2.2.1 C.2.2.2.2.2.2.2.2.1 C.2.2.2.2.2.2.2.2.2.1 hP.2.2.1 (inb_in hi) hd (k hu H locs ls hP hL)
theorem z_slen (C : CZ K cc own nL d M ret b Ln xs) (hd : decode cc pc = .ok (.arraylength, 1)) (k : GZ K M (pc + 1) L (.int (nI Ln) :: st) V s) : GZ K M pc L (.ref b :: st) V s := fun hu H locs ls hP hL =>
  va_slen C.c.x C.c.b C.2.2.2.2.2.2.2.1 C.2.2.2.2.2.2.2.2.1 C.2.2.2.2.2.2.2.2.2.1 hP.2.2.1 hd (k hu H locs ls hP hL)
/-! contracts of the law's methods -/
abbrev OkZ : Type := Option Value → LwS → Prop
def ozI (p : Int32 × LwS) : OkZ := fun v τ => v = some (.int p.1) ∧ τ = p.2
def ozV (p : LwS) : OkZ := fun v τ => v = none ∧ τ = p
def QZ (D : va_G) (cys : Nat → ClassId) (adC : Nat → Nat) (V : Wl) (A : Nat → Prop) (ok : OkZ) : Array Value → State → Outcome → State → Prop := fun _ st oc t =>
  ∃ (v : Option Value) (s' : LwS), oc = .returned v ∧ ok v s' ∧ va_P D vwCl (wd cys adC s'.1 0 layC) t.heap ∧ va_P D vwCl (wz cys s'.2.1 0 V) t.heap ∧ va_F A st t
def BZ (D : va_G) (cys : Nat → ClassId) (adC : Nat → Nat) (V : Wl) (s : LwS) (b Ln : Nat) (xs : Nat → Int32) (sz : Nat) (U : State) : Prop :=
  U.heap.size = sz ∧ va_P D vwCl (wd cys adC s.1 0 layC) U.heap ∧ va_P D vwCl (wz cys s.2.1 0 V) U.heap ∧ va_K D vwCl (tysOf cys) U ∧ (∀ i j, i < layC.length → j < layC.length → adC i = adC j → i = j) ∧ (∀ (i j a n n' : Nat), V[i]? = some (a, n) → V[j]? = some (a, n') → i = j) ∧ (∀ (i j n : Nat), i < layC.length → V[j]? = some (adC i, n) → False) ∧ Ev (A2 adC V sz) U ∧ va_X b Ln xs U U.heap ∧ b < U.heap.size ∧ ¬ A2 adC V sz b
def rmz (d M : Nat) : Room := { frames := d, cells := M, slots := 64 * M, locals := 40 * d }
def CtZ (V : Wl) (y : MethodName) (cc : ByteArray) (nL : Nat) (ret : Option FieldType) (d M b Ln : Nat) (xs : Nat → Int32) (vals : (Nat → Nat) → List Value) (s : LwS) (ok : OkZ) : Prop :=
  ∀ (l : Launch) (D : va_G) (cys : Nat → ClassId) (adC : Nat → Nat) (sz : Nat), Met l y (.code y cc nL ret :: AL) (rmz d M) (va_Pc (vals adC) (BZ D cys adC V s b Ln xs sz)) (QZ D cys adC V (A2 adC V sz) ok) M (64 * M) (A2 adC V sz)
/-- what a method owes at its end -/
def RZ (K : KT) (V : Wl) (M : Nat) (ok : OkZ) : Prop := kQ K = MQ (kb K) (QZ (kD K) (kcy K) (kad K) V (kA K) ok) (ka K) (ks K) M (64 * M) (kA K)
theorem z_q {ok : OkZ} {v : Option Value} {H : Heap} {locs : List Loc} (ho : ok v s) (hP : WZ K V s H locs) (t : State) (ht : t.heap = H) : QZ (kD K) (kcy K) (kad K) V (kA K) ok (ka K) (ks K) (.returned v) t :=
  ⟨v, s, rfl, ho, by rw [ht]; exact hP.1, by rw [ht]; exact hP.2.1, hP.2.2.1.F ht⟩
theorem z_iret {Wc : Wl} {ok : OkZ} {ty : FieldType} (C : CZ K cc own nL d M (some ty) b Ln xs) (hp : Pf Wc V) (hQ : RZ K Wc M ok) {v : Int32} (hd : decode cc pc = .ok (.ireturn, 1)) (hn : narrow ty (.int v) = .int v) (ho : ok (some (.int v)) s) : GZ K M pc L [.int v] V s := z_drop hp (fun hu H locs ls hP hL => by
  show W _ _ _ _ _ _ _ _ _ _ _ _ _ _ (kQ K) _
  rw [hQ]
  refine W.widen (k := M) (n := 64 * M) hu (by omega) ?_
  exact W.zret C.c.x C.c.b C.2.1 hn (fun t ht _ => z_q ho hP t ht) hP.2.2.1.2.2 hd C.c.2.2.2.2.2.1)
theorem z_vret {Wc : Wl} {ok : OkZ} (C : CZ K cc own nL d M none b Ln xs) (hp : Pf Wc V) (hQ : RZ K Wc M ok) (hd : decode cc pc = .ok (.return_, 1)) (ho : ok none s) : GZ K M pc L [] V s := z_drop hp (fun hu H locs ls hP hL => by
  show W _ _ _ _ _ _ _ _ _ _ _ _ _ _ (kQ K) _
  rw [hQ]
  refine W.widen (k := M) (n := 64 * M) hu (by omega) ?_
  exact W.vret C.c.x C.c.b C.2.1 (fun t ht _ => z_q ho hP t ht) hP.2.2.1.2.2 hd C.c.2.2.2.2.2.1)
end ZI
theorem ctz_of {V : Wl} {y : MethodName} {cc : ByteArray} {nL d M b Ln : Nat} {xs : Nat → Int32} {ret : Option FieldType} {vals : (Nat → Nat) → List Value} {s : LwS} {ok : OkZ} {L0 : (Nat → Nat) → List (Option Value)} (hy : plainName y.cls = true) (hs : s.2.2 = 0) (hn : ∀ ad, (lsl (vals ad)).length ≤ nL) (hL : ∀ ad, pad (lsl (vals ad)) nL = L0 ad)
    (body : ∀ K, CZ K cc y.cls nL d M ret b Ln xs → RZ K V M ok → GZ K M 0 (L0 (kad K)) [] V s) : CtZ V y cc nL ret d M b Ln xs vals s ok := by
  intro l D cys adC sz
  refine Met.ofW (cc := cc) (maxL := nL) (ret := ret) hy rfl ?_
  intro p e st m args below meth c s₁ B hml hv
  obtain ⟨rfl, hsz, hP1, hP2, hK, hi, hj, hx, hE, hX, hbl, hbA⟩ := hv
  subst hsz
  have hts := atoms_spec (ws := .code y cc nL ret :: AL) B.pre
  have hown : st.vm.findClass y.cls = some m.cls := findClass_of_methodNamed B.named
  let K : KT := (p, l, e, rmz d M, st, m, (vals adC).toArray, below, meth, c, D, cys, adC, A2 adC V st.heap.size, MQ below (QZ D cys adC V (A2 adC V st.heap.size) ok) (vals adC).toArray st M (64 * M) (A2 adC V st.heap.size))
  have C : CZ K cc y.cls nL d M ret b Ln xs := ⟨⟨B.exec, B.bytes, hml, hown, fun w hw => hts w (List.mem_cons_of_mem _ hw), B.notSynchronized, Nat.le_refl _, Nat.le_refl _⟩, B.returns, hK, hi, fun i h => Or.inl ⟨i, h, rfl⟩, fun q h => Or.inr (Or.inr h), hE, hX, hbl, hbA, Nat.le_refl _, Nat.le_refl _⟩
  have hG := body K C rfl (by rw [hs]; exact Nat.zero_le _)
  rw [hs] at hG
  rw [lg_entry_eq]
  exact hG st.heap [] _ ⟨hP1, hP2, va_S.rf, ⟨hj, fun i a n h => Or.inr (Or.inl ⟨i, n, h⟩)⟩, hx⟩ (hL adC ▸ lx_entry (vals adC) (hn adC))
theorem A2.sub {K : KT} {cc : ByteArray} {own : String} {nL d M b Ln : Nat} {ret : Option FieldType} {xs : Nat → Int32} {V : Wl} {s : LwS} {H : Heap} {locs : List Loc} (C : CZ K cc own nL d M ret b Ln xs) (hP : WZ K V s H locs) : ∀ q, A2 (kad K) V H.size q → kA K q := fun q h => by
  rcases h with ⟨i, hi, rfl⟩ | ⟨i, n, hi⟩ | h
  · exact C.2.2.2.2.1 i hi
  · exact hP.2.2.2.1.2 i _ _ hi
  · exact C.2.2.2.2.2.1 q (Nat.le_trans hP.2.2.1.1 h)
theorem Aof.sub {K : KT} {cc : ByteArray} {own : String} {nL d M b Ln : Nat} {ret : Option FieldType} {xs : Nat → Int32} {V : Wl} {s : LwS} {H : Heap} {locs : List Loc} (C : CZ K cc own nL d M ret b Ln xs) (hP : WZ K V s H locs) : ∀ q, Aof (kad K) layC.length H.size q → kA K q := fun q h => by
  rcases h with ⟨i, hi, rfl⟩ | h
  · exact C.2.2.2.2.1 i hi
  · exact C.2.2.2.2.2.1 q (Nat.le_trans hP.2.2.1.1 h)
section ZC
variable {K : KT} {cc : ByteArray} {own : String} {nL d M pc : Nat} {L : List (Option Value)} {st : List Value} {V : Wl} {s : LwS} {ret : Option FieldType} {b Ln : Nat} {xs : Nat → Int32}
/-- a call of the class -/
theorem z_callC (C : CZ K cc own nL d M ret b Ln xs) {index n d' nL' N : Nat} {y : MethodName} {cc' : ByteArray} {ret' : Option FieldType} {vals : (Nat → Nat) → List Value} {ok : Ok} {As rest : List Value} {T : u_T} (hd : decode cc pc = .ok (.invokevirtual index, 3)) (hM : Ct layC y cc' nL' ret' d' vals s.1 ok) (hw : Cw y cc' nL' ret' n) (hl : Cond.methodLink own index y ∈ AL) (hin : Cond.instanceMethod y ∈ AL) (hse : Cond.selects y.cls y y ∈ AL) (hv : vals (kad K) = .ref (kad K 0) :: As) (hst : st = As.reverse ++ .ref (kad K 0) :: rest) (hn : As.length = n) (hdd : d' + 1 ≤ d) (hLn : L.length = nL) (hc : vwCl[9]? = some (y.cls, T, N)) (hr : (rest.map fun v => v.category).sum ≤ 8)
    (kk : ∀ v σ', ok v σ' → GZ K M (pc + 3) L (v.toList ++ rest) V (cS s σ')) : GZ K M pc L st V s := fun hu H locs ls hP hL => by
  have hm1 := C.2.2.2.2.2.2.2.2.2.2.1
  have hm2 := C.2.2.2.2.2.2.2.2.2.2.2
  have he : (wd (kcy K) (kad K) s.1 0 layC)[0]? = some (kad K 0, .inr (9, slv (kad K) s.1 0 0 slX9))   := wd_at (sh := (0, 9, slX9)) rfl
  have hf := C.c.2.2.2.2.2.2.1
  have hlo := C.c.2.2.2.2.2.2.2
  have hR : (rmd d').frames + 1 ≤ (kR K).frames ∧ 8 + (nL' + 11) + (rmd d').locals ≤ (kR K).locals := ⟨by show d' + 1 ≤ _; omega, by have := hw.2.2.2.2; show 8 + (nL' + 11) + 40 * d' ≤ _; omega⟩
  have hM' := hM (kl K) (kD K) (kcy K) (kad K) H.size
  have hsub := Aof.sub C hP
  have hpre : PreV (ks K) H y.cls (kad K 0) (va_Pc (vals (kad K)) (fun U => U.heap.size = H.size ∧ Bx (kD K) (kcy K) (kad K) layC s.1 U ∧ Ev (Aof (kad K) layC.length H.size) U)) As := ⟨ct_blind, va_recv C.2.2.1 hP.1 hc he, fun U hU hW => by
    rw [← hv]
    exact ⟨rfl, by rw [hU], ⟨by rw [hU]; exact hP.1, va_K.moved hW.alike C.2.2.1, C.2.2.2.1⟩, C.2.2.2.2.2.2.1.moved hW (fun a h1 h2 => by rw [hU]; exact hP.2.2.1.2.1 a h1 h2) hsub⟩⟩
  have hz : ls.size = nL := hL.1.trans hLn
  have cb : CallB (kR K) (ks K) (ka K) own index y cc' nL' ret' (.code y cc' nL' ret' :: AL) (rmd d') 0 0 n := callB_of n C.c.2.2.2.2.1 (ct_in hw.1) rfl rfl rfl (C.c.t hw.2.1) (C.c.t hl) ⟨hw.2.2.1.1, hw.2.2.1.2, hw.2.2.2.1⟩ hR
  have hr2 := va_runV (l := kl K) (e := ke K) (meth := kmeth K) (below := kb K) (As := As) (rest := rest) (cells := s.2.2) (slots := 64 * s.2.2) (locs := locs) C.c.fix hM' ⟨cb, C.c.t hin, C.c.t hse⟩ hpre rfl hn hz hst (lv_room hr) hd ⟨by omega, by omega⟩
  intro T hT X
  obtain ⟨v, st₀, t, T', L2, h0, X', hL2, e1, e2, ⟨v', σ', hv, hok, hw, hz, hk⟩, stp⟩ := hr2 T hT X
  cases hv
  rw [h0] at hz hk
  have hS : va_S (kA K) (ks K).heap T'.heap (locs ++ L2) := ⟨Nat.le_trans hP.2.2.1.1 (by rw [e1]; exact hz), fun q h1 h2 => by rw [e1, hk q (Nat.lt_of_lt_of_le h1 hP.2.2.1.1) (fun z => h2 (hsub q z))]; exact hP.2.2.1.2.1 q h1 h2, fun q hq => by
      rcases List.mem_append.mp hq with h | h
      · exact hP.2.2.1.2.2 q h
      · exact hsub _ (hL2 q h)⟩
  have hP2 : va_P (kD K) vwCl (wz (kcy K) s.2.1 0 V) T'.heap := hP.2.1.kept (fun k x hx => by
    have hlt := (hP.2.1 k x hx).lt
    rw [wz_get] at hx
    obtain ⟨z, h3, h4⟩ := Option.map_eq_some_iff.mp hx
    subst h4
    rw [e1]
    refine hk _ hlt (fun z9 => ?_)
    rcases z9 with ⟨i, hi, e⟩ | z9
    · exact hP.2.2.2.2 i k z.2 hi (by rw [h3]; exact congrArg some (by rw [show kad K i = z.1 from e.symm]))
    · exact absurd hlt (Nat.not_lt.mpr z9))
  obtain ⟨t2, a1, b1⟩ := kk v σ' hok hu T'.heap (locs ++ L2) ls ⟨by rw [e1]; exact hw, hP2, hS, hP.2.2.2⟩ hL T' rfl X'
  exact ⟨t2, stp t2 a1, b1⟩
theorem ctz_blind {vals : List Value} {D : va_G} {cys : Nat → ClassId} {adC : Nat → Nat} {sz : Nat} : FrameBlind (va_Pc vals (BZ D cys adC V s b Ln xs sz)) :=
  fun a U g mk q => ⟨q.1, q.2.1, q.2.2.1, q.2.2.2.1, va_K.moved (u := U) (U := U.calling g mk a) (Vm.Alike.refl U.vm) q.2.2.2.2.1, q.2.2.2.2.2.1, q.2.2.2.2.2.2.1, q.2.2.2.2.2.2.2.1, q.2.2.2.2.2.2.2.2.1.frame, va_X.moved (u := U) (U := U.calling g mk a) (Vm.Alike.refl U.vm) q.2.2.2.2.2.2.2.2.2.1, q.2.2.2.2.2.2.2.2.2.2⟩
/-- a call of the law's own -/
theorem z_callL (C : CZ K cc own nL d M ret b Ln xs) {index n d' nL' M' : Nat} {y : MethodName} {cc' : ByteArray} {ret' : Option FieldType} {vals : (Nat → Nat) → List Value} {ok : OkZ} {As rest : List Value} (hd : decode cc pc = .ok (.invokestatic index, 3)) (hM : CtZ V y cc' nL' ret' d' M' b Ln xs vals (eT s) ok) (hw : Cw y cc' nL' ret' n) (hl : Cond.methodLink own index y ∈ AL) (hi : Cond.static y ∈ AL) (hv : vals (kad K) = As) (hst : st = As.reverse ++ rest) (hn : As.length = n) (hdd : d' + 1 ≤ d) (hLn : L.length = nL) (hr : (rest.map fun v => v.category).sum ≤ 8) (hm : s.2.2 ≤ M → s.2.2 + M' ≤ M)
    (kk : ∀ v p, ok v p → GZ K M (pc + 3) L (v.toList ++ rest) V (uT s p M')) : GZ K M pc L st V s := fun hu H locs ls hP hL => by
  have hm' := hm hu
  have hm1 := C.2.2.2.2.2.2.2.2.2.2.1
  have hm2 := C.2.2.2.2.2.2.2.2.2.2.2
  have hf := C.c.2.2.2.2.2.2.1
  have hlo := C.c.2.2.2.2.2.2.2
  have hR : (rmz d' M').frames + 1 ≤ (kR K).frames ∧ 8 + (nL' + 11) + (rmz d' M').locals ≤ (kR K).locals := ⟨by show d' + 1 ≤ _; omega, by have := hw.2.2.2.2; show 8 + (nL' + 11) + 40 * d' ≤ _; omega⟩
  have hM2 := hM (kl K) (kD K) (kcy K) (kad K) H.size
  have hsub := A2.sub C hP
  have hbH : H[b]? = (ks K).heap[b]? := hP.2.2.1.2.1 b C.2.2.2.2.2.2.2.2.1 C.2.2.2.2.2.2.2.2.2.1
  have hpre : PreS (ks K) H (va_Pc (vals (kad K)) (BZ (kD K) (kcy K) (kad K) V (eT s) b Ln xs H.size)) As := ⟨ctz_blind, fun U hU hW => by
    rw [← hv]
    exact ⟨rfl, by rw [hU], by rw [hU]; exact hP.1, by rw [hU]; exact hP.2.1, va_K.moved hW.alike C.2.2.1, C.2.2.2.1, hP.2.2.2.1.1, hP.2.2.2.2, C.2.2.2.2.2.2.1.moved hW (fun a h1 h2 => by rw [hU]; exact hP.2.2.1.2.1 a h1 h2) hsub, by rw [hU]; exact va_X.moved hW.alike (va_X.kept C.2.2.2.2.2.2.2.1 hbH), by rw [hU]; exact Nat.lt_of_lt_of_le C.2.2.2.2.2.2.2.2.1 hP.2.2.1.1, fun z => C.2.2.2.2.2.2.2.2.2.1 (hsub _ z)⟩⟩
  have hz : ls.size = nL := hL.1.trans hLn
  have cb : CallB (kR K) (ks K) (ka K) own index y cc' nL' ret' (.code y cc' nL' ret' :: AL) (rmz d' M') M' (64 * M') n := callB_of n C.c.2.2.2.2.1 (ct_in hw.1) rfl rfl rfl (C.c.t hw.2.1) (C.c.t hl) ⟨hw.2.2.1.1, hw.2.2.1.2, hw.2.2.2.1⟩ hR
  have hr2 := va_runS (l := kl K) (e := ke K) (meth := kmeth K) (below := kb K) (As := As) (rest := rest) (cells := s.2.2) (slots := 64 * s.2.2) (locs := locs) C.c.fix hM2 ⟨cb, C.c.t hi⟩ hpre rfl hn hz hst (lv_room hr) hd ⟨by omega, by omega⟩
  intro T hT X
  obtain ⟨v, st₀, t, T', L2, h0, X', hL2, e1, e2, ⟨v', p, hv, hok, hw1, hw2, hz, hk⟩, stp⟩ := hr2 T hT X
  cases hv
  rw [h0] at hz hk
  have hS : va_S (kA K) (ks K).heap T'.heap (locs ++ L2) := ⟨Nat.le_trans hP.2.2.1.1 (by rw [e1]; exact hz), fun q h1 h2 => by rw [e1, hk q (Nat.lt_of_lt_of_le h1 hP.2.2.1.1) (fun z => h2 (hsub q z))]; exact hP.2.2.1.2.1 q h1 h2, fun q hq => by
      rcases List.mem_append.mp hq with h | h
      · exact hP.2.2.1.2.2 q h
      · exact hsub _ (hL2 q h)⟩
  have hk9 := kk v p hok hm' T'.heap (locs ++ L2) ls ⟨by rw [e1]; exact hw1, by rw [e1]; exact hw2, hS, hP.2.2.2⟩ hL T' rfl
  have e9 : 64 * (uT s p M').2.2 = 64 * s.2.2 + 64 * M' := by show 64 * (s.2.2 + M') = _; omega
  rw [e9] at hk9
  obtain ⟨t2, a1, b1⟩ := hk9 X'
  exact ⟨t2, stp t2 a1, b1⟩
end ZC
