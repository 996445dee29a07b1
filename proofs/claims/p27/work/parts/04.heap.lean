/-! ===== reads, writes, calls, returns over a world of shapes ===== -/
def Aof (ad : Nat → Nat) (N sz : Nat) : Nat → Prop := fun q => (∃ i, i < N ∧ q = ad i) ∨ sz ≤ q
def stL (l : List Int32) (j : Nat) : Int32 := l.getD j 0
def Ev (A : Nat → Prop) (U : State) : Prop := (∀ w ∈ NW, va_Nw w U) ∧
  (∃ t, va_Z "IceForCoast$Coins" "LEAST" "[I" (.ref t) A U U.heap ∧ va_T .int t 3 (fun j => .int (stL [1, 0, 0] j)) A U U.heap) ∧
  (∃ t, va_Z "IceForCoast$Coins" "MOST" "[I" (.ref t) A U U.heap ∧ va_T .int t 3 (fun j => .int (stL [9, 9, 99] j)) A U U.heap)
def Cx (K : KT) (Y : List Sh) (cc : ByteArray) (own : String) (nL d : Nat) (ret : Option FieldType) : Prop :=
  Cb K cc own nL d ∧ (kmeth K).sig.returnType = ret ∧ va_K (kD K) vwCl (tysOf (kcy K)) (ks K) ∧ (∀ i j, i < Y.length → j < Y.length → kad K i = kad K j → i = j) ∧ kA K = Aof (kad K) Y.length (ks K).heap.size ∧ Ev (kA K) (ks K)
def Wd (K : KT) (Y : List Sh) (σ : Sg) : Heap → List Loc → Prop := fun H locs => va_P (kD K) vwCl (wd (kcy K) (kad K) σ 0 Y) H ∧ va_S (kA K) (ks K).heap H locs
section GC
variable {K : KT} {Y : List Sh} {cc : ByteArray} {own : String} {nL d : Nat} {ret : Option FieldType}
theorem Cx.c (C : Cx K Y cc own nL d ret) : Cb K cc own nL d := C.1
theorem Cx.r (C : Cx K Y cc own nL d ret) : (kmeth K).sig.returnType = ret := C.2.1
theorem Cx.k (C : Cx K Y cc own nL d ret) : va_K (kD K) vwCl (tysOf (kcy K)) (ks K) := C.2.2.1
theorem Cx.i (C : Cx K Y cc own nL d ret) : ∀ i j, i < Y.length → j < Y.length → kad K i = kad K j → i = j := C.2.2.2.1
theorem Cx.a (C : Cx K Y cc own nL d ret) : kA K = Aof (kad K) Y.length (ks K).heap.size := C.2.2.2.2.1
theorem Cx.e (C : Cx K Y cc own nL d ret) : Ev (kA K) (ks K) := C.2.2.2.2.2
theorem Cx.in (C : Cx K Y cc own nL d ret) : ∀ i, i < Y.length → kA K (kad K i) := fun i h => by rw [C.a]; exact Or.inl ⟨i, h, rfl⟩
theorem Cx.D (C : Cx K Y cc own nL d ret) (σ : Sg) : va_D (kA K) (wd (kcy K) (kad K) σ 0 Y) := wd_D C.i C.in
theorem Cx.nest (C : Cx K Y cc own nL d ret) {w : Cond} (h : w ∈ NW) (ho : w.onTables = true) : w.before (ka K) (ks K) = true := va_Nw.use ho (C.e.1 w h)
end GC
/-- a field, by its link or by the nest -/
def FL (own : String) (index : Nat) (C n d : String) : Prop := (Cond.fieldLink own index C n d ∈ AL) ∨ ∃ host, Cond.fieldLinkNest own index C n d host ∈ NW
section GH
variable {K : KT} {Y : List Sh} {cc : ByteArray} {own : String} {nL d : Nat} {ret : Option FieldType} {pc : Nat} {L : List (Option Value)} {st : List Value} {σ : Sg}
theorem g_get (C : Cx K Y cc own nL d ret) {o ci k index N : Nat} {C0 : String} {T : u_T} {sl : List (Nat × Nat)} {s : Nat × Nat} (hd : decode cc pc = .ok (.getfield index, 3)) (hY : Y[o]? = some (0, ci, sl)) (hs : sl[k]? = some s) (hc : vwCl[ci]? = some (C0, T, N)) (hk : k < N) (hl : FL own index (T k).1 (T k).2.1 (T k).2.2.1) (hin : ∀ w ∈ u_ws C0 T N, w ∈ AL)
    {v : Value} (hv : slotV (kad K) σ o k s = v) (kk : G K (pc + 3) L (v :: st) (Wd K Y σ)) : G K pc L (.ref (kad K o) :: st) (Wd K Y σ) := fun H locs ls hP hL => by
  subst hv
  have he : (wd (kcy K) (kad K) σ 0 Y)[o]? = some (kad K o, .inr (ci, slv (kad K) σ o 0 sl)) := wd_at hY
  have hv : (slv (kad K) σ o 0 sl)[k]? = some (slotV (kad K) σ o k s) := by rw [slv_get, hs, Nat.zero_add]; rfl
  rcases hl with hl | ⟨host, hl⟩
  · exact va_get C.c.x C.c.b C.c.fix.2.2.2.2 hin C.c.o C.k hP.1 o he hc k hk (C.c.t hl) (fun _ h => h) hv hd (kk H locs ls hP hL)
  · exact va_getN C.c.x C.c.b C.c.fix.2.2.2.2 hin C.c.o C.k hP.1 o he hc k hk (C.nest hl rfl) (fun _ h => h) hv hd (kk H locs ls hP hL)
theorem g_put0 (C : Cx K Y cc own nL d ret) {o ci k index N : Nat} {C0 : String} {T : u_T} {ty0 : Nat → FieldType} {sl : List (Nat × Nat)} {s : Nat × Nat} {v : Value} {σ' : Sg} (hd : decode cc pc = .ok (.putfield index, 3)) (hY : Y[o]? = some (0, ci, sl)) (hs : sl[k]? = some s) (hc : vwCl[ci]? = some (C0, T, N)) (hk : k < N) (hl : FL own index (T k).1 (T k).2.1 (T k).2.2.1) (hin : ∀ w ∈ u_ws C0 T N, w ∈ AL)
    (hty : ∀ k, k < N → parseFieldDescriptor (T k).2.2.1 = some (ty0 k)) (hnm : ∀ a, a < N → ∀ b, b < N → a ≠ b → (T a).2.1 ≠ (T b).2.1) (hfin : (T k).2.2.2 = false) (hn : narrow (ty0 k) v = v) (hf : fits (ty0 k) v = true)
    (h1 : ∀ q sh, q ≠ o → ent (kcy K) (kad K) σ' q sh = ent (kcy K) (kad K) σ q sh) (h2 : ∀ q t, q ≠ k → slotV (kad K) σ' o q t = slotV (kad K) σ o q t) (h3 : slotV (kad K) σ' o k s = v)
    (kk : G K (pc + 3) L st (Wd K Y σ')) : G K pc L (v :: .ref (kad K o) :: st) (Wd K Y σ) := fun H locs ls hP hL => by
  have he : (wd (kcy K) (kad K) σ 0 Y)[o]? = some (kad K o, .inr (ci, slv (kad K) σ o 0 sl)) := wd_at hY
  have hlen : k < (slv (kad K) σ o 0 sl).length := by rw [slv_len]; exact (List.getElem?_eq_some_iff.mp hs).1
  have hset : (slv (kad K) σ o 0 sl).set k v = slv (kad K) σ' o 0 sl := slv_set sl 0 k s hs (fun q t hq => h2 q t (by omega)) (by rw [Nat.zero_add]; exact h3)
  have hw : (wd (kcy K) (kad K) σ 0 Y).set o (kad K o, .inr (ci, (slv (kad K) σ o 0 sl).set k v)) = wd (kcy K) (kad K) σ' 0 Y := by
    have := wd_set (cys := kcy K) (ad := kad K) (σ := σ) (σ' := σ') (e := .inr (ci, slv (kad K) σ' o 0 sl)) Y 0 o _ hY (fun q t hq => h1 q t (by omega)) (by rw [Nat.zero_add]; rfl)
    rw [Nat.zero_add] at this
    rw [hset]
    exact this
  rcases hl with hl | ⟨host, hl⟩
  · exact va_put C.c.x C.c.b C.c.fix.2.2.2.2 hin ty0 hty hnm C.c.o C.k hP.1 (C.D σ) hP.2 o he hc k hk (C.c.t hl) (fun _ h => h) hfin (hty k hk) hn hf hlen hd (fun H1 locs1 q1 q2 q3 => kk H1 locs1 ls ⟨hw ▸ q1, q3⟩ hL)
  · exact va_putN C.c.x C.c.b C.c.fix.2.2.2.2 hin ty0 hty hnm C.c.o C.k hP.1 (C.D σ) hP.2 o he hc k hk (C.nest hl rfl) (fun _ h => h) hfin (hty k hk) hn hf hlen hd (fun H1 locs1 q1 q2 q3 => kk H1 locs1 ls ⟨hw ▸ q1, q3⟩ hL)
theorem slot_wI {ad : Nat → Nat} {o k : Nat} {v : Int32} {σ : Sg} (q : Nat) (t : Nat × Nat) (h : q ≠ k) : slotV ad (wI σ o k v) o q t = slotV ad σ o q t := by
  unfold slotV
  split
  · simp [rI, wI, h]
  · rfl
  · rfl
  · rfl
  · rfl
theorem slot_wJ {ad : Nat → Nat} {o k : Nat} {v : Int64} {σ : Sg} (q : Nat) (t : Nat × Nat) (h : q ≠ k) : slotV ad (wJ σ o k v) o q t = slotV ad σ o q t := by
  unfold slotV
  split
  · rfl
  · simp [rJ, wJ, h]
  · rfl
  · rfl
  · rfl
theorem slot_wR {ad : Nat → Nat} {o k v : Nat} {σ : Sg} (q : Nat) (t : Nat × Nat) (h : q ≠ k) : slotV ad (wR σ o k v) o q t = slotV ad σ o q t := by
  unfold slotV
  split
  · rfl
  · rfl
  · rfl
  · simp [rR, wR, h]
  · rfl
theorem g_putI (C : Cx K Y cc own nL d ret) {o ci k index N z : Nat} {C0 : String} {T : u_T} {ty0 : Nat → FieldType} {sl : List (Nat × Nat)} {v : Int32} (hd : decode cc pc = .ok (.putfield index, 3)) (hY : Y[o]? = some (0, ci, sl)) (hs : sl[k]? = some (0, z)) (hc : vwCl[ci]? = some (C0, T, N)) (hk : k < N) (hl : FL own index (T k).1 (T k).2.1 (T k).2.2.1) (hin : ∀ w ∈ u_ws C0 T N, w ∈ AL)
    (hty : ∀ k, k < N → parseFieldDescriptor (T k).2.2.1 = some (ty0 k)) (hnm : ∀ a, a < N → ∀ b, b < N → a ≠ b → (T a).2.1 ≠ (T b).2.1) (hfin : (T k).2.2.2 = false) (hn : narrow (ty0 k) (.int v) = .int v) (hf : fits (ty0 k) (.int v) = true)
    (kk : G K (pc + 3) L st (Wd K Y (wI σ o k v))) : G K pc L (.int v :: .ref (kad K o) :: st) (Wd K Y σ) :=
  g_put0 C hd hY hs hc hk hl hin hty hnm hfin hn hf (fun q sh h => ent_wI q sh h) (fun q t h => slot_wI q t h) (by simp [slotV, rI, wI]) kk
theorem g_putJ (C : Cx K Y cc own nL d ret) {o ci k index N z : Nat} {C0 : String} {T : u_T} {ty0 : Nat → FieldType} {sl : List (Nat × Nat)} {v : Int64} (hd : decode cc pc = .ok (.putfield index, 3)) (hY : Y[o]? = some (0, ci, sl)) (hs : sl[k]? = some (1, z)) (hc : vwCl[ci]? = some (C0, T, N)) (hk : k < N) (hl : FL own index (T k).1 (T k).2.1 (T k).2.2.1) (hin : ∀ w ∈ u_ws C0 T N, w ∈ AL)
    (hty : ∀ k, k < N → parseFieldDescriptor (T k).2.2.1 = some (ty0 k)) (hnm : ∀ a, a < N → ∀ b, b < N → a ≠ b → (T a).2.1 ≠ (T b).2.1) (hfin : (T k).2.2.2 = false) (hn : narrow (ty0 k) (.long v) = .long v) (hf : fits (ty0 k) (.long v) = true)
    (kk : G K (pc + 3) L st (Wd K Y (wJ σ o k v))) : G K pc L (.long v :: .ref (kad K o) :: st) (Wd K Y σ) :=
  g_put0 C hd hY hs hc hk hl hin hty hnm hfin hn hf (fun q sh h => ent_wJ q sh h) (fun q t h => slot_wJ q t h) (by simp [slotV, rJ, wJ]) kk
theorem g_putR (C : Cx K Y cc own nL d ret) {o ci k index N z v : Nat} {C0 : String} {T : u_T} {ty0 : Nat → FieldType} {sl : List (Nat × Nat)} (hd : decode cc pc = .ok (.putfield index, 3)) (hY : Y[o]? = some (0, ci, sl)) (hs : sl[k]? = some (3, z)) (hc : vwCl[ci]? = some (C0, T, N)) (hk : k < N) (hl : FL own index (T k).1 (T k).2.1 (T k).2.2.1) (hin : ∀ w ∈ u_ws C0 T N, w ∈ AL)
    (hty : ∀ k, k < N → parseFieldDescriptor (T k).2.2.1 = some (ty0 k)) (hnm : ∀ a, a < N → ∀ b, b < N → a ≠ b → (T a).2.1 ≠ (T b).2.1) (hfin : (T k).2.2.2 = false) (hn : ∀ a, narrow (ty0 k) (.ref a) = .ref a) (hf : ∀ a, fits (ty0 k) (.ref a) = true)
    (kk : G K (pc + 3) L st (Wd K Y (wR σ o k v))) : G K pc L (.ref (kad K v) :: .ref (kad K o) :: st) (Wd K Y σ) :=
  g_put0 C hd hY hs hc hk hl hin hty hnm hfin (hn _) (hf _) (fun q sh h => ent_wR q sh h) (fun q t h => slot_wR q t h) (by simp [slotV, rR, wR]) kk
theorem g_iald (C : Cx K Y cc own nL d ret) {o n : Nat} {z : List (Nat × Nat)} {i : Int32} (hd : decode cc pc = .ok (.iaload, 1)) (hY : Y[o]? = some (1, n, z)) (hi : inb i n = true)
    (kk : G K (pc + 1) L (.int (rI σ o i.toNatClampNeg) :: st) (Wd K Y σ)) : G K pc L (.int i :: .ref (kad K o) :: st) (Wd K Y σ) := fun H locs ls hP hL => by
  have he : (wd (kcy K) (kad K) σ 0 Y)[o]? = some (kad K o, .inl (kcy K 0, n, .inl (rI σ o))) := wd_at hY
  exact va_iald C.c.x C.c.b C.k hP.1 o 0 he rfl (inb_in hi) hd (kk H locs ls hP hL)
theorem g_zald (C : Cx K Y cc own nL d ret) {o n : Nat} {z : List (Nat × Nat)} {i : Int32} (hd : decode cc pc = .ok (.baload, 1)) (hY : Y[o]? = some (3, n, z)) (hi : inb i n = true)
    (kk : G K (pc + 1) L (.int (rI σ o i.toNatClampNeg) :: st) (Wd K Y σ)) : G K pc L (.int i :: .ref (kad K o) :: st) (Wd K Y σ) := fun H locs ls hP hL => by
  have he : (wd (kcy K) (kad K) σ 0 Y)[o]? = some (kad K o, .inl (kcy K 2, n, .inl (rI σ o))) := wd_at hY
  exact va_zald C.c.x C.c.b C.k hP.1 o 2 he rfl (inb_in hi) hd (kk H locs ls hP hL)
theorem g_lald (C : Cx K Y cc own nL d ret) {o n : Nat} {z : List (Nat × Nat)} {i : Int32} (hd : decode cc pc = .ok (.laload, 1)) (hY : Y[o]? = some (2, n, z)) (hi : inb i n = true)
    (kk : G K (pc + 1) L (.long (rJ σ o i.toNatClampNeg) :: st) (Wd K Y σ)) : G K pc L (.int i :: .ref (kad K o) :: st) (Wd K Y σ) := fun H locs ls hP hL => by
  have he : (wd (kcy K) (kad K) σ 0 Y)[o]? = some (kad K o, .inl (kcy K 1, n, .inr (.inl (rJ σ o)))) := wd_at hY
  exact va_lald C.c.x C.c.b C.k hP.1 o 1 he rfl (inb_in hi) hd (kk H locs ls hP hL)
theorem g_aald4 (C : Cx K Y cc own nL d ret) {o n b : Nat} {z : List (Nat × Nat)} {i : Int32} (hd : decode cc pc = .ok (.aaload, 1)) (hY : Y[o]? = some (4, n, z)) (hi : inb i n = true) (hb : o + (z.headD (0, 0)).1 = b) (hm : (z.headD (0, 0)).2 = n)
    (kk : G K (pc + 1) L (.ref (kad K (b + i.toNatClampNeg)) :: st) (Wd K Y σ)) : G K pc L (.int i :: .ref (kad K o) :: st) (Wd K Y σ) := fun H locs ls hP hL => by
  subst hb
  have he : (wd (kcy K) (kad K) σ 0 Y)[o]? = some (kad K o, .inl (kcy K 3, n, .inr (.inr (.inr (.inr (fun j => if j < (z.headD (0, 0)).2 then some (kad K (o + (z.headD (0, 0)).1 + j)) else none)))))) := wd_at hY
  obtain ⟨f, hf⟩ : ∃ f : Nat → Option Nat, f = (fun j => if j < (z.headD (0, 0)).2 then some (kad K (o + (z.headD (0, 0)).1 + j)) else none) := ⟨_, rfl⟩
  rw [← hf] at he
  have hv : f i.toNatClampNeg = some (kad K (o + (z.headD (0, 0)).1 + i.toNatClampNeg)) := by rw [hf]; exact if_pos (by rw [hm]; exact inb_lt hi)
  refine va_aldq C.c.x C.c.b C.k hP.1 o 3 he rfl (inb_in hi) hd ?_
  rw [hv]
  exact kk H locs ls hP hL
theorem g_aald5 (C : Cx K Y cc own nL d ret) {o n b : Nat} {z : List (Nat × Nat)} {i : Int32} (hd : decode cc pc = .ok (.aaload, 1)) (hY : Y[o]? = some (5, n, z)) (hi : inb i n = true) (hb : o + (z.headD (0, 0)).1 = b) (hm : (z.headD (0, 0)).2 = n)
    (kk : G K (pc + 1) L (.ref (kad K (b + i.toNatClampNeg)) :: st) (Wd K Y σ)) : G K pc L (.int i :: .ref (kad K o) :: st) (Wd K Y σ) := fun H locs ls hP hL => by
  subst hb
  have he : (wd (kcy K) (kad K) σ 0 Y)[o]? = some (kad K o, .inl (kcy K 4, n, .inr (.inr (.inr (.inr (fun j => if j < (z.headD (0, 0)).2 then some (kad K (o + (z.headD (0, 0)).1 + j)) else none)))))) := wd_at hY
  obtain ⟨f, hf⟩ : ∃ f : Nat → Option Nat, f = (fun j => if j < (z.headD (0, 0)).2 then some (kad K (o + (z.headD (0, 0)).1 + j)) else none) := ⟨_, rfl⟩
  rw [← hf] at he
  have hv : f i.toNatClampNeg = some (kad K (o + (z.headD (0, 0)).1 + i.toNatClampNeg)) := by rw [hf]; exact if_pos (by rw [hm]; exact inb_lt hi)
  have hin := inb_in hi
  have hlt : i.toNatClampNeg < n := inb_lt hi
  have ht : (tysOf (kcy K))[4]? = some (kcy K 4, FieldType.array .int) := rfl
  refine W.aald (v := va_rf (f i.toNatClampNeg)) (ty := .array .int) C.c.x C.c.b (hP.1 o _ he) ((C.k.2 4 _ ht).1 n (fun j => va_rf (f j))) rfl (fun q => by cases q) (by show ¬ (i < 0 ∨ (arrV _ _ _).slots.size ≤ _); rw [arrV_size]; exact hin) (by show (arrV _ _ _).slots[_]? = _; rw [arrV_read _ _ hlt]) rfl rfl hd ?_
  rw [hv]
  exact kk H locs ls hP hL
theorem rI_upd {σ : Sg} {o k : Nat} {v : Int32} : rI (wI σ o k v) o = upd (rI σ o) k v := by
  funext j
  by_cases h : j = k
  · subst h; simp [rI, wI, upd]
  · simp [rI, wI, upd, h]
theorem rJ_upd {σ : Sg} {o k : Nat} {v : Int64} : rJ (wJ σ o k v) o = vp_updL (rJ σ o) k v := by
  funext j
  by_cases h : j = k
  · subst h; simp [rJ, wJ, vp_updL]
  · simp [rJ, wJ, vp_updL, h]
theorem wd_put {cys : Nat → ClassId} {ad : Nat → Nat} {σ σ' : Sg} {e : va_E} {o : Nat} {sh : Sh} (hY : Y[o]? = some sh) (h1 : ∀ q sh, q ≠ o → ent cys ad σ' q sh = ent cys ad σ q sh) (h2 : ent cys ad σ' o sh = e) : (wd cys ad σ 0 Y).set o (ad o, e) = wd cys ad σ' 0 Y := by
  have := wd_set (cys := cys) (ad := ad) (σ := σ) (σ' := σ') (e := e) Y 0 o _ hY (fun q t hq => h1 q t (by omega)) (by rw [Nat.zero_add]; exact h2)
  rw [Nat.zero_add] at this
  exact this
theorem g_iast (C : Cx K Y cc own nL d ret) {o n : Nat} {z : List (Nat × Nat)} {i x : Int32} (hd : decode cc pc = .ok (.iastore, 1)) (hY : Y[o]? = some (1, n, z)) (hi : inb i n = true)
    (kk : G K (pc + 1) L st (Wd K Y (wI σ o i.toNatClampNeg x))) : G K pc L (.int x :: .int i :: .ref (kad K o) :: st) (Wd K Y σ) := fun H locs ls hP hL => by
  have he : (wd (kcy K) (kad K) σ 0 Y)[o]? = some (kad K o, .inl (kcy K 0, n, .inl (rI σ o))) := wd_at hY
  have hw := wd_put (cys := kcy K) (ad := kad K) (σ := σ) (σ' := wI σ o i.toNatClampNeg x) (e := .inl (kcy K 0, n, .inl (upd (rI σ o) i.toNatClampNeg x))) hY (fun q sh h => ent_wI q sh h) (by show Sum.inl (kcy K 0, n, Sum.inl (rI _ o)) = _; rw [rI_upd])
  exact va_iast C.c.x C.c.b C.k hP.1 (C.D σ) hP.2 o 0 he rfl (inb_in hi) hd (fun H1 locs1 q1 q2 q3 => kk H1 locs1 ls ⟨hw ▸ q1, q3⟩ hL)
theorem isB_v {x : Int32} (h : isB x = true) : vp_nar .boolean x = x := by
  unfold isB at h
  rw [Bool.or_eq_true, decide_eq_true_eq, decide_eq_true_eq] at h
  rcases h with rfl | rfl <;> rfl
theorem g_zast (C : Cx K Y cc own nL d ret) {o n : Nat} {z : List (Nat × Nat)} {i x : Int32} (hd : decode cc pc = .ok (.bastore, 1)) (hY : Y[o]? = some (3, n, z)) (hi : inb i n = true) (hx : isB x = true)
    (kk : G K (pc + 1) L st (Wd K Y (wI σ o i.toNatClampNeg x))) : G K pc L (.int x :: .int i :: .ref (kad K o) :: st) (Wd K Y σ) := fun H locs ls hP hL => by
  have he : (wd (kcy K) (kad K) σ 0 Y)[o]? = some (kad K o, .inl (kcy K 2, n, .inl (rI σ o))) := wd_at hY
  have hw := wd_put (cys := kcy K) (ad := kad K) (σ := σ) (σ' := wI σ o i.toNatClampNeg x) (e := .inl (kcy K 2, n, .inl (upd (rI σ o) i.toNatClampNeg (vp_nar .boolean x)))) hY (fun q sh h => ent_wI q sh h) (by show Sum.inl (kcy K 2, n, Sum.inl (rI _ o)) = _; rw [rI_upd, isB_v hx])
  exact va_zast C.c.x C.c.b C.k hP.1 (C.D σ) hP.2 o 2 he rfl (inb_in hi) hd (fun H1 locs1 q1 q2 q3 => kk H1 locs1 ls ⟨hw ▸ q1, q3⟩ hL)
theorem g_last (C : Cx K Y cc own nL d ret) {o n : Nat} {z : List (Nat × Nat)} {i : Int32} {x : Int64} (hd : decode cc pc = .ok (.lastore, 1)) (hY : Y[o]? = some (2, n, z)) (hi : inb i n = true)
    (kk : G K (pc + 1) L st (Wd K Y (wJ σ o i.toNatClampNeg x))) : G K pc L (.long x :: .int i :: .ref (kad K o) :: st) (Wd K Y σ) := fun H locs ls hP hL => by
  have he : (wd (kcy K) (kad K) σ 0 Y)[o]? = some (kad K o, .inl (kcy K 1, n, .inr (.inl (rJ σ o)))) := wd_at hY
  have hw := wd_put (cys := kcy K) (ad := kad K) (σ := σ) (σ' := wJ σ o i.toNatClampNeg x) (e := .inl (kcy K 1, n, .inr (.inl (vp_updL (rJ σ o) i.toNatClampNeg x)))) hY (fun q sh h => ent_wJ q sh h) (by show Sum.inl (kcy K 1, n, Sum.inr (Sum.inl (rJ _ o))) = _; rw [rJ_upd])
  exact va_last C.c.x C.c.b C.k hP.1 (C.D σ) hP.2 o 1 he rfl (inb_in hi) hd (fun H1 locs1 q1 q2 q3 => kk H1 locs1 ls ⟨hw ▸ q1, q3⟩ hL)
theorem g_alen1 (C : Cx K Y cc own nL d ret) {o n : Nat} {z : List (Nat × Nat)} {v : Int32} (hd : decode cc pc = .ok (.arraylength, 1)) (hY : Y[o]? = some (1, n, z)) (hv : Int32.ofNat n = v)
    (kk : G K (pc + 1) L (.int v :: st) (Wd K Y σ)) : G K pc L (.ref (kad K o) :: st) (Wd K Y σ) := fun H locs ls hP hL => by
  have he : (wd (kcy K) (kad K) σ 0 Y)[o]? = some (kad K o, .inl (kcy K 0, n, .inl (rI σ o))) := wd_at hY
  exact va_alen C.c.x C.c.b C.k hP.1 o 0 he rfl hv hd (kk H locs ls hP hL)
theorem g_alen4 (C : Cx K Y cc own nL d ret) {o n : Nat} {z : List (Nat × Nat)} {v : Int32} (hd : decode cc pc = .ok (.arraylength, 1)) (hY : Y[o]? = some (4, n, z)) (hv : Int32.ofNat n = v)
    (kk : G K (pc + 1) L (.int v :: st) (Wd K Y σ)) : G K pc L (.ref (kad K o) :: st) (Wd K Y σ) := fun H locs ls hP hL => by
  have he : (wd (kcy K) (kad K) σ 0 Y)[o]? = some (kad K o, .inl (kcy K 3, n, .inr (.inr (.inr (.inr (fun j => if j < (z.headD (0, 0)).2 then some (kad K (o + (z.headD (0, 0)).1 + j)) else none)))))) := wd_at hY
  exact va_alen C.c.x C.c.b C.k hP.1 o 3 he rfl hv hd (kk H locs ls hP hL)
/-- a copy of so many numbers is within both rows -/
def cpB (sp dp n : Int32) (n0 n1 : Nat) : Bool := decide (¬ sp < 0) && (decide (¬ dp < 0) && (decide (¬ n < 0) && (decide (sp.toNatClampNeg + n.toNatClampNeg ≤ n0) && decide (dp.toNatClampNeg + n.toNatClampNeg ≤ n1))))
theorem ent_cp {cys : Nat → ClassId} {ad : Nat → Nat} {σ : Sg} {a0 a1 sp dp n n1 : Nat} {z : List (Nat × Nat)} : ent cys ad (wC σ a0 sp a1 dp n) a1 (1, n1, z) = .inl (cys 0, n1, .inl (va_cpy (rI σ a0) (rI σ a1) sp dp n)) := by
  show Sum.inl (cys 0, n1, Sum.inl (rI (wC σ a0 sp a1 dp n) a1)) = _
  congr 4
  funext j
  by_cases h : dp ≤ j ∧ j < dp + n
  · simp [rI, wC, va_cpy, h]
  · simp [rI, wC, va_cpy, h]
theorem g_copy (C : Cx K Y cc own nL d ret) {index o0 o1 n0 n1 : Nat} {z0 z1 : List (Nat × Nat)} {sp dp n : Int32} (hd : decode cc pc = .ok (.invokestatic index, 3)) (hw1 : Cond.methodLink own index arraycopyName ∈ AL) (hw2 : Cond.native arraycopyName ∈ AL) (hw3 : Cond.static arraycopyName ∈ AL) (hw4 : Cond.initialized "java/lang/System" ∈ AL)
    (hLn : L.length = nL) (hr : (st.map fun v => v.category).sum ≤ 8) (hd1 : 1 ≤ d) (hY0 : Y[o0]? = some (1, n0, z0)) (hY1 : Y[o1]? = some (1, n1, z1)) (h : cpB sp dp n n0 n1 = true)
    (kk : G K (pc + 3) L st (Wd K Y (wC σ o0 sp.toNatClampNeg o1 dp.toNatClampNeg n.toNatClampNeg))) : G K pc L (.int n :: .int dp :: .ref (kad K o1) :: .int sp :: .ref (kad K o0) :: st) (Wd K Y σ) := fun H locs ls hP hL => by
  have he0 : (wd (kcy K) (kad K) σ 0 Y)[o0]? = some (kad K o0, .inl (kcy K 0, n0, .inl (rI σ o0))) := wd_at hY0
  have he1 : (wd (kcy K) (kad K) σ 0 Y)[o1]? = some (kad K o1, .inl (kcy K 0, n1, .inl (rI σ o1))) := wd_at hY1
  unfold cpB at h
  simp only [Bool.and_eq_true, decide_eq_true_eq] at h
  have hw := wd_put (cys := kcy K) (ad := kad K) (σ := σ) (σ' := wC σ o0 sp.toNatClampNeg o1 dp.toNatClampNeg n.toNatClampNeg) hY1 (fun q sh h => ent_wC q sh h) ent_cp
  have hf := C.c.2.2.2.2.2.2.1
  have hlo := C.c.2.2.2.2.2.2.2
  have hnf : nativeFrameWords "java/lang/System" "arraycopy" 5 + 11 ≤ 32 := by decide +kernel
  exact va_copyi C.c.x C.c.b (C.c.2.2.1.trans (hLn.symm.trans hL.1.symm)) C.c.o (C.c.t hw1) (C.c.t hw2) (C.c.t hw3) (C.c.t hw4) C.k hP.1 (C.D σ) hP.2 o0 o1 0 0 he0 he1 rfl rfl rfl h.1 h.2.1 h.2.2.1 h.2.2.2.1 h.2.2.2.2 (fun _ _ => rfl) (by omega) (by omega) hd (fun H1 locs1 q1 q2 q3 => kk H1 locs1 ls ⟨hw ▸ q1, q3⟩ hL)
theorem g_stat (C : Cx K Y cc own nL d ret) {index : Nat} {n : String} {l : List Int32} (hd : decode cc pc = .ok (.getstatic index, 3)) (hw : Cond.fieldLink own index "IceForCoast$Coins" n "[I" ∈ AL) (hE : ∃ t, va_Z "IceForCoast$Coins" n "[I" (.ref t) (kA K) (ks K) (ks K).heap ∧ va_T .int t 3 (fun j => .int (stL l j)) (kA K) (ks K) (ks K).heap)
    (kk : ∀ t, va_T .int t 3 (fun j => .int (stL l j)) (kA K) (ks K) (ks K).heap → G K (pc + 3) L (.ref t :: st) (Wd K Y σ)) : G K pc L st (Wd K Y σ) := fun H locs ls hP hL => by
  obtain ⟨t, hZ, hT⟩ := hE
  exact va_gets C.c.x C.c.b hZ hP.2 C.c.o (C.c.t hw) (fun _ h => h) hd (kk t hT H locs ls hP hL)
theorem g_tld (C : Cx K Y cc own nL d ret) {t : Nat} {l : List Int32} {i : Int32} (hT : va_T .int t 3 (fun j => .int (stL l j)) (kA K) (ks K) (ks K).heap) (hd : decode cc pc = .ok (.iaload, 1)) (hi : inb i 3 = true)
    (kk : G K (pc + 1) L (.int (stL l i.toNatClampNeg) :: st) (Wd K Y σ)) : G K pc L (.int i :: .ref t :: st) (Wd K Y σ) := fun H locs ls hP hL =>
  va_ti C.c.x C.c.b hT hP.2 (inb_in hi) rfl hd (kk H locs ls hP hL)
end GH
section GM
variable {K : KT} {cc : ByteArray} {own : String} {nL d : Nat} {pc : Nat} {L : List (Option Value)} {st : List Value} {P : Heap → List Loc → Prop}
def imax (x y : Int32) : Int32 := if x < y then y else x
def imin (x y : Int32) : Int32 := if y < x then y else x
def lmax (x y : Int64) : Int64 := if y < x then x else y
theorem g_max (C : Cb K cc own nL d) {index : Nat} {x y : Int32} (hd : decode cc pc = .ok (.invokestatic index, 3)) (hw1 : Cond.methodLink own index Lib.Math.max.name ∈ AL) (hw2 : Cond.static Lib.Math.max.name ∈ AL) (hw3 : Cond.initialized "java/lang/Math" ∈ AL) (hw4 : Cond.code Lib.Math.max.name Lib.Math.max.code 2 (some .int) ∈ AL) (hLn : L.length = nL) (hr : (st.map fun v => v.category).sum ≤ 8) (hd1 : 1 ≤ d)
    (k : G K (pc + 3) L (.int (imax x y) :: st) P) : G K pc L (.int y :: .int x :: st) P := fun H locs ls hP hL => by
  have hf := C.2.2.2.2.2.2.1
  have hlo := C.2.2.2.2.2.2.2
  exact va_mmax C.x C.b (C.2.2.1.trans (hLn.symm.trans hL.1.symm)) C.o (C.t hw1) (C.t hw2) (C.t hw3) (C.t hw4) (by omega) (by omega) (Nat.zero_le _) (Nat.zero_le _) hd (k H locs ls hP hL)
theorem g_min (C : Cb K cc own nL d) {index : Nat} {x y : Int32} (hd : decode cc pc = .ok (.invokestatic index, 3)) (hw1 : Cond.methodLink own index Lib.Math.min.name ∈ AL) (hw2 : Cond.static Lib.Math.min.name ∈ AL) (hw3 : Cond.initialized "java/lang/Math" ∈ AL) (hw4 : Cond.code Lib.Math.min.name Lib.Math.min.code 2 (some .int) ∈ AL) (hLn : L.length = nL) (hr : (st.map fun v => v.category).sum ≤ 8) (hd1 : 1 ≤ d)
    (k : G K (pc + 3) L (.int (imin x y) :: st) P) : G K pc L (.int y :: .int x :: st) P := fun H locs ls hP hL => by
  have hf := C.2.2.2.2.2.2.1
  have hlo := C.2.2.2.2.2.2.2
  exact va_mmin C.x C.b (C.2.2.1.trans (hLn.symm.trans hL.1.symm)) C.o (C.t hw1) (C.t hw2) (C.t hw3) (C.t hw4) (by omega) (by omega) (Nat.zero_le _) (Nat.zero_le _) hd (k H locs ls hP hL)
theorem g_lmax (C : Cb K cc own nL d) {index : Nat} {x y : Int64} (hd : decode cc pc = .ok (.invokestatic index, 3)) (hw1 : Cond.methodLink own index Lib.MathLoose.max_long.x ∈ AL) (hw2 : Cond.static Lib.MathLoose.max_long.x ∈ AL) (hw3 : Cond.initialized "java/lang/Math" ∈ AL) (hw4 : Cond.code Lib.MathLoose.max_long.x Lib.MathLoose.max_long.code 4 (some .long) ∈ AL) (hLn : L.length = nL) (hr : (st.map fun v => v.category).sum ≤ 8) (hd1 : 1 ≤ d)
    (k : G K (pc + 3) L (.long (lmax x y) :: st) P) : G K pc L (.long y :: .long x :: st) P := fun H locs ls hP hL => by
  have hf := C.2.2.2.2.2.2.1
  have hlo := C.2.2.2.2.2.2.2
  exact va_mmax_long C.x C.b (C.2.2.1.trans (hLn.symm.trans hL.1.symm)) C.o (C.t hw1) (C.t hw2) (C.t hw3) (C.t hw4) (by omega) (by omega) (Nat.zero_le _) (Nat.zero_le _) hd (k H locs ls hP hL)
def iabs (x : Int32) : Int32 := if 0 ≤ x then x else 0 - x
theorem g_abs (C : Cb K cc own nL d) {index : Nat} {x : Int32} (hd : decode cc pc = .ok (.invokestatic index, 3)) (hw1 : Cond.methodLink own index Lib.Math.abs.name ∈ AL) (hw2 : Cond.static Lib.Math.abs.name ∈ AL) (hw3 : Cond.initialized "java/lang/Math" ∈ AL) (hw4 : Cond.code Lib.Math.abs.name Lib.Math.abs.code 1 (some .int) ∈ AL) (hLn : L.length = nL) (hr : (st.map fun v => v.category).sum ≤ 8) (hd1 : 1 ≤ d)
    (k : G K (pc + 3) L (.int (iabs x) :: st) P) : G K pc L (.int x :: st) P := fun H locs ls hP hL => by
  have hf := C.2.2.2.2.2.2.1
  have hlo := C.2.2.2.2.2.2.2
  exact va_mabs C.x C.b (C.2.2.1.trans (hLn.symm.trans hL.1.symm)) C.o (C.t hw1) (C.t hw2) (C.t hw3) (C.t hw4) (by omega) (by omega) (Nat.zero_le _) (Nat.zero_le _) hd (k H locs ls hP hL)
end GM
/-! ===== contracts, calls, returns ===== -/
abbrev Ok : Type := Option Value → Sg → Prop
def QX (D : va_G) (cys : Nat → ClassId) (ad : Nat → Nat) (Y : List Sh) (A : Nat → Prop) (ok : Ok) : Array Value → State → Outcome → State → Prop := fun _ st oc t =>
  ∃ (v : Option Value) (σ' : Sg), oc = .returned v ∧ ok v σ' ∧ va_P D vwCl (wd cys ad σ' 0 Y) t.heap ∧ va_F A st t
def Bx (D : va_G) (cys : Nat → ClassId) (ad : Nat → Nat) (Y : List Sh) (σ : Sg) (U : State) : Prop :=
  va_P D vwCl (wd cys ad σ 0 Y) U.heap ∧ va_K D vwCl (tysOf cys) U ∧ (∀ i j, i < Y.length → j < Y.length → ad i = ad j → i = j)
def rmd (d : Nat) : Room := { frames := d, cells := 0, slots := 0, locals := 40 * d }
/-- a method's contract: from the world σ, with these arguments, it comes to an end that ok allows -/
def Ct (Y : List Sh) (y : MethodName) (cc : ByteArray) (nL : Nat) (ret : Option FieldType) (d : Nat) (vals : (Nat → Nat) → List Value) (σ : Sg) (ok : Ok) : Prop :=
  ∀ (l : Launch) (D : va_G) (cys : Nat → ClassId) (ad : Nat → Nat) (sz : Nat), Met l y (.code y cc nL ret :: AL) (rmd d) (va_Pc (vals ad) (fun U => U.heap.size = sz ∧ Bx D cys ad Y σ U ∧ Ev (Aof ad Y.length sz) U)) (QX D cys ad Y (Aof ad Y.length sz) ok) 0 0 (Aof ad Y.length sz)
def Rk (K : KT) (Y : List Sh) (ok : Ok) : Prop := kQ K = MQ (kb K) (QX (kD K) (kcy K) (kad K) Y (kA K) ok) (ka K) (ks K) 0 0 (kA K)
/-- the locals with which a method begins -/
def lsl : List Value → List (Option Value)
  | [] => []
  | .long x :: t => some (.long x) :: none :: lsl t
  | .double x :: t => some (.double x) :: none :: lsl t
  | v :: t => some v :: lsl t
def pad (L : List (Option Value)) (n : Nat) : List (Option Value) := L ++ List.replicate (n - L.length) none
theorem lsl_args : ∀ (vs : List Value) (k i : Nat) (v : Value), (lsl vs)[i]? = some (some v) → (k + i, v) ∈ lv_args k vs
  | [], k, i, v, h => by simp [lsl] at h
  | a :: t, k, i, v, h => by
    have one : ∀ (x : Value), lsl (x :: t) = some x :: lsl t → x.category = 1 → (lsl (x :: t))[i]? = some (some v) → (k + i, v) ∈ lv_args k (x :: t) := by
      intro x e hc h
      rw [e] at h
      unfold lv_args
      rw [if_neg (by omega)]
      cases i with
      | zero => simp at h; subst h; exact List.mem_cons_self
      | succ i =>
        rw [List.getElem?_cons_succ] at h
        have := lsl_args t (k + 1) i v h
        rw [show k + 1 + i = k + (i + 1) by omega] at this
        exact List.mem_cons_of_mem _ this
    have two : ∀ (x : Value), lsl (x :: t) = some x :: none :: lsl t → x.category = 2 → (lsl (x :: t))[i]? = some (some v) → (k + i, v) ∈ lv_args k (x :: t) := by
      intro x e hc h
      rw [e] at h
      unfold lv_args
      rw [if_pos hc]
      cases i with
      | zero => simp at h; subst h; exact List.mem_cons_self
      | succ i =>
        cases i with
        | zero => simp at h
        | succ i =>
          rw [List.getElem?_cons_succ, List.getElem?_cons_succ] at h
          have := lsl_args t (k + 2) i v h
          rw [show k + 2 + i = k + (i + 1 + 1) by omega] at this
          exact List.mem_cons_of_mem _ this
    cases a with
    | long x => exact two _ rfl rfl h
    | double x => exact two _ rfl rfl h
    | _ => exact one _ rfl rfl h
theorem lsl_sl : ∀ (vs : List Value), (lg_sl vs).length = (lsl vs).length
  | [] => rfl
  | a :: t => by
    have ih := lsl_sl t
    unfold lg_sl at ih ⊢
    rw [List.flatMap_cons, List.length_append, ih]
    cases a <;> simp [lsl, Value.category] <;> omega
theorem lx_entry (vs : List Value) {n : Nat} (h : (lsl vs).length ≤ n) : LX ((lg_sl vs ++ List.replicate (n - (lg_sl vs).length) Slot.unset).toArray) (pad (lsl vs) n) := by
  have hl := lv_entry vs (n := n) (by rw [lsl_sl]; exact h)
  refine ⟨?_, hl.2.1, fun i v hi => ?_⟩
  · rw [hl.1]
    simp [pad]
    omega
  · unfold pad at hi
    by_cases hlt : i < (lsl vs).length
    · rw [List.getElem?_append_left hlt] at hi
      have := lsl_args vs 0 i v hi
      rw [Nat.zero_add] at this
      exact hl.2.2 _ this
    · rw [List.getElem?_append_right (by omega)] at hi
      have := List.eq_of_mem_replicate (List.mem_of_getElem? hi)
      cases this
theorem ct_of {Y : List Sh} {y : MethodName} {cc : ByteArray} {nL d : Nat} {ret : Option FieldType} {vals : (Nat → Nat) → List Value} {σ : Sg} {ok : Ok} {L0 : (Nat → Nat) → List (Option Value)} (hy : plainName y.cls = true) (hn : ∀ ad, (lsl (vals ad)).length ≤ nL) (hL : ∀ ad, pad (lsl (vals ad)) nL = L0 ad)
    (body : ∀ K, Cx K Y cc y.cls nL d ret → Rk K Y ok → G K 0 (L0 (kad K)) [] (Wd K Y σ)) : Ct Y y cc nL ret d vals σ ok := by
  intro l D cys ad sz
  refine Met.ofW (cc := cc) (maxL := nL) (ret := ret) hy rfl ?_
  intro p e s m args below meth c s₁ B hml hv
  obtain ⟨rfl, hsz, ⟨hP, hK, hi⟩, hE⟩ := hv
  subst hsz
  have hts := atoms_spec (ws := .code y cc nL ret :: AL) B.pre
  have hown : s.vm.findClass y.cls = some m.cls := findClass_of_methodNamed B.named
  let K : KT := (p, l, e, rmd d, s, m, (vals ad).toArray, below, meth, c, D, cys, ad, Aof ad Y.length s.heap.size, MQ below (QX D cys ad Y (Aof ad Y.length s.heap.size) ok) (vals ad).toArray s 0 0 (Aof ad Y.length s.heap.size))
  have C : Cx K Y cc y.cls nL d ret := ⟨⟨B.exec, B.bytes, hml, hown, fun w hw => hts w (List.mem_cons_of_mem _ hw), B.notSynchronized, Nat.le_refl _, Nat.le_refl _⟩, B.returns, hK, hi, rfl, hE⟩
  have hG := body K C rfl
  rw [lg_entry_eq]
  have := hG s.heap [] _ ⟨hP, va_S.rf⟩ (hL ad ▸ lx_entry (vals ad) (hn ad))
  exact this
section GRet
variable {K : KT} {Y : List Sh} {cc : ByteArray} {own : String} {nL d : Nat} {ret : Option FieldType} {pc : Nat} {L : List (Option Value)} {σ : Sg} {ok : Ok}
theorem g_q (C : Cx K Y cc own nL d ret) {v : Option Value} {H : Heap} {locs : List Loc} (ho : ok v σ) (hP : Wd K Y σ H locs) (t : State) (ht : t.heap = H) : QX (kD K) (kcy K) (kad K) Y (kA K) ok (ka K) (ks K) (.returned v) t :=
  ⟨v, σ, rfl, ho, by rw [ht]; exact hP.1, hP.2.F ht⟩
theorem g_iret {ty : FieldType} (C : Cx K Y cc own nL d (some ty)) (hQ : Rk K Y ok) {v : Int32} (hd : decode cc pc = .ok (.ireturn, 1)) (hn : narrow ty (.int v) = .int v) (ho : ok (some (.int v)) σ) : G K pc L [.int v] (Wd K Y σ) := fun H locs ls hP hL => by
  show W _ _ _ _ _ _ _ _ _ _ _ _ _ _ (kQ K) _
  rw [hQ]
  exact W.zret C.c.x C.c.b C.r hn (fun t ht _ => g_q C ho hP t ht) hP.2.2.2 hd C.c.2.2.2.2.2.1
theorem g_lret (C : Cx K Y cc own nL d (some .long)) (hQ : Rk K Y ok) {v : Int64} (hd : decode cc pc = .ok (.lreturn, 1)) (ho : ok (some (.long v)) σ) : G K pc L [.long v] (Wd K Y σ) := fun H locs ls hP hL => by
  show W _ _ _ _ _ _ _ _ _ _ _ _ _ _ (kQ K) _
  rw [hQ]
  exact W.lret C.c.x C.c.b C.r (fun t ht _ => g_q C ho hP t ht) hP.2.2.2 hd C.c.2.2.2.2.2.1
theorem g_vret (C : Cx K Y cc own nL d none) (hQ : Rk K Y ok) (hd : decode cc pc = .ok (.return_, 1)) (ho : ok none σ) : G K pc L [] (Wd K Y σ) := fun H locs ls hP hL => by
  show W _ _ _ _ _ _ _ _ _ _ _ _ _ _ (kQ K) _
  rw [hQ]
  exact W.vret C.c.x C.c.b C.r (fun t ht _ => g_q C ho hP t ht) hP.2.2.2 hd C.c.2.2.2.2.2.1
end GRet
theorem Ev.moved {A B : Nat → Prop} {s U : State} (hW : s.WarmedH U.vm) (hk : ∀ a : Nat, a < s.heap.size → ¬ A a → U.heap[a]? = s.heap[a]?) (hAB : ∀ q, B q → A q) (h : Ev A s) : Ev B U := by
  obtain ⟨h1, ⟨t, h2, h3⟩, ⟨t', h4, h5⟩⟩ := h
  refine ⟨fun w hw => ?_, ⟨t, ((h2.kept hk).moved hW.alike).narrow hAB, ((h3.kept hk).moved hW.alike).narrow hAB⟩, ⟨t', ((h4.kept hk).moved hW.alike).narrow hAB, ((h5.kept hk).moved hW.alike).narrow hAB⟩⟩
  have hn := (List.mem_filter.mp hw).2
  have hz := h1 w hw
  cases w with
  | fieldLinkNest a i b n d h => exact va_Nw.warmF hW hz
  | methodLinkNest a i x h => exact va_Nw.warmM hW hz
  | _ => cases hn
theorem Ev.frame {A : Nat → Prop} {U : State} {g : JFrame} {mk : MethodId} {a : Array Value} (h : Ev A U) : Ev A (U.calling g mk a) := by
  obtain ⟨h1, ⟨t, h2, h3⟩, ⟨t', h4, h5⟩⟩ := h
  have al : U.vm.Alike (U.calling g mk a).vm := Vm.Alike.refl U.vm
  refine ⟨fun w hw => ?_, ⟨t, h2.moved al, h3.moved al⟩, ⟨t', h4.moved al, h5.moved al⟩⟩
  have hn := (List.mem_filter.mp hw).2
  have hz := h1 w hw
  cases w with
  | fieldLinkNest a i b n d h => exact va_Nw.same rfl rfl hz
  | methodLinkNest a i x h => exact va_Nw.same rfl rfl hz
  | _ => cases hn
theorem ct_blind {Y : List Sh} {vals : (Nat → Nat) → List Value} {σ : Sg} {D : va_G} {cys : Nat → ClassId} {ad : Nat → Nat} {sz : Nat} : FrameBlind (va_Pc (vals ad) (fun U => U.heap.size = sz ∧ Bx D cys ad Y σ U ∧ Ev (Aof ad Y.length sz) U)) :=
  fun a U g mk q => ⟨q.1, q.2.1, ⟨q.2.2.1.1, va_K.moved (u := U) (U := U.calling g mk a) (Vm.Alike.refl U.vm) q.2.2.1.2.1, q.2.2.1.2.2⟩, q.2.2.2.frame⟩

section GCall
variable {K : KT} {Y : List Sh} {cc : ByteArray} {own : String} {nL d : Nat} {ret : Option FieldType} {pc : Nat} {L : List (Option Value)} {st : List Value} {σ : Sg}
/-- what holds of the callee's start -/
theorem ct_pre (C : Cx K Y cc own nL d ret) {vals : (Nat → Nat) → List Value} {H : Heap} {locs : List Loc} (hP : Wd K Y σ H locs) (U : State) (hU : U.heap = H) (hW : (ks K).WarmedH U.vm) : (va_Pc (vals (kad K)) (fun U => U.heap.size = H.size ∧ Bx (kD K) (kcy K) (kad K) Y σ U ∧ Ev (Aof (kad K) Y.length H.size) U)) (vals (kad K)).toArray U := by
  refine ⟨rfl, by rw [hU], ⟨by rw [hU]; exact hP.1, va_K.moved hW.alike C.k, C.i⟩, C.e.moved hW (fun a h1 h2 => by rw [hU]; exact hP.2.2.1 a h1 h2) (fun q h => ?_)⟩
  rw [C.a]
  rcases h with h | h
  · exact Or.inl h
  · exact Or.inr (Nat.le_trans hP.2.1 h)
/-- behind a call -/
theorem ct_go (C : Cx K Y cc own nL d ret) {H : Heap} {locs : List Loc} {ls : Array Slot} {st rest : List Value} {a : Array Value} {ok : Ok} (hP : Wd K Y σ H locs) (hL : LX ls L)
    (hr : va_Run (kp K) (kl K) (ke K) (kR K) (ks K) (km K) (ka K) (kb K) (kmeth K) (kc K) H locs 0 0 0 0 (F0 (km K) pc ls st) rest (QX (kD K) (kcy K) (kad K) Y (Aof (kad K) Y.length H.size) ok a) (Aof (kad K) Y.length H.size))
    (kk : ∀ v σ', ok v σ' → G K (pc + 3) L (v.toList ++ rest) (Wd K Y σ')) : Wk K H locs (F0 (km K) pc ls st) := by
  have hsub : ∀ q, Aof (kad K) Y.length H.size q → kA K q := fun q h => by
    rw [C.a]
    rcases h with h | h
    · exact Or.inl h
    · exact Or.inr (Nat.le_trans hP.2.1 h)
  intro T hT X
  obtain ⟨v, st₀, t, T', L2, h0, X', hL2, e1, e2, ⟨v', σ', hv, hok, hw, hz, hk⟩, stp⟩ := hr T hT X
  cases hv
  rw [h0] at hz hk
  have hS : va_S (kA K) (ks K).heap T'.heap (locs ++ L2) := ⟨Nat.le_trans hP.2.1 (by rw [e1]; exact hz), fun q h1 h2 => by rw [e1, hk q (Nat.lt_of_lt_of_le h1 hP.2.1) (fun z => h2 (hsub q z))]; exact hP.2.2.1 q h1 h2, fun q hq => by
      rcases List.mem_append.mp hq with h | h
      · exact hP.2.2.2 q h
      · exact hsub _ (hL2 q h)⟩
  obtain ⟨t2, a1, b1⟩ := kk v σ' hok T'.heap (locs ++ L2) ls ⟨by rw [e1]; exact hw, hS⟩ hL T' rfl X'
  exact ⟨t2, stp t2 a1, b1⟩
/-- what a callee asks of the tables, and its room -/
def Cw (y : MethodName) (cc : ByteArray) (nL : Nat) (ret : Option FieldType) (n : Nat) : Prop := (Cond.code y cc nL ret ∈ AL) ∧ (Cond.initialized y.cls ∈ AL) ∧ (y.cls ≠ "java/lang/invoke/MethodHandle" ∧ y.cls ≠ "java/lang/invoke/VarHandle") ∧ (parseMethodDescriptor y.desc).map (fun d => d.parameters.length) = some n ∧ nL ≤ 21
theorem ct_in {y : MethodName} {cc : ByteArray} {nL : Nat} {ret : Option FieldType} (h : Cond.code y cc nL ret ∈ AL) : GoodIn AL (.code y cc nL ret :: AL) := fun w hw => by
  rcases List.mem_cons.mp hw with rfl | hw
  · exact AL_good h
  · exact AL_good hw
theorem g_callV (C : Cx K Y cc own nL d ret) {index ci o n d' nL' N : Nat} {y : MethodName} {cc' : ByteArray} {ret' : Option FieldType} {vals : (Nat → Nat) → List Value} {ok : Ok} {As rest : List Value} {T : u_T} {sl : List (Nat × Nat)} (hd : decode cc pc = .ok (.invokevirtual index, 3)) (hM : Ct Y y cc' nL' ret' d' vals σ ok) (hw : Cw y cc' nL' ret' n) (hl : (Cond.methodLink own index y ∈ AL) ∨ ∃ host, Cond.methodLinkNest own index y host ∈ NW) (hi : Cond.instanceMethod y ∈ AL) (hse : Cond.selects y.cls y y ∈ AL)
    (hv : vals (kad K) = .ref (kad K o) :: As) (hst : st = As.reverse ++ .ref (kad K o) :: rest) (hn : As.length = n) (hdd : d' + 1 ≤ d) (hLn : L.length = nL) (hY : Y[o]? = some (0, ci, sl)) (hc : vwCl[ci]? = some (y.cls, T, N)) (hr : (rest.map fun v => v.category).sum ≤ 8)
    (kk : ∀ v σ', ok v σ' → G K (pc + 3) L (v.toList ++ rest) (Wd K Y σ')) : G K pc L st (Wd K Y σ) := fun H locs ls hP hL => by
  have he : (wd (kcy K) (kad K) σ 0 Y)[o]? = some (kad K o, .inr (ci, slv (kad K) σ o 0 sl)) := wd_at hY
  have hf := C.c.2.2.2.2.2.2.1
  have hlo := C.c.2.2.2.2.2.2.2
  have hR : (rmd d').frames + 1 ≤ (kR K).frames ∧ 8 + (nL' + 11) + (rmd d').locals ≤ (kR K).locals := ⟨by show d' + 1 ≤ _; omega, by have := hw.2.2.2.2; show 8 + (nL' + 11) + 40 * d' ≤ _; omega⟩
  have hM' := hM (kl K) (kD K) (kcy K) (kad K) H.size
  have hpre : PreV (ks K) H y.cls (kad K o) (va_Pc (vals (kad K)) (fun U => U.heap.size = H.size ∧ Bx (kD K) (kcy K) (kad K) Y σ U ∧ Ev (Aof (kad K) Y.length H.size) U)) As := ⟨ct_blind, va_recv C.k hP.1 hc he, fun U hU hW => by rw [← hv]; exact ct_pre C hP U hU hW⟩
  have hz : ls.size = nL := hL.1.trans hLn
  rcases hl with hl | ⟨host, hl⟩
  · have cb : CallB (kR K) (ks K) (ka K) own index y cc' nL' ret' (.code y cc' nL' ret' :: AL) (rmd d') 0 0 n := callB_of n C.c.2.2.2.2.1 (ct_in hw.1) rfl rfl rfl (C.c.t hw.2.1) (C.c.t hl) ⟨hw.2.2.1.1, hw.2.2.1.2, hw.2.2.2.1⟩ hR
    exact ct_go C hP hL (va_runV (As := As) (rest := rest) C.c.fix hM' ⟨cb, C.c.t hi, C.c.t hse⟩ hpre rfl hn hz hst (lv_room hr) hd ⟨Nat.zero_le _, Nat.zero_le _⟩) kk
  · have cb : va_CN (kR K) (ks K) (ka K) own index y host cc' nL' ret' (.code y cc' nL' ret' :: AL) (rmd d') 0 0 n := va_cnB n C.c.2.2.2.2.1 (ct_in hw.1) rfl rfl rfl (C.e.1 _ hl) (C.c.t hw.2.1) ⟨hw.2.2.1.1, hw.2.2.1.2, hw.2.2.2.1⟩ hR
    exact ct_go C hP hL (va_runVN (As := As) (rest := rest) C.c.fix hM' ⟨cb, C.c.t hi, C.c.t hse⟩ hpre rfl hn hz hst (lv_room hr) hd ⟨Nat.zero_le _, Nat.zero_le _⟩) kk
theorem g_callS (C : Cx K Y cc own nL d ret) {index n d' nL' : Nat} {y : MethodName} {cc' : ByteArray} {ret' : Option FieldType} {vals : (Nat → Nat) → List Value} {ok : Ok} {As rest : List Value} (hd : decode cc pc = .ok (.invokestatic index, 3)) (hM : Ct Y y cc' nL' ret' d' vals σ ok) (hw : Cw y cc' nL' ret' n) (hl : (Cond.methodLink own index y ∈ AL) ∨ ∃ host, Cond.methodLinkNest own index y host ∈ NW) (hi : Cond.static y ∈ AL)
    (hv : vals (kad K) = As) (hst : st = As.reverse ++ rest) (hn : As.length = n) (hdd : d' + 1 ≤ d) (hLn : L.length = nL) (hr : (rest.map fun v => v.category).sum ≤ 8)
    (kk : ∀ v σ', ok v σ' → G K (pc + 3) L (v.toList ++ rest) (Wd K Y σ')) : G K pc L st (Wd K Y σ) := fun H locs ls hP hL => by
  have hf := C.c.2.2.2.2.2.2.1
  have hlo := C.c.2.2.2.2.2.2.2
  have hR : (rmd d').frames + 1 ≤ (kR K).frames ∧ 8 + (nL' + 11) + (rmd d').locals ≤ (kR K).locals := ⟨by show d' + 1 ≤ _; omega, by have := hw.2.2.2.2; show 8 + (nL' + 11) + 40 * d' ≤ _; omega⟩
  have hM' := hM (kl K) (kD K) (kcy K) (kad K) H.size
  have hpre : PreS (ks K) H (va_Pc (vals (kad K)) (fun U => U.heap.size = H.size ∧ Bx (kD K) (kcy K) (kad K) Y σ U ∧ Ev (Aof (kad K) Y.length H.size) U)) As := ⟨ct_blind, fun U hU hW => by rw [← hv]; exact ct_pre C hP U hU hW⟩
  have hz : ls.size = nL := hL.1.trans hLn
  rcases hl with hl | ⟨host, hl⟩
  · have cb : CallB (kR K) (ks K) (ka K) own index y cc' nL' ret' (.code y cc' nL' ret' :: AL) (rmd d') 0 0 n := callB_of n C.c.2.2.2.2.1 (ct_in hw.1) rfl rfl rfl (C.c.t hw.2.1) (C.c.t hl) ⟨hw.2.2.1.1, hw.2.2.1.2, hw.2.2.2.1⟩ hR
    exact ct_go C hP hL (va_runS (As := As) (rest := rest) C.c.fix hM' ⟨cb, C.c.t hi⟩ hpre rfl hn hz hst (lv_room hr) hd ⟨Nat.zero_le _, Nat.zero_le _⟩) kk
  · have cb : va_CN (kR K) (ks K) (ka K) own index y host cc' nL' ret' (.code y cc' nL' ret' :: AL) (rmd d') 0 0 n := va_cnB n C.c.2.2.2.2.1 (ct_in hw.1) rfl rfl rfl (C.e.1 _ hl) (C.c.t hw.2.1) ⟨hw.2.2.1.1, hw.2.2.1.2, hw.2.2.2.1⟩ hR
    exact ct_go C hP hL (va_runSN (As := As) (rest := rest) C.c.fix hM' ⟨cb, C.c.t hi, trivial⟩ hpre rfl hn hz hst (lv_room hr) hd ⟨Nat.zero_le _, Nat.zero_le _⟩) kk
end GCall

