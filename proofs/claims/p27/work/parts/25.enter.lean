/-! THE CLAIM OUT OF ONE WALK OF THE LAW'S BODY. Your part is whole_start (and what it stands on); all else here is the same for every law, but numbers. -/
def R_law : String := "IceForCoastLaw"
def lw_P (b : Addr) (xs : List Int32) (args : Array Value) (s : State) : Prop := args = #[.ref b] ∧ s.IntsAt b xs ∧ xs.length ≤ 260 ∧ (Jvm.Cond.and given_1 narrow_1).before args s = true
def lw_Q (_ : Array Value) (s : State) (o : Outcome) (t : State) : Prop := o = .returned (some (.int 1)) ∧ Framed s o t [] 794702 6718141
def lw_Z (below : List Frame) (a : Array Value) (s : State) : State → Prop := fun t => ∃ o, t.status = .running ∧ Ended t below o ∧ lw_Q a s o t
/-- the law's own end, with 1 on the stack, nothing written that was there before, its room as the claim has it -/
theorem lw_ret {p : Program} {l : Launch} {e : Env} {s : State} {m : MethodId} {below : List Frame} {meth : Method} {c : Code} {b : Nat} (hx : p.tables.exec = Jvm.exec) (hb : c.code = code) (hr : meth.sig.returnType = ret) (hlocks : meth.locks = false) {pc : Nat} {H : Heap} {ls : Array Slot} (hdg : decode code pc = .ok (.ireturn, 1)) : W p l e room_1 s m #[Value.ref b] below meth c H [] 794702 6718141 (lw_Z below #[Value.ref b] s) (F0 m pc ls [.int 1]) := by
  intro T hT X
  obtain ⟨fs, hret, hrun, hended, hW, hframe⟩ := X.leave (v := some (.int 1)) (hlocks := hlocks) (fun h => by rw [hr] at h; cases h)
  have hmeth' : T.vm.method? m = some meth := X.method'
  refine ⟨T.setFrames fs, ?_, .returned (some (.int 1)), hrun, hended, rfl, ⟨_, rfl⟩, hW, hframe⟩
  jvm_step X.here [X.here.top, hx, hb, hdg, hmeth', hr, ret, narrow_b1]
  (try refine ⟨rfl, ?_⟩); (try refine ⟨rfl, ?_⟩)
  first | (intro acts; rw [hret _ acts rfl rfl rfl]) | rw [hret _ _ rfl rfl rfl]
  exact Steps.refl _
/-- what holds at the law's entry: the machine, the code, the tables' words (any of lw_tbl by 'hts w (by decide +kernel)'), the script of L ints xs at the cell b, what the Statement gives of the start (any of its parts by flat_of_before) -/
def lw_At (p : Program) (s : State) (m : MethodId) (meth : Method) (c : Code) (b L : Nat) (xs : Nat → Int32) : Prop :=
  p.tables.exec = Jvm.exec ∧ c.code = code ∧ meth.sig.returnType = ret ∧ c.maxLocals = 16 ∧ s.vm.findClass R_law = some m.cls ∧ (∀ w ∈ lw_tbl, w.before #[Value.ref b] s = true) ∧ va_X b L xs s s.heap ∧ b < s.heap.size ∧ meth.locks = false ∧ (Jvm.Cond.and given_1 narrow_1).before #[Value.ref b] s = true
theorem arr_prim {args : Array Value} {s : State} {ty : FieldType} (h : (Cond.arrayClass ty).before args s = true) (hp : ∀ c, va_RA s c ty = (s.vm.findClass ("[" ++ ty.toString) = some c)) (hk : refKind ty = false) : ∃ c, ArrOfT s c ty ∧ va_RA s c ty := by
  obtain ⟨c, k, comp, h1, h2, h3⟩ := Cond.arrayClass_spec h
  exact ⟨c, fun n z => ⟨(fun q hq => by cases hq), k, h2, comp, h3⟩, by rw [hp]; exact h1⟩
set_option maxHeartbeats 4000000 in
set_option maxRecDepth 20000 in
theorem whole_of (hlaw : ∀ (xs : Nat → Int32) (Ln : Nat), Ln ≤ 260 → ∃ s' : LwS, fL_law_b8 xs Ln 0 (σX9, σz, 100) = some (1, s')) {p : Program} {e : Env} {s : State} {m : MethodId} {below : List Frame} {meth : Method} {c : Code} (l : Launch) {b L : Nat} {xs : Nat → Int32} (hL : L ≤ 260) (C0 : lw_At p s m meth c b L xs) : W p l e room_1 s m #[Value.ref b] below meth c s.heap [] 0 0 (lw_Z below #[Value.ref b] s) (entryFrame m ([Value.ref b] : List Value).toArray 16) := by
  obtain ⟨hx, hb, hr, hml, hown, hts, hX, hbl, hlocks, hgv⟩ := id C0
  have hta : ∀ w ∈ AL, w.before #[Value.ref b] s = true := fun w h => hts w (List.mem_filter.mp h).1
  have hfl := flat_of_before _ hgv
  obtain ⟨c0, i0, k0⟩ := u_known (C := RX0) (T := TX0) (N := 6) (n := 6) hta inA0 (hta _ aw_128)
  obtain ⟨c1, i1, k1⟩ := u_known (C := RX1) (T := TX1) (N := 1) (n := 1) hta inA1 (hta _ aw_118)
  obtain ⟨c2, i2, k2⟩ := u_known (C := RX2) (T := TX2) (N := 6) (n := 6) hta inA2 (hta _ aw_241)
  obtain ⟨c3, i3, k3⟩ := u_known (C := RX3) (T := TX3) (N := 4) (n := 4) hta inA3 (hta _ aw_265)
  obtain ⟨c4, i4, k4⟩ := u_known (C := RX4) (T := TX4) (N := 4) (n := 4) hta inA4 (hta _ aw_222)
  obtain ⟨c5, i5, k5⟩ := u_known (C := RX5) (T := TX5) (N := 4) (n := 4) hta inA5 (hta _ aw_290)
  obtain ⟨c6, i6, k6⟩ := u_known (C := RX6) (T := TX6) (N := 7) (n := 7) hta inA6 (hta _ aw_40)
  obtain ⟨c7, i7, k7⟩ := u_known (C := RX7) (T := TX7) (N := 8) (n := 8) hta inA7 (hta _ aw_76)
  obtain ⟨c8, i8, k8⟩ := u_known (C := RX8) (T := TX8) (N := 17) (n := 17) hta inA8 (hta _ aw_70)
  obtain ⟨c9, i9, k9⟩ := u_known (C := RX9) (T := TX9) (N := 12) (n := 12) hta inA9 (hta _ aw_32)
  obtain ⟨dC, dI, hKc⟩ : ∃ (dC : Nat → ClassId) (dI : Nat → Nat → Nat), ∀ (k : Nat) (q : vw_C), vwCl[k]? = some q → u_Kn s q.1 q.2.1 q.2.2 (dC k) (dI k) := by
    refine ⟨fun k => if k = 0 then c0 else if k = 1 then c1 else if k = 2 then c2 else if k = 3 then c3 else if k = 4 then c4 else if k = 5 then c5 else if k = 6 then c6 else if k = 7 then c7 else if k = 8 then c8 else c9, fun k => if k = 0 then i0 else if k = 1 then i1 else if k = 2 then i2 else if k = 3 then i3 else if k = 4 then i4 else if k = 5 then i5 else if k = 6 then i6 else if k = 7 then i7 else if k = 8 then i8 else i9, ?_⟩
    intro k q hq
    match k, hq with
    | 0, hq => cases hq; exact k0
    | 1, hq => cases hq; exact k1
    | 2, hq => cases hq; exact k2
    | 3, hq => cases hq; exact k3
    | 4, hq => cases hq; exact k4
    | 5, hq => cases hq; exact k5
    | 6, hq => cases hq; exact k6
    | 7, hq => cases hq; exact k7
    | 8, hq => cases hq; exact k8
    | 9, hq => cases hq; exact k9
    | k + 10, hq => simp [vwCl] at hq
  obtain ⟨y0, ya0, yb0⟩ := arr_prim (s := s) (ty := .int) (hta _ aw_68) (fun _ => rfl) rfl
  obtain ⟨y1, ya1, yb1⟩ := arr_prim (s := s) (ty := .long) (hta _ aw_305) (fun _ => rfl) rfl
  obtain ⟨y2, ya2, yb2⟩ := arr_prim (s := s) (ty := .boolean) (hta _ aw_288) (fun _ => rfl) rfl
  have hO3 : (Cond.arrayOver (.object RX0)).before #[Value.ref b] s = true := hts _ (tk_1 _ (List.mem_of_getElem? (i := 202) rfl))
  have hO4 : (Cond.arrayOver (.array .int)).before #[Value.ref b] s = true := hts _ (tk_1 _ (List.mem_of_getElem? (i := 64) rfl))
  obtain ⟨comp3, y3, kk3, g1, g2, g3, g4, g5⟩ := Cond.arrayOver_spec hO3
  obtain ⟨comp4, y4, kk4, f1, f2, f3, f4, f5⟩ := (va_AOA.of hO4).spec
  obtain ⟨cys, hcys⟩ : ∃ cys : Nat → ClassId, cys = fun k => if k = 0 then y0 else if k = 1 then y1 else if k = 2 then y2 else if k = 3 then y3 else y4 := ⟨_, rfl⟩
  have hK : va_K (dC, dI) vwCl (tysOf cys) s := by
    refine ⟨hKc, fun k q h => ?_⟩
    subst hcys
    match k, h with
    | 0, h => cases h; exact ⟨ya0, yb0⟩
    | 1, h => cases h; exact ⟨ya1, yb1⟩
    | 2, h => cases h; exact ⟨ya2, yb2⟩
    | 3, h => cases h; exact ⟨fun n z => ⟨(fun q hq => by cases hq), kk3, g3, comp3, g4⟩, ⟨kk3, comp3, g3, g4, g1, g5⟩⟩
    | 4, h => cases h; exact ⟨fun n z => ⟨(fun q hq => by cases hq), kk4, f3, comp4, f4⟩, f5⟩
    | k + 5, h => simp [tysOf] at h
  have eLEAST0 := va_eqt (hfl (Cond.eq (.elem (Term.static "IceForCoast$Coins" "LEAST" "[I") (.int 0)) (.int 1)) (by decide +kernel))
  have eLEAST1 := va_eqt (hfl (Cond.eq (.elem (Term.static "IceForCoast$Coins" "LEAST" "[I") (.int 1)) (.int 0)) (by decide +kernel))
  have eLEAST2 := va_eqt (hfl (Cond.eq (.elem (Term.static "IceForCoast$Coins" "LEAST" "[I") (.int 2)) (.int 0)) (by decide +kernel))
  obtain ⟨tLEAST, evLEAST, TLEAST⟩ := va_Tof (args := #[Value.ref b]) (s := s) (tm := (Term.static "IceForCoast$Coins" "LEAST" "[I")) (ty := .int) (N := 3) (f := fun j => .int (stL [1, 0, 0] j)) (A := fun q => s.heap.size ≤ q) (by decide) (hfl (Cond.arrayOf (Term.static "IceForCoast$Coins" "LEAST" "[I") .int) (by decide +kernel)) (va_eqt (hfl (Cond.eq (.length (Term.static "IceForCoast$Coins" "LEAST" "[I")) (.int 3)) (by decide +kernel))) (fun j hj => by
    match j, hj with
    | 0, _ => exact eLEAST0
    | 1, _ => exact eLEAST1
    | 2, _ => exact eLEAST2
    | n + 3, h => omega) (fun a h => by omega)
  have ZLEAST : va_Z "IceForCoast$Coins" "LEAST" "[I" (.ref tLEAST) (fun q => s.heap.size ≤ q) s s.heap := va_Zof (hts _ (tk_2 _ (List.mem_of_getElem? (i := 210) rfl))) (hta _ aw_23) evLEAST (fun a h => by omega)
  have eMOST0 := va_eqt (hfl (Cond.eq (.elem (Term.static "IceForCoast$Coins" "MOST" "[I") (.int 0)) (.int 9)) (by decide +kernel))
  have eMOST1 := va_eqt (hfl (Cond.eq (.elem (Term.static "IceForCoast$Coins" "MOST" "[I") (.int 1)) (.int 9)) (by decide +kernel))
  have eMOST2 := va_eqt (hfl (Cond.eq (.elem (Term.static "IceForCoast$Coins" "MOST" "[I") (.int 2)) (.int 99)) (by decide +kernel))
  obtain ⟨tMOST, evMOST, TMOST⟩ := va_Tof (args := #[Value.ref b]) (s := s) (tm := (Term.static "IceForCoast$Coins" "MOST" "[I")) (ty := .int) (N := 3) (f := fun j => .int (stL [9, 9, 99] j)) (A := fun q => s.heap.size ≤ q) (by decide) (hfl (Cond.arrayOf (Term.static "IceForCoast$Coins" "MOST" "[I") .int) (by decide +kernel)) (va_eqt (hfl (Cond.eq (.length (Term.static "IceForCoast$Coins" "MOST" "[I")) (.int 3)) (by decide +kernel))) (fun j hj => by
    match j, hj with
    | 0, _ => exact eMOST0
    | 1, _ => exact eMOST1
    | 2, _ => exact eMOST2
    | n + 3, h => omega) (fun a h => by omega)
  have ZMOST : va_Z "IceForCoast$Coins" "MOST" "[I" (.ref tMOST) (fun q => s.heap.size ≤ q) s s.heap := va_Zof (hts _ (tk_2 _ (List.mem_of_getElem? (i := 212) rfl))) (hta _ aw_23) evMOST (fun a h => by omega)
  have hN : ∀ w ∈ NW, va_Nw w s := fun w hw => by
    have hn := (List.mem_filter.mp hw).2
    have ht := hts w (List.mem_filter.mp hw).1
    cases w with
    | fieldLinkNest => exact va_Nw.of rfl ht
    | methodLinkNest => exact va_Nw.of rfl ht
    | _ => cases hn
  have hEv : Ev (fun q => s.heap.size ≤ q) s := ⟨hN, ⟨_, ZLEAST, TLEAST⟩, ⟨_, ZMOST, TMOST⟩⟩
  have hEi : Ei s := ⟨hN, va_AO.of hO3, va_AOA.of hO4⟩
  let K : KT := (p, l, e, room_1, s, m, #[Value.ref b], below, meth, c, (dC, dI), cys, fun _ => 0, fun q => s.heap.size ≤ q, lw_Z below #[Value.ref b] s)
  have hCb : Cb K cL_law RL 16 40 := ⟨hx, hb, hml, hown, hta, hlocks, by show 40 ≤ 2048; decide, by show 40 * 40 ≤ 84000; decide⟩
  have C : CxI K cL_law RL 16 40 81 1746 := ⟨hCb, trivial, hK, fun q h => h, hEi, by show 81 ≤ 794702; decide, by show 1746 ≤ 6718141; decide⟩
  have hG : GW K 0 (pad (lsl [.ref b]) 16) [] 0 0 (WI K [] σz (kad K)) := by
    show GW K 0 [some (.ref b), none, none, none, none, none, none, none, none, none, none, none, none, none, none, none] [] 0 0 (WI K _ _ _)
    refine n_new C (kx := 9) (sl := [(4, 0), (4, 0), (4, 0), (4, 0), (4, 0), (4, 0), (4, 0), (4, 0), (4, 0), (0, 0), (0, 0), (0, 0)]) dL_law_0 rfl inA9 tyX9_ok aw_31 aw_32 aw_19 (by decide) df9 (Nat.le_of_ble_eq_true rfl) (Nat.le_of_ble_eq_true rfl) (fun a1 e1 w1 => ?_)
    show GW K 3 [some (.ref b), none, none, none, none, none, none, none, none, none, none, none, none, none, none, none] [.ref (a1 0)] 1 12 (WI K _ _ a1)
    refine n_dup C.1 dL_law_3 rfl ?_
    refine n_call C (n := 0) (Y := []) cn_X9 dL_law_4 cwi_X9 (Or.inl aw_33) aw_34 (by decide) (Nat.le_of_ble_eq_true rfl) rfl rfl (Nat.le_of_ble_eq_true rfl) (Nat.le_of_ble_eq_true rfl) (Nat.le_of_ble_eq_true rfl) (Nat.le_of_ble_eq_true rfl) rfl w1 (fun a2 e2 cl9 => ?_)
    rw [← e2 0 (Nat.le_of_ble_eq_true rfl)]
    show GW K 7 [some (.ref b), none, none, none, none, none, none, none, none, none, none, none, none, none, none, none] [.ref (a2 0)] 81 1746 (WI K ([] ++ layC) (sapp 0 σz σX9) a2)
    refine n_astore_n C.1 (i := 1) (L' := [some (.ref b), some (.ref (a2 0)), none, none, none, none, none, none, none, none, none, none, none, none, none, none]) dL_law_7 rfl (Nat.le_of_ble_eq_true rfl) rfl ?_
    intro H locs ls hP hLs
    have lenC : layC.length = 81 := rfl
    have hw1 : wd cys a2 (sapp 0 σz σX9) 0 layC = wd cys a2 σX9 0 layC := by
      have := wd_shift (cys := cys) (ad := a2) (ad' := a2) (σ := σX9) (σ' := sapp 0 σz σX9) (n := 0) (N := 81) (fun j _ => by rw [Nat.zero_add]) layC 0 (fun i sh h => by
        have hl := lay_lt h
        rw [lenC] at hl
        have hc := cl9 i sh h
        rw [Nat.zero_add, Nat.zero_add]
        refine ⟨hl, hc, ?_, ?_, fun k => ?_⟩
        · have := sapp_I2 (n := 0) (o := i) (σ := σz) (σ' := σX9); rw [Nat.zero_add] at this; exact this
        · have := sapp_J2 (n := 0) (o := i) (σ := σz) (σ' := σX9); rw [Nat.zero_add] at this; exact this
        · have := sapp_R2 (n := 0) (o := i) (σ := σz) (σ' := σX9) k; rw [Nat.zero_add] at this; exact this)
      exact this
    have hP1 : va_P (dC, dI) vwCl (wd cys a2 σX9 0 layC) H := by
      have h1 : va_P (dC, dI) vwCl (wd cys a2 (sapp 0 σz σX9) 0 ([] ++ layC)) H := hP.1
      rw [List.nil_append, hw1] at h1
      exact h1
    have hinj := hP.2.2.1
    have hAa := hP.2.2.2.1
    rw [List.nil_append] at hinj hAa
    let K2 : KT := (p, l, e, room_1, s, m, #[Value.ref b], below, meth, c, (dC, dI), cys, a2, fun q => s.heap.size ≤ q, lw_Z below #[Value.ref b] s)
    have hC2 : CZ K2 cL_law RL 16 40 6100 ret b L xs := ⟨hCb, hr, hK, hinj, hAa, fun q h => h, hEv, hX, hbl, Nat.not_le.mpr hbl, by show 6100 ≤ 794702; decide, by show 64 * 6100 ≤ 6718141; decide⟩
    obtain ⟨s', hs'⟩ := hlaw xs L hL
    have hQ : ∀ (pc : Nat) (L : List (Option Value)), decode cL_law pc = .ok (.ireturn, 1) → GZ K2 6100 pc L [.int 1] [] s' := fun pc L hd hu H locs ls hP hL => by
      refine va_forget (fun q hq => hP.2.2.1.2.2 q hq) ?_
      refine W.widen (k := 794702) (n := 6718141) (Nat.le_trans hu (by decide)) (Nat.le_trans (Nat.mul_le_mul_left 64 hu) (by decide)) ?_
      exact lw_ret hx hb hr hlocks hd
    have hfin := bL_law_b8 (K := K2) (V := []) (Vc := []) (σ := (σX9, σz, 100)) hC2 Pf.rf rfl hQ hs' (by show 100 ≤ 6100; decide)
    refine W.widen (k := 100) (n := 6400) (by decide) (by decide) ?_
    refine hfin H locs ls ⟨hP1, fun k q h => by simp [wz] at h, hP.2.1, ⟨fun i j a n n' h => by simp at h, fun i a n h => by simp at h⟩, fun i j n _ h => by simp at h⟩ ⟨hLs.1, hLs.2.1, fun i v hi => hLs.2.2 i v hi⟩
  rw [lg_entry_eq]
  exact hG s.heap [] _ ⟨(fun k q h => by simp [wd] at h), va_S.rf, (fun i j hi => absurd hi (Nat.not_lt_zero _)), (fun i hi => absurd hi (Nat.not_lt_zero _)), (fun o k _ => ⟨rfl, rfl⟩), (fun i sh h => by simp at h)⟩ (lx_entry [.ref b] (Nat.le_of_ble_eq_true rfl))
