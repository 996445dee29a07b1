-- X9_letters
theorem dX9_letters_0 : decode cX9_letters 0 = .ok (.aload_n 0, 1) := by decide +kernel
theorem dX9_letters_1 : decode cX9_letters 1 = .ok (.getfield 10, 3) := by decide +kernel
theorem dX9_letters_4 : decode cX9_letters 4 = .ok (.lload_n 1, 1) := by decide +kernel
theorem dX9_letters_5 : decode cX9_letters 5 = .ok (.invokevirtual 70, 3) := by decide +kernel
theorem dX9_letters_8 : decode cX9_letters 8 = .ok (.ireturn, 1) := by decide +kernel
theorem cw_X9_letters : Cw yX9_letters cX9_letters 3 (some .int) 1 := ⟨aw_625, aw_19, ⟨by decide, by decide⟩, by decide +kernel, by decide⟩
theorem gf_9_10 {K : KT} {cc : ByteArray} {nL d pc : Nat} {ret : Option FieldType} {L : List (Option Value)} {st : List Value} {σ : Sg} (C : Cx K layC cc RX9 nL d ret)  (hd : decode cc pc = .ok (.getfield 10, 3)) (k : G K (pc + 3) L (.ref (kad K 1) :: st) (Wd K layC σ)) : G K pc L (.ref (kad K 0) :: st) (Wd K layC σ) := g_get C (o := 0) (ci := 9) (k := 0) hd rfl rfl rfl (by decide) (Or.inl aw_307) inA9 rfl k
theorem kc_9_70 {K : KT} {cc : ByteArray} {nL d pc : Nat} {ret : Option FieldType} {L : List (Option Value)} {st : List Value} {σ : Sg} (C : Cx K layC cc RX9 nL d ret)  {a0 : Int64}  {p : Int32 × Sg} (hd : decode cc pc = .ok (.invokevirtual 70, 3)) (e : fX6_append a0 σ = some p) (hdd : 2 + 1 ≤ d) (hLn : L.length = nL) (hr : (st.map fun v => v.category).sum ≤ 8) (k : G K (pc + 3) L (.int p.1 :: st) (Wd K layC p.2)) : G K pc L (.long a0 :: .ref (kad K 1) :: st) (Wd K layC σ) :=
  g_callV C (As := [.long a0]) (rest := st) (o := 1) (ci := 6) hd (ct_X6_append e) cw_X6_append (Or.inl aw_626) aw_627 aw_628 rfl rfl rfl hdd hLn rfl rfl hr (fun v τ q => by obtain ⟨rfl, rfl⟩ := q; exact k)
def fX9_letters_b0 (x1 : Int64) (σ : Sg) : Option (Int32 × Sg) :=
  Option.bind (fX6_append x1 σ) fun p1 => (some (p1.1, p1.2))
set_option maxRecDepth 4000 in
theorem bX9_letters_b0 {K : KT} {x1 : Int64} {σ : Sg} {o : Int32 × Sg} (C : Cx K layC cX9_letters RX9 3 (3) (some .int))  (hQ : Rk K layC (okI o)) (h : fX9_letters_b0 x1 σ = some o) : G K 0 [some (.ref (kad K 0)), some (.long x1), none] [] (Wd K layC σ) := by
  unfold fX9_letters_b0 at h
  refine g_aload_n C.c dX9_letters_0 rfl (i := 0) rfl ?_
  refine gf_9_10 C dX9_letters_1 ?_
  refine g_lload_n C.c dX9_letters_4 rfl (i := 1) rfl ?_
  obtain ⟨p1, e2, h⟩ := Option.bind_eq_some_iff.mp h
  refine kc_9_70 C dX9_letters_5 e2 (Nat.le_of_ble_eq_true rfl) rfl (Nat.le_of_ble_eq_true rfl) ?_
  obtain rfl := Option.some.inj h
  exact g_iret C hQ dX9_letters_8 rfl ⟨rfl, rfl⟩
def fX9_letters (a0 : Int64) (σ : Sg) : Option (Int32 × Sg) := fX9_letters_b0 a0 σ
theorem ct_X9_letters {a0 : Int64} {σ : Sg} {p : Int32 × Sg} (h : fX9_letters a0 σ = some p) : Ct layC yX9_letters cX9_letters 3 (some .int) 3 (fun ad => [.ref (ad 0), .long a0]) σ (okI p) :=
 ct_of (L0 := fun ad => [some (.ref (ad 0)), some (.long a0), none]) (by decide) (fun _ => Nat.le_of_ble_eq_true rfl) (fun _ => rfl) (fun K C hQ => g_mask [true, true, false] rfl (bX9_letters_b0 C hQ h))
-- X9_fault
theorem dX9_fault_0 : decode cX9_fault 0 = .ok (.aload_n 0, 1) := by decide +kernel
theorem dX9_fault_1 : decode cX9_fault 1 = .ok (.getfield 10, 3) := by decide +kernel
theorem dX9_fault_4 : decode cX9_fault 4 = .ok (.invokevirtual 78, 3) := by decide +kernel
theorem dX9_fault_7 : decode cX9_fault 7 = .ok (.ireturn, 1) := by decide +kernel
theorem cw_X9_fault : Cw yX9_fault cX9_fault 1 (some .int) 0 := ⟨aw_347, aw_19, ⟨by decide, by decide⟩, by decide +kernel, by decide⟩
theorem kc_9_78 {K : KT} {cc : ByteArray} {nL d pc : Nat} {ret : Option FieldType} {L : List (Option Value)} {st : List Value} {σ : Sg} (C : Cx K layC cc RX9 nL d ret)    {p : Int32 × Sg} (hd : decode cc pc = .ok (.invokevirtual 78, 3)) (e : fX6_firstWrong σ = some p) (hdd : 3 + 1 ≤ d) (hLn : L.length = nL) (hr : (st.map fun v => v.category).sum ≤ 8) (k : G K (pc + 3) L (.int p.1 :: st) (Wd K layC p.2)) : G K pc L (.ref (kad K 1) :: st) (Wd K layC σ) :=
  g_callV C (As := []) (rest := st) (o := 1) (ci := 6) hd (ct_X6_firstWrong e) cw_X6_firstWrong (Or.inl aw_348) aw_349 aw_350 rfl rfl rfl hdd hLn rfl rfl hr (fun v τ q => by obtain ⟨rfl, rfl⟩ := q; exact k)
def fX9_fault_b0  (σ : Sg) : Option (Int32 × Sg) :=
  Option.bind (fX6_firstWrong σ) fun p1 => (some (p1.1, p1.2))
set_option maxRecDepth 4000 in
theorem bX9_fault_b0 {K : KT}  {σ : Sg} {o : Int32 × Sg} (C : Cx K layC cX9_fault RX9 1 (4) (some .int))  (hQ : Rk K layC (okI o)) (h : fX9_fault_b0  σ = some o) : G K 0 [some (.ref (kad K 0))] [] (Wd K layC σ) := by
  unfold fX9_fault_b0 at h
  refine g_aload_n C.c dX9_fault_0 rfl (i := 0) rfl ?_
  refine gf_9_10 C dX9_fault_1 ?_
  obtain ⟨p1, e2, h⟩ := Option.bind_eq_some_iff.mp h
  refine kc_9_78 C dX9_fault_4 e2 (Nat.le_of_ble_eq_true rfl) rfl (Nat.le_of_ble_eq_true rfl) ?_
  obtain rfl := Option.some.inj h
  exact g_iret C hQ dX9_fault_7 rfl ⟨rfl, rfl⟩
def fX9_fault (σ : Sg) : Option (Int32 × Sg) := fX9_fault_b0 σ
theorem ct_X9_fault {σ : Sg} {p : Int32 × Sg} (h : fX9_fault σ = some p) : Ct layC yX9_fault cX9_fault 1 (some .int) 4 (fun ad => [.ref (ad 0)]) σ (okI p) :=
 ct_of (L0 := fun ad => [some (.ref (ad 0))]) (by decide) (fun _ => Nat.le_of_ble_eq_true rfl) (fun _ => rfl) (fun K C hQ => g_mask [true] rfl (bX9_fault_b0 C hQ h))
-- X9_sea
theorem dX9_sea_0 : decode cX9_sea 0 = .ok (.aload_n 0, 1) := by decide +kernel
theorem dX9_sea_1 : decode cX9_sea 1 = .ok (.getfield 10, 3) := by decide +kernel
theorem dX9_sea_4 : decode cX9_sea 4 = .ok (.invokevirtual 81, 3) := by decide +kernel
theorem dX9_sea_7 : decode cX9_sea 7 = .ok (.ifCond .ne 6, 3) := by decide +kernel
theorem dX9_sea_10 : decode cX9_sea 10 = .ok (.bipush (-103), 2) := by decide +kernel
theorem dX9_sea_12 : decode cX9_sea 12 = .ok (.ireturn, 1) := by decide +kernel
theorem dX9_sea_13 : decode cX9_sea 13 = .ok (.aload_n 0, 1) := by decide +kernel
theorem dX9_sea_14 : decode cX9_sea 14 = .ok (.getfield 27, 3) := by decide +kernel
theorem dX9_sea_17 : decode cX9_sea 17 = .ok (.aload_n 0, 1) := by decide +kernel
theorem dX9_sea_18 : decode cX9_sea 18 = .ok (.getfield 10, 3) := by decide +kernel
theorem dX9_sea_21 : decode cX9_sea 21 = .ok (.invokevirtual 85, 3) := by decide +kernel
theorem dX9_sea_24 : decode cX9_sea 24 = .ok (.aload_n 0, 1) := by decide +kernel
theorem dX9_sea_25 : decode cX9_sea 25 = .ok (.getfield 10, 3) := by decide +kernel
theorem dX9_sea_28 : decode cX9_sea 28 = .ok (.invokevirtual 74, 3) := by decide +kernel
theorem dX9_sea_31 : decode cX9_sea 31 = .ok (.pop, 1) := by decide +kernel
theorem dX9_sea_32 : decode cX9_sea 32 = .ok (.aload_n 0, 1) := by decide +kernel
theorem dX9_sea_33 : decode cX9_sea 33 = .ok (.iconst 0, 1) := by decide +kernel
theorem dX9_sea_34 : decode cX9_sea 34 = .ok (.putfield 91, 3) := by decide +kernel
theorem dX9_sea_37 : decode cX9_sea 37 = .ok (.aload_n 0, 1) := by decide +kernel
theorem dX9_sea_38 : decode cX9_sea 38 = .ok (.getfield 44, 3) := by decide +kernel
theorem dX9_sea_41 : decode cX9_sea 41 = .ok (.iconst 0, 1) := by decide +kernel
theorem dX9_sea_42 : decode cX9_sea 42 = .ok (.invokevirtual 95, 3) := by decide +kernel
theorem dX9_sea_45 : decode cX9_sea 45 = .ok (.aload_n 0, 1) := by decide +kernel
theorem dX9_sea_46 : decode cX9_sea 46 = .ok (.dup, 1) := by decide +kernel
theorem dX9_sea_47 : decode cX9_sea 47 = .ok (.getfield 99, 3) := by decide +kernel
theorem dX9_sea_50 : decode cX9_sea 50 = .ok (.iconst 1, 1) := by decide +kernel
theorem dX9_sea_51 : decode cX9_sea 51 = .ok (.iadd, 1) := by decide +kernel
theorem dX9_sea_52 : decode cX9_sea 52 = .ok (.putfield 99, 3) := by decide +kernel
theorem dX9_sea_55 : decode cX9_sea 55 = .ok (.aload_n 0, 1) := by decide +kernel
theorem dX9_sea_56 : decode cX9_sea 56 = .ok (.getfield 27, 3) := by decide +kernel
theorem dX9_sea_59 : decode cX9_sea 59 = .ok (.getfield 102, 3) := by decide +kernel
theorem dX9_sea_62 : decode cX9_sea 62 = .ok (.ireturn, 1) := by decide +kernel
theorem cw_X9_sea : Cw yX9_sea cX9_sea 1 (some .int) 0 := ⟨aw_370, aw_19, ⟨by decide, by decide⟩, by decide +kernel, by decide⟩
theorem kc_9_81 {K : KT} {cc : ByteArray} {nL d pc : Nat} {ret : Option FieldType} {L : List (Option Value)} {st : List Value} {σ : Sg} (C : Cx K layC cc RX9 nL d ret)    {p : Int32 × Sg} (hd : decode cc pc = .ok (.invokevirtual 81, 3)) (e : fX6_isSea σ = some p) (hdd : 4 + 1 ≤ d) (hLn : L.length = nL) (hr : (st.map fun v => v.category).sum ≤ 8) (k : G K (pc + 3) L (.int p.1 :: st) (Wd K layC p.2)) : G K pc L (.ref (kad K 1) :: st) (Wd K layC σ) :=
  g_callV C (As := []) (rest := st) (o := 1) (ci := 6) hd (ct_X6_isSea e) cw_X6_isSea (Or.inl aw_371) aw_372 aw_373 rfl rfl rfl hdd hLn rfl rfl hr (fun v τ q => by obtain ⟨rfl, rfl⟩ := q; exact k)
theorem gf_9_27 {K : KT} {cc : ByteArray} {nL d pc : Nat} {ret : Option FieldType} {L : List (Option Value)} {st : List Value} {σ : Sg} (C : Cx K layC cc RX9 nL d ret)  (hd : decode cc pc = .ok (.getfield 27, 3)) (k : G K (pc + 3) L (.ref (kad K 4) :: st) (Wd K layC σ)) : G K pc L (.ref (kad K 0) :: st) (Wd K layC σ) := g_get C (o := 0) (ci := 9) (k := 2) hd rfl rfl rfl (by decide) (Or.inl aw_309) inA9 rfl k
theorem kc_9_85 {K : KT} {cc : ByteArray} {nL d pc : Nat} {ret : Option FieldType} {L : List (Option Value)} {st : List Value} {σ : Sg} (C : Cx K layC cc RX9 nL d ret)    {p : Sg} (hd : decode cc pc = .ok (.invokevirtual 85, 3)) (e : fX7_lay σ = some p) (hdd : 3 + 1 ≤ d) (hLn : L.length = nL) (hr : (st.map fun v => v.category).sum ≤ 8) (k : G K (pc + 3) L (st) (Wd K layC p)) : G K pc L (.ref (kad K 1) :: .ref (kad K 4) :: st) (Wd K layC σ) :=
  g_callV C (As := [.ref (kad K 1)]) (rest := st) (o := 4) (ci := 7) hd (ct_X7_lay e) cw_X7_lay (Or.inl aw_376) aw_377 aw_378 rfl rfl rfl hdd hLn rfl rfl hr (fun v τ q => by obtain ⟨rfl, rfl⟩ := q; exact k)
theorem kc_9_74 {K : KT} {cc : ByteArray} {nL d pc : Nat} {ret : Option FieldType} {L : List (Option Value)} {st : List Value} {σ : Sg} (C : Cx K layC cc RX9 nL d ret)    {p : Int32 × Sg} (hd : decode cc pc = .ok (.invokevirtual 74, 3)) (e : fX6_clear σ = some p) (hdd : 1 + 1 ≤ d) (hLn : L.length = nL) (hr : (st.map fun v => v.category).sum ≤ 8) (k : G K (pc + 3) L (.int p.1 :: st) (Wd K layC p.2)) : G K pc L (.ref (kad K 1) :: st) (Wd K layC σ) :=
  g_callV C (As := []) (rest := st) (o := 1) (ci := 6) hd (ct_X6_clear e) cw_X6_clear (Or.inl aw_404) aw_405 aw_406 rfl rfl rfl hdd hLn rfl rfl hr (fun v τ q => by obtain ⟨rfl, rfl⟩ := q; exact k)
theorem pf_9_91 {K : KT} {cc : ByteArray} {nL d pc : Nat} {ret : Option FieldType} {L : List (Option Value)} {st : List Value} {σ : Sg} (C : Cx K layC cc RX9 nL d ret)  {v : Int32}  (hd : decode cc pc = .ok (.putfield 91, 3)) (k : G K (pc + 3) L st (Wd K layC (wI σ 0 9 v))) : G K pc L (.int v :: .ref (kad K 0) :: st) (Wd K layC σ) := g_putI C (o := 0) (ci := 9) (k := 9) hd rfl rfl rfl (by decide) (Or.inl aw_316) inA9 tyX9_ok nmX9 rfl rfl rfl k
theorem gf_9_44 {K : KT} {cc : ByteArray} {nL d pc : Nat} {ret : Option FieldType} {L : List (Option Value)} {st : List Value} {σ : Sg} (C : Cx K layC cc RX9 nL d ret)  (hd : decode cc pc = .ok (.getfield 44, 3)) (k : G K (pc + 3) L (.ref (kad K 49) :: st) (Wd K layC σ)) : G K pc L (.ref (kad K 0) :: st) (Wd K layC σ) := g_get C (o := 0) (ci := 9) (k := 5) hd rfl rfl rfl (by decide) (Or.inl aw_312) inA9 rfl k
theorem kc_9_95 {K : KT} {cc : ByteArray} {nL d pc : Nat} {ret : Option FieldType} {L : List (Option Value)} {st : List Value} {σ : Sg} (C : Cx K layC cc RX9 nL d ret)  {a0 : Int32}  {p : Sg} (hd : decode cc pc = .ok (.invokevirtual 95, 3)) (e : fX4_cutTo a0 σ = some p) (hdd : 1 + 1 ≤ d) (hLn : L.length = nL) (hr : (st.map fun v => v.category).sum ≤ 8) (k : G K (pc + 3) L (st) (Wd K layC p)) : G K pc L (.int a0 :: .ref (kad K 49) :: st) (Wd K layC σ) :=
  g_callV C (As := [.int a0]) (rest := st) (o := 49) (ci := 4) hd (ct_X4_cutTo e) cw_X4_cutTo (Or.inl aw_408) aw_409 aw_410 rfl rfl rfl hdd hLn rfl rfl hr (fun v τ q => by obtain ⟨rfl, rfl⟩ := q; exact k)
theorem gf_9_99 {K : KT} {cc : ByteArray} {nL d pc : Nat} {ret : Option FieldType} {L : List (Option Value)} {st : List Value} {σ : Sg} (C : Cx K layC cc RX9 nL d ret)  (hd : decode cc pc = .ok (.getfield 99, 3)) (k : G K (pc + 3) L (.int (rI σ 0 10) :: st) (Wd K layC σ)) : G K pc L (.ref (kad K 0) :: st) (Wd K layC σ) := g_get C (o := 0) (ci := 9) (k := 10) hd rfl rfl rfl (by decide) (Or.inl aw_317) inA9 rfl k
theorem pf_9_99 {K : KT} {cc : ByteArray} {nL d pc : Nat} {ret : Option FieldType} {L : List (Option Value)} {st : List Value} {σ : Sg} (C : Cx K layC cc RX9 nL d ret)  {v : Int32}  (hd : decode cc pc = .ok (.putfield 99, 3)) (k : G K (pc + 3) L st (Wd K layC (wI σ 0 10 v))) : G K pc L (.int v :: .ref (kad K 0) :: st) (Wd K layC σ) := g_putI C (o := 0) (ci := 9) (k := 10) hd rfl rfl rfl (by decide) (Or.inl aw_317) inA9 tyX9_ok nmX9 rfl rfl rfl k
theorem gf_9_102 {K : KT} {cc : ByteArray} {nL d pc : Nat} {ret : Option FieldType} {L : List (Option Value)} {st : List Value} {σ : Sg} (C : Cx K layC cc RX9 nL d ret)  (hd : decode cc pc = .ok (.getfield 102, 3)) (k : G K (pc + 3) L (.int (rI σ 4 5) :: st) (Wd K layC σ)) : G K pc L (.ref (kad K 4) :: st) (Wd K layC σ) := g_get C (o := 4) (ci := 7) (k := 5) hd rfl rfl rfl (by decide) (Or.inr ⟨_, aw_96⟩) inA7 rfl k
def fX9_sea_b0  (σ : Sg) : Option (Int32 × Sg) :=
  Option.bind (fX6_isSea σ) fun p1 => (if p1.1 = 0 then (some ((-103 : Int32), p1.2)) else (Option.bind (fX7_lay p1.2) fun p3 => (Option.bind (fX6_clear p3) fun p5 => (Option.bind (fX4_cutTo (0 : Int32) (wI p5.2 0 9 (0 : Int32))) fun p7 => (some ((rI (wI p7 0 10 ((rI p7 0 10) + (1 : Int32))) 4 5), (wI p7 0 10 ((rI p7 0 10) + (1 : Int32)))))))))
set_option maxRecDepth 4000 in
theorem bX9_sea_b0 {K : KT}  {σ : Sg} {o : Int32 × Sg} (C : Cx K layC cX9_sea RX9 1 (5) (some .int))  (hQ : Rk K layC (okI o)) (h : fX9_sea_b0  σ = some o) : G K 0 [some (.ref (kad K 0))] [] (Wd K layC σ) := by
  unfold fX9_sea_b0 at h
  refine g_aload_n C.c dX9_sea_0 rfl (i := 0) rfl ?_
  refine gf_9_10 C dX9_sea_1 ?_
  obtain ⟨p1, e2, h⟩ := Option.bind_eq_some_iff.mp h
  refine kc_9_81 C dX9_sea_4 e2 (Nat.le_of_ble_eq_true rfl) rfl (Nat.le_of_ble_eq_true rfl) ?_
  refine g_if_ne C.c (tgt := 13) dX9_sea_7 (by decide) (fun c => ?_) (fun c => ?_)
  · replace h := ite_f c h
    refine g_aload_n C.c dX9_sea_13 rfl (i := 0) rfl ?_
    refine gf_9_27 C dX9_sea_14 ?_
    refine g_aload_n C.c dX9_sea_17 rfl (i := 0) rfl ?_
    refine gf_9_10 C dX9_sea_18 ?_
    obtain ⟨p3, e4, h⟩ := Option.bind_eq_some_iff.mp h
    refine kc_9_85 C dX9_sea_21 e4 (Nat.le_of_ble_eq_true rfl) rfl (Nat.le_of_ble_eq_true rfl) ?_
    refine g_aload_n C.c dX9_sea_24 rfl (i := 0) rfl ?_
    refine gf_9_10 C dX9_sea_25 ?_
    obtain ⟨p5, e6, h⟩ := Option.bind_eq_some_iff.mp h
    refine kc_9_74 C dX9_sea_28 e6 (Nat.le_of_ble_eq_true rfl) rfl (Nat.le_of_ble_eq_true rfl) ?_
    refine g_pop C.c dX9_sea_31 rfl ?_
    refine g_aload_n C.c dX9_sea_32 rfl (i := 0) rfl ?_
    refine g_iconst C.c dX9_sea_33 (v := (0 : Int32)) (by decide) ?_
    refine pf_9_91 C dX9_sea_34 ?_
    refine g_aload_n C.c dX9_sea_37 rfl (i := 0) rfl ?_
    refine gf_9_44 C dX9_sea_38 ?_
    refine g_iconst C.c dX9_sea_41 (v := (0 : Int32)) (by decide) ?_
    obtain ⟨p7, e8, h⟩ := Option.bind_eq_some_iff.mp h
    refine kc_9_95 C dX9_sea_42 e8 (Nat.le_of_ble_eq_true rfl) rfl (Nat.le_of_ble_eq_true rfl) ?_
    refine g_aload_n C.c dX9_sea_45 rfl (i := 0) rfl ?_
    refine g_dup C.c dX9_sea_46 rfl ?_
    refine gf_9_99 C dX9_sea_47 ?_
    refine g_iconst C.c dX9_sea_50 (v := (1 : Int32)) (by decide) ?_
    refine g_iadd C.c dX9_sea_51 ?_
    refine pf_9_99 C dX9_sea_52 ?_
    refine g_aload_n C.c dX9_sea_55 rfl (i := 0) rfl ?_
    refine gf_9_27 C dX9_sea_56 ?_
    refine gf_9_102 C dX9_sea_59 ?_
    obtain rfl := Option.some.inj h
    exact g_iret C hQ dX9_sea_62 rfl ⟨rfl, rfl⟩
  · replace h := ite_t c h
    refine g_bipush C.c dX9_sea_10 (v := (-103 : Int32)) (by decide) ?_
    obtain rfl := Option.some.inj h
    exact g_iret C hQ dX9_sea_12 rfl ⟨rfl, rfl⟩
def fX9_sea (σ : Sg) : Option (Int32 × Sg) := fX9_sea_b0 σ
theorem ct_X9_sea {σ : Sg} {p : Int32 × Sg} (h : fX9_sea σ = some p) : Ct layC yX9_sea cX9_sea 1 (some .int) 5 (fun ad => [.ref (ad 0)]) σ (okI p) :=
 ct_of (L0 := fun ad => [some (.ref (ad 0))]) (by decide) (fun _ => Nat.le_of_ble_eq_true rfl) (fun _ => rfl) (fun K C hQ => g_mask [true] rfl (bX9_sea_b0 C hQ h))
-- X9_square
theorem dX9_square_0 : decode cX9_square 0 = .ok (.aload_n 0, 1) := by decide +kernel
theorem dX9_square_1 : decode cX9_square 1 = .ok (.getfield 27, 3) := by decide +kernel
theorem dX9_square_4 : decode cX9_square 4 = .ok (.iload_n 1, 1) := by decide +kernel
theorem dX9_square_5 : decode cX9_square 5 = .ok (.invokevirtual 105, 3) := by decide +kernel
theorem dX9_square_8 : decode cX9_square 8 = .ok (.ifCond .ne 6, 3) := by decide +kernel
theorem dX9_square_11 : decode cX9_square 11 = .ok (.bipush (-101), 2) := by decide +kernel
theorem dX9_square_13 : decode cX9_square 13 = .ok (.ireturn, 1) := by decide +kernel
theorem dX9_square_14 : decode cX9_square 14 = .ok (.iload_n 2, 1) := by decide +kernel
theorem dX9_square_15 : decode cX9_square 15 = .ok (.tableswitch 55 0 2 #[25, 35, 45], 25) := by decide +kernel
theorem dX9_square_40 : decode cX9_square 40 = .ok (.aload_n 0, 1) := by decide +kernel
theorem dX9_square_41 : decode cX9_square 41 = .ok (.getfield 27, 3) := by decide +kernel
theorem dX9_square_44 : decode cX9_square 44 = .ok (.getfield 109, 3) := by decide +kernel
theorem dX9_square_47 : decode cX9_square 47 = .ok (.iload_n 1, 1) := by decide +kernel
theorem dX9_square_48 : decode cX9_square 48 = .ok (.iaload, 1) := by decide +kernel
theorem dX9_square_49 : decode cX9_square 49 = .ok (.ireturn, 1) := by decide +kernel
theorem dX9_square_50 : decode cX9_square 50 = .ok (.aload_n 0, 1) := by decide +kernel
theorem dX9_square_51 : decode cX9_square 51 = .ok (.getfield 27, 3) := by decide +kernel
theorem dX9_square_54 : decode cX9_square 54 = .ok (.getfield 113, 3) := by decide +kernel
theorem dX9_square_57 : decode cX9_square 57 = .ok (.iload_n 1, 1) := by decide +kernel
theorem dX9_square_58 : decode cX9_square 58 = .ok (.iaload, 1) := by decide +kernel
theorem dX9_square_59 : decode cX9_square 59 = .ok (.ireturn, 1) := by decide +kernel
theorem dX9_square_60 : decode cX9_square 60 = .ok (.aload_n 0, 1) := by decide +kernel
theorem dX9_square_61 : decode cX9_square 61 = .ok (.getfield 27, 3) := by decide +kernel
theorem dX9_square_64 : decode cX9_square 64 = .ok (.getfield 116, 3) := by decide +kernel
theorem dX9_square_67 : decode cX9_square 67 = .ok (.iload_n 1, 1) := by decide +kernel
theorem dX9_square_68 : decode cX9_square 68 = .ok (.iaload, 1) := by decide +kernel
theorem dX9_square_69 : decode cX9_square 69 = .ok (.ireturn, 1) := by decide +kernel
theorem dX9_square_70 : decode cX9_square 70 = .ok (.bipush (-102), 2) := by decide +kernel
theorem dX9_square_72 : decode cX9_square 72 = .ok (.ireturn, 1) := by decide +kernel
theorem cw_X9_square : Cw yX9_square cX9_square 3 (some .int) 2 := ⟨aw_421, aw_19, ⟨by decide, by decide⟩, by decide +kernel, by decide⟩
theorem kc_9_105 {K : KT} {cc : ByteArray} {nL d pc : Nat} {ret : Option FieldType} {L : List (Option Value)} {st : List Value} {σ : Sg} (C : Cx K layC cc RX9 nL d ret)  {a0 : Int32}  {p : Int32 × Sg} (hd : decode cc pc = .ok (.invokevirtual 105, 3)) (e : fX7_has a0 σ = some p) (hdd : 1 + 1 ≤ d) (hLn : L.length = nL) (hr : (st.map fun v => v.category).sum ≤ 8) (k : G K (pc + 3) L (.int p.1 :: st) (Wd K layC p.2)) : G K pc L (.int a0 :: .ref (kad K 4) :: st) (Wd K layC σ) :=
  g_callV C (As := [.int a0]) (rest := st) (o := 4) (ci := 7) hd (ct_X7_has e) cw_X7_has (Or.inl aw_422) aw_423 aw_424 rfl rfl rfl hdd hLn rfl rfl hr (fun v τ q => by obtain ⟨rfl, rfl⟩ := q; exact k)
theorem gf_9_109 {K : KT} {cc : ByteArray} {nL d pc : Nat} {ret : Option FieldType} {L : List (Option Value)} {st : List Value} {σ : Sg} (C : Cx K layC cc RX9 nL d ret)  (hd : decode cc pc = .ok (.getfield 109, 3)) (k : G K (pc + 3) L (.ref (kad K 5) :: st) (Wd K layC σ)) : G K pc L (.ref (kad K 4) :: st) (Wd K layC σ) := g_get C (o := 4) (ci := 7) (k := 0) hd rfl rfl rfl (by decide) (Or.inr ⟨_, aw_84⟩) inA7 rfl k
theorem gf_9_113 {K : KT} {cc : ByteArray} {nL d pc : Nat} {ret : Option FieldType} {L : List (Option Value)} {st : List Value} {σ : Sg} (C : Cx K layC cc RX9 nL d ret)  (hd : decode cc pc = .ok (.getfield 113, 3)) (k : G K (pc + 3) L (.ref (kad K 6) :: st) (Wd K layC σ)) : G K pc L (.ref (kad K 4) :: st) (Wd K layC σ) := g_get C (o := 4) (ci := 7) (k := 1) hd rfl rfl rfl (by decide) (Or.inr ⟨_, aw_87⟩) inA7 rfl k
theorem gf_9_116 {K : KT} {cc : ByteArray} {nL d pc : Nat} {ret : Option FieldType} {L : List (Option Value)} {st : List Value} {σ : Sg} (C : Cx K layC cc RX9 nL d ret)  (hd : decode cc pc = .ok (.getfield 116, 3)) (k : G K (pc + 3) L (.ref (kad K 7) :: st) (Wd K layC σ)) : G K pc L (.ref (kad K 4) :: st) (Wd K layC σ) := g_get C (o := 4) (ci := 7) (k := 2) hd rfl rfl rfl (by decide) (Or.inr ⟨_, aw_90⟩) inA7 rfl k
def fX9_square_b0 (x1 : Int32) (x2 : Int32) (σ : Sg) : Option (Int32 × Sg) :=
  Option.bind (fX7_has x1 σ) fun p1 => (if p1.1 = 0 then (some ((-101 : Int32), p1.2)) else (if x2 = (0 : Int32) then (if inb x1 30 = true then (some ((rI p1.2 5 (x1).toNatClampNeg), p1.2)) else none) else (if x2 = (1 : Int32) then (if inb x1 30 = true then (some ((rI p1.2 6 (x1).toNatClampNeg), p1.2)) else none) else (if x2 = (2 : Int32) then (if inb x1 30 = true then (some ((rI p1.2 7 (x1).toNatClampNeg), p1.2)) else none) else (some ((-102 : Int32), p1.2))))))
set_option maxRecDepth 4000 in
theorem bX9_square_b0 {K : KT} {x1 : Int32} {x2 : Int32} {σ : Sg} {o : Int32 × Sg} (C : Cx K layC cX9_square RX9 3 (2) (some .int))  (hQ : Rk K layC (okI o)) (h : fX9_square_b0 x1 x2 σ = some o) : G K 0 [some (.ref (kad K 0)), some (.int x1), some (.int x2)] [] (Wd K layC σ) := by
  unfold fX9_square_b0 at h
  refine g_aload_n C.c dX9_square_0 rfl (i := 0) rfl ?_
  refine gf_9_27 C dX9_square_1 ?_
  refine g_iload_n C.c dX9_square_4 rfl (i := 1) rfl ?_
  obtain ⟨p1, e2, h⟩ := Option.bind_eq_some_iff.mp h
  refine kc_9_105 C dX9_square_5 e2 (Nat.le_of_ble_eq_true rfl) rfl (Nat.le_of_ble_eq_true rfl) ?_
  refine g_if_ne C.c (tgt := 14) dX9_square_8 (by decide) (fun c => ?_) (fun c => ?_)
  · replace h := ite_f c h
    refine g_iload_n C.c dX9_square_14 rfl (i := 2) rfl ?_
    by_cases c0 : x2 = (0 : Int32)
    · replace h := ite_t c0 h
      refine g_tblIn C.c (tgt := 40) (off := 25) c0 dX9_square_15 (by decide) (by decide) (by decide) (by decide) ?_
      refine g_aload_n C.c dX9_square_40 rfl (i := 0) rfl ?_
      refine gf_9_27 C dX9_square_41 ?_
      refine gf_9_109 C dX9_square_44 ?_
      refine g_iload_n C.c dX9_square_47 rfl (i := 1) rfl ?_
      obtain ⟨c3, h⟩ := chk h
      refine g_iald C dX9_square_48 rfl c3 ?_
      obtain rfl := Option.some.inj h
      exact g_iret C hQ dX9_square_49 rfl ⟨rfl, rfl⟩
    · replace h := ite_f c0 h
      by_cases c1 : x2 = (1 : Int32)
      · replace h := ite_t c1 h
        refine g_tblIn C.c (tgt := 50) (off := 35) c1 dX9_square_15 (by decide) (by decide) (by decide) (by decide) ?_
        refine g_aload_n C.c dX9_square_50 rfl (i := 0) rfl ?_
        refine gf_9_27 C dX9_square_51 ?_
        refine gf_9_113 C dX9_square_54 ?_
        refine g_iload_n C.c dX9_square_57 rfl (i := 1) rfl ?_
        obtain ⟨c4, h⟩ := chk h
        refine g_iald C dX9_square_58 rfl c4 ?_
        obtain rfl := Option.some.inj h
        exact g_iret C hQ dX9_square_59 rfl ⟨rfl, rfl⟩
      · replace h := ite_f c1 h
        by_cases c2 : x2 = (2 : Int32)
        · replace h := ite_t c2 h
          refine g_tblIn C.c (tgt := 60) (off := 45) c2 dX9_square_15 (by decide) (by decide) (by decide) (by decide) ?_
          refine g_aload_n C.c dX9_square_60 rfl (i := 0) rfl ?_
          refine gf_9_27 C dX9_square_61 ?_
          refine gf_9_116 C dX9_square_64 ?_
          refine g_iload_n C.c dX9_square_67 rfl (i := 1) rfl ?_
          obtain ⟨c5, h⟩ := chk h
          refine g_iald C dX9_square_68 rfl c5 ?_
          obtain rfl := Option.some.inj h
          exact g_iret C hQ dX9_square_69 rfl ⟨rfl, rfl⟩
        · replace h := ite_f c2 h
          refine g_tblOut C.c (tgt := 70) [(0 : Int32), (1 : Int32), (2 : Int32)] (by decide) ⟨c0, c1, c2, trivial⟩ dX9_square_15 (by decide) ?_
          refine g_bipush C.c dX9_square_70 (v := (-102 : Int32)) (by decide) ?_
          obtain rfl := Option.some.inj h
          exact g_iret C hQ dX9_square_72 rfl ⟨rfl, rfl⟩
  · replace h := ite_t c h
    refine g_bipush C.c dX9_square_11 (v := (-101 : Int32)) (by decide) ?_
    obtain rfl := Option.some.inj h
    exact g_iret C hQ dX9_square_13 rfl ⟨rfl, rfl⟩
def fX9_square (a0 : Int32) (a1 : Int32) (σ : Sg) : Option (Int32 × Sg) := fX9_square_b0 a0 a1 σ
theorem ct_X9_square {a0 : Int32} {a1 : Int32} {σ : Sg} {p : Int32 × Sg} (h : fX9_square a0 a1 σ = some p) : Ct layC yX9_square cX9_square 3 (some .int) 2 (fun ad => [.ref (ad 0), .int a0, .int a1]) σ (okI p) :=
 ct_of (L0 := fun ad => [some (.ref (ad 0)), some (.int a0), some (.int a1)]) (by decide) (fun _ => Nat.le_of_ble_eq_true rfl) (fun _ => rfl) (fun K C hQ => g_mask [true, true, true] rfl (bX9_square_b0 C hQ h))
-- X9_isSize
theorem dX9_isSize_0 : decode cX9_isSize 0 = .ok (.iload_n 0, 1) := by decide +kernel
theorem dX9_isSize_1 : decode cX9_isSize 1 = .ok (.bipush 10, 2) := by decide +kernel
theorem dX9_isSize_3 : decode cX9_isSize 3 = .ok (.if_icmp .lt 14, 3) := by decide +kernel
theorem dX9_isSize_6 : decode cX9_isSize 6 = .ok (.iload_n 0, 1) := by decide +kernel
theorem dX9_isSize_7 : decode cX9_isSize 7 = .ok (.sipush 999, 3) := by decide +kernel
theorem dX9_isSize_10 : decode cX9_isSize 10 = .ok (.if_icmp .gt 7, 3) := by decide +kernel
theorem dX9_isSize_13 : decode cX9_isSize 13 = .ok (.iconst 1, 1) := by decide +kernel
theorem dX9_isSize_14 : decode cX9_isSize 14 = .ok (.goto 4, 3) := by decide +kernel
theorem dX9_isSize_17 : decode cX9_isSize 17 = .ok (.iconst 0, 1) := by decide +kernel
theorem dX9_isSize_18 : decode cX9_isSize 18 = .ok (.ireturn, 1) := by decide +kernel
theorem cw_X9_isSize : Cw yX9_isSize cX9_isSize 1 (some .boolean) 1 := ⟨aw_451, aw_19, ⟨by decide, by decide⟩, by decide +kernel, by decide⟩
def fX9_isSize_b0 (x0 : Int32) (σ : Sg) : Option (Int32 × Sg) :=
  if x0 < (10 : Int32) then (some ((0 : Int32), σ)) else (if (999 : Int32) < x0 then (some ((0 : Int32), σ)) else (some ((1 : Int32), σ)))
set_option maxRecDepth 4000 in
theorem bX9_isSize_b0 {K : KT} {x0 : Int32} {σ : Sg} {o : Int32 × Sg} (C : Cx K layC cX9_isSize RX9 1 (1) (some .boolean))  (hQ : Rk K layC (okI o)) (h : fX9_isSize_b0 x0 σ = some o) : G K 0 [some (.int x0)] [] (Wd K layC σ) := by
  unfold fX9_isSize_b0 at h
  refine g_iload_n C.c dX9_isSize_0 rfl (i := 0) rfl ?_
  refine g_bipush C.c dX9_isSize_1 (v := (10 : Int32)) (by decide) ?_
  refine g_icmp_lt C.c (tgt := 17) dX9_isSize_3 (by decide) (fun c => ?_) (fun c => ?_)
  · replace h := ite_t c h
    refine g_iconst C.c dX9_isSize_17 (v := (0 : Int32)) (by decide) ?_
    obtain rfl := Option.some.inj h
    exact g_iret C hQ dX9_isSize_18 rfl ⟨rfl, rfl⟩
  · replace h := ite_f c h
    refine g_iload_n C.c dX9_isSize_6 rfl (i := 0) rfl ?_
    refine g_sipush C.c dX9_isSize_7 (v := (999 : Int32)) (by decide) ?_
    refine g_icmp_gt C.c (tgt := 17) dX9_isSize_10 (by decide) (fun c => ?_) (fun c => ?_)
    · replace h := ite_t c h
      refine g_iconst C.c dX9_isSize_17 (v := (0 : Int32)) (by decide) ?_
      obtain rfl := Option.some.inj h
      exact g_iret C hQ dX9_isSize_18 rfl ⟨rfl, rfl⟩
    · replace h := ite_f c h
      refine g_iconst C.c dX9_isSize_13 (v := (1 : Int32)) (by decide) ?_
      refine g_goto C.c (tgt := 18) dX9_isSize_14 (by decide) ?_
      obtain rfl := Option.some.inj h
      exact g_iret C hQ dX9_isSize_18 rfl ⟨rfl, rfl⟩
def fX9_isSize (a0 : Int32) (σ : Sg) : Option (Int32 × Sg) := fX9_isSize_b0 a0 σ
theorem ct_X9_isSize {a0 : Int32} {σ : Sg} {p : Int32 × Sg} (h : fX9_isSize a0 σ = some p) : Ct layC yX9_isSize cX9_isSize 1 (some .boolean) 1 (fun ad => [.int a0]) σ (okI p) :=
 ct_of (L0 := fun ad => [some (.int a0)]) (by decide) (fun _ => Nat.le_of_ble_eq_true rfl) (fun _ => rfl) (fun K C hQ => g_mask [true] rfl (bX9_isSize_b0 C hQ h))
-- X9_isFoot
theorem dX9_isFoot_0 : decode cX9_isFoot 0 = .ok (.iload_n 0, 1) := by decide +kernel
theorem dX9_isFoot_1 : decode cX9_isFoot 1 = .ok (.ifCond .lt 13, 3) := by decide +kernel
theorem dX9_isFoot_4 : decode cX9_isFoot 4 = .ok (.iload_n 0, 1) := by decide +kernel
theorem dX9_isFoot_5 : decode cX9_isFoot 5 = .ok (.bipush 99, 2) := by decide +kernel
theorem dX9_isFoot_7 : decode cX9_isFoot 7 = .ok (.if_icmp .gt 7, 3) := by decide +kernel
theorem dX9_isFoot_10 : decode cX9_isFoot 10 = .ok (.iconst 1, 1) := by decide +kernel
theorem dX9_isFoot_11 : decode cX9_isFoot 11 = .ok (.goto 4, 3) := by decide +kernel
theorem dX9_isFoot_14 : decode cX9_isFoot 14 = .ok (.iconst 0, 1) := by decide +kernel
theorem dX9_isFoot_15 : decode cX9_isFoot 15 = .ok (.ireturn, 1) := by decide +kernel
theorem cw_X9_isFoot : Cw yX9_isFoot cX9_isFoot 1 (some .boolean) 1 := ⟨aw_454, aw_19, ⟨by decide, by decide⟩, by decide +kernel, by decide⟩
def fX9_isFoot_b0 (x0 : Int32) (σ : Sg) : Option (Int32 × Sg) :=
  if x0 < 0 then (some ((0 : Int32), σ)) else (if (99 : Int32) < x0 then (some ((0 : Int32), σ)) else (some ((1 : Int32), σ)))
set_option maxRecDepth 4000 in
theorem bX9_isFoot_b0 {K : KT} {x0 : Int32} {σ : Sg} {o : Int32 × Sg} (C : Cx K layC cX9_isFoot RX9 1 (1) (some .boolean))  (hQ : Rk K layC (okI o)) (h : fX9_isFoot_b0 x0 σ = some o) : G K 0 [some (.int x0)] [] (Wd K layC σ) := by
  unfold fX9_isFoot_b0 at h
  refine g_iload_n C.c dX9_isFoot_0 rfl (i := 0) rfl ?_
  refine g_if_lt C.c (tgt := 14) dX9_isFoot_1 (by decide) (fun c => ?_) (fun c => ?_)
  · replace h := ite_t c h
    refine g_iconst C.c dX9_isFoot_14 (v := (0 : Int32)) (by decide) ?_
    obtain rfl := Option.some.inj h
    exact g_iret C hQ dX9_isFoot_15 rfl ⟨rfl, rfl⟩
  · replace h := ite_f c h
    refine g_iload_n C.c dX9_isFoot_4 rfl (i := 0) rfl ?_
    refine g_bipush C.c dX9_isFoot_5 (v := (99 : Int32)) (by decide) ?_
    refine g_icmp_gt C.c (tgt := 14) dX9_isFoot_7 (by decide) (fun c => ?_) (fun c => ?_)
    · replace h := ite_t c h
      refine g_iconst C.c dX9_isFoot_14 (v := (0 : Int32)) (by decide) ?_
      obtain rfl := Option.some.inj h
      exact g_iret C hQ dX9_isFoot_15 rfl ⟨rfl, rfl⟩
    · replace h := ite_f c h
      refine g_iconst C.c dX9_isFoot_10 (v := (1 : Int32)) (by decide) ?_
      refine g_goto C.c (tgt := 15) dX9_isFoot_11 (by decide) ?_
      obtain rfl := Option.some.inj h
      exact g_iret C hQ dX9_isFoot_15 rfl ⟨rfl, rfl⟩
def fX9_isFoot (a0 : Int32) (σ : Sg) : Option (Int32 × Sg) := fX9_isFoot_b0 a0 σ
theorem ct_X9_isFoot {a0 : Int32} {σ : Sg} {p : Int32 × Sg} (h : fX9_isFoot a0 σ = some p) : Ct layC yX9_isFoot cX9_isFoot 1 (some .boolean) 1 (fun ad => [.int a0]) σ (okI p) :=
 ct_of (L0 := fun ad => [some (.int a0)]) (by decide) (fun _ => Nat.le_of_ble_eq_true rfl) (fun _ => rfl) (fun K C hQ => g_mask [true] rfl (bX9_isFoot_b0 C hQ h))
-- X9_berg
theorem dX9_berg_0 : decode cX9_berg 0 = .ok (.iload_n 1, 1) := by decide +kernel
theorem dX9_berg_1 : decode cX9_berg 1 = .ok (.invokestatic 119, 3) := by decide +kernel
theorem dX9_berg_4 : decode cX9_berg 4 = .ok (.ifCond .ne 6, 3) := by decide +kernel
theorem dX9_berg_7 : decode cX9_berg 7 = .ok (.bipush (-102), 2) := by decide +kernel
theorem dX9_berg_9 : decode cX9_berg 9 = .ok (.ireturn, 1) := by decide +kernel
theorem dX9_berg_10 : decode cX9_berg 10 = .ok (.aload_n 0, 1) := by decide +kernel
theorem dX9_berg_11 : decode cX9_berg 11 = .ok (.getfield 27, 3) := by decide +kernel
theorem dX9_berg_14 : decode cX9_berg 14 = .ok (.iload_n 2, 1) := by decide +kernel
theorem dX9_berg_15 : decode cX9_berg 15 = .ok (.invokevirtual 122, 3) := by decide +kernel
theorem dX9_berg_18 : decode cX9_berg 18 = .ok (.ifCond .ne 6, 3) := by decide +kernel
theorem dX9_berg_21 : decode cX9_berg 21 = .ok (.bipush (-101), 2) := by decide +kernel
theorem dX9_berg_23 : decode cX9_berg 23 = .ok (.ireturn, 1) := by decide +kernel
theorem dX9_berg_24 : decode cX9_berg 24 = .ok (.iload_n 3, 1) := by decide +kernel
theorem dX9_berg_25 : decode cX9_berg 25 = .ok (.invokestatic 125, 3) := by decide +kernel
theorem dX9_berg_28 : decode cX9_berg 28 = .ok (.ifCond .eq 20, 3) := by decide +kernel
theorem dX9_berg_31 : decode cX9_berg 31 = .ok (.iload 4, 2) := by decide +kernel
theorem dX9_berg_33 : decode cX9_berg 33 = .ok (.invokestatic 128, 3) := by decide +kernel
theorem dX9_berg_36 : decode cX9_berg 36 = .ok (.ifCond .eq 12, 3) := by decide +kernel
theorem dX9_berg_39 : decode cX9_berg 39 = .ok (.iload_n 1, 1) := by decide +kernel
theorem dX9_berg_40 : decode cX9_berg 40 = .ok (.iload 5, 2) := by decide +kernel
theorem dX9_berg_42 : decode cX9_berg 42 = .ok (.invokestatic 131, 3) := by decide +kernel
theorem dX9_berg_45 : decode cX9_berg 45 = .ok (.ifCond .ne 6, 3) := by decide +kernel
theorem dX9_berg_48 : decode cX9_berg 48 = .ok (.bipush (-102), 2) := by decide +kernel
theorem dX9_berg_50 : decode cX9_berg 50 = .ok (.ireturn, 1) := by decide +kernel
theorem dX9_berg_51 : decode cX9_berg 51 = .ok (.aload_n 0, 1) := by decide +kernel
theorem dX9_berg_52 : decode cX9_berg 52 = .ok (.getfield 91, 3) := by decide +kernel
theorem dX9_berg_55 : decode cX9_berg 55 = .ok (.iconst 5, 1) := by decide +kernel
theorem dX9_berg_56 : decode cX9_berg 56 = .ok (.if_icmp .lt 6, 3) := by decide +kernel
theorem dX9_berg_59 : decode cX9_berg 59 = .ok (.bipush (-104), 2) := by decide +kernel
theorem dX9_berg_61 : decode cX9_berg 61 = .ok (.ireturn, 1) := by decide +kernel
theorem dX9_berg_62 : decode cX9_berg 62 = .ok (.aload_n 0, 1) := by decide +kernel
theorem dX9_berg_63 : decode cX9_berg 63 = .ok (.getfield 37, 3) := by decide +kernel
theorem dX9_berg_66 : decode cX9_berg 66 = .ok (.aload_n 0, 1) := by decide +kernel
theorem dX9_berg_67 : decode cX9_berg 67 = .ok (.getfield 91, 3) := by decide +kernel
theorem dX9_berg_70 : decode cX9_berg 70 = .ok (.aaload, 1) := by decide +kernel
theorem dX9_berg_71 : decode cX9_berg 71 = .ok (.iload_n 1, 1) := by decide +kernel
theorem dX9_berg_72 : decode cX9_berg 72 = .ok (.iload_n 2, 1) := by decide +kernel
theorem dX9_berg_73 : decode cX9_berg 73 = .ok (.iload_n 3, 1) := by decide +kernel
theorem dX9_berg_74 : decode cX9_berg 74 = .ok (.iload 4, 2) := by decide +kernel
theorem dX9_berg_76 : decode cX9_berg 76 = .ok (.iload 5, 2) := by decide +kernel
theorem dX9_berg_78 : decode cX9_berg 78 = .ok (.invokevirtual 135, 3) := by decide +kernel
theorem dX9_berg_81 : decode cX9_berg 81 = .ok (.aload_n 0, 1) := by decide +kernel
theorem dX9_berg_82 : decode cX9_berg 82 = .ok (.getfield 58, 3) := by decide +kernel
theorem dX9_berg_85 : decode cX9_berg 85 = .ok (.aload_n 0, 1) := by decide +kernel
theorem dX9_berg_86 : decode cX9_berg 86 = .ok (.getfield 91, 3) := by decide +kernel
theorem dX9_berg_89 : decode cX9_berg 89 = .ok (.invokevirtual 139, 3) := by decide +kernel
theorem dX9_berg_92 : decode cX9_berg 92 = .ok (.aload_n 0, 1) := by decide +kernel
theorem dX9_berg_93 : decode cX9_berg 93 = .ok (.dup, 1) := by decide +kernel
theorem dX9_berg_94 : decode cX9_berg 94 = .ok (.getfield 91, 3) := by decide +kernel
theorem dX9_berg_97 : decode cX9_berg 97 = .ok (.iconst 1, 1) := by decide +kernel
theorem dX9_berg_98 : decode cX9_berg 98 = .ok (.iadd, 1) := by decide +kernel
theorem dX9_berg_99 : decode cX9_berg 99 = .ok (.putfield 91, 3) := by decide +kernel
theorem dX9_berg_102 : decode cX9_berg 102 = .ok (.aload_n 0, 1) := by decide +kernel
theorem dX9_berg_103 : decode cX9_berg 103 = .ok (.getfield 91, 3) := by decide +kernel
theorem dX9_berg_106 : decode cX9_berg 106 = .ok (.iconst 1, 1) := by decide +kernel
theorem dX9_berg_107 : decode cX9_berg 107 = .ok (.isub, 1) := by decide +kernel
theorem dX9_berg_108 : decode cX9_berg 108 = .ok (.ireturn, 1) := by decide +kernel
theorem cw_X9_berg : Cw yX9_berg cX9_berg 6 (some .int) 5 := ⟨aw_642, aw_19, ⟨by decide, by decide⟩, by decide +kernel, by decide⟩
theorem kc_9_119 {K : KT} {cc : ByteArray} {nL d pc : Nat} {ret : Option FieldType} {L : List (Option Value)} {st : List Value} {σ : Sg} (C : Cx K layC cc RX9 nL d ret)  {a0 : Int32}  {p : Int32 × Sg} (hd : decode cc pc = .ok (.invokestatic 119, 3)) (e : fX0_isKind a0 σ = some p) (hdd : 1 + 1 ≤ d) (hLn : L.length = nL) (hr : (st.map fun v => v.category).sum ≤ 8) (k : G K (pc + 3) L (.int p.1 :: st) (Wd K layC p.2)) : G K pc L (.int a0 :: st) (Wd K layC σ) :=
  g_callS C (As := [.int a0]) (rest := st) hd (ct_X0_isKind e) cw_X0_isKind (Or.inl aw_434) aw_435 rfl rfl rfl hdd hLn hr (fun v τ q => by obtain ⟨rfl, rfl⟩ := q; exact k)
theorem kc_9_122 {K : KT} {cc : ByteArray} {nL d pc : Nat} {ret : Option FieldType} {L : List (Option Value)} {st : List Value} {σ : Sg} (C : Cx K layC cc RX9 nL d ret)  {a0 : Int32}  {p : Int32 × Sg} (hd : decode cc pc = .ok (.invokevirtual 122, 3)) (e : fX7_hasWarmth a0 σ = some p) (hdd : 2 + 1 ≤ d) (hLn : L.length = nL) (hr : (st.map fun v => v.category).sum ≤ 8) (k : G K (pc + 3) L (.int p.1 :: st) (Wd K layC p.2)) : G K pc L (.int a0 :: .ref (kad K 4) :: st) (Wd K layC σ) :=
  g_callV C (As := [.int a0]) (rest := st) (o := 4) (ci := 7) hd (ct_X7_hasWarmth e) cw_X7_hasWarmth (Or.inl aw_643) aw_644 aw_645 rfl rfl rfl hdd hLn rfl rfl hr (fun v τ q => by obtain ⟨rfl, rfl⟩ := q; exact k)
theorem kc_9_125 {K : KT} {cc : ByteArray} {nL d pc : Nat} {ret : Option FieldType} {L : List (Option Value)} {st : List Value} {σ : Sg} (C : Cx K layC cc RX9 nL d ret)  {a0 : Int32}  {p : Int32 × Sg} (hd : decode cc pc = .ok (.invokestatic 125, 3)) (e : fX9_isSize a0 σ = some p) (hdd : 1 + 1 ≤ d) (hLn : L.length = nL) (hr : (st.map fun v => v.category).sum ≤ 8) (k : G K (pc + 3) L (.int p.1 :: st) (Wd K layC p.2)) : G K pc L (.int a0 :: st) (Wd K layC σ) :=
  g_callS C (As := [.int a0]) (rest := st) hd (ct_X9_isSize e) cw_X9_isSize (Or.inl aw_449) aw_450 rfl rfl rfl hdd hLn hr (fun v τ q => by obtain ⟨rfl, rfl⟩ := q; exact k)
theorem kc_9_128 {K : KT} {cc : ByteArray} {nL d pc : Nat} {ret : Option FieldType} {L : List (Option Value)} {st : List Value} {σ : Sg} (C : Cx K layC cc RX9 nL d ret)  {a0 : Int32}  {p : Int32 × Sg} (hd : decode cc pc = .ok (.invokestatic 128, 3)) (e : fX9_isFoot a0 σ = some p) (hdd : 1 + 1 ≤ d) (hLn : L.length = nL) (hr : (st.map fun v => v.category).sum ≤ 8) (k : G K (pc + 3) L (.int p.1 :: st) (Wd K layC p.2)) : G K pc L (.int a0 :: st) (Wd K layC σ) :=
  g_callS C (As := [.int a0]) (rest := st) hd (ct_X9_isFoot e) cw_X9_isFoot (Or.inl aw_452) aw_453 rfl rfl rfl hdd hLn hr (fun v τ q => by obtain ⟨rfl, rfl⟩ := q; exact k)
theorem kc_9_131 {K : KT} {cc : ByteArray} {nL d pc : Nat} {ret : Option FieldType} {L : List (Option Value)} {st : List Value} {σ : Sg} (C : Cx K layC cc RX9 nL d ret)  {a0 : Int32} {a1 : Int32}  {p : Int32 × Sg} (hd : decode cc pc = .ok (.invokestatic 131, 3)) (e : fX0_mayBreak a0 a1 σ = some p) (hdd : 1 + 1 ≤ d) (hLn : L.length = nL) (hr : (st.map fun v => v.category).sum ≤ 8) (k : G K (pc + 3) L (.int p.1 :: st) (Wd K layC p.2)) : G K pc L (.int a1 :: .int a0 :: st) (Wd K layC σ) :=
  g_callS C (As := [.int a0, .int a1]) (rest := st) hd (ct_X0_mayBreak e) cw_X0_mayBreak (Or.inl aw_648) aw_649 rfl rfl rfl hdd hLn hr (fun v τ q => by obtain ⟨rfl, rfl⟩ := q; exact k)
theorem gf_9_91 {K : KT} {cc : ByteArray} {nL d pc : Nat} {ret : Option FieldType} {L : List (Option Value)} {st : List Value} {σ : Sg} (C : Cx K layC cc RX9 nL d ret)  (hd : decode cc pc = .ok (.getfield 91, 3)) (k : G K (pc + 3) L (.int (rI σ 0 9) :: st) (Wd K layC σ)) : G K pc L (.ref (kad K 0) :: st) (Wd K layC σ) := g_get C (o := 0) (ci := 9) (k := 9) hd rfl rfl rfl (by decide) (Or.inl aw_316) inA9 rfl k
theorem gf_9_37 {K : KT} {cc : ByteArray} {nL d pc : Nat} {ret : Option FieldType} {L : List (Option Value)} {st : List Value} {σ : Sg} (C : Cx K layC cc RX9 nL d ret)  (hd : decode cc pc = .ok (.getfield 37, 3)) (k : G K (pc + 3) L (.ref (kad K 48) :: st) (Wd K layC σ)) : G K pc L (.ref (kad K 0) :: st) (Wd K layC σ) := g_get C (o := 0) (ci := 9) (k := 4) hd rfl rfl rfl (by decide) (Or.inl aw_311) inA9 rfl k
theorem kc_9_135 {K : KT} {cc : ByteArray} {nL d pc : Nat} {ret : Option FieldType} {L : List (Option Value)} {st : List Value} {σ : Sg} (C : Cx K layC cc RX9 nL d ret)  {o0 : Nat} {a0 : Int32} {a1 : Int32} {a2 : Int32} {a3 : Int32} {a4 : Int32} (hY0 : layC[o0]? = some (0, 0, slX0)) {p : Sg} (hd : decode cc pc = .ok (.invokevirtual 135, 3)) (e : fX0_become o0 a0 a1 a2 a3 a4 σ = some p) (hdd : 1 + 1 ≤ d) (hLn : L.length = nL) (hr : (st.map fun v => v.category).sum ≤ 8) (k : G K (pc + 3) L (st) (Wd K layC p)) : G K pc L (.int a4 :: .int a3 :: .int a2 :: .int a1 :: .int a0 :: .ref (kad K o0) :: st) (Wd K layC σ) :=
  g_callV C (As := [.int a0, .int a1, .int a2, .int a3, .int a4]) (rest := st) (o := o0) (ci := 0) hd (ct_X0_become hY0 e) cw_X0_become (Or.inl aw_651) aw_652 aw_653 rfl rfl rfl hdd hLn hY0 rfl hr (fun v τ q => by obtain ⟨rfl, rfl⟩ := q; exact k)
theorem gf_9_58 {K : KT} {cc : ByteArray} {nL d pc : Nat} {ret : Option FieldType} {L : List (Option Value)} {st : List Value} {σ : Sg} (C : Cx K layC cc RX9 nL d ret)  (hd : decode cc pc = .ok (.getfield 58, 3)) (k : G K (pc + 3) L (.ref (kad K 58) :: st) (Wd K layC σ)) : G K pc L (.ref (kad K 0) :: st) (Wd K layC σ) := g_get C (o := 0) (ci := 9) (k := 7) hd rfl rfl rfl (by decide) (Or.inl aw_314) inA9 rfl k
theorem kc_9_139 {K : KT} {cc : ByteArray} {nL d pc : Nat} {ret : Option FieldType} {L : List (Option Value)} {st : List Value} {σ : Sg} (C : Cx K layC cc RX9 nL d ret)  {a0 : Int32}  {p : Sg} (hd : decode cc pc = .ok (.invokevirtual 139, 3)) (e : fX3_forget a0 σ = some p) (hdd : 1 + 1 ≤ d) (hLn : L.length = nL) (hr : (st.map fun v => v.category).sum ≤ 8) (k : G K (pc + 3) L (st) (Wd K layC p)) : G K pc L (.int a0 :: .ref (kad K 58) :: st) (Wd K layC σ) :=
  g_callV C (As := [.int a0]) (rest := st) (o := 58) (ci := 3) hd (ct_X3_forget e) cw_X3_forget (Or.inl aw_455) aw_456 aw_457 rfl rfl rfl hdd hLn rfl rfl hr (fun v τ q => by obtain ⟨rfl, rfl⟩ := q; exact k)
def fX9_berg_b0 (x1 : Int32) (x2 : Int32) (x3 : Int32) (x4 : Int32) (x5 : Int32) (σ : Sg) : Option (Int32 × Sg) :=
  Option.bind (fX0_isKind x1 σ) fun p1 => (if p1.1 = 0 then (some ((-102 : Int32), p1.2)) else (Option.bind (fX7_hasWarmth x2 p1.2) fun p3 => (if p3.1 = 0 then (some ((-101 : Int32), p3.2)) else (Option.bind (fX9_isSize x3 p3.2) fun p5 => (if p5.1 = 0 then (some ((-102 : Int32), p5.2)) else (Option.bind (fX9_isFoot x4 p5.2) fun p7 => (if p7.1 = 0 then (some ((-102 : Int32), p7.2)) else (Option.bind (fX0_mayBreak x1 x5 p7.2) fun p9 => (if p9.1 = 0 then (some ((-102 : Int32), p9.2)) else (if (rI p9.2 0 9) < (5 : Int32) then (if inb (rI p9.2 0 9) 5 = true then (Option.bind (fX0_become (76 + ((rI p9.2 0 9)).toNatClampNeg) x1 x2 x3 x4 x5 p9.2) fun p13 => (Option.bind (fX3_forget (rI p13 0 9) p13) fun p15 => (some (((rI (wI p15 0 9 ((rI p15 0 9) + (1 : Int32))) 0 9) - (1 : Int32)), (wI p15 0 9 ((rI p15 0 9) + (1 : Int32))))))) else none) else (some ((-104 : Int32), p9.2))))))))))))
set_option maxRecDepth 4000 in
theorem bX9_berg_b0 {K : KT} {x1 : Int32} {x2 : Int32} {x3 : Int32} {x4 : Int32} {x5 : Int32} {σ : Sg} {o : Int32 × Sg} (C : Cx K layC cX9_berg RX9 6 (3) (some .int))  (hQ : Rk K layC (okI o)) (h : fX9_berg_b0 x1 x2 x3 x4 x5 σ = some o) : G K 0 [some (.ref (kad K 0)), some (.int x1), some (.int x2), some (.int x3), some (.int x4), some (.int x5)] [] (Wd K layC σ) := by
  unfold fX9_berg_b0 at h
  refine g_iload_n C.c dX9_berg_0 rfl (i := 1) rfl ?_
  obtain ⟨p1, e2, h⟩ := Option.bind_eq_some_iff.mp h
  refine kc_9_119 C dX9_berg_1 e2 (Nat.le_of_ble_eq_true rfl) rfl (Nat.le_of_ble_eq_true rfl) ?_
  refine g_if_ne C.c (tgt := 10) dX9_berg_4 (by decide) (fun c => ?_) (fun c => ?_)
  · replace h := ite_f c h
    refine g_aload_n C.c dX9_berg_10 rfl (i := 0) rfl ?_
    refine gf_9_27 C dX9_berg_11 ?_
    refine g_iload_n C.c dX9_berg_14 rfl (i := 2) rfl ?_
    obtain ⟨p3, e4, h⟩ := Option.bind_eq_some_iff.mp h
    refine kc_9_122 C dX9_berg_15 e4 (Nat.le_of_ble_eq_true rfl) rfl (Nat.le_of_ble_eq_true rfl) ?_
    refine g_if_ne C.c (tgt := 24) dX9_berg_18 (by decide) (fun c => ?_) (fun c => ?_)
    · replace h := ite_f c h
      refine g_iload_n C.c dX9_berg_24 rfl (i := 3) rfl ?_
      obtain ⟨p5, e6, h⟩ := Option.bind_eq_some_iff.mp h
      refine kc_9_125 C dX9_berg_25 e6 (Nat.le_of_ble_eq_true rfl) rfl (Nat.le_of_ble_eq_true rfl) ?_
      refine g_if_eq C.c (tgt := 48) dX9_berg_28 (by decide) (fun c => ?_) (fun c => ?_)
      · replace h := ite_t c h
        refine g_bipush C.c dX9_berg_48 (v := (-102 : Int32)) (by decide) ?_
        obtain rfl := Option.some.inj h
        exact g_iret C hQ dX9_berg_50 rfl ⟨rfl, rfl⟩
      · replace h := ite_f c h
        refine g_iload C.c dX9_berg_31 (i := 4) rfl ?_
        obtain ⟨p7, e8, h⟩ := Option.bind_eq_some_iff.mp h
        refine kc_9_128 C dX9_berg_33 e8 (Nat.le_of_ble_eq_true rfl) rfl (Nat.le_of_ble_eq_true rfl) ?_
        refine g_if_eq C.c (tgt := 48) dX9_berg_36 (by decide) (fun c => ?_) (fun c => ?_)
        · replace h := ite_t c h
          refine g_bipush C.c dX9_berg_48 (v := (-102 : Int32)) (by decide) ?_
          obtain rfl := Option.some.inj h
          exact g_iret C hQ dX9_berg_50 rfl ⟨rfl, rfl⟩
        · replace h := ite_f c h
          refine g_iload_n C.c dX9_berg_39 rfl (i := 1) rfl ?_
          refine g_iload C.c dX9_berg_40 (i := 5) rfl ?_
          obtain ⟨p9, e10, h⟩ := Option.bind_eq_some_iff.mp h
          refine kc_9_131 C dX9_berg_42 e10 (Nat.le_of_ble_eq_true rfl) rfl (Nat.le_of_ble_eq_true rfl) ?_
          refine g_if_ne C.c (tgt := 51) dX9_berg_45 (by decide) (fun c => ?_) (fun c => ?_)
          · replace h := ite_f c h
            refine g_aload_n C.c dX9_berg_51 rfl (i := 0) rfl ?_
            refine gf_9_91 C dX9_berg_52 ?_
            refine g_iconst C.c dX9_berg_55 (v := (5 : Int32)) (by decide) ?_
            refine g_icmp_lt C.c (tgt := 62) dX9_berg_56 (by decide) (fun c => ?_) (fun c => ?_)
            · replace h := ite_t c h
              refine g_aload_n C.c dX9_berg_62 rfl (i := 0) rfl ?_
              refine gf_9_37 C dX9_berg_63 ?_
              refine g_aload_n C.c dX9_berg_66 rfl (i := 0) rfl ?_
              refine gf_9_91 C dX9_berg_67 ?_
              obtain ⟨c11, h⟩ := chk h
              have hs12 := rw_48 (inb_lt c11)
              refine g_aald4 C (b := 76) dX9_berg_70 rfl c11 rfl rfl ?_
              refine g_iload_n C.c dX9_berg_71 rfl (i := 1) rfl ?_
              refine g_iload_n C.c dX9_berg_72 rfl (i := 2) rfl ?_
              refine g_iload_n C.c dX9_berg_73 rfl (i := 3) rfl ?_
              refine g_iload C.c dX9_berg_74 (i := 4) rfl ?_
              refine g_iload C.c dX9_berg_76 (i := 5) rfl ?_
              obtain ⟨p13, e14, h⟩ := Option.bind_eq_some_iff.mp h
              refine kc_9_135 C hs12 dX9_berg_78 e14 (Nat.le_of_ble_eq_true rfl) rfl (Nat.le_of_ble_eq_true rfl) ?_
              refine g_aload_n C.c dX9_berg_81 rfl (i := 0) rfl ?_
              refine gf_9_58 C dX9_berg_82 ?_
              refine g_aload_n C.c dX9_berg_85 rfl (i := 0) rfl ?_
              refine gf_9_91 C dX9_berg_86 ?_
              obtain ⟨p15, e16, h⟩ := Option.bind_eq_some_iff.mp h
              refine kc_9_139 C dX9_berg_89 e16 (Nat.le_of_ble_eq_true rfl) rfl (Nat.le_of_ble_eq_true rfl) ?_
              refine g_aload_n C.c dX9_berg_92 rfl (i := 0) rfl ?_
              refine g_dup C.c dX9_berg_93 rfl ?_
              refine gf_9_91 C dX9_berg_94 ?_
              refine g_iconst C.c dX9_berg_97 (v := (1 : Int32)) (by decide) ?_
              refine g_iadd C.c dX9_berg_98 ?_
              refine pf_9_91 C dX9_berg_99 ?_
              refine g_aload_n C.c dX9_berg_102 rfl (i := 0) rfl ?_
              refine gf_9_91 C dX9_berg_103 ?_
              refine g_iconst C.c dX9_berg_106 (v := (1 : Int32)) (by decide) ?_
              refine g_isub C.c dX9_berg_107 ?_
              obtain rfl := Option.some.inj h
              exact g_iret C hQ dX9_berg_108 rfl ⟨rfl, rfl⟩
            · replace h := ite_f c h
              refine g_bipush C.c dX9_berg_59 (v := (-104 : Int32)) (by decide) ?_
              obtain rfl := Option.some.inj h
              exact g_iret C hQ dX9_berg_61 rfl ⟨rfl, rfl⟩
          · replace h := ite_t c h
            refine g_bipush C.c dX9_berg_48 (v := (-102 : Int32)) (by decide) ?_
            obtain rfl := Option.some.inj h
            exact g_iret C hQ dX9_berg_50 rfl ⟨rfl, rfl⟩
    · replace h := ite_t c h
      refine g_bipush C.c dX9_berg_21 (v := (-101 : Int32)) (by decide) ?_
      obtain rfl := Option.some.inj h
      exact g_iret C hQ dX9_berg_23 rfl ⟨rfl, rfl⟩
  · replace h := ite_t c h
    refine g_bipush C.c dX9_berg_7 (v := (-102 : Int32)) (by decide) ?_
    obtain rfl := Option.some.inj h
    exact g_iret C hQ dX9_berg_9 rfl ⟨rfl, rfl⟩
def fX9_berg (a0 : Int32) (a1 : Int32) (a2 : Int32) (a3 : Int32) (a4 : Int32) (σ : Sg) : Option (Int32 × Sg) := fX9_berg_b0 a0 a1 a2 a3 a4 σ
theorem ct_X9_berg {a0 : Int32} {a1 : Int32} {a2 : Int32} {a3 : Int32} {a4 : Int32} {σ : Sg} {p : Int32 × Sg} (h : fX9_berg a0 a1 a2 a3 a4 σ = some p) : Ct layC yX9_berg cX9_berg 6 (some .int) 3 (fun ad => [.ref (ad 0), .int a0, .int a1, .int a2, .int a3, .int a4]) σ (okI p) :=
 ct_of (L0 := fun ad => [some (.ref (ad 0)), some (.int a0), some (.int a1), some (.int a2), some (.int a3), some (.int a4)]) (by decide) (fun _ => Nat.le_of_ble_eq_true rfl) (fun _ => rfl) (fun K C hQ => g_mask [true, true, true, true, true, true] rfl (bX9_berg_b0 C hQ h))
-- X9_isBerg
theorem dX9_isBerg_0 : decode cX9_isBerg 0 = .ok (.iload_n 1, 1) := by decide +kernel
theorem dX9_isBerg_1 : decode cX9_isBerg 1 = .ok (.ifCond .lt 15, 3) := by decide +kernel
theorem dX9_isBerg_4 : decode cX9_isBerg 4 = .ok (.iload_n 1, 1) := by decide +kernel
theorem dX9_isBerg_5 : decode cX9_isBerg 5 = .ok (.aload_n 0, 1) := by decide +kernel
theorem dX9_isBerg_6 : decode cX9_isBerg 6 = .ok (.getfield 91, 3) := by decide +kernel
theorem dX9_isBerg_9 : decode cX9_isBerg 9 = .ok (.if_icmp .ge 7, 3) := by decide +kernel
theorem dX9_isBerg_12 : decode cX9_isBerg 12 = .ok (.iconst 1, 1) := by decide +kernel
theorem dX9_isBerg_13 : decode cX9_isBerg 13 = .ok (.goto 4, 3) := by decide +kernel
theorem dX9_isBerg_16 : decode cX9_isBerg 16 = .ok (.iconst 0, 1) := by decide +kernel
theorem dX9_isBerg_17 : decode cX9_isBerg 17 = .ok (.ireturn, 1) := by decide +kernel
theorem cw_X9_isBerg : Cw yX9_isBerg cX9_isBerg 2 (some .boolean) 1 := ⟨aw_433, aw_19, ⟨by decide, by decide⟩, by decide +kernel, by decide⟩
def fX9_isBerg_b0 (x1 : Int32) (σ : Sg) : Option (Int32 × Sg) :=
  if x1 < 0 then (some ((0 : Int32), σ)) else (if (rI σ 0 9) ≤ x1 then (some ((0 : Int32), σ)) else (some ((1 : Int32), σ)))
set_option maxRecDepth 4000 in
theorem bX9_isBerg_b0 {K : KT} {x1 : Int32} {σ : Sg} {o : Int32 × Sg} (C : Cx K layC cX9_isBerg RX9 2 (1) (some .boolean))  (hQ : Rk K layC (okI o)) (h : fX9_isBerg_b0 x1 σ = some o) : G K 0 [some (.ref (kad K 0)), some (.int x1)] [] (Wd K layC σ) := by
  unfold fX9_isBerg_b0 at h
  refine g_iload_n C.c dX9_isBerg_0 rfl (i := 1) rfl ?_
  refine g_if_lt C.c (tgt := 16) dX9_isBerg_1 (by decide) (fun c => ?_) (fun c => ?_)
  · replace h := ite_t c h
    refine g_iconst C.c dX9_isBerg_16 (v := (0 : Int32)) (by decide) ?_
    obtain rfl := Option.some.inj h
    exact g_iret C hQ dX9_isBerg_17 rfl ⟨rfl, rfl⟩
  · replace h := ite_f c h
    refine g_iload_n C.c dX9_isBerg_4 rfl (i := 1) rfl ?_
    refine g_aload_n C.c dX9_isBerg_5 rfl (i := 0) rfl ?_
    refine gf_9_91 C dX9_isBerg_6 ?_
    refine g_icmp_ge C.c (tgt := 16) dX9_isBerg_9 (by decide) (fun c => ?_) (fun c => ?_)
    · replace h := ite_t c h
      refine g_iconst C.c dX9_isBerg_16 (v := (0 : Int32)) (by decide) ?_
      obtain rfl := Option.some.inj h
      exact g_iret C hQ dX9_isBerg_17 rfl ⟨rfl, rfl⟩
    · replace h := ite_f c h
      refine g_iconst C.c dX9_isBerg_12 (v := (1 : Int32)) (by decide) ?_
      refine g_goto C.c (tgt := 17) dX9_isBerg_13 (by decide) ?_
      obtain rfl := Option.some.inj h
      exact g_iret C hQ dX9_isBerg_17 rfl ⟨rfl, rfl⟩
def fX9_isBerg (a0 : Int32) (σ : Sg) : Option (Int32 × Sg) := fX9_isBerg_b0 a0 σ
theorem ct_X9_isBerg {a0 : Int32} {σ : Sg} {p : Int32 × Sg} (h : fX9_isBerg a0 σ = some p) : Ct layC yX9_isBerg cX9_isBerg 2 (some .boolean) 1 (fun ad => [.ref (ad 0), .int a0]) σ (okI p) :=
 ct_of (L0 := fun ad => [some (.ref (ad 0)), some (.int a0)]) (by decide) (fun _ => Nat.le_of_ble_eq_true rfl) (fun _ => rfl) (fun K C hQ => g_mask [true, true] rfl (bX9_isBerg_b0 C hQ h))
-- X9_as
theorem dX9_as_0 : decode cX9_as 0 = .ok (.aload_n 0, 1) := by decide +kernel
theorem dX9_as_1 : decode cX9_as 1 = .ok (.iload_n 1, 1) := by decide +kernel
theorem dX9_as_2 : decode cX9_as 2 = .ok (.invokevirtual 142, 3) := by decide +kernel
theorem dX9_as_5 : decode cX9_as 5 = .ok (.ifCond .ne 6, 3) := by decide +kernel
theorem dX9_as_8 : decode cX9_as 8 = .ok (.bipush (-101), 2) := by decide +kernel
theorem dX9_as_10 : decode cX9_as 10 = .ok (.ireturn, 1) := by decide +kernel
theorem dX9_as_11 : decode cX9_as 11 = .ok (.iload_n 2, 1) := by decide +kernel
theorem dX9_as_12 : decode cX9_as 12 = .ok (.invokestatic 119, 3) := by decide +kernel
theorem dX9_as_15 : decode cX9_as 15 = .ok (.ifCond .ne 6, 3) := by decide +kernel
theorem dX9_as_18 : decode cX9_as 18 = .ok (.bipush (-102), 2) := by decide +kernel
theorem dX9_as_20 : decode cX9_as 20 = .ok (.ireturn, 1) := by decide +kernel
theorem dX9_as_21 : decode cX9_as 21 = .ok (.aload_n 0, 1) := by decide +kernel
theorem dX9_as_22 : decode cX9_as 22 = .ok (.getfield 37, 3) := by decide +kernel
theorem dX9_as_25 : decode cX9_as 25 = .ok (.iload_n 1, 1) := by decide +kernel
theorem dX9_as_26 : decode cX9_as 26 = .ok (.aaload, 1) := by decide +kernel
theorem dX9_as_27 : decode cX9_as 27 = .ok (.iload_n 2, 1) := by decide +kernel
theorem dX9_as_28 : decode cX9_as 28 = .ok (.invokevirtual 145, 3) := by decide +kernel
theorem dX9_as_31 : decode cX9_as 31 = .ok (.ifCond .eq 7, 3) := by decide +kernel
theorem dX9_as_34 : decode cX9_as 34 = .ok (.iload_n 1, 1) := by decide +kernel
theorem dX9_as_35 : decode cX9_as 35 = .ok (.goto 4, 3) := by decide +kernel
theorem dX9_as_38 : decode cX9_as 38 = .ok (.iconst (-1), 1) := by decide +kernel
theorem dX9_as_39 : decode cX9_as 39 = .ok (.ireturn, 1) := by decide +kernel
theorem cw_X9_as : Cw yX9_as cX9_as 3 (some .int) 2 := ⟨aw_429, aw_19, ⟨by decide, by decide⟩, by decide +kernel, by decide⟩
theorem kc_9_142 {K : KT} {cc : ByteArray} {nL d pc : Nat} {ret : Option FieldType} {L : List (Option Value)} {st : List Value} {σ : Sg} (C : Cx K layC cc RX9 nL d ret)  {a0 : Int32}  {p : Int32 × Sg} (hd : decode cc pc = .ok (.invokevirtual 142, 3)) (e : fX9_isBerg a0 σ = some p) (hdd : 1 + 1 ≤ d) (hLn : L.length = nL) (hr : (st.map fun v => v.category).sum ≤ 8) (k : G K (pc + 3) L (.int p.1 :: st) (Wd K layC p.2)) : G K pc L (.int a0 :: .ref (kad K 0) :: st) (Wd K layC σ) :=
  g_callV C (As := [.int a0]) (rest := st) (o := 0) (ci := 9) hd (ct_X9_isBerg e) cw_X9_isBerg (Or.inl aw_430) aw_432 aw_7 rfl rfl rfl hdd hLn rfl rfl hr (fun v τ q => by obtain ⟨rfl, rfl⟩ := q; exact k)
theorem kc_9_145 {K : KT} {cc : ByteArray} {nL d pc : Nat} {ret : Option FieldType} {L : List (Option Value)} {st : List Value} {σ : Sg} (C : Cx K layC cc RX9 nL d ret)  {o0 : Nat} {a0 : Int32} (hY0 : layC[o0]? = some (0, 0, slX0)) {p : Int32 × Sg} (hd : decode cc pc = .ok (.invokevirtual 145, 3)) (e : fX0_isA o0 a0 σ = some p) (hdd : 1 + 1 ≤ d) (hLn : L.length = nL) (hr : (st.map fun v => v.category).sum ≤ 8) (k : G K (pc + 3) L (.int p.1 :: st) (Wd K layC p.2)) : G K pc L (.int a0 :: .ref (kad K o0) :: st) (Wd K layC σ) :=
  g_callV C (As := [.int a0]) (rest := st) (o := o0) (ci := 0) hd (ct_X0_isA hY0 e) cw_X0_isA (Or.inl aw_437) aw_438 aw_439 rfl rfl rfl hdd hLn hY0 rfl hr (fun v τ q => by obtain ⟨rfl, rfl⟩ := q; exact k)
def fX9_as_b0 (x1 : Int32) (x2 : Int32) (σ : Sg) : Option (Int32 × Sg) :=
  Option.bind (fX9_isBerg x1 σ) fun p1 => (if p1.1 = 0 then (some ((-101 : Int32), p1.2)) else (Option.bind (fX0_isKind x2 p1.2) fun p3 => (if p3.1 = 0 then (some ((-102 : Int32), p3.2)) else (if inb x1 5 = true then (Option.bind (fX0_isA (76 + (x1).toNatClampNeg) x2 p3.2) fun p7 => (if p7.1 = 0 then (some ((-1 : Int32), p7.2)) else (some (x1, p7.2)))) else none))))
set_option maxRecDepth 4000 in
theorem bX9_as_b0 {K : KT} {x1 : Int32} {x2 : Int32} {σ : Sg} {o : Int32 × Sg} (C : Cx K layC cX9_as RX9 3 (2) (some .int))  (hQ : Rk K layC (okI o)) (h : fX9_as_b0 x1 x2 σ = some o) : G K 0 [some (.ref (kad K 0)), some (.int x1), some (.int x2)] [] (Wd K layC σ) := by
  unfold fX9_as_b0 at h
  refine g_aload_n C.c dX9_as_0 rfl (i := 0) rfl ?_
  refine g_iload_n C.c dX9_as_1 rfl (i := 1) rfl ?_
  obtain ⟨p1, e2, h⟩ := Option.bind_eq_some_iff.mp h
  refine kc_9_142 C dX9_as_2 e2 (Nat.le_of_ble_eq_true rfl) rfl (Nat.le_of_ble_eq_true rfl) ?_
  refine g_if_ne C.c (tgt := 11) dX9_as_5 (by decide) (fun c => ?_) (fun c => ?_)
  · replace h := ite_f c h
    refine g_iload_n C.c dX9_as_11 rfl (i := 2) rfl ?_
    obtain ⟨p3, e4, h⟩ := Option.bind_eq_some_iff.mp h
    refine kc_9_119 C dX9_as_12 e4 (Nat.le_of_ble_eq_true rfl) rfl (Nat.le_of_ble_eq_true rfl) ?_
    refine g_if_ne C.c (tgt := 21) dX9_as_15 (by decide) (fun c => ?_) (fun c => ?_)
    · replace h := ite_f c h
      refine g_aload_n C.c dX9_as_21 rfl (i := 0) rfl ?_
      refine gf_9_37 C dX9_as_22 ?_
      refine g_iload_n C.c dX9_as_25 rfl (i := 1) rfl ?_
      obtain ⟨c5, h⟩ := chk h
      have hs6 := rw_48 (inb_lt c5)
      refine g_aald4 C (b := 76) dX9_as_26 rfl c5 rfl rfl ?_
      refine g_iload_n C.c dX9_as_27 rfl (i := 2) rfl ?_
      obtain ⟨p7, e8, h⟩ := Option.bind_eq_some_iff.mp h
      refine kc_9_145 C hs6 dX9_as_28 e8 (Nat.le_of_ble_eq_true rfl) rfl (Nat.le_of_ble_eq_true rfl) ?_
      refine g_if_eq C.c (tgt := 38) dX9_as_31 (by decide) (fun c => ?_) (fun c => ?_)
      · replace h := ite_t c h
        refine g_iconst C.c dX9_as_38 (v := (-1 : Int32)) (by decide) ?_
        obtain rfl := Option.some.inj h
        exact g_iret C hQ dX9_as_39 rfl ⟨rfl, rfl⟩
      · replace h := ite_f c h
        refine g_iload_n C.c dX9_as_34 rfl (i := 1) rfl ?_
        refine g_goto C.c (tgt := 39) dX9_as_35 (by decide) ?_
        obtain rfl := Option.some.inj h
        exact g_iret C hQ dX9_as_39 rfl ⟨rfl, rfl⟩
    · replace h := ite_t c h
      refine g_bipush C.c dX9_as_18 (v := (-102 : Int32)) (by decide) ?_
      obtain rfl := Option.some.inj h
      exact g_iret C hQ dX9_as_20 rfl ⟨rfl, rfl⟩
  · replace h := ite_t c h
    refine g_bipush C.c dX9_as_8 (v := (-101 : Int32)) (by decide) ?_
    obtain rfl := Option.some.inj h
    exact g_iret C hQ dX9_as_10 rfl ⟨rfl, rfl⟩
def fX9_as (a0 : Int32) (a1 : Int32) (σ : Sg) : Option (Int32 × Sg) := fX9_as_b0 a0 a1 σ
theorem ct_X9_as {a0 : Int32} {a1 : Int32} {σ : Sg} {p : Int32 × Sg} (h : fX9_as a0 a1 σ = some p) : Ct layC yX9_as cX9_as 3 (some .int) 2 (fun ad => [.ref (ad 0), .int a0, .int a1]) σ (okI p) :=
 ct_of (L0 := fun ad => [some (.ref (ad 0)), some (.int a0), some (.int a1)]) (by decide) (fun _ => Nat.le_of_ble_eq_true rfl) (fun _ => rfl) (fun K C hQ => g_mask [true, true, true] rfl (bX9_as_b0 C hQ h))
-- X9_about
theorem dX9_about_0 : decode cX9_about 0 = .ok (.aload_n 0, 1) := by decide +kernel
theorem dX9_about_1 : decode cX9_about 1 = .ok (.iload_n 1, 1) := by decide +kernel
theorem dX9_about_2 : decode cX9_about 2 = .ok (.invokevirtual 142, 3) := by decide +kernel
theorem dX9_about_5 : decode cX9_about 5 = .ok (.ifCond .ne 6, 3) := by decide +kernel
theorem dX9_about_8 : decode cX9_about 8 = .ok (.bipush (-101), 2) := by decide +kernel
theorem dX9_about_10 : decode cX9_about 10 = .ok (.ireturn, 1) := by decide +kernel
theorem dX9_about_11 : decode cX9_about 11 = .ok (.iload_n 2, 1) := by decide +kernel
theorem dX9_about_12 : decode cX9_about 12 = .ok (.tableswitch 86 0 4 #[36, 46, 56, 66, 76], 36) := by decide +kernel
theorem dX9_about_48 : decode cX9_about 48 = .ok (.aload_n 0, 1) := by decide +kernel
theorem dX9_about_49 : decode cX9_about 49 = .ok (.getfield 37, 3) := by decide +kernel
theorem dX9_about_52 : decode cX9_about 52 = .ok (.iload_n 1, 1) := by decide +kernel
theorem dX9_about_53 : decode cX9_about 53 = .ok (.aaload, 1) := by decide +kernel
theorem dX9_about_54 : decode cX9_about 54 = .ok (.getfield 148, 3) := by decide +kernel
theorem dX9_about_57 : decode cX9_about 57 = .ok (.ireturn, 1) := by decide +kernel
theorem dX9_about_58 : decode cX9_about 58 = .ok (.aload_n 0, 1) := by decide +kernel
theorem dX9_about_59 : decode cX9_about 59 = .ok (.getfield 37, 3) := by decide +kernel
theorem dX9_about_62 : decode cX9_about 62 = .ok (.iload_n 1, 1) := by decide +kernel
theorem dX9_about_63 : decode cX9_about 63 = .ok (.aaload, 1) := by decide +kernel
theorem dX9_about_64 : decode cX9_about 64 = .ok (.getfield 151, 3) := by decide +kernel
theorem dX9_about_67 : decode cX9_about 67 = .ok (.ireturn, 1) := by decide +kernel
theorem dX9_about_68 : decode cX9_about 68 = .ok (.aload_n 0, 1) := by decide +kernel
theorem dX9_about_69 : decode cX9_about 69 = .ok (.getfield 37, 3) := by decide +kernel
theorem dX9_about_72 : decode cX9_about 72 = .ok (.iload_n 1, 1) := by decide +kernel
theorem dX9_about_73 : decode cX9_about 73 = .ok (.aaload, 1) := by decide +kernel
theorem dX9_about_74 : decode cX9_about 74 = .ok (.getfield 154, 3) := by decide +kernel
theorem dX9_about_77 : decode cX9_about 77 = .ok (.ireturn, 1) := by decide +kernel
theorem dX9_about_78 : decode cX9_about 78 = .ok (.aload_n 0, 1) := by decide +kernel
theorem dX9_about_79 : decode cX9_about 79 = .ok (.getfield 37, 3) := by decide +kernel
theorem dX9_about_82 : decode cX9_about 82 = .ok (.iload_n 1, 1) := by decide +kernel
theorem dX9_about_83 : decode cX9_about 83 = .ok (.aaload, 1) := by decide +kernel
theorem dX9_about_84 : decode cX9_about 84 = .ok (.getfield 157, 3) := by decide +kernel
theorem dX9_about_87 : decode cX9_about 87 = .ok (.ireturn, 1) := by decide +kernel
theorem dX9_about_88 : decode cX9_about 88 = .ok (.aload_n 0, 1) := by decide +kernel
theorem dX9_about_89 : decode cX9_about 89 = .ok (.getfield 37, 3) := by decide +kernel
theorem dX9_about_92 : decode cX9_about 92 = .ok (.iload_n 1, 1) := by decide +kernel
theorem dX9_about_93 : decode cX9_about 93 = .ok (.aaload, 1) := by decide +kernel
theorem dX9_about_94 : decode cX9_about 94 = .ok (.getfield 160, 3) := by decide +kernel
theorem dX9_about_97 : decode cX9_about 97 = .ok (.ireturn, 1) := by decide +kernel
theorem dX9_about_98 : decode cX9_about 98 = .ok (.bipush (-102), 2) := by decide +kernel
theorem dX9_about_100 : decode cX9_about 100 = .ok (.ireturn, 1) := by decide +kernel
theorem cw_X9_about : Cw yX9_about cX9_about 3 (some .int) 2 := ⟨aw_444, aw_19, ⟨by decide, by decide⟩, by decide +kernel, by decide⟩
theorem gf_9_148d {K : KT} {cc : ByteArray} {nL d pc : Nat} {ret : Option FieldType} {L : List (Option Value)} {st : List Value} {σ : Sg} (C : Cx K layC cc RX9 nL d ret) {o : Nat} (hY : layC[o]? = some (0, 0, slX0)) (hd : decode cc pc = .ok (.getfield 148, 3)) (k : G K (pc + 3) L (.int (rI σ o 0) :: st) (Wd K layC σ)) : G K pc L (.ref (kad K o) :: st) (Wd K layC σ) := g_get C (o := o) (ci := 0) (k := 0) hd hY rfl rfl (by decide) (Or.inr ⟨_, aw_135⟩) inA0 rfl k
theorem gf_9_151d {K : KT} {cc : ByteArray} {nL d pc : Nat} {ret : Option FieldType} {L : List (Option Value)} {st : List Value} {σ : Sg} (C : Cx K layC cc RX9 nL d ret) {o : Nat} (hY : layC[o]? = some (0, 0, slX0)) (hd : decode cc pc = .ok (.getfield 151, 3)) (k : G K (pc + 3) L (.int (rI σ o 1) :: st) (Wd K layC σ)) : G K pc L (.ref (kad K o) :: st) (Wd K layC σ) := g_get C (o := o) (ci := 0) (k := 1) hd hY rfl rfl (by decide) (Or.inr ⟨_, aw_138⟩) inA0 rfl k
theorem gf_9_154d {K : KT} {cc : ByteArray} {nL d pc : Nat} {ret : Option FieldType} {L : List (Option Value)} {st : List Value} {σ : Sg} (C : Cx K layC cc RX9 nL d ret) {o : Nat} (hY : layC[o]? = some (0, 0, slX0)) (hd : decode cc pc = .ok (.getfield 154, 3)) (k : G K (pc + 3) L (.int (rI σ o 2) :: st) (Wd K layC σ)) : G K pc L (.ref (kad K o) :: st) (Wd K layC σ) := g_get C (o := o) (ci := 0) (k := 2) hd hY rfl rfl (by decide) (Or.inr ⟨_, aw_140⟩) inA0 rfl k
theorem gf_9_157d {K : KT} {cc : ByteArray} {nL d pc : Nat} {ret : Option FieldType} {L : List (Option Value)} {st : List Value} {σ : Sg} (C : Cx K layC cc RX9 nL d ret) {o : Nat} (hY : layC[o]? = some (0, 0, slX0)) (hd : decode cc pc = .ok (.getfield 157, 3)) (k : G K (pc + 3) L (.int (rI σ o 3) :: st) (Wd K layC σ)) : G K pc L (.ref (kad K o) :: st) (Wd K layC σ) := g_get C (o := o) (ci := 0) (k := 3) hd hY rfl rfl (by decide) (Or.inr ⟨_, aw_143⟩) inA0 rfl k
theorem gf_9_160d {K : KT} {cc : ByteArray} {nL d pc : Nat} {ret : Option FieldType} {L : List (Option Value)} {st : List Value} {σ : Sg} (C : Cx K layC cc RX9 nL d ret) {o : Nat} (hY : layC[o]? = some (0, 0, slX0)) (hd : decode cc pc = .ok (.getfield 160, 3)) (k : G K (pc + 3) L (.int (rI σ o 4) :: st) (Wd K layC σ)) : G K pc L (.ref (kad K o) :: st) (Wd K layC σ) := g_get C (o := o) (ci := 0) (k := 4) hd hY rfl rfl (by decide) (Or.inr ⟨_, aw_145⟩) inA0 rfl k
def fX9_about_b0 (x1 : Int32) (x2 : Int32) (σ : Sg) : Option (Int32 × Sg) :=
  Option.bind (fX9_isBerg x1 σ) fun p1 => (if p1.1 = 0 then (some ((-101 : Int32), p1.2)) else (if x2 = (0 : Int32) then (if inb x1 5 = true then (some ((rI p1.2 (76 + (x1).toNatClampNeg) 0), p1.2)) else none) else (if x2 = (1 : Int32) then (if inb x1 5 = true then (some ((rI p1.2 (76 + (x1).toNatClampNeg) 1), p1.2)) else none) else (if x2 = (2 : Int32) then (if inb x1 5 = true then (some ((rI p1.2 (76 + (x1).toNatClampNeg) 2), p1.2)) else none) else (if x2 = (3 : Int32) then (if inb x1 5 = true then (some ((rI p1.2 (76 + (x1).toNatClampNeg) 3), p1.2)) else none) else (if x2 = (4 : Int32) then (if inb x1 5 = true then (some ((rI p1.2 (76 + (x1).toNatClampNeg) 4), p1.2)) else none) else (some ((-102 : Int32), p1.2))))))))
set_option maxRecDepth 4000 in
theorem bX9_about_b0 {K : KT} {x1 : Int32} {x2 : Int32} {σ : Sg} {o : Int32 × Sg} (C : Cx K layC cX9_about RX9 3 (2) (some .int))  (hQ : Rk K layC (okI o)) (h : fX9_about_b0 x1 x2 σ = some o) : G K 0 [some (.ref (kad K 0)), some (.int x1), some (.int x2)] [] (Wd K layC σ) := by
  unfold fX9_about_b0 at h
  refine g_aload_n C.c dX9_about_0 rfl (i := 0) rfl ?_
  refine g_iload_n C.c dX9_about_1 rfl (i := 1) rfl ?_
  obtain ⟨p1, e2, h⟩ := Option.bind_eq_some_iff.mp h
  refine kc_9_142 C dX9_about_2 e2 (Nat.le_of_ble_eq_true rfl) rfl (Nat.le_of_ble_eq_true rfl) ?_
  refine g_if_ne C.c (tgt := 11) dX9_about_5 (by decide) (fun c => ?_) (fun c => ?_)
  · replace h := ite_f c h
    refine g_iload_n C.c dX9_about_11 rfl (i := 2) rfl ?_
    by_cases c0 : x2 = (0 : Int32)
    · replace h := ite_t c0 h
      refine g_tblIn C.c (tgt := 48) (off := 36) c0 dX9_about_12 (by decide) (by decide) (by decide) (by decide) ?_
      refine g_aload_n C.c dX9_about_48 rfl (i := 0) rfl ?_
      refine gf_9_37 C dX9_about_49 ?_
      refine g_iload_n C.c dX9_about_52 rfl (i := 1) rfl ?_
      obtain ⟨c3, h⟩ := chk h
      have hs4 := rw_48 (inb_lt c3)
      refine g_aald4 C (b := 76) dX9_about_53 rfl c3 rfl rfl ?_
      refine gf_9_148d C hs4 dX9_about_54 ?_
      obtain rfl := Option.some.inj h
      exact g_iret C hQ dX9_about_57 rfl ⟨rfl, rfl⟩
    · replace h := ite_f c0 h
      by_cases c1 : x2 = (1 : Int32)
      · replace h := ite_t c1 h
        refine g_tblIn C.c (tgt := 58) (off := 46) c1 dX9_about_12 (by decide) (by decide) (by decide) (by decide) ?_
        refine g_aload_n C.c dX9_about_58 rfl (i := 0) rfl ?_
        refine gf_9_37 C dX9_about_59 ?_
        refine g_iload_n C.c dX9_about_62 rfl (i := 1) rfl ?_
        obtain ⟨c5, h⟩ := chk h
        have hs6 := rw_48 (inb_lt c5)
        refine g_aald4 C (b := 76) dX9_about_63 rfl c5 rfl rfl ?_
        refine gf_9_151d C hs6 dX9_about_64 ?_
        obtain rfl := Option.some.inj h
        exact g_iret C hQ dX9_about_67 rfl ⟨rfl, rfl⟩
      · replace h := ite_f c1 h
        by_cases c2 : x2 = (2 : Int32)
        · replace h := ite_t c2 h
          refine g_tblIn C.c (tgt := 68) (off := 56) c2 dX9_about_12 (by decide) (by decide) (by decide) (by decide) ?_
          refine g_aload_n C.c dX9_about_68 rfl (i := 0) rfl ?_
          refine gf_9_37 C dX9_about_69 ?_
          refine g_iload_n C.c dX9_about_72 rfl (i := 1) rfl ?_
          obtain ⟨c7, h⟩ := chk h
          have hs8 := rw_48 (inb_lt c7)
          refine g_aald4 C (b := 76) dX9_about_73 rfl c7 rfl rfl ?_
          refine gf_9_154d C hs8 dX9_about_74 ?_
          obtain rfl := Option.some.inj h
          exact g_iret C hQ dX9_about_77 rfl ⟨rfl, rfl⟩
        · replace h := ite_f c2 h
          by_cases c3 : x2 = (3 : Int32)
          · replace h := ite_t c3 h
            refine g_tblIn C.c (tgt := 78) (off := 66) c3 dX9_about_12 (by decide) (by decide) (by decide) (by decide) ?_
            refine g_aload_n C.c dX9_about_78 rfl (i := 0) rfl ?_
            refine gf_9_37 C dX9_about_79 ?_
            refine g_iload_n C.c dX9_about_82 rfl (i := 1) rfl ?_
            obtain ⟨c9, h⟩ := chk h
            have hs10 := rw_48 (inb_lt c9)
            refine g_aald4 C (b := 76) dX9_about_83 rfl c9 rfl rfl ?_
            refine gf_9_157d C hs10 dX9_about_84 ?_
            obtain rfl := Option.some.inj h
            exact g_iret C hQ dX9_about_87 rfl ⟨rfl, rfl⟩
          · replace h := ite_f c3 h
            by_cases c4 : x2 = (4 : Int32)
            · replace h := ite_t c4 h
              refine g_tblIn C.c (tgt := 88) (off := 76) c4 dX9_about_12 (by decide) (by decide) (by decide) (by decide) ?_
              refine g_aload_n C.c dX9_about_88 rfl (i := 0) rfl ?_
              refine gf_9_37 C dX9_about_89 ?_
              refine g_iload_n C.c dX9_about_92 rfl (i := 1) rfl ?_
              obtain ⟨c11, h⟩ := chk h
              have hs12 := rw_48 (inb_lt c11)
              refine g_aald4 C (b := 76) dX9_about_93 rfl c11 rfl rfl ?_
              refine gf_9_160d C hs12 dX9_about_94 ?_
              obtain rfl := Option.some.inj h
              exact g_iret C hQ dX9_about_97 rfl ⟨rfl, rfl⟩
            · replace h := ite_f c4 h
              refine g_tblOut C.c (tgt := 98) [(0 : Int32), (1 : Int32), (2 : Int32), (3 : Int32), (4 : Int32)] (by decide) ⟨c0, c1, c2, c3, c4, trivial⟩ dX9_about_12 (by decide) ?_
              refine g_bipush C.c dX9_about_98 (v := (-102 : Int32)) (by decide) ?_
              obtain rfl := Option.some.inj h
              exact g_iret C hQ dX9_about_100 rfl ⟨rfl, rfl⟩
  · replace h := ite_t c h
    refine g_bipush C.c dX9_about_8 (v := (-101 : Int32)) (by decide) ?_
    obtain rfl := Option.some.inj h
    exact g_iret C hQ dX9_about_10 rfl ⟨rfl, rfl⟩
def fX9_about (a0 : Int32) (a1 : Int32) (σ : Sg) : Option (Int32 × Sg) := fX9_about_b0 a0 a1 σ
theorem ct_X9_about {a0 : Int32} {a1 : Int32} {σ : Sg} {p : Int32 × Sg} (h : fX9_about a0 a1 σ = some p) : Ct layC yX9_about cX9_about 3 (some .int) 2 (fun ad => [.ref (ad 0), .int a0, .int a1]) σ (okI p) :=
 ct_of (L0 := fun ad => [some (.ref (ad 0)), some (.int a0), some (.int a1)]) (by decide) (fun _ => Nat.le_of_ble_eq_true rfl) (fun _ => rfl) (fun K C hQ => g_mask [true, true, true] rfl (bX9_about_b0 C hQ h))
-- X9_change
theorem dX9_change_0 : decode cX9_change 0 = .ok (.aload_n 0, 1) := by decide +kernel
theorem dX9_change_1 : decode cX9_change 1 = .ok (.iload_n 1, 1) := by decide +kernel
theorem dX9_change_2 : decode cX9_change 2 = .ok (.invokevirtual 142, 3) := by decide +kernel
theorem dX9_change_5 : decode cX9_change 5 = .ok (.ifCond .ne 6, 3) := by decide +kernel
theorem dX9_change_8 : decode cX9_change 8 = .ok (.bipush (-101), 2) := by decide +kernel
theorem dX9_change_10 : decode cX9_change 10 = .ok (.ireturn, 1) := by decide +kernel
theorem dX9_change_11 : decode cX9_change 11 = .ok (.iload_n 2, 1) := by decide +kernel
theorem dX9_change_12 : decode cX9_change 12 = .ok (.iconst 2, 1) := by decide +kernel
theorem dX9_change_13 : decode cX9_change 13 = .ok (.if_icmp .ne 14, 3) := by decide +kernel
theorem dX9_change_16 : decode cX9_change 16 = .ok (.iload_n 3, 1) := by decide +kernel
theorem dX9_change_17 : decode cX9_change 17 = .ok (.invokestatic 125, 3) := by decide +kernel
theorem dX9_change_20 : decode cX9_change 20 = .ok (.ifCond .eq 7, 3) := by decide +kernel
theorem dX9_change_23 : decode cX9_change 23 = .ok (.iconst 1, 1) := by decide +kernel
theorem dX9_change_24 : decode cX9_change 24 = .ok (.goto 4, 3) := by decide +kernel
theorem dX9_change_27 : decode cX9_change 27 = .ok (.iconst 0, 1) := by decide +kernel
theorem dX9_change_28 : decode cX9_change 28 = .ok (.istore 4, 2) := by decide +kernel
theorem dX9_change_30 : decode cX9_change 30 = .ok (.iload_n 2, 1) := by decide +kernel
theorem dX9_change_31 : decode cX9_change 31 = .ok (.iconst 3, 1) := by decide +kernel
theorem dX9_change_32 : decode cX9_change 32 = .ok (.if_icmp .ne 14, 3) := by decide +kernel
theorem dX9_change_35 : decode cX9_change 35 = .ok (.iload_n 3, 1) := by decide +kernel
theorem dX9_change_36 : decode cX9_change 36 = .ok (.invokestatic 128, 3) := by decide +kernel
theorem dX9_change_39 : decode cX9_change 39 = .ok (.ifCond .eq 7, 3) := by decide +kernel
theorem dX9_change_42 : decode cX9_change 42 = .ok (.iconst 1, 1) := by decide +kernel
theorem dX9_change_43 : decode cX9_change 43 = .ok (.goto 4, 3) := by decide +kernel
theorem dX9_change_46 : decode cX9_change 46 = .ok (.iconst 0, 1) := by decide +kernel
theorem dX9_change_47 : decode cX9_change 47 = .ok (.istore 5, 2) := by decide +kernel
theorem dX9_change_49 : decode cX9_change 49 = .ok (.iload 4, 2) := by decide +kernel
theorem dX9_change_51 : decode cX9_change 51 = .ok (.ifCond .ne 11, 3) := by decide +kernel
theorem dX9_change_54 : decode cX9_change 54 = .ok (.iload 5, 2) := by decide +kernel
theorem dX9_change_56 : decode cX9_change 56 = .ok (.ifCond .ne 6, 3) := by decide +kernel
theorem dX9_change_59 : decode cX9_change 59 = .ok (.bipush (-102), 2) := by decide +kernel
theorem dX9_change_61 : decode cX9_change 61 = .ok (.ireturn, 1) := by decide +kernel
theorem dX9_change_62 : decode cX9_change 62 = .ok (.aload_n 0, 1) := by decide +kernel
theorem dX9_change_63 : decode cX9_change 63 = .ok (.getfield 58, 3) := by decide +kernel
theorem dX9_change_66 : decode cX9_change 66 = .ok (.iload_n 1, 1) := by decide +kernel
theorem dX9_change_67 : decode cX9_change 67 = .ok (.invokevirtual 139, 3) := by decide +kernel
theorem dX9_change_70 : decode cX9_change 70 = .ok (.aload_n 0, 1) := by decide +kernel
theorem dX9_change_71 : decode cX9_change 71 = .ok (.getfield 37, 3) := by decide +kernel
theorem dX9_change_74 : decode cX9_change 74 = .ok (.iload_n 1, 1) := by decide +kernel
theorem dX9_change_75 : decode cX9_change 75 = .ok (.aaload, 1) := by decide +kernel
theorem dX9_change_76 : decode cX9_change 76 = .ok (.astore 6, 2) := by decide +kernel
theorem dX9_change_78 : decode cX9_change 78 = .ok (.iload 4, 2) := by decide +kernel
theorem dX9_change_80 : decode cX9_change 80 = .ok (.ifCond .eq 11, 3) := by decide +kernel
theorem dX9_change_83 : decode cX9_change 83 = .ok (.aload 6, 2) := by decide +kernel
theorem dX9_change_85 : decode cX9_change 85 = .ok (.getfield 154, 3) := by decide +kernel
theorem dX9_change_88 : decode cX9_change 88 = .ok (.goto 8, 3) := by decide +kernel
theorem dX9_change_91 : decode cX9_change 91 = .ok (.aload 6, 2) := by decide +kernel
theorem dX9_change_93 : decode cX9_change 93 = .ok (.getfield 157, 3) := by decide +kernel
theorem dX9_change_96 : decode cX9_change 96 = .ok (.istore 7, 2) := by decide +kernel
theorem dX9_change_98 : decode cX9_change 98 = .ok (.iload 4, 2) := by decide +kernel
theorem dX9_change_100 : decode cX9_change 100 = .ok (.ifCond .eq 12, 3) := by decide +kernel
theorem dX9_change_103 : decode cX9_change 103 = .ok (.aload 6, 2) := by decide +kernel
theorem dX9_change_105 : decode cX9_change 105 = .ok (.iload_n 3, 1) := by decide +kernel
theorem dX9_change_106 : decode cX9_change 106 = .ok (.putfield 154, 3) := by decide +kernel
theorem dX9_change_109 : decode cX9_change 109 = .ok (.goto 9, 3) := by decide +kernel
theorem dX9_change_112 : decode cX9_change 112 = .ok (.aload 6, 2) := by decide +kernel
theorem dX9_change_114 : decode cX9_change 114 = .ok (.iload_n 3, 1) := by decide +kernel
theorem dX9_change_115 : decode cX9_change 115 = .ok (.putfield 157, 3) := by decide +kernel
theorem dX9_change_118 : decode cX9_change 118 = .ok (.iload 7, 2) := by decide +kernel
theorem dX9_change_120 : decode cX9_change 120 = .ok (.ireturn, 1) := by decide +kernel
theorem cw_X9_change : Cw yX9_change cX9_change 8 (some .int) 3 := ⟨aw_448, aw_19, ⟨by decide, by decide⟩, by decide +kernel, by decide⟩
theorem pf_9_157d {K : KT} {cc : ByteArray} {nL d pc : Nat} {ret : Option FieldType} {L : List (Option Value)} {st : List Value} {σ : Sg} (C : Cx K layC cc RX9 nL d ret) {o : Nat} (hY : layC[o]? = some (0, 0, slX0)) {v : Int32}  (hd : decode cc pc = .ok (.putfield 157, 3)) (k : G K (pc + 3) L st (Wd K layC (wI σ o 3 v))) : G K pc L (.int v :: .ref (kad K o) :: st) (Wd K layC σ) := g_putI C (o := o) (ci := 0) (k := 3) hd hY rfl rfl (by decide) (Or.inr ⟨_, aw_143⟩) inA0 tyX0_ok nmX0 rfl rfl rfl k
theorem pf_9_154d {K : KT} {cc : ByteArray} {nL d pc : Nat} {ret : Option FieldType} {L : List (Option Value)} {st : List Value} {σ : Sg} (C : Cx K layC cc RX9 nL d ret) {o : Nat} (hY : layC[o]? = some (0, 0, slX0)) {v : Int32}  (hd : decode cc pc = .ok (.putfield 154, 3)) (k : G K (pc + 3) L st (Wd K layC (wI σ o 2 v))) : G K pc L (.int v :: .ref (kad K o) :: st) (Wd K layC σ) := g_putI C (o := o) (ci := 0) (k := 2) hd hY rfl rfl (by decide) (Or.inr ⟨_, aw_140⟩) inA0 tyX0_ok nmX0 rfl rfl rfl k
def fX9_change_b96 (x3 : Int32) (x4 : Int32) (w6 : Nat) (y0 : Int32) (σ : Sg) : Option (Int32 × Sg) :=
  if x4 = 0 then (some (y0, (wI σ w6 3 x3))) else (some (y0, (wI σ w6 2 x3)))
def fX9_change_b62 (x1 : Int32) (x3 : Int32) (x4 : Int32) (σ : Sg) : Option (Int32 × Sg) :=
  Option.bind (fX3_forget x1 σ) fun p3 => (if inb x1 5 = true then (if x4 = 0 then (fX9_change_b96 x3 x4 (76 + (x1).toNatClampNeg) (rI p3 (76 + (x1).toNatClampNeg) 3) p3) else (fX9_change_b96 x3 x4 (76 + (x1).toNatClampNeg) (rI p3 (76 + (x1).toNatClampNeg) 2) p3)) else none)
def fX9_change_b47 (x1 : Int32) (x3 : Int32) (x4 : Int32) (y0 : Int32) (σ : Sg) : Option (Int32 × Sg) :=
  if x4 = 0 then (if y0 = 0 then (some ((-102 : Int32), σ)) else (fX9_change_b62 x1 x3 x4 σ)) else (fX9_change_b62 x1 x3 x4 σ)
def fX9_change_b46 (x1 : Int32) (x3 : Int32) (x4 : Int32) (σ : Sg) : Option (Int32 × Sg) :=
  fX9_change_b47 x1 x3 x4 (0 : Int32) σ
def fX9_change_b28 (x1 : Int32) (x2 : Int32) (x3 : Int32) (y0 : Int32) (σ : Sg) : Option (Int32 × Sg) :=
  if x2 = (3 : Int32) then (Option.bind (fX9_isFoot x3 σ) fun p7 => (if p7.1 = 0 then (fX9_change_b46 x1 x3 y0 p7.2) else (fX9_change_b47 x1 x3 y0 (1 : Int32) p7.2))) else (fX9_change_b46 x1 x3 y0 σ)
def fX9_change_b27 (x1 : Int32) (x2 : Int32) (x3 : Int32) (σ : Sg) : Option (Int32 × Sg) :=
  fX9_change_b28 x1 x2 x3 (0 : Int32) σ
def fX9_change_b0 (x1 : Int32) (x2 : Int32) (x3 : Int32) (σ : Sg) : Option (Int32 × Sg) :=
  Option.bind (fX9_isBerg x1 σ) fun p1 => (if p1.1 = 0 then (some ((-101 : Int32), p1.2)) else (if x2 = (2 : Int32) then (Option.bind (fX9_isSize x3 p1.2) fun p9 => (if p9.1 = 0 then (fX9_change_b27 x1 x2 x3 p9.2) else (fX9_change_b28 x1 x2 x3 (1 : Int32) p9.2))) else (fX9_change_b27 x1 x2 x3 p1.2)))
set_option maxRecDepth 4000 in
theorem bX9_change_b96 {K : KT} {x3 : Int32} {x4 : Int32} {w6 : Nat} {y0 : Int32} {σ : Sg} {o : Int32 × Sg} (C : Cx K layC cX9_change RX9 8 (2) (some .int)) (hw6 : layC[w6]? = some (0, 0, slX0)) (hQ : Rk K layC (okI o)) (h : fX9_change_b96 x3 x4 w6 y0 σ = some o) : G K 96 [none, none, none, some (.int x3), some (.int x4), none, some (.ref (kad K w6)), none] [.int y0] (Wd K layC σ) := by
  unfold fX9_change_b96 at h
  refine g_istore C.c (i := 7) (L' := [none, none, none, some (.int x3), some (.int x4), none, some (.ref (kad K w6)), some (.int y0)]) dX9_change_96 (Nat.le_of_ble_eq_true rfl) rfl ?_
  refine g_iload C.c dX9_change_98 (i := 4) rfl ?_
  refine g_if_eq C.c (tgt := 112) dX9_change_100 (by decide) (fun c => ?_) (fun c => ?_)
  · replace h := ite_t c h
    refine g_aload C.c dX9_change_112 (i := 6) rfl ?_
    refine g_iload_n C.c dX9_change_114 rfl (i := 3) rfl ?_
    refine pf_9_157d C hw6 dX9_change_115 ?_
    refine g_iload C.c dX9_change_118 (i := 7) rfl ?_
    obtain rfl := Option.some.inj h
    exact g_iret C hQ dX9_change_120 rfl ⟨rfl, rfl⟩
  · replace h := ite_f c h
    refine g_aload C.c dX9_change_103 (i := 6) rfl ?_
    refine g_iload_n C.c dX9_change_105 rfl (i := 3) rfl ?_
    refine pf_9_154d C hw6 dX9_change_106 ?_
    refine g_goto C.c (tgt := 118) dX9_change_109 (by decide) ?_
    refine g_iload C.c dX9_change_118 (i := 7) rfl ?_
    obtain rfl := Option.some.inj h
    exact g_iret C hQ dX9_change_120 rfl ⟨rfl, rfl⟩
set_option maxRecDepth 4000 in
theorem bX9_change_b62 {K : KT} {x1 : Int32} {x3 : Int32} {x4 : Int32} {σ : Sg} {o : Int32 × Sg} (C : Cx K layC cX9_change RX9 8 (2) (some .int))  (hQ : Rk K layC (okI o)) (h : fX9_change_b62 x1 x3 x4 σ = some o) : G K 62 [some (.ref (kad K 0)), some (.int x1), none, some (.int x3), some (.int x4), none, none, none] [] (Wd K layC σ) := by
  unfold fX9_change_b62 at h
  refine g_aload_n C.c dX9_change_62 rfl (i := 0) rfl ?_
  refine gf_9_58 C dX9_change_63 ?_
  refine g_iload_n C.c dX9_change_66 rfl (i := 1) rfl ?_
  obtain ⟨p3, e4, h⟩ := Option.bind_eq_some_iff.mp h
  refine kc_9_139 C dX9_change_67 e4 (Nat.le_of_ble_eq_true rfl) rfl (Nat.le_of_ble_eq_true rfl) ?_
  refine g_aload_n C.c dX9_change_70 rfl (i := 0) rfl ?_
  refine gf_9_37 C dX9_change_71 ?_
  refine g_iload_n C.c dX9_change_74 rfl (i := 1) rfl ?_
  obtain ⟨c5, h⟩ := chk h
  have hs6 := rw_48 (inb_lt c5)
  refine g_aald4 C (b := 76) dX9_change_75 rfl c5 rfl rfl ?_
  refine g_astore C.c (i := 6) (L' := [some (.ref (kad K 0)), some (.int x1), none, some (.int x3), some (.int x4), none, some (.ref (kad K (76 + (x1).toNatClampNeg))), none]) dX9_change_76 (Nat.le_of_ble_eq_true rfl) rfl ?_
  refine g_iload C.c dX9_change_78 (i := 4) rfl ?_
  refine g_if_eq C.c (tgt := 91) dX9_change_80 (by decide) (fun c => ?_) (fun c => ?_)
  · replace h := ite_t c h
    refine g_aload C.c dX9_change_91 (i := 6) rfl ?_
    refine gf_9_157d C hs6 dX9_change_93 ?_
    exact g_mask [false, false, false, true, true, false, true, false] rfl (bX9_change_b96 C hs6 hQ h)
  · replace h := ite_f c h
    refine g_aload C.c dX9_change_83 (i := 6) rfl ?_
    refine gf_9_154d C hs6 dX9_change_85 ?_
    refine g_goto C.c (tgt := 96) dX9_change_88 (by decide) ?_
    exact g_mask [false, false, false, true, true, false, true, false] rfl (bX9_change_b96 C hs6 hQ h)
set_option maxRecDepth 4000 in
theorem bX9_change_b47 {K : KT} {x1 : Int32} {x3 : Int32} {x4 : Int32} {y0 : Int32} {σ : Sg} {o : Int32 × Sg} (C : Cx K layC cX9_change RX9 8 (2) (some .int))  (hQ : Rk K layC (okI o)) (h : fX9_change_b47 x1 x3 x4 y0 σ = some o) : G K 47 [some (.ref (kad K 0)), some (.int x1), none, some (.int x3), some (.int x4), none, none, none] [.int y0] (Wd K layC σ) := by
  unfold fX9_change_b47 at h
  refine g_istore C.c (i := 5) (L' := [some (.ref (kad K 0)), some (.int x1), none, some (.int x3), some (.int x4), some (.int y0), none, none]) dX9_change_47 (Nat.le_of_ble_eq_true rfl) rfl ?_
  refine g_iload C.c dX9_change_49 (i := 4) rfl ?_
  refine g_if_ne C.c (tgt := 62) dX9_change_51 (by decide) (fun c => ?_) (fun c => ?_)
  · replace h := ite_f c h
    exact g_mask [true, true, false, true, true, false, false, false] rfl (bX9_change_b62 C hQ h)
  · replace h := ite_t c h
    refine g_iload C.c dX9_change_54 (i := 5) rfl ?_
    refine g_if_ne C.c (tgt := 62) dX9_change_56 (by decide) (fun c => ?_) (fun c => ?_)
    · replace h := ite_f c h
      exact g_mask [true, true, false, true, true, false, false, false] rfl (bX9_change_b62 C hQ h)
    · replace h := ite_t c h
      refine g_bipush C.c dX9_change_59 (v := (-102 : Int32)) (by decide) ?_
      obtain rfl := Option.some.inj h
      exact g_iret C hQ dX9_change_61 rfl ⟨rfl, rfl⟩
set_option maxRecDepth 4000 in
theorem bX9_change_b46 {K : KT} {x1 : Int32} {x3 : Int32} {x4 : Int32} {σ : Sg} {o : Int32 × Sg} (C : Cx K layC cX9_change RX9 8 (2) (some .int))  (hQ : Rk K layC (okI o)) (h : fX9_change_b46 x1 x3 x4 σ = some o) : G K 46 [some (.ref (kad K 0)), some (.int x1), none, some (.int x3), some (.int x4), none, none, none] [] (Wd K layC σ) := by
  unfold fX9_change_b46 at h
  refine g_iconst C.c dX9_change_46 (v := (0 : Int32)) (by decide) ?_
  exact g_mask [true, true, false, true, true, false, false, false] rfl (bX9_change_b47 C hQ h)
set_option maxRecDepth 4000 in
theorem bX9_change_b28 {K : KT} {x1 : Int32} {x2 : Int32} {x3 : Int32} {y0 : Int32} {σ : Sg} {o : Int32 × Sg} (C : Cx K layC cX9_change RX9 8 (2) (some .int))  (hQ : Rk K layC (okI o)) (h : fX9_change_b28 x1 x2 x3 y0 σ = some o) : G K 28 [some (.ref (kad K 0)), some (.int x1), some (.int x2), some (.int x3), none, none, none, none] [.int y0] (Wd K layC σ) := by
  unfold fX9_change_b28 at h
  refine g_istore C.c (i := 4) (L' := [some (.ref (kad K 0)), some (.int x1), some (.int x2), some (.int x3), some (.int y0), none, none, none]) dX9_change_28 (Nat.le_of_ble_eq_true rfl) rfl ?_
  refine g_iload_n C.c dX9_change_30 rfl (i := 2) rfl ?_
  refine g_iconst C.c dX9_change_31 (v := (3 : Int32)) (by decide) ?_
  refine g_icmp_ne C.c (tgt := 46) dX9_change_32 (by decide) (fun c => ?_) (fun c => ?_)
  · replace h := ite_f c h
    exact g_mask [true, true, false, true, true, false, false, false] rfl (bX9_change_b46 C hQ h)
  · replace h := ite_t c h
    refine g_iload_n C.c dX9_change_35 rfl (i := 3) rfl ?_
    obtain ⟨p7, e8, h⟩ := Option.bind_eq_some_iff.mp h
    refine kc_9_128 C dX9_change_36 e8 (Nat.le_of_ble_eq_true rfl) rfl (Nat.le_of_ble_eq_true rfl) ?_
    refine g_if_eq C.c (tgt := 46) dX9_change_39 (by decide) (fun c => ?_) (fun c => ?_)
    · replace h := ite_t c h
      exact g_mask [true, true, false, true, true, false, false, false] rfl (bX9_change_b46 C hQ h)
    · replace h := ite_f c h
      refine g_iconst C.c dX9_change_42 (v := (1 : Int32)) (by decide) ?_
      refine g_goto C.c (tgt := 47) dX9_change_43 (by decide) ?_
      exact g_mask [true, true, false, true, true, false, false, false] rfl (bX9_change_b47 C hQ h)
set_option maxRecDepth 4000 in
theorem bX9_change_b27 {K : KT} {x1 : Int32} {x2 : Int32} {x3 : Int32} {σ : Sg} {o : Int32 × Sg} (C : Cx K layC cX9_change RX9 8 (2) (some .int))  (hQ : Rk K layC (okI o)) (h : fX9_change_b27 x1 x2 x3 σ = some o) : G K 27 [some (.ref (kad K 0)), some (.int x1), some (.int x2), some (.int x3), none, none, none, none] [] (Wd K layC σ) := by
  unfold fX9_change_b27 at h
  refine g_iconst C.c dX9_change_27 (v := (0 : Int32)) (by decide) ?_
  exact g_mask [true, true, true, true, false, false, false, false] rfl (bX9_change_b28 C hQ h)
set_option maxRecDepth 4000 in
theorem bX9_change_b0 {K : KT} {x1 : Int32} {x2 : Int32} {x3 : Int32} {σ : Sg} {o : Int32 × Sg} (C : Cx K layC cX9_change RX9 8 (2) (some .int))  (hQ : Rk K layC (okI o)) (h : fX9_change_b0 x1 x2 x3 σ = some o) : G K 0 [some (.ref (kad K 0)), some (.int x1), some (.int x2), some (.int x3), none, none, none, none] [] (Wd K layC σ) := by
  unfold fX9_change_b0 at h
  refine g_aload_n C.c dX9_change_0 rfl (i := 0) rfl ?_
  refine g_iload_n C.c dX9_change_1 rfl (i := 1) rfl ?_
  obtain ⟨p1, e2, h⟩ := Option.bind_eq_some_iff.mp h
  refine kc_9_142 C dX9_change_2 e2 (Nat.le_of_ble_eq_true rfl) rfl (Nat.le_of_ble_eq_true rfl) ?_
  refine g_if_ne C.c (tgt := 11) dX9_change_5 (by decide) (fun c => ?_) (fun c => ?_)
  · replace h := ite_f c h
    refine g_iload_n C.c dX9_change_11 rfl (i := 2) rfl ?_
    refine g_iconst C.c dX9_change_12 (v := (2 : Int32)) (by decide) ?_
    refine g_icmp_ne C.c (tgt := 27) dX9_change_13 (by decide) (fun c => ?_) (fun c => ?_)
    · replace h := ite_f c h
      exact g_mask [true, true, true, true, false, false, false, false] rfl (bX9_change_b27 C hQ h)
    · replace h := ite_t c h
      refine g_iload_n C.c dX9_change_16 rfl (i := 3) rfl ?_
      obtain ⟨p9, e10, h⟩ := Option.bind_eq_some_iff.mp h
      refine kc_9_125 C dX9_change_17 e10 (Nat.le_of_ble_eq_true rfl) rfl (Nat.le_of_ble_eq_true rfl) ?_
      refine g_if_eq C.c (tgt := 27) dX9_change_20 (by decide) (fun c => ?_) (fun c => ?_)
      · replace h := ite_t c h
        exact g_mask [true, true, true, true, false, false, false, false] rfl (bX9_change_b27 C hQ h)
      · replace h := ite_f c h
        refine g_iconst C.c dX9_change_23 (v := (1 : Int32)) (by decide) ?_
        refine g_goto C.c (tgt := 28) dX9_change_24 (by decide) ?_
        exact g_mask [true, true, true, true, false, false, false, false] rfl (bX9_change_b28 C hQ h)
  · replace h := ite_t c h
    refine g_bipush C.c dX9_change_8 (v := (-101 : Int32)) (by decide) ?_
    obtain rfl := Option.some.inj h
    exact g_iret C hQ dX9_change_10 rfl ⟨rfl, rfl⟩
def fX9_change (a0 : Int32) (a1 : Int32) (a2 : Int32) (σ : Sg) : Option (Int32 × Sg) := fX9_change_b0 a0 a1 a2 σ
theorem ct_X9_change {a0 : Int32} {a1 : Int32} {a2 : Int32} {σ : Sg} {p : Int32 × Sg} (h : fX9_change a0 a1 a2 σ = some p) : Ct layC yX9_change cX9_change 8 (some .int) 2 (fun ad => [.ref (ad 0), .int a0, .int a1, .int a2]) σ (okI p) :=
 ct_of (L0 := fun ad => [some (.ref (ad 0)), some (.int a0), some (.int a1), some (.int a2), none, none, none, none]) (by decide) (fun _ => Nat.le_of_ble_eq_true rfl) (fun _ => rfl) (fun K C hQ => g_mask [true, true, true, true, false, false, false, false] rfl (bX9_change_b0 C hQ h))
-- X9_coin
theorem dX9_coin_0 : decode cX9_coin 0 = .ok (.aload_n 0, 1) := by decide +kernel
theorem dX9_coin_1 : decode cX9_coin 1 = .ok (.getfield 34, 3) := by decide +kernel
theorem dX9_coin_4 : decode cX9_coin 4 = .ok (.iload_n 1, 1) := by decide +kernel
theorem dX9_coin_5 : decode cX9_coin 5 = .ok (.iload_n 2, 1) := by decide +kernel
theorem dX9_coin_6 : decode cX9_coin 6 = .ok (.invokevirtual 163, 3) := by decide +kernel
theorem dX9_coin_9 : decode cX9_coin 9 = .ok (.ifCond .ne 6, 3) := by decide +kernel
theorem dX9_coin_12 : decode cX9_coin 12 = .ok (.bipush (-102), 2) := by decide +kernel
theorem dX9_coin_14 : decode cX9_coin 14 = .ok (.ireturn, 1) := by decide +kernel
theorem dX9_coin_15 : decode cX9_coin 15 = .ok (.aload_n 0, 1) := by decide +kernel
theorem dX9_coin_16 : decode cX9_coin 16 = .ok (.getfield 58, 3) := by decide +kernel
theorem dX9_coin_19 : decode cX9_coin 19 = .ok (.invokevirtual 168, 3) := by decide +kernel
theorem dX9_coin_22 : decode cX9_coin 22 = .ok (.aload_n 0, 1) := by decide +kernel
theorem dX9_coin_23 : decode cX9_coin 23 = .ok (.getfield 34, 3) := by decide +kernel
theorem dX9_coin_26 : decode cX9_coin 26 = .ok (.iload_n 1, 1) := by decide +kernel
theorem dX9_coin_27 : decode cX9_coin 27 = .ok (.iload_n 2, 1) := by decide +kernel
theorem dX9_coin_28 : decode cX9_coin 28 = .ok (.invokevirtual 171, 3) := by decide +kernel
theorem dX9_coin_31 : decode cX9_coin 31 = .ok (.ireturn, 1) := by decide +kernel
theorem cw_X9_coin : Cw yX9_coin cX9_coin 3 (some .int) 2 := ⟨aw_462, aw_19, ⟨by decide, by decide⟩, by decide +kernel, by decide⟩
theorem gf_9_34 {K : KT} {cc : ByteArray} {nL d pc : Nat} {ret : Option FieldType} {L : List (Option Value)} {st : List Value} {σ : Sg} (C : Cx K layC cc RX9 nL d ret)  (hd : decode cc pc = .ok (.getfield 34, 3)) (k : G K (pc + 3) L (.ref (kad K 40) :: st) (Wd K layC σ)) : G K pc L (.ref (kad K 0) :: st) (Wd K layC σ) := g_get C (o := 0) (ci := 9) (k := 3) hd rfl rfl rfl (by decide) (Or.inl aw_310) inA9 rfl k
theorem kc_9_163 {K : KT} {cc : ByteArray} {nL d pc : Nat} {ret : Option FieldType} {L : List (Option Value)} {st : List Value} {σ : Sg} (C : Cx K layC cc RX9 nL d ret)  {o0 : Nat} {a0 : Int32} {a1 : Int32} (hY0 : layC[o0]? = some (0, 1, slX1)) {p : Int32 × Sg} (hd : decode cc pc = .ok (.invokevirtual 163, 3)) (e : fX1_mayBe o0 a0 a1 σ = some p) (hdd : 1 + 1 ≤ d) (hLn : L.length = nL) (hr : (st.map fun v => v.category).sum ≤ 8) (k : G K (pc + 3) L (.int p.1 :: st) (Wd K layC p.2)) : G K pc L (.int a1 :: .int a0 :: .ref (kad K o0) :: st) (Wd K layC σ) :=
  g_callV C (As := [.int a0, .int a1]) (rest := st) (o := o0) (ci := 1) hd (ct_X1_mayBe hY0 e) cw_X1_mayBe (Or.inl aw_463) aw_464 aw_465 rfl rfl rfl hdd hLn hY0 rfl hr (fun v τ q => by obtain ⟨rfl, rfl⟩ := q; exact k)
theorem kc_9_168 {K : KT} {cc : ByteArray} {nL d pc : Nat} {ret : Option FieldType} {L : List (Option Value)} {st : List Value} {σ : Sg} (C : Cx K layC cc RX9 nL d ret)    {p : Sg} (hd : decode cc pc = .ok (.invokevirtual 168, 3)) (e : fX3_forgetAll σ = some p) (hdd : 1 + 1 ≤ d) (hLn : L.length = nL) (hr : (st.map fun v => v.category).sum ≤ 8) (k : G K (pc + 3) L (st) (Wd K layC p)) : G K pc L (.ref (kad K 58) :: st) (Wd K layC σ) :=
  g_callV C (As := []) (rest := st) (o := 58) (ci := 3) hd (ct_X3_forgetAll e) cw_X3_forgetAll (Or.inl aw_471) aw_472 aw_473 rfl rfl rfl hdd hLn rfl rfl hr (fun v τ q => by obtain ⟨rfl, rfl⟩ := q; exact k)
theorem kc_9_171 {K : KT} {cc : ByteArray} {nL d pc : Nat} {ret : Option FieldType} {L : List (Option Value)} {st : List Value} {σ : Sg} (C : Cx K layC cc RX9 nL d ret)  {o0 : Nat} {a0 : Int32} {a1 : Int32} (hY0 : layC[o0]? = some (0, 1, slX1)) {p : Int32 × Sg} (hd : decode cc pc = .ok (.invokevirtual 171, 3)) (e : fX1_put o0 a0 a1 σ = some p) (hdd : 1 + 1 ≤ d) (hLn : L.length = nL) (hr : (st.map fun v => v.category).sum ≤ 8) (k : G K (pc + 3) L (.int p.1 :: st) (Wd K layC p.2)) : G K pc L (.int a1 :: .int a0 :: .ref (kad K o0) :: st) (Wd K layC σ) :=
  g_callV C (As := [.int a0, .int a1]) (rest := st) (o := o0) (ci := 1) hd (ct_X1_put hY0 e) cw_X1_put (Or.inl aw_475) aw_476 aw_477 rfl rfl rfl hdd hLn hY0 rfl hr (fun v τ q => by obtain ⟨rfl, rfl⟩ := q; exact k)
def fX9_coin_b0 (x1 : Int32) (x2 : Int32) (σ : Sg) : Option (Int32 × Sg) :=
  Option.bind (fX1_mayBe 40 x1 x2 σ) fun p1 => (if p1.1 = 0 then (some ((-102 : Int32), p1.2)) else (Option.bind (fX3_forgetAll p1.2) fun p3 => (Option.bind (fX1_put 40 x1 x2 p3) fun p5 => (some (p5.1, p5.2)))))
set_option maxRecDepth 4000 in
theorem bX9_coin_b0 {K : KT} {x1 : Int32} {x2 : Int32} {σ : Sg} {o : Int32 × Sg} (C : Cx K layC cX9_coin RX9 3 (2) (some .int))  (hQ : Rk K layC (okI o)) (h : fX9_coin_b0 x1 x2 σ = some o) : G K 0 [some (.ref (kad K 0)), some (.int x1), some (.int x2)] [] (Wd K layC σ) := by
  unfold fX9_coin_b0 at h
  refine g_aload_n C.c dX9_coin_0 rfl (i := 0) rfl ?_
  refine gf_9_34 C dX9_coin_1 ?_
  refine g_iload_n C.c dX9_coin_4 rfl (i := 1) rfl ?_
  refine g_iload_n C.c dX9_coin_5 rfl (i := 2) rfl ?_
  obtain ⟨p1, e2, h⟩ := Option.bind_eq_some_iff.mp h
  refine kc_9_163 C rfl dX9_coin_6 e2 (Nat.le_of_ble_eq_true rfl) rfl (Nat.le_of_ble_eq_true rfl) ?_
  refine g_if_ne C.c (tgt := 15) dX9_coin_9 (by decide) (fun c => ?_) (fun c => ?_)
  · replace h := ite_f c h
    refine g_aload_n C.c dX9_coin_15 rfl (i := 0) rfl ?_
    refine gf_9_58 C dX9_coin_16 ?_
    obtain ⟨p3, e4, h⟩ := Option.bind_eq_some_iff.mp h
    refine kc_9_168 C dX9_coin_19 e4 (Nat.le_of_ble_eq_true rfl) rfl (Nat.le_of_ble_eq_true rfl) ?_
    refine g_aload_n C.c dX9_coin_22 rfl (i := 0) rfl ?_
    refine gf_9_34 C dX9_coin_23 ?_
    refine g_iload_n C.c dX9_coin_26 rfl (i := 1) rfl ?_
    refine g_iload_n C.c dX9_coin_27 rfl (i := 2) rfl ?_
    obtain ⟨p5, e6, h⟩ := Option.bind_eq_some_iff.mp h
    refine kc_9_171 C rfl dX9_coin_28 e6 (Nat.le_of_ble_eq_true rfl) rfl (Nat.le_of_ble_eq_true rfl) ?_
    obtain rfl := Option.some.inj h
    exact g_iret C hQ dX9_coin_31 rfl ⟨rfl, rfl⟩
  · replace h := ite_t c h
    refine g_bipush C.c dX9_coin_12 (v := (-102 : Int32)) (by decide) ?_
    obtain rfl := Option.some.inj h
    exact g_iret C hQ dX9_coin_14 rfl ⟨rfl, rfl⟩
def fX9_coin (a0 : Int32) (a1 : Int32) (σ : Sg) : Option (Int32 × Sg) := fX9_coin_b0 a0 a1 σ
theorem ct_X9_coin {a0 : Int32} {a1 : Int32} {σ : Sg} {p : Int32 × Sg} (h : fX9_coin a0 a1 σ = some p) : Ct layC yX9_coin cX9_coin 3 (some .int) 2 (fun ad => [.ref (ad 0), .int a0, .int a1]) σ (okI p) :=
 ct_of (L0 := fun ad => [some (.ref (ad 0)), some (.int a0), some (.int a1)]) (by decide) (fun _ => Nat.le_of_ble_eq_true rfl) (fun _ => rfl) (fun K C hQ => g_mask [true, true, true] rfl (bX9_coin_b0 C hQ h))
-- X9_isTugs
theorem dX9_isTugs_0 : decode cX9_isTugs 0 = .ok (.iload_n 0, 1) := by decide +kernel
theorem dX9_isTugs_1 : decode cX9_isTugs 1 = .ok (.iconst 1, 1) := by decide +kernel
theorem dX9_isTugs_2 : decode cX9_isTugs 2 = .ok (.if_icmp .lt 13, 3) := by decide +kernel
theorem dX9_isTugs_5 : decode cX9_isTugs 5 = .ok (.iload_n 0, 1) := by decide +kernel
theorem dX9_isTugs_6 : decode cX9_isTugs 6 = .ok (.bipush 11, 2) := by decide +kernel
theorem dX9_isTugs_8 : decode cX9_isTugs 8 = .ok (.if_icmp .gt 7, 3) := by decide +kernel
theorem dX9_isTugs_11 : decode cX9_isTugs 11 = .ok (.iconst 1, 1) := by decide +kernel
theorem dX9_isTugs_12 : decode cX9_isTugs 12 = .ok (.goto 4, 3) := by decide +kernel
theorem dX9_isTugs_15 : decode cX9_isTugs 15 = .ok (.iconst 0, 1) := by decide +kernel
theorem dX9_isTugs_16 : decode cX9_isTugs 16 = .ok (.ireturn, 1) := by decide +kernel
theorem cw_X9_isTugs : Cw yX9_isTugs cX9_isTugs 1 (some .boolean) 1 := ⟨aw_486, aw_19, ⟨by decide, by decide⟩, by decide +kernel, by decide⟩
def fX9_isTugs_b0 (x0 : Int32) (σ : Sg) : Option (Int32 × Sg) :=
  if x0 < (1 : Int32) then (some ((0 : Int32), σ)) else (if (11 : Int32) < x0 then (some ((0 : Int32), σ)) else (some ((1 : Int32), σ)))
set_option maxRecDepth 4000 in
theorem bX9_isTugs_b0 {K : KT} {x0 : Int32} {σ : Sg} {o : Int32 × Sg} (C : Cx K layC cX9_isTugs RX9 1 (1) (some .boolean))  (hQ : Rk K layC (okI o)) (h : fX9_isTugs_b0 x0 σ = some o) : G K 0 [some (.int x0)] [] (Wd K layC σ) := by
  unfold fX9_isTugs_b0 at h
  refine g_iload_n C.c dX9_isTugs_0 rfl (i := 0) rfl ?_
  refine g_iconst C.c dX9_isTugs_1 (v := (1 : Int32)) (by decide) ?_
  refine g_icmp_lt C.c (tgt := 15) dX9_isTugs_2 (by decide) (fun c => ?_) (fun c => ?_)
  · replace h := ite_t c h
    refine g_iconst C.c dX9_isTugs_15 (v := (0 : Int32)) (by decide) ?_
    obtain rfl := Option.some.inj h
    exact g_iret C hQ dX9_isTugs_16 rfl ⟨rfl, rfl⟩
  · replace h := ite_f c h
    refine g_iload_n C.c dX9_isTugs_5 rfl (i := 0) rfl ?_
    refine g_bipush C.c dX9_isTugs_6 (v := (11 : Int32)) (by decide) ?_
    refine g_icmp_gt C.c (tgt := 15) dX9_isTugs_8 (by decide) (fun c => ?_) (fun c => ?_)
    · replace h := ite_t c h
      refine g_iconst C.c dX9_isTugs_15 (v := (0 : Int32)) (by decide) ?_
      obtain rfl := Option.some.inj h
      exact g_iret C hQ dX9_isTugs_16 rfl ⟨rfl, rfl⟩
    · replace h := ite_f c h
      refine g_iconst C.c dX9_isTugs_11 (v := (1 : Int32)) (by decide) ?_
      refine g_goto C.c (tgt := 16) dX9_isTugs_12 (by decide) ?_
      obtain rfl := Option.some.inj h
      exact g_iret C hQ dX9_isTugs_16 rfl ⟨rfl, rfl⟩
def fX9_isTugs (a0 : Int32) (σ : Sg) : Option (Int32 × Sg) := fX9_isTugs_b0 a0 σ
theorem ct_X9_isTugs {a0 : Int32} {σ : Sg} {p : Int32 × Sg} (h : fX9_isTugs a0 σ = some p) : Ct layC yX9_isTugs cX9_isTugs 1 (some .boolean) 1 (fun ad => [.int a0]) σ (okI p) :=
 ct_of (L0 := fun ad => [some (.int a0)]) (by decide) (fun _ => Nat.le_of_ble_eq_true rfl) (fun _ => rfl) (fun K C hQ => g_mask [true] rfl (bX9_isTugs_b0 C hQ h))
-- X9_hasWay
theorem dX9_hasWay_0 : decode cX9_hasWay 0 = .ok (.aload_n 0, 1) := by decide +kernel
theorem dX9_hasWay_1 : decode cX9_hasWay 1 = .ok (.getfield 27, 3) := by decide +kernel
theorem dX9_hasWay_4 : decode cX9_hasWay 4 = .ok (.getfield 204, 3) := by decide +kernel
theorem dX9_hasWay_7 : decode cX9_hasWay 7 = .ok (.aload_n 0, 1) := by decide +kernel
theorem dX9_hasWay_8 : decode cX9_hasWay 8 = .ok (.getfield 37, 3) := by decide +kernel
theorem dX9_hasWay_11 : decode cX9_hasWay 11 = .ok (.iload_n 1, 1) := by decide +kernel
theorem dX9_hasWay_12 : decode cX9_hasWay 12 = .ok (.aaload, 1) := by decide +kernel
theorem dX9_hasWay_13 : decode cX9_hasWay 13 = .ok (.getfield 151, 3) := by decide +kernel
theorem dX9_hasWay_16 : decode cX9_hasWay 16 = .ok (.iaload, 1) := by decide +kernel
theorem dX9_hasWay_17 : decode cX9_hasWay 17 = .ok (.ifCond .le 7, 3) := by decide +kernel
theorem dX9_hasWay_20 : decode cX9_hasWay 20 = .ok (.iconst 1, 1) := by decide +kernel
theorem dX9_hasWay_21 : decode cX9_hasWay 21 = .ok (.goto 4, 3) := by decide +kernel
theorem dX9_hasWay_24 : decode cX9_hasWay 24 = .ok (.iconst 0, 1) := by decide +kernel
theorem dX9_hasWay_25 : decode cX9_hasWay 25 = .ok (.ireturn, 1) := by decide +kernel
theorem cw_X9_hasWay : Cw yX9_hasWay cX9_hasWay 2 (some .boolean) 1 := ⟨aw_491, aw_19, ⟨by decide, by decide⟩, by decide +kernel, by decide⟩
theorem gf_9_204 {K : KT} {cc : ByteArray} {nL d pc : Nat} {ret : Option FieldType} {L : List (Option Value)} {st : List Value} {σ : Sg} (C : Cx K layC cc RX9 nL d ret)  (hd : decode cc pc = .ok (.getfield 204, 3)) (k : G K (pc + 3) L (.ref (kad K 8) :: st) (Wd K layC σ)) : G K pc L (.ref (kad K 4) :: st) (Wd K layC σ) := g_get C (o := 4) (ci := 7) (k := 3) hd rfl rfl rfl (by decide) (Or.inr ⟨_, aw_92⟩) inA7 rfl k
def fX9_hasWay_b0 (x1 : Int32) (σ : Sg) : Option (Int32 × Sg) :=
  if inb x1 5 = true then (if inb (rI σ (76 + (x1).toNatClampNeg) 1) 30 = true then (if (rI σ 8 ((rI σ (76 + (x1).toNatClampNeg) 1)).toNatClampNeg) ≤ 0 then (some ((0 : Int32), σ)) else (some ((1 : Int32), σ))) else none) else none
set_option maxRecDepth 4000 in
theorem bX9_hasWay_b0 {K : KT} {x1 : Int32} {σ : Sg} {o : Int32 × Sg} (C : Cx K layC cX9_hasWay RX9 2 (1) (some .boolean))  (hQ : Rk K layC (okI o)) (h : fX9_hasWay_b0 x1 σ = some o) : G K 0 [some (.ref (kad K 0)), some (.int x1)] [] (Wd K layC σ) := by
  unfold fX9_hasWay_b0 at h
  refine g_aload_n C.c dX9_hasWay_0 rfl (i := 0) rfl ?_
  refine gf_9_27 C dX9_hasWay_1 ?_
  refine gf_9_204 C dX9_hasWay_4 ?_
  refine g_aload_n C.c dX9_hasWay_7 rfl (i := 0) rfl ?_
  refine gf_9_37 C dX9_hasWay_8 ?_
  refine g_iload_n C.c dX9_hasWay_11 rfl (i := 1) rfl ?_
  obtain ⟨c1, h⟩ := chk h
  have hs2 := rw_48 (inb_lt c1)
  refine g_aald4 C (b := 76) dX9_hasWay_12 rfl c1 rfl rfl ?_
  refine gf_9_151d C hs2 dX9_hasWay_13 ?_
  obtain ⟨c3, h⟩ := chk h
  refine g_iald C dX9_hasWay_16 rfl c3 ?_
  refine g_if_le C.c (tgt := 24) dX9_hasWay_17 (by decide) (fun c => ?_) (fun c => ?_)
  · replace h := ite_t c h
    refine g_iconst C.c dX9_hasWay_24 (v := (0 : Int32)) (by decide) ?_
    obtain rfl := Option.some.inj h
    exact g_iret C hQ dX9_hasWay_25 rfl ⟨rfl, rfl⟩
  · replace h := ite_f c h
    refine g_iconst C.c dX9_hasWay_20 (v := (1 : Int32)) (by decide) ?_
    refine g_goto C.c (tgt := 25) dX9_hasWay_21 (by decide) ?_
    obtain rfl := Option.some.inj h
    exact g_iret C hQ dX9_hasWay_25 rfl ⟨rfl, rfl⟩
def fX9_hasWay (a0 : Int32) (σ : Sg) : Option (Int32 × Sg) := fX9_hasWay_b0 a0 σ
theorem ct_X9_hasWay {a0 : Int32} {σ : Sg} {p : Int32 × Sg} (h : fX9_hasWay a0 σ = some p) : Ct layC yX9_hasWay cX9_hasWay 2 (some .boolean) 1 (fun ad => [.ref (ad 0), .int a0]) σ (okI p) :=
 ct_of (L0 := fun ad => [some (.ref (ad 0)), some (.int a0)]) (by decide) (fun _ => Nat.le_of_ble_eq_true rfl) (fun _ => rfl) (fun K C hQ => g_mask [true, true] rfl (bX9_hasWay_b0 C hQ h))
-- X9_tow
theorem dX9_tow_0 : decode cX9_tow 0 = .ok (.aload_n 0, 1) := by decide +kernel
theorem dX9_tow_1 : decode cX9_tow 1 = .ok (.iload_n 1, 1) := by decide +kernel
theorem dX9_tow_2 : decode cX9_tow 2 = .ok (.invokevirtual 142, 3) := by decide +kernel
theorem dX9_tow_5 : decode cX9_tow 5 = .ok (.ifCond .ne 6, 3) := by decide +kernel
theorem dX9_tow_8 : decode cX9_tow 8 = .ok (.ldc 175, 2) := by decide +kernel
theorem dX9_tow_10 : decode cX9_tow 10 = .ok (.ireturn, 1) := by decide +kernel
theorem dX9_tow_11 : decode cX9_tow 11 = .ok (.iload 4, 2) := by decide +kernel
theorem dX9_tow_13 : decode cX9_tow 13 = .ok (.bipush 10, 2) := by decide +kernel
theorem dX9_tow_15 : decode cX9_tow 15 = .ok (.if_icmp .lt 14, 3) := by decide +kernel
theorem dX9_tow_18 : decode cX9_tow 18 = .ok (.iload 4, 2) := by decide +kernel
theorem dX9_tow_20 : decode cX9_tow 20 = .ok (.bipush 19, 2) := by decide +kernel
theorem dX9_tow_22 : decode cX9_tow 22 = .ok (.if_icmp .ge 7, 3) := by decide +kernel
theorem dX9_tow_25 : decode cX9_tow 25 = .ok (.iconst 1, 1) := by decide +kernel
theorem dX9_tow_26 : decode cX9_tow 26 = .ok (.goto 4, 3) := by decide +kernel
theorem dX9_tow_29 : decode cX9_tow 29 = .ok (.iconst 0, 1) := by decide +kernel
theorem dX9_tow_30 : decode cX9_tow 30 = .ok (.istore 5, 2) := by decide +kernel
theorem dX9_tow_32 : decode cX9_tow 32 = .ok (.iload_n 2, 1) := by decide +kernel
theorem dX9_tow_33 : decode cX9_tow 33 = .ok (.invokestatic 176, 3) := by decide +kernel
theorem dX9_tow_36 : decode cX9_tow 36 = .ok (.ifCond .eq 19, 3) := by decide +kernel
theorem dX9_tow_39 : decode cX9_tow 39 = .ok (.iload 5, 2) := by decide +kernel
theorem dX9_tow_41 : decode cX9_tow 41 = .ok (.ifCond .ne 17, 3) := by decide +kernel
theorem dX9_tow_44 : decode cX9_tow 44 = .ok (.iload 4, 2) := by decide +kernel
theorem dX9_tow_46 : decode cX9_tow 46 = .ok (.ifCond .lt 9, 3) := by decide +kernel
theorem dX9_tow_49 : decode cX9_tow 49 = .ok (.iload 4, 2) := by decide +kernel
theorem dX9_tow_51 : decode cX9_tow 51 = .ok (.iconst 3, 1) := by decide +kernel
theorem dX9_tow_52 : decode cX9_tow 52 = .ok (.if_icmp .le 6, 3) := by decide +kernel
theorem dX9_tow_55 : decode cX9_tow 55 = .ok (.ldc 179, 2) := by decide +kernel
theorem dX9_tow_57 : decode cX9_tow 57 = .ok (.ireturn, 1) := by decide +kernel
theorem dX9_tow_58 : decode cX9_tow 58 = .ok (.aload_n 0, 1) := by decide +kernel
theorem dX9_tow_59 : decode cX9_tow 59 = .ok (.iload_n 1, 1) := by decide +kernel
theorem dX9_tow_60 : decode cX9_tow 60 = .ok (.invokevirtual 180, 3) := by decide +kernel
theorem dX9_tow_63 : decode cX9_tow 63 = .ok (.ifCond .ne 6, 3) := by decide +kernel
theorem dX9_tow_66 : decode cX9_tow 66 = .ok (.ldc 183, 2) := by decide +kernel
theorem dX9_tow_68 : decode cX9_tow 68 = .ok (.ireturn, 1) := by decide +kernel
theorem dX9_tow_69 : decode cX9_tow 69 = .ok (.aload_n 0, 1) := by decide +kernel
theorem dX9_tow_70 : decode cX9_tow 70 = .ok (.getfield 19, 3) := by decide +kernel
theorem dX9_tow_73 : decode cX9_tow 73 = .ok (.aload_n 0, 1) := by decide +kernel
theorem dX9_tow_74 : decode cX9_tow 74 = .ok (.getfield 37, 3) := by decide +kernel
theorem dX9_tow_77 : decode cX9_tow 77 = .ok (.iload_n 1, 1) := by decide +kernel
theorem dX9_tow_78 : decode cX9_tow 78 = .ok (.aaload, 1) := by decide +kernel
theorem dX9_tow_79 : decode cX9_tow 79 = .ok (.aload_n 0, 1) := by decide +kernel
theorem dX9_tow_80 : decode cX9_tow 80 = .ok (.getfield 37, 3) := by decide +kernel
theorem dX9_tow_83 : decode cX9_tow 83 = .ok (.iload_n 1, 1) := by decide +kernel
theorem dX9_tow_84 : decode cX9_tow 84 = .ok (.aaload, 1) := by decide +kernel
theorem dX9_tow_85 : decode cX9_tow 85 = .ok (.getfield 154, 3) := by decide +kernel
theorem dX9_tow_88 : decode cX9_tow 88 = .ok (.iload_n 2, 1) := by decide +kernel
theorem dX9_tow_89 : decode cX9_tow 89 = .ok (.iload_n 3, 1) := by decide +kernel
theorem dX9_tow_90 : decode cX9_tow 90 = .ok (.invokevirtual 184, 3) := by decide +kernel
theorem dX9_tow_93 : decode cX9_tow 93 = .ok (.iload 4, 2) := by decide +kernel
theorem dX9_tow_95 : decode cX9_tow 95 = .ok (.tableswitch 61 0 3 #[29, 37, 45, 53], 29) := by decide +kernel
theorem dX9_tow_124 : decode cX9_tow 124 = .ok (.aload_n 0, 1) := by decide +kernel
theorem dX9_tow_125 : decode cX9_tow 125 = .ok (.getfield 19, 3) := by decide +kernel
theorem dX9_tow_128 : decode cX9_tow 128 = .ok (.getfield 188, 3) := by decide +kernel
theorem dX9_tow_131 : decode cX9_tow 131 = .ok (.ireturn, 1) := by decide +kernel
theorem dX9_tow_132 : decode cX9_tow 132 = .ok (.aload_n 0, 1) := by decide +kernel
theorem dX9_tow_133 : decode cX9_tow 133 = .ok (.getfield 19, 3) := by decide +kernel
theorem dX9_tow_136 : decode cX9_tow 136 = .ok (.getfield 191, 3) := by decide +kernel
theorem dX9_tow_139 : decode cX9_tow 139 = .ok (.ireturn, 1) := by decide +kernel
theorem dX9_tow_140 : decode cX9_tow 140 = .ok (.aload_n 0, 1) := by decide +kernel
theorem dX9_tow_141 : decode cX9_tow 141 = .ok (.getfield 19, 3) := by decide +kernel
theorem dX9_tow_144 : decode cX9_tow 144 = .ok (.getfield 194, 3) := by decide +kernel
theorem dX9_tow_147 : decode cX9_tow 147 = .ok (.ireturn, 1) := by decide +kernel
theorem dX9_tow_148 : decode cX9_tow 148 = .ok (.aload_n 0, 1) := by decide +kernel
theorem dX9_tow_149 : decode cX9_tow 149 = .ok (.getfield 19, 3) := by decide +kernel
theorem dX9_tow_152 : decode cX9_tow 152 = .ok (.getfield 197, 3) := by decide +kernel
theorem dX9_tow_155 : decode cX9_tow 155 = .ok (.ireturn, 1) := by decide +kernel
theorem dX9_tow_156 : decode cX9_tow 156 = .ok (.aload_n 0, 1) := by decide +kernel
theorem dX9_tow_157 : decode cX9_tow 157 = .ok (.getfield 19, 3) := by decide +kernel
theorem dX9_tow_160 : decode cX9_tow 160 = .ok (.iload 4, 2) := by decide +kernel
theorem dX9_tow_162 : decode cX9_tow 162 = .ok (.bipush 10, 2) := by decide +kernel
theorem dX9_tow_164 : decode cX9_tow 164 = .ok (.isub, 1) := by decide +kernel
theorem dX9_tow_165 : decode cX9_tow 165 = .ok (.invokevirtual 200, 3) := by decide +kernel
theorem dX9_tow_168 : decode cX9_tow 168 = .ok (.ireturn, 1) := by decide +kernel
theorem cw_X9_tow : Cw yX9_tow cX9_tow 6 (some .int) 4 := ⟨aw_482, aw_19, ⟨by decide, by decide⟩, by decide +kernel, by decide⟩
theorem kc_9_176 {K : KT} {cc : ByteArray} {nL d pc : Nat} {ret : Option FieldType} {L : List (Option Value)} {st : List Value} {σ : Sg} (C : Cx K layC cc RX9 nL d ret)  {a0 : Int32}  {p : Int32 × Sg} (hd : decode cc pc = .ok (.invokestatic 176, 3)) (e : fX9_isTugs a0 σ = some p) (hdd : 1 + 1 ≤ d) (hLn : L.length = nL) (hr : (st.map fun v => v.category).sum ≤ 8) (k : G K (pc + 3) L (.int p.1 :: st) (Wd K layC p.2)) : G K pc L (.int a0 :: st) (Wd K layC σ) :=
  g_callS C (As := [.int a0]) (rest := st) hd (ct_X9_isTugs e) cw_X9_isTugs (Or.inl aw_484) aw_485 rfl rfl rfl hdd hLn hr (fun v τ q => by obtain ⟨rfl, rfl⟩ := q; exact k)
theorem kc_9_180 {K : KT} {cc : ByteArray} {nL d pc : Nat} {ret : Option FieldType} {L : List (Option Value)} {st : List Value} {σ : Sg} (C : Cx K layC cc RX9 nL d ret)  {a0 : Int32}  {p : Int32 × Sg} (hd : decode cc pc = .ok (.invokevirtual 180, 3)) (e : fX9_hasWay a0 σ = some p) (hdd : 1 + 1 ≤ d) (hLn : L.length = nL) (hr : (st.map fun v => v.category).sum ≤ 8) (k : G K (pc + 3) L (.int p.1 :: st) (Wd K layC p.2)) : G K pc L (.int a0 :: .ref (kad K 0) :: st) (Wd K layC σ) :=
  g_callV C (As := [.int a0]) (rest := st) (o := 0) (ci := 9) hd (ct_X9_hasWay e) cw_X9_hasWay (Or.inl aw_488) aw_490 aw_8 rfl rfl rfl hdd hLn rfl rfl hr (fun v τ q => by obtain ⟨rfl, rfl⟩ := q; exact k)
theorem gf_9_19 {K : KT} {cc : ByteArray} {nL d pc : Nat} {ret : Option FieldType} {L : List (Option Value)} {st : List Value} {σ : Sg} (C : Cx K layC cc RX9 nL d ret)  (hd : decode cc pc = .ok (.getfield 19, 3)) (k : G K (pc + 3) L (.ref (kad K 3) :: st) (Wd K layC σ)) : G K pc L (.ref (kad K 0) :: st) (Wd K layC σ) := g_get C (o := 0) (ci := 9) (k := 1) hd rfl rfl rfl (by decide) (Or.inl aw_308) inA9 rfl k
theorem kc_9_184 {K : KT} {cc : ByteArray} {nL d pc : Nat} {ret : Option FieldType} {L : List (Option Value)} {st : List Value} {σ : Sg} (C : Cx K layC cc RX9 nL d ret)  {q0 : Nat} {a1 : Int32} {a2 : Int32} {a3 : Int32} (hYq0 : layC[q0]? = some (0, 0, slX0)) {p : Sg} (hd : decode cc pc = .ok (.invokevirtual 184, 3)) (e : fX8_seek q0 a1 a2 a3 σ = some p) (hdd : 15 + 1 ≤ d) (hLn : L.length = nL) (hr : (st.map fun v => v.category).sum ≤ 8) (k : G K (pc + 3) L (st) (Wd K layC p)) : G K pc L (.int a3 :: .int a2 :: .int a1 :: .ref (kad K q0) :: .ref (kad K 3) :: st) (Wd K layC σ) :=
  g_callV C (As := [.ref (kad K q0), .int a1, .int a2, .int a3]) (rest := st) (o := 3) (ci := 8) hd (ct_X8_seek hYq0 e) cw_X8_seek (Or.inl aw_493) aw_494 aw_495 rfl rfl rfl hdd hLn rfl rfl hr (fun v τ q => by obtain ⟨rfl, rfl⟩ := q; exact k)
theorem gf_9_188 {K : KT} {cc : ByteArray} {nL d pc : Nat} {ret : Option FieldType} {L : List (Option Value)} {st : List Value} {σ : Sg} (C : Cx K layC cc RX9 nL d ret)  (hd : decode cc pc = .ok (.getfield 188, 3)) (k : G K (pc + 3) L (.int (rI σ 3 11) :: st) (Wd K layC σ)) : G K pc L (.ref (kad K 3) :: st) (Wd K layC σ) := g_get C (o := 3) (ci := 8) (k := 11) hd rfl rfl rfl (by decide) (Or.inr ⟨_, aw_174⟩) inA8 rfl k
theorem gf_9_191 {K : KT} {cc : ByteArray} {nL d pc : Nat} {ret : Option FieldType} {L : List (Option Value)} {st : List Value} {σ : Sg} (C : Cx K layC cc RX9 nL d ret)  (hd : decode cc pc = .ok (.getfield 191, 3)) (k : G K (pc + 3) L (.int (rI σ 3 12) :: st) (Wd K layC σ)) : G K pc L (.ref (kad K 3) :: st) (Wd K layC σ) := g_get C (o := 3) (ci := 8) (k := 12) hd rfl rfl rfl (by decide) (Or.inr ⟨_, aw_176⟩) inA8 rfl k
theorem gf_9_194 {K : KT} {cc : ByteArray} {nL d pc : Nat} {ret : Option FieldType} {L : List (Option Value)} {st : List Value} {σ : Sg} (C : Cx K layC cc RX9 nL d ret)  (hd : decode cc pc = .ok (.getfield 194, 3)) (k : G K (pc + 3) L (.int (rI σ 3 13) :: st) (Wd K layC σ)) : G K pc L (.ref (kad K 3) :: st) (Wd K layC σ) := g_get C (o := 3) (ci := 8) (k := 13) hd rfl rfl rfl (by decide) (Or.inr ⟨_, aw_178⟩) inA8 rfl k
theorem gf_9_197 {K : KT} {cc : ByteArray} {nL d pc : Nat} {ret : Option FieldType} {L : List (Option Value)} {st : List Value} {σ : Sg} (C : Cx K layC cc RX9 nL d ret)  (hd : decode cc pc = .ok (.getfield 197, 3)) (k : G K (pc + 3) L (.int (rI σ 3 14) :: st) (Wd K layC σ)) : G K pc L (.ref (kad K 3) :: st) (Wd K layC σ) := g_get C (o := 3) (ci := 8) (k := 14) hd rfl rfl rfl (by decide) (Or.inr ⟨_, aw_180⟩) inA8 rfl k
theorem kc_9_200 {K : KT} {cc : ByteArray} {nL d pc : Nat} {ret : Option FieldType} {L : List (Option Value)} {st : List Value} {σ : Sg} (C : Cx K layC cc RX9 nL d ret)  {a0 : Int32}  {p : Int32 × Sg} (hd : decode cc pc = .ok (.invokevirtual 200, 3)) (e : fX8_stepAt a0 σ = some p) (hdd : 1 + 1 ≤ d) (hLn : L.length = nL) (hr : (st.map fun v => v.category).sum ≤ 8) (k : G K (pc + 3) L (.int p.1 :: st) (Wd K layC p.2)) : G K pc L (.int a0 :: .ref (kad K 3) :: st) (Wd K layC σ) :=
  g_callV C (As := [.int a0]) (rest := st) (o := 3) (ci := 8) hd (ct_X8_stepAt e) cw_X8_stepAt (Or.inl aw_541) aw_542 aw_543 rfl rfl rfl hdd hLn rfl rfl hr (fun v τ q => by obtain ⟨rfl, rfl⟩ := q; exact k)
def fX9_tow_b58 (x1 : Int32) (x2 : Int32) (x3 : Int32) (x4 : Int32) (σ : Sg) : Option (Int32 × Sg) :=
  Option.bind (fX9_hasWay x1 σ) fun p5 => (if p5.1 = 0 then (some ((-100001 : Int32), p5.2)) else (if inb x1 5 = true then (if inb x1 5 = true then (Option.bind (fX8_seek (76 + (x1).toNatClampNeg) (rI p5.2 (76 + (x1).toNatClampNeg) 2) x2 x3 p5.2) fun p11 => (if x4 = (0 : Int32) then (some ((rI p11 3 11), p11)) else (if x4 = (1 : Int32) then (some ((rI p11 3 12), p11)) else (if x4 = (2 : Int32) then (some ((rI p11 3 13), p11)) else (if x4 = (3 : Int32) then (some ((rI p11 3 14), p11)) else (Option.bind (fX8_stepAt (x4 - (10 : Int32)) p11) fun p13 => (some (p13.1, p13.2)))))))) else none) else none))
def fX9_tow_b30 (x1 : Int32) (x2 : Int32) (x3 : Int32) (x4 : Int32) (y0 : Int32) (σ : Sg) : Option (Int32 × Sg) :=
  Option.bind (fX9_isTugs x2 σ) fun p3 => (if p3.1 = 0 then (some ((-100102 : Int32), p3.2)) else (if y0 = 0 then (if x4 < 0 then (some ((-100102 : Int32), p3.2)) else (if x4 ≤ (3 : Int32) then (fX9_tow_b58 x1 x2 x3 x4 p3.2) else (some ((-100102 : Int32), p3.2)))) else (fX9_tow_b58 x1 x2 x3 x4 p3.2)))
def fX9_tow_b29 (x1 : Int32) (x2 : Int32) (x3 : Int32) (x4 : Int32) (σ : Sg) : Option (Int32 × Sg) :=
  fX9_tow_b30 x1 x2 x3 x4 (0 : Int32) σ
def fX9_tow_b0 (x1 : Int32) (x2 : Int32) (x3 : Int32) (x4 : Int32) (σ : Sg) : Option (Int32 × Sg) :=
  Option.bind (fX9_isBerg x1 σ) fun p1 => (if p1.1 = 0 then (some ((-100101 : Int32), p1.2)) else (if x4 < (10 : Int32) then (fX9_tow_b29 x1 x2 x3 x4 p1.2) else (if (19 : Int32) ≤ x4 then (fX9_tow_b29 x1 x2 x3 x4 p1.2) else (fX9_tow_b30 x1 x2 x3 x4 (1 : Int32) p1.2))))
set_option maxRecDepth 4000 in
theorem bX9_tow_b58 {K : KT} {x1 : Int32} {x2 : Int32} {x3 : Int32} {x4 : Int32} {σ : Sg} {o : Int32 × Sg} (C : Cx K layC cX9_tow RX9 6 (16) (some .int))  (hQ : Rk K layC (okI o)) (h : fX9_tow_b58 x1 x2 x3 x4 σ = some o) : G K 58 [some (.ref (kad K 0)), some (.int x1), some (.int x2), some (.int x3), some (.int x4), none] [] (Wd K layC σ) := by
  unfold fX9_tow_b58 at h
  refine g_aload_n C.c dX9_tow_58 rfl (i := 0) rfl ?_
  refine g_iload_n C.c dX9_tow_59 rfl (i := 1) rfl ?_
  obtain ⟨p5, e6, h⟩ := Option.bind_eq_some_iff.mp h
  refine kc_9_180 C dX9_tow_60 e6 (Nat.le_of_ble_eq_true rfl) rfl (Nat.le_of_ble_eq_true rfl) ?_
  refine g_if_ne C.c (tgt := 69) dX9_tow_63 (by decide) (fun c => ?_) (fun c => ?_)
  · replace h := ite_f c h
    refine g_aload_n C.c dX9_tow_69 rfl (i := 0) rfl ?_
    refine gf_9_19 C dX9_tow_70 ?_
    refine g_aload_n C.c dX9_tow_73 rfl (i := 0) rfl ?_
    refine gf_9_37 C dX9_tow_74 ?_
    refine g_iload_n C.c dX9_tow_77 rfl (i := 1) rfl ?_
    obtain ⟨c7, h⟩ := chk h
    have hs8 := rw_48 (inb_lt c7)
    refine g_aald4 C (b := 76) dX9_tow_78 rfl c7 rfl rfl ?_
    refine g_aload_n C.c dX9_tow_79 rfl (i := 0) rfl ?_
    refine gf_9_37 C dX9_tow_80 ?_
    refine g_iload_n C.c dX9_tow_83 rfl (i := 1) rfl ?_
    obtain ⟨c9, h⟩ := chk h
    have hs10 := rw_48 (inb_lt c9)
    refine g_aald4 C (b := 76) dX9_tow_84 rfl c9 rfl rfl ?_
    refine gf_9_154d C hs10 dX9_tow_85 ?_
    refine g_iload_n C.c dX9_tow_88 rfl (i := 2) rfl ?_
    refine g_iload_n C.c dX9_tow_89 rfl (i := 3) rfl ?_
    obtain ⟨p11, e12, h⟩ := Option.bind_eq_some_iff.mp h
    refine kc_9_184 C hs8 dX9_tow_90 e12 (Nat.le_of_ble_eq_true rfl) rfl (Nat.le_of_ble_eq_true rfl) ?_
    refine g_iload C.c dX9_tow_93 (i := 4) rfl ?_
    by_cases c0 : x4 = (0 : Int32)
    · replace h := ite_t c0 h
      refine g_tblIn C.c (tgt := 124) (off := 29) c0 dX9_tow_95 (by decide) (by decide) (by decide) (by decide) ?_
      refine g_aload_n C.c dX9_tow_124 rfl (i := 0) rfl ?_
      refine gf_9_19 C dX9_tow_125 ?_
      refine gf_9_188 C dX9_tow_128 ?_
      obtain rfl := Option.some.inj h
      exact g_iret C hQ dX9_tow_131 rfl ⟨rfl, rfl⟩
    · replace h := ite_f c0 h
      by_cases c1 : x4 = (1 : Int32)
      · replace h := ite_t c1 h
        refine g_tblIn C.c (tgt := 132) (off := 37) c1 dX9_tow_95 (by decide) (by decide) (by decide) (by decide) ?_
        refine g_aload_n C.c dX9_tow_132 rfl (i := 0) rfl ?_
        refine gf_9_19 C dX9_tow_133 ?_
        refine gf_9_191 C dX9_tow_136 ?_
        obtain rfl := Option.some.inj h
        exact g_iret C hQ dX9_tow_139 rfl ⟨rfl, rfl⟩
      · replace h := ite_f c1 h
        by_cases c2 : x4 = (2 : Int32)
        · replace h := ite_t c2 h
          refine g_tblIn C.c (tgt := 140) (off := 45) c2 dX9_tow_95 (by decide) (by decide) (by decide) (by decide) ?_
          refine g_aload_n C.c dX9_tow_140 rfl (i := 0) rfl ?_
          refine gf_9_19 C dX9_tow_141 ?_
          refine gf_9_194 C dX9_tow_144 ?_
          obtain rfl := Option.some.inj h
          exact g_iret C hQ dX9_tow_147 rfl ⟨rfl, rfl⟩
        · replace h := ite_f c2 h
          by_cases c3 : x4 = (3 : Int32)
          · replace h := ite_t c3 h
            refine g_tblIn C.c (tgt := 148) (off := 53) c3 dX9_tow_95 (by decide) (by decide) (by decide) (by decide) ?_
            refine g_aload_n C.c dX9_tow_148 rfl (i := 0) rfl ?_
            refine gf_9_19 C dX9_tow_149 ?_
            refine gf_9_197 C dX9_tow_152 ?_
            obtain rfl := Option.some.inj h
            exact g_iret C hQ dX9_tow_155 rfl ⟨rfl, rfl⟩
          · replace h := ite_f c3 h
            refine g_tblOut C.c (tgt := 156) [(0 : Int32), (1 : Int32), (2 : Int32), (3 : Int32)] (by decide) ⟨c0, c1, c2, c3, trivial⟩ dX9_tow_95 (by decide) ?_
            refine g_aload_n C.c dX9_tow_156 rfl (i := 0) rfl ?_
            refine gf_9_19 C dX9_tow_157 ?_
            refine g_iload C.c dX9_tow_160 (i := 4) rfl ?_
            refine g_bipush C.c dX9_tow_162 (v := (10 : Int32)) (by decide) ?_
            refine g_isub C.c dX9_tow_164 ?_
            obtain ⟨p13, e14, h⟩ := Option.bind_eq_some_iff.mp h
            refine kc_9_200 C dX9_tow_165 e14 (Nat.le_of_ble_eq_true rfl) rfl (Nat.le_of_ble_eq_true rfl) ?_
            obtain rfl := Option.some.inj h
            exact g_iret C hQ dX9_tow_168 rfl ⟨rfl, rfl⟩
  · replace h := ite_t c h
    refine g_ldc C.c (v := (-100001 : Int32)) aw_492 dX9_tow_66 ?_
    obtain rfl := Option.some.inj h
    exact g_iret C hQ dX9_tow_68 rfl ⟨rfl, rfl⟩
set_option maxRecDepth 4000 in
theorem bX9_tow_b30 {K : KT} {x1 : Int32} {x2 : Int32} {x3 : Int32} {x4 : Int32} {y0 : Int32} {σ : Sg} {o : Int32 × Sg} (C : Cx K layC cX9_tow RX9 6 (16) (some .int))  (hQ : Rk K layC (okI o)) (h : fX9_tow_b30 x1 x2 x3 x4 y0 σ = some o) : G K 30 [some (.ref (kad K 0)), some (.int x1), some (.int x2), some (.int x3), some (.int x4), none] [.int y0] (Wd K layC σ) := by
  unfold fX9_tow_b30 at h
  refine g_istore C.c (i := 5) (L' := [some (.ref (kad K 0)), some (.int x1), some (.int x2), some (.int x3), some (.int x4), some (.int y0)]) dX9_tow_30 (Nat.le_of_ble_eq_true rfl) rfl ?_
  refine g_iload_n C.c dX9_tow_32 rfl (i := 2) rfl ?_
  obtain ⟨p3, e4, h⟩ := Option.bind_eq_some_iff.mp h
  refine kc_9_176 C dX9_tow_33 e4 (Nat.le_of_ble_eq_true rfl) rfl (Nat.le_of_ble_eq_true rfl) ?_
  refine g_if_eq C.c (tgt := 55) dX9_tow_36 (by decide) (fun c => ?_) (fun c => ?_)
  · replace h := ite_t c h
    refine g_ldc C.c (v := (-100102 : Int32)) aw_487 dX9_tow_55 ?_
    obtain rfl := Option.some.inj h
    exact g_iret C hQ dX9_tow_57 rfl ⟨rfl, rfl⟩
  · replace h := ite_f c h
    refine g_iload C.c dX9_tow_39 (i := 5) rfl ?_
    refine g_if_ne C.c (tgt := 58) dX9_tow_41 (by decide) (fun c => ?_) (fun c => ?_)
    · replace h := ite_f c h
      exact g_mask [true, true, true, true, true, false] rfl (bX9_tow_b58 C hQ h)
    · replace h := ite_t c h
      refine g_iload C.c dX9_tow_44 (i := 4) rfl ?_
      refine g_if_lt C.c (tgt := 55) dX9_tow_46 (by decide) (fun c => ?_) (fun c => ?_)
      · replace h := ite_t c h
        refine g_ldc C.c (v := (-100102 : Int32)) aw_487 dX9_tow_55 ?_
        obtain rfl := Option.some.inj h
        exact g_iret C hQ dX9_tow_57 rfl ⟨rfl, rfl⟩
      · replace h := ite_f c h
        refine g_iload C.c dX9_tow_49 (i := 4) rfl ?_
        refine g_iconst C.c dX9_tow_51 (v := (3 : Int32)) (by decide) ?_
        refine g_icmp_le C.c (tgt := 58) dX9_tow_52 (by decide) (fun c => ?_) (fun c => ?_)
        · replace h := ite_t c h
          exact g_mask [true, true, true, true, true, false] rfl (bX9_tow_b58 C hQ h)
        · replace h := ite_f c h
          refine g_ldc C.c (v := (-100102 : Int32)) aw_487 dX9_tow_55 ?_
          obtain rfl := Option.some.inj h
          exact g_iret C hQ dX9_tow_57 rfl ⟨rfl, rfl⟩
set_option maxRecDepth 4000 in
theorem bX9_tow_b29 {K : KT} {x1 : Int32} {x2 : Int32} {x3 : Int32} {x4 : Int32} {σ : Sg} {o : Int32 × Sg} (C : Cx K layC cX9_tow RX9 6 (16) (some .int))  (hQ : Rk K layC (okI o)) (h : fX9_tow_b29 x1 x2 x3 x4 σ = some o) : G K 29 [some (.ref (kad K 0)), some (.int x1), some (.int x2), some (.int x3), some (.int x4), none] [] (Wd K layC σ) := by
  unfold fX9_tow_b29 at h
  refine g_iconst C.c dX9_tow_29 (v := (0 : Int32)) (by decide) ?_
  exact g_mask [true, true, true, true, true, false] rfl (bX9_tow_b30 C hQ h)
set_option maxRecDepth 4000 in
theorem bX9_tow_b0 {K : KT} {x1 : Int32} {x2 : Int32} {x3 : Int32} {x4 : Int32} {σ : Sg} {o : Int32 × Sg} (C : Cx K layC cX9_tow RX9 6 (16) (some .int))  (hQ : Rk K layC (okI o)) (h : fX9_tow_b0 x1 x2 x3 x4 σ = some o) : G K 0 [some (.ref (kad K 0)), some (.int x1), some (.int x2), some (.int x3), some (.int x4), none] [] (Wd K layC σ) := by
  unfold fX9_tow_b0 at h
  refine g_aload_n C.c dX9_tow_0 rfl (i := 0) rfl ?_
  refine g_iload_n C.c dX9_tow_1 rfl (i := 1) rfl ?_
  obtain ⟨p1, e2, h⟩ := Option.bind_eq_some_iff.mp h
  refine kc_9_142 C dX9_tow_2 e2 (Nat.le_of_ble_eq_true rfl) rfl (Nat.le_of_ble_eq_true rfl) ?_
  refine g_if_ne C.c (tgt := 11) dX9_tow_5 (by decide) (fun c => ?_) (fun c => ?_)
  · replace h := ite_f c h
    refine g_iload C.c dX9_tow_11 (i := 4) rfl ?_
    refine g_bipush C.c dX9_tow_13 (v := (10 : Int32)) (by decide) ?_
    refine g_icmp_lt C.c (tgt := 29) dX9_tow_15 (by decide) (fun c => ?_) (fun c => ?_)
    · replace h := ite_t c h
      exact g_mask [true, true, true, true, true, false] rfl (bX9_tow_b29 C hQ h)
    · replace h := ite_f c h
      refine g_iload C.c dX9_tow_18 (i := 4) rfl ?_
      refine g_bipush C.c dX9_tow_20 (v := (19 : Int32)) (by decide) ?_
      refine g_icmp_ge C.c (tgt := 29) dX9_tow_22 (by decide) (fun c => ?_) (fun c => ?_)
      · replace h := ite_t c h
        exact g_mask [true, true, true, true, true, false] rfl (bX9_tow_b29 C hQ h)
      · replace h := ite_f c h
        refine g_iconst C.c dX9_tow_25 (v := (1 : Int32)) (by decide) ?_
        refine g_goto C.c (tgt := 30) dX9_tow_26 (by decide) ?_
        exact g_mask [true, true, true, true, true, false] rfl (bX9_tow_b30 C hQ h)
  · replace h := ite_t c h
    refine g_ldc C.c (v := (-100101 : Int32)) aw_483 dX9_tow_8 ?_
    obtain rfl := Option.some.inj h
    exact g_iret C hQ dX9_tow_10 rfl ⟨rfl, rfl⟩
def fX9_tow (a0 : Int32) (a1 : Int32) (a2 : Int32) (a3 : Int32) (σ : Sg) : Option (Int32 × Sg) := fX9_tow_b0 a0 a1 a2 a3 σ
theorem ct_X9_tow {a0 : Int32} {a1 : Int32} {a2 : Int32} {a3 : Int32} {σ : Sg} {p : Int32 × Sg} (h : fX9_tow a0 a1 a2 a3 σ = some p) : Ct layC yX9_tow cX9_tow 6 (some .int) 16 (fun ad => [.ref (ad 0), .int a0, .int a1, .int a2, .int a3]) σ (okI p) :=
 ct_of (L0 := fun ad => [some (.ref (ad 0)), some (.int a0), some (.int a1), some (.int a2), some (.int a3), none]) (by decide) (fun _ => Nat.le_of_ble_eq_true rfl) (fun _ => rfl) (fun K C hQ => g_mask [true, true, true, true, true, false] rfl (bX9_tow_b0 C hQ h))
-- X9_ways
theorem dX9_ways_0 : decode cX9_ways 0 = .ok (.aload_n 0, 1) := by decide +kernel
theorem dX9_ways_1 : decode cX9_ways 1 = .ok (.iload_n 1, 1) := by decide +kernel
theorem dX9_ways_2 : decode cX9_ways 2 = .ok (.invokevirtual 142, 3) := by decide +kernel
theorem dX9_ways_5 : decode cX9_ways 5 = .ok (.ifCond .eq 23, 3) := by decide +kernel
theorem dX9_ways_8 : decode cX9_ways 8 = .ok (.aload_n 0, 1) := by decide +kernel
theorem dX9_ways_9 : decode cX9_ways 9 = .ok (.getfield 27, 3) := by decide +kernel
theorem dX9_ways_12 : decode cX9_ways 12 = .ok (.getfield 204, 3) := by decide +kernel
theorem dX9_ways_15 : decode cX9_ways 15 = .ok (.aload_n 0, 1) := by decide +kernel
theorem dX9_ways_16 : decode cX9_ways 16 = .ok (.getfield 37, 3) := by decide +kernel
theorem dX9_ways_19 : decode cX9_ways 19 = .ok (.iload_n 1, 1) := by decide +kernel
theorem dX9_ways_20 : decode cX9_ways 20 = .ok (.aaload, 1) := by decide +kernel
theorem dX9_ways_21 : decode cX9_ways 21 = .ok (.getfield 151, 3) := by decide +kernel
theorem dX9_ways_24 : decode cX9_ways 24 = .ok (.iaload, 1) := by decide +kernel
theorem dX9_ways_25 : decode cX9_ways 25 = .ok (.goto 5, 3) := by decide +kernel
theorem dX9_ways_28 : decode cX9_ways 28 = .ok (.bipush (-101), 2) := by decide +kernel
theorem dX9_ways_30 : decode cX9_ways 30 = .ok (.ireturn, 1) := by decide +kernel
theorem cw_X9_ways : Cw yX9_ways cX9_ways 2 (some .int) 1 := ⟨aw_548, aw_19, ⟨by decide, by decide⟩, by decide +kernel, by decide⟩
def fX9_ways_b0 (x1 : Int32) (σ : Sg) : Option (Int32 × Sg) :=
  Option.bind (fX9_isBerg x1 σ) fun p1 => (if p1.1 = 0 then (some ((-101 : Int32), p1.2)) else (if inb x1 5 = true then (if inb (rI p1.2 (76 + (x1).toNatClampNeg) 1) 30 = true then (some ((rI p1.2 8 ((rI p1.2 (76 + (x1).toNatClampNeg) 1)).toNatClampNeg), p1.2)) else none) else none))
set_option maxRecDepth 4000 in
theorem bX9_ways_b0 {K : KT} {x1 : Int32} {σ : Sg} {o : Int32 × Sg} (C : Cx K layC cX9_ways RX9 2 (2) (some .int))  (hQ : Rk K layC (okI o)) (h : fX9_ways_b0 x1 σ = some o) : G K 0 [some (.ref (kad K 0)), some (.int x1)] [] (Wd K layC σ) := by
  unfold fX9_ways_b0 at h
  refine g_aload_n C.c dX9_ways_0 rfl (i := 0) rfl ?_
  refine g_iload_n C.c dX9_ways_1 rfl (i := 1) rfl ?_
  obtain ⟨p1, e2, h⟩ := Option.bind_eq_some_iff.mp h
  refine kc_9_142 C dX9_ways_2 e2 (Nat.le_of_ble_eq_true rfl) rfl (Nat.le_of_ble_eq_true rfl) ?_
  refine g_if_eq C.c (tgt := 28) dX9_ways_5 (by decide) (fun c => ?_) (fun c => ?_)
  · replace h := ite_t c h
    refine g_bipush C.c dX9_ways_28 (v := (-101 : Int32)) (by decide) ?_
    obtain rfl := Option.some.inj h
    exact g_iret C hQ dX9_ways_30 rfl ⟨rfl, rfl⟩
  · replace h := ite_f c h
    refine g_aload_n C.c dX9_ways_8 rfl (i := 0) rfl ?_
    refine gf_9_27 C dX9_ways_9 ?_
    refine gf_9_204 C dX9_ways_12 ?_
    refine g_aload_n C.c dX9_ways_15 rfl (i := 0) rfl ?_
    refine gf_9_37 C dX9_ways_16 ?_
    refine g_iload_n C.c dX9_ways_19 rfl (i := 1) rfl ?_
    obtain ⟨c3, h⟩ := chk h
    have hs4 := rw_48 (inb_lt c3)
    refine g_aald4 C (b := 76) dX9_ways_20 rfl c3 rfl rfl ?_
    refine gf_9_151d C hs4 dX9_ways_21 ?_
    obtain ⟨c5, h⟩ := chk h
    refine g_iald C dX9_ways_24 rfl c5 ?_
    refine g_goto C.c (tgt := 30) dX9_ways_25 (by decide) ?_
    obtain rfl := Option.some.inj h
    exact g_iret C hQ dX9_ways_30 rfl ⟨rfl, rfl⟩
def fX9_ways (a0 : Int32) (σ : Sg) : Option (Int32 × Sg) := fX9_ways_b0 a0 σ
theorem ct_X9_ways {a0 : Int32} {σ : Sg} {p : Int32 × Sg} (h : fX9_ways a0 σ = some p) : Ct layC yX9_ways cX9_ways 2 (some .int) 2 (fun ad => [.ref (ad 0), .int a0]) σ (okI p) :=
 ct_of (L0 := fun ad => [some (.ref (ad 0)), some (.int a0)]) (by decide) (fun _ => Nat.le_of_ble_eq_true rfl) (fun _ => rfl) (fun K C hQ => g_mask [true, true] rfl (bX9_ways_b0 C hQ h))
-- X9_weigh
theorem dX9_weigh_0 : decode cX9_weigh 0 = .ok (.aload_n 0, 1) := by decide +kernel
theorem dX9_weigh_1 : decode cX9_weigh 1 = .ok (.getfield 58, 3) := by decide +kernel
theorem dX9_weigh_4 : decode cX9_weigh 4 = .ok (.getfield 340, 3) := by decide +kernel
theorem dX9_weigh_7 : decode cX9_weigh 7 = .ok (.iload_n 1, 1) := by decide +kernel
theorem dX9_weigh_8 : decode cX9_weigh 8 = .ok (.baload, 1) := by decide +kernel
theorem dX9_weigh_9 : decode cX9_weigh 9 = .ok (.ifCond .eq 4, 3) := by decide +kernel
theorem dX9_weigh_12 : decode cX9_weigh 12 = .ok (.return_, 1) := by decide +kernel
theorem dX9_weigh_13 : decode cX9_weigh 13 = .ok (.aload_n 0, 1) := by decide +kernel
theorem dX9_weigh_14 : decode cX9_weigh 14 = .ok (.getfield 58, 3) := by decide +kernel
theorem dX9_weigh_17 : decode cX9_weigh 17 = .ok (.getfield 340, 3) := by decide +kernel
theorem dX9_weigh_20 : decode cX9_weigh 20 = .ok (.iload_n 1, 1) := by decide +kernel
theorem dX9_weigh_21 : decode cX9_weigh 21 = .ok (.iconst 1, 1) := by decide +kernel
theorem dX9_weigh_22 : decode cX9_weigh 22 = .ok (.bastore, 1) := by decide +kernel
theorem dX9_weigh_23 : decode cX9_weigh 23 = .ok (.aload_n 0, 1) := by decide +kernel
theorem dX9_weigh_24 : decode cX9_weigh 24 = .ok (.getfield 58, 3) := by decide +kernel
theorem dX9_weigh_27 : decode cX9_weigh 27 = .ok (.getfield 344, 3) := by decide +kernel
theorem dX9_weigh_30 : decode cX9_weigh 30 = .ok (.iload_n 1, 1) := by decide +kernel
theorem dX9_weigh_31 : decode cX9_weigh 31 = .ok (.aload_n 0, 1) := by decide +kernel
theorem dX9_weigh_32 : decode cX9_weigh 32 = .ok (.iload_n 1, 1) := by decide +kernel
theorem dX9_weigh_33 : decode cX9_weigh 33 = .ok (.invokevirtual 180, 3) := by decide +kernel
theorem dX9_weigh_36 : decode cX9_weigh 36 = .ok (.bastore, 1) := by decide +kernel
theorem dX9_weigh_37 : decode cX9_weigh 37 = .ok (.aload_n 0, 1) := by decide +kernel
theorem dX9_weigh_38 : decode cX9_weigh 38 = .ok (.getfield 58, 3) := by decide +kernel
theorem dX9_weigh_41 : decode cX9_weigh 41 = .ok (.getfield 344, 3) := by decide +kernel
theorem dX9_weigh_44 : decode cX9_weigh 44 = .ok (.iload_n 1, 1) := by decide +kernel
theorem dX9_weigh_45 : decode cX9_weigh 45 = .ok (.baload, 1) := by decide +kernel
theorem dX9_weigh_46 : decode cX9_weigh 46 = .ok (.ifCond .ne 4, 3) := by decide +kernel
theorem dX9_weigh_49 : decode cX9_weigh 49 = .ok (.return_, 1) := by decide +kernel
theorem dX9_weigh_50 : decode cX9_weigh 50 = .ok (.iconst 2, 1) := by decide +kernel
theorem dX9_weigh_51 : decode cX9_weigh 51 = .ok (.istore_n 2, 1) := by decide +kernel
theorem dX9_weigh_52 : decode cX9_weigh 52 = .ok (.iload_n 2, 1) := by decide +kernel
theorem dX9_weigh_53 : decode cX9_weigh 53 = .ok (.bipush 24, 2) := by decide +kernel
theorem dX9_weigh_55 : decode cX9_weigh 55 = .ok (.if_icmp .ge 57, 3) := by decide +kernel
theorem dX9_weigh_58 : decode cX9_weigh 58 = .ok (.aload_n 0, 1) := by decide +kernel
theorem dX9_weigh_59 : decode cX9_weigh 59 = .ok (.getfield 19, 3) := by decide +kernel
theorem dX9_weigh_62 : decode cX9_weigh 62 = .ok (.aload_n 0, 1) := by decide +kernel
theorem dX9_weigh_63 : decode cX9_weigh 63 = .ok (.getfield 37, 3) := by decide +kernel
theorem dX9_weigh_66 : decode cX9_weigh 66 = .ok (.iload_n 1, 1) := by decide +kernel
theorem dX9_weigh_67 : decode cX9_weigh 67 = .ok (.aaload, 1) := by decide +kernel
theorem dX9_weigh_68 : decode cX9_weigh 68 = .ok (.aload_n 0, 1) := by decide +kernel
theorem dX9_weigh_69 : decode cX9_weigh 69 = .ok (.getfield 37, 3) := by decide +kernel
theorem dX9_weigh_72 : decode cX9_weigh 72 = .ok (.iload_n 1, 1) := by decide +kernel
theorem dX9_weigh_73 : decode cX9_weigh 73 = .ok (.aaload, 1) := by decide +kernel
theorem dX9_weigh_74 : decode cX9_weigh 74 = .ok (.getfield 154, 3) := by decide +kernel
theorem dX9_weigh_77 : decode cX9_weigh 77 = .ok (.iload_n 2, 1) := by decide +kernel
theorem dX9_weigh_78 : decode cX9_weigh 78 = .ok (.invokestatic 213, 3) := by decide +kernel
theorem dX9_weigh_81 : decode cX9_weigh 81 = .ok (.iload_n 2, 1) := by decide +kernel
theorem dX9_weigh_82 : decode cX9_weigh 82 = .ok (.invokestatic 216, 3) := by decide +kernel
theorem dX9_weigh_85 : decode cX9_weigh 85 = .ok (.invokevirtual 184, 3) := by decide +kernel
theorem dX9_weigh_88 : decode cX9_weigh 88 = .ok (.aload_n 0, 1) := by decide +kernel
theorem dX9_weigh_89 : decode cX9_weigh 89 = .ok (.getfield 58, 3) := by decide +kernel
theorem dX9_weigh_92 : decode cX9_weigh 92 = .ok (.getfield 219, 3) := by decide +kernel
theorem dX9_weigh_95 : decode cX9_weigh 95 = .ok (.iload_n 1, 1) := by decide +kernel
theorem dX9_weigh_96 : decode cX9_weigh 96 = .ok (.aaload, 1) := by decide +kernel
theorem dX9_weigh_97 : decode cX9_weigh 97 = .ok (.iload_n 2, 1) := by decide +kernel
theorem dX9_weigh_98 : decode cX9_weigh 98 = .ok (.aload_n 0, 1) := by decide +kernel
theorem dX9_weigh_99 : decode cX9_weigh 99 = .ok (.getfield 19, 3) := by decide +kernel
theorem dX9_weigh_102 : decode cX9_weigh 102 = .ok (.getfield 194, 3) := by decide +kernel
theorem dX9_weigh_105 : decode cX9_weigh 105 = .ok (.iastore, 1) := by decide +kernel
theorem dX9_weigh_106 : decode cX9_weigh 106 = .ok (.iinc 2 1, 3) := by decide +kernel
theorem dX9_weigh_109 : decode cX9_weigh 109 = .ok (.goto (-57), 3) := by decide +kernel
theorem dX9_weigh_112 : decode cX9_weigh 112 = .ok (.return_, 1) := by decide +kernel
theorem cw_X9_weigh : Cw yX9_weigh cX9_weigh 3 none 1 := ⟨aw_556, aw_19, ⟨by decide, by decide⟩, by decide +kernel, by decide⟩
theorem gf_9_340 {K : KT} {cc : ByteArray} {nL d pc : Nat} {ret : Option FieldType} {L : List (Option Value)} {st : List Value} {σ : Sg} (C : Cx K layC cc RX9 nL d ret)  (hd : decode cc pc = .ok (.getfield 340, 3)) (k : G K (pc + 3) L (.ref (kad K 65) :: st) (Wd K layC σ)) : G K pc L (.ref (kad K 58) :: st) (Wd K layC σ) := g_get C (o := 58) (ci := 3) (k := 1) hd rfl rfl rfl (by decide) (Or.inr ⟨_, aw_274⟩) inA3 rfl k
theorem gf_9_344 {K : KT} {cc : ByteArray} {nL d pc : Nat} {ret : Option FieldType} {L : List (Option Value)} {st : List Value} {σ : Sg} (C : Cx K layC cc RX9 nL d ret)  (hd : decode cc pc = .ok (.getfield 344, 3)) (k : G K (pc + 3) L (.ref (kad K 66) :: st) (Wd K layC σ)) : G K pc L (.ref (kad K 58) :: st) (Wd K layC σ) := g_get C (o := 58) (ci := 3) (k := 2) hd rfl rfl rfl (by decide) (Or.inr ⟨_, aw_276⟩) inA3 rfl k
theorem kc_9_213 {K : KT} {cc : ByteArray} {nL d pc : Nat} {ret : Option FieldType} {L : List (Option Value)} {st : List Value} {σ : Sg} (C : Cx K layC cc RX9 nL d ret)  {a0 : Int32}  {p : Int32 × Sg} (hd : decode cc pc = .ok (.invokestatic 213, 3)) (e : fX3_tugsOf a0 σ = some p) (hdd : 1 + 1 ≤ d) (hLn : L.length = nL) (hr : (st.map fun v => v.category).sum ≤ 8) (k : G K (pc + 3) L (.int p.1 :: st) (Wd K layC p.2)) : G K pc L (.int a0 :: st) (Wd K layC σ) :=
  g_callS C (As := [.int a0]) (rest := st) hd (ct_X3_tugsOf e) cw_X3_tugsOf (Or.inl aw_557) aw_558 rfl rfl rfl hdd hLn hr (fun v τ q => by obtain ⟨rfl, rfl⟩ := q; exact k)
theorem kc_9_216 {K : KT} {cc : ByteArray} {nL d pc : Nat} {ret : Option FieldType} {L : List (Option Value)} {st : List Value} {σ : Sg} (C : Cx K layC cc RX9 nL d ret)  {a0 : Int32}  {p : Int32 × Sg} (hd : decode cc pc = .ok (.invokestatic 216, 3)) (e : fX3_hasSkirt a0 σ = some p) (hdd : 1 + 1 ≤ d) (hLn : L.length = nL) (hr : (st.map fun v => v.category).sum ≤ 8) (k : G K (pc + 3) L (.int p.1 :: st) (Wd K layC p.2)) : G K pc L (.int a0 :: st) (Wd K layC σ) :=
  g_callS C (As := [.int a0]) (rest := st) hd (ct_X3_hasSkirt e) cw_X3_hasSkirt (Or.inl aw_560) aw_561 rfl rfl rfl hdd hLn hr (fun v τ q => by obtain ⟨rfl, rfl⟩ := q; exact k)
theorem gf_9_219 {K : KT} {cc : ByteArray} {nL d pc : Nat} {ret : Option FieldType} {L : List (Option Value)} {st : List Value} {σ : Sg} (C : Cx K layC cc RX9 nL d ret)  (hd : decode cc pc = .ok (.getfield 219, 3)) (k : G K (pc + 3) L (.ref (kad K 59) :: st) (Wd K layC σ)) : G K pc L (.ref (kad K 58) :: st) (Wd K layC σ) := g_get C (o := 58) (ci := 3) (k := 0) hd rfl rfl rfl (by decide) (Or.inr ⟨_, aw_272⟩) inA3 rfl k
def fX9_weigh_b52 (x1 : Int32) (x2 : Int32) (σ : Sg) : Option ((Int32 × Sg) ⊕ ((Sg))) :=
  if (24 : Int32) ≤ x2 then (some (.inr σ)) else (if inb x1 5 = true then (if inb x1 5 = true then (Option.bind (fX3_tugsOf x2 σ) fun p12 => (Option.bind (fX3_hasSkirt x2 p12.2) fun p14 => (Option.bind (fX8_seek (76 + (x1).toNatClampNeg) (rI σ (76 + (x1).toNatClampNeg) 2) p12.1 p14.1 p14.2) fun p16 => (if inb x1 5 = true then (if inb x2 24 = true then (some (.inl ((x2 + (1 : Int32)), (wI p16 (60 + (x1).toNatClampNeg) (x2).toNatClampNeg (rI p16 3 13))))) else none) else none)))) else none) else none)
def fX9_weigh_b0 (x1 : Int32) (σ : Sg) : Option (Sg) :=
  if inb x1 5 = true then (if (rI σ 65 (x1).toNatClampNeg) = 0 then (if inb x1 5 = true then (Option.bind (fX9_hasWay x1 (wI σ 65 (x1).toNatClampNeg (1 : Int32))) fun p3 => (if inb x1 5 = true then (if isB p3.1 = true then (if inb x1 5 = true then (if (rI (wI p3.2 66 (x1).toNatClampNeg p3.1) 66 (x1).toNatClampNeg) = 0 then (some (wI p3.2 66 (x1).toNatClampNeg p3.1)) else (Option.bind (lp (fun s => fX9_weigh_b52 x1 s.1 s.2) FU ((2 : Int32), (wI p3.2 66 (x1).toNatClampNeg p3.1))) fun t21 => some t21)) else none) else none) else none)) else none) else (some σ)) else none
set_option maxRecDepth 4000 in
theorem bX9_weigh_b52 {K : KT} {x1 : Int32} {x2 : Int32} {σ : Sg} {o : (Int32 × Sg) ⊕ ((Sg))} (C : Cx K layC cX9_weigh RX9 3 (16) none)  (hI : ∀ s' : Int32 × Sg, o = .inl s' → G K 52 [some (.ref (kad K 0)), some (.int x1), some (.int s'.1)] [] (Wd K layC s'.2)) (hE0 : ∀ t : Sg, o = .inr t → G K 112 [none, none, none] [] (Wd K layC t)) (h : fX9_weigh_b52 x1 x2 σ = some o) : G K 52 [some (.ref (kad K 0)), some (.int x1), some (.int x2)] [] (Wd K layC σ) := by
  unfold fX9_weigh_b52 at h
  refine g_iload_n C.c dX9_weigh_52 rfl (i := 2) rfl ?_
  refine g_bipush C.c dX9_weigh_53 (v := (24 : Int32)) (by decide) ?_
  refine g_icmp_ge C.c (tgt := 112) dX9_weigh_55 (by decide) (fun c => ?_) (fun c => ?_)
  · replace h := ite_t c h
    have g9 := hE0 _ (Option.some.inj h).symm
    exact g_mask [false, false, false] rfl g9
  · replace h := ite_f c h
    refine g_aload_n C.c dX9_weigh_58 rfl (i := 0) rfl ?_
    refine gf_9_19 C dX9_weigh_59 ?_
    refine g_aload_n C.c dX9_weigh_62 rfl (i := 0) rfl ?_
    refine gf_9_37 C dX9_weigh_63 ?_
    refine g_iload_n C.c dX9_weigh_66 rfl (i := 1) rfl ?_
    obtain ⟨c8, h⟩ := chk h
    have hs9 := rw_48 (inb_lt c8)
    refine g_aald4 C (b := 76) dX9_weigh_67 rfl c8 rfl rfl ?_
    refine g_aload_n C.c dX9_weigh_68 rfl (i := 0) rfl ?_
    refine gf_9_37 C dX9_weigh_69 ?_
    refine g_iload_n C.c dX9_weigh_72 rfl (i := 1) rfl ?_
    obtain ⟨c10, h⟩ := chk h
    have hs11 := rw_48 (inb_lt c10)
    refine g_aald4 C (b := 76) dX9_weigh_73 rfl c10 rfl rfl ?_
    refine gf_9_154d C hs11 dX9_weigh_74 ?_
    refine g_iload_n C.c dX9_weigh_77 rfl (i := 2) rfl ?_
    obtain ⟨p12, e13, h⟩ := Option.bind_eq_some_iff.mp h
    refine kc_9_213 C dX9_weigh_78 e13 (Nat.le_of_ble_eq_true rfl) rfl (Nat.le_of_ble_eq_true rfl) ?_
    refine g_iload_n C.c dX9_weigh_81 rfl (i := 2) rfl ?_
    obtain ⟨p14, e15, h⟩ := Option.bind_eq_some_iff.mp h
    refine kc_9_216 C dX9_weigh_82 e15 (Nat.le_of_ble_eq_true rfl) rfl (Nat.le_of_ble_eq_true rfl) ?_
    obtain ⟨p16, e17, h⟩ := Option.bind_eq_some_iff.mp h
    refine kc_9_184 C hs9 dX9_weigh_85 e17 (Nat.le_of_ble_eq_true rfl) rfl (Nat.le_of_ble_eq_true rfl) ?_
    refine g_aload_n C.c dX9_weigh_88 rfl (i := 0) rfl ?_
    refine gf_9_58 C dX9_weigh_89 ?_
    refine gf_9_219 C dX9_weigh_92 ?_
    refine g_iload_n C.c dX9_weigh_95 rfl (i := 1) rfl ?_
    obtain ⟨c18, h⟩ := chk h
    have hs19 := rw_59 (inb_lt c18)
    refine g_aald5 C (b := 60) dX9_weigh_96 rfl c18 rfl rfl ?_
    refine g_iload_n C.c dX9_weigh_97 rfl (i := 2) rfl ?_
    refine g_aload_n C.c dX9_weigh_98 rfl (i := 0) rfl ?_
    refine gf_9_19 C dX9_weigh_99 ?_
    refine gf_9_194 C dX9_weigh_102 ?_
    obtain ⟨c20, h⟩ := chk h
    refine g_iast C dX9_weigh_105 hs19 c20 ?_
    refine g_iinc C.c (i := 2) (y := (1 : Int32)) (L' := [some (.ref (kad K 0)), some (.int x1), some (.int (x2 + (1 : Int32)))]) dX9_weigh_106 rfl (by decide) (Nat.le_of_ble_eq_true rfl) rfl ?_
    refine g_goto C.c (tgt := 52) dX9_weigh_109 (by decide) ?_
    have g9 := hI _ (Option.some.inj h).symm
    exact g_mask [true, true, true] rfl g9
set_option maxRecDepth 4000 in
theorem bX9_weigh_b0 {K : KT} {x1 : Int32} {σ : Sg} {o : Sg} (C : Cx K layC cX9_weigh RX9 3 (16) none)  (hQ : Rk K layC (okV o)) (h : fX9_weigh_b0 x1 σ = some o) : G K 0 [some (.ref (kad K 0)), some (.int x1), none] [] (Wd K layC σ) := by
  unfold fX9_weigh_b0 at h
  refine g_aload_n C.c dX9_weigh_0 rfl (i := 0) rfl ?_
  refine gf_9_58 C dX9_weigh_1 ?_
  refine gf_9_340 C dX9_weigh_4 ?_
  refine g_iload_n C.c dX9_weigh_7 rfl (i := 1) rfl ?_
  obtain ⟨c1, h⟩ := chk h
  refine g_zald C dX9_weigh_8 rfl c1 ?_
  refine g_if_eq C.c (tgt := 13) dX9_weigh_9 (by decide) (fun c => ?_) (fun c => ?_)
  · replace h := ite_t c h
    refine g_aload_n C.c dX9_weigh_13 rfl (i := 0) rfl ?_
    refine gf_9_58 C dX9_weigh_14 ?_
    refine gf_9_340 C dX9_weigh_17 ?_
    refine g_iload_n C.c dX9_weigh_20 rfl (i := 1) rfl ?_
    refine g_iconst C.c dX9_weigh_21 (v := (1 : Int32)) (by decide) ?_
    obtain ⟨c2, h⟩ := chk h
    refine g_zast C dX9_weigh_22 rfl c2 (by decide) ?_
    refine g_aload_n C.c dX9_weigh_23 rfl (i := 0) rfl ?_
    refine gf_9_58 C dX9_weigh_24 ?_
    refine gf_9_344 C dX9_weigh_27 ?_
    refine g_iload_n C.c dX9_weigh_30 rfl (i := 1) rfl ?_
    refine g_aload_n C.c dX9_weigh_31 rfl (i := 0) rfl ?_
    refine g_iload_n C.c dX9_weigh_32 rfl (i := 1) rfl ?_
    obtain ⟨p3, e4, h⟩ := Option.bind_eq_some_iff.mp h
    refine kc_9_180 C dX9_weigh_33 e4 (Nat.le_of_ble_eq_true rfl) rfl (Nat.le_of_ble_eq_true rfl) ?_
    obtain ⟨c5, h⟩ := chk h
    obtain ⟨c6, h⟩ := chk h
    refine g_zast C dX9_weigh_36 rfl c5 c6 ?_
    refine g_aload_n C.c dX9_weigh_37 rfl (i := 0) rfl ?_
    refine gf_9_58 C dX9_weigh_38 ?_
    refine gf_9_344 C dX9_weigh_41 ?_
    refine g_iload_n C.c dX9_weigh_44 rfl (i := 1) rfl ?_
    obtain ⟨c7, h⟩ := chk h
    refine g_zald C dX9_weigh_45 rfl c7 ?_
    refine g_if_ne C.c (tgt := 50) dX9_weigh_46 (by decide) (fun c => ?_) (fun c => ?_)
    · replace h := ite_f c h
      refine g_iconst C.c dX9_weigh_50 (v := (2 : Int32)) (by decide) ?_
      refine g_istore_n C.c (i := 2) (L' := [some (.ref (kad K 0)), some (.int x1), some (.int (2 : Int32))]) dX9_weigh_51 rfl (Nat.le_of_ble_eq_true rfl) rfl ?_
      refine g_mask [true, true, true] rfl ?_
      refine lp_bind (Gh := fun s => G K 52 [some (.ref (kad K 0)), some (.int x1), some (.int s.1)] [] (Wd K layC s.2)) h (fun s o2 hf gI gE => ?_)
      refine bX9_weigh_b52 C gI (fun t21 e => ?_) hf
      · have h := gE _ e
        obtain rfl := Option.some.inj h
        exact g_vret C hQ dX9_weigh_112 ⟨rfl, rfl⟩
    · replace h := ite_t c h
      obtain rfl := Option.some.inj h
      exact g_vret C hQ dX9_weigh_49 ⟨rfl, rfl⟩
  · replace h := ite_f c h
    obtain rfl := Option.some.inj h
    exact g_vret C hQ dX9_weigh_12 ⟨rfl, rfl⟩
def fX9_weigh (a0 : Int32) (σ : Sg) : Option (Sg) := fX9_weigh_b0 a0 σ
theorem ct_X9_weigh {a0 : Int32} {σ : Sg} {p : Sg} (h : fX9_weigh a0 σ = some p) : Ct layC yX9_weigh cX9_weigh 3 none 16 (fun ad => [.ref (ad 0), .int a0]) σ (okV p) :=
 ct_of (L0 := fun ad => [some (.ref (ad 0)), some (.int a0), none]) (by decide) (fun _ => Nat.le_of_ble_eq_true rfl) (fun _ => rfl) (fun K C hQ => g_mask [true, true, false] rfl (bX9_weigh_b0 C hQ h))
-- X9_best
theorem dX9_best_0 : decode cX9_best 0 = .ok (.aload_n 0, 1) := by decide +kernel
theorem dX9_best_1 : decode cX9_best 1 = .ok (.iload_n 1, 1) := by decide +kernel
theorem dX9_best_2 : decode cX9_best 2 = .ok (.invokevirtual 142, 3) := by decide +kernel
theorem dX9_best_5 : decode cX9_best 5 = .ok (.ifCond .ne 6, 3) := by decide +kernel
theorem dX9_best_8 : decode cX9_best 8 = .ok (.ldc 175, 2) := by decide +kernel
theorem dX9_best_10 : decode cX9_best 10 = .ok (.ireturn, 1) := by decide +kernel
theorem dX9_best_11 : decode cX9_best 11 = .ok (.iload_n 2, 1) := by decide +kernel
theorem dX9_best_12 : decode cX9_best 12 = .ok (.ifCond .lt 8, 3) := by decide +kernel
theorem dX9_best_15 : decode cX9_best 15 = .ok (.iload_n 2, 1) := by decide +kernel
theorem dX9_best_16 : decode cX9_best 16 = .ok (.iconst 2, 1) := by decide +kernel
theorem dX9_best_17 : decode cX9_best 17 = .ok (.if_icmp .le 6, 3) := by decide +kernel
theorem dX9_best_20 : decode cX9_best 20 = .ok (.ldc 179, 2) := by decide +kernel
theorem dX9_best_22 : decode cX9_best 22 = .ok (.ireturn, 1) := by decide +kernel
theorem dX9_best_23 : decode cX9_best 23 = .ok (.aload_n 0, 1) := by decide +kernel
theorem dX9_best_24 : decode cX9_best 24 = .ok (.iload_n 1, 1) := by decide +kernel
theorem dX9_best_25 : decode cX9_best 25 = .ok (.invokevirtual 180, 3) := by decide +kernel
theorem dX9_best_28 : decode cX9_best 28 = .ok (.ifCond .ne 6, 3) := by decide +kernel
theorem dX9_best_31 : decode cX9_best 31 = .ok (.ldc 183, 2) := by decide +kernel
theorem dX9_best_33 : decode cX9_best 33 = .ok (.ireturn, 1) := by decide +kernel
theorem dX9_best_34 : decode cX9_best 34 = .ok (.aload_n 0, 1) := by decide +kernel
theorem dX9_best_35 : decode cX9_best 35 = .ok (.iload_n 1, 1) := by decide +kernel
theorem dX9_best_36 : decode cX9_best 36 = .ok (.invokevirtual 207, 3) := by decide +kernel
theorem dX9_best_39 : decode cX9_best 39 = .ok (.aload_n 0, 1) := by decide +kernel
theorem dX9_best_40 : decode cX9_best 40 = .ok (.getfield 58, 3) := by decide +kernel
theorem dX9_best_43 : decode cX9_best 43 = .ok (.iload_n 1, 1) := by decide +kernel
theorem dX9_best_44 : decode cX9_best 44 = .ok (.invokevirtual 210, 3) := by decide +kernel
theorem dX9_best_47 : decode cX9_best 47 = .ok (.istore_n 3, 1) := by decide +kernel
theorem dX9_best_48 : decode cX9_best 48 = .ok (.iload_n 2, 1) := by decide +kernel
theorem dX9_best_49 : decode cX9_best 49 = .ok (.lookupswitch 45 #[(0, 27), (1, 32)], 27) := by decide +kernel
theorem dX9_best_76 : decode cX9_best 76 = .ok (.iload_n 3, 1) := by decide +kernel
theorem dX9_best_77 : decode cX9_best 77 = .ok (.invokestatic 213, 3) := by decide +kernel
theorem dX9_best_80 : decode cX9_best 80 = .ok (.ireturn, 1) := by decide +kernel
theorem dX9_best_81 : decode cX9_best 81 = .ok (.iload_n 3, 1) := by decide +kernel
theorem dX9_best_82 : decode cX9_best 82 = .ok (.invokestatic 216, 3) := by decide +kernel
theorem dX9_best_85 : decode cX9_best 85 = .ok (.ifCond .eq 7, 3) := by decide +kernel
theorem dX9_best_88 : decode cX9_best 88 = .ok (.iconst 1, 1) := by decide +kernel
theorem dX9_best_89 : decode cX9_best 89 = .ok (.goto 4, 3) := by decide +kernel
theorem dX9_best_92 : decode cX9_best 92 = .ok (.iconst 0, 1) := by decide +kernel
theorem dX9_best_93 : decode cX9_best 93 = .ok (.ireturn, 1) := by decide +kernel
theorem dX9_best_94 : decode cX9_best 94 = .ok (.aload_n 0, 1) := by decide +kernel
theorem dX9_best_95 : decode cX9_best 95 = .ok (.getfield 58, 3) := by decide +kernel
theorem dX9_best_98 : decode cX9_best 98 = .ok (.getfield 219, 3) := by decide +kernel
theorem dX9_best_101 : decode cX9_best 101 = .ok (.iload_n 1, 1) := by decide +kernel
theorem dX9_best_102 : decode cX9_best 102 = .ok (.aaload, 1) := by decide +kernel
theorem dX9_best_103 : decode cX9_best 103 = .ok (.iload_n 3, 1) := by decide +kernel
theorem dX9_best_104 : decode cX9_best 104 = .ok (.iaload, 1) := by decide +kernel
theorem dX9_best_105 : decode cX9_best 105 = .ok (.ireturn, 1) := by decide +kernel
theorem cw_X9_best : Cw yX9_best cX9_best 4 (some .int) 2 := ⟨aw_552, aw_19, ⟨by decide, by decide⟩, by decide +kernel, by decide⟩
theorem kc_9_207 {K : KT} {cc : ByteArray} {nL d pc : Nat} {ret : Option FieldType} {L : List (Option Value)} {st : List Value} {σ : Sg} (C : Cx K layC cc RX9 nL d ret)  {a0 : Int32}  {p : Sg} (hd : decode cc pc = .ok (.invokevirtual 207, 3)) (e : fX9_weigh a0 σ = some p) (hdd : 16 + 1 ≤ d) (hLn : L.length = nL) (hr : (st.map fun v => v.category).sum ≤ 8) (k : G K (pc + 3) L (st) (Wd K layC p)) : G K pc L (.int a0 :: .ref (kad K 0) :: st) (Wd K layC σ) :=
  g_callV C (As := [.int a0]) (rest := st) (o := 0) (ci := 9) hd (ct_X9_weigh e) cw_X9_weigh (Or.inl aw_553) aw_555 aw_14 rfl rfl rfl hdd hLn rfl rfl hr (fun v τ q => by obtain ⟨rfl, rfl⟩ := q; exact k)
theorem kc_9_210 {K : KT} {cc : ByteArray} {nL d pc : Nat} {ret : Option FieldType} {L : List (Option Value)} {st : List Value} {σ : Sg} (C : Cx K layC cc RX9 nL d ret)  {a0 : Int32}  {p : Int32 × Sg} (hd : decode cc pc = .ok (.invokevirtual 210, 3)) (e : fX3_bestEntry a0 σ = some p) (hdd : 1 + 1 ≤ d) (hLn : L.length = nL) (hr : (st.map fun v => v.category).sum ≤ 8) (k : G K (pc + 3) L (.int p.1 :: st) (Wd K layC p.2)) : G K pc L (.int a0 :: .ref (kad K 58) :: st) (Wd K layC σ) :=
  g_callV C (As := [.int a0]) (rest := st) (o := 58) (ci := 3) hd (ct_X3_bestEntry e) cw_X3_bestEntry (Or.inl aw_563) aw_564 aw_565 rfl rfl rfl hdd hLn rfl rfl hr (fun v τ q => by obtain ⟨rfl, rfl⟩ := q; exact k)
def fX9_best_b0 (x1 : Int32) (x2 : Int32) (σ : Sg) : Option (Int32 × Sg) :=
  Option.bind (fX9_isBerg x1 σ) fun p1 => (if p1.1 = 0 then (some ((-100101 : Int32), p1.2)) else (if x2 < 0 then (some ((-100102 : Int32), p1.2)) else (if x2 ≤ (2 : Int32) then (Option.bind (fX9_hasWay x1 p1.2) fun p3 => (if p3.1 = 0 then (some ((-100001 : Int32), p3.2)) else (Option.bind (fX9_weigh x1 p3.2) fun p5 => (Option.bind (fX3_bestEntry x1 p5) fun p7 => (if x2 = (0 : Int32) then (Option.bind (fX3_tugsOf p7.1 p7.2) fun p9 => (some (p9.1, p9.2))) else (if x2 = (1 : Int32) then (Option.bind (fX3_hasSkirt p7.1 p7.2) fun p11 => (if p11.1 = 0 then (some ((0 : Int32), p11.2)) else (some ((1 : Int32), p11.2)))) else (if inb x1 5 = true then (if inb p7.1 24 = true then (some ((rI p7.2 (60 + (x1).toNatClampNeg) (p7.1).toNatClampNeg), p7.2)) else none) else none))))))) else (some ((-100102 : Int32), p1.2)))))
set_option maxRecDepth 4000 in
theorem bX9_best_b0 {K : KT} {x1 : Int32} {x2 : Int32} {σ : Sg} {o : Int32 × Sg} (C : Cx K layC cX9_best RX9 4 (17) (some .int))  (hQ : Rk K layC (okI o)) (h : fX9_best_b0 x1 x2 σ = some o) : G K 0 [some (.ref (kad K 0)), some (.int x1), some (.int x2), none] [] (Wd K layC σ) := by
  unfold fX9_best_b0 at h
  refine g_aload_n C.c dX9_best_0 rfl (i := 0) rfl ?_
  refine g_iload_n C.c dX9_best_1 rfl (i := 1) rfl ?_
  obtain ⟨p1, e2, h⟩ := Option.bind_eq_some_iff.mp h
  refine kc_9_142 C dX9_best_2 e2 (Nat.le_of_ble_eq_true rfl) rfl (Nat.le_of_ble_eq_true rfl) ?_
  refine g_if_ne C.c (tgt := 11) dX9_best_5 (by decide) (fun c => ?_) (fun c => ?_)
  · replace h := ite_f c h
    refine g_iload_n C.c dX9_best_11 rfl (i := 2) rfl ?_
    refine g_if_lt C.c (tgt := 20) dX9_best_12 (by decide) (fun c => ?_) (fun c => ?_)
    · replace h := ite_t c h
      refine g_ldc C.c (v := (-100102 : Int32)) aw_487 dX9_best_20 ?_
      obtain rfl := Option.some.inj h
      exact g_iret C hQ dX9_best_22 rfl ⟨rfl, rfl⟩
    · replace h := ite_f c h
      refine g_iload_n C.c dX9_best_15 rfl (i := 2) rfl ?_
      refine g_iconst C.c dX9_best_16 (v := (2 : Int32)) (by decide) ?_
      refine g_icmp_le C.c (tgt := 23) dX9_best_17 (by decide) (fun c => ?_) (fun c => ?_)
      · replace h := ite_t c h
        refine g_aload_n C.c dX9_best_23 rfl (i := 0) rfl ?_
        refine g_iload_n C.c dX9_best_24 rfl (i := 1) rfl ?_
        obtain ⟨p3, e4, h⟩ := Option.bind_eq_some_iff.mp h
        refine kc_9_180 C dX9_best_25 e4 (Nat.le_of_ble_eq_true rfl) rfl (Nat.le_of_ble_eq_true rfl) ?_
        refine g_if_ne C.c (tgt := 34) dX9_best_28 (by decide) (fun c => ?_) (fun c => ?_)
        · replace h := ite_f c h
          refine g_aload_n C.c dX9_best_34 rfl (i := 0) rfl ?_
          refine g_iload_n C.c dX9_best_35 rfl (i := 1) rfl ?_
          obtain ⟨p5, e6, h⟩ := Option.bind_eq_some_iff.mp h
          refine kc_9_207 C dX9_best_36 e6 (Nat.le_of_ble_eq_true rfl) rfl (Nat.le_of_ble_eq_true rfl) ?_
          refine g_aload_n C.c dX9_best_39 rfl (i := 0) rfl ?_
          refine gf_9_58 C dX9_best_40 ?_
          refine g_iload_n C.c dX9_best_43 rfl (i := 1) rfl ?_
          obtain ⟨p7, e8, h⟩ := Option.bind_eq_some_iff.mp h
          refine kc_9_210 C dX9_best_44 e8 (Nat.le_of_ble_eq_true rfl) rfl (Nat.le_of_ble_eq_true rfl) ?_
          refine g_istore_n C.c (i := 3) (L' := [some (.ref (kad K 0)), some (.int x1), some (.int x2), some (.int p7.1)]) dX9_best_47 rfl (Nat.le_of_ble_eq_true rfl) rfl ?_
          refine g_iload_n C.c dX9_best_48 rfl (i := 2) rfl ?_
          by_cases c0 : x2 = (0 : Int32)
          · replace h := ite_t c0 h
            refine g_lkIn C.c (tgt := 76) (off := 27) c0 dX9_best_49 (by decide) (by decide) (by decide) ?_
            refine g_iload_n C.c dX9_best_76 rfl (i := 3) rfl ?_
            obtain ⟨p9, e10, h⟩ := Option.bind_eq_some_iff.mp h
            refine kc_9_213 C dX9_best_77 e10 (Nat.le_of_ble_eq_true rfl) rfl (Nat.le_of_ble_eq_true rfl) ?_
            obtain rfl := Option.some.inj h
            exact g_iret C hQ dX9_best_80 rfl ⟨rfl, rfl⟩
          · replace h := ite_f c0 h
            by_cases c1 : x2 = (1 : Int32)
            · replace h := ite_t c1 h
              refine g_lkIn C.c (tgt := 81) (off := 32) c1 dX9_best_49 (by decide) (by decide) (by decide) ?_
              refine g_iload_n C.c dX9_best_81 rfl (i := 3) rfl ?_
              obtain ⟨p11, e12, h⟩ := Option.bind_eq_some_iff.mp h
              refine kc_9_216 C dX9_best_82 e12 (Nat.le_of_ble_eq_true rfl) rfl (Nat.le_of_ble_eq_true rfl) ?_
              refine g_if_eq C.c (tgt := 92) dX9_best_85 (by decide) (fun c => ?_) (fun c => ?_)
              · replace h := ite_t c h
                refine g_iconst C.c dX9_best_92 (v := (0 : Int32)) (by decide) ?_
                obtain rfl := Option.some.inj h
                exact g_iret C hQ dX9_best_93 rfl ⟨rfl, rfl⟩
              · replace h := ite_f c h
                refine g_iconst C.c dX9_best_88 (v := (1 : Int32)) (by decide) ?_
                refine g_goto C.c (tgt := 93) dX9_best_89 (by decide) ?_
                obtain rfl := Option.some.inj h
                exact g_iret C hQ dX9_best_93 rfl ⟨rfl, rfl⟩
            · replace h := ite_f c1 h
              refine g_lkOut C.c (tgt := 94) [(0 : Int32), (1 : Int32)] (by decide) ⟨c0, c1, trivial⟩ dX9_best_49 (by decide) (by decide) ?_
              refine g_aload_n C.c dX9_best_94 rfl (i := 0) rfl ?_
              refine gf_9_58 C dX9_best_95 ?_
              refine gf_9_219 C dX9_best_98 ?_
              refine g_iload_n C.c dX9_best_101 rfl (i := 1) rfl ?_
              obtain ⟨c13, h⟩ := chk h
              have hs14 := rw_59 (inb_lt c13)
              refine g_aald5 C (b := 60) dX9_best_102 rfl c13 rfl rfl ?_
              refine g_iload_n C.c dX9_best_103 rfl (i := 3) rfl ?_
              obtain ⟨c15, h⟩ := chk h
              refine g_iald C dX9_best_104 hs14 c15 ?_
              obtain rfl := Option.some.inj h
              exact g_iret C hQ dX9_best_105 rfl ⟨rfl, rfl⟩
        · replace h := ite_t c h
          refine g_ldc C.c (v := (-100001 : Int32)) aw_492 dX9_best_31 ?_
          obtain rfl := Option.some.inj h
          exact g_iret C hQ dX9_best_33 rfl ⟨rfl, rfl⟩
      · replace h := ite_f c h
        refine g_ldc C.c (v := (-100102 : Int32)) aw_487 dX9_best_20 ?_
        obtain rfl := Option.some.inj h
        exact g_iret C hQ dX9_best_22 rfl ⟨rfl, rfl⟩
  · replace h := ite_t c h
    refine g_ldc C.c (v := (-100101 : Int32)) aw_483 dX9_best_8 ?_
    obtain rfl := Option.some.inj h
    exact g_iret C hQ dX9_best_10 rfl ⟨rfl, rfl⟩
def fX9_best (a0 : Int32) (a1 : Int32) (σ : Sg) : Option (Int32 × Sg) := fX9_best_b0 a0 a1 σ
theorem ct_X9_best {a0 : Int32} {a1 : Int32} {σ : Sg} {p : Int32 × Sg} (h : fX9_best a0 a1 σ = some p) : Ct layC yX9_best cX9_best 4 (some .int) 17 (fun ad => [.ref (ad 0), .int a0, .int a1]) σ (okI p) :=
 ct_of (L0 := fun ad => [some (.ref (ad 0)), some (.int a0), some (.int a1), none]) (by decide) (fun _ => Nat.le_of_ble_eq_true rfl) (fun _ => rfl) (fun K C hQ => g_mask [true, true, true, false] rfl (bX9_best_b0 C hQ h))
-- X9_season
theorem dX9_season_0 : decode cX9_season 0 = .ok (.aload_n 0, 1) := by decide +kernel
theorem dX9_season_1 : decode cX9_season 1 = .ok (.getfield 99, 3) := by decide +kernel
theorem dX9_season_4 : decode cX9_season 4 = .ok (.ifCond .ne 6, 3) := by decide +kernel
theorem dX9_season_7 : decode cX9_season 7 = .ok (.bipush (-103), 2) := by decide +kernel
theorem dX9_season_9 : decode cX9_season 9 = .ok (.ireturn, 1) := by decide +kernel
theorem dX9_season_10 : decode cX9_season 10 = .ok (.iload_n 1, 1) := by decide +kernel
theorem dX9_season_11 : decode cX9_season 11 = .ok (.invokestatic 176, 3) := by decide +kernel
theorem dX9_season_14 : decode cX9_season 14 = .ok (.ifCond .eq 12, 3) := by decide +kernel
theorem dX9_season_17 : decode cX9_season 17 = .ok (.iload_n 2, 1) := by decide +kernel
theorem dX9_season_18 : decode cX9_season 18 = .ok (.ifCond .lt 8, 3) := by decide +kernel
theorem dX9_season_21 : decode cX9_season 21 = .ok (.iload_n 2, 1) := by decide +kernel
theorem dX9_season_22 : decode cX9_season 22 = .ok (.iconst 5, 1) := by decide +kernel
theorem dX9_season_23 : decode cX9_season 23 = .ok (.if_icmp .le 6, 3) := by decide +kernel
theorem dX9_season_26 : decode cX9_season 26 = .ok (.bipush (-102), 2) := by decide +kernel
theorem dX9_season_28 : decode cX9_season 28 = .ok (.ireturn, 1) := by decide +kernel
theorem dX9_season_29 : decode cX9_season 29 = .ok (.iconst 0, 1) := by decide +kernel
theorem dX9_season_30 : decode cX9_season 30 = .ok (.istore_n 3, 1) := by decide +kernel
theorem dX9_season_31 : decode cX9_season 31 = .ok (.iload_n 3, 1) := by decide +kernel
theorem dX9_season_32 : decode cX9_season 32 = .ok (.aload_n 0, 1) := by decide +kernel
theorem dX9_season_33 : decode cX9_season 33 = .ok (.getfield 91, 3) := by decide +kernel
theorem dX9_season_36 : decode cX9_season 36 = .ok (.if_icmp .ge 14, 3) := by decide +kernel
theorem dX9_season_39 : decode cX9_season 39 = .ok (.aload_n 0, 1) := by decide +kernel
theorem dX9_season_40 : decode cX9_season 40 = .ok (.iload_n 3, 1) := by decide +kernel
theorem dX9_season_41 : decode cX9_season 41 = .ok (.invokevirtual 207, 3) := by decide +kernel
theorem dX9_season_44 : decode cX9_season 44 = .ok (.iinc 3 1, 3) := by decide +kernel
theorem dX9_season_47 : decode cX9_season 47 = .ok (.goto (-16), 3) := by decide +kernel
theorem dX9_season_50 : decode cX9_season 50 = .ok (.aload_n 0, 1) := by decide +kernel
theorem dX9_season_51 : decode cX9_season 51 = .ok (.getfield 58, 3) := by decide +kernel
theorem dX9_season_54 : decode cX9_season 54 = .ok (.aload_n 0, 1) := by decide +kernel
theorem dX9_season_55 : decode cX9_season 55 = .ok (.getfield 91, 3) := by decide +kernel
theorem dX9_season_58 : decode cX9_season 58 = .ok (.invokevirtual 223, 3) := by decide +kernel
theorem dX9_season_61 : decode cX9_season 61 = .ok (.iload_n 2, 1) := by decide +kernel
theorem dX9_season_62 : decode cX9_season 62 = .ok (.ifCond .ne 15, 3) := by decide +kernel
theorem dX9_season_65 : decode cX9_season 65 = .ok (.aload_n 0, 1) := by decide +kernel
theorem dX9_season_66 : decode cX9_season 66 = .ok (.getfield 58, 3) := by decide +kernel
theorem dX9_season_69 : decode cX9_season 69 = .ok (.getfield 226, 3) := by decide +kernel
theorem dX9_season_72 : decode cX9_season 72 = .ok (.iconst 0, 1) := by decide +kernel
theorem dX9_season_73 : decode cX9_season 73 = .ok (.aaload, 1) := by decide +kernel
theorem dX9_season_74 : decode cX9_season 74 = .ok (.iload_n 1, 1) := by decide +kernel
theorem dX9_season_75 : decode cX9_season 75 = .ok (.iaload, 1) := by decide +kernel
theorem dX9_season_76 : decode cX9_season 76 = .ok (.ireturn, 1) := by decide +kernel
theorem dX9_season_77 : decode cX9_season 77 = .ok (.iload_n 2, 1) := by decide +kernel
theorem dX9_season_78 : decode cX9_season 78 = .ok (.aload_n 0, 1) := by decide +kernel
theorem dX9_season_79 : decode cX9_season 79 = .ok (.getfield 91, 3) := by decide +kernel
theorem dX9_season_82 : decode cX9_season 82 = .ok (.if_icmp .gt 17, 3) := by decide +kernel
theorem dX9_season_85 : decode cX9_season 85 = .ok (.aload_n 0, 1) := by decide +kernel
theorem dX9_season_86 : decode cX9_season 86 = .ok (.getfield 58, 3) := by decide +kernel
theorem dX9_season_89 : decode cX9_season 89 = .ok (.iload_n 2, 1) := by decide +kernel
theorem dX9_season_90 : decode cX9_season 90 = .ok (.iconst 1, 1) := by decide +kernel
theorem dX9_season_91 : decode cX9_season 91 = .ok (.isub, 1) := by decide +kernel
theorem dX9_season_92 : decode cX9_season 92 = .ok (.iload_n 1, 1) := by decide +kernel
theorem dX9_season_93 : decode cX9_season 93 = .ok (.invokevirtual 229, 3) := by decide +kernel
theorem dX9_season_96 : decode cX9_season 96 = .ok (.goto 4, 3) := by decide +kernel
theorem dX9_season_99 : decode cX9_season 99 = .ok (.iconst (-1), 1) := by decide +kernel
theorem dX9_season_100 : decode cX9_season 100 = .ok (.ireturn, 1) := by decide +kernel
theorem cw_X9_season : Cw yX9_season cX9_season 4 (some .int) 2 := ⟨aw_570, aw_19, ⟨by decide, by decide⟩, by decide +kernel, by decide⟩
theorem kc_9_223 {K : KT} {cc : ByteArray} {nL d pc : Nat} {ret : Option FieldType} {L : List (Option Value)} {st : List Value} {σ : Sg} (C : Cx K layC cc RX9 nL d ret)  {a0 : Int32}  {p : Sg} (hd : decode cc pc = .ok (.invokevirtual 223, 3)) (e : fX3_deal a0 σ = some p) (hdd : 3 + 1 ≤ d) (hLn : L.length = nL) (hr : (st.map fun v => v.category).sum ≤ 8) (k : G K (pc + 3) L (st) (Wd K layC p)) : G K pc L (.int a0 :: .ref (kad K 58) :: st) (Wd K layC σ) :=
  g_callV C (As := [.int a0]) (rest := st) (o := 58) (ci := 3) hd (ct_X3_deal e) cw_X3_deal (Or.inl aw_571) aw_572 aw_573 rfl rfl rfl hdd hLn rfl rfl hr (fun v τ q => by obtain ⟨rfl, rfl⟩ := q; exact k)
theorem kc_9_229 {K : KT} {cc : ByteArray} {nL d pc : Nat} {ret : Option FieldType} {L : List (Option Value)} {st : List Value} {σ : Sg} (C : Cx K layC cc RX9 nL d ret)  {a0 : Int32} {a1 : Int32}  {p : Int32 × Sg} (hd : decode cc pc = .ok (.invokevirtual 229, 3)) (e : fX3_tugsFor a0 a1 σ = some p) (hdd : 3 + 1 ≤ d) (hLn : L.length = nL) (hr : (st.map fun v => v.category).sum ≤ 8) (k : G K (pc + 3) L (.int p.1 :: st) (Wd K layC p.2)) : G K pc L (.int a1 :: .int a0 :: .ref (kad K 58) :: st) (Wd K layC σ) :=
  g_callV C (As := [.int a0, .int a1]) (rest := st) (o := 58) (ci := 3) hd (ct_X3_tugsFor e) cw_X3_tugsFor (Or.inl aw_584) aw_585 aw_586 rfl rfl rfl hdd hLn rfl rfl hr (fun v τ q => by obtain ⟨rfl, rfl⟩ := q; exact k)
theorem gf_9_226 {K : KT} {cc : ByteArray} {nL d pc : Nat} {ret : Option FieldType} {L : List (Option Value)} {st : List Value} {σ : Sg} (C : Cx K layC cc RX9 nL d ret)  (hd : decode cc pc = .ok (.getfield 226, 3)) (k : G K (pc + 3) L (.ref (kad K 67) :: st) (Wd K layC σ)) : G K pc L (.ref (kad K 58) :: st) (Wd K layC σ) := g_get C (o := 58) (ci := 3) (k := 3) hd rfl rfl rfl (by decide) (Or.inr ⟨_, aw_278⟩) inA3 rfl k
def fX9_season_b31 (x1 : Int32) (x2 : Int32) (x3 : Int32) (σ : Sg) : Option ((Int32 × Sg) ⊕ ((Sg))) :=
  if (rI σ 0 9) ≤ x3 then (some (.inr σ)) else (Option.bind (fX9_weigh x3 σ) fun p3 => (some (.inl ((x3 + (1 : Int32)), p3))))
def fX9_season_b0 (x1 : Int32) (x2 : Int32) (σ : Sg) : Option (Int32 × Sg) :=
  if (rI σ 0 10) = 0 then (some ((-103 : Int32), σ)) else (Option.bind (fX9_isTugs x1 σ) fun p1 => (if p1.1 = 0 then (some ((-102 : Int32), p1.2)) else (if x2 < 0 then (some ((-102 : Int32), p1.2)) else (if x2 ≤ (5 : Int32) then (Option.bind (lp (fun s => fX9_season_b31 x1 x2 s.1 s.2) FU ((0 : Int32), p1.2)) fun t5 => Option.bind (fX3_deal (rI t5 0 9) t5) fun p7 => (if x2 = 0 then (if inb x1 12 = true then (some ((rI p7 (68 + ((0 : Int32)).toNatClampNeg) (x1).toNatClampNeg), p7)) else none) else (if (rI p7 0 9) < x2 then (some ((-1 : Int32), p7)) else (Option.bind (fX3_tugsFor (x2 - (1 : Int32)) x1 p7) fun p9 => (some (p9.1, p9.2)))))) else (some ((-102 : Int32), p1.2))))))
set_option maxRecDepth 4000 in
theorem bX9_season_b31 {K : KT} {x1 : Int32} {x2 : Int32} {x3 : Int32} {σ : Sg} {o : (Int32 × Sg) ⊕ ((Sg))} (C : Cx K layC cX9_season RX9 4 (17) (some .int))  (hI : ∀ s' : Int32 × Sg, o = .inl s' → G K 31 [some (.ref (kad K 0)), some (.int x1), some (.int x2), some (.int s'.1)] [] (Wd K layC s'.2)) (hE0 : ∀ t : Sg, o = .inr t → G K 50 [some (.ref (kad K 0)), some (.int x1), some (.int x2), none] [] (Wd K layC t)) (h : fX9_season_b31 x1 x2 x3 σ = some o) : G K 31 [some (.ref (kad K 0)), some (.int x1), some (.int x2), some (.int x3)] [] (Wd K layC σ) := by
  unfold fX9_season_b31 at h
  refine g_iload_n C.c dX9_season_31 rfl (i := 3) rfl ?_
  refine g_aload_n C.c dX9_season_32 rfl (i := 0) rfl ?_
  refine gf_9_91 C dX9_season_33 ?_
  refine g_icmp_ge C.c (tgt := 50) dX9_season_36 (by decide) (fun c => ?_) (fun c => ?_)
  · replace h := ite_t c h
    have g9 := hE0 _ (Option.some.inj h).symm
    exact g_mask [true, true, true, false] rfl g9
  · replace h := ite_f c h
    refine g_aload_n C.c dX9_season_39 rfl (i := 0) rfl ?_
    refine g_iload_n C.c dX9_season_40 rfl (i := 3) rfl ?_
    obtain ⟨p3, e4, h⟩ := Option.bind_eq_some_iff.mp h
    refine kc_9_207 C dX9_season_41 e4 (Nat.le_of_ble_eq_true rfl) rfl (Nat.le_of_ble_eq_true rfl) ?_
    refine g_iinc C.c (i := 3) (y := (1 : Int32)) (L' := [some (.ref (kad K 0)), some (.int x1), some (.int x2), some (.int (x3 + (1 : Int32)))]) dX9_season_44 rfl (by decide) (Nat.le_of_ble_eq_true rfl) rfl ?_
    refine g_goto C.c (tgt := 31) dX9_season_47 (by decide) ?_
    have g9 := hI _ (Option.some.inj h).symm
    exact g_mask [true, true, true, true] rfl g9
set_option maxRecDepth 4000 in
theorem bX9_season_b0 {K : KT} {x1 : Int32} {x2 : Int32} {σ : Sg} {o : Int32 × Sg} (C : Cx K layC cX9_season RX9 4 (17) (some .int))  (hQ : Rk K layC (okI o)) (h : fX9_season_b0 x1 x2 σ = some o) : G K 0 [some (.ref (kad K 0)), some (.int x1), some (.int x2), none] [] (Wd K layC σ) := by
  unfold fX9_season_b0 at h
  refine g_aload_n C.c dX9_season_0 rfl (i := 0) rfl ?_
  refine gf_9_99 C dX9_season_1 ?_
  refine g_if_ne C.c (tgt := 10) dX9_season_4 (by decide) (fun c => ?_) (fun c => ?_)
  · replace h := ite_f c h
    refine g_iload_n C.c dX9_season_10 rfl (i := 1) rfl ?_
    obtain ⟨p1, e2, h⟩ := Option.bind_eq_some_iff.mp h
    refine kc_9_176 C dX9_season_11 e2 (Nat.le_of_ble_eq_true rfl) rfl (Nat.le_of_ble_eq_true rfl) ?_
    refine g_if_eq C.c (tgt := 26) dX9_season_14 (by decide) (fun c => ?_) (fun c => ?_)
    · replace h := ite_t c h
      refine g_bipush C.c dX9_season_26 (v := (-102 : Int32)) (by decide) ?_
      obtain rfl := Option.some.inj h
      exact g_iret C hQ dX9_season_28 rfl ⟨rfl, rfl⟩
    · replace h := ite_f c h
      refine g_iload_n C.c dX9_season_17 rfl (i := 2) rfl ?_
      refine g_if_lt C.c (tgt := 26) dX9_season_18 (by decide) (fun c => ?_) (fun c => ?_)
      · replace h := ite_t c h
        refine g_bipush C.c dX9_season_26 (v := (-102 : Int32)) (by decide) ?_
        obtain rfl := Option.some.inj h
        exact g_iret C hQ dX9_season_28 rfl ⟨rfl, rfl⟩
      · replace h := ite_f c h
        refine g_iload_n C.c dX9_season_21 rfl (i := 2) rfl ?_
        refine g_iconst C.c dX9_season_22 (v := (5 : Int32)) (by decide) ?_
        refine g_icmp_le C.c (tgt := 29) dX9_season_23 (by decide) (fun c => ?_) (fun c => ?_)
        · replace h := ite_t c h
          refine g_iconst C.c dX9_season_29 (v := (0 : Int32)) (by decide) ?_
          refine g_istore_n C.c (i := 3) (L' := [some (.ref (kad K 0)), some (.int x1), some (.int x2), some (.int (0 : Int32))]) dX9_season_30 rfl (Nat.le_of_ble_eq_true rfl) rfl ?_
          refine g_mask [true, true, true, true] rfl ?_
          refine lp_bind (Gh := fun s => G K 31 [some (.ref (kad K 0)), some (.int x1), some (.int x2), some (.int s.1)] [] (Wd K layC s.2)) h (fun s o2 hf gI gE => ?_)
          refine bX9_season_b31 C gI (fun t5 e => ?_) hf
          · have h := gE _ e
            refine g_aload_n C.c dX9_season_50 rfl (i := 0) rfl ?_
            refine gf_9_58 C dX9_season_51 ?_
            refine g_aload_n C.c dX9_season_54 rfl (i := 0) rfl ?_
            refine gf_9_91 C dX9_season_55 ?_
            obtain ⟨p7, e8, h⟩ := Option.bind_eq_some_iff.mp h
            refine kc_9_223 C dX9_season_58 e8 (Nat.le_of_ble_eq_true rfl) rfl (Nat.le_of_ble_eq_true rfl) ?_
            refine g_iload_n C.c dX9_season_61 rfl (i := 2) rfl ?_
            refine g_if_ne C.c (tgt := 77) dX9_season_62 (by decide) (fun c => ?_) (fun c => ?_)
            · replace h := ite_f c h
              refine g_iload_n C.c dX9_season_77 rfl (i := 2) rfl ?_
              refine g_aload_n C.c dX9_season_78 rfl (i := 0) rfl ?_
              refine gf_9_91 C dX9_season_79 ?_
              refine g_icmp_gt C.c (tgt := 99) dX9_season_82 (by decide) (fun c => ?_) (fun c => ?_)
              · replace h := ite_t c h
                refine g_iconst C.c dX9_season_99 (v := (-1 : Int32)) (by decide) ?_
                obtain rfl := Option.some.inj h
                exact g_iret C hQ dX9_season_100 rfl ⟨rfl, rfl⟩
              · replace h := ite_f c h
                refine g_aload_n C.c dX9_season_85 rfl (i := 0) rfl ?_
                refine gf_9_58 C dX9_season_86 ?_
                refine g_iload_n C.c dX9_season_89 rfl (i := 2) rfl ?_
                refine g_iconst C.c dX9_season_90 (v := (1 : Int32)) (by decide) ?_
                refine g_isub C.c dX9_season_91 ?_
                refine g_iload_n C.c dX9_season_92 rfl (i := 1) rfl ?_
                obtain ⟨p9, e10, h⟩ := Option.bind_eq_some_iff.mp h
                refine kc_9_229 C dX9_season_93 e10 (Nat.le_of_ble_eq_true rfl) rfl (Nat.le_of_ble_eq_true rfl) ?_
                refine g_goto C.c (tgt := 100) dX9_season_96 (by decide) ?_
                obtain rfl := Option.some.inj h
                exact g_iret C hQ dX9_season_100 rfl ⟨rfl, rfl⟩
            · replace h := ite_t c h
              refine g_aload_n C.c dX9_season_65 rfl (i := 0) rfl ?_
              refine gf_9_58 C dX9_season_66 ?_
              refine gf_9_226 C dX9_season_69 ?_
              refine g_iconst C.c dX9_season_72 (v := (0 : Int32)) (by decide) ?_
              have hs11 := rw_67 (j := ((0 : Int32)).toNatClampNeg) (by decide)
              refine g_aald5 C (b := 68) dX9_season_73 rfl (by decide) rfl rfl ?_
              refine g_iload_n C.c dX9_season_74 rfl (i := 1) rfl ?_
              obtain ⟨c12, h⟩ := chk h
              refine g_iald C dX9_season_75 hs11 c12 ?_
              obtain rfl := Option.some.inj h
              exact g_iret C hQ dX9_season_76 rfl ⟨rfl, rfl⟩
        · replace h := ite_f c h
          refine g_bipush C.c dX9_season_26 (v := (-102 : Int32)) (by decide) ?_
          obtain rfl := Option.some.inj h
          exact g_iret C hQ dX9_season_28 rfl ⟨rfl, rfl⟩
  · replace h := ite_t c h
    refine g_bipush C.c dX9_season_7 (v := (-103 : Int32)) (by decide) ?_
    obtain rfl := Option.some.inj h
    exact g_iret C hQ dX9_season_9 rfl ⟨rfl, rfl⟩
def fX9_season (a0 : Int32) (a1 : Int32) (σ : Sg) : Option (Int32 × Sg) := fX9_season_b0 a0 a1 σ
theorem ct_X9_season {a0 : Int32} {a1 : Int32} {σ : Sg} {p : Int32 × Sg} (h : fX9_season a0 a1 σ = some p) : Ct layC yX9_season cX9_season 4 (some .int) 17 (fun ad => [.ref (ad 0), .int a0, .int a1]) σ (okI p) :=
 ct_of (L0 := fun ad => [some (.ref (ad 0)), some (.int a0), some (.int a1), none]) (by decide) (fun _ => Nat.le_of_ble_eq_true rfl) (fun _ => rfl) (fun K C hQ => g_mask [true, true, true, false] rfl (bX9_season_b0 C hQ h))
-- X9_more
theorem dX9_more_0 : decode cX9_more 0 = .ok (.aload_n 0, 1) := by decide +kernel
theorem dX9_more_1 : decode cX9_more 1 = .ok (.getfield 99, 3) := by decide +kernel
theorem dX9_more_4 : decode cX9_more 4 = .ok (.ifCond .ne 6, 3) := by decide +kernel
theorem dX9_more_7 : decode cX9_more 7 = .ok (.bipush (-103), 2) := by decide +kernel
theorem dX9_more_9 : decode cX9_more 9 = .ok (.ireturn, 1) := by decide +kernel
theorem dX9_more_10 : decode cX9_more 10 = .ok (.iload_n 1, 1) := by decide +kernel
theorem dX9_more_11 : decode cX9_more 11 = .ok (.iconst 1, 1) := by decide +kernel
theorem dX9_more_12 : decode cX9_more 12 = .ok (.if_icmp .lt 9, 3) := by decide +kernel
theorem dX9_more_15 : decode cX9_more 15 = .ok (.iload_n 1, 1) := by decide +kernel
theorem dX9_more_16 : decode cX9_more 16 = .ok (.bipush 11, 2) := by decide +kernel
theorem dX9_more_18 : decode cX9_more 18 = .ok (.if_icmp .lt 6, 3) := by decide +kernel
theorem dX9_more_21 : decode cX9_more 21 = .ok (.bipush (-102), 2) := by decide +kernel
theorem dX9_more_23 : decode cX9_more 23 = .ok (.ireturn, 1) := by decide +kernel
theorem dX9_more_24 : decode cX9_more 24 = .ok (.aload_n 0, 1) := by decide +kernel
theorem dX9_more_25 : decode cX9_more 25 = .ok (.iload_n 1, 1) := by decide +kernel
theorem dX9_more_26 : decode cX9_more 26 = .ok (.iconst 1, 1) := by decide +kernel
theorem dX9_more_27 : decode cX9_more 27 = .ok (.iadd, 1) := by decide +kernel
theorem dX9_more_28 : decode cX9_more 28 = .ok (.iconst 0, 1) := by decide +kernel
theorem dX9_more_29 : decode cX9_more 29 = .ok (.invokevirtual 232, 3) := by decide +kernel
theorem dX9_more_32 : decode cX9_more 32 = .ok (.aload_n 0, 1) := by decide +kernel
theorem dX9_more_33 : decode cX9_more 33 = .ok (.iload_n 1, 1) := by decide +kernel
theorem dX9_more_34 : decode cX9_more 34 = .ok (.iconst 0, 1) := by decide +kernel
theorem dX9_more_35 : decode cX9_more 35 = .ok (.invokevirtual 232, 3) := by decide +kernel
theorem dX9_more_38 : decode cX9_more 38 = .ok (.isub, 1) := by decide +kernel
theorem dX9_more_39 : decode cX9_more 39 = .ok (.ireturn, 1) := by decide +kernel
theorem cw_X9_more : Cw yX9_more cX9_more 2 (some .int) 1 := ⟨aw_595, aw_19, ⟨by decide, by decide⟩, by decide +kernel, by decide⟩
theorem kc_9_232 {K : KT} {cc : ByteArray} {nL d pc : Nat} {ret : Option FieldType} {L : List (Option Value)} {st : List Value} {σ : Sg} (C : Cx K layC cc RX9 nL d ret)  {a0 : Int32} {a1 : Int32}  {p : Int32 × Sg} (hd : decode cc pc = .ok (.invokevirtual 232, 3)) (e : fX9_season a0 a1 σ = some p) (hdd : 17 + 1 ≤ d) (hLn : L.length = nL) (hr : (st.map fun v => v.category).sum ≤ 8) (k : G K (pc + 3) L (.int p.1 :: st) (Wd K layC p.2)) : G K pc L (.int a1 :: .int a0 :: .ref (kad K 0) :: st) (Wd K layC σ) :=
  g_callV C (As := [.int a0, .int a1]) (rest := st) (o := 0) (ci := 9) hd (ct_X9_season e) cw_X9_season (Or.inl aw_596) aw_568 aw_569 rfl rfl rfl hdd hLn rfl rfl hr (fun v τ q => by obtain ⟨rfl, rfl⟩ := q; exact k)
def fX9_more_b0 (x1 : Int32) (σ : Sg) : Option (Int32 × Sg) :=
  if (rI σ 0 10) = 0 then (some ((-103 : Int32), σ)) else (if x1 < (1 : Int32) then (some ((-102 : Int32), σ)) else (if x1 < (11 : Int32) then (Option.bind (fX9_season (x1 + (1 : Int32)) (0 : Int32) σ) fun p1 => (Option.bind (fX9_season x1 (0 : Int32) p1.2) fun p3 => (some ((p1.1 - p3.1), p3.2)))) else (some ((-102 : Int32), σ))))
set_option maxRecDepth 4000 in
theorem bX9_more_b0 {K : KT} {x1 : Int32} {σ : Sg} {o : Int32 × Sg} (C : Cx K layC cX9_more RX9 2 (18) (some .int))  (hQ : Rk K layC (okI o)) (h : fX9_more_b0 x1 σ = some o) : G K 0 [some (.ref (kad K 0)), some (.int x1)] [] (Wd K layC σ) := by
  unfold fX9_more_b0 at h
  refine g_aload_n C.c dX9_more_0 rfl (i := 0) rfl ?_
  refine gf_9_99 C dX9_more_1 ?_
  refine g_if_ne C.c (tgt := 10) dX9_more_4 (by decide) (fun c => ?_) (fun c => ?_)
  · replace h := ite_f c h
    refine g_iload_n C.c dX9_more_10 rfl (i := 1) rfl ?_
    refine g_iconst C.c dX9_more_11 (v := (1 : Int32)) (by decide) ?_
    refine g_icmp_lt C.c (tgt := 21) dX9_more_12 (by decide) (fun c => ?_) (fun c => ?_)
    · replace h := ite_t c h
      refine g_bipush C.c dX9_more_21 (v := (-102 : Int32)) (by decide) ?_
      obtain rfl := Option.some.inj h
      exact g_iret C hQ dX9_more_23 rfl ⟨rfl, rfl⟩
    · replace h := ite_f c h
      refine g_iload_n C.c dX9_more_15 rfl (i := 1) rfl ?_
      refine g_bipush C.c dX9_more_16 (v := (11 : Int32)) (by decide) ?_
      refine g_icmp_lt C.c (tgt := 24) dX9_more_18 (by decide) (fun c => ?_) (fun c => ?_)
      · replace h := ite_t c h
        refine g_aload_n C.c dX9_more_24 rfl (i := 0) rfl ?_
        refine g_iload_n C.c dX9_more_25 rfl (i := 1) rfl ?_
        refine g_iconst C.c dX9_more_26 (v := (1 : Int32)) (by decide) ?_
        refine g_iadd C.c dX9_more_27 ?_
        refine g_iconst C.c dX9_more_28 (v := (0 : Int32)) (by decide) ?_
        obtain ⟨p1, e2, h⟩ := Option.bind_eq_some_iff.mp h
        refine kc_9_232 C dX9_more_29 e2 (Nat.le_of_ble_eq_true rfl) rfl (Nat.le_of_ble_eq_true rfl) ?_
        refine g_aload_n C.c dX9_more_32 rfl (i := 0) rfl ?_
        refine g_iload_n C.c dX9_more_33 rfl (i := 1) rfl ?_
        refine g_iconst C.c dX9_more_34 (v := (0 : Int32)) (by decide) ?_
        obtain ⟨p3, e4, h⟩ := Option.bind_eq_some_iff.mp h
        refine kc_9_232 C dX9_more_35 e4 (Nat.le_of_ble_eq_true rfl) rfl (Nat.le_of_ble_eq_true rfl) ?_
        refine g_isub C.c dX9_more_38 ?_
        obtain rfl := Option.some.inj h
        exact g_iret C hQ dX9_more_39 rfl ⟨rfl, rfl⟩
      · replace h := ite_f c h
        refine g_bipush C.c dX9_more_21 (v := (-102 : Int32)) (by decide) ?_
        obtain rfl := Option.some.inj h
        exact g_iret C hQ dX9_more_23 rfl ⟨rfl, rfl⟩
  · replace h := ite_t c h
    refine g_bipush C.c dX9_more_7 (v := (-103 : Int32)) (by decide) ?_
    obtain rfl := Option.some.inj h
    exact g_iret C hQ dX9_more_9 rfl ⟨rfl, rfl⟩
def fX9_more (a0 : Int32) (σ : Sg) : Option (Int32 × Sg) := fX9_more_b0 a0 σ
theorem ct_X9_more {a0 : Int32} {σ : Sg} {p : Int32 × Sg} (h : fX9_more a0 σ = some p) : Ct layC yX9_more cX9_more 2 (some .int) 18 (fun ad => [.ref (ad 0), .int a0]) σ (okI p) :=
 ct_of (L0 := fun ad => [some (.ref (ad 0)), some (.int a0)]) (by decide) (fun _ => Nat.le_of_ble_eq_true rfl) (fun _ => rfl) (fun K C hQ => g_mask [true, true] rfl (bX9_more_b0 C hQ h))
-- X9_drawn
theorem dX9_drawn_0 : decode cX9_drawn 0 = .ok (.aload_n 0, 1) := by decide +kernel
theorem dX9_drawn_1 : decode cX9_drawn 1 = .ok (.iload_n 1, 1) := by decide +kernel
theorem dX9_drawn_2 : decode cX9_drawn 2 = .ok (.invokevirtual 142, 3) := by decide +kernel
theorem dX9_drawn_5 : decode cX9_drawn 5 = .ok (.ifCond .ne 6, 3) := by decide +kernel
theorem dX9_drawn_8 : decode cX9_drawn 8 = .ok (.bipush (-101), 2) := by decide +kernel
theorem dX9_drawn_10 : decode cX9_drawn 10 = .ok (.ireturn, 1) := by decide +kernel
theorem dX9_drawn_11 : decode cX9_drawn 11 = .ok (.iload_n 2, 1) := by decide +kernel
theorem dX9_drawn_12 : decode cX9_drawn 12 = .ok (.invokestatic 176, 3) := by decide +kernel
theorem dX9_drawn_15 : decode cX9_drawn 15 = .ok (.ifCond .eq 19, 3) := by decide +kernel
theorem dX9_drawn_18 : decode cX9_drawn 18 = .ok (.iload 4, 2) := by decide +kernel
theorem dX9_drawn_20 : decode cX9_drawn 20 = .ok (.ifCond .lt 14, 3) := by decide +kernel
theorem dX9_drawn_23 : decode cX9_drawn 23 = .ok (.iload 5, 2) := by decide +kernel
theorem dX9_drawn_25 : decode cX9_drawn 25 = .ok (.ifCond .lt 9, 3) := by decide +kernel
theorem dX9_drawn_28 : decode cX9_drawn 28 = .ok (.iload 5, 2) := by decide +kernel
theorem dX9_drawn_30 : decode cX9_drawn 30 = .ok (.iconst 2, 1) := by decide +kernel
theorem dX9_drawn_31 : decode cX9_drawn 31 = .ok (.if_icmp .le 6, 3) := by decide +kernel
theorem dX9_drawn_34 : decode cX9_drawn 34 = .ok (.bipush (-102), 2) := by decide +kernel
theorem dX9_drawn_36 : decode cX9_drawn 36 = .ok (.ireturn, 1) := by decide +kernel
theorem dX9_drawn_37 : decode cX9_drawn 37 = .ok (.aload_n 0, 1) := by decide +kernel
theorem dX9_drawn_38 : decode cX9_drawn 38 = .ok (.iload_n 1, 1) := by decide +kernel
theorem dX9_drawn_39 : decode cX9_drawn 39 = .ok (.invokevirtual 180, 3) := by decide +kernel
theorem dX9_drawn_42 : decode cX9_drawn 42 = .ok (.ifCond .ne 5, 3) := by decide +kernel
theorem dX9_drawn_45 : decode cX9_drawn 45 = .ok (.iconst (-1), 1) := by decide +kernel
theorem dX9_drawn_46 : decode cX9_drawn 46 = .ok (.ireturn, 1) := by decide +kernel
theorem dX9_drawn_47 : decode cX9_drawn 47 = .ok (.aload_n 0, 1) := by decide +kernel
theorem dX9_drawn_48 : decode cX9_drawn 48 = .ok (.getfield 19, 3) := by decide +kernel
theorem dX9_drawn_51 : decode cX9_drawn 51 = .ok (.aload_n 0, 1) := by decide +kernel
theorem dX9_drawn_52 : decode cX9_drawn 52 = .ok (.getfield 37, 3) := by decide +kernel
theorem dX9_drawn_55 : decode cX9_drawn 55 = .ok (.iload_n 1, 1) := by decide +kernel
theorem dX9_drawn_56 : decode cX9_drawn 56 = .ok (.aaload, 1) := by decide +kernel
theorem dX9_drawn_57 : decode cX9_drawn 57 = .ok (.aload_n 0, 1) := by decide +kernel
theorem dX9_drawn_58 : decode cX9_drawn 58 = .ok (.getfield 37, 3) := by decide +kernel
theorem dX9_drawn_61 : decode cX9_drawn 61 = .ok (.iload_n 1, 1) := by decide +kernel
theorem dX9_drawn_62 : decode cX9_drawn 62 = .ok (.aaload, 1) := by decide +kernel
theorem dX9_drawn_63 : decode cX9_drawn 63 = .ok (.getfield 154, 3) := by decide +kernel
theorem dX9_drawn_66 : decode cX9_drawn 66 = .ok (.iload_n 2, 1) := by decide +kernel
theorem dX9_drawn_67 : decode cX9_drawn 67 = .ok (.iload_n 3, 1) := by decide +kernel
theorem dX9_drawn_68 : decode cX9_drawn 68 = .ok (.invokevirtual 184, 3) := by decide +kernel
theorem dX9_drawn_71 : decode cX9_drawn 71 = .ok (.aload_n 0, 1) := by decide +kernel
theorem dX9_drawn_72 : decode cX9_drawn 72 = .ok (.getfield 19, 3) := by decide +kernel
theorem dX9_drawn_75 : decode cX9_drawn 75 = .ok (.iload 4, 2) := by decide +kernel
theorem dX9_drawn_77 : decode cX9_drawn 77 = .ok (.invokevirtual 235, 3) := by decide +kernel
theorem dX9_drawn_80 : decode cX9_drawn 80 = .ok (.iload 5, 2) := by decide +kernel
theorem dX9_drawn_82 : decode cX9_drawn 82 = .ok (.lookupswitch 42 #[(0, 26), (1, 34)], 26) := by decide +kernel
theorem dX9_drawn_108 : decode cX9_drawn 108 = .ok (.aload_n 0, 1) := by decide +kernel
theorem dX9_drawn_109 : decode cX9_drawn 109 = .ok (.getfield 19, 3) := by decide +kernel
theorem dX9_drawn_112 : decode cX9_drawn 112 = .ok (.getfield 188, 3) := by decide +kernel
theorem dX9_drawn_115 : decode cX9_drawn 115 = .ok (.ireturn, 1) := by decide +kernel
theorem dX9_drawn_116 : decode cX9_drawn 116 = .ok (.aload_n 0, 1) := by decide +kernel
theorem dX9_drawn_117 : decode cX9_drawn 117 = .ok (.getfield 19, 3) := by decide +kernel
theorem dX9_drawn_120 : decode cX9_drawn 120 = .ok (.getfield 191, 3) := by decide +kernel
theorem dX9_drawn_123 : decode cX9_drawn 123 = .ok (.ireturn, 1) := by decide +kernel
theorem dX9_drawn_124 : decode cX9_drawn 124 = .ok (.aload_n 0, 1) := by decide +kernel
theorem dX9_drawn_125 : decode cX9_drawn 125 = .ok (.getfield 19, 3) := by decide +kernel
theorem dX9_drawn_128 : decode cX9_drawn 128 = .ok (.getfield 238, 3) := by decide +kernel
theorem dX9_drawn_131 : decode cX9_drawn 131 = .ok (.l2i, 1) := by decide +kernel
theorem dX9_drawn_132 : decode cX9_drawn 132 = .ok (.ireturn, 1) := by decide +kernel
theorem cw_X9_drawn : Cw yX9_drawn cX9_drawn 6 (some .int) 5 := ⟨aw_600, aw_19, ⟨by decide, by decide⟩, by decide +kernel, by decide⟩
theorem kc_9_235 {K : KT} {cc : ByteArray} {nL d pc : Nat} {ret : Option FieldType} {L : List (Option Value)} {st : List Value} {σ : Sg} (C : Cx K layC cc RX9 nL d ret)  {a0 : Int32}  {p : Sg} (hd : decode cc pc = .ok (.invokevirtual 235, 3)) (e : fX8_towAgain a0 σ = some p) (hdd : 3 + 1 ≤ d) (hLn : L.length = nL) (hr : (st.map fun v => v.category).sum ≤ 8) (k : G K (pc + 3) L (st) (Wd K layC p)) : G K pc L (.int a0 :: .ref (kad K 3) :: st) (Wd K layC σ) :=
  g_callV C (As := [.int a0]) (rest := st) (o := 3) (ci := 8) hd (ct_X8_towAgain e) cw_X8_towAgain (Or.inl aw_601) aw_602 aw_603 rfl rfl rfl hdd hLn rfl rfl hr (fun v τ q => by obtain ⟨rfl, rfl⟩ := q; exact k)
theorem gf_9_238 {K : KT} {cc : ByteArray} {nL d pc : Nat} {ret : Option FieldType} {L : List (Option Value)} {st : List Value} {σ : Sg} (C : Cx K layC cc RX9 nL d ret)  (hd : decode cc pc = .ok (.getfield 238, 3)) (k : G K (pc + 3) L (.long (rJ σ 3 16) :: st) (Wd K layC σ)) : G K pc L (.ref (kad K 3) :: st) (Wd K layC σ) := g_get C (o := 3) (ci := 8) (k := 16) hd rfl rfl rfl (by decide) (Or.inr ⟨_, aw_183⟩) inA8 rfl k
def fX9_drawn_b0 (x1 : Int32) (x2 : Int32) (x3 : Int32) (x4 : Int32) (x5 : Int32) (σ : Sg) : Option (Int32 × Sg) :=
  Option.bind (fX9_isBerg x1 σ) fun p1 => (if p1.1 = 0 then (some ((-101 : Int32), p1.2)) else (Option.bind (fX9_isTugs x2 p1.2) fun p3 => (if p3.1 = 0 then (some ((-102 : Int32), p3.2)) else (if x4 < 0 then (some ((-102 : Int32), p3.2)) else (if x5 < 0 then (some ((-102 : Int32), p3.2)) else (if x5 ≤ (2 : Int32) then (Option.bind (fX9_hasWay x1 p3.2) fun p5 => (if p5.1 = 0 then (some ((-1 : Int32), p5.2)) else (if inb x1 5 = true then (if inb x1 5 = true then (Option.bind (fX8_seek (76 + (x1).toNatClampNeg) (rI p5.2 (76 + (x1).toNatClampNeg) 2) x2 x3 p5.2) fun p11 => (Option.bind (fX8_towAgain x4 p11) fun p13 => (if x5 = (0 : Int32) then (some ((rI p13 3 11), p13)) else (if x5 = (1 : Int32) then (some ((rI p13 3 12), p13)) else (some (((rJ p13 3 16)).toInt32, p13)))))) else none) else none))) else (some ((-102 : Int32), p3.2))))))))
set_option maxRecDepth 4000 in
theorem bX9_drawn_b0 {K : KT} {x1 : Int32} {x2 : Int32} {x3 : Int32} {x4 : Int32} {x5 : Int32} {σ : Sg} {o : Int32 × Sg} (C : Cx K layC cX9_drawn RX9 6 (16) (some .int))  (hQ : Rk K layC (okI o)) (h : fX9_drawn_b0 x1 x2 x3 x4 x5 σ = some o) : G K 0 [some (.ref (kad K 0)), some (.int x1), some (.int x2), some (.int x3), some (.int x4), some (.int x5)] [] (Wd K layC σ) := by
  unfold fX9_drawn_b0 at h
  refine g_aload_n C.c dX9_drawn_0 rfl (i := 0) rfl ?_
  refine g_iload_n C.c dX9_drawn_1 rfl (i := 1) rfl ?_
  obtain ⟨p1, e2, h⟩ := Option.bind_eq_some_iff.mp h
  refine kc_9_142 C dX9_drawn_2 e2 (Nat.le_of_ble_eq_true rfl) rfl (Nat.le_of_ble_eq_true rfl) ?_
  refine g_if_ne C.c (tgt := 11) dX9_drawn_5 (by decide) (fun c => ?_) (fun c => ?_)
  · replace h := ite_f c h
    refine g_iload_n C.c dX9_drawn_11 rfl (i := 2) rfl ?_
    obtain ⟨p3, e4, h⟩ := Option.bind_eq_some_iff.mp h
    refine kc_9_176 C dX9_drawn_12 e4 (Nat.le_of_ble_eq_true rfl) rfl (Nat.le_of_ble_eq_true rfl) ?_
    refine g_if_eq C.c (tgt := 34) dX9_drawn_15 (by decide) (fun c => ?_) (fun c => ?_)
    · replace h := ite_t c h
      refine g_bipush C.c dX9_drawn_34 (v := (-102 : Int32)) (by decide) ?_
      obtain rfl := Option.some.inj h
      exact g_iret C hQ dX9_drawn_36 rfl ⟨rfl, rfl⟩
    · replace h := ite_f c h
      refine g_iload C.c dX9_drawn_18 (i := 4) rfl ?_
      refine g_if_lt C.c (tgt := 34) dX9_drawn_20 (by decide) (fun c => ?_) (fun c => ?_)
      · replace h := ite_t c h
        refine g_bipush C.c dX9_drawn_34 (v := (-102 : Int32)) (by decide) ?_
        obtain rfl := Option.some.inj h
        exact g_iret C hQ dX9_drawn_36 rfl ⟨rfl, rfl⟩
      · replace h := ite_f c h
        refine g_iload C.c dX9_drawn_23 (i := 5) rfl ?_
        refine g_if_lt C.c (tgt := 34) dX9_drawn_25 (by decide) (fun c => ?_) (fun c => ?_)
        · replace h := ite_t c h
          refine g_bipush C.c dX9_drawn_34 (v := (-102 : Int32)) (by decide) ?_
          obtain rfl := Option.some.inj h
          exact g_iret C hQ dX9_drawn_36 rfl ⟨rfl, rfl⟩
        · replace h := ite_f c h
          refine g_iload C.c dX9_drawn_28 (i := 5) rfl ?_
          refine g_iconst C.c dX9_drawn_30 (v := (2 : Int32)) (by decide) ?_
          refine g_icmp_le C.c (tgt := 37) dX9_drawn_31 (by decide) (fun c => ?_) (fun c => ?_)
          · replace h := ite_t c h
            refine g_aload_n C.c dX9_drawn_37 rfl (i := 0) rfl ?_
            refine g_iload_n C.c dX9_drawn_38 rfl (i := 1) rfl ?_
            obtain ⟨p5, e6, h⟩ := Option.bind_eq_some_iff.mp h
            refine kc_9_180 C dX9_drawn_39 e6 (Nat.le_of_ble_eq_true rfl) rfl (Nat.le_of_ble_eq_true rfl) ?_
            refine g_if_ne C.c (tgt := 47) dX9_drawn_42 (by decide) (fun c => ?_) (fun c => ?_)
            · replace h := ite_f c h
              refine g_aload_n C.c dX9_drawn_47 rfl (i := 0) rfl ?_
              refine gf_9_19 C dX9_drawn_48 ?_
              refine g_aload_n C.c dX9_drawn_51 rfl (i := 0) rfl ?_
              refine gf_9_37 C dX9_drawn_52 ?_
              refine g_iload_n C.c dX9_drawn_55 rfl (i := 1) rfl ?_
              obtain ⟨c7, h⟩ := chk h
              have hs8 := rw_48 (inb_lt c7)
              refine g_aald4 C (b := 76) dX9_drawn_56 rfl c7 rfl rfl ?_
              refine g_aload_n C.c dX9_drawn_57 rfl (i := 0) rfl ?_
              refine gf_9_37 C dX9_drawn_58 ?_
              refine g_iload_n C.c dX9_drawn_61 rfl (i := 1) rfl ?_
              obtain ⟨c9, h⟩ := chk h
              have hs10 := rw_48 (inb_lt c9)
              refine g_aald4 C (b := 76) dX9_drawn_62 rfl c9 rfl rfl ?_
              refine gf_9_154d C hs10 dX9_drawn_63 ?_
              refine g_iload_n C.c dX9_drawn_66 rfl (i := 2) rfl ?_
              refine g_iload_n C.c dX9_drawn_67 rfl (i := 3) rfl ?_
              obtain ⟨p11, e12, h⟩ := Option.bind_eq_some_iff.mp h
              refine kc_9_184 C hs8 dX9_drawn_68 e12 (Nat.le_of_ble_eq_true rfl) rfl (Nat.le_of_ble_eq_true rfl) ?_
              refine g_aload_n C.c dX9_drawn_71 rfl (i := 0) rfl ?_
              refine gf_9_19 C dX9_drawn_72 ?_
              refine g_iload C.c dX9_drawn_75 (i := 4) rfl ?_
              obtain ⟨p13, e14, h⟩ := Option.bind_eq_some_iff.mp h
              refine kc_9_235 C dX9_drawn_77 e14 (Nat.le_of_ble_eq_true rfl) rfl (Nat.le_of_ble_eq_true rfl) ?_
              refine g_iload C.c dX9_drawn_80 (i := 5) rfl ?_
              by_cases c0 : x5 = (0 : Int32)
              · replace h := ite_t c0 h
                refine g_lkIn C.c (tgt := 108) (off := 26) c0 dX9_drawn_82 (by decide) (by decide) (by decide) ?_
                refine g_aload_n C.c dX9_drawn_108 rfl (i := 0) rfl ?_
                refine gf_9_19 C dX9_drawn_109 ?_
                refine gf_9_188 C dX9_drawn_112 ?_
                obtain rfl := Option.some.inj h
                exact g_iret C hQ dX9_drawn_115 rfl ⟨rfl, rfl⟩
              · replace h := ite_f c0 h
                by_cases c1 : x5 = (1 : Int32)
                · replace h := ite_t c1 h
                  refine g_lkIn C.c (tgt := 116) (off := 34) c1 dX9_drawn_82 (by decide) (by decide) (by decide) ?_
                  refine g_aload_n C.c dX9_drawn_116 rfl (i := 0) rfl ?_
                  refine gf_9_19 C dX9_drawn_117 ?_
                  refine gf_9_191 C dX9_drawn_120 ?_
                  obtain rfl := Option.some.inj h
                  exact g_iret C hQ dX9_drawn_123 rfl ⟨rfl, rfl⟩
                · replace h := ite_f c1 h
                  refine g_lkOut C.c (tgt := 124) [(0 : Int32), (1 : Int32)] (by decide) ⟨c0, c1, trivial⟩ dX9_drawn_82 (by decide) (by decide) ?_
                  refine g_aload_n C.c dX9_drawn_124 rfl (i := 0) rfl ?_
                  refine gf_9_19 C dX9_drawn_125 ?_
                  refine gf_9_238 C dX9_drawn_128 ?_
                  refine g_l2i C.c dX9_drawn_131 ?_
                  obtain rfl := Option.some.inj h
                  exact g_iret C hQ dX9_drawn_132 rfl ⟨rfl, rfl⟩
            · replace h := ite_t c h
              refine g_iconst C.c dX9_drawn_45 (v := (-1 : Int32)) (by decide) ?_
              obtain rfl := Option.some.inj h
              exact g_iret C hQ dX9_drawn_46 rfl ⟨rfl, rfl⟩
          · replace h := ite_f c h
            refine g_bipush C.c dX9_drawn_34 (v := (-102 : Int32)) (by decide) ?_
            obtain rfl := Option.some.inj h
            exact g_iret C hQ dX9_drawn_36 rfl ⟨rfl, rfl⟩
  · replace h := ite_t c h
    refine g_bipush C.c dX9_drawn_8 (v := (-101 : Int32)) (by decide) ?_
    obtain rfl := Option.some.inj h
    exact g_iret C hQ dX9_drawn_10 rfl ⟨rfl, rfl⟩
def fX9_drawn (a0 : Int32) (a1 : Int32) (a2 : Int32) (a3 : Int32) (a4 : Int32) (σ : Sg) : Option (Int32 × Sg) := fX9_drawn_b0 a0 a1 a2 a3 a4 σ
theorem ct_X9_drawn {a0 : Int32} {a1 : Int32} {a2 : Int32} {a3 : Int32} {a4 : Int32} {σ : Sg} {p : Int32 × Sg} (h : fX9_drawn a0 a1 a2 a3 a4 σ = some p) : Ct layC yX9_drawn cX9_drawn 6 (some .int) 16 (fun ad => [.ref (ad 0), .int a0, .int a1, .int a2, .int a3, .int a4]) σ (okI p) :=
 ct_of (L0 := fun ad => [some (.ref (ad 0)), some (.int a0), some (.int a1), some (.int a2), some (.int a3), some (.int a4)]) (by decide) (fun _ => Nat.le_of_ble_eq_true rfl) (fun _ => rfl) (fun K C hQ => g_mask [true, true, true, true, true, true] rfl (bX9_drawn_b0 C hQ h))
-- X9_came
theorem dX9_came_0 : decode cX9_came 0 = .ok (.aload_n 0, 1) := by decide +kernel
theorem dX9_came_1 : decode cX9_came 1 = .ok (.iload_n 1, 1) := by decide +kernel
theorem dX9_came_2 : decode cX9_came 2 = .ok (.invokevirtual 142, 3) := by decide +kernel
theorem dX9_came_5 : decode cX9_came 5 = .ok (.ifCond .ne 6, 3) := by decide +kernel
theorem dX9_came_8 : decode cX9_came 8 = .ok (.bipush (-101), 2) := by decide +kernel
theorem dX9_came_10 : decode cX9_came 10 = .ok (.ireturn, 1) := by decide +kernel
theorem dX9_came_11 : decode cX9_came 11 = .ok (.iload_n 2, 1) := by decide +kernel
theorem dX9_came_12 : decode cX9_came 12 = .ok (.invokestatic 176, 3) := by decide +kernel
theorem dX9_came_15 : decode cX9_came 15 = .ok (.ifCond .eq 27, 3) := by decide +kernel
theorem dX9_came_18 : decode cX9_came 18 = .ok (.iload 4, 2) := by decide +kernel
theorem dX9_came_20 : decode cX9_came 20 = .ok (.ifCond .lt 22, 3) := by decide +kernel
theorem dX9_came_23 : decode cX9_came 23 = .ok (.iload 4, 2) := by decide +kernel
theorem dX9_came_25 : decode cX9_came 25 = .ok (.sipush 999, 3) := by decide +kernel
theorem dX9_came_28 : decode cX9_came 28 = .ok (.if_icmp .gt 14, 3) := by decide +kernel
theorem dX9_came_31 : decode cX9_came 31 = .ok (.iload 5, 2) := by decide +kernel
theorem dX9_came_33 : decode cX9_came 33 = .ok (.ifCond .lt 9, 3) := by decide +kernel
theorem dX9_came_36 : decode cX9_came 36 = .ok (.iload 5, 2) := by decide +kernel
theorem dX9_came_38 : decode cX9_came 38 = .ok (.iconst 2, 1) := by decide +kernel
theorem dX9_came_39 : decode cX9_came 39 = .ok (.if_icmp .le 6, 3) := by decide +kernel
theorem dX9_came_42 : decode cX9_came 42 = .ok (.bipush (-102), 2) := by decide +kernel
theorem dX9_came_44 : decode cX9_came 44 = .ok (.ireturn, 1) := by decide +kernel
theorem dX9_came_45 : decode cX9_came 45 = .ok (.aload_n 0, 1) := by decide +kernel
theorem dX9_came_46 : decode cX9_came 46 = .ok (.iload_n 1, 1) := by decide +kernel
theorem dX9_came_47 : decode cX9_came 47 = .ok (.invokevirtual 180, 3) := by decide +kernel
theorem dX9_came_50 : decode cX9_came 50 = .ok (.ifCond .eq 12, 3) := by decide +kernel
theorem dX9_came_53 : decode cX9_came 53 = .ok (.aload_n 0, 1) := by decide +kernel
theorem dX9_came_54 : decode cX9_came 54 = .ok (.getfield 242, 3) := by decide +kernel
theorem dX9_came_57 : decode cX9_came 57 = .ok (.bipush 20, 2) := by decide +kernel
theorem dX9_came_59 : decode cX9_came 59 = .ok (.if_icmp .lt 6, 3) := by decide +kernel
theorem dX9_came_62 : decode cX9_came 62 = .ok (.bipush (-103), 2) := by decide +kernel
theorem dX9_came_64 : decode cX9_came 64 = .ok (.ireturn, 1) := by decide +kernel
theorem dX9_came_65 : decode cX9_came 65 = .ok (.aload_n 0, 1) := by decide +kernel
theorem dX9_came_66 : decode cX9_came 66 = .ok (.dup, 1) := by decide +kernel
theorem dX9_came_67 : decode cX9_came 67 = .ok (.getfield 242, 3) := by decide +kernel
theorem dX9_came_70 : decode cX9_came 70 = .ok (.iconst 1, 1) := by decide +kernel
theorem dX9_came_71 : decode cX9_came 71 = .ok (.iadd, 1) := by decide +kernel
theorem dX9_came_72 : decode cX9_came 72 = .ok (.putfield 242, 3) := by decide +kernel
theorem dX9_came_75 : decode cX9_came 75 = .ok (.iconst 0, 1) := by decide +kernel
theorem dX9_came_76 : decode cX9_came 76 = .ok (.istore 6, 2) := by decide +kernel
theorem dX9_came_78 : decode cX9_came 78 = .ok (.iconst (-1), 1) := by decide +kernel
theorem dX9_came_79 : decode cX9_came 79 = .ok (.istore 7, 2) := by decide +kernel
theorem dX9_came_81 : decode cX9_came 81 = .ok (.iconst (-1), 1) := by decide +kernel
theorem dX9_came_82 : decode cX9_came 82 = .ok (.istore 8, 2) := by decide +kernel
theorem dX9_came_84 : decode cX9_came 84 = .ok (.bipush 10, 2) := by decide +kernel
theorem dX9_came_86 : decode cX9_came 86 = .ok (.istore 9, 2) := by decide +kernel
theorem dX9_came_88 : decode cX9_came 88 = .ok (.iload 9, 2) := by decide +kernel
theorem dX9_came_90 : decode cX9_came 90 = .ok (.sipush 999, 3) := by decide +kernel
theorem dX9_came_93 : decode cX9_came 93 = .ok (.if_icmp .gt 60, 3) := by decide +kernel
theorem dX9_came_96 : decode cX9_came 96 = .ok (.aload_n 0, 1) := by decide +kernel
theorem dX9_came_97 : decode cX9_came 97 = .ok (.getfield 19, 3) := by decide +kernel
theorem dX9_came_100 : decode cX9_came 100 = .ok (.aload_n 0, 1) := by decide +kernel
theorem dX9_came_101 : decode cX9_came 101 = .ok (.getfield 37, 3) := by decide +kernel
theorem dX9_came_104 : decode cX9_came 104 = .ok (.iload_n 1, 1) := by decide +kernel
theorem dX9_came_105 : decode cX9_came 105 = .ok (.aaload, 1) := by decide +kernel
theorem dX9_came_106 : decode cX9_came 106 = .ok (.iload 9, 2) := by decide +kernel
theorem dX9_came_108 : decode cX9_came 108 = .ok (.iload_n 2, 1) := by decide +kernel
theorem dX9_came_109 : decode cX9_came 109 = .ok (.iload_n 3, 1) := by decide +kernel
theorem dX9_came_110 : decode cX9_came 110 = .ok (.invokevirtual 184, 3) := by decide +kernel
theorem dX9_came_113 : decode cX9_came 113 = .ok (.aload_n 0, 1) := by decide +kernel
theorem dX9_came_114 : decode cX9_came 114 = .ok (.getfield 19, 3) := by decide +kernel
theorem dX9_came_117 : decode cX9_came 117 = .ok (.getfield 188, 3) := by decide +kernel
theorem dX9_came_120 : decode cX9_came 120 = .ok (.iload 4, 2) := by decide +kernel
theorem dX9_came_122 : decode cX9_came 122 = .ok (.if_icmp .ne 25, 3) := by decide +kernel
theorem dX9_came_125 : decode cX9_came 125 = .ok (.iinc 6 1, 3) := by decide +kernel
theorem dX9_came_128 : decode cX9_came 128 = .ok (.iload 7, 2) := by decide +kernel
theorem dX9_came_130 : decode cX9_came 130 = .ok (.iconst (-1), 1) := by decide +kernel
theorem dX9_came_131 : decode cX9_came 131 = .ok (.if_icmp .ne 8, 3) := by decide +kernel
theorem dX9_came_134 : decode cX9_came 134 = .ok (.iload 9, 2) := by decide +kernel
theorem dX9_came_136 : decode cX9_came 136 = .ok (.goto 5, 3) := by decide +kernel
theorem dX9_came_139 : decode cX9_came 139 = .ok (.iload 7, 2) := by decide +kernel
theorem dX9_came_141 : decode cX9_came 141 = .ok (.istore 7, 2) := by decide +kernel
theorem dX9_came_143 : decode cX9_came 143 = .ok (.iload 9, 2) := by decide +kernel
theorem dX9_came_145 : decode cX9_came 145 = .ok (.istore 8, 2) := by decide +kernel
theorem dX9_came_147 : decode cX9_came 147 = .ok (.iinc 9 1, 3) := by decide +kernel
theorem dX9_came_150 : decode cX9_came 150 = .ok (.goto (-62), 3) := by decide +kernel
theorem dX9_came_153 : decode cX9_came 153 = .ok (.iload 5, 2) := by decide +kernel
theorem dX9_came_155 : decode cX9_came 155 = .ok (.lookupswitch 31 #[(0, 25), (1, 28)], 25) := by decide +kernel
theorem dX9_came_180 : decode cX9_came 180 = .ok (.iload 6, 2) := by decide +kernel
theorem dX9_came_182 : decode cX9_came 182 = .ok (.ireturn, 1) := by decide +kernel
theorem dX9_came_183 : decode cX9_came 183 = .ok (.iload 7, 2) := by decide +kernel
theorem dX9_came_185 : decode cX9_came 185 = .ok (.ireturn, 1) := by decide +kernel
theorem dX9_came_186 : decode cX9_came 186 = .ok (.iload 8, 2) := by decide +kernel
theorem dX9_came_188 : decode cX9_came 188 = .ok (.ireturn, 1) := by decide +kernel
theorem cw_X9_came : Cw yX9_came cX9_came 10 (some .int) 5 := ⟨aw_608, aw_19, ⟨by decide, by decide⟩, by decide +kernel, by decide⟩
theorem gf_9_242 {K : KT} {cc : ByteArray} {nL d pc : Nat} {ret : Option FieldType} {L : List (Option Value)} {st : List Value} {σ : Sg} (C : Cx K layC cc RX9 nL d ret)  (hd : decode cc pc = .ok (.getfield 242, 3)) (k : G K (pc + 3) L (.int (rI σ 0 11) :: st) (Wd K layC σ)) : G K pc L (.ref (kad K 0) :: st) (Wd K layC σ) := g_get C (o := 0) (ci := 9) (k := 11) hd rfl rfl rfl (by decide) (Or.inl aw_318) inA9 rfl k
theorem pf_9_242 {K : KT} {cc : ByteArray} {nL d pc : Nat} {ret : Option FieldType} {L : List (Option Value)} {st : List Value} {σ : Sg} (C : Cx K layC cc RX9 nL d ret)  {v : Int32}  (hd : decode cc pc = .ok (.putfield 242, 3)) (k : G K (pc + 3) L st (Wd K layC (wI σ 0 11 v))) : G K pc L (.int v :: .ref (kad K 0) :: st) (Wd K layC σ) := g_putI C (o := 0) (ci := 9) (k := 11) hd rfl rfl rfl (by decide) (Or.inl aw_318) inA9 tyX9_ok nmX9 rfl rfl rfl k
def fX9_came_b147 (x1 : Int32) (x2 : Int32) (x3 : Int32) (x4 : Int32) (x5 : Int32) (x6 : Int32) (x7 : Int32) (x8 : Int32) (x9 : Int32) (σ : Sg) : Option ((Int32 × Int32 × Int32 × Int32 × Sg) ⊕ ((Int32 × Int32 × Int32 × Sg))) :=
  some (.inl (x6, x7, x8, (x9 + (1 : Int32)), σ))
def fX9_came_b141 (x1 : Int32) (x2 : Int32) (x3 : Int32) (x4 : Int32) (x5 : Int32) (x6 : Int32) (x9 : Int32) (y0 : Int32) (σ : Sg) : Option ((Int32 × Int32 × Int32 × Int32 × Sg) ⊕ ((Int32 × Int32 × Int32 × Sg))) :=
  fX9_came_b147 x1 x2 x3 x4 x5 x6 y0 x9 x9 σ
def fX9_came_b88 (x1 : Int32) (x2 : Int32) (x3 : Int32) (x4 : Int32) (x5 : Int32) (x6 : Int32) (x7 : Int32) (x8 : Int32) (x9 : Int32) (σ : Sg) : Option ((Int32 × Int32 × Int32 × Int32 × Sg) ⊕ ((Int32 × Int32 × Int32 × Sg))) :=
  if (999 : Int32) < x9 then (some (.inr (x6, x7, x8, σ))) else (if inb x1 5 = true then (Option.bind (fX8_seek (76 + (x1).toNatClampNeg) x9 x2 x3 σ) fun p9 => (if (rI p9 3 11) = x4 then (if x7 = (-1 : Int32) then (fX9_came_b141 x1 x2 x3 x4 x5 (x6 + (1 : Int32)) x9 x9 p9) else (fX9_came_b141 x1 x2 x3 x4 x5 (x6 + (1 : Int32)) x9 x7 p9)) else (fX9_came_b147 x1 x2 x3 x4 x5 x6 x7 x8 x9 p9))) else none)
def fX9_came_b0 (x1 : Int32) (x2 : Int32) (x3 : Int32) (x4 : Int32) (x5 : Int32) (σ : Sg) : Option (Int32 × Sg) :=
  Option.bind (fX9_isBerg x1 σ) fun p1 => (if p1.1 = 0 then (some ((-101 : Int32), p1.2)) else (Option.bind (fX9_isTugs x2 p1.2) fun p3 => (if p3.1 = 0 then (some ((-102 : Int32), p3.2)) else (if x4 < 0 then (some ((-102 : Int32), p3.2)) else (if (999 : Int32) < x4 then (some ((-102 : Int32), p3.2)) else (if x5 < 0 then (some ((-102 : Int32), p3.2)) else (if x5 ≤ (2 : Int32) then (Option.bind (fX9_hasWay x1 p3.2) fun p5 => (if p5.1 = 0 then (some ((-103 : Int32), p5.2)) else (if (rI p5.2 0 11) < (20 : Int32) then (Option.bind (lp (fun s => fX9_came_b88 x1 x2 x3 x4 x5 s.1 s.2.1 s.2.2.1 s.2.2.2.1 s.2.2.2.2) FU ((0 : Int32), (-1 : Int32), (-1 : Int32), (10 : Int32), (wI p5.2 0 11 ((rI p5.2 0 11) + (1 : Int32))))) fun t11 => if x5 = (0 : Int32) then (some (t11.1, t11.2.2.2)) else (if x5 = (1 : Int32) then (some (t11.2.1, t11.2.2.2)) else (some (t11.2.2.1, t11.2.2.2)))) else (some ((-103 : Int32), p5.2))))) else (some ((-102 : Int32), p3.2)))))))))
set_option maxRecDepth 4000 in
theorem bX9_came_b147 {K : KT} {x1 : Int32} {x2 : Int32} {x3 : Int32} {x4 : Int32} {x5 : Int32} {x6 : Int32} {x7 : Int32} {x8 : Int32} {x9 : Int32} {σ : Sg} {o : (Int32 × Int32 × Int32 × Int32 × Sg) ⊕ ((Int32 × Int32 × Int32 × Sg))} (C : Cx K layC cX9_came RX9 10 (16) (some .int))  (hI : ∀ s' : Int32 × Int32 × Int32 × Int32 × Sg, o = .inl s' → G K 88 [some (.ref (kad K 0)), some (.int x1), some (.int x2), some (.int x3), some (.int x4), some (.int x5), some (.int s'.1), some (.int s'.2.1), some (.int s'.2.2.1), some (.int s'.2.2.2.1)] [] (Wd K layC s'.2.2.2.2)) (hE0 : ∀ t : Int32 × Int32 × Int32 × Sg, o = .inr t → G K 153 [none, none, none, none, none, some (.int x5), some (.int t.1), some (.int t.2.1), some (.int t.2.2.1), none] [] (Wd K layC t.2.2.2)) (h : fX9_came_b147 x1 x2 x3 x4 x5 x6 x7 x8 x9 σ = some o) : G K 147 [some (.ref (kad K 0)), some (.int x1), some (.int x2), some (.int x3), some (.int x4), some (.int x5), some (.int x6), some (.int x7), some (.int x8), some (.int x9)] [] (Wd K layC σ) := by
  unfold fX9_came_b147 at h
  refine g_iinc C.c (i := 9) (y := (1 : Int32)) (L' := [some (.ref (kad K 0)), some (.int x1), some (.int x2), some (.int x3), some (.int x4), some (.int x5), some (.int x6), some (.int x7), some (.int x8), some (.int (x9 + (1 : Int32)))]) dX9_came_147 rfl (by decide) (Nat.le_of_ble_eq_true rfl) rfl ?_
  refine g_goto C.c (tgt := 88) dX9_came_150 (by decide) ?_
  have g9 := hI _ (Option.some.inj h).symm
  exact g_mask [true, true, true, true, true, true, true, true, true, true] rfl g9
set_option maxRecDepth 4000 in
theorem bX9_came_b141 {K : KT} {x1 : Int32} {x2 : Int32} {x3 : Int32} {x4 : Int32} {x5 : Int32} {x6 : Int32} {x9 : Int32} {y0 : Int32} {σ : Sg} {o : (Int32 × Int32 × Int32 × Int32 × Sg) ⊕ ((Int32 × Int32 × Int32 × Sg))} (C : Cx K layC cX9_came RX9 10 (16) (some .int))  (hI : ∀ s' : Int32 × Int32 × Int32 × Int32 × Sg, o = .inl s' → G K 88 [some (.ref (kad K 0)), some (.int x1), some (.int x2), some (.int x3), some (.int x4), some (.int x5), some (.int s'.1), some (.int s'.2.1), some (.int s'.2.2.1), some (.int s'.2.2.2.1)] [] (Wd K layC s'.2.2.2.2)) (hE0 : ∀ t : Int32 × Int32 × Int32 × Sg, o = .inr t → G K 153 [none, none, none, none, none, some (.int x5), some (.int t.1), some (.int t.2.1), some (.int t.2.2.1), none] [] (Wd K layC t.2.2.2)) (h : fX9_came_b141 x1 x2 x3 x4 x5 x6 x9 y0 σ = some o) : G K 141 [some (.ref (kad K 0)), some (.int x1), some (.int x2), some (.int x3), some (.int x4), some (.int x5), some (.int x6), none, none, some (.int x9)] [.int y0] (Wd K layC σ) := by
  unfold fX9_came_b141 at h
  refine g_istore C.c (i := 7) (L' := [some (.ref (kad K 0)), some (.int x1), some (.int x2), some (.int x3), some (.int x4), some (.int x5), some (.int x6), some (.int y0), none, some (.int x9)]) dX9_came_141 (Nat.le_of_ble_eq_true rfl) rfl ?_
  refine g_iload C.c dX9_came_143 (i := 9) rfl ?_
  refine g_istore C.c (i := 8) (L' := [some (.ref (kad K 0)), some (.int x1), some (.int x2), some (.int x3), some (.int x4), some (.int x5), some (.int x6), some (.int y0), some (.int x9), some (.int x9)]) dX9_came_145 (Nat.le_of_ble_eq_true rfl) rfl ?_
  exact g_mask [true, true, true, true, true, true, true, true, true, true] rfl (bX9_came_b147 C hI hE0 h)
set_option maxRecDepth 4000 in
theorem bX9_came_b88 {K : KT} {x1 : Int32} {x2 : Int32} {x3 : Int32} {x4 : Int32} {x5 : Int32} {x6 : Int32} {x7 : Int32} {x8 : Int32} {x9 : Int32} {σ : Sg} {o : (Int32 × Int32 × Int32 × Int32 × Sg) ⊕ ((Int32 × Int32 × Int32 × Sg))} (C : Cx K layC cX9_came RX9 10 (16) (some .int))  (hI : ∀ s' : Int32 × Int32 × Int32 × Int32 × Sg, o = .inl s' → G K 88 [some (.ref (kad K 0)), some (.int x1), some (.int x2), some (.int x3), some (.int x4), some (.int x5), some (.int s'.1), some (.int s'.2.1), some (.int s'.2.2.1), some (.int s'.2.2.2.1)] [] (Wd K layC s'.2.2.2.2)) (hE0 : ∀ t : Int32 × Int32 × Int32 × Sg, o = .inr t → G K 153 [none, none, none, none, none, some (.int x5), some (.int t.1), some (.int t.2.1), some (.int t.2.2.1), none] [] (Wd K layC t.2.2.2)) (h : fX9_came_b88 x1 x2 x3 x4 x5 x6 x7 x8 x9 σ = some o) : G K 88 [some (.ref (kad K 0)), some (.int x1), some (.int x2), some (.int x3), some (.int x4), some (.int x5), some (.int x6), some (.int x7), some (.int x8), some (.int x9)] [] (Wd K layC σ) := by
  unfold fX9_came_b88 at h
  refine g_iload C.c dX9_came_88 (i := 9) rfl ?_
  refine g_sipush C.c dX9_came_90 (v := (999 : Int32)) (by decide) ?_
  refine g_icmp_gt C.c (tgt := 153) dX9_came_93 (by decide) (fun c => ?_) (fun c => ?_)
  · replace h := ite_t c h
    have g9 := hE0 _ (Option.some.inj h).symm
    exact g_mask [false, false, false, false, false, true, true, true, true, false] rfl g9
  · replace h := ite_f c h
    refine g_aload_n C.c dX9_came_96 rfl (i := 0) rfl ?_
    refine gf_9_19 C dX9_came_97 ?_
    refine g_aload_n C.c dX9_came_100 rfl (i := 0) rfl ?_
    refine gf_9_37 C dX9_came_101 ?_
    refine g_iload_n C.c dX9_came_104 rfl (i := 1) rfl ?_
    obtain ⟨c7, h⟩ := chk h
    have hs8 := rw_48 (inb_lt c7)
    refine g_aald4 C (b := 76) dX9_came_105 rfl c7 rfl rfl ?_
    refine g_iload C.c dX9_came_106 (i := 9) rfl ?_
    refine g_iload_n C.c dX9_came_108 rfl (i := 2) rfl ?_
    refine g_iload_n C.c dX9_came_109 rfl (i := 3) rfl ?_
    obtain ⟨p9, e10, h⟩ := Option.bind_eq_some_iff.mp h
    refine kc_9_184 C hs8 dX9_came_110 e10 (Nat.le_of_ble_eq_true rfl) rfl (Nat.le_of_ble_eq_true rfl) ?_
    refine g_aload_n C.c dX9_came_113 rfl (i := 0) rfl ?_
    refine gf_9_19 C dX9_came_114 ?_
    refine gf_9_188 C dX9_came_117 ?_
    refine g_iload C.c dX9_came_120 (i := 4) rfl ?_
    refine g_icmp_ne C.c (tgt := 147) dX9_came_122 (by decide) (fun c => ?_) (fun c => ?_)
    · replace h := ite_f c h
      exact g_mask [true, true, true, true, true, true, true, true, true, true] rfl (bX9_came_b147 C hI hE0 h)
    · replace h := ite_t c h
      refine g_iinc C.c (i := 6) (y := (1 : Int32)) (L' := [some (.ref (kad K 0)), some (.int x1), some (.int x2), some (.int x3), some (.int x4), some (.int x5), some (.int (x6 + (1 : Int32))), some (.int x7), some (.int x8), some (.int x9)]) dX9_came_125 rfl (by decide) (Nat.le_of_ble_eq_true rfl) rfl ?_
      refine g_iload C.c dX9_came_128 (i := 7) rfl ?_
      refine g_iconst C.c dX9_came_130 (v := (-1 : Int32)) (by decide) ?_
      refine g_icmp_ne C.c (tgt := 139) dX9_came_131 (by decide) (fun c => ?_) (fun c => ?_)
      · replace h := ite_f c h
        refine g_iload C.c dX9_came_139 (i := 7) rfl ?_
        exact g_mask [true, true, true, true, true, true, true, false, false, true] rfl (bX9_came_b141 C hI hE0 h)
      · replace h := ite_t c h
        refine g_iload C.c dX9_came_134 (i := 9) rfl ?_
        refine g_goto C.c (tgt := 141) dX9_came_136 (by decide) ?_
        exact g_mask [true, true, true, true, true, true, true, false, false, true] rfl (bX9_came_b141 C hI hE0 h)
set_option maxRecDepth 4000 in
theorem bX9_came_b0 {K : KT} {x1 : Int32} {x2 : Int32} {x3 : Int32} {x4 : Int32} {x5 : Int32} {σ : Sg} {o : Int32 × Sg} (C : Cx K layC cX9_came RX9 10 (16) (some .int))  (hQ : Rk K layC (okI o)) (h : fX9_came_b0 x1 x2 x3 x4 x5 σ = some o) : G K 0 [some (.ref (kad K 0)), some (.int x1), some (.int x2), some (.int x3), some (.int x4), some (.int x5), none, none, none, none] [] (Wd K layC σ) := by
  unfold fX9_came_b0 at h
  refine g_aload_n C.c dX9_came_0 rfl (i := 0) rfl ?_
  refine g_iload_n C.c dX9_came_1 rfl (i := 1) rfl ?_
  obtain ⟨p1, e2, h⟩ := Option.bind_eq_some_iff.mp h
  refine kc_9_142 C dX9_came_2 e2 (Nat.le_of_ble_eq_true rfl) rfl (Nat.le_of_ble_eq_true rfl) ?_
  refine g_if_ne C.c (tgt := 11) dX9_came_5 (by decide) (fun c => ?_) (fun c => ?_)
  · replace h := ite_f c h
    refine g_iload_n C.c dX9_came_11 rfl (i := 2) rfl ?_
    obtain ⟨p3, e4, h⟩ := Option.bind_eq_some_iff.mp h
    refine kc_9_176 C dX9_came_12 e4 (Nat.le_of_ble_eq_true rfl) rfl (Nat.le_of_ble_eq_true rfl) ?_
    refine g_if_eq C.c (tgt := 42) dX9_came_15 (by decide) (fun c => ?_) (fun c => ?_)
    · replace h := ite_t c h
      refine g_bipush C.c dX9_came_42 (v := (-102 : Int32)) (by decide) ?_
      obtain rfl := Option.some.inj h
      exact g_iret C hQ dX9_came_44 rfl ⟨rfl, rfl⟩
    · replace h := ite_f c h
      refine g_iload C.c dX9_came_18 (i := 4) rfl ?_
      refine g_if_lt C.c (tgt := 42) dX9_came_20 (by decide) (fun c => ?_) (fun c => ?_)
      · replace h := ite_t c h
        refine g_bipush C.c dX9_came_42 (v := (-102 : Int32)) (by decide) ?_
        obtain rfl := Option.some.inj h
        exact g_iret C hQ dX9_came_44 rfl ⟨rfl, rfl⟩
      · replace h := ite_f c h
        refine g_iload C.c dX9_came_23 (i := 4) rfl ?_
        refine g_sipush C.c dX9_came_25 (v := (999 : Int32)) (by decide) ?_
        refine g_icmp_gt C.c (tgt := 42) dX9_came_28 (by decide) (fun c => ?_) (fun c => ?_)
        · replace h := ite_t c h
          refine g_bipush C.c dX9_came_42 (v := (-102 : Int32)) (by decide) ?_
          obtain rfl := Option.some.inj h
          exact g_iret C hQ dX9_came_44 rfl ⟨rfl, rfl⟩
        · replace h := ite_f c h
          refine g_iload C.c dX9_came_31 (i := 5) rfl ?_
          refine g_if_lt C.c (tgt := 42) dX9_came_33 (by decide) (fun c => ?_) (fun c => ?_)
          · replace h := ite_t c h
            refine g_bipush C.c dX9_came_42 (v := (-102 : Int32)) (by decide) ?_
            obtain rfl := Option.some.inj h
            exact g_iret C hQ dX9_came_44 rfl ⟨rfl, rfl⟩
          · replace h := ite_f c h
            refine g_iload C.c dX9_came_36 (i := 5) rfl ?_
            refine g_iconst C.c dX9_came_38 (v := (2 : Int32)) (by decide) ?_
            refine g_icmp_le C.c (tgt := 45) dX9_came_39 (by decide) (fun c => ?_) (fun c => ?_)
            · replace h := ite_t c h
              refine g_aload_n C.c dX9_came_45 rfl (i := 0) rfl ?_
              refine g_iload_n C.c dX9_came_46 rfl (i := 1) rfl ?_
              obtain ⟨p5, e6, h⟩ := Option.bind_eq_some_iff.mp h
              refine kc_9_180 C dX9_came_47 e6 (Nat.le_of_ble_eq_true rfl) rfl (Nat.le_of_ble_eq_true rfl) ?_
              refine g_if_eq C.c (tgt := 62) dX9_came_50 (by decide) (fun c => ?_) (fun c => ?_)
              · replace h := ite_t c h
                refine g_bipush C.c dX9_came_62 (v := (-103 : Int32)) (by decide) ?_
                obtain rfl := Option.some.inj h
                exact g_iret C hQ dX9_came_64 rfl ⟨rfl, rfl⟩
              · replace h := ite_f c h
                refine g_aload_n C.c dX9_came_53 rfl (i := 0) rfl ?_
                refine gf_9_242 C dX9_came_54 ?_
                refine g_bipush C.c dX9_came_57 (v := (20 : Int32)) (by decide) ?_
                refine g_icmp_lt C.c (tgt := 65) dX9_came_59 (by decide) (fun c => ?_) (fun c => ?_)
                · replace h := ite_t c h
                  refine g_aload_n C.c dX9_came_65 rfl (i := 0) rfl ?_
                  refine g_dup C.c dX9_came_66 rfl ?_
                  refine gf_9_242 C dX9_came_67 ?_
                  refine g_iconst C.c dX9_came_70 (v := (1 : Int32)) (by decide) ?_
                  refine g_iadd C.c dX9_came_71 ?_
                  refine pf_9_242 C dX9_came_72 ?_
                  refine g_iconst C.c dX9_came_75 (v := (0 : Int32)) (by decide) ?_
                  refine g_istore C.c (i := 6) (L' := [some (.ref (kad K 0)), some (.int x1), some (.int x2), some (.int x3), some (.int x4), some (.int x5), some (.int (0 : Int32)), none, none, none]) dX9_came_76 (Nat.le_of_ble_eq_true rfl) rfl ?_
                  refine g_iconst C.c dX9_came_78 (v := (-1 : Int32)) (by decide) ?_
                  refine g_istore C.c (i := 7) (L' := [some (.ref (kad K 0)), some (.int x1), some (.int x2), some (.int x3), some (.int x4), some (.int x5), some (.int (0 : Int32)), some (.int (-1 : Int32)), none, none]) dX9_came_79 (Nat.le_of_ble_eq_true rfl) rfl ?_
                  refine g_iconst C.c dX9_came_81 (v := (-1 : Int32)) (by decide) ?_
                  refine g_istore C.c (i := 8) (L' := [some (.ref (kad K 0)), some (.int x1), some (.int x2), some (.int x3), some (.int x4), some (.int x5), some (.int (0 : Int32)), some (.int (-1 : Int32)), some (.int (-1 : Int32)), none]) dX9_came_82 (Nat.le_of_ble_eq_true rfl) rfl ?_
                  refine g_bipush C.c dX9_came_84 (v := (10 : Int32)) (by decide) ?_
                  refine g_istore C.c (i := 9) (L' := [some (.ref (kad K 0)), some (.int x1), some (.int x2), some (.int x3), some (.int x4), some (.int x5), some (.int (0 : Int32)), some (.int (-1 : Int32)), some (.int (-1 : Int32)), some (.int (10 : Int32))]) dX9_came_86 (Nat.le_of_ble_eq_true rfl) rfl ?_
                  refine g_mask [true, true, true, true, true, true, true, true, true, true] rfl ?_
                  refine lp_bind (Gh := fun s => G K 88 [some (.ref (kad K 0)), some (.int x1), some (.int x2), some (.int x3), some (.int x4), some (.int x5), some (.int s.1), some (.int s.2.1), some (.int s.2.2.1), some (.int s.2.2.2.1)] [] (Wd K layC s.2.2.2.2)) h (fun s o2 hf gI gE => ?_)
                  refine bX9_came_b88 C gI (fun t11 e => ?_) hf
                  · have h := gE _ e
                    refine g_iload C.c dX9_came_153 (i := 5) rfl ?_
                    by_cases c0 : x5 = (0 : Int32)
                    · replace h := ite_t c0 h
                      refine g_lkIn C.c (tgt := 180) (off := 25) c0 dX9_came_155 (by decide) (by decide) (by decide) ?_
                      refine g_iload C.c dX9_came_180 (i := 6) rfl ?_
                      obtain rfl := Option.some.inj h
                      exact g_iret C hQ dX9_came_182 rfl ⟨rfl, rfl⟩
                    · replace h := ite_f c0 h
                      by_cases c1 : x5 = (1 : Int32)
                      · replace h := ite_t c1 h
                        refine g_lkIn C.c (tgt := 183) (off := 28) c1 dX9_came_155 (by decide) (by decide) (by decide) ?_
                        refine g_iload C.c dX9_came_183 (i := 7) rfl ?_
                        obtain rfl := Option.some.inj h
                        exact g_iret C hQ dX9_came_185 rfl ⟨rfl, rfl⟩
                      · replace h := ite_f c1 h
                        refine g_lkOut C.c (tgt := 186) [(0 : Int32), (1 : Int32)] (by decide) ⟨c0, c1, trivial⟩ dX9_came_155 (by decide) (by decide) ?_
                        refine g_iload C.c dX9_came_186 (i := 8) rfl ?_
                        obtain rfl := Option.some.inj h
                        exact g_iret C hQ dX9_came_188 rfl ⟨rfl, rfl⟩
                · replace h := ite_f c h
                  refine g_bipush C.c dX9_came_62 (v := (-103 : Int32)) (by decide) ?_
                  obtain rfl := Option.some.inj h
                  exact g_iret C hQ dX9_came_64 rfl ⟨rfl, rfl⟩
            · replace h := ite_f c h
              refine g_bipush C.c dX9_came_42 (v := (-102 : Int32)) (by decide) ?_
              obtain rfl := Option.some.inj h
              exact g_iret C hQ dX9_came_44 rfl ⟨rfl, rfl⟩
  · replace h := ite_t c h
    refine g_bipush C.c dX9_came_8 (v := (-101 : Int32)) (by decide) ?_
    obtain rfl := Option.some.inj h
    exact g_iret C hQ dX9_came_10 rfl ⟨rfl, rfl⟩
def fX9_came (a0 : Int32) (a1 : Int32) (a2 : Int32) (a3 : Int32) (a4 : Int32) (σ : Sg) : Option (Int32 × Sg) := fX9_came_b0 a0 a1 a2 a3 a4 σ
theorem ct_X9_came {a0 : Int32} {a1 : Int32} {a2 : Int32} {a3 : Int32} {a4 : Int32} {σ : Sg} {p : Int32 × Sg} (h : fX9_came a0 a1 a2 a3 a4 σ = some p) : Ct layC yX9_came cX9_came 10 (some .int) 16 (fun ad => [.ref (ad 0), .int a0, .int a1, .int a2, .int a3, .int a4]) σ (okI p) :=
 ct_of (L0 := fun ad => [some (.ref (ad 0)), some (.int a0), some (.int a1), some (.int a2), some (.int a3), some (.int a4), none, none, none, none]) (by decide) (fun _ => Nat.le_of_ble_eq_true rfl) (fun _ => rfl) (fun K C hQ => g_mask [true, true, true, true, true, true, false, false, false, false] rfl (bX9_came_b0 C hQ h))
