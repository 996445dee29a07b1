-- X2_keep
theorem dX2_keep_0 : decode cX2_keep 0 = .ok (.aload_n 0, 1) := by decide +kernel
theorem dX2_keep_1 : decode cX2_keep 1 = .ok (.iload_n 2, 1) := by decide +kernel
theorem dX2_keep_2 : decode cX2_keep 2 = .ok (.aload_n 1, 1) := by decide +kernel
theorem dX2_keep_3 : decode cX2_keep 3 = .ok (.arraylength, 1) := by decide +kernel
theorem dX2_keep_4 : decode cX2_keep 4 = .ok (.invokestatic 25, 3) := by decide +kernel
theorem dX2_keep_7 : decode cX2_keep 7 = .ok (.putfield 31, 3) := by decide +kernel
theorem dX2_keep_10 : decode cX2_keep 10 = .ok (.iconst 0, 1) := by decide +kernel
theorem dX2_keep_11 : decode cX2_keep 11 = .ok (.istore 4, 2) := by decide +kernel
theorem dX2_keep_13 : decode cX2_keep 13 = .ok (.iload 4, 2) := by decide +kernel
theorem dX2_keep_15 : decode cX2_keep 15 = .ok (.aload_n 0, 1) := by decide +kernel
theorem dX2_keep_16 : decode cX2_keep 16 = .ok (.getfield 31, 3) := by decide +kernel
theorem dX2_keep_19 : decode cX2_keep 19 = .ok (.if_icmp .ge 37, 3) := by decide +kernel
theorem dX2_keep_22 : decode cX2_keep 22 = .ok (.aload_n 0, 1) := by decide +kernel
theorem dX2_keep_23 : decode cX2_keep 23 = .ok (.getfield 9, 3) := by decide +kernel
theorem dX2_keep_26 : decode cX2_keep 26 = .ok (.iload 4, 2) := by decide +kernel
theorem dX2_keep_28 : decode cX2_keep 28 = .ok (.aload_n 1, 1) := by decide +kernel
theorem dX2_keep_29 : decode cX2_keep 29 = .ok (.iload 4, 2) := by decide +kernel
theorem dX2_keep_31 : decode cX2_keep 31 = .ok (.aaload, 1) := by decide +kernel
theorem dX2_keep_32 : decode cX2_keep 32 = .ok (.getfield 35, 3) := by decide +kernel
theorem dX2_keep_35 : decode cX2_keep 35 = .ok (.iastore, 1) := by decide +kernel
theorem dX2_keep_36 : decode cX2_keep 36 = .ok (.aload_n 0, 1) := by decide +kernel
theorem dX2_keep_37 : decode cX2_keep 37 = .ok (.getfield 15, 3) := by decide +kernel
theorem dX2_keep_40 : decode cX2_keep 40 = .ok (.iload 4, 2) := by decide +kernel
theorem dX2_keep_42 : decode cX2_keep 42 = .ok (.aload_n 1, 1) := by decide +kernel
theorem dX2_keep_43 : decode cX2_keep 43 = .ok (.iload 4, 2) := by decide +kernel
theorem dX2_keep_45 : decode cX2_keep 45 = .ok (.aaload, 1) := by decide +kernel
theorem dX2_keep_46 : decode cX2_keep 46 = .ok (.getfield 40, 3) := by decide +kernel
theorem dX2_keep_49 : decode cX2_keep 49 = .ok (.iastore, 1) := by decide +kernel
theorem dX2_keep_50 : decode cX2_keep 50 = .ok (.iinc 4 1, 3) := by decide +kernel
theorem dX2_keep_53 : decode cX2_keep 53 = .ok (.goto (-40), 3) := by decide +kernel
theorem dX2_keep_56 : decode cX2_keep 56 = .ok (.aload_n 0, 1) := by decide +kernel
theorem dX2_keep_57 : decode cX2_keep 57 = .ok (.getfield 21, 3) := by decide +kernel
theorem dX2_keep_60 : decode cX2_keep 60 = .ok (.aload_n 3, 1) := by decide +kernel
theorem dX2_keep_61 : decode cX2_keep 61 = .ok (.invokevirtual 43, 3) := by decide +kernel
theorem dX2_keep_64 : decode cX2_keep 64 = .ok (.return_, 1) := by decide +kernel
theorem cw_X2_keep : Cw yX2_keep cX2_keep 5 none 3 := ⟨aw_751, aw_53, ⟨by decide, by decide⟩, by decide +kernel, by decide⟩
theorem pf_2_31 {K : KT} {cc : ByteArray} {nL d pc : Nat} {ret : Option FieldType} {L : List (Option Value)} {st : List Value} {σ : Sg} (C : Cx K layC cc RX2 nL d ret)  {v : Int32}  (hd : decode cc pc = .ok (.putfield 31, 3)) (k : G K (pc + 3) L st (Wd K layC (wI σ 53 3 v))) : G K pc L (.int v :: .ref (kad K 53) :: st) (Wd K layC σ) := g_putI C (o := 53) (ci := 2) (k := 3) hd rfl rfl rfl (by decide) (Or.inl aw_287) inA2 tyX2_ok nmX2 rfl rfl rfl k
theorem gf_2_31 {K : KT} {cc : ByteArray} {nL d pc : Nat} {ret : Option FieldType} {L : List (Option Value)} {st : List Value} {σ : Sg} (C : Cx K layC cc RX2 nL d ret)  (hd : decode cc pc = .ok (.getfield 31, 3)) (k : G K (pc + 3) L (.int (rI σ 53 3) :: st) (Wd K layC σ)) : G K pc L (.ref (kad K 53) :: st) (Wd K layC σ) := g_get C (o := 53) (ci := 2) (k := 3) hd rfl rfl rfl (by decide) (Or.inl aw_287) inA2 rfl k
theorem gf_2_9 {K : KT} {cc : ByteArray} {nL d pc : Nat} {ret : Option FieldType} {L : List (Option Value)} {st : List Value} {σ : Sg} (C : Cx K layC cc RX2 nL d ret)  (hd : decode cc pc = .ok (.getfield 9, 3)) (k : G K (pc + 3) L (.ref (kad K 54) :: st) (Wd K layC σ)) : G K pc L (.ref (kad K 53) :: st) (Wd K layC σ) := g_get C (o := 53) (ci := 2) (k := 0) hd rfl rfl rfl (by decide) (Or.inl aw_284) inA2 rfl k
theorem gf_2_35d {K : KT} {cc : ByteArray} {nL d pc : Nat} {ret : Option FieldType} {L : List (Option Value)} {st : List Value} {σ : Sg} (C : Cx K layC cc RX2 nL d ret) {o : Nat} (hY : layC[o]? = some (0, 0, slX0)) (hd : decode cc pc = .ok (.getfield 35, 3)) (k : G K (pc + 3) L (.int (rI σ o 2) :: st) (Wd K layC σ)) : G K pc L (.ref (kad K o) :: st) (Wd K layC σ) := g_get C (o := o) (ci := 0) (k := 2) hd hY rfl rfl (by decide) (Or.inr ⟨_, aw_169⟩) inA0 rfl k
theorem gf_2_15 {K : KT} {cc : ByteArray} {nL d pc : Nat} {ret : Option FieldType} {L : List (Option Value)} {st : List Value} {σ : Sg} (C : Cx K layC cc RX2 nL d ret)  (hd : decode cc pc = .ok (.getfield 15, 3)) (k : G K (pc + 3) L (.ref (kad K 55) :: st) (Wd K layC σ)) : G K pc L (.ref (kad K 53) :: st) (Wd K layC σ) := g_get C (o := 53) (ci := 2) (k := 1) hd rfl rfl rfl (by decide) (Or.inl aw_285) inA2 rfl k
theorem gf_2_40d {K : KT} {cc : ByteArray} {nL d pc : Nat} {ret : Option FieldType} {L : List (Option Value)} {st : List Value} {σ : Sg} (C : Cx K layC cc RX2 nL d ret) {o : Nat} (hY : layC[o]? = some (0, 0, slX0)) (hd : decode cc pc = .ok (.getfield 40, 3)) (k : G K (pc + 3) L (.int (rI σ o 3) :: st) (Wd K layC σ)) : G K pc L (.ref (kad K o) :: st) (Wd K layC σ) := g_get C (o := o) (ci := 0) (k := 3) hd hY rfl rfl (by decide) (Or.inr ⟨_, aw_173⟩) inA0 rfl k
theorem gf_2_21 {K : KT} {cc : ByteArray} {nL d pc : Nat} {ret : Option FieldType} {L : List (Option Value)} {st : List Value} {σ : Sg} (C : Cx K layC cc RX2 nL d ret)  (hd : decode cc pc = .ok (.getfield 21, 3)) (k : G K (pc + 3) L (.ref (kad K 56) :: st) (Wd K layC σ)) : G K pc L (.ref (kad K 53) :: st) (Wd K layC σ) := g_get C (o := 53) (ci := 2) (k := 2) hd rfl rfl rfl (by decide) (Or.inl aw_286) inA2 rfl k
theorem kc_2_43 {K : KT} {cc : ByteArray} {nL d pc : Nat} {ret : Option FieldType} {L : List (Option Value)} {st : List Value} {σ : Sg} (C : Cx K layC cc RX2 nL d ret)  {o0 : Nat} {q0 : Nat} (hY0 : layC[o0]? = some (0, 1, slX1)) (hYq0 : layC[q0]? = some (0, 1, slX1)) {p : Sg} (hd : decode cc pc = .ok (.invokevirtual 43, 3)) (e : fX1_copy o0 q0 σ = some p) (hdd : 1 + 1 ≤ d) (hLn : L.length = nL) (hr : (st.map fun v => v.category).sum ≤ 8) (k : G K (pc + 3) L (st) (Wd K layC p)) : G K pc L (.ref (kad K q0) :: .ref (kad K o0) :: st) (Wd K layC σ) :=
  g_callV C (As := [.ref (kad K q0)]) (rest := st) (o := o0) (ci := 1) hd (ct_X1_copy hY0 hYq0 e) cw_X1_copy (Or.inl aw_753) aw_754 aw_755 rfl rfl rfl hdd hLn hY0 rfl hr (fun v τ q => by obtain ⟨rfl, rfl⟩ := q; exact k)
def fX2_keep_b13 (w3 : Nat) (x4 : Int32) (σ : Sg) : Option ((Int32 × Sg) ⊕ ((Sg))) :=
  if (rI σ 53 3) ≤ x4 then (some (.inr σ)) else (if inb x4 5 = true then (if inb x4 5 = true then (if inb x4 5 = true then (if inb x4 5 = true then (some (.inl ((x4 + (1 : Int32)), (wI (wI σ 54 (x4).toNatClampNeg (rI σ (76 + (x4).toNatClampNeg) 2)) 55 (x4).toNatClampNeg (rI (wI σ 54 (x4).toNatClampNeg (rI σ (76 + (x4).toNatClampNeg) 2)) (76 + (x4).toNatClampNeg) 3))))) else none) else none) else none) else none)
def fX2_keep_b0 (x2 : Int32) (w3 : Nat) (σ : Sg) : Option (Sg) :=
  Option.bind (lp (fun s => fX2_keep_b13 w3 s.1 s.2) FU ((0 : Int32), (wI σ 53 3 (imin x2 (5 : Int32))))) fun t7 => Option.bind (fX1_copy 56 w3 t7) fun p9 => (some p9)
set_option maxRecDepth 4000 in
theorem bX2_keep_b13 {K : KT} {w3 : Nat} {x4 : Int32} {σ : Sg} {o : (Int32 × Sg) ⊕ ((Sg))} (C : Cx K layC cX2_keep RX2 5 (2) none) (hw3 : layC[w3]? = some (0, 1, slX1)) (hI : ∀ s' : Int32 × Sg, o = .inl s' → G K 13 [some (.ref (kad K 53)), some (.ref (kad K 48)), none, some (.ref (kad K w3)), some (.int s'.1)] [] (Wd K layC s'.2)) (hE0 : ∀ t : Sg, o = .inr t → G K 56 [some (.ref (kad K 53)), none, none, some (.ref (kad K w3)), none] [] (Wd K layC t)) (h : fX2_keep_b13 w3 x4 σ = some o) : G K 13 [some (.ref (kad K 53)), some (.ref (kad K 48)), none, some (.ref (kad K w3)), some (.int x4)] [] (Wd K layC σ) := by
  unfold fX2_keep_b13 at h
  refine g_iload C.c dX2_keep_13 (i := 4) rfl ?_
  refine g_aload_n C.c dX2_keep_15 rfl (i := 0) rfl ?_
  refine gf_2_31 C dX2_keep_16 ?_
  refine g_icmp_ge C.c (tgt := 56) dX2_keep_19 (by decide) (fun c => ?_) (fun c => ?_)
  · replace h := ite_t c h
    have g9 := hE0 _ (Option.some.inj h).symm
    exact g_mask [true, false, false, true, false] rfl g9
  · replace h := ite_f c h
    refine g_aload_n C.c dX2_keep_22 rfl (i := 0) rfl ?_
    refine gf_2_9 C dX2_keep_23 ?_
    refine g_iload C.c dX2_keep_26 (i := 4) rfl ?_
    refine g_aload_n C.c dX2_keep_28 rfl (i := 1) rfl ?_
    refine g_iload C.c dX2_keep_29 (i := 4) rfl ?_
    obtain ⟨c1, h⟩ := chk h
    have hs2 := rw_48 (inb_lt c1)
    refine g_aald4 C (b := 76) dX2_keep_31 rfl c1 rfl rfl ?_
    refine gf_2_35d C hs2 dX2_keep_32 ?_
    obtain ⟨c3, h⟩ := chk h
    refine g_iast C dX2_keep_35 rfl c3 ?_
    refine g_aload_n C.c dX2_keep_36 rfl (i := 0) rfl ?_
    refine gf_2_15 C dX2_keep_37 ?_
    refine g_iload C.c dX2_keep_40 (i := 4) rfl ?_
    refine g_aload_n C.c dX2_keep_42 rfl (i := 1) rfl ?_
    refine g_iload C.c dX2_keep_43 (i := 4) rfl ?_
    obtain ⟨c4, h⟩ := chk h
    have hs5 := rw_48 (inb_lt c4)
    refine g_aald4 C (b := 76) dX2_keep_45 rfl c4 rfl rfl ?_
    refine gf_2_40d C hs5 dX2_keep_46 ?_
    obtain ⟨c6, h⟩ := chk h
    refine g_iast C dX2_keep_49 rfl c6 ?_
    refine g_iinc C.c (i := 4) (y := (1 : Int32)) (L' := [some (.ref (kad K 53)), some (.ref (kad K 48)), none, some (.ref (kad K w3)), some (.int (x4 + (1 : Int32)))]) dX2_keep_50 rfl (by decide) (Nat.le_of_ble_eq_true rfl) rfl ?_
    refine g_goto C.c (tgt := 13) dX2_keep_53 (by decide) ?_
    have g9 := hI _ (Option.some.inj h).symm
    exact g_mask [true, true, false, true, true] rfl g9
set_option maxRecDepth 4000 in
theorem bX2_keep_b0 {K : KT} {x2 : Int32} {w3 : Nat} {σ : Sg} {o : Sg} (C : Cx K layC cX2_keep RX2 5 (2) none) (hw3 : layC[w3]? = some (0, 1, slX1)) (hQ : Rk K layC (okV o)) (h : fX2_keep_b0 x2 w3 σ = some o) : G K 0 [some (.ref (kad K 53)), some (.ref (kad K 48)), some (.int x2), some (.ref (kad K w3)), none] [] (Wd K layC σ) := by
  unfold fX2_keep_b0 at h
  refine g_aload_n C.c dX2_keep_0 rfl (i := 0) rfl ?_
  refine g_iload_n C.c dX2_keep_1 rfl (i := 2) rfl ?_
  refine g_aload_n C.c dX2_keep_2 rfl (i := 1) rfl ?_
  refine g_alen4 C (v := (5 : Int32)) dX2_keep_3 rfl rfl ?_
  refine g_min C.c dX2_keep_4 aw_752 aw_474 aw_57 aw_475 rfl (Nat.le_of_ble_eq_true rfl) (Nat.le_of_ble_eq_true rfl) ?_
  refine pf_2_31 C dX2_keep_7 ?_
  refine g_iconst C.c dX2_keep_10 (v := (0 : Int32)) (by decide) ?_
  refine g_istore C.c (i := 4) (L' := [some (.ref (kad K 53)), some (.ref (kad K 48)), some (.int x2), some (.ref (kad K w3)), some (.int (0 : Int32))]) dX2_keep_11 (Nat.le_of_ble_eq_true rfl) rfl ?_
  refine g_mask [true, true, false, true, true] rfl ?_
  refine lp_bind (Gh := fun s => G K 13 [some (.ref (kad K 53)), some (.ref (kad K 48)), none, some (.ref (kad K w3)), some (.int s.1)] [] (Wd K layC s.2)) h (fun s o2 hf gI gE => ?_)
  refine bX2_keep_b13 C hw3 gI (fun t7 e => ?_) hf
  · have h := gE _ e
    refine g_aload_n C.c dX2_keep_56 rfl (i := 0) rfl ?_
    refine gf_2_21 C dX2_keep_57 ?_
    refine g_aload_n C.c dX2_keep_60 rfl (i := 3) rfl ?_
    obtain ⟨p9, e10, h⟩ := Option.bind_eq_some_iff.mp h
    refine kc_2_43 C rfl hw3 dX2_keep_61 e10 (Nat.le_of_ble_eq_true rfl) rfl (Nat.le_of_ble_eq_true rfl) ?_
    obtain rfl := Option.some.inj h
    exact g_vret C hQ dX2_keep_64 ⟨rfl, rfl⟩
def fX2_keep (a1 : Int32) (q2 : Nat) (σ : Sg) : Option (Sg) := fX2_keep_b0 a1 q2 σ
theorem ct_X2_keep {a1 : Int32} {q2 : Nat} {σ : Sg} {p : Sg} (hYq2 : layC[q2]? = some (0, 1, slX1)) (h : fX2_keep a1 q2 σ = some p) : Ct layC yX2_keep cX2_keep 5 none 2 (fun ad => [.ref (ad 53), .ref (ad 48), .int a1, .ref (ad q2)]) σ (okV p) :=
 ct_of (L0 := fun ad => [some (.ref (ad 53)), some (.ref (ad 48)), some (.int a1), some (.ref (ad q2)), none]) (by decide) (fun _ => Nat.le_of_ble_eq_true rfl) (fun _ => rfl) (fun K C hQ => g_mask [true, true, true, true, false] rfl (bX2_keep_b0 C hYq2 hQ h))
-- X2_giveBack
theorem dX2_giveBack_0 : decode cX2_giveBack 0 = .ok (.iconst 0, 1) := by decide +kernel
theorem dX2_giveBack_1 : decode cX2_giveBack 1 = .ok (.istore_n 3, 1) := by decide +kernel
theorem dX2_giveBack_2 : decode cX2_giveBack 2 = .ok (.iload_n 3, 1) := by decide +kernel
theorem dX2_giveBack_3 : decode cX2_giveBack 3 = .ok (.aload_n 0, 1) := by decide +kernel
theorem dX2_giveBack_4 : decode cX2_giveBack 4 = .ok (.getfield 31, 3) := by decide +kernel
theorem dX2_giveBack_7 : decode cX2_giveBack 7 = .ok (.if_icmp .ge 33, 3) := by decide +kernel
theorem dX2_giveBack_10 : decode cX2_giveBack 10 = .ok (.aload_n 1, 1) := by decide +kernel
theorem dX2_giveBack_11 : decode cX2_giveBack 11 = .ok (.iload_n 3, 1) := by decide +kernel
theorem dX2_giveBack_12 : decode cX2_giveBack 12 = .ok (.aaload, 1) := by decide +kernel
theorem dX2_giveBack_13 : decode cX2_giveBack 13 = .ok (.aload_n 0, 1) := by decide +kernel
theorem dX2_giveBack_14 : decode cX2_giveBack 14 = .ok (.getfield 9, 3) := by decide +kernel
theorem dX2_giveBack_17 : decode cX2_giveBack 17 = .ok (.iload_n 3, 1) := by decide +kernel
theorem dX2_giveBack_18 : decode cX2_giveBack 18 = .ok (.iaload, 1) := by decide +kernel
theorem dX2_giveBack_19 : decode cX2_giveBack 19 = .ok (.putfield 35, 3) := by decide +kernel
theorem dX2_giveBack_22 : decode cX2_giveBack 22 = .ok (.aload_n 1, 1) := by decide +kernel
theorem dX2_giveBack_23 : decode cX2_giveBack 23 = .ok (.iload_n 3, 1) := by decide +kernel
theorem dX2_giveBack_24 : decode cX2_giveBack 24 = .ok (.aaload, 1) := by decide +kernel
theorem dX2_giveBack_25 : decode cX2_giveBack 25 = .ok (.aload_n 0, 1) := by decide +kernel
theorem dX2_giveBack_26 : decode cX2_giveBack 26 = .ok (.getfield 15, 3) := by decide +kernel
theorem dX2_giveBack_29 : decode cX2_giveBack 29 = .ok (.iload_n 3, 1) := by decide +kernel
theorem dX2_giveBack_30 : decode cX2_giveBack 30 = .ok (.iaload, 1) := by decide +kernel
theorem dX2_giveBack_31 : decode cX2_giveBack 31 = .ok (.putfield 40, 3) := by decide +kernel
theorem dX2_giveBack_34 : decode cX2_giveBack 34 = .ok (.iinc 3 1, 3) := by decide +kernel
theorem dX2_giveBack_37 : decode cX2_giveBack 37 = .ok (.goto (-35), 3) := by decide +kernel
theorem dX2_giveBack_40 : decode cX2_giveBack 40 = .ok (.aload_n 2, 1) := by decide +kernel
theorem dX2_giveBack_41 : decode cX2_giveBack 41 = .ok (.aload_n 0, 1) := by decide +kernel
theorem dX2_giveBack_42 : decode cX2_giveBack 42 = .ok (.getfield 21, 3) := by decide +kernel
theorem dX2_giveBack_45 : decode cX2_giveBack 45 = .ok (.invokevirtual 43, 3) := by decide +kernel
theorem dX2_giveBack_48 : decode cX2_giveBack 48 = .ok (.return_, 1) := by decide +kernel
theorem cw_X2_giveBack : Cw yX2_giveBack cX2_giveBack 4 none 2 := ⟨aw_765, aw_53, ⟨by decide, by decide⟩, by decide +kernel, by decide⟩
theorem pf_2_35d {K : KT} {cc : ByteArray} {nL d pc : Nat} {ret : Option FieldType} {L : List (Option Value)} {st : List Value} {σ : Sg} (C : Cx K layC cc RX2 nL d ret) {o : Nat} (hY : layC[o]? = some (0, 0, slX0)) {v : Int32}  (hd : decode cc pc = .ok (.putfield 35, 3)) (k : G K (pc + 3) L st (Wd K layC (wI σ o 2 v))) : G K pc L (.int v :: .ref (kad K o) :: st) (Wd K layC σ) := g_putI C (o := o) (ci := 0) (k := 2) hd hY rfl rfl (by decide) (Or.inr ⟨_, aw_169⟩) inA0 tyX0_ok nmX0 rfl rfl rfl k
theorem pf_2_40d {K : KT} {cc : ByteArray} {nL d pc : Nat} {ret : Option FieldType} {L : List (Option Value)} {st : List Value} {σ : Sg} (C : Cx K layC cc RX2 nL d ret) {o : Nat} (hY : layC[o]? = some (0, 0, slX0)) {v : Int32}  (hd : decode cc pc = .ok (.putfield 40, 3)) (k : G K (pc + 3) L st (Wd K layC (wI σ o 3 v))) : G K pc L (.int v :: .ref (kad K o) :: st) (Wd K layC σ) := g_putI C (o := o) (ci := 0) (k := 3) hd hY rfl rfl (by decide) (Or.inr ⟨_, aw_173⟩) inA0 tyX0_ok nmX0 rfl rfl rfl k
def fX2_giveBack_b2 (w2 : Nat) (x3 : Int32) (σ : Sg) : Option ((Int32 × Sg) ⊕ ((Sg))) :=
  if (rI σ 53 3) ≤ x3 then (some (.inr σ)) else (if inb x3 5 = true then (if inb x3 5 = true then (if inb x3 5 = true then (if inb x3 5 = true then (some (.inl ((x3 + (1 : Int32)), (wI (wI σ (76 + (x3).toNatClampNeg) 2 (rI σ 54 (x3).toNatClampNeg)) (76 + (x3).toNatClampNeg) 3 (rI (wI σ (76 + (x3).toNatClampNeg) 2 (rI σ 54 (x3).toNatClampNeg)) 55 (x3).toNatClampNeg))))) else none) else none) else none) else none)
def fX2_giveBack_b0 (w2 : Nat) (σ : Sg) : Option (Sg) :=
  Option.bind (lp (fun s => fX2_giveBack_b2 w2 s.1 s.2) FU ((0 : Int32), σ)) fun t7 => Option.bind (fX1_copy w2 56 t7) fun p9 => (some p9)
set_option maxRecDepth 4000 in
theorem bX2_giveBack_b2 {K : KT} {w2 : Nat} {x3 : Int32} {σ : Sg} {o : (Int32 × Sg) ⊕ ((Sg))} (C : Cx K layC cX2_giveBack RX2 4 (2) none) (hw2 : layC[w2]? = some (0, 1, slX1)) (hI : ∀ s' : Int32 × Sg, o = .inl s' → G K 2 [some (.ref (kad K 53)), some (.ref (kad K 48)), some (.ref (kad K w2)), some (.int s'.1)] [] (Wd K layC s'.2)) (hE0 : ∀ t : Sg, o = .inr t → G K 40 [some (.ref (kad K 53)), none, some (.ref (kad K w2)), none] [] (Wd K layC t)) (h : fX2_giveBack_b2 w2 x3 σ = some o) : G K 2 [some (.ref (kad K 53)), some (.ref (kad K 48)), some (.ref (kad K w2)), some (.int x3)] [] (Wd K layC σ) := by
  unfold fX2_giveBack_b2 at h
  refine g_iload_n C.c dX2_giveBack_2 rfl (i := 3) rfl ?_
  refine g_aload_n C.c dX2_giveBack_3 rfl (i := 0) rfl ?_
  refine gf_2_31 C dX2_giveBack_4 ?_
  refine g_icmp_ge C.c (tgt := 40) dX2_giveBack_7 (by decide) (fun c => ?_) (fun c => ?_)
  · replace h := ite_t c h
    have g9 := hE0 _ (Option.some.inj h).symm
    exact g_mask [true, false, true, false] rfl g9
  · replace h := ite_f c h
    refine g_aload_n C.c dX2_giveBack_10 rfl (i := 1) rfl ?_
    refine g_iload_n C.c dX2_giveBack_11 rfl (i := 3) rfl ?_
    obtain ⟨c1, h⟩ := chk h
    have hs2 := rw_48 (inb_lt c1)
    refine g_aald4 C (b := 76) dX2_giveBack_12 rfl c1 rfl rfl ?_
    refine g_aload_n C.c dX2_giveBack_13 rfl (i := 0) rfl ?_
    refine gf_2_9 C dX2_giveBack_14 ?_
    refine g_iload_n C.c dX2_giveBack_17 rfl (i := 3) rfl ?_
    obtain ⟨c3, h⟩ := chk h
    refine g_iald C dX2_giveBack_18 rfl c3 ?_
    refine pf_2_35d C hs2 dX2_giveBack_19 ?_
    refine g_aload_n C.c dX2_giveBack_22 rfl (i := 1) rfl ?_
    refine g_iload_n C.c dX2_giveBack_23 rfl (i := 3) rfl ?_
    obtain ⟨c4, h⟩ := chk h
    have hs5 := rw_48 (inb_lt c4)
    refine g_aald4 C (b := 76) dX2_giveBack_24 rfl c4 rfl rfl ?_
    refine g_aload_n C.c dX2_giveBack_25 rfl (i := 0) rfl ?_
    refine gf_2_15 C dX2_giveBack_26 ?_
    refine g_iload_n C.c dX2_giveBack_29 rfl (i := 3) rfl ?_
    obtain ⟨c6, h⟩ := chk h
    refine g_iald C dX2_giveBack_30 rfl c6 ?_
    refine pf_2_40d C hs5 dX2_giveBack_31 ?_
    refine g_iinc C.c (i := 3) (y := (1 : Int32)) (L' := [some (.ref (kad K 53)), some (.ref (kad K 48)), some (.ref (kad K w2)), some (.int (x3 + (1 : Int32)))]) dX2_giveBack_34 rfl (by decide) (Nat.le_of_ble_eq_true rfl) rfl ?_
    refine g_goto C.c (tgt := 2) dX2_giveBack_37 (by decide) ?_
    have g9 := hI _ (Option.some.inj h).symm
    exact g_mask [true, true, true, true] rfl g9
set_option maxRecDepth 4000 in
theorem bX2_giveBack_b0 {K : KT} {w2 : Nat} {σ : Sg} {o : Sg} (C : Cx K layC cX2_giveBack RX2 4 (2) none) (hw2 : layC[w2]? = some (0, 1, slX1)) (hQ : Rk K layC (okV o)) (h : fX2_giveBack_b0 w2 σ = some o) : G K 0 [some (.ref (kad K 53)), some (.ref (kad K 48)), some (.ref (kad K w2)), none] [] (Wd K layC σ) := by
  unfold fX2_giveBack_b0 at h
  refine g_iconst C.c dX2_giveBack_0 (v := (0 : Int32)) (by decide) ?_
  refine g_istore_n C.c (i := 3) (L' := [some (.ref (kad K 53)), some (.ref (kad K 48)), some (.ref (kad K w2)), some (.int (0 : Int32))]) dX2_giveBack_1 rfl (Nat.le_of_ble_eq_true rfl) rfl ?_
  refine g_mask [true, true, true, true] rfl ?_
  refine lp_bind (Gh := fun s => G K 2 [some (.ref (kad K 53)), some (.ref (kad K 48)), some (.ref (kad K w2)), some (.int s.1)] [] (Wd K layC s.2)) h (fun s o2 hf gI gE => ?_)
  refine bX2_giveBack_b2 C hw2 gI (fun t7 e => ?_) hf
  · have h := gE _ e
    refine g_aload_n C.c dX2_giveBack_40 rfl (i := 2) rfl ?_
    refine g_aload_n C.c dX2_giveBack_41 rfl (i := 0) rfl ?_
    refine gf_2_21 C dX2_giveBack_42 ?_
    obtain ⟨p9, e10, h⟩ := Option.bind_eq_some_iff.mp h
    refine kc_2_43 C hw2 rfl dX2_giveBack_45 e10 (Nat.le_of_ble_eq_true rfl) rfl (Nat.le_of_ble_eq_true rfl) ?_
    obtain rfl := Option.some.inj h
    exact g_vret C hQ dX2_giveBack_48 ⟨rfl, rfl⟩
def fX2_giveBack (q1 : Nat) (σ : Sg) : Option (Sg) := fX2_giveBack_b0 q1 σ
theorem ct_X2_giveBack {q1 : Nat} {σ : Sg} {p : Sg} (hYq1 : layC[q1]? = some (0, 1, slX1)) (h : fX2_giveBack q1 σ = some p) : Ct layC yX2_giveBack cX2_giveBack 4 none 2 (fun ad => [.ref (ad 53), .ref (ad 48), .ref (ad q1)]) σ (okV p) :=
 ct_of (L0 := fun ad => [some (.ref (ad 53)), some (.ref (ad 48)), some (.ref (ad q1)), none]) (by decide) (fun _ => Nat.le_of_ble_eq_true rfl) (fun _ => rfl) (fun K C hQ => g_mask [true, true, true, false] rfl (bX2_giveBack_b0 C hYq1 hQ h))
-- X3_tugsOf
theorem dX3_tugsOf_0 : decode cX3_tugsOf 0 = .ok (.iload_n 0, 1) := by decide +kernel
theorem dX3_tugsOf_1 : decode cX3_tugsOf 1 = .ok (.iconst 2, 1) := by decide +kernel
theorem dX3_tugsOf_2 : decode cX3_tugsOf 2 = .ok (.idiv, 1) := by decide +kernel
theorem dX3_tugsOf_3 : decode cX3_tugsOf 3 = .ok (.ireturn, 1) := by decide +kernel
theorem cw_X3_tugsOf : Cw yX3_tugsOf cX3_tugsOf 1 (some .int) 1 := ⟨aw_636, aw_54, ⟨by decide, by decide⟩, by decide +kernel, by decide⟩
def fX3_tugsOf_b0 (x0 : Int32) (σ : Sg) : Option (Int32 × Sg) :=
  some ((x0 / (2 : Int32)), σ)
set_option maxRecDepth 4000 in
theorem bX3_tugsOf_b0 {K : KT} {x0 : Int32} {σ : Sg} {o : Int32 × Sg} (C : Cx K layC cX3_tugsOf RX3 1 (1) (some .int))  (hQ : Rk K layC (okI o)) (h : fX3_tugsOf_b0 x0 σ = some o) : G K 0 [some (.int x0)] [] (Wd K layC σ) := by
  unfold fX3_tugsOf_b0 at h
  refine g_iload_n C.c dX3_tugsOf_0 rfl (i := 0) rfl ?_
  refine g_iconst C.c dX3_tugsOf_1 (v := (2 : Int32)) (by decide) ?_
  refine g_idiv C.c dX3_tugsOf_2 (by decide) ?_
  obtain rfl := Option.some.inj h
  exact g_iret C hQ dX3_tugsOf_3 rfl ⟨rfl, rfl⟩
def fX3_tugsOf (a0 : Int32) (σ : Sg) : Option (Int32 × Sg) := fX3_tugsOf_b0 a0 σ
theorem ct_X3_tugsOf {a0 : Int32} {σ : Sg} {p : Int32 × Sg} (h : fX3_tugsOf a0 σ = some p) : Ct layC yX3_tugsOf cX3_tugsOf 1 (some .int) 1 (fun ad => [.int a0]) σ (okI p) :=
 ct_of (L0 := fun ad => [some (.int a0)]) (by decide) (fun _ => Nat.le_of_ble_eq_true rfl) (fun _ => rfl) (fun K C hQ => g_mask [true] rfl (bX3_tugsOf_b0 C hQ h))
-- X3_hasSkirt
theorem dX3_hasSkirt_0 : decode cX3_hasSkirt 0 = .ok (.iload_n 0, 1) := by decide +kernel
theorem dX3_hasSkirt_1 : decode cX3_hasSkirt 1 = .ok (.iconst 2, 1) := by decide +kernel
theorem dX3_hasSkirt_2 : decode cX3_hasSkirt 2 = .ok (.irem, 1) := by decide +kernel
theorem dX3_hasSkirt_3 : decode cX3_hasSkirt 3 = .ok (.iconst 1, 1) := by decide +kernel
theorem dX3_hasSkirt_4 : decode cX3_hasSkirt 4 = .ok (.if_icmp .ne 7, 3) := by decide +kernel
theorem dX3_hasSkirt_7 : decode cX3_hasSkirt 7 = .ok (.iconst 1, 1) := by decide +kernel
theorem dX3_hasSkirt_8 : decode cX3_hasSkirt 8 = .ok (.goto 4, 3) := by decide +kernel
theorem dX3_hasSkirt_11 : decode cX3_hasSkirt 11 = .ok (.iconst 0, 1) := by decide +kernel
theorem dX3_hasSkirt_12 : decode cX3_hasSkirt 12 = .ok (.ireturn, 1) := by decide +kernel
theorem cw_X3_hasSkirt : Cw yX3_hasSkirt cX3_hasSkirt 1 (some .boolean) 1 := ⟨aw_639, aw_54, ⟨by decide, by decide⟩, by decide +kernel, by decide⟩
def fX3_hasSkirt_b0 (x0 : Int32) (σ : Sg) : Option (Int32 × Sg) :=
  if (x0 - x0 / (2 : Int32) * (2 : Int32)) = (1 : Int32) then (some ((1 : Int32), σ)) else (some ((0 : Int32), σ))
set_option maxRecDepth 4000 in
theorem bX3_hasSkirt_b0 {K : KT} {x0 : Int32} {σ : Sg} {o : Int32 × Sg} (C : Cx K layC cX3_hasSkirt RX3 1 (1) (some .boolean))  (hQ : Rk K layC (okI o)) (h : fX3_hasSkirt_b0 x0 σ = some o) : G K 0 [some (.int x0)] [] (Wd K layC σ) := by
  unfold fX3_hasSkirt_b0 at h
  refine g_iload_n C.c dX3_hasSkirt_0 rfl (i := 0) rfl ?_
  refine g_iconst C.c dX3_hasSkirt_1 (v := (2 : Int32)) (by decide) ?_
  refine g_irem C.c dX3_hasSkirt_2 (by decide) ?_
  refine g_iconst C.c dX3_hasSkirt_3 (v := (1 : Int32)) (by decide) ?_
  refine g_icmp_ne C.c (tgt := 11) dX3_hasSkirt_4 (by decide) (fun c => ?_) (fun c => ?_)
  · replace h := ite_f c h
    refine g_iconst C.c dX3_hasSkirt_11 (v := (0 : Int32)) (by decide) ?_
    obtain rfl := Option.some.inj h
    exact g_iret C hQ dX3_hasSkirt_12 rfl ⟨rfl, rfl⟩
  · replace h := ite_t c h
    refine g_iconst C.c dX3_hasSkirt_7 (v := (1 : Int32)) (by decide) ?_
    refine g_goto C.c (tgt := 12) dX3_hasSkirt_8 (by decide) ?_
    obtain rfl := Option.some.inj h
    exact g_iret C hQ dX3_hasSkirt_12 rfl ⟨rfl, rfl⟩
def fX3_hasSkirt (a0 : Int32) (σ : Sg) : Option (Int32 × Sg) := fX3_hasSkirt_b0 a0 σ
theorem ct_X3_hasSkirt {a0 : Int32} {σ : Sg} {p : Int32 × Sg} (h : fX3_hasSkirt a0 σ = some p) : Ct layC yX3_hasSkirt cX3_hasSkirt 1 (some .boolean) 1 (fun ad => [.int a0]) σ (okI p) :=
 ct_of (L0 := fun ad => [some (.int a0)]) (by decide) (fun _ => Nat.le_of_ble_eq_true rfl) (fun _ => rfl) (fun K C hQ => g_mask [true] rfl (bX3_hasSkirt_b0 C hQ h))
-- X3_forget
theorem dX3_forget_0 : decode cX3_forget 0 = .ok (.aload_n 0, 1) := by decide +kernel
theorem dX3_forget_1 : decode cX3_forget 1 = .ok (.getfield 16, 3) := by decide +kernel
theorem dX3_forget_4 : decode cX3_forget 4 = .ok (.iload_n 1, 1) := by decide +kernel
theorem dX3_forget_5 : decode cX3_forget 5 = .ok (.iconst 0, 1) := by decide +kernel
theorem dX3_forget_6 : decode cX3_forget 6 = .ok (.bastore, 1) := by decide +kernel
theorem dX3_forget_7 : decode cX3_forget 7 = .ok (.return_, 1) := by decide +kernel
theorem cw_X3_forget : Cw yX3_forget cX3_forget 2 none 1 := ⟨aw_515, aw_54, ⟨by decide, by decide⟩, by decide +kernel, by decide⟩
theorem gf_3_16 {K : KT} {cc : ByteArray} {nL d pc : Nat} {ret : Option FieldType} {L : List (Option Value)} {st : List Value} {σ : Sg} (C : Cx K layC cc RX3 nL d ret)  (hd : decode cc pc = .ok (.getfield 16, 3)) (k : G K (pc + 3) L (.ref (kad K 65) :: st) (Wd K layC σ)) : G K pc L (.ref (kad K 58) :: st) (Wd K layC σ) := g_get C (o := 58) (ci := 3) (k := 1) hd rfl rfl rfl (by decide) (Or.inl aw_313) inA3 rfl k
def fX3_forget_b0 (x1 : Int32) (σ : Sg) : Option (Sg) :=
  if inb x1 5 = true then (some (wI σ 65 (x1).toNatClampNeg (0 : Int32))) else none
set_option maxRecDepth 4000 in
theorem bX3_forget_b0 {K : KT} {x1 : Int32} {σ : Sg} {o : Sg} (C : Cx K layC cX3_forget RX3 2 (1) none)  (hQ : Rk K layC (okV o)) (h : fX3_forget_b0 x1 σ = some o) : G K 0 [some (.ref (kad K 58)), some (.int x1)] [] (Wd K layC σ) := by
  unfold fX3_forget_b0 at h
  refine g_aload_n C.c dX3_forget_0 rfl (i := 0) rfl ?_
  refine gf_3_16 C dX3_forget_1 ?_
  refine g_iload_n C.c dX3_forget_4 rfl (i := 1) rfl ?_
  refine g_iconst C.c dX3_forget_5 (v := (0 : Int32)) (by decide) ?_
  obtain ⟨c1, h⟩ := chk h
  refine g_zast C dX3_forget_6 rfl c1 (by decide) ?_
  obtain rfl := Option.some.inj h
  exact g_vret C hQ dX3_forget_7 ⟨rfl, rfl⟩
def fX3_forget (a0 : Int32) (σ : Sg) : Option (Sg) := fX3_forget_b0 a0 σ
theorem ct_X3_forget {a0 : Int32} {σ : Sg} {p : Sg} (h : fX3_forget a0 σ = some p) : Ct layC yX3_forget cX3_forget 2 none 1 (fun ad => [.ref (ad 58), .int a0]) σ (okV p) :=
 ct_of (L0 := fun ad => [some (.ref (ad 58)), some (.int a0)]) (by decide) (fun _ => Nat.le_of_ble_eq_true rfl) (fun _ => rfl) (fun K C hQ => g_mask [true, true] rfl (bX3_forget_b0 C hQ h))
-- X3_forgetAll
theorem dX3_forgetAll_0 : decode cX3_forgetAll 0 = .ok (.iconst 0, 1) := by decide +kernel
theorem dX3_forgetAll_1 : decode cX3_forgetAll 1 = .ok (.istore_n 1, 1) := by decide +kernel
theorem dX3_forgetAll_2 : decode cX3_forgetAll 2 = .ok (.iload_n 1, 1) := by decide +kernel
theorem dX3_forgetAll_3 : decode cX3_forgetAll 3 = .ok (.iconst 5, 1) := by decide +kernel
theorem dX3_forgetAll_4 : decode cX3_forgetAll 4 = .ok (.if_icmp .ge 16, 3) := by decide +kernel
theorem dX3_forgetAll_7 : decode cX3_forgetAll 7 = .ok (.aload_n 0, 1) := by decide +kernel
theorem dX3_forgetAll_8 : decode cX3_forgetAll 8 = .ok (.getfield 16, 3) := by decide +kernel
theorem dX3_forgetAll_11 : decode cX3_forgetAll 11 = .ok (.iload_n 1, 1) := by decide +kernel
theorem dX3_forgetAll_12 : decode cX3_forgetAll 12 = .ok (.iconst 0, 1) := by decide +kernel
theorem dX3_forgetAll_13 : decode cX3_forgetAll 13 = .ok (.bastore, 1) := by decide +kernel
theorem dX3_forgetAll_14 : decode cX3_forgetAll 14 = .ok (.iinc 1 1, 3) := by decide +kernel
theorem dX3_forgetAll_17 : decode cX3_forgetAll 17 = .ok (.goto (-15), 3) := by decide +kernel
theorem dX3_forgetAll_20 : decode cX3_forgetAll 20 = .ok (.return_, 1) := by decide +kernel
theorem cw_X3_forgetAll : Cw yX3_forgetAll cX3_forgetAll 2 none 0 := ⟨aw_551, aw_54, ⟨by decide, by decide⟩, by decide +kernel, by decide⟩
def fX3_forgetAll_b2 (x1 : Int32) (σ : Sg) : Option ((Int32 × Sg) ⊕ ((Sg))) :=
  if (5 : Int32) ≤ x1 then (some (.inr σ)) else (if inb x1 5 = true then (some (.inl ((x1 + (1 : Int32)), (wI σ 65 (x1).toNatClampNeg (0 : Int32))))) else none)
def fX3_forgetAll_b0  (σ : Sg) : Option (Sg) :=
  Option.bind (lp (fun s => fX3_forgetAll_b2 s.1 s.2) FU ((0 : Int32), σ)) fun t2 => some t2
set_option maxRecDepth 4000 in
theorem bX3_forgetAll_b2 {K : KT} {x1 : Int32} {σ : Sg} {o : (Int32 × Sg) ⊕ ((Sg))} (C : Cx K layC cX3_forgetAll RX3 2 (1) none)  (hI : ∀ s' : Int32 × Sg, o = .inl s' → G K 2 [some (.ref (kad K 58)), some (.int s'.1)] [] (Wd K layC s'.2)) (hE0 : ∀ t : Sg, o = .inr t → G K 20 [none, none] [] (Wd K layC t)) (h : fX3_forgetAll_b2 x1 σ = some o) : G K 2 [some (.ref (kad K 58)), some (.int x1)] [] (Wd K layC σ) := by
  unfold fX3_forgetAll_b2 at h
  refine g_iload_n C.c dX3_forgetAll_2 rfl (i := 1) rfl ?_
  refine g_iconst C.c dX3_forgetAll_3 (v := (5 : Int32)) (by decide) ?_
  refine g_icmp_ge C.c (tgt := 20) dX3_forgetAll_4 (by decide) (fun c => ?_) (fun c => ?_)
  · replace h := ite_t c h
    have g9 := hE0 _ (Option.some.inj h).symm
    exact g_mask [false, false] rfl g9
  · replace h := ite_f c h
    refine g_aload_n C.c dX3_forgetAll_7 rfl (i := 0) rfl ?_
    refine gf_3_16 C dX3_forgetAll_8 ?_
    refine g_iload_n C.c dX3_forgetAll_11 rfl (i := 1) rfl ?_
    refine g_iconst C.c dX3_forgetAll_12 (v := (0 : Int32)) (by decide) ?_
    obtain ⟨c1, h⟩ := chk h
    refine g_zast C dX3_forgetAll_13 rfl c1 (by decide) ?_
    refine g_iinc C.c (i := 1) (y := (1 : Int32)) (L' := [some (.ref (kad K 58)), some (.int (x1 + (1 : Int32)))]) dX3_forgetAll_14 rfl (by decide) (Nat.le_of_ble_eq_true rfl) rfl ?_
    refine g_goto C.c (tgt := 2) dX3_forgetAll_17 (by decide) ?_
    have g9 := hI _ (Option.some.inj h).symm
    exact g_mask [true, true] rfl g9
set_option maxRecDepth 4000 in
theorem bX3_forgetAll_b0 {K : KT}  {σ : Sg} {o : Sg} (C : Cx K layC cX3_forgetAll RX3 2 (1) none)  (hQ : Rk K layC (okV o)) (h : fX3_forgetAll_b0  σ = some o) : G K 0 [some (.ref (kad K 58)), none] [] (Wd K layC σ) := by
  unfold fX3_forgetAll_b0 at h
  refine g_iconst C.c dX3_forgetAll_0 (v := (0 : Int32)) (by decide) ?_
  refine g_istore_n C.c (i := 1) (L' := [some (.ref (kad K 58)), some (.int (0 : Int32))]) dX3_forgetAll_1 rfl (Nat.le_of_ble_eq_true rfl) rfl ?_
  refine g_mask [true, true] rfl ?_
  refine lp_bind (Gh := fun s => G K 2 [some (.ref (kad K 58)), some (.int s.1)] [] (Wd K layC s.2)) h (fun s o2 hf gI gE => ?_)
  refine bX3_forgetAll_b2 C gI (fun t2 e => ?_) hf
  · have h := gE _ e
    obtain rfl := Option.some.inj h
    exact g_vret C hQ dX3_forgetAll_20 ⟨rfl, rfl⟩
def fX3_forgetAll (σ : Sg) : Option (Sg) := fX3_forgetAll_b0 σ
theorem ct_X3_forgetAll {σ : Sg} {p : Sg} (h : fX3_forgetAll σ = some p) : Ct layC yX3_forgetAll cX3_forgetAll 2 none 1 (fun ad => [.ref (ad 58)]) σ (okV p) :=
 ct_of (L0 := fun ad => [some (.ref (ad 58)), none]) (by decide) (fun _ => Nat.le_of_ble_eq_true rfl) (fun _ => rfl) (fun K C hQ => g_mask [true, false] rfl (bX3_forgetAll_b0 C hQ h))
-- X3_bestEntry
theorem dX3_bestEntry_0 : decode cX3_bestEntry 0 = .ok (.iconst 2, 1) := by decide +kernel
theorem dX3_bestEntry_1 : decode cX3_bestEntry 1 = .ok (.istore_n 2, 1) := by decide +kernel
theorem dX3_bestEntry_2 : decode cX3_bestEntry 2 = .ok (.iconst 2, 1) := by decide +kernel
theorem dX3_bestEntry_3 : decode cX3_bestEntry 3 = .ok (.istore_n 3, 1) := by decide +kernel
theorem dX3_bestEntry_4 : decode cX3_bestEntry 4 = .ok (.iload_n 3, 1) := by decide +kernel
theorem dX3_bestEntry_5 : decode cX3_bestEntry 5 = .ok (.bipush 24, 2) := by decide +kernel
theorem dX3_bestEntry_7 : decode cX3_bestEntry 7 = .ok (.if_icmp .ge 34, 3) := by decide +kernel
theorem dX3_bestEntry_10 : decode cX3_bestEntry 10 = .ok (.aload_n 0, 1) := by decide +kernel
theorem dX3_bestEntry_11 : decode cX3_bestEntry 11 = .ok (.getfield 13, 3) := by decide +kernel
theorem dX3_bestEntry_14 : decode cX3_bestEntry 14 = .ok (.iload_n 1, 1) := by decide +kernel
theorem dX3_bestEntry_15 : decode cX3_bestEntry 15 = .ok (.aaload, 1) := by decide +kernel
theorem dX3_bestEntry_16 : decode cX3_bestEntry 16 = .ok (.iload_n 3, 1) := by decide +kernel
theorem dX3_bestEntry_17 : decode cX3_bestEntry 17 = .ok (.iaload, 1) := by decide +kernel
theorem dX3_bestEntry_18 : decode cX3_bestEntry 18 = .ok (.aload_n 0, 1) := by decide +kernel
theorem dX3_bestEntry_19 : decode cX3_bestEntry 19 = .ok (.getfield 13, 3) := by decide +kernel
theorem dX3_bestEntry_22 : decode cX3_bestEntry 22 = .ok (.iload_n 1, 1) := by decide +kernel
theorem dX3_bestEntry_23 : decode cX3_bestEntry 23 = .ok (.aaload, 1) := by decide +kernel
theorem dX3_bestEntry_24 : decode cX3_bestEntry 24 = .ok (.iload_n 2, 1) := by decide +kernel
theorem dX3_bestEntry_25 : decode cX3_bestEntry 25 = .ok (.iaload, 1) := by decide +kernel
theorem dX3_bestEntry_26 : decode cX3_bestEntry 26 = .ok (.if_icmp .le 7, 3) := by decide +kernel
theorem dX3_bestEntry_29 : decode cX3_bestEntry 29 = .ok (.iload_n 3, 1) := by decide +kernel
theorem dX3_bestEntry_30 : decode cX3_bestEntry 30 = .ok (.goto 4, 3) := by decide +kernel
theorem dX3_bestEntry_33 : decode cX3_bestEntry 33 = .ok (.iload_n 2, 1) := by decide +kernel
theorem dX3_bestEntry_34 : decode cX3_bestEntry 34 = .ok (.istore_n 2, 1) := by decide +kernel
theorem dX3_bestEntry_35 : decode cX3_bestEntry 35 = .ok (.iinc 3 1, 3) := by decide +kernel
theorem dX3_bestEntry_38 : decode cX3_bestEntry 38 = .ok (.goto (-34), 3) := by decide +kernel
theorem dX3_bestEntry_41 : decode cX3_bestEntry 41 = .ok (.iload_n 2, 1) := by decide +kernel
theorem dX3_bestEntry_42 : decode cX3_bestEntry 42 = .ok (.ireturn, 1) := by decide +kernel
theorem cw_X3_bestEntry : Cw yX3_bestEntry cX3_bestEntry 4 (some .int) 1 := ⟨aw_643, aw_54, ⟨by decide, by decide⟩, by decide +kernel, by decide⟩
theorem gf_3_13 {K : KT} {cc : ByteArray} {nL d pc : Nat} {ret : Option FieldType} {L : List (Option Value)} {st : List Value} {σ : Sg} (C : Cx K layC cc RX3 nL d ret)  (hd : decode cc pc = .ok (.getfield 13, 3)) (k : G K (pc + 3) L (.ref (kad K 59) :: st) (Wd K layC σ)) : G K pc L (.ref (kad K 58) :: st) (Wd K layC σ) := g_get C (o := 58) (ci := 3) (k := 0) hd rfl rfl rfl (by decide) (Or.inl aw_311) inA3 rfl k
def fX3_bestEntry_b34 (x1 : Int32) (x3 : Int32) (y0 : Int32) (σ : Sg) : Option ((Int32 × Int32 × Sg) ⊕ ((Int32 × Sg))) :=
  some (.inl (y0, (x3 + (1 : Int32)), σ))
def fX3_bestEntry_b4 (x1 : Int32) (x2 : Int32) (x3 : Int32) (σ : Sg) : Option ((Int32 × Int32 × Sg) ⊕ ((Int32 × Sg))) :=
  if (24 : Int32) ≤ x3 then (some (.inr (x2, σ))) else (if inb x1 5 = true then (if inb x3 24 = true then (if inb x1 5 = true then (if inb x2 24 = true then (if (rI σ (60 + (x1).toNatClampNeg) (x3).toNatClampNeg) ≤ (rI σ (60 + (x1).toNatClampNeg) (x2).toNatClampNeg) then (fX3_bestEntry_b34 x1 x3 x2 σ) else (fX3_bestEntry_b34 x1 x3 x3 σ)) else none) else none) else none) else none)
def fX3_bestEntry_b0 (x1 : Int32) (σ : Sg) : Option (Int32 × Sg) :=
  Option.bind (lp (fun s => fX3_bestEntry_b4 x1 s.1 s.2.1 s.2.2) FU ((2 : Int32), (2 : Int32), σ)) fun t7 => some (t7.1, t7.2)
set_option maxRecDepth 4000 in
theorem bX3_bestEntry_b34 {K : KT} {x1 : Int32} {x3 : Int32} {y0 : Int32} {σ : Sg} {o : (Int32 × Int32 × Sg) ⊕ ((Int32 × Sg))} (C : Cx K layC cX3_bestEntry RX3 4 (1) (some .int))  (hI : ∀ s' : Int32 × Int32 × Sg, o = .inl s' → G K 4 [some (.ref (kad K 58)), some (.int x1), some (.int s'.1), some (.int s'.2.1)] [] (Wd K layC s'.2.2)) (hE0 : ∀ t : Int32 × Sg, o = .inr t → G K 41 [none, none, some (.int t.1), none] [] (Wd K layC t.2)) (h : fX3_bestEntry_b34 x1 x3 y0 σ = some o) : G K 34 [some (.ref (kad K 58)), some (.int x1), none, some (.int x3)] [.int y0] (Wd K layC σ) := by
  unfold fX3_bestEntry_b34 at h
  refine g_istore_n C.c (i := 2) (L' := [some (.ref (kad K 58)), some (.int x1), some (.int y0), some (.int x3)]) dX3_bestEntry_34 rfl (Nat.le_of_ble_eq_true rfl) rfl ?_
  refine g_iinc C.c (i := 3) (y := (1 : Int32)) (L' := [some (.ref (kad K 58)), some (.int x1), some (.int y0), some (.int (x3 + (1 : Int32)))]) dX3_bestEntry_35 rfl (by decide) (Nat.le_of_ble_eq_true rfl) rfl ?_
  refine g_goto C.c (tgt := 4) dX3_bestEntry_38 (by decide) ?_
  have g9 := hI _ (Option.some.inj h).symm
  exact g_mask [true, true, true, true] rfl g9
set_option maxRecDepth 4000 in
theorem bX3_bestEntry_b4 {K : KT} {x1 : Int32} {x2 : Int32} {x3 : Int32} {σ : Sg} {o : (Int32 × Int32 × Sg) ⊕ ((Int32 × Sg))} (C : Cx K layC cX3_bestEntry RX3 4 (1) (some .int))  (hI : ∀ s' : Int32 × Int32 × Sg, o = .inl s' → G K 4 [some (.ref (kad K 58)), some (.int x1), some (.int s'.1), some (.int s'.2.1)] [] (Wd K layC s'.2.2)) (hE0 : ∀ t : Int32 × Sg, o = .inr t → G K 41 [none, none, some (.int t.1), none] [] (Wd K layC t.2)) (h : fX3_bestEntry_b4 x1 x2 x3 σ = some o) : G K 4 [some (.ref (kad K 58)), some (.int x1), some (.int x2), some (.int x3)] [] (Wd K layC σ) := by
  unfold fX3_bestEntry_b4 at h
  refine g_iload_n C.c dX3_bestEntry_4 rfl (i := 3) rfl ?_
  refine g_bipush C.c dX3_bestEntry_5 (v := (24 : Int32)) (by decide) ?_
  refine g_icmp_ge C.c (tgt := 41) dX3_bestEntry_7 (by decide) (fun c => ?_) (fun c => ?_)
  · replace h := ite_t c h
    have g9 := hE0 _ (Option.some.inj h).symm
    exact g_mask [false, false, true, false] rfl g9
  · replace h := ite_f c h
    refine g_aload_n C.c dX3_bestEntry_10 rfl (i := 0) rfl ?_
    refine gf_3_13 C dX3_bestEntry_11 ?_
    refine g_iload_n C.c dX3_bestEntry_14 rfl (i := 1) rfl ?_
    obtain ⟨c1, h⟩ := chk h
    have hs2 := rw_59 (inb_lt c1)
    refine g_aald5 C (b := 60) dX3_bestEntry_15 rfl c1 rfl rfl ?_
    refine g_iload_n C.c dX3_bestEntry_16 rfl (i := 3) rfl ?_
    obtain ⟨c3, h⟩ := chk h
    refine g_iald C dX3_bestEntry_17 hs2 c3 ?_
    refine g_aload_n C.c dX3_bestEntry_18 rfl (i := 0) rfl ?_
    refine gf_3_13 C dX3_bestEntry_19 ?_
    refine g_iload_n C.c dX3_bestEntry_22 rfl (i := 1) rfl ?_
    obtain ⟨c4, h⟩ := chk h
    have hs5 := rw_59 (inb_lt c4)
    refine g_aald5 C (b := 60) dX3_bestEntry_23 rfl c4 rfl rfl ?_
    refine g_iload_n C.c dX3_bestEntry_24 rfl (i := 2) rfl ?_
    obtain ⟨c6, h⟩ := chk h
    refine g_iald C dX3_bestEntry_25 hs5 c6 ?_
    refine g_icmp_le C.c (tgt := 33) dX3_bestEntry_26 (by decide) (fun c => ?_) (fun c => ?_)
    · replace h := ite_t c h
      refine g_iload_n C.c dX3_bestEntry_33 rfl (i := 2) rfl ?_
      exact g_mask [true, true, false, true] rfl (bX3_bestEntry_b34 C hI hE0 h)
    · replace h := ite_f c h
      refine g_iload_n C.c dX3_bestEntry_29 rfl (i := 3) rfl ?_
      refine g_goto C.c (tgt := 34) dX3_bestEntry_30 (by decide) ?_
      exact g_mask [true, true, false, true] rfl (bX3_bestEntry_b34 C hI hE0 h)
set_option maxRecDepth 4000 in
theorem bX3_bestEntry_b0 {K : KT} {x1 : Int32} {σ : Sg} {o : Int32 × Sg} (C : Cx K layC cX3_bestEntry RX3 4 (1) (some .int))  (hQ : Rk K layC (okI o)) (h : fX3_bestEntry_b0 x1 σ = some o) : G K 0 [some (.ref (kad K 58)), some (.int x1), none, none] [] (Wd K layC σ) := by
  unfold fX3_bestEntry_b0 at h
  refine g_iconst C.c dX3_bestEntry_0 (v := (2 : Int32)) (by decide) ?_
  refine g_istore_n C.c (i := 2) (L' := [some (.ref (kad K 58)), some (.int x1), some (.int (2 : Int32)), none]) dX3_bestEntry_1 rfl (Nat.le_of_ble_eq_true rfl) rfl ?_
  refine g_iconst C.c dX3_bestEntry_2 (v := (2 : Int32)) (by decide) ?_
  refine g_istore_n C.c (i := 3) (L' := [some (.ref (kad K 58)), some (.int x1), some (.int (2 : Int32)), some (.int (2 : Int32))]) dX3_bestEntry_3 rfl (Nat.le_of_ble_eq_true rfl) rfl ?_
  refine g_mask [true, true, true, true] rfl ?_
  refine lp_bind (Gh := fun s => G K 4 [some (.ref (kad K 58)), some (.int x1), some (.int s.1), some (.int s.2.1)] [] (Wd K layC s.2.2)) h (fun s o2 hf gI gE => ?_)
  refine bX3_bestEntry_b4 C gI (fun t7 e => ?_) hf
  · have h := gE _ e
    refine g_iload_n C.c dX3_bestEntry_41 rfl (i := 2) rfl ?_
    obtain rfl := Option.some.inj h
    exact g_iret C hQ dX3_bestEntry_42 rfl ⟨rfl, rfl⟩
def fX3_bestEntry (a0 : Int32) (σ : Sg) : Option (Int32 × Sg) := fX3_bestEntry_b0 a0 σ
theorem ct_X3_bestEntry {a0 : Int32} {σ : Sg} {p : Int32 × Sg} (h : fX3_bestEntry a0 σ = some p) : Ct layC yX3_bestEntry cX3_bestEntry 4 (some .int) 1 (fun ad => [.ref (ad 58), .int a0]) σ (okI p) :=
 ct_of (L0 := fun ad => [some (.ref (ad 58)), some (.int a0), none, none]) (by decide) (fun _ => Nat.le_of_ble_eq_true rfl) (fun _ => rfl) (fun K C hQ => g_mask [true, true, false, false] rfl (bX3_bestEntry_b0 C hQ h))
-- X3_gainBy
theorem dX3_gainBy_0 : decode cX3_gainBy 0 = .ok (.iload_n 2, 1) := by decide +kernel
theorem dX3_gainBy_1 : decode cX3_gainBy 1 = .ok (.ifCond .ne 7, 3) := by decide +kernel
theorem dX3_gainBy_4 : decode cX3_gainBy 4 = .ok (.iconst 0, 1) := by decide +kernel
theorem dX3_gainBy_5 : decode cX3_gainBy 5 = .ok (.goto 28, 3) := by decide +kernel
theorem dX3_gainBy_8 : decode cX3_gainBy 8 = .ok (.aload_n 0, 1) := by decide +kernel
theorem dX3_gainBy_9 : decode cX3_gainBy 9 = .ok (.getfield 13, 3) := by decide +kernel
theorem dX3_gainBy_12 : decode cX3_gainBy 12 = .ok (.iload_n 1, 1) := by decide +kernel
theorem dX3_gainBy_13 : decode cX3_gainBy 13 = .ok (.aaload, 1) := by decide +kernel
theorem dX3_gainBy_14 : decode cX3_gainBy 14 = .ok (.iconst 2, 1) := by decide +kernel
theorem dX3_gainBy_15 : decode cX3_gainBy 15 = .ok (.iload_n 2, 1) := by decide +kernel
theorem dX3_gainBy_16 : decode cX3_gainBy 16 = .ok (.imul, 1) := by decide +kernel
theorem dX3_gainBy_17 : decode cX3_gainBy 17 = .ok (.iaload, 1) := by decide +kernel
theorem dX3_gainBy_18 : decode cX3_gainBy 18 = .ok (.aload_n 0, 1) := by decide +kernel
theorem dX3_gainBy_19 : decode cX3_gainBy 19 = .ok (.getfield 13, 3) := by decide +kernel
theorem dX3_gainBy_22 : decode cX3_gainBy 22 = .ok (.iload_n 1, 1) := by decide +kernel
theorem dX3_gainBy_23 : decode cX3_gainBy 23 = .ok (.aaload, 1) := by decide +kernel
theorem dX3_gainBy_24 : decode cX3_gainBy 24 = .ok (.iconst 2, 1) := by decide +kernel
theorem dX3_gainBy_25 : decode cX3_gainBy 25 = .ok (.iload_n 2, 1) := by decide +kernel
theorem dX3_gainBy_26 : decode cX3_gainBy 26 = .ok (.imul, 1) := by decide +kernel
theorem dX3_gainBy_27 : decode cX3_gainBy 27 = .ok (.iconst 1, 1) := by decide +kernel
theorem dX3_gainBy_28 : decode cX3_gainBy 28 = .ok (.iadd, 1) := by decide +kernel
theorem dX3_gainBy_29 : decode cX3_gainBy 29 = .ok (.iaload, 1) := by decide +kernel
theorem dX3_gainBy_30 : decode cX3_gainBy 30 = .ok (.invokestatic 33, 3) := by decide +kernel
theorem dX3_gainBy_33 : decode cX3_gainBy 33 = .ok (.ireturn, 1) := by decide +kernel
theorem cw_X3_gainBy : Cw yX3_gainBy cX3_gainBy 3 (some .int) 2 := ⟨aw_659, aw_54, ⟨by decide, by decide⟩, by decide +kernel, by decide⟩
def fX3_gainBy_b0 (x1 : Int32) (x2 : Int32) (σ : Sg) : Option (Int32 × Sg) :=
  if x2 = 0 then (some ((0 : Int32), σ)) else (if inb x1 5 = true then (if inb ((2 : Int32) * x2) 24 = true then (if inb x1 5 = true then (if inb (((2 : Int32) * x2) + (1 : Int32)) 24 = true then (some ((imax (rI σ (60 + (x1).toNatClampNeg) (((2 : Int32) * x2)).toNatClampNeg) (rI σ (60 + (x1).toNatClampNeg) ((((2 : Int32) * x2) + (1 : Int32))).toNatClampNeg)), σ)) else none) else none) else none) else none)
set_option maxRecDepth 4000 in
theorem bX3_gainBy_b0 {K : KT} {x1 : Int32} {x2 : Int32} {σ : Sg} {o : Int32 × Sg} (C : Cx K layC cX3_gainBy RX3 3 (1) (some .int))  (hQ : Rk K layC (okI o)) (h : fX3_gainBy_b0 x1 x2 σ = some o) : G K 0 [some (.ref (kad K 58)), some (.int x1), some (.int x2)] [] (Wd K layC σ) := by
  unfold fX3_gainBy_b0 at h
  refine g_iload_n C.c dX3_gainBy_0 rfl (i := 2) rfl ?_
  refine g_if_ne C.c (tgt := 8) dX3_gainBy_1 (by decide) (fun c => ?_) (fun c => ?_)
  · replace h := ite_f c h
    refine g_aload_n C.c dX3_gainBy_8 rfl (i := 0) rfl ?_
    refine gf_3_13 C dX3_gainBy_9 ?_
    refine g_iload_n C.c dX3_gainBy_12 rfl (i := 1) rfl ?_
    obtain ⟨c1, h⟩ := chk h
    have hs2 := rw_59 (inb_lt c1)
    refine g_aald5 C (b := 60) dX3_gainBy_13 rfl c1 rfl rfl ?_
    refine g_iconst C.c dX3_gainBy_14 (v := (2 : Int32)) (by decide) ?_
    refine g_iload_n C.c dX3_gainBy_15 rfl (i := 2) rfl ?_
    refine g_imul C.c dX3_gainBy_16 ?_
    obtain ⟨c3, h⟩ := chk h
    refine g_iald C dX3_gainBy_17 hs2 c3 ?_
    refine g_aload_n C.c dX3_gainBy_18 rfl (i := 0) rfl ?_
    refine gf_3_13 C dX3_gainBy_19 ?_
    refine g_iload_n C.c dX3_gainBy_22 rfl (i := 1) rfl ?_
    obtain ⟨c4, h⟩ := chk h
    have hs5 := rw_59 (inb_lt c4)
    refine g_aald5 C (b := 60) dX3_gainBy_23 rfl c4 rfl rfl ?_
    refine g_iconst C.c dX3_gainBy_24 (v := (2 : Int32)) (by decide) ?_
    refine g_iload_n C.c dX3_gainBy_25 rfl (i := 2) rfl ?_
    refine g_imul C.c dX3_gainBy_26 ?_
    refine g_iconst C.c dX3_gainBy_27 (v := (1 : Int32)) (by decide) ?_
    refine g_iadd C.c dX3_gainBy_28 ?_
    obtain ⟨c6, h⟩ := chk h
    refine g_iald C dX3_gainBy_29 hs5 c6 ?_
    refine g_max C.c dX3_gainBy_30 aw_660 aw_477 aw_57 aw_478 rfl (Nat.le_of_ble_eq_true rfl) (Nat.le_of_ble_eq_true rfl) ?_
    obtain rfl := Option.some.inj h
    exact g_iret C hQ dX3_gainBy_33 rfl ⟨rfl, rfl⟩
  · replace h := ite_t c h
    refine g_iconst C.c dX3_gainBy_4 (v := (0 : Int32)) (by decide) ?_
    refine g_goto C.c (tgt := 33) dX3_gainBy_5 (by decide) ?_
    obtain rfl := Option.some.inj h
    exact g_iret C hQ dX3_gainBy_33 rfl ⟨rfl, rfl⟩
def fX3_gainBy (a0 : Int32) (a1 : Int32) (σ : Sg) : Option (Int32 × Sg) := fX3_gainBy_b0 a0 a1 σ
theorem ct_X3_gainBy {a0 : Int32} {a1 : Int32} {σ : Sg} {p : Int32 × Sg} (h : fX3_gainBy a0 a1 σ = some p) : Ct layC yX3_gainBy cX3_gainBy 3 (some .int) 1 (fun ad => [.ref (ad 58), .int a0, .int a1]) σ (okI p) :=
 ct_of (L0 := fun ad => [some (.ref (ad 58)), some (.int a0), some (.int a1)]) (by decide) (fun _ => Nat.le_of_ble_eq_true rfl) (fun _ => rfl) (fun K C hQ => g_mask [true, true, true] rfl (bX3_gainBy_b0 C hQ h))
-- X3_mostFrom
theorem dX3_mostFrom_0 : decode cX3_mostFrom 0 = .ok (.aload_n 0, 1) := by decide +kernel
theorem dX3_mostFrom_1 : decode cX3_mostFrom 1 = .ok (.getfield 23, 3) := by decide +kernel
theorem dX3_mostFrom_4 : decode cX3_mostFrom 4 = .ok (.iload_n 1, 1) := by decide +kernel
theorem dX3_mostFrom_5 : decode cX3_mostFrom 5 = .ok (.iconst 1, 1) := by decide +kernel
theorem dX3_mostFrom_6 : decode cX3_mostFrom 6 = .ok (.iadd, 1) := by decide +kernel
theorem dX3_mostFrom_7 : decode cX3_mostFrom 7 = .ok (.aaload, 1) := by decide +kernel
theorem dX3_mostFrom_8 : decode cX3_mostFrom 8 = .ok (.iload_n 2, 1) := by decide +kernel
theorem dX3_mostFrom_9 : decode cX3_mostFrom 9 = .ok (.iaload, 1) := by decide +kernel
theorem dX3_mostFrom_10 : decode cX3_mostFrom 10 = .ok (.istore_n 3, 1) := by decide +kernel
theorem dX3_mostFrom_11 : decode cX3_mostFrom 11 = .ok (.iconst 1, 1) := by decide +kernel
theorem dX3_mostFrom_12 : decode cX3_mostFrom 12 = .ok (.istore 4, 2) := by decide +kernel
theorem dX3_mostFrom_14 : decode cX3_mostFrom 14 = .ok (.iload 4, 2) := by decide +kernel
theorem dX3_mostFrom_16 : decode cX3_mostFrom 16 = .ok (.iload_n 2, 1) := by decide +kernel
theorem dX3_mostFrom_17 : decode cX3_mostFrom 17 = .ok (.if_icmp .gt 44, 3) := by decide +kernel
theorem dX3_mostFrom_20 : decode cX3_mostFrom 20 = .ok (.aload_n 0, 1) := by decide +kernel
theorem dX3_mostFrom_21 : decode cX3_mostFrom 21 = .ok (.getfield 20, 3) := by decide +kernel
theorem dX3_mostFrom_24 : decode cX3_mostFrom 24 = .ok (.iload_n 1, 1) := by decide +kernel
theorem dX3_mostFrom_25 : decode cX3_mostFrom 25 = .ok (.baload, 1) := by decide +kernel
theorem dX3_mostFrom_26 : decode cX3_mostFrom 26 = .ok (.ifCond .eq 35, 3) := by decide +kernel
theorem dX3_mostFrom_29 : decode cX3_mostFrom 29 = .ok (.iload_n 3, 1) := by decide +kernel
theorem dX3_mostFrom_30 : decode cX3_mostFrom 30 = .ok (.aload_n 0, 1) := by decide +kernel
theorem dX3_mostFrom_31 : decode cX3_mostFrom 31 = .ok (.iload_n 1, 1) := by decide +kernel
theorem dX3_mostFrom_32 : decode cX3_mostFrom 32 = .ok (.iload 4, 2) := by decide +kernel
theorem dX3_mostFrom_34 : decode cX3_mostFrom 34 = .ok (.invokevirtual 30, 3) := by decide +kernel
theorem dX3_mostFrom_37 : decode cX3_mostFrom 37 = .ok (.aload_n 0, 1) := by decide +kernel
theorem dX3_mostFrom_38 : decode cX3_mostFrom 38 = .ok (.getfield 23, 3) := by decide +kernel
theorem dX3_mostFrom_41 : decode cX3_mostFrom 41 = .ok (.iload_n 1, 1) := by decide +kernel
theorem dX3_mostFrom_42 : decode cX3_mostFrom 42 = .ok (.iconst 1, 1) := by decide +kernel
theorem dX3_mostFrom_43 : decode cX3_mostFrom 43 = .ok (.iadd, 1) := by decide +kernel
theorem dX3_mostFrom_44 : decode cX3_mostFrom 44 = .ok (.aaload, 1) := by decide +kernel
theorem dX3_mostFrom_45 : decode cX3_mostFrom 45 = .ok (.iload_n 2, 1) := by decide +kernel
theorem dX3_mostFrom_46 : decode cX3_mostFrom 46 = .ok (.iload 4, 2) := by decide +kernel
theorem dX3_mostFrom_48 : decode cX3_mostFrom 48 = .ok (.isub, 1) := by decide +kernel
theorem dX3_mostFrom_49 : decode cX3_mostFrom 49 = .ok (.iaload, 1) := by decide +kernel
theorem dX3_mostFrom_50 : decode cX3_mostFrom 50 = .ok (.iadd, 1) := by decide +kernel
theorem dX3_mostFrom_51 : decode cX3_mostFrom 51 = .ok (.invokestatic 33, 3) := by decide +kernel
theorem dX3_mostFrom_54 : decode cX3_mostFrom 54 = .ok (.istore_n 3, 1) := by decide +kernel
theorem dX3_mostFrom_55 : decode cX3_mostFrom 55 = .ok (.iinc 4 1, 3) := by decide +kernel
theorem dX3_mostFrom_58 : decode cX3_mostFrom 58 = .ok (.goto (-44), 3) := by decide +kernel
theorem dX3_mostFrom_61 : decode cX3_mostFrom 61 = .ok (.iload_n 3, 1) := by decide +kernel
theorem dX3_mostFrom_62 : decode cX3_mostFrom 62 = .ok (.ireturn, 1) := by decide +kernel
theorem cw_X3_mostFrom : Cw yX3_mostFrom cX3_mostFrom 5 (some .int) 2 := ⟨aw_655, aw_54, ⟨by decide, by decide⟩, by decide +kernel, by decide⟩
theorem gf_3_23 {K : KT} {cc : ByteArray} {nL d pc : Nat} {ret : Option FieldType} {L : List (Option Value)} {st : List Value} {σ : Sg} (C : Cx K layC cc RX3 nL d ret)  (hd : decode cc pc = .ok (.getfield 23, 3)) (k : G K (pc + 3) L (.ref (kad K 67) :: st) (Wd K layC σ)) : G K pc L (.ref (kad K 58) :: st) (Wd K layC σ) := g_get C (o := 58) (ci := 3) (k := 3) hd rfl rfl rfl (by decide) (Or.inl aw_317) inA3 rfl k
theorem gf_3_20 {K : KT} {cc : ByteArray} {nL d pc : Nat} {ret : Option FieldType} {L : List (Option Value)} {st : List Value} {σ : Sg} (C : Cx K layC cc RX3 nL d ret)  (hd : decode cc pc = .ok (.getfield 20, 3)) (k : G K (pc + 3) L (.ref (kad K 66) :: st) (Wd K layC σ)) : G K pc L (.ref (kad K 58) :: st) (Wd K layC σ) := g_get C (o := 58) (ci := 3) (k := 2) hd rfl rfl rfl (by decide) (Or.inl aw_315) inA3 rfl k
theorem kc_3_30 {K : KT} {cc : ByteArray} {nL d pc : Nat} {ret : Option FieldType} {L : List (Option Value)} {st : List Value} {σ : Sg} (C : Cx K layC cc RX3 nL d ret)  {a0 : Int32} {a1 : Int32}  {p : Int32 × Sg} (hd : decode cc pc = .ok (.invokevirtual 30, 3)) (e : fX3_gainBy a0 a1 σ = some p) (hdd : 1 + 1 ≤ d) (hLn : L.length = nL) (hr : (st.map fun v => v.category).sum ≤ 8) (k : G K (pc + 3) L (.int p.1 :: st) (Wd K layC p.2)) : G K pc L (.int a1 :: .int a0 :: .ref (kad K 58) :: st) (Wd K layC σ) :=
  g_callV C (As := [.int a0, .int a1]) (rest := st) (o := 58) (ci := 3) hd (ct_X3_gainBy e) cw_X3_gainBy (Or.inl aw_656) aw_658 aw_16 rfl rfl rfl hdd hLn rfl rfl hr (fun v τ q => by obtain ⟨rfl, rfl⟩ := q; exact k)
def fX3_mostFrom_b14 (x1 : Int32) (x2 : Int32) (x3 : Int32) (x4 : Int32) (σ : Sg) : Option ((Int32 × Int32 × Sg) ⊕ ((Int32 × Sg))) :=
  if x2 < x4 then (some (.inr (x3, σ))) else (if inb x1 5 = true then (if (rI σ 66 (x1).toNatClampNeg) = 0 then (some (.inr (x3, σ))) else (Option.bind (fX3_gainBy x1 x4 σ) fun p5 => (if inb (x1 + (1 : Int32)) 6 = true then (if inb (x2 - x4) 12 = true then (some (.inl ((imax x3 (p5.1 + (rI p5.2 (68 + ((x1 + (1 : Int32))).toNatClampNeg) ((x2 - x4)).toNatClampNeg))), (x4 + (1 : Int32)), p5.2))) else none) else none))) else none)
def fX3_mostFrom_b0 (x1 : Int32) (x2 : Int32) (σ : Sg) : Option (Int32 × Sg) :=
  if inb (x1 + (1 : Int32)) 6 = true then (if inb x2 12 = true then (Option.bind (lp (fun s => fX3_mostFrom_b14 x1 x2 s.1 s.2.1 s.2.2) FU ((rI σ (68 + ((x1 + (1 : Int32))).toNatClampNeg) (x2).toNatClampNeg), (1 : Int32), σ)) fun t10 => some (t10.1, t10.2)) else none) else none
set_option maxRecDepth 4000 in
theorem bX3_mostFrom_b14 {K : KT} {x1 : Int32} {x2 : Int32} {x3 : Int32} {x4 : Int32} {σ : Sg} {o : (Int32 × Int32 × Sg) ⊕ ((Int32 × Sg))} (C : Cx K layC cX3_mostFrom RX3 5 (2) (some .int))  (hI : ∀ s' : Int32 × Int32 × Sg, o = .inl s' → G K 14 [some (.ref (kad K 58)), some (.int x1), some (.int x2), some (.int s'.1), some (.int s'.2.1)] [] (Wd K layC s'.2.2)) (hE0 : ∀ t : Int32 × Sg, o = .inr t → G K 61 [none, none, none, some (.int t.1), none] [] (Wd K layC t.2)) (h : fX3_mostFrom_b14 x1 x2 x3 x4 σ = some o) : G K 14 [some (.ref (kad K 58)), some (.int x1), some (.int x2), some (.int x3), some (.int x4)] [] (Wd K layC σ) := by
  unfold fX3_mostFrom_b14 at h
  refine g_iload C.c dX3_mostFrom_14 (i := 4) rfl ?_
  refine g_iload_n C.c dX3_mostFrom_16 rfl (i := 2) rfl ?_
  refine g_icmp_gt C.c (tgt := 61) dX3_mostFrom_17 (by decide) (fun c => ?_) (fun c => ?_)
  · replace h := ite_t c h
    have g9 := hE0 _ (Option.some.inj h).symm
    exact g_mask [false, false, false, true, false] rfl g9
  · replace h := ite_f c h
    refine g_aload_n C.c dX3_mostFrom_20 rfl (i := 0) rfl ?_
    refine gf_3_20 C dX3_mostFrom_21 ?_
    refine g_iload_n C.c dX3_mostFrom_24 rfl (i := 1) rfl ?_
    obtain ⟨c4, h⟩ := chk h
    refine g_zald C dX3_mostFrom_25 rfl c4 ?_
    refine g_if_eq C.c (tgt := 61) dX3_mostFrom_26 (by decide) (fun c => ?_) (fun c => ?_)
    · replace h := ite_t c h
      have g9 := hE0 _ (Option.some.inj h).symm
      exact g_mask [false, false, false, true, false] rfl g9
    · replace h := ite_f c h
      refine g_iload_n C.c dX3_mostFrom_29 rfl (i := 3) rfl ?_
      refine g_aload_n C.c dX3_mostFrom_30 rfl (i := 0) rfl ?_
      refine g_iload_n C.c dX3_mostFrom_31 rfl (i := 1) rfl ?_
      refine g_iload C.c dX3_mostFrom_32 (i := 4) rfl ?_
      obtain ⟨p5, e6, h⟩ := Option.bind_eq_some_iff.mp h
      refine kc_3_30 C dX3_mostFrom_34 e6 (Nat.le_of_ble_eq_true rfl) rfl (Nat.le_of_ble_eq_true rfl) ?_
      refine g_aload_n C.c dX3_mostFrom_37 rfl (i := 0) rfl ?_
      refine gf_3_23 C dX3_mostFrom_38 ?_
      refine g_iload_n C.c dX3_mostFrom_41 rfl (i := 1) rfl ?_
      refine g_iconst C.c dX3_mostFrom_42 (v := (1 : Int32)) (by decide) ?_
      refine g_iadd C.c dX3_mostFrom_43 ?_
      obtain ⟨c7, h⟩ := chk h
      have hs8 := rw_67 (inb_lt c7)
      refine g_aald5 C (b := 68) dX3_mostFrom_44 rfl c7 rfl rfl ?_
      refine g_iload_n C.c dX3_mostFrom_45 rfl (i := 2) rfl ?_
      refine g_iload C.c dX3_mostFrom_46 (i := 4) rfl ?_
      refine g_isub C.c dX3_mostFrom_48 ?_
      obtain ⟨c9, h⟩ := chk h
      refine g_iald C dX3_mostFrom_49 hs8 c9 ?_
      refine g_iadd C.c dX3_mostFrom_50 ?_
      refine g_max C.c dX3_mostFrom_51 aw_660 aw_477 aw_57 aw_478 rfl (Nat.le_of_ble_eq_true rfl) (Nat.le_of_ble_eq_true rfl) ?_
      refine g_istore_n C.c (i := 3) (L' := [some (.ref (kad K 58)), some (.int x1), some (.int x2), some (.int (imax x3 (p5.1 + (rI p5.2 (68 + ((x1 + (1 : Int32))).toNatClampNeg) ((x2 - x4)).toNatClampNeg)))), some (.int x4)]) dX3_mostFrom_54 rfl (Nat.le_of_ble_eq_true rfl) rfl ?_
      refine g_iinc C.c (i := 4) (y := (1 : Int32)) (L' := [some (.ref (kad K 58)), some (.int x1), some (.int x2), some (.int (imax x3 (p5.1 + (rI p5.2 (68 + ((x1 + (1 : Int32))).toNatClampNeg) ((x2 - x4)).toNatClampNeg)))), some (.int (x4 + (1 : Int32)))]) dX3_mostFrom_55 rfl (by decide) (Nat.le_of_ble_eq_true rfl) rfl ?_
      refine g_goto C.c (tgt := 14) dX3_mostFrom_58 (by decide) ?_
      have g9 := hI _ (Option.some.inj h).symm
      exact g_mask [true, true, true, true, true] rfl g9
set_option maxRecDepth 4000 in
theorem bX3_mostFrom_b0 {K : KT} {x1 : Int32} {x2 : Int32} {σ : Sg} {o : Int32 × Sg} (C : Cx K layC cX3_mostFrom RX3 5 (2) (some .int))  (hQ : Rk K layC (okI o)) (h : fX3_mostFrom_b0 x1 x2 σ = some o) : G K 0 [some (.ref (kad K 58)), some (.int x1), some (.int x2), none, none] [] (Wd K layC σ) := by
  unfold fX3_mostFrom_b0 at h
  refine g_aload_n C.c dX3_mostFrom_0 rfl (i := 0) rfl ?_
  refine gf_3_23 C dX3_mostFrom_1 ?_
  refine g_iload_n C.c dX3_mostFrom_4 rfl (i := 1) rfl ?_
  refine g_iconst C.c dX3_mostFrom_5 (v := (1 : Int32)) (by decide) ?_
  refine g_iadd C.c dX3_mostFrom_6 ?_
  obtain ⟨c1, h⟩ := chk h
  have hs2 := rw_67 (inb_lt c1)
  refine g_aald5 C (b := 68) dX3_mostFrom_7 rfl c1 rfl rfl ?_
  refine g_iload_n C.c dX3_mostFrom_8 rfl (i := 2) rfl ?_
  obtain ⟨c3, h⟩ := chk h
  refine g_iald C dX3_mostFrom_9 hs2 c3 ?_
  refine g_istore_n C.c (i := 3) (L' := [some (.ref (kad K 58)), some (.int x1), some (.int x2), some (.int (rI σ (68 + ((x1 + (1 : Int32))).toNatClampNeg) (x2).toNatClampNeg)), none]) dX3_mostFrom_10 rfl (Nat.le_of_ble_eq_true rfl) rfl ?_
  refine g_iconst C.c dX3_mostFrom_11 (v := (1 : Int32)) (by decide) ?_
  refine g_istore C.c (i := 4) (L' := [some (.ref (kad K 58)), some (.int x1), some (.int x2), some (.int (rI σ (68 + ((x1 + (1 : Int32))).toNatClampNeg) (x2).toNatClampNeg)), some (.int (1 : Int32))]) dX3_mostFrom_12 (Nat.le_of_ble_eq_true rfl) rfl ?_
  refine g_mask [true, true, true, true, true] rfl ?_
  refine lp_bind (Gh := fun s => G K 14 [some (.ref (kad K 58)), some (.int x1), some (.int x2), some (.int s.1), some (.int s.2.1)] [] (Wd K layC s.2.2)) h (fun s o2 hf gI gE => ?_)
  refine bX3_mostFrom_b14 C gI (fun t10 e => ?_) hf
  · have h := gE _ e
    refine g_iload_n C.c dX3_mostFrom_61 rfl (i := 3) rfl ?_
    obtain rfl := Option.some.inj h
    exact g_iret C hQ dX3_mostFrom_62 rfl ⟨rfl, rfl⟩
def fX3_mostFrom (a0 : Int32) (a1 : Int32) (σ : Sg) : Option (Int32 × Sg) := fX3_mostFrom_b0 a0 a1 σ
theorem ct_X3_mostFrom {a0 : Int32} {a1 : Int32} {σ : Sg} {p : Int32 × Sg} (h : fX3_mostFrom a0 a1 σ = some p) : Ct layC yX3_mostFrom cX3_mostFrom 5 (some .int) 2 (fun ad => [.ref (ad 58), .int a0, .int a1]) σ (okI p) :=
 ct_of (L0 := fun ad => [some (.ref (ad 58)), some (.int a0), some (.int a1), none, none]) (by decide) (fun _ => Nat.le_of_ble_eq_true rfl) (fun _ => rfl) (fun K C hQ => g_mask [true, true, true, false, false] rfl (bX3_mostFrom_b0 C hQ h))
-- X3_deal
theorem dX3_deal_0 : decode cX3_deal 0 = .ok (.iconst 0, 1) := by decide +kernel
theorem dX3_deal_1 : decode cX3_deal 1 = .ok (.istore_n 2, 1) := by decide +kernel
theorem dX3_deal_2 : decode cX3_deal 2 = .ok (.iload_n 2, 1) := by decide +kernel
theorem dX3_deal_3 : decode cX3_deal 3 = .ok (.bipush 11, 2) := by decide +kernel
theorem dX3_deal_5 : decode cX3_deal 5 = .ok (.if_icmp .gt 18, 3) := by decide +kernel
theorem dX3_deal_8 : decode cX3_deal 8 = .ok (.aload_n 0, 1) := by decide +kernel
theorem dX3_deal_9 : decode cX3_deal 9 = .ok (.getfield 23, 3) := by decide +kernel
theorem dX3_deal_12 : decode cX3_deal 12 = .ok (.iload_n 1, 1) := by decide +kernel
theorem dX3_deal_13 : decode cX3_deal 13 = .ok (.aaload, 1) := by decide +kernel
theorem dX3_deal_14 : decode cX3_deal 14 = .ok (.iload_n 2, 1) := by decide +kernel
theorem dX3_deal_15 : decode cX3_deal 15 = .ok (.iconst 0, 1) := by decide +kernel
theorem dX3_deal_16 : decode cX3_deal 16 = .ok (.iastore, 1) := by decide +kernel
theorem dX3_deal_17 : decode cX3_deal 17 = .ok (.iinc 2 1, 3) := by decide +kernel
theorem dX3_deal_20 : decode cX3_deal 20 = .ok (.goto (-18), 3) := by decide +kernel
theorem dX3_deal_23 : decode cX3_deal 23 = .ok (.iload_n 1, 1) := by decide +kernel
theorem dX3_deal_24 : decode cX3_deal 24 = .ok (.iconst 1, 1) := by decide +kernel
theorem dX3_deal_25 : decode cX3_deal 25 = .ok (.isub, 1) := by decide +kernel
theorem dX3_deal_26 : decode cX3_deal 26 = .ok (.istore_n 2, 1) := by decide +kernel
theorem dX3_deal_27 : decode cX3_deal 27 = .ok (.iload_n 2, 1) := by decide +kernel
theorem dX3_deal_28 : decode cX3_deal 28 = .ok (.ifCond .lt 37, 3) := by decide +kernel
theorem dX3_deal_31 : decode cX3_deal 31 = .ok (.iconst 0, 1) := by decide +kernel
theorem dX3_deal_32 : decode cX3_deal 32 = .ok (.istore_n 3, 1) := by decide +kernel
theorem dX3_deal_33 : decode cX3_deal 33 = .ok (.iload_n 3, 1) := by decide +kernel
theorem dX3_deal_34 : decode cX3_deal 34 = .ok (.bipush 11, 2) := by decide +kernel
theorem dX3_deal_36 : decode cX3_deal 36 = .ok (.if_icmp .gt 23, 3) := by decide +kernel
theorem dX3_deal_39 : decode cX3_deal 39 = .ok (.aload_n 0, 1) := by decide +kernel
theorem dX3_deal_40 : decode cX3_deal 40 = .ok (.getfield 23, 3) := by decide +kernel
theorem dX3_deal_43 : decode cX3_deal 43 = .ok (.iload_n 2, 1) := by decide +kernel
theorem dX3_deal_44 : decode cX3_deal 44 = .ok (.aaload, 1) := by decide +kernel
theorem dX3_deal_45 : decode cX3_deal 45 = .ok (.iload_n 3, 1) := by decide +kernel
theorem dX3_deal_46 : decode cX3_deal 46 = .ok (.aload_n 0, 1) := by decide +kernel
theorem dX3_deal_47 : decode cX3_deal 47 = .ok (.iload_n 2, 1) := by decide +kernel
theorem dX3_deal_48 : decode cX3_deal 48 = .ok (.iload_n 3, 1) := by decide +kernel
theorem dX3_deal_49 : decode cX3_deal 49 = .ok (.invokevirtual 26, 3) := by decide +kernel
theorem dX3_deal_52 : decode cX3_deal 52 = .ok (.iastore, 1) := by decide +kernel
theorem dX3_deal_53 : decode cX3_deal 53 = .ok (.iinc 3 1, 3) := by decide +kernel
theorem dX3_deal_56 : decode cX3_deal 56 = .ok (.goto (-23), 3) := by decide +kernel
theorem dX3_deal_59 : decode cX3_deal 59 = .ok (.iinc 2 (-1), 3) := by decide +kernel
theorem dX3_deal_62 : decode cX3_deal 62 = .ok (.goto (-35), 3) := by decide +kernel
theorem dX3_deal_65 : decode cX3_deal 65 = .ok (.return_, 1) := by decide +kernel
theorem cw_X3_deal : Cw yX3_deal cX3_deal 4 none 1 := ⟨aw_651, aw_54, ⟨by decide, by decide⟩, by decide +kernel, by decide⟩
theorem kc_3_26 {K : KT} {cc : ByteArray} {nL d pc : Nat} {ret : Option FieldType} {L : List (Option Value)} {st : List Value} {σ : Sg} (C : Cx K layC cc RX3 nL d ret)  {a0 : Int32} {a1 : Int32}  {p : Int32 × Sg} (hd : decode cc pc = .ok (.invokevirtual 26, 3)) (e : fX3_mostFrom a0 a1 σ = some p) (hdd : 2 + 1 ≤ d) (hLn : L.length = nL) (hr : (st.map fun v => v.category).sum ≤ 8) (k : G K (pc + 3) L (.int p.1 :: st) (Wd K layC p.2)) : G K pc L (.int a1 :: .int a0 :: .ref (kad K 58) :: st) (Wd K layC σ) :=
  g_callV C (As := [.int a0, .int a1]) (rest := st) (o := 58) (ci := 3) hd (ct_X3_mostFrom e) cw_X3_mostFrom (Or.inl aw_652) aw_654 aw_15 rfl rfl rfl hdd hLn rfl rfl hr (fun v τ q => by obtain ⟨rfl, rfl⟩ := q; exact k)
def fX3_deal_b2 (x1 : Int32) (x2 : Int32) (σ : Sg) : Option ((Int32 × Sg) ⊕ ((Sg))) :=
  if (11 : Int32) < x2 then (some (.inr σ)) else (if inb x1 6 = true then (if inb x2 12 = true then (some (.inl ((x2 + (1 : Int32)), (wI σ (68 + (x1).toNatClampNeg) (x2).toNatClampNeg (0 : Int32))))) else none) else none)
def fX3_deal_b33 (x2 : Int32) (x3 : Int32) (σ : Sg) : Option ((Int32 × Sg) ⊕ ((Sg))) :=
  if (11 : Int32) < x3 then (some (.inr σ)) else (if inb x2 6 = true then (Option.bind (fX3_mostFrom x2 x3 σ) fun p8 => (if inb x3 12 = true then (some (.inl ((x3 + (1 : Int32)), (wI p8.2 (68 + (x2).toNatClampNeg) (x3).toNatClampNeg p8.1)))) else none)) else none)
def fX3_deal_b27 (x2 : Int32) (σ : Sg) : Option ((Int32 × Sg) ⊕ ((Sg))) :=
  if x2 < 0 then (some (.inr σ)) else (Option.bind (lp (fun s => fX3_deal_b33 x2 s.1 s.2) FU ((0 : Int32), σ)) fun t11 => some (.inl ((x2 + (-1 : Int32)), t11)))
def fX3_deal_b0 (x1 : Int32) (σ : Sg) : Option (Sg) :=
  Option.bind (lp (fun s => fX3_deal_b2 x1 s.1 s.2) FU ((0 : Int32), σ)) fun t4 => Option.bind (lp (fun s => fX3_deal_b27 s.1 s.2) FU ((x1 - (1 : Int32)), t4)) fun t13 => some t13
set_option maxRecDepth 4000 in
theorem bX3_deal_b2 {K : KT} {x1 : Int32} {x2 : Int32} {σ : Sg} {o : (Int32 × Sg) ⊕ ((Sg))} (C : Cx K layC cX3_deal RX3 4 (3) none)  (hI : ∀ s' : Int32 × Sg, o = .inl s' → G K 2 [some (.ref (kad K 58)), some (.int x1), some (.int s'.1), none] [] (Wd K layC s'.2)) (hE0 : ∀ t : Sg, o = .inr t → G K 23 [some (.ref (kad K 58)), some (.int x1), none, none] [] (Wd K layC t)) (h : fX3_deal_b2 x1 x2 σ = some o) : G K 2 [some (.ref (kad K 58)), some (.int x1), some (.int x2), none] [] (Wd K layC σ) := by
  unfold fX3_deal_b2 at h
  refine g_iload_n C.c dX3_deal_2 rfl (i := 2) rfl ?_
  refine g_bipush C.c dX3_deal_3 (v := (11 : Int32)) (by decide) ?_
  refine g_icmp_gt C.c (tgt := 23) dX3_deal_5 (by decide) (fun c => ?_) (fun c => ?_)
  · replace h := ite_t c h
    have g9 := hE0 _ (Option.some.inj h).symm
    exact g_mask [true, true, false, false] rfl g9
  · replace h := ite_f c h
    refine g_aload_n C.c dX3_deal_8 rfl (i := 0) rfl ?_
    refine gf_3_23 C dX3_deal_9 ?_
    refine g_iload_n C.c dX3_deal_12 rfl (i := 1) rfl ?_
    obtain ⟨c1, h⟩ := chk h
    have hs2 := rw_67 (inb_lt c1)
    refine g_aald5 C (b := 68) dX3_deal_13 rfl c1 rfl rfl ?_
    refine g_iload_n C.c dX3_deal_14 rfl (i := 2) rfl ?_
    refine g_iconst C.c dX3_deal_15 (v := (0 : Int32)) (by decide) ?_
    obtain ⟨c3, h⟩ := chk h
    refine g_iast C dX3_deal_16 hs2 c3 ?_
    refine g_iinc C.c (i := 2) (y := (1 : Int32)) (L' := [some (.ref (kad K 58)), some (.int x1), some (.int (x2 + (1 : Int32))), none]) dX3_deal_17 rfl (by decide) (Nat.le_of_ble_eq_true rfl) rfl ?_
    refine g_goto C.c (tgt := 2) dX3_deal_20 (by decide) ?_
    have g9 := hI _ (Option.some.inj h).symm
    exact g_mask [true, true, true, false] rfl g9
set_option maxRecDepth 4000 in
theorem bX3_deal_b33 {K : KT} {x2 : Int32} {x3 : Int32} {σ : Sg} {o : (Int32 × Sg) ⊕ ((Sg))} (C : Cx K layC cX3_deal RX3 4 (3) none)  (hI : ∀ s' : Int32 × Sg, o = .inl s' → G K 33 [some (.ref (kad K 58)), none, some (.int x2), some (.int s'.1)] [] (Wd K layC s'.2)) (hE0 : ∀ t : Sg, o = .inr t → G K 59 [some (.ref (kad K 58)), none, some (.int x2), none] [] (Wd K layC t)) (h : fX3_deal_b33 x2 x3 σ = some o) : G K 33 [some (.ref (kad K 58)), none, some (.int x2), some (.int x3)] [] (Wd K layC σ) := by
  unfold fX3_deal_b33 at h
  refine g_iload_n C.c dX3_deal_33 rfl (i := 3) rfl ?_
  refine g_bipush C.c dX3_deal_34 (v := (11 : Int32)) (by decide) ?_
  refine g_icmp_gt C.c (tgt := 59) dX3_deal_36 (by decide) (fun c => ?_) (fun c => ?_)
  · replace h := ite_t c h
    have g9 := hE0 _ (Option.some.inj h).symm
    exact g_mask [true, false, true, false] rfl g9
  · replace h := ite_f c h
    refine g_aload_n C.c dX3_deal_39 rfl (i := 0) rfl ?_
    refine gf_3_23 C dX3_deal_40 ?_
    refine g_iload_n C.c dX3_deal_43 rfl (i := 2) rfl ?_
    obtain ⟨c6, h⟩ := chk h
    have hs7 := rw_67 (inb_lt c6)
    refine g_aald5 C (b := 68) dX3_deal_44 rfl c6 rfl rfl ?_
    refine g_iload_n C.c dX3_deal_45 rfl (i := 3) rfl ?_
    refine g_aload_n C.c dX3_deal_46 rfl (i := 0) rfl ?_
    refine g_iload_n C.c dX3_deal_47 rfl (i := 2) rfl ?_
    refine g_iload_n C.c dX3_deal_48 rfl (i := 3) rfl ?_
    obtain ⟨p8, e9, h⟩ := Option.bind_eq_some_iff.mp h
    refine kc_3_26 C dX3_deal_49 e9 (Nat.le_of_ble_eq_true rfl) rfl (Nat.le_of_ble_eq_true rfl) ?_
    obtain ⟨c10, h⟩ := chk h
    refine g_iast C dX3_deal_52 hs7 c10 ?_
    refine g_iinc C.c (i := 3) (y := (1 : Int32)) (L' := [some (.ref (kad K 58)), none, some (.int x2), some (.int (x3 + (1 : Int32)))]) dX3_deal_53 rfl (by decide) (Nat.le_of_ble_eq_true rfl) rfl ?_
    refine g_goto C.c (tgt := 33) dX3_deal_56 (by decide) ?_
    have g9 := hI _ (Option.some.inj h).symm
    exact g_mask [true, false, true, true] rfl g9
set_option maxRecDepth 4000 in
theorem bX3_deal_b27 {K : KT} {x2 : Int32} {σ : Sg} {o : (Int32 × Sg) ⊕ ((Sg))} (C : Cx K layC cX3_deal RX3 4 (3) none)  (hI : ∀ s' : Int32 × Sg, o = .inl s' → G K 27 [some (.ref (kad K 58)), none, some (.int s'.1), none] [] (Wd K layC s'.2)) (hE0 : ∀ t : Sg, o = .inr t → G K 65 [none, none, none, none] [] (Wd K layC t)) (h : fX3_deal_b27 x2 σ = some o) : G K 27 [some (.ref (kad K 58)), none, some (.int x2), none] [] (Wd K layC σ) := by
  unfold fX3_deal_b27 at h
  refine g_iload_n C.c dX3_deal_27 rfl (i := 2) rfl ?_
  refine g_if_lt C.c (tgt := 65) dX3_deal_28 (by decide) (fun c => ?_) (fun c => ?_)
  · replace h := ite_t c h
    have g9 := hE0 _ (Option.some.inj h).symm
    exact g_mask [false, false, false, false] rfl g9
  · replace h := ite_f c h
    refine g_iconst C.c dX3_deal_31 (v := (0 : Int32)) (by decide) ?_
    refine g_istore_n C.c (i := 3) (L' := [some (.ref (kad K 58)), none, some (.int x2), some (.int (0 : Int32))]) dX3_deal_32 rfl (Nat.le_of_ble_eq_true rfl) rfl ?_
    refine g_mask [true, false, true, true] rfl ?_
    refine lp_bind (Gh := fun s => G K 33 [some (.ref (kad K 58)), none, some (.int x2), some (.int s.1)] [] (Wd K layC s.2)) h (fun s o2 hf gI gE => ?_)
    refine bX3_deal_b33 C gI (fun t11 e => ?_) hf
    · have h := gE _ e
      refine g_iinc C.c (i := 2) (y := (-1 : Int32)) (L' := [some (.ref (kad K 58)), none, some (.int (x2 + (-1 : Int32))), none]) dX3_deal_59 rfl (by decide) (Nat.le_of_ble_eq_true rfl) rfl ?_
      refine g_goto C.c (tgt := 27) dX3_deal_62 (by decide) ?_
      have g9 := hI _ (Option.some.inj h).symm
      exact g_mask [true, false, true, false] rfl g9
set_option maxRecDepth 4000 in
theorem bX3_deal_b0 {K : KT} {x1 : Int32} {σ : Sg} {o : Sg} (C : Cx K layC cX3_deal RX3 4 (3) none)  (hQ : Rk K layC (okV o)) (h : fX3_deal_b0 x1 σ = some o) : G K 0 [some (.ref (kad K 58)), some (.int x1), none, none] [] (Wd K layC σ) := by
  unfold fX3_deal_b0 at h
  refine g_iconst C.c dX3_deal_0 (v := (0 : Int32)) (by decide) ?_
  refine g_istore_n C.c (i := 2) (L' := [some (.ref (kad K 58)), some (.int x1), some (.int (0 : Int32)), none]) dX3_deal_1 rfl (Nat.le_of_ble_eq_true rfl) rfl ?_
  refine g_mask [true, true, true, false] rfl ?_
  refine lp_bind (Gh := fun s => G K 2 [some (.ref (kad K 58)), some (.int x1), some (.int s.1), none] [] (Wd K layC s.2)) h (fun s o2 hf gI gE => ?_)
  refine bX3_deal_b2 C gI (fun t4 e => ?_) hf
  · have h := gE _ e
    refine g_iload_n C.c dX3_deal_23 rfl (i := 1) rfl ?_
    refine g_iconst C.c dX3_deal_24 (v := (1 : Int32)) (by decide) ?_
    refine g_isub C.c dX3_deal_25 ?_
    refine g_istore_n C.c (i := 2) (L' := [some (.ref (kad K 58)), some (.int x1), some (.int (x1 - (1 : Int32))), none]) dX3_deal_26 rfl (Nat.le_of_ble_eq_true rfl) rfl ?_
    refine g_mask [true, false, true, false] rfl ?_
    refine lp_bind (Gh := fun s => G K 27 [some (.ref (kad K 58)), none, some (.int s.1), none] [] (Wd K layC s.2)) h (fun s o2 hf gI gE => ?_)
    refine bX3_deal_b27 C gI (fun t13 e => ?_) hf
    · have h := gE _ e
      obtain rfl := Option.some.inj h
      exact g_vret C hQ dX3_deal_65 ⟨rfl, rfl⟩
def fX3_deal (a0 : Int32) (σ : Sg) : Option (Sg) := fX3_deal_b0 a0 σ
theorem ct_X3_deal {a0 : Int32} {σ : Sg} {p : Sg} (h : fX3_deal a0 σ = some p) : Ct layC yX3_deal cX3_deal 4 none 3 (fun ad => [.ref (ad 58), .int a0]) σ (okV p) :=
 ct_of (L0 := fun ad => [some (.ref (ad 58)), some (.int a0), none, none]) (by decide) (fun _ => Nat.le_of_ble_eq_true rfl) (fun _ => rfl) (fun K C hQ => g_mask [true, true, false, false] rfl (bX3_deal_b0 C hQ h))
-- X3_fewestFor
theorem dX3_fewestFor_0 : decode cX3_fewestFor 0 = .ok (.iconst 0, 1) := by decide +kernel
theorem dX3_fewestFor_1 : decode cX3_fewestFor 1 = .ok (.istore_n 3, 1) := by decide +kernel
theorem dX3_fewestFor_2 : decode cX3_fewestFor 2 = .ok (.iload_n 3, 1) := by decide +kernel
theorem dX3_fewestFor_3 : decode cX3_fewestFor 3 = .ok (.iload_n 2, 1) := by decide +kernel
theorem dX3_fewestFor_4 : decode cX3_fewestFor 4 = .ok (.if_icmp .ge 41, 3) := by decide +kernel
theorem dX3_fewestFor_7 : decode cX3_fewestFor 7 = .ok (.aload_n 0, 1) := by decide +kernel
theorem dX3_fewestFor_8 : decode cX3_fewestFor 8 = .ok (.iload_n 1, 1) := by decide +kernel
theorem dX3_fewestFor_9 : decode cX3_fewestFor 9 = .ok (.iload_n 3, 1) := by decide +kernel
theorem dX3_fewestFor_10 : decode cX3_fewestFor 10 = .ok (.invokevirtual 30, 3) := by decide +kernel
theorem dX3_fewestFor_13 : decode cX3_fewestFor 13 = .ok (.aload_n 0, 1) := by decide +kernel
theorem dX3_fewestFor_14 : decode cX3_fewestFor 14 = .ok (.getfield 23, 3) := by decide +kernel
theorem dX3_fewestFor_17 : decode cX3_fewestFor 17 = .ok (.iload_n 1, 1) := by decide +kernel
theorem dX3_fewestFor_18 : decode cX3_fewestFor 18 = .ok (.iconst 1, 1) := by decide +kernel
theorem dX3_fewestFor_19 : decode cX3_fewestFor 19 = .ok (.iadd, 1) := by decide +kernel
theorem dX3_fewestFor_20 : decode cX3_fewestFor 20 = .ok (.aaload, 1) := by decide +kernel
theorem dX3_fewestFor_21 : decode cX3_fewestFor 21 = .ok (.iload_n 2, 1) := by decide +kernel
theorem dX3_fewestFor_22 : decode cX3_fewestFor 22 = .ok (.iload_n 3, 1) := by decide +kernel
theorem dX3_fewestFor_23 : decode cX3_fewestFor 23 = .ok (.isub, 1) := by decide +kernel
theorem dX3_fewestFor_24 : decode cX3_fewestFor 24 = .ok (.iaload, 1) := by decide +kernel
theorem dX3_fewestFor_25 : decode cX3_fewestFor 25 = .ok (.iadd, 1) := by decide +kernel
theorem dX3_fewestFor_26 : decode cX3_fewestFor 26 = .ok (.aload_n 0, 1) := by decide +kernel
theorem dX3_fewestFor_27 : decode cX3_fewestFor 27 = .ok (.getfield 23, 3) := by decide +kernel
theorem dX3_fewestFor_30 : decode cX3_fewestFor 30 = .ok (.iload_n 1, 1) := by decide +kernel
theorem dX3_fewestFor_31 : decode cX3_fewestFor 31 = .ok (.aaload, 1) := by decide +kernel
theorem dX3_fewestFor_32 : decode cX3_fewestFor 32 = .ok (.iload_n 2, 1) := by decide +kernel
theorem dX3_fewestFor_33 : decode cX3_fewestFor 33 = .ok (.iaload, 1) := by decide +kernel
theorem dX3_fewestFor_34 : decode cX3_fewestFor 34 = .ok (.if_icmp .ne 5, 3) := by decide +kernel
theorem dX3_fewestFor_37 : decode cX3_fewestFor 37 = .ok (.iload_n 3, 1) := by decide +kernel
theorem dX3_fewestFor_38 : decode cX3_fewestFor 38 = .ok (.ireturn, 1) := by decide +kernel
theorem dX3_fewestFor_39 : decode cX3_fewestFor 39 = .ok (.iinc 3 1, 3) := by decide +kernel
theorem dX3_fewestFor_42 : decode cX3_fewestFor 42 = .ok (.goto (-40), 3) := by decide +kernel
theorem dX3_fewestFor_45 : decode cX3_fewestFor 45 = .ok (.iload_n 2, 1) := by decide +kernel
theorem dX3_fewestFor_46 : decode cX3_fewestFor 46 = .ok (.ireturn, 1) := by decide +kernel
theorem cw_X3_fewestFor : Cw yX3_fewestFor cX3_fewestFor 4 (some .int) 2 := ⟨aw_668, aw_54, ⟨by decide, by decide⟩, by decide +kernel, by decide⟩
def fX3_fewestFor_b2 (x1 : Int32) (x2 : Int32) (x3 : Int32) (σ : Sg) : Option ((Int32 × Sg) ⊕ (((Int32 × Sg) ⊕ (Sg)))) :=
  if x2 ≤ x3 then (some (.inr (.inr σ))) else (Option.bind (fX3_gainBy x1 x3 σ) fun p1 => (if inb (x1 + (1 : Int32)) 6 = true then (if inb (x2 - x3) 12 = true then (if inb x1 6 = true then (if inb x2 12 = true then (if (p1.1 + (rI p1.2 (68 + ((x1 + (1 : Int32))).toNatClampNeg) ((x2 - x3)).toNatClampNeg)) = (rI p1.2 (68 + (x1).toNatClampNeg) (x2).toNatClampNeg) then (some (.inr (.inl (x3, p1.2)))) else (some (.inl ((x3 + (1 : Int32)), p1.2)))) else none) else none) else none) else none))
def fX3_fewestFor_b0 (x1 : Int32) (x2 : Int32) (σ : Sg) : Option (Int32 × Sg) :=
  Option.bind (lp (fun s => fX3_fewestFor_b2 x1 x2 s.1 s.2) FU ((0 : Int32), σ)) (el (fun t9 => some (t9.1, t9.2)) (fun t9 => some (x2, t9)))
set_option maxRecDepth 4000 in
theorem bX3_fewestFor_b2 {K : KT} {x1 : Int32} {x2 : Int32} {x3 : Int32} {σ : Sg} {o : (Int32 × Sg) ⊕ (((Int32 × Sg) ⊕ (Sg)))} (C : Cx K layC cX3_fewestFor RX3 4 (2) (some .int))  (hI : ∀ s' : Int32 × Sg, o = .inl s' → G K 2 [some (.ref (kad K 58)), some (.int x1), some (.int x2), some (.int s'.1)] [] (Wd K layC s'.2)) (hE0 : ∀ t : Int32 × Sg, o = .inr (.inl t) → G K 37 [none, none, none, some (.int t.1)] [] (Wd K layC t.2)) (hE1 : ∀ t : Sg, o = .inr (.inr t) → G K 45 [none, none, some (.int x2), none] [] (Wd K layC t)) (h : fX3_fewestFor_b2 x1 x2 x3 σ = some o) : G K 2 [some (.ref (kad K 58)), some (.int x1), some (.int x2), some (.int x3)] [] (Wd K layC σ) := by
  unfold fX3_fewestFor_b2 at h
  refine g_iload_n C.c dX3_fewestFor_2 rfl (i := 3) rfl ?_
  refine g_iload_n C.c dX3_fewestFor_3 rfl (i := 2) rfl ?_
  refine g_icmp_ge C.c (tgt := 45) dX3_fewestFor_4 (by decide) (fun c => ?_) (fun c => ?_)
  · replace h := ite_t c h
    have g9 := hE1 _ (Option.some.inj h).symm
    exact g_mask [false, false, true, false] rfl g9
  · replace h := ite_f c h
    refine g_aload_n C.c dX3_fewestFor_7 rfl (i := 0) rfl ?_
    refine g_iload_n C.c dX3_fewestFor_8 rfl (i := 1) rfl ?_
    refine g_iload_n C.c dX3_fewestFor_9 rfl (i := 3) rfl ?_
    obtain ⟨p1, e2, h⟩ := Option.bind_eq_some_iff.mp h
    refine kc_3_30 C dX3_fewestFor_10 e2 (Nat.le_of_ble_eq_true rfl) rfl (Nat.le_of_ble_eq_true rfl) ?_
    refine g_aload_n C.c dX3_fewestFor_13 rfl (i := 0) rfl ?_
    refine gf_3_23 C dX3_fewestFor_14 ?_
    refine g_iload_n C.c dX3_fewestFor_17 rfl (i := 1) rfl ?_
    refine g_iconst C.c dX3_fewestFor_18 (v := (1 : Int32)) (by decide) ?_
    refine g_iadd C.c dX3_fewestFor_19 ?_
    obtain ⟨c3, h⟩ := chk h
    have hs4 := rw_67 (inb_lt c3)
    refine g_aald5 C (b := 68) dX3_fewestFor_20 rfl c3 rfl rfl ?_
    refine g_iload_n C.c dX3_fewestFor_21 rfl (i := 2) rfl ?_
    refine g_iload_n C.c dX3_fewestFor_22 rfl (i := 3) rfl ?_
    refine g_isub C.c dX3_fewestFor_23 ?_
    obtain ⟨c5, h⟩ := chk h
    refine g_iald C dX3_fewestFor_24 hs4 c5 ?_
    refine g_iadd C.c dX3_fewestFor_25 ?_
    refine g_aload_n C.c dX3_fewestFor_26 rfl (i := 0) rfl ?_
    refine gf_3_23 C dX3_fewestFor_27 ?_
    refine g_iload_n C.c dX3_fewestFor_30 rfl (i := 1) rfl ?_
    obtain ⟨c6, h⟩ := chk h
    have hs7 := rw_67 (inb_lt c6)
    refine g_aald5 C (b := 68) dX3_fewestFor_31 rfl c6 rfl rfl ?_
    refine g_iload_n C.c dX3_fewestFor_32 rfl (i := 2) rfl ?_
    obtain ⟨c8, h⟩ := chk h
    refine g_iald C dX3_fewestFor_33 hs7 c8 ?_
    refine g_icmp_ne C.c (tgt := 39) dX3_fewestFor_34 (by decide) (fun c => ?_) (fun c => ?_)
    · replace h := ite_f c h
      refine g_iinc C.c (i := 3) (y := (1 : Int32)) (L' := [some (.ref (kad K 58)), some (.int x1), some (.int x2), some (.int (x3 + (1 : Int32)))]) dX3_fewestFor_39 rfl (by decide) (Nat.le_of_ble_eq_true rfl) rfl ?_
      refine g_goto C.c (tgt := 2) dX3_fewestFor_42 (by decide) ?_
      have g9 := hI _ (Option.some.inj h).symm
      exact g_mask [true, true, true, true] rfl g9
    · replace h := ite_t c h
      have g9 := hE0 _ (Option.some.inj h).symm
      exact g_mask [false, false, false, true] rfl g9
set_option maxRecDepth 4000 in
theorem bX3_fewestFor_b0 {K : KT} {x1 : Int32} {x2 : Int32} {σ : Sg} {o : Int32 × Sg} (C : Cx K layC cX3_fewestFor RX3 4 (2) (some .int))  (hQ : Rk K layC (okI o)) (h : fX3_fewestFor_b0 x1 x2 σ = some o) : G K 0 [some (.ref (kad K 58)), some (.int x1), some (.int x2), none] [] (Wd K layC σ) := by
  unfold fX3_fewestFor_b0 at h
  refine g_iconst C.c dX3_fewestFor_0 (v := (0 : Int32)) (by decide) ?_
  refine g_istore_n C.c (i := 3) (L' := [some (.ref (kad K 58)), some (.int x1), some (.int x2), some (.int (0 : Int32))]) dX3_fewestFor_1 rfl (Nat.le_of_ble_eq_true rfl) rfl ?_
  refine g_mask [true, true, true, true] rfl ?_
  refine lp_bind (Gh := fun s => G K 2 [some (.ref (kad K 58)), some (.int x1), some (.int x2), some (.int s.1)] [] (Wd K layC s.2)) h (fun s o2 hf gI gE => ?_)
  refine bX3_fewestFor_b2 C gI (fun t9 e => ?_) (fun t9 e => ?_) hf
  · have h := el_l (gE _ e)
    refine g_iload_n C.c dX3_fewestFor_37 rfl (i := 3) rfl ?_
    obtain rfl := Option.some.inj h
    exact g_iret C hQ dX3_fewestFor_38 rfl ⟨rfl, rfl⟩
  · have h := el_r (gE _ e)
    refine g_iload_n C.c dX3_fewestFor_45 rfl (i := 2) rfl ?_
    obtain rfl := Option.some.inj h
    exact g_iret C hQ dX3_fewestFor_46 rfl ⟨rfl, rfl⟩
def fX3_fewestFor (a0 : Int32) (a1 : Int32) (σ : Sg) : Option (Int32 × Sg) := fX3_fewestFor_b0 a0 a1 σ
theorem ct_X3_fewestFor {a0 : Int32} {a1 : Int32} {σ : Sg} {p : Int32 × Sg} (h : fX3_fewestFor a0 a1 σ = some p) : Ct layC yX3_fewestFor cX3_fewestFor 4 (some .int) 2 (fun ad => [.ref (ad 58), .int a0, .int a1]) σ (okI p) :=
 ct_of (L0 := fun ad => [some (.ref (ad 58)), some (.int a0), some (.int a1), none]) (by decide) (fun _ => Nat.le_of_ble_eq_true rfl) (fun _ => rfl) (fun K C hQ => g_mask [true, true, true, false] rfl (bX3_fewestFor_b0 C hQ h))
-- X3_tugsFor
theorem dX3_tugsFor_0 : decode cX3_tugsFor 0 = .ok (.iload_n 2, 1) := by decide +kernel
theorem dX3_tugsFor_1 : decode cX3_tugsFor 1 = .ok (.istore_n 3, 1) := by decide +kernel
theorem dX3_tugsFor_2 : decode cX3_tugsFor 2 = .ok (.iconst 0, 1) := by decide +kernel
theorem dX3_tugsFor_3 : decode cX3_tugsFor 3 = .ok (.istore 4, 2) := by decide +kernel
theorem dX3_tugsFor_5 : decode cX3_tugsFor 5 = .ok (.iload 4, 2) := by decide +kernel
theorem dX3_tugsFor_7 : decode cX3_tugsFor 7 = .ok (.iload_n 1, 1) := by decide +kernel
theorem dX3_tugsFor_8 : decode cX3_tugsFor 8 = .ok (.if_icmp .ge 19, 3) := by decide +kernel
theorem dX3_tugsFor_11 : decode cX3_tugsFor 11 = .ok (.iload_n 3, 1) := by decide +kernel
theorem dX3_tugsFor_12 : decode cX3_tugsFor 12 = .ok (.aload_n 0, 1) := by decide +kernel
theorem dX3_tugsFor_13 : decode cX3_tugsFor 13 = .ok (.iload 4, 2) := by decide +kernel
theorem dX3_tugsFor_15 : decode cX3_tugsFor 15 = .ok (.iload_n 3, 1) := by decide +kernel
theorem dX3_tugsFor_16 : decode cX3_tugsFor 16 = .ok (.invokevirtual 38, 3) := by decide +kernel
theorem dX3_tugsFor_19 : decode cX3_tugsFor 19 = .ok (.isub, 1) := by decide +kernel
theorem dX3_tugsFor_20 : decode cX3_tugsFor 20 = .ok (.istore_n 3, 1) := by decide +kernel
theorem dX3_tugsFor_21 : decode cX3_tugsFor 21 = .ok (.iinc 4 1, 3) := by decide +kernel
theorem dX3_tugsFor_24 : decode cX3_tugsFor 24 = .ok (.goto (-19), 3) := by decide +kernel
theorem dX3_tugsFor_27 : decode cX3_tugsFor 27 = .ok (.aload_n 0, 1) := by decide +kernel
theorem dX3_tugsFor_28 : decode cX3_tugsFor 28 = .ok (.iload_n 1, 1) := by decide +kernel
theorem dX3_tugsFor_29 : decode cX3_tugsFor 29 = .ok (.iload_n 3, 1) := by decide +kernel
theorem dX3_tugsFor_30 : decode cX3_tugsFor 30 = .ok (.invokevirtual 38, 3) := by decide +kernel
theorem dX3_tugsFor_33 : decode cX3_tugsFor 33 = .ok (.ireturn, 1) := by decide +kernel
theorem cw_X3_tugsFor : Cw yX3_tugsFor cX3_tugsFor 5 (some .int) 2 := ⟨aw_664, aw_54, ⟨by decide, by decide⟩, by decide +kernel, by decide⟩
theorem kc_3_38 {K : KT} {cc : ByteArray} {nL d pc : Nat} {ret : Option FieldType} {L : List (Option Value)} {st : List Value} {σ : Sg} (C : Cx K layC cc RX3 nL d ret)  {a0 : Int32} {a1 : Int32}  {p : Int32 × Sg} (hd : decode cc pc = .ok (.invokevirtual 38, 3)) (e : fX3_fewestFor a0 a1 σ = some p) (hdd : 2 + 1 ≤ d) (hLn : L.length = nL) (hr : (st.map fun v => v.category).sum ≤ 8) (k : G K (pc + 3) L (.int p.1 :: st) (Wd K layC p.2)) : G K pc L (.int a1 :: .int a0 :: .ref (kad K 58) :: st) (Wd K layC σ) :=
  g_callV C (As := [.int a0, .int a1]) (rest := st) (o := 58) (ci := 3) hd (ct_X3_fewestFor e) cw_X3_fewestFor (Or.inl aw_665) aw_667 aw_17 rfl rfl rfl hdd hLn rfl rfl hr (fun v τ q => by obtain ⟨rfl, rfl⟩ := q; exact k)
def fX3_tugsFor_b5 (x1 : Int32) (x3 : Int32) (x4 : Int32) (σ : Sg) : Option ((Int32 × Int32 × Sg) ⊕ ((Int32 × Sg))) :=
  if x1 ≤ x4 then (some (.inr (x3, σ))) else (Option.bind (fX3_fewestFor x4 x3 σ) fun p1 => (some (.inl ((x3 - p1.1), (x4 + (1 : Int32)), p1.2))))
def fX3_tugsFor_b0 (x1 : Int32) (x2 : Int32) (σ : Sg) : Option (Int32 × Sg) :=
  Option.bind (lp (fun s => fX3_tugsFor_b5 x1 s.1 s.2.1 s.2.2) FU (x2, (0 : Int32), σ)) fun t3 => Option.bind (fX3_fewestFor x1 t3.1 t3.2) fun p5 => (some (p5.1, p5.2))
set_option maxRecDepth 4000 in
theorem bX3_tugsFor_b5 {K : KT} {x1 : Int32} {x3 : Int32} {x4 : Int32} {σ : Sg} {o : (Int32 × Int32 × Sg) ⊕ ((Int32 × Sg))} (C : Cx K layC cX3_tugsFor RX3 5 (3) (some .int))  (hI : ∀ s' : Int32 × Int32 × Sg, o = .inl s' → G K 5 [some (.ref (kad K 58)), some (.int x1), none, some (.int s'.1), some (.int s'.2.1)] [] (Wd K layC s'.2.2)) (hE0 : ∀ t : Int32 × Sg, o = .inr t → G K 27 [some (.ref (kad K 58)), some (.int x1), none, some (.int t.1), none] [] (Wd K layC t.2)) (h : fX3_tugsFor_b5 x1 x3 x4 σ = some o) : G K 5 [some (.ref (kad K 58)), some (.int x1), none, some (.int x3), some (.int x4)] [] (Wd K layC σ) := by
  unfold fX3_tugsFor_b5 at h
  refine g_iload C.c dX3_tugsFor_5 (i := 4) rfl ?_
  refine g_iload_n C.c dX3_tugsFor_7 rfl (i := 1) rfl ?_
  refine g_icmp_ge C.c (tgt := 27) dX3_tugsFor_8 (by decide) (fun c => ?_) (fun c => ?_)
  · replace h := ite_t c h
    have g9 := hE0 _ (Option.some.inj h).symm
    exact g_mask [true, true, false, true, false] rfl g9
  · replace h := ite_f c h
    refine g_iload_n C.c dX3_tugsFor_11 rfl (i := 3) rfl ?_
    refine g_aload_n C.c dX3_tugsFor_12 rfl (i := 0) rfl ?_
    refine g_iload C.c dX3_tugsFor_13 (i := 4) rfl ?_
    refine g_iload_n C.c dX3_tugsFor_15 rfl (i := 3) rfl ?_
    obtain ⟨p1, e2, h⟩ := Option.bind_eq_some_iff.mp h
    refine kc_3_38 C dX3_tugsFor_16 e2 (Nat.le_of_ble_eq_true rfl) rfl (Nat.le_of_ble_eq_true rfl) ?_
    refine g_isub C.c dX3_tugsFor_19 ?_
    refine g_istore_n C.c (i := 3) (L' := [some (.ref (kad K 58)), some (.int x1), none, some (.int (x3 - p1.1)), some (.int x4)]) dX3_tugsFor_20 rfl (Nat.le_of_ble_eq_true rfl) rfl ?_
    refine g_iinc C.c (i := 4) (y := (1 : Int32)) (L' := [some (.ref (kad K 58)), some (.int x1), none, some (.int (x3 - p1.1)), some (.int (x4 + (1 : Int32)))]) dX3_tugsFor_21 rfl (by decide) (Nat.le_of_ble_eq_true rfl) rfl ?_
    refine g_goto C.c (tgt := 5) dX3_tugsFor_24 (by decide) ?_
    have g9 := hI _ (Option.some.inj h).symm
    exact g_mask [true, true, false, true, true] rfl g9
set_option maxRecDepth 4000 in
theorem bX3_tugsFor_b0 {K : KT} {x1 : Int32} {x2 : Int32} {σ : Sg} {o : Int32 × Sg} (C : Cx K layC cX3_tugsFor RX3 5 (3) (some .int))  (hQ : Rk K layC (okI o)) (h : fX3_tugsFor_b0 x1 x2 σ = some o) : G K 0 [some (.ref (kad K 58)), some (.int x1), some (.int x2), none, none] [] (Wd K layC σ) := by
  unfold fX3_tugsFor_b0 at h
  refine g_iload_n C.c dX3_tugsFor_0 rfl (i := 2) rfl ?_
  refine g_istore_n C.c (i := 3) (L' := [some (.ref (kad K 58)), some (.int x1), some (.int x2), some (.int x2), none]) dX3_tugsFor_1 rfl (Nat.le_of_ble_eq_true rfl) rfl ?_
  refine g_iconst C.c dX3_tugsFor_2 (v := (0 : Int32)) (by decide) ?_
  refine g_istore C.c (i := 4) (L' := [some (.ref (kad K 58)), some (.int x1), some (.int x2), some (.int x2), some (.int (0 : Int32))]) dX3_tugsFor_3 (Nat.le_of_ble_eq_true rfl) rfl ?_
  refine g_mask [true, true, false, true, true] rfl ?_
  refine lp_bind (Gh := fun s => G K 5 [some (.ref (kad K 58)), some (.int x1), none, some (.int s.1), some (.int s.2.1)] [] (Wd K layC s.2.2)) h (fun s o2 hf gI gE => ?_)
  refine bX3_tugsFor_b5 C gI (fun t3 e => ?_) hf
  · have h := gE _ e
    refine g_aload_n C.c dX3_tugsFor_27 rfl (i := 0) rfl ?_
    refine g_iload_n C.c dX3_tugsFor_28 rfl (i := 1) rfl ?_
    refine g_iload_n C.c dX3_tugsFor_29 rfl (i := 3) rfl ?_
    obtain ⟨p5, e6, h⟩ := Option.bind_eq_some_iff.mp h
    refine kc_3_38 C dX3_tugsFor_30 e6 (Nat.le_of_ble_eq_true rfl) rfl (Nat.le_of_ble_eq_true rfl) ?_
    obtain rfl := Option.some.inj h
    exact g_iret C hQ dX3_tugsFor_33 rfl ⟨rfl, rfl⟩
def fX3_tugsFor (a0 : Int32) (a1 : Int32) (σ : Sg) : Option (Int32 × Sg) := fX3_tugsFor_b0 a0 a1 σ
theorem ct_X3_tugsFor {a0 : Int32} {a1 : Int32} {σ : Sg} {p : Int32 × Sg} (h : fX3_tugsFor a0 a1 σ = some p) : Ct layC yX3_tugsFor cX3_tugsFor 5 (some .int) 3 (fun ad => [.ref (ad 58), .int a0, .int a1]) σ (okI p) :=
 ct_of (L0 := fun ad => [some (.ref (ad 58)), some (.int a0), some (.int a1), none, none]) (by decide) (fun _ => Nat.le_of_ble_eq_true rfl) (fun _ => rfl) (fun K C hQ => g_mask [true, true, true, false, false] rfl (bX3_tugsFor_b0 C hQ h))
-- X4_add
theorem dX4_add_0 : decode cX4_add 0 = .ok (.aload_n 0, 1) := by decide +kernel
theorem dX4_add_1 : decode cX4_add 1 = .ok (.getfield 21, 3) := by decide +kernel
theorem dX4_add_4 : decode cX4_add 4 = .ok (.bipush 10, 2) := by decide +kernel
theorem dX4_add_6 : decode cX4_add 6 = .ok (.if_icmp .lt 5, 3) := by decide +kernel
theorem dX4_add_9 : decode cX4_add 9 = .ok (.iconst 0, 1) := by decide +kernel
theorem dX4_add_10 : decode cX4_add 10 = .ok (.ireturn, 1) := by decide +kernel
theorem dX4_add_11 : decode cX4_add 11 = .ok (.aload_n 0, 1) := by decide +kernel
theorem dX4_add_12 : decode cX4_add 12 = .ok (.getfield 11, 3) := by decide +kernel
theorem dX4_add_15 : decode cX4_add 15 = .ok (.aload_n 0, 1) := by decide +kernel
theorem dX4_add_16 : decode cX4_add 16 = .ok (.getfield 21, 3) := by decide +kernel
theorem dX4_add_19 : decode cX4_add 19 = .ok (.iload_n 1, 1) := by decide +kernel
theorem dX4_add_20 : decode cX4_add 20 = .ok (.iastore, 1) := by decide +kernel
theorem dX4_add_21 : decode cX4_add 21 = .ok (.aload_n 0, 1) := by decide +kernel
theorem dX4_add_22 : decode cX4_add 22 = .ok (.getfield 15, 3) := by decide +kernel
theorem dX4_add_25 : decode cX4_add 25 = .ok (.aload_n 0, 1) := by decide +kernel
theorem dX4_add_26 : decode cX4_add 26 = .ok (.getfield 21, 3) := by decide +kernel
theorem dX4_add_29 : decode cX4_add 29 = .ok (.iload_n 2, 1) := by decide +kernel
theorem dX4_add_30 : decode cX4_add 30 = .ok (.iastore, 1) := by decide +kernel
theorem dX4_add_31 : decode cX4_add 31 = .ok (.aload_n 0, 1) := by decide +kernel
theorem dX4_add_32 : decode cX4_add 32 = .ok (.getfield 18, 3) := by decide +kernel
theorem dX4_add_35 : decode cX4_add 35 = .ok (.aload_n 0, 1) := by decide +kernel
theorem dX4_add_36 : decode cX4_add 36 = .ok (.getfield 21, 3) := by decide +kernel
theorem dX4_add_39 : decode cX4_add 39 = .ok (.iload_n 3, 1) := by decide +kernel
theorem dX4_add_40 : decode cX4_add 40 = .ok (.iastore, 1) := by decide +kernel
theorem dX4_add_41 : decode cX4_add 41 = .ok (.aload_n 0, 1) := by decide +kernel
theorem dX4_add_42 : decode cX4_add 42 = .ok (.dup, 1) := by decide +kernel
theorem dX4_add_43 : decode cX4_add 43 = .ok (.getfield 21, 3) := by decide +kernel
theorem dX4_add_46 : decode cX4_add 46 = .ok (.iconst 1, 1) := by decide +kernel
theorem dX4_add_47 : decode cX4_add 47 = .ok (.iadd, 1) := by decide +kernel
theorem dX4_add_48 : decode cX4_add 48 = .ok (.putfield 21, 3) := by decide +kernel
theorem dX4_add_51 : decode cX4_add 51 = .ok (.iconst 1, 1) := by decide +kernel
theorem dX4_add_52 : decode cX4_add 52 = .ok (.ireturn, 1) := by decide +kernel
theorem cw_X4_add : Cw yX4_add cX4_add 4 (some .boolean) 3 := ⟨aw_721, aw_52, ⟨by decide, by decide⟩, by decide +kernel, by decide⟩
theorem gf_4_21 {K : KT} {cc : ByteArray} {nL d pc : Nat} {ret : Option FieldType} {L : List (Option Value)} {st : List Value} {σ : Sg} (C : Cx K layC cc RX4 nL d ret)  (hd : decode cc pc = .ok (.getfield 21, 3)) (k : G K (pc + 3) L (.int (rI σ 49 3) :: st) (Wd K layC σ)) : G K pc L (.ref (kad K 49) :: st) (Wd K layC σ) := g_get C (o := 49) (ci := 4) (k := 3) hd rfl rfl rfl (by decide) (Or.inl aw_265) inA4 rfl k
theorem gf_4_11 {K : KT} {cc : ByteArray} {nL d pc : Nat} {ret : Option FieldType} {L : List (Option Value)} {st : List Value} {σ : Sg} (C : Cx K layC cc RX4 nL d ret)  (hd : decode cc pc = .ok (.getfield 11, 3)) (k : G K (pc + 3) L (.ref (kad K 50) :: st) (Wd K layC σ)) : G K pc L (.ref (kad K 49) :: st) (Wd K layC σ) := g_get C (o := 49) (ci := 4) (k := 0) hd rfl rfl rfl (by decide) (Or.inl aw_259) inA4 rfl k
theorem gf_4_15 {K : KT} {cc : ByteArray} {nL d pc : Nat} {ret : Option FieldType} {L : List (Option Value)} {st : List Value} {σ : Sg} (C : Cx K layC cc RX4 nL d ret)  (hd : decode cc pc = .ok (.getfield 15, 3)) (k : G K (pc + 3) L (.ref (kad K 51) :: st) (Wd K layC σ)) : G K pc L (.ref (kad K 49) :: st) (Wd K layC σ) := g_get C (o := 49) (ci := 4) (k := 1) hd rfl rfl rfl (by decide) (Or.inl aw_261) inA4 rfl k
theorem gf_4_18 {K : KT} {cc : ByteArray} {nL d pc : Nat} {ret : Option FieldType} {L : List (Option Value)} {st : List Value} {σ : Sg} (C : Cx K layC cc RX4 nL d ret)  (hd : decode cc pc = .ok (.getfield 18, 3)) (k : G K (pc + 3) L (.ref (kad K 52) :: st) (Wd K layC σ)) : G K pc L (.ref (kad K 49) :: st) (Wd K layC σ) := g_get C (o := 49) (ci := 4) (k := 2) hd rfl rfl rfl (by decide) (Or.inl aw_263) inA4 rfl k
theorem pf_4_21 {K : KT} {cc : ByteArray} {nL d pc : Nat} {ret : Option FieldType} {L : List (Option Value)} {st : List Value} {σ : Sg} (C : Cx K layC cc RX4 nL d ret)  {v : Int32}  (hd : decode cc pc = .ok (.putfield 21, 3)) (k : G K (pc + 3) L st (Wd K layC (wI σ 49 3 v))) : G K pc L (.int v :: .ref (kad K 49) :: st) (Wd K layC σ) := g_putI C (o := 49) (ci := 4) (k := 3) hd rfl rfl rfl (by decide) (Or.inl aw_265) inA4 tyX4_ok nmX4 rfl rfl rfl k
def fX4_add_b0 (x1 : Int32) (x2 : Int32) (x3 : Int32) (σ : Sg) : Option (Int32 × Sg) :=
  if (rI σ 49 3) < (10 : Int32) then (if inb (rI σ 49 3) 10 = true then (if inb (rI (wI σ 50 ((rI σ 49 3)).toNatClampNeg x1) 49 3) 10 = true then (if inb (rI (wI (wI σ 50 ((rI σ 49 3)).toNatClampNeg x1) 51 ((rI (wI σ 50 ((rI σ 49 3)).toNatClampNeg x1) 49 3)).toNatClampNeg x2) 49 3) 10 = true then (some ((1 : Int32), (wI (wI (wI (wI σ 50 ((rI σ 49 3)).toNatClampNeg x1) 51 ((rI (wI σ 50 ((rI σ 49 3)).toNatClampNeg x1) 49 3)).toNatClampNeg x2) 52 ((rI (wI (wI σ 50 ((rI σ 49 3)).toNatClampNeg x1) 51 ((rI (wI σ 50 ((rI σ 49 3)).toNatClampNeg x1) 49 3)).toNatClampNeg x2) 49 3)).toNatClampNeg x3) 49 3 ((rI (wI (wI (wI σ 50 ((rI σ 49 3)).toNatClampNeg x1) 51 ((rI (wI σ 50 ((rI σ 49 3)).toNatClampNeg x1) 49 3)).toNatClampNeg x2) 52 ((rI (wI (wI σ 50 ((rI σ 49 3)).toNatClampNeg x1) 51 ((rI (wI σ 50 ((rI σ 49 3)).toNatClampNeg x1) 49 3)).toNatClampNeg x2) 49 3)).toNatClampNeg x3) 49 3) + (1 : Int32))))) else none) else none) else none) else (some ((0 : Int32), σ))
set_option maxRecDepth 4000 in
theorem bX4_add_b0 {K : KT} {x1 : Int32} {x2 : Int32} {x3 : Int32} {σ : Sg} {o : Int32 × Sg} (C : Cx K layC cX4_add RX4 4 (1) (some .boolean))  (hQ : Rk K layC (okI o)) (h : fX4_add_b0 x1 x2 x3 σ = some o) : G K 0 [some (.ref (kad K 49)), some (.int x1), some (.int x2), some (.int x3)] [] (Wd K layC σ) := by
  unfold fX4_add_b0 at h
  refine g_aload_n C.c dX4_add_0 rfl (i := 0) rfl ?_
  refine gf_4_21 C dX4_add_1 ?_
  refine g_bipush C.c dX4_add_4 (v := (10 : Int32)) (by decide) ?_
  refine g_icmp_lt C.c (tgt := 11) dX4_add_6 (by decide) (fun c => ?_) (fun c => ?_)
  · replace h := ite_t c h
    refine g_aload_n C.c dX4_add_11 rfl (i := 0) rfl ?_
    refine gf_4_11 C dX4_add_12 ?_
    refine g_aload_n C.c dX4_add_15 rfl (i := 0) rfl ?_
    refine gf_4_21 C dX4_add_16 ?_
    refine g_iload_n C.c dX4_add_19 rfl (i := 1) rfl ?_
    obtain ⟨c1, h⟩ := chk h
    refine g_iast C dX4_add_20 rfl c1 ?_
    refine g_aload_n C.c dX4_add_21 rfl (i := 0) rfl ?_
    refine gf_4_15 C dX4_add_22 ?_
    refine g_aload_n C.c dX4_add_25 rfl (i := 0) rfl ?_
    refine gf_4_21 C dX4_add_26 ?_
    refine g_iload_n C.c dX4_add_29 rfl (i := 2) rfl ?_
    obtain ⟨c2, h⟩ := chk h
    refine g_iast C dX4_add_30 rfl c2 ?_
    refine g_aload_n C.c dX4_add_31 rfl (i := 0) rfl ?_
    refine gf_4_18 C dX4_add_32 ?_
    refine g_aload_n C.c dX4_add_35 rfl (i := 0) rfl ?_
    refine gf_4_21 C dX4_add_36 ?_
    refine g_iload_n C.c dX4_add_39 rfl (i := 3) rfl ?_
    obtain ⟨c3, h⟩ := chk h
    refine g_iast C dX4_add_40 rfl c3 ?_
    refine g_aload_n C.c dX4_add_41 rfl (i := 0) rfl ?_
    refine g_dup C.c dX4_add_42 rfl ?_
    refine gf_4_21 C dX4_add_43 ?_
    refine g_iconst C.c dX4_add_46 (v := (1 : Int32)) (by decide) ?_
    refine g_iadd C.c dX4_add_47 ?_
    refine pf_4_21 C dX4_add_48 ?_
    refine g_iconst C.c dX4_add_51 (v := (1 : Int32)) (by decide) ?_
    obtain rfl := Option.some.inj h
    exact g_iret C hQ dX4_add_52 rfl ⟨rfl, rfl⟩
  · replace h := ite_f c h
    refine g_iconst C.c dX4_add_9 (v := (0 : Int32)) (by decide) ?_
    obtain rfl := Option.some.inj h
    exact g_iret C hQ dX4_add_10 rfl ⟨rfl, rfl⟩
def fX4_add (a0 : Int32) (a1 : Int32) (a2 : Int32) (σ : Sg) : Option (Int32 × Sg) := fX4_add_b0 a0 a1 a2 σ
theorem ct_X4_add {a0 : Int32} {a1 : Int32} {a2 : Int32} {σ : Sg} {p : Int32 × Sg} (h : fX4_add a0 a1 a2 σ = some p) : Ct layC yX4_add cX4_add 4 (some .boolean) 1 (fun ad => [.ref (ad 49), .int a0, .int a1, .int a2]) σ (okI p) :=
 ct_of (L0 := fun ad => [some (.ref (ad 49)), some (.int a0), some (.int a1), some (.int a2)]) (by decide) (fun _ => Nat.le_of_ble_eq_true rfl) (fun _ => rfl) (fun K C hQ => g_mask [true, true, true, true] rfl (bX4_add_b0 C hQ h))
-- X4_cutTo
theorem dX4_cutTo_0 : decode cX4_cutTo 0 = .ok (.aload_n 0, 1) := by decide +kernel
theorem dX4_cutTo_1 : decode cX4_cutTo 1 = .ok (.iconst 0, 1) := by decide +kernel
theorem dX4_cutTo_2 : decode cX4_cutTo 2 = .ok (.aload_n 0, 1) := by decide +kernel
theorem dX4_cutTo_3 : decode cX4_cutTo 3 = .ok (.getfield 21, 3) := by decide +kernel
theorem dX4_cutTo_6 : decode cX4_cutTo 6 = .ok (.iload_n 1, 1) := by decide +kernel
theorem dX4_cutTo_7 : decode cX4_cutTo 7 = .ok (.invokestatic 25, 3) := by decide +kernel
theorem dX4_cutTo_10 : decode cX4_cutTo 10 = .ok (.invokestatic 31, 3) := by decide +kernel
theorem dX4_cutTo_13 : decode cX4_cutTo 13 = .ok (.putfield 21, 3) := by decide +kernel
theorem dX4_cutTo_16 : decode cX4_cutTo 16 = .ok (.return_, 1) := by decide +kernel
theorem cw_X4_cutTo : Cw yX4_cutTo cX4_cutTo 2 none 1 := ⟨aw_472, aw_52, ⟨by decide, by decide⟩, by decide +kernel, by decide⟩
def fX4_cutTo_b0 (x1 : Int32) (σ : Sg) : Option (Sg) :=
  some (wI σ 49 3 (imax (0 : Int32) (imin (rI σ 49 3) x1)))
set_option maxRecDepth 4000 in
theorem bX4_cutTo_b0 {K : KT} {x1 : Int32} {σ : Sg} {o : Sg} (C : Cx K layC cX4_cutTo RX4 2 (1) none)  (hQ : Rk K layC (okV o)) (h : fX4_cutTo_b0 x1 σ = some o) : G K 0 [some (.ref (kad K 49)), some (.int x1)] [] (Wd K layC σ) := by
  unfold fX4_cutTo_b0 at h
  refine g_aload_n C.c dX4_cutTo_0 rfl (i := 0) rfl ?_
  refine g_iconst C.c dX4_cutTo_1 (v := (0 : Int32)) (by decide) ?_
  refine g_aload_n C.c dX4_cutTo_2 rfl (i := 0) rfl ?_
  refine gf_4_21 C dX4_cutTo_3 ?_
  refine g_iload_n C.c dX4_cutTo_6 rfl (i := 1) rfl ?_
  refine g_min C.c dX4_cutTo_7 aw_473 aw_474 aw_57 aw_475 rfl (Nat.le_of_ble_eq_true rfl) (Nat.le_of_ble_eq_true rfl) ?_
  refine g_max C.c dX4_cutTo_10 aw_476 aw_477 aw_57 aw_478 rfl (Nat.le_of_ble_eq_true rfl) (Nat.le_of_ble_eq_true rfl) ?_
  refine pf_4_21 C dX4_cutTo_13 ?_
  obtain rfl := Option.some.inj h
  exact g_vret C hQ dX4_cutTo_16 ⟨rfl, rfl⟩
def fX4_cutTo (a0 : Int32) (σ : Sg) : Option (Sg) := fX4_cutTo_b0 a0 σ
theorem ct_X4_cutTo {a0 : Int32} {σ : Sg} {p : Sg} (h : fX4_cutTo a0 σ = some p) : Ct layC yX4_cutTo cX4_cutTo 2 none 1 (fun ad => [.ref (ad 49), .int a0]) σ (okV p) :=
 ct_of (L0 := fun ad => [some (.ref (ad 49)), some (.int a0)]) (by decide) (fun _ => Nat.le_of_ble_eq_true rfl) (fun _ => rfl) (fun K C hQ => g_mask [true, true] rfl (bX4_cutTo_b0 C hQ h))
-- X4_counts
theorem dX4_counts_0 : decode cX4_counts 0 = .ok (.aload_n 0, 1) := by decide +kernel
theorem dX4_counts_1 : decode cX4_counts 1 = .ok (.getfield 15, 3) := by decide +kernel
theorem dX4_counts_4 : decode cX4_counts 4 = .ok (.iload_n 1, 1) := by decide +kernel
theorem dX4_counts_5 : decode cX4_counts 5 = .ok (.iaload, 1) := by decide +kernel
theorem dX4_counts_6 : decode cX4_counts 6 = .ok (.iload_n 2, 1) := by decide +kernel
theorem dX4_counts_7 : decode cX4_counts 7 = .ok (.if_icmp .ne 17, 3) := by decide +kernel
theorem dX4_counts_10 : decode cX4_counts 10 = .ok (.aload_n 0, 1) := by decide +kernel
theorem dX4_counts_11 : decode cX4_counts 11 = .ok (.getfield 18, 3) := by decide +kernel
theorem dX4_counts_14 : decode cX4_counts 14 = .ok (.iload_n 1, 1) := by decide +kernel
theorem dX4_counts_15 : decode cX4_counts 15 = .ok (.iaload, 1) := by decide +kernel
theorem dX4_counts_16 : decode cX4_counts 16 = .ok (.iload_n 3, 1) := by decide +kernel
theorem dX4_counts_17 : decode cX4_counts 17 = .ok (.if_icmp .ge 7, 3) := by decide +kernel
theorem dX4_counts_20 : decode cX4_counts 20 = .ok (.iconst 1, 1) := by decide +kernel
theorem dX4_counts_21 : decode cX4_counts 21 = .ok (.goto 4, 3) := by decide +kernel
theorem dX4_counts_24 : decode cX4_counts 24 = .ok (.iconst 0, 1) := by decide +kernel
theorem dX4_counts_25 : decode cX4_counts 25 = .ok (.ireturn, 1) := by decide +kernel
theorem cw_X4_counts : Cw yX4_counts cX4_counts 4 (some .boolean) 3 := ⟨aw_733, aw_52, ⟨by decide, by decide⟩, by decide +kernel, by decide⟩
def fX4_counts_b0 (x1 : Int32) (x2 : Int32) (x3 : Int32) (σ : Sg) : Option (Int32 × Sg) :=
  if inb x1 10 = true then (if (rI σ 51 (x1).toNatClampNeg) = x2 then (if inb x1 10 = true then (if x3 ≤ (rI σ 52 (x1).toNatClampNeg) then (some ((0 : Int32), σ)) else (some ((1 : Int32), σ))) else none) else (some ((0 : Int32), σ))) else none
set_option maxRecDepth 4000 in
theorem bX4_counts_b0 {K : KT} {x1 : Int32} {x2 : Int32} {x3 : Int32} {σ : Sg} {o : Int32 × Sg} (C : Cx K layC cX4_counts RX4 4 (1) (some .boolean))  (hQ : Rk K layC (okI o)) (h : fX4_counts_b0 x1 x2 x3 σ = some o) : G K 0 [some (.ref (kad K 49)), some (.int x1), some (.int x2), some (.int x3)] [] (Wd K layC σ) := by
  unfold fX4_counts_b0 at h
  refine g_aload_n C.c dX4_counts_0 rfl (i := 0) rfl ?_
  refine gf_4_15 C dX4_counts_1 ?_
  refine g_iload_n C.c dX4_counts_4 rfl (i := 1) rfl ?_
  obtain ⟨c1, h⟩ := chk h
  refine g_iald C dX4_counts_5 rfl c1 ?_
  refine g_iload_n C.c dX4_counts_6 rfl (i := 2) rfl ?_
  refine g_icmp_ne C.c (tgt := 24) dX4_counts_7 (by decide) (fun c => ?_) (fun c => ?_)
  · replace h := ite_f c h
    refine g_iconst C.c dX4_counts_24 (v := (0 : Int32)) (by decide) ?_
    obtain rfl := Option.some.inj h
    exact g_iret C hQ dX4_counts_25 rfl ⟨rfl, rfl⟩
  · replace h := ite_t c h
    refine g_aload_n C.c dX4_counts_10 rfl (i := 0) rfl ?_
    refine gf_4_18 C dX4_counts_11 ?_
    refine g_iload_n C.c dX4_counts_14 rfl (i := 1) rfl ?_
    obtain ⟨c2, h⟩ := chk h
    refine g_iald C dX4_counts_15 rfl c2 ?_
    refine g_iload_n C.c dX4_counts_16 rfl (i := 3) rfl ?_
    refine g_icmp_ge C.c (tgt := 24) dX4_counts_17 (by decide) (fun c => ?_) (fun c => ?_)
    · replace h := ite_t c h
      refine g_iconst C.c dX4_counts_24 (v := (0 : Int32)) (by decide) ?_
      obtain rfl := Option.some.inj h
      exact g_iret C hQ dX4_counts_25 rfl ⟨rfl, rfl⟩
    · replace h := ite_f c h
      refine g_iconst C.c dX4_counts_20 (v := (1 : Int32)) (by decide) ?_
      refine g_goto C.c (tgt := 25) dX4_counts_21 (by decide) ?_
      obtain rfl := Option.some.inj h
      exact g_iret C hQ dX4_counts_25 rfl ⟨rfl, rfl⟩
def fX4_counts (a0 : Int32) (a1 : Int32) (a2 : Int32) (σ : Sg) : Option (Int32 × Sg) := fX4_counts_b0 a0 a1 a2 σ
theorem ct_X4_counts {a0 : Int32} {a1 : Int32} {a2 : Int32} {σ : Sg} {p : Int32 × Sg} (h : fX4_counts a0 a1 a2 σ = some p) : Ct layC yX4_counts cX4_counts 4 (some .boolean) 1 (fun ad => [.ref (ad 49), .int a0, .int a1, .int a2]) σ (okI p) :=
 ct_of (L0 := fun ad => [some (.ref (ad 49)), some (.int a0), some (.int a1), some (.int a2)]) (by decide) (fun _ => Nat.le_of_ble_eq_true rfl) (fun _ => rfl) (fun K C hQ => g_mask [true, true, true, true] rfl (bX4_counts_b0 C hQ h))
-- X4_allIfFirst
theorem dX4_allIfFirst_0 : decode cX4_allIfFirst 0 = .ok (.iconst (-1), 1) := by decide +kernel
theorem dX4_allIfFirst_1 : decode cX4_allIfFirst 1 = .ok (.istore 4, 2) := by decide +kernel
theorem dX4_allIfFirst_3 : decode cX4_allIfFirst 3 = .ok (.iconst 0, 1) := by decide +kernel
theorem dX4_allIfFirst_4 : decode cX4_allIfFirst 4 = .ok (.istore 5, 2) := by decide +kernel
theorem dX4_allIfFirst_6 : decode cX4_allIfFirst 6 = .ok (.iload 5, 2) := by decide +kernel
theorem dX4_allIfFirst_8 : decode cX4_allIfFirst 8 = .ok (.aload_n 0, 1) := by decide +kernel
theorem dX4_allIfFirst_9 : decode cX4_allIfFirst 9 = .ok (.getfield 21, 3) := by decide +kernel
theorem dX4_allIfFirst_12 : decode cX4_allIfFirst 12 = .ok (.if_icmp .ge 47, 3) := by decide +kernel
theorem dX4_allIfFirst_15 : decode cX4_allIfFirst 15 = .ok (.aload_n 0, 1) := by decide +kernel
theorem dX4_allIfFirst_16 : decode cX4_allIfFirst 16 = .ok (.iload 5, 2) := by decide +kernel
theorem dX4_allIfFirst_18 : decode cX4_allIfFirst 18 = .ok (.iload_n 2, 1) := by decide +kernel
theorem dX4_allIfFirst_19 : decode cX4_allIfFirst 19 = .ok (.iload_n 3, 1) := by decide +kernel
theorem dX4_allIfFirst_20 : decode cX4_allIfFirst 20 = .ok (.invokevirtual 34, 3) := by decide +kernel
theorem dX4_allIfFirst_23 : decode cX4_allIfFirst 23 = .ok (.ifCond .eq 30, 3) := by decide +kernel
theorem dX4_allIfFirst_26 : decode cX4_allIfFirst 26 = .ok (.iload 4, 2) := by decide +kernel
theorem dX4_allIfFirst_28 : decode cX4_allIfFirst 28 = .ok (.iconst (-1), 1) := by decide +kernel
theorem dX4_allIfFirst_29 : decode cX4_allIfFirst 29 = .ok (.if_icmp .eq 20, 3) := by decide +kernel
theorem dX4_allIfFirst_32 : decode cX4_allIfFirst 32 = .ok (.aload_n 0, 1) := by decide +kernel
theorem dX4_allIfFirst_33 : decode cX4_allIfFirst 33 = .ok (.getfield 18, 3) := by decide +kernel
theorem dX4_allIfFirst_36 : decode cX4_allIfFirst 36 = .ok (.iload 5, 2) := by decide +kernel
theorem dX4_allIfFirst_38 : decode cX4_allIfFirst 38 = .ok (.iaload, 1) := by decide +kernel
theorem dX4_allIfFirst_39 : decode cX4_allIfFirst 39 = .ok (.aload_n 0, 1) := by decide +kernel
theorem dX4_allIfFirst_40 : decode cX4_allIfFirst 40 = .ok (.getfield 18, 3) := by decide +kernel
theorem dX4_allIfFirst_43 : decode cX4_allIfFirst 43 = .ok (.iload 4, 2) := by decide +kernel
theorem dX4_allIfFirst_45 : decode cX4_allIfFirst 45 = .ok (.iaload, 1) := by decide +kernel
theorem dX4_allIfFirst_46 : decode cX4_allIfFirst 46 = .ok (.if_icmp .ge 7, 3) := by decide +kernel
theorem dX4_allIfFirst_49 : decode cX4_allIfFirst 49 = .ok (.iload 5, 2) := by decide +kernel
theorem dX4_allIfFirst_51 : decode cX4_allIfFirst 51 = .ok (.istore 4, 2) := by decide +kernel
theorem dX4_allIfFirst_53 : decode cX4_allIfFirst 53 = .ok (.iinc 5 1, 3) := by decide +kernel
theorem dX4_allIfFirst_56 : decode cX4_allIfFirst 56 = .ok (.goto (-50), 3) := by decide +kernel
theorem dX4_allIfFirst_59 : decode cX4_allIfFirst 59 = .ok (.iload 4, 2) := by decide +kernel
theorem dX4_allIfFirst_61 : decode cX4_allIfFirst 61 = .ok (.iconst (-1), 1) := by decide +kernel
theorem dX4_allIfFirst_62 : decode cX4_allIfFirst 62 = .ok (.if_icmp .eq 18, 3) := by decide +kernel
theorem dX4_allIfFirst_65 : decode cX4_allIfFirst 65 = .ok (.aload_n 0, 1) := by decide +kernel
theorem dX4_allIfFirst_66 : decode cX4_allIfFirst 66 = .ok (.getfield 11, 3) := by decide +kernel
theorem dX4_allIfFirst_69 : decode cX4_allIfFirst 69 = .ok (.iload 4, 2) := by decide +kernel
theorem dX4_allIfFirst_71 : decode cX4_allIfFirst 71 = .ok (.iaload, 1) := by decide +kernel
theorem dX4_allIfFirst_72 : decode cX4_allIfFirst 72 = .ok (.iload_n 1, 1) := by decide +kernel
theorem dX4_allIfFirst_73 : decode cX4_allIfFirst 73 = .ok (.if_icmp .ne 7, 3) := by decide +kernel
theorem dX4_allIfFirst_76 : decode cX4_allIfFirst 76 = .ok (.iconst 1, 1) := by decide +kernel
theorem dX4_allIfFirst_77 : decode cX4_allIfFirst 77 = .ok (.goto 4, 3) := by decide +kernel
theorem dX4_allIfFirst_80 : decode cX4_allIfFirst 80 = .ok (.iconst 0, 1) := by decide +kernel
theorem dX4_allIfFirst_81 : decode cX4_allIfFirst 81 = .ok (.ireturn, 1) := by decide +kernel
theorem cw_X4_allIfFirst : Cw yX4_allIfFirst cX4_allIfFirst 6 (some .int) 3 := ⟨aw_729, aw_52, ⟨by decide, by decide⟩, by decide +kernel, by decide⟩
theorem kc_4_34 {K : KT} {cc : ByteArray} {nL d pc : Nat} {ret : Option FieldType} {L : List (Option Value)} {st : List Value} {σ : Sg} (C : Cx K layC cc RX4 nL d ret)  {a0 : Int32} {a1 : Int32} {a2 : Int32}  {p : Int32 × Sg} (hd : decode cc pc = .ok (.invokevirtual 34, 3)) (e : fX4_counts a0 a1 a2 σ = some p) (hdd : 1 + 1 ≤ d) (hLn : L.length = nL) (hr : (st.map fun v => v.category).sum ≤ 8) (k : G K (pc + 3) L (.int p.1 :: st) (Wd K layC p.2)) : G K pc L (.int a2 :: .int a1 :: .int a0 :: .ref (kad K 49) :: st) (Wd K layC σ) :=
  g_callV C (As := [.int a0, .int a1, .int a2]) (rest := st) (o := 49) (ci := 4) hd (ct_X4_counts e) cw_X4_counts (Or.inl aw_730) aw_732 aw_20 rfl rfl rfl hdd hLn rfl rfl hr (fun v τ q => by obtain ⟨rfl, rfl⟩ := q; exact k)
def fX4_allIfFirst_b53 (x1 : Int32) (x2 : Int32) (x3 : Int32) (x4 : Int32) (x5 : Int32) (σ : Sg) : Option ((Int32 × Int32 × Sg) ⊕ ((Int32 × Sg))) :=
  some (.inl (x4, (x5 + (1 : Int32)), σ))
def fX4_allIfFirst_b49 (x1 : Int32) (x2 : Int32) (x3 : Int32) (x5 : Int32) (σ : Sg) : Option ((Int32 × Int32 × Sg) ⊕ ((Int32 × Sg))) :=
  fX4_allIfFirst_b53 x1 x2 x3 x5 x5 σ
def fX4_allIfFirst_b6 (x1 : Int32) (x2 : Int32) (x3 : Int32) (x4 : Int32) (x5 : Int32) (σ : Sg) : Option ((Int32 × Int32 × Sg) ⊕ ((Int32 × Sg))) :=
  if (rI σ 49 3) ≤ x5 then (some (.inr (x4, σ))) else (Option.bind (fX4_counts x5 x2 x3 σ) fun p1 => (if p1.1 = 0 then (fX4_allIfFirst_b53 x1 x2 x3 x4 x5 p1.2) else (if x4 = (-1 : Int32) then (fX4_allIfFirst_b49 x1 x2 x3 x5 p1.2) else (if inb x5 10 = true then (if inb x4 10 = true then (if (rI p1.2 52 (x4).toNatClampNeg) ≤ (rI p1.2 52 (x5).toNatClampNeg) then (fX4_allIfFirst_b53 x1 x2 x3 x4 x5 p1.2) else (fX4_allIfFirst_b49 x1 x2 x3 x5 p1.2)) else none) else none))))
def fX4_allIfFirst_b0 (x1 : Int32) (x2 : Int32) (x3 : Int32) (σ : Sg) : Option (Int32 × Sg) :=
  Option.bind (lp (fun s => fX4_allIfFirst_b6 x1 x2 x3 s.1 s.2.1 s.2.2) FU ((-1 : Int32), (0 : Int32), σ)) fun t5 => if t5.1 = (-1 : Int32) then (some ((0 : Int32), t5.2)) else (if inb t5.1 10 = true then (if (rI t5.2 50 (t5.1).toNatClampNeg) = x1 then (some ((1 : Int32), t5.2)) else (some ((0 : Int32), t5.2))) else none)
set_option maxRecDepth 4000 in
theorem bX4_allIfFirst_b53 {K : KT} {x1 : Int32} {x2 : Int32} {x3 : Int32} {x4 : Int32} {x5 : Int32} {σ : Sg} {o : (Int32 × Int32 × Sg) ⊕ ((Int32 × Sg))} (C : Cx K layC cX4_allIfFirst RX4 6 (2) (some .int))  (hI : ∀ s' : Int32 × Int32 × Sg, o = .inl s' → G K 6 [some (.ref (kad K 49)), some (.int x1), some (.int x2), some (.int x3), some (.int s'.1), some (.int s'.2.1)] [] (Wd K layC s'.2.2)) (hE0 : ∀ t : Int32 × Sg, o = .inr t → G K 59 [some (.ref (kad K 49)), some (.int x1), none, none, some (.int t.1), none] [] (Wd K layC t.2)) (h : fX4_allIfFirst_b53 x1 x2 x3 x4 x5 σ = some o) : G K 53 [some (.ref (kad K 49)), some (.int x1), some (.int x2), some (.int x3), some (.int x4), some (.int x5)] [] (Wd K layC σ) := by
  unfold fX4_allIfFirst_b53 at h
  refine g_iinc C.c (i := 5) (y := (1 : Int32)) (L' := [some (.ref (kad K 49)), some (.int x1), some (.int x2), some (.int x3), some (.int x4), some (.int (x5 + (1 : Int32)))]) dX4_allIfFirst_53 rfl (by decide) (Nat.le_of_ble_eq_true rfl) rfl ?_
  refine g_goto C.c (tgt := 6) dX4_allIfFirst_56 (by decide) ?_
  have g9 := hI _ (Option.some.inj h).symm
  exact g_mask [true, true, true, true, true, true] rfl g9
set_option maxRecDepth 4000 in
theorem bX4_allIfFirst_b49 {K : KT} {x1 : Int32} {x2 : Int32} {x3 : Int32} {x5 : Int32} {σ : Sg} {o : (Int32 × Int32 × Sg) ⊕ ((Int32 × Sg))} (C : Cx K layC cX4_allIfFirst RX4 6 (2) (some .int))  (hI : ∀ s' : Int32 × Int32 × Sg, o = .inl s' → G K 6 [some (.ref (kad K 49)), some (.int x1), some (.int x2), some (.int x3), some (.int s'.1), some (.int s'.2.1)] [] (Wd K layC s'.2.2)) (hE0 : ∀ t : Int32 × Sg, o = .inr t → G K 59 [some (.ref (kad K 49)), some (.int x1), none, none, some (.int t.1), none] [] (Wd K layC t.2)) (h : fX4_allIfFirst_b49 x1 x2 x3 x5 σ = some o) : G K 49 [some (.ref (kad K 49)), some (.int x1), some (.int x2), some (.int x3), none, some (.int x5)] [] (Wd K layC σ) := by
  unfold fX4_allIfFirst_b49 at h
  refine g_iload C.c dX4_allIfFirst_49 (i := 5) rfl ?_
  refine g_istore C.c (i := 4) (L' := [some (.ref (kad K 49)), some (.int x1), some (.int x2), some (.int x3), some (.int x5), some (.int x5)]) dX4_allIfFirst_51 (Nat.le_of_ble_eq_true rfl) rfl ?_
  exact g_mask [true, true, true, true, true, true] rfl (bX4_allIfFirst_b53 C hI hE0 h)
set_option maxRecDepth 4000 in
theorem bX4_allIfFirst_b6 {K : KT} {x1 : Int32} {x2 : Int32} {x3 : Int32} {x4 : Int32} {x5 : Int32} {σ : Sg} {o : (Int32 × Int32 × Sg) ⊕ ((Int32 × Sg))} (C : Cx K layC cX4_allIfFirst RX4 6 (2) (some .int))  (hI : ∀ s' : Int32 × Int32 × Sg, o = .inl s' → G K 6 [some (.ref (kad K 49)), some (.int x1), some (.int x2), some (.int x3), some (.int s'.1), some (.int s'.2.1)] [] (Wd K layC s'.2.2)) (hE0 : ∀ t : Int32 × Sg, o = .inr t → G K 59 [some (.ref (kad K 49)), some (.int x1), none, none, some (.int t.1), none] [] (Wd K layC t.2)) (h : fX4_allIfFirst_b6 x1 x2 x3 x4 x5 σ = some o) : G K 6 [some (.ref (kad K 49)), some (.int x1), some (.int x2), some (.int x3), some (.int x4), some (.int x5)] [] (Wd K layC σ) := by
  unfold fX4_allIfFirst_b6 at h
  refine g_iload C.c dX4_allIfFirst_6 (i := 5) rfl ?_
  refine g_aload_n C.c dX4_allIfFirst_8 rfl (i := 0) rfl ?_
  refine gf_4_21 C dX4_allIfFirst_9 ?_
  refine g_icmp_ge C.c (tgt := 59) dX4_allIfFirst_12 (by decide) (fun c => ?_) (fun c => ?_)
  · replace h := ite_t c h
    have g9 := hE0 _ (Option.some.inj h).symm
    exact g_mask [true, true, false, false, true, false] rfl g9
  · replace h := ite_f c h
    refine g_aload_n C.c dX4_allIfFirst_15 rfl (i := 0) rfl ?_
    refine g_iload C.c dX4_allIfFirst_16 (i := 5) rfl ?_
    refine g_iload_n C.c dX4_allIfFirst_18 rfl (i := 2) rfl ?_
    refine g_iload_n C.c dX4_allIfFirst_19 rfl (i := 3) rfl ?_
    obtain ⟨p1, e2, h⟩ := Option.bind_eq_some_iff.mp h
    refine kc_4_34 C dX4_allIfFirst_20 e2 (Nat.le_of_ble_eq_true rfl) rfl (Nat.le_of_ble_eq_true rfl) ?_
    refine g_if_eq C.c (tgt := 53) dX4_allIfFirst_23 (by decide) (fun c => ?_) (fun c => ?_)
    · replace h := ite_t c h
      exact g_mask [true, true, true, true, true, true] rfl (bX4_allIfFirst_b53 C hI hE0 h)
    · replace h := ite_f c h
      refine g_iload C.c dX4_allIfFirst_26 (i := 4) rfl ?_
      refine g_iconst C.c dX4_allIfFirst_28 (v := (-1 : Int32)) (by decide) ?_
      refine g_icmp_eq C.c (tgt := 49) dX4_allIfFirst_29 (by decide) (fun c => ?_) (fun c => ?_)
      · replace h := ite_t c h
        exact g_mask [true, true, true, true, false, true] rfl (bX4_allIfFirst_b49 C hI hE0 h)
      · replace h := ite_f c h
        refine g_aload_n C.c dX4_allIfFirst_32 rfl (i := 0) rfl ?_
        refine gf_4_18 C dX4_allIfFirst_33 ?_
        refine g_iload C.c dX4_allIfFirst_36 (i := 5) rfl ?_
        obtain ⟨c3, h⟩ := chk h
        refine g_iald C dX4_allIfFirst_38 rfl c3 ?_
        refine g_aload_n C.c dX4_allIfFirst_39 rfl (i := 0) rfl ?_
        refine gf_4_18 C dX4_allIfFirst_40 ?_
        refine g_iload C.c dX4_allIfFirst_43 (i := 4) rfl ?_
        obtain ⟨c4, h⟩ := chk h
        refine g_iald C dX4_allIfFirst_45 rfl c4 ?_
        refine g_icmp_ge C.c (tgt := 53) dX4_allIfFirst_46 (by decide) (fun c => ?_) (fun c => ?_)
        · replace h := ite_t c h
          exact g_mask [true, true, true, true, true, true] rfl (bX4_allIfFirst_b53 C hI hE0 h)
        · replace h := ite_f c h
          exact g_mask [true, true, true, true, false, true] rfl (bX4_allIfFirst_b49 C hI hE0 h)
set_option maxRecDepth 4000 in
theorem bX4_allIfFirst_b0 {K : KT} {x1 : Int32} {x2 : Int32} {x3 : Int32} {σ : Sg} {o : Int32 × Sg} (C : Cx K layC cX4_allIfFirst RX4 6 (2) (some .int))  (hQ : Rk K layC (okI o)) (h : fX4_allIfFirst_b0 x1 x2 x3 σ = some o) : G K 0 [some (.ref (kad K 49)), some (.int x1), some (.int x2), some (.int x3), none, none] [] (Wd K layC σ) := by
  unfold fX4_allIfFirst_b0 at h
  refine g_iconst C.c dX4_allIfFirst_0 (v := (-1 : Int32)) (by decide) ?_
  refine g_istore C.c (i := 4) (L' := [some (.ref (kad K 49)), some (.int x1), some (.int x2), some (.int x3), some (.int (-1 : Int32)), none]) dX4_allIfFirst_1 (Nat.le_of_ble_eq_true rfl) rfl ?_
  refine g_iconst C.c dX4_allIfFirst_3 (v := (0 : Int32)) (by decide) ?_
  refine g_istore C.c (i := 5) (L' := [some (.ref (kad K 49)), some (.int x1), some (.int x2), some (.int x3), some (.int (-1 : Int32)), some (.int (0 : Int32))]) dX4_allIfFirst_4 (Nat.le_of_ble_eq_true rfl) rfl ?_
  refine g_mask [true, true, true, true, true, true] rfl ?_
  refine lp_bind (Gh := fun s => G K 6 [some (.ref (kad K 49)), some (.int x1), some (.int x2), some (.int x3), some (.int s.1), some (.int s.2.1)] [] (Wd K layC s.2.2)) h (fun s o2 hf gI gE => ?_)
  refine bX4_allIfFirst_b6 C gI (fun t5 e => ?_) hf
  · have h := gE _ e
    refine g_iload C.c dX4_allIfFirst_59 (i := 4) rfl ?_
    refine g_iconst C.c dX4_allIfFirst_61 (v := (-1 : Int32)) (by decide) ?_
    refine g_icmp_eq C.c (tgt := 80) dX4_allIfFirst_62 (by decide) (fun c => ?_) (fun c => ?_)
    · replace h := ite_t c h
      refine g_iconst C.c dX4_allIfFirst_80 (v := (0 : Int32)) (by decide) ?_
      obtain rfl := Option.some.inj h
      exact g_iret C hQ dX4_allIfFirst_81 rfl ⟨rfl, rfl⟩
    · replace h := ite_f c h
      refine g_aload_n C.c dX4_allIfFirst_65 rfl (i := 0) rfl ?_
      refine gf_4_11 C dX4_allIfFirst_66 ?_
      refine g_iload C.c dX4_allIfFirst_69 (i := 4) rfl ?_
      obtain ⟨c7, h⟩ := chk h
      refine g_iald C dX4_allIfFirst_71 rfl c7 ?_
      refine g_iload_n C.c dX4_allIfFirst_72 rfl (i := 1) rfl ?_
      refine g_icmp_ne C.c (tgt := 80) dX4_allIfFirst_73 (by decide) (fun c => ?_) (fun c => ?_)
      · replace h := ite_f c h
        refine g_iconst C.c dX4_allIfFirst_80 (v := (0 : Int32)) (by decide) ?_
        obtain rfl := Option.some.inj h
        exact g_iret C hQ dX4_allIfFirst_81 rfl ⟨rfl, rfl⟩
      · replace h := ite_t c h
        refine g_iconst C.c dX4_allIfFirst_76 (v := (1 : Int32)) (by decide) ?_
        refine g_goto C.c (tgt := 81) dX4_allIfFirst_77 (by decide) ?_
        obtain rfl := Option.some.inj h
        exact g_iret C hQ dX4_allIfFirst_81 rfl ⟨rfl, rfl⟩
def fX4_allIfFirst (a0 : Int32) (a1 : Int32) (a2 : Int32) (σ : Sg) : Option (Int32 × Sg) := fX4_allIfFirst_b0 a0 a1 a2 σ
theorem ct_X4_allIfFirst {a0 : Int32} {a1 : Int32} {a2 : Int32} {σ : Sg} {p : Int32 × Sg} (h : fX4_allIfFirst a0 a1 a2 σ = some p) : Ct layC yX4_allIfFirst cX4_allIfFirst 6 (some .int) 2 (fun ad => [.ref (ad 49), .int a0, .int a1, .int a2]) σ (okI p) :=
 ct_of (L0 := fun ad => [some (.ref (ad 49)), some (.int a0), some (.int a1), some (.int a2), none, none]) (by decide) (fun _ => Nat.le_of_ble_eq_true rfl) (fun _ => rfl) (fun K C hQ => g_mask [true, true, true, true, false, false] rfl (bX4_allIfFirst_b0 C hQ h))
-- X4_sharesOf
theorem dX4_sharesOf_0 : decode cX4_sharesOf 0 = .ok (.iconst 0, 1) := by decide +kernel
theorem dX4_sharesOf_1 : decode cX4_sharesOf 1 = .ok (.istore 5, 2) := by decide +kernel
theorem dX4_sharesOf_3 : decode cX4_sharesOf 3 = .ok (.iconst 0, 1) := by decide +kernel
theorem dX4_sharesOf_4 : decode cX4_sharesOf 4 = .ok (.istore 6, 2) := by decide +kernel
theorem dX4_sharesOf_6 : decode cX4_sharesOf 6 = .ok (.iload 6, 2) := by decide +kernel
theorem dX4_sharesOf_8 : decode cX4_sharesOf 8 = .ok (.aload_n 0, 1) := by decide +kernel
theorem dX4_sharesOf_9 : decode cX4_sharesOf 9 = .ok (.getfield 21, 3) := by decide +kernel
theorem dX4_sharesOf_12 : decode cX4_sharesOf 12 = .ok (.if_icmp .ge 54, 3) := by decide +kernel
theorem dX4_sharesOf_15 : decode cX4_sharesOf 15 = .ok (.aload_n 0, 1) := by decide +kernel
theorem dX4_sharesOf_16 : decode cX4_sharesOf 16 = .ok (.getfield 11, 3) := by decide +kernel
theorem dX4_sharesOf_19 : decode cX4_sharesOf 19 = .ok (.iload 6, 2) := by decide +kernel
theorem dX4_sharesOf_21 : decode cX4_sharesOf 21 = .ok (.iaload, 1) := by decide +kernel
theorem dX4_sharesOf_22 : decode cX4_sharesOf 22 = .ok (.iload_n 1, 1) := by decide +kernel
theorem dX4_sharesOf_23 : decode cX4_sharesOf 23 = .ok (.if_icmp .ne 37, 3) := by decide +kernel
theorem dX4_sharesOf_26 : decode cX4_sharesOf 26 = .ok (.aload_n 0, 1) := by decide +kernel
theorem dX4_sharesOf_27 : decode cX4_sharesOf 27 = .ok (.iload 6, 2) := by decide +kernel
theorem dX4_sharesOf_29 : decode cX4_sharesOf 29 = .ok (.iload_n 2, 1) := by decide +kernel
theorem dX4_sharesOf_30 : decode cX4_sharesOf 30 = .ok (.iload_n 3, 1) := by decide +kernel
theorem dX4_sharesOf_31 : decode cX4_sharesOf 31 = .ok (.invokevirtual 34, 3) := by decide +kernel
theorem dX4_sharesOf_34 : decode cX4_sharesOf 34 = .ok (.ifCond .eq 26, 3) := by decide +kernel
theorem dX4_sharesOf_37 : decode cX4_sharesOf 37 = .ok (.iload 5, 2) := by decide +kernel
theorem dX4_sharesOf_39 : decode cX4_sharesOf 39 = .ok (.iload 4, 2) := by decide +kernel
theorem dX4_sharesOf_41 : decode cX4_sharesOf 41 = .ok (.ifCond .eq 15, 3) := by decide +kernel
theorem dX4_sharesOf_44 : decode cX4_sharesOf 44 = .ok (.iload_n 3, 1) := by decide +kernel
theorem dX4_sharesOf_45 : decode cX4_sharesOf 45 = .ok (.aload_n 0, 1) := by decide +kernel
theorem dX4_sharesOf_46 : decode cX4_sharesOf 46 = .ok (.getfield 18, 3) := by decide +kernel
theorem dX4_sharesOf_49 : decode cX4_sharesOf 49 = .ok (.iload 6, 2) := by decide +kernel
theorem dX4_sharesOf_51 : decode cX4_sharesOf 51 = .ok (.iaload, 1) := by decide +kernel
theorem dX4_sharesOf_52 : decode cX4_sharesOf 52 = .ok (.isub, 1) := by decide +kernel
theorem dX4_sharesOf_53 : decode cX4_sharesOf 53 = .ok (.goto 4, 3) := by decide +kernel
theorem dX4_sharesOf_56 : decode cX4_sharesOf 56 = .ok (.iconst 1, 1) := by decide +kernel
theorem dX4_sharesOf_57 : decode cX4_sharesOf 57 = .ok (.iadd, 1) := by decide +kernel
theorem dX4_sharesOf_58 : decode cX4_sharesOf 58 = .ok (.istore 5, 2) := by decide +kernel
theorem dX4_sharesOf_60 : decode cX4_sharesOf 60 = .ok (.iinc 6 1, 3) := by decide +kernel
theorem dX4_sharesOf_63 : decode cX4_sharesOf 63 = .ok (.goto (-57), 3) := by decide +kernel
theorem dX4_sharesOf_66 : decode cX4_sharesOf 66 = .ok (.iload 5, 2) := by decide +kernel
theorem dX4_sharesOf_68 : decode cX4_sharesOf 68 = .ok (.ireturn, 1) := by decide +kernel
theorem cw_X4_sharesOf : Cw yX4_sharesOf cX4_sharesOf 7 (some .int) 4 := ⟨aw_737, aw_52, ⟨by decide, by decide⟩, by decide +kernel, by decide⟩
def fX4_sharesOf_b60 (x1 : Int32) (x2 : Int32) (x3 : Int32) (x4 : Int32) (x5 : Int32) (x6 : Int32) (σ : Sg) : Option ((Int32 × Int32 × Sg) ⊕ ((Int32 × Sg))) :=
  some (.inl (x5, (x6 + (1 : Int32)), σ))
def fX4_sharesOf_b57 (x1 : Int32) (x2 : Int32) (x3 : Int32) (x4 : Int32) (x6 : Int32) (y0 : Int32) (y1 : Int32) (σ : Sg) : Option ((Int32 × Int32 × Sg) ⊕ ((Int32 × Sg))) :=
  fX4_sharesOf_b60 x1 x2 x3 x4 (y1 + y0) x6 σ
def fX4_sharesOf_b6 (x1 : Int32) (x2 : Int32) (x3 : Int32) (x4 : Int32) (x5 : Int32) (x6 : Int32) (σ : Sg) : Option ((Int32 × Int32 × Sg) ⊕ ((Int32 × Sg))) :=
  if (rI σ 49 3) ≤ x6 then (some (.inr (x5, σ))) else (if inb x6 10 = true then (if (rI σ 50 (x6).toNatClampNeg) = x1 then (Option.bind (fX4_counts x6 x2 x3 σ) fun p2 => (if p2.1 = 0 then (fX4_sharesOf_b60 x1 x2 x3 x4 x5 x6 p2.2) else (if x4 = 0 then (fX4_sharesOf_b57 x1 x2 x3 x4 x6 (1 : Int32) x5 p2.2) else (if inb x6 10 = true then (fX4_sharesOf_b57 x1 x2 x3 x4 x6 (x3 - (rI p2.2 52 (x6).toNatClampNeg)) x5 p2.2) else none)))) else (fX4_sharesOf_b60 x1 x2 x3 x4 x5 x6 σ)) else none)
def fX4_sharesOf_b0 (x1 : Int32) (x2 : Int32) (x3 : Int32) (x4 : Int32) (σ : Sg) : Option (Int32 × Sg) :=
  Option.bind (lp (fun s => fX4_sharesOf_b6 x1 x2 x3 x4 s.1 s.2.1 s.2.2) FU ((0 : Int32), (0 : Int32), σ)) fun t5 => some (t5.1, t5.2)
set_option maxRecDepth 4000 in
theorem bX4_sharesOf_b60 {K : KT} {x1 : Int32} {x2 : Int32} {x3 : Int32} {x4 : Int32} {x5 : Int32} {x6 : Int32} {σ : Sg} {o : (Int32 × Int32 × Sg) ⊕ ((Int32 × Sg))} (C : Cx K layC cX4_sharesOf RX4 7 (2) (some .int))  (hI : ∀ s' : Int32 × Int32 × Sg, o = .inl s' → G K 6 [some (.ref (kad K 49)), some (.int x1), some (.int x2), some (.int x3), some (.int x4), some (.int s'.1), some (.int s'.2.1)] [] (Wd K layC s'.2.2)) (hE0 : ∀ t : Int32 × Sg, o = .inr t → G K 66 [none, none, none, none, none, some (.int t.1), none] [] (Wd K layC t.2)) (h : fX4_sharesOf_b60 x1 x2 x3 x4 x5 x6 σ = some o) : G K 60 [some (.ref (kad K 49)), some (.int x1), some (.int x2), some (.int x3), some (.int x4), some (.int x5), some (.int x6)] [] (Wd K layC σ) := by
  unfold fX4_sharesOf_b60 at h
  refine g_iinc C.c (i := 6) (y := (1 : Int32)) (L' := [some (.ref (kad K 49)), some (.int x1), some (.int x2), some (.int x3), some (.int x4), some (.int x5), some (.int (x6 + (1 : Int32)))]) dX4_sharesOf_60 rfl (by decide) (Nat.le_of_ble_eq_true rfl) rfl ?_
  refine g_goto C.c (tgt := 6) dX4_sharesOf_63 (by decide) ?_
  have g9 := hI _ (Option.some.inj h).symm
  exact g_mask [true, true, true, true, true, true, true] rfl g9
set_option maxRecDepth 4000 in
theorem bX4_sharesOf_b57 {K : KT} {x1 : Int32} {x2 : Int32} {x3 : Int32} {x4 : Int32} {x6 : Int32} {y0 : Int32} {y1 : Int32} {σ : Sg} {o : (Int32 × Int32 × Sg) ⊕ ((Int32 × Sg))} (C : Cx K layC cX4_sharesOf RX4 7 (2) (some .int))  (hI : ∀ s' : Int32 × Int32 × Sg, o = .inl s' → G K 6 [some (.ref (kad K 49)), some (.int x1), some (.int x2), some (.int x3), some (.int x4), some (.int s'.1), some (.int s'.2.1)] [] (Wd K layC s'.2.2)) (hE0 : ∀ t : Int32 × Sg, o = .inr t → G K 66 [none, none, none, none, none, some (.int t.1), none] [] (Wd K layC t.2)) (h : fX4_sharesOf_b57 x1 x2 x3 x4 x6 y0 y1 σ = some o) : G K 57 [some (.ref (kad K 49)), some (.int x1), some (.int x2), some (.int x3), some (.int x4), none, some (.int x6)] [.int y0, .int y1] (Wd K layC σ) := by
  unfold fX4_sharesOf_b57 at h
  refine g_iadd C.c dX4_sharesOf_57 ?_
  refine g_istore C.c (i := 5) (L' := [some (.ref (kad K 49)), some (.int x1), some (.int x2), some (.int x3), some (.int x4), some (.int (y1 + y0)), some (.int x6)]) dX4_sharesOf_58 (Nat.le_of_ble_eq_true rfl) rfl ?_
  exact g_mask [true, true, true, true, true, true, true] rfl (bX4_sharesOf_b60 C hI hE0 h)
set_option maxRecDepth 4000 in
theorem bX4_sharesOf_b6 {K : KT} {x1 : Int32} {x2 : Int32} {x3 : Int32} {x4 : Int32} {x5 : Int32} {x6 : Int32} {σ : Sg} {o : (Int32 × Int32 × Sg) ⊕ ((Int32 × Sg))} (C : Cx K layC cX4_sharesOf RX4 7 (2) (some .int))  (hI : ∀ s' : Int32 × Int32 × Sg, o = .inl s' → G K 6 [some (.ref (kad K 49)), some (.int x1), some (.int x2), some (.int x3), some (.int x4), some (.int s'.1), some (.int s'.2.1)] [] (Wd K layC s'.2.2)) (hE0 : ∀ t : Int32 × Sg, o = .inr t → G K 66 [none, none, none, none, none, some (.int t.1), none] [] (Wd K layC t.2)) (h : fX4_sharesOf_b6 x1 x2 x3 x4 x5 x6 σ = some o) : G K 6 [some (.ref (kad K 49)), some (.int x1), some (.int x2), some (.int x3), some (.int x4), some (.int x5), some (.int x6)] [] (Wd K layC σ) := by
  unfold fX4_sharesOf_b6 at h
  refine g_iload C.c dX4_sharesOf_6 (i := 6) rfl ?_
  refine g_aload_n C.c dX4_sharesOf_8 rfl (i := 0) rfl ?_
  refine gf_4_21 C dX4_sharesOf_9 ?_
  refine g_icmp_ge C.c (tgt := 66) dX4_sharesOf_12 (by decide) (fun c => ?_) (fun c => ?_)
  · replace h := ite_t c h
    have g9 := hE0 _ (Option.some.inj h).symm
    exact g_mask [false, false, false, false, false, true, false] rfl g9
  · replace h := ite_f c h
    refine g_aload_n C.c dX4_sharesOf_15 rfl (i := 0) rfl ?_
    refine gf_4_11 C dX4_sharesOf_16 ?_
    refine g_iload C.c dX4_sharesOf_19 (i := 6) rfl ?_
    obtain ⟨c1, h⟩ := chk h
    refine g_iald C dX4_sharesOf_21 rfl c1 ?_
    refine g_iload_n C.c dX4_sharesOf_22 rfl (i := 1) rfl ?_
    refine g_icmp_ne C.c (tgt := 60) dX4_sharesOf_23 (by decide) (fun c => ?_) (fun c => ?_)
    · replace h := ite_f c h
      exact g_mask [true, true, true, true, true, true, true] rfl (bX4_sharesOf_b60 C hI hE0 h)
    · replace h := ite_t c h
      refine g_aload_n C.c dX4_sharesOf_26 rfl (i := 0) rfl ?_
      refine g_iload C.c dX4_sharesOf_27 (i := 6) rfl ?_
      refine g_iload_n C.c dX4_sharesOf_29 rfl (i := 2) rfl ?_
      refine g_iload_n C.c dX4_sharesOf_30 rfl (i := 3) rfl ?_
      obtain ⟨p2, e3, h⟩ := Option.bind_eq_some_iff.mp h
      refine kc_4_34 C dX4_sharesOf_31 e3 (Nat.le_of_ble_eq_true rfl) rfl (Nat.le_of_ble_eq_true rfl) ?_
      refine g_if_eq C.c (tgt := 60) dX4_sharesOf_34 (by decide) (fun c => ?_) (fun c => ?_)
      · replace h := ite_t c h
        exact g_mask [true, true, true, true, true, true, true] rfl (bX4_sharesOf_b60 C hI hE0 h)
      · replace h := ite_f c h
        refine g_iload C.c dX4_sharesOf_37 (i := 5) rfl ?_
        refine g_iload C.c dX4_sharesOf_39 (i := 4) rfl ?_
        refine g_if_eq C.c (tgt := 56) dX4_sharesOf_41 (by decide) (fun c => ?_) (fun c => ?_)
        · replace h := ite_t c h
          refine g_iconst C.c dX4_sharesOf_56 (v := (1 : Int32)) (by decide) ?_
          exact g_mask [true, true, true, true, true, false, true] rfl (bX4_sharesOf_b57 C hI hE0 h)
        · replace h := ite_f c h
          refine g_iload_n C.c dX4_sharesOf_44 rfl (i := 3) rfl ?_
          refine g_aload_n C.c dX4_sharesOf_45 rfl (i := 0) rfl ?_
          refine gf_4_18 C dX4_sharesOf_46 ?_
          refine g_iload C.c dX4_sharesOf_49 (i := 6) rfl ?_
          obtain ⟨c4, h⟩ := chk h
          refine g_iald C dX4_sharesOf_51 rfl c4 ?_
          refine g_isub C.c dX4_sharesOf_52 ?_
          refine g_goto C.c (tgt := 57) dX4_sharesOf_53 (by decide) ?_
          exact g_mask [true, true, true, true, true, false, true] rfl (bX4_sharesOf_b57 C hI hE0 h)
set_option maxRecDepth 4000 in
theorem bX4_sharesOf_b0 {K : KT} {x1 : Int32} {x2 : Int32} {x3 : Int32} {x4 : Int32} {σ : Sg} {o : Int32 × Sg} (C : Cx K layC cX4_sharesOf RX4 7 (2) (some .int))  (hQ : Rk K layC (okI o)) (h : fX4_sharesOf_b0 x1 x2 x3 x4 σ = some o) : G K 0 [some (.ref (kad K 49)), some (.int x1), some (.int x2), some (.int x3), some (.int x4), none, none] [] (Wd K layC σ) := by
  unfold fX4_sharesOf_b0 at h
  refine g_iconst C.c dX4_sharesOf_0 (v := (0 : Int32)) (by decide) ?_
  refine g_istore C.c (i := 5) (L' := [some (.ref (kad K 49)), some (.int x1), some (.int x2), some (.int x3), some (.int x4), some (.int (0 : Int32)), none]) dX4_sharesOf_1 (Nat.le_of_ble_eq_true rfl) rfl ?_
  refine g_iconst C.c dX4_sharesOf_3 (v := (0 : Int32)) (by decide) ?_
  refine g_istore C.c (i := 6) (L' := [some (.ref (kad K 49)), some (.int x1), some (.int x2), some (.int x3), some (.int x4), some (.int (0 : Int32)), some (.int (0 : Int32))]) dX4_sharesOf_4 (Nat.le_of_ble_eq_true rfl) rfl ?_
  refine g_mask [true, true, true, true, true, true, true] rfl ?_
  refine lp_bind (Gh := fun s => G K 6 [some (.ref (kad K 49)), some (.int x1), some (.int x2), some (.int x3), some (.int x4), some (.int s.1), some (.int s.2.1)] [] (Wd K layC s.2.2)) h (fun s o2 hf gI gE => ?_)
  refine bX4_sharesOf_b6 C gI (fun t5 e => ?_) hf
  · have h := gE _ e
    refine g_iload C.c dX4_sharesOf_66 (i := 5) rfl ?_
    obtain rfl := Option.some.inj h
    exact g_iret C hQ dX4_sharesOf_68 rfl ⟨rfl, rfl⟩
def fX4_sharesOf (a0 : Int32) (a1 : Int32) (a2 : Int32) (a3 : Int32) (σ : Sg) : Option (Int32 × Sg) := fX4_sharesOf_b0 a0 a1 a2 a3 σ
theorem ct_X4_sharesOf {a0 : Int32} {a1 : Int32} {a2 : Int32} {a3 : Int32} {σ : Sg} {p : Int32 × Sg} (h : fX4_sharesOf a0 a1 a2 a3 σ = some p) : Ct layC yX4_sharesOf cX4_sharesOf 7 (some .int) 2 (fun ad => [.ref (ad 49), .int a0, .int a1, .int a2, .int a3]) σ (okI p) :=
 ct_of (L0 := fun ad => [some (.ref (ad 49)), some (.int a0), some (.int a1), some (.int a2), some (.int a3), none, none]) (by decide) (fun _ => Nat.le_of_ble_eq_true rfl) (fun _ => rfl) (fun K C hQ => g_mask [true, true, true, true, true, false, false] rfl (bX4_sharesOf_b0 C hQ h))
-- X4_sharesOfAll
theorem dX4_sharesOfAll_0 : decode cX4_sharesOfAll 0 = .ok (.iconst 0, 1) := by decide +kernel
theorem dX4_sharesOfAll_1 : decode cX4_sharesOfAll 1 = .ok (.istore 4, 2) := by decide +kernel
theorem dX4_sharesOfAll_3 : decode cX4_sharesOfAll 3 = .ok (.iconst 0, 1) := by decide +kernel
theorem dX4_sharesOfAll_4 : decode cX4_sharesOfAll 4 = .ok (.istore 5, 2) := by decide +kernel
theorem dX4_sharesOfAll_6 : decode cX4_sharesOfAll 6 = .ok (.iload 5, 2) := by decide +kernel
theorem dX4_sharesOfAll_8 : decode cX4_sharesOfAll 8 = .ok (.iconst 5, 1) := by decide +kernel
theorem dX4_sharesOfAll_9 : decode cX4_sharesOfAll 9 = .ok (.if_icmp .ge 23, 3) := by decide +kernel
theorem dX4_sharesOfAll_12 : decode cX4_sharesOfAll 12 = .ok (.iload 4, 2) := by decide +kernel
theorem dX4_sharesOfAll_14 : decode cX4_sharesOfAll 14 = .ok (.aload_n 0, 1) := by decide +kernel
theorem dX4_sharesOfAll_15 : decode cX4_sharesOfAll 15 = .ok (.iload 5, 2) := by decide +kernel
theorem dX4_sharesOfAll_17 : decode cX4_sharesOfAll 17 = .ok (.iload_n 1, 1) := by decide +kernel
theorem dX4_sharesOfAll_18 : decode cX4_sharesOfAll 18 = .ok (.iload_n 2, 1) := by decide +kernel
theorem dX4_sharesOfAll_19 : decode cX4_sharesOfAll 19 = .ok (.iload_n 3, 1) := by decide +kernel
theorem dX4_sharesOfAll_20 : decode cX4_sharesOfAll 20 = .ok (.invokevirtual 38, 3) := by decide +kernel
theorem dX4_sharesOfAll_23 : decode cX4_sharesOfAll 23 = .ok (.iadd, 1) := by decide +kernel
theorem dX4_sharesOfAll_24 : decode cX4_sharesOfAll 24 = .ok (.istore 4, 2) := by decide +kernel
theorem dX4_sharesOfAll_26 : decode cX4_sharesOfAll 26 = .ok (.iinc 5 1, 3) := by decide +kernel
theorem dX4_sharesOfAll_29 : decode cX4_sharesOfAll 29 = .ok (.goto (-23), 3) := by decide +kernel
theorem dX4_sharesOfAll_32 : decode cX4_sharesOfAll 32 = .ok (.iload 4, 2) := by decide +kernel
theorem dX4_sharesOfAll_34 : decode cX4_sharesOfAll 34 = .ok (.ireturn, 1) := by decide +kernel
theorem cw_X4_sharesOfAll : Cw yX4_sharesOfAll cX4_sharesOfAll 6 (some .int) 3 := ⟨aw_741, aw_52, ⟨by decide, by decide⟩, by decide +kernel, by decide⟩
theorem kc_4_38 {K : KT} {cc : ByteArray} {nL d pc : Nat} {ret : Option FieldType} {L : List (Option Value)} {st : List Value} {σ : Sg} (C : Cx K layC cc RX4 nL d ret)  {a0 : Int32} {a1 : Int32} {a2 : Int32} {a3 : Int32}  {p : Int32 × Sg} (hd : decode cc pc = .ok (.invokevirtual 38, 3)) (e : fX4_sharesOf a0 a1 a2 a3 σ = some p) (hdd : 2 + 1 ≤ d) (hLn : L.length = nL) (hr : (st.map fun v => v.category).sum ≤ 8) (k : G K (pc + 3) L (.int p.1 :: st) (Wd K layC p.2)) : G K pc L (.int a3 :: .int a2 :: .int a1 :: .int a0 :: .ref (kad K 49) :: st) (Wd K layC σ) :=
  g_callV C (As := [.int a0, .int a1, .int a2, .int a3]) (rest := st) (o := 49) (ci := 4) hd (ct_X4_sharesOf e) cw_X4_sharesOf (Or.inl aw_742) aw_735 aw_736 rfl rfl rfl hdd hLn rfl rfl hr (fun v τ q => by obtain ⟨rfl, rfl⟩ := q; exact k)
def fX4_sharesOfAll_b6 (x1 : Int32) (x2 : Int32) (x3 : Int32) (x4 : Int32) (x5 : Int32) (σ : Sg) : Option ((Int32 × Int32 × Sg) ⊕ ((Int32 × Sg))) :=
  if (5 : Int32) ≤ x5 then (some (.inr (x4, σ))) else (Option.bind (fX4_sharesOf x5 x1 x2 x3 σ) fun p1 => (some (.inl ((x4 + p1.1), (x5 + (1 : Int32)), p1.2))))
def fX4_sharesOfAll_b0 (x1 : Int32) (x2 : Int32) (x3 : Int32) (σ : Sg) : Option (Int32 × Sg) :=
  Option.bind (lp (fun s => fX4_sharesOfAll_b6 x1 x2 x3 s.1 s.2.1 s.2.2) FU ((0 : Int32), (0 : Int32), σ)) fun t3 => some (t3.1, t3.2)
set_option maxRecDepth 4000 in
theorem bX4_sharesOfAll_b6 {K : KT} {x1 : Int32} {x2 : Int32} {x3 : Int32} {x4 : Int32} {x5 : Int32} {σ : Sg} {o : (Int32 × Int32 × Sg) ⊕ ((Int32 × Sg))} (C : Cx K layC cX4_sharesOfAll RX4 6 (3) (some .int))  (hI : ∀ s' : Int32 × Int32 × Sg, o = .inl s' → G K 6 [some (.ref (kad K 49)), some (.int x1), some (.int x2), some (.int x3), some (.int s'.1), some (.int s'.2.1)] [] (Wd K layC s'.2.2)) (hE0 : ∀ t : Int32 × Sg, o = .inr t → G K 32 [none, none, none, none, some (.int t.1), none] [] (Wd K layC t.2)) (h : fX4_sharesOfAll_b6 x1 x2 x3 x4 x5 σ = some o) : G K 6 [some (.ref (kad K 49)), some (.int x1), some (.int x2), some (.int x3), some (.int x4), some (.int x5)] [] (Wd K layC σ) := by
  unfold fX4_sharesOfAll_b6 at h
  refine g_iload C.c dX4_sharesOfAll_6 (i := 5) rfl ?_
  refine g_iconst C.c dX4_sharesOfAll_8 (v := (5 : Int32)) (by decide) ?_
  refine g_icmp_ge C.c (tgt := 32) dX4_sharesOfAll_9 (by decide) (fun c => ?_) (fun c => ?_)
  · replace h := ite_t c h
    have g9 := hE0 _ (Option.some.inj h).symm
    exact g_mask [false, false, false, false, true, false] rfl g9
  · replace h := ite_f c h
    refine g_iload C.c dX4_sharesOfAll_12 (i := 4) rfl ?_
    refine g_aload_n C.c dX4_sharesOfAll_14 rfl (i := 0) rfl ?_
    refine g_iload C.c dX4_sharesOfAll_15 (i := 5) rfl ?_
    refine g_iload_n C.c dX4_sharesOfAll_17 rfl (i := 1) rfl ?_
    refine g_iload_n C.c dX4_sharesOfAll_18 rfl (i := 2) rfl ?_
    refine g_iload_n C.c dX4_sharesOfAll_19 rfl (i := 3) rfl ?_
    obtain ⟨p1, e2, h⟩ := Option.bind_eq_some_iff.mp h
    refine kc_4_38 C dX4_sharesOfAll_20 e2 (Nat.le_of_ble_eq_true rfl) rfl (Nat.le_of_ble_eq_true rfl) ?_
    refine g_iadd C.c dX4_sharesOfAll_23 ?_
    refine g_istore C.c (i := 4) (L' := [some (.ref (kad K 49)), some (.int x1), some (.int x2), some (.int x3), some (.int (x4 + p1.1)), some (.int x5)]) dX4_sharesOfAll_24 (Nat.le_of_ble_eq_true rfl) rfl ?_
    refine g_iinc C.c (i := 5) (y := (1 : Int32)) (L' := [some (.ref (kad K 49)), some (.int x1), some (.int x2), some (.int x3), some (.int (x4 + p1.1)), some (.int (x5 + (1 : Int32)))]) dX4_sharesOfAll_26 rfl (by decide) (Nat.le_of_ble_eq_true rfl) rfl ?_
    refine g_goto C.c (tgt := 6) dX4_sharesOfAll_29 (by decide) ?_
    have g9 := hI _ (Option.some.inj h).symm
    exact g_mask [true, true, true, true, true, true] rfl g9
set_option maxRecDepth 4000 in
theorem bX4_sharesOfAll_b0 {K : KT} {x1 : Int32} {x2 : Int32} {x3 : Int32} {σ : Sg} {o : Int32 × Sg} (C : Cx K layC cX4_sharesOfAll RX4 6 (3) (some .int))  (hQ : Rk K layC (okI o)) (h : fX4_sharesOfAll_b0 x1 x2 x3 σ = some o) : G K 0 [some (.ref (kad K 49)), some (.int x1), some (.int x2), some (.int x3), none, none] [] (Wd K layC σ) := by
  unfold fX4_sharesOfAll_b0 at h
  refine g_iconst C.c dX4_sharesOfAll_0 (v := (0 : Int32)) (by decide) ?_
  refine g_istore C.c (i := 4) (L' := [some (.ref (kad K 49)), some (.int x1), some (.int x2), some (.int x3), some (.int (0 : Int32)), none]) dX4_sharesOfAll_1 (Nat.le_of_ble_eq_true rfl) rfl ?_
  refine g_iconst C.c dX4_sharesOfAll_3 (v := (0 : Int32)) (by decide) ?_
  refine g_istore C.c (i := 5) (L' := [some (.ref (kad K 49)), some (.int x1), some (.int x2), some (.int x3), some (.int (0 : Int32)), some (.int (0 : Int32))]) dX4_sharesOfAll_4 (Nat.le_of_ble_eq_true rfl) rfl ?_
  refine g_mask [true, true, true, true, true, true] rfl ?_
  refine lp_bind (Gh := fun s => G K 6 [some (.ref (kad K 49)), some (.int x1), some (.int x2), some (.int x3), some (.int s.1), some (.int s.2.1)] [] (Wd K layC s.2.2)) h (fun s o2 hf gI gE => ?_)
  refine bX4_sharesOfAll_b6 C gI (fun t3 e => ?_) hf
  · have h := gE _ e
    refine g_iload C.c dX4_sharesOfAll_32 (i := 4) rfl ?_
    obtain rfl := Option.some.inj h
    exact g_iret C hQ dX4_sharesOfAll_34 rfl ⟨rfl, rfl⟩
def fX4_sharesOfAll (a0 : Int32) (a1 : Int32) (a2 : Int32) (σ : Sg) : Option (Int32 × Sg) := fX4_sharesOfAll_b0 a0 a1 a2 σ
theorem ct_X4_sharesOfAll {a0 : Int32} {a1 : Int32} {a2 : Int32} {σ : Sg} {p : Int32 × Sg} (h : fX4_sharesOfAll a0 a1 a2 σ = some p) : Ct layC yX4_sharesOfAll cX4_sharesOfAll 6 (some .int) 3 (fun ad => [.ref (ad 49), .int a0, .int a1, .int a2]) σ (okI p) :=
 ct_of (L0 := fun ad => [some (.ref (ad 49)), some (.int a0), some (.int a1), some (.int a2), none, none]) (by decide) (fun _ => Nat.le_of_ble_eq_true rfl) (fun _ => rfl) (fun K C hQ => g_mask [true, true, true, true, false, false] rfl (bX4_sharesOfAll_b0 C hQ h))
-- X5_letOffNow
theorem dX5_letOffNow_0 : decode cX5_letOffNow 0 = .ok (.ldc2_w 33, 3) := by decide +kernel
theorem dX5_letOffNow_3 : decode cX5_letOffNow 3 = .ok (.aload_n 0, 1) := by decide +kernel
theorem dX5_letOffNow_4 : decode cX5_letOffNow 4 = .ok (.getfield 9, 3) := by decide +kernel
theorem dX5_letOffNow_7 : decode cX5_letOffNow 7 = .ok (.iconst 0, 1) := by decide +kernel
theorem dX5_letOffNow_8 : decode cX5_letOffNow 8 = .ok (.iload_n 1, 1) := by decide +kernel
theorem dX5_letOffNow_9 : decode cX5_letOffNow 9 = .ok (.iload_n 1, 1) := by decide +kernel
theorem dX5_letOffNow_10 : decode cX5_letOffNow 10 = .ok (.iconst 5, 1) := by decide +kernel
theorem dX5_letOffNow_11 : decode cX5_letOffNow 11 = .ok (.idiv, 1) := by decide +kernel
theorem dX5_letOffNow_12 : decode cX5_letOffNow 12 = .ok (.isub, 1) := by decide +kernel
theorem dX5_letOffNow_13 : decode cX5_letOffNow 13 = .ok (.iload_n 2, 1) := by decide +kernel
theorem dX5_letOffNow_14 : decode cX5_letOffNow 14 = .ok (.isub, 1) := by decide +kernel
theorem dX5_letOffNow_15 : decode cX5_letOffNow 15 = .ok (.invokestatic 45, 3) := by decide +kernel
theorem dX5_letOffNow_18 : decode cX5_letOffNow 18 = .ok (.laload, 1) := by decide +kernel
theorem dX5_letOffNow_19 : decode cX5_letOffNow 19 = .ok (.lmul, 1) := by decide +kernel
theorem dX5_letOffNow_20 : decode cX5_letOffNow 20 = .ok (.lreturn, 1) := by decide +kernel
theorem cw_X5_letOffNow : Cw yX5_letOffNow cX5_letOffNow 3 (some .long) 2 := ⟨aw_698, aw_55, ⟨by decide, by decide⟩, by decide +kernel, by decide⟩
theorem gf_5_9 {K : KT} {cc : ByteArray} {nL d pc : Nat} {ret : Option FieldType} {L : List (Option Value)} {st : List Value} {σ : Sg} (C : Cx K layC cc RX5 nL d ret)  (hd : decode cc pc = .ok (.getfield 9, 3)) (k : G K (pc + 3) L (.ref (kad K 75) :: st) (Wd K layC σ)) : G K pc L (.ref (kad K 74) :: st) (Wd K layC σ) := g_get C (o := 74) (ci := 5) (k := 0) hd rfl rfl rfl (by decide) (Or.inl aw_335) inA5 rfl k
def fX5_letOffNow_b0 (x1 : Int32) (x2 : Int32) (σ : Sg) : Option (Int64 × Sg) :=
  if inb (imax (0 : Int32) ((x1 - (x1 / (5 : Int32))) - x2)) 1000 = true then (some (((10 : Int64) * (rJ σ 75 ((imax (0 : Int32) ((x1 - (x1 / (5 : Int32))) - x2))).toNatClampNeg)), σ)) else none
set_option maxRecDepth 4000 in
theorem bX5_letOffNow_b0 {K : KT} {x1 : Int32} {x2 : Int32} {σ : Sg} {o : Int64 × Sg} (C : Cx K layC cX5_letOffNow RX5 3 (1) (some .long))  (hQ : Rk K layC (okJ o)) (h : fX5_letOffNow_b0 x1 x2 σ = some o) : G K 0 [some (.ref (kad K 74)), some (.int x1), some (.int x2)] [] (Wd K layC σ) := by
  unfold fX5_letOffNow_b0 at h
  refine g_ldc2 C.c (v := (10 : Int64)) aw_699 dX5_letOffNow_0 ?_
  refine g_aload_n C.c dX5_letOffNow_3 rfl (i := 0) rfl ?_
  refine gf_5_9 C dX5_letOffNow_4 ?_
  refine g_iconst C.c dX5_letOffNow_7 (v := (0 : Int32)) (by decide) ?_
  refine g_iload_n C.c dX5_letOffNow_8 rfl (i := 1) rfl ?_
  refine g_iload_n C.c dX5_letOffNow_9 rfl (i := 1) rfl ?_
  refine g_iconst C.c dX5_letOffNow_10 (v := (5 : Int32)) (by decide) ?_
  refine g_idiv C.c dX5_letOffNow_11 (by decide) ?_
  refine g_isub C.c dX5_letOffNow_12 ?_
  refine g_iload_n C.c dX5_letOffNow_13 rfl (i := 2) rfl ?_
  refine g_isub C.c dX5_letOffNow_14 ?_
  refine g_max C.c dX5_letOffNow_15 aw_700 aw_477 aw_57 aw_478 rfl (Nat.le_of_ble_eq_true rfl) (Nat.le_of_ble_eq_true rfl) ?_
  obtain ⟨c1, h⟩ := chk h
  refine g_lald C dX5_letOffNow_18 rfl c1 ?_
  refine g_lmul C.c dX5_letOffNow_19 ?_
  obtain rfl := Option.some.inj h
  exact g_lret C hQ dX5_letOffNow_20 ⟨rfl, rfl⟩
def fX5_letOffNow (a0 : Int32) (a1 : Int32) (σ : Sg) : Option (Int64 × Sg) := fX5_letOffNow_b0 a0 a1 σ
theorem ct_X5_letOffNow {a0 : Int32} {a1 : Int32} {σ : Sg} {p : Int64 × Sg} (h : fX5_letOffNow a0 a1 σ = some p) : Ct layC yX5_letOffNow cX5_letOffNow 3 (some .long) 1 (fun ad => [.ref (ad 74), .int a0, .int a1]) σ (okJ p) :=
 ct_of (L0 := fun ad => [some (.ref (ad 74)), some (.int a0), some (.int a1)]) (by decide) (fun _ => Nat.le_of_ble_eq_true rfl) (fun _ => rfl) (fun K C hQ => g_mask [true, true, true] rfl (bX5_letOffNow_b0 C hQ h))
-- X5_heldNow
theorem dX5_heldNow_0 : decode cX5_heldNow 0 = .ok (.iconst 0, 1) := by decide +kernel
theorem dX5_heldNow_1 : decode cX5_heldNow 1 = .ok (.iload_n 1, 1) := by decide +kernel
theorem dX5_heldNow_2 : decode cX5_heldNow 2 = .ok (.iload_n 2, 1) := by decide +kernel
theorem dX5_heldNow_3 : decode cX5_heldNow 3 = .ok (.isub, 1) := by decide +kernel
theorem dX5_heldNow_4 : decode cX5_heldNow 4 = .ok (.invokestatic 45, 3) := by decide +kernel
theorem dX5_heldNow_7 : decode cX5_heldNow 7 = .ok (.istore 4, 2) := by decide +kernel
theorem dX5_heldNow_9 : decode cX5_heldNow 9 = .ok (.iload_n 3, 1) := by decide +kernel
theorem dX5_heldNow_10 : decode cX5_heldNow 10 = .ok (.i2l, 1) := by decide +kernel
theorem dX5_heldNow_11 : decode cX5_heldNow 11 = .ok (.aload_n 0, 1) := by decide +kernel
theorem dX5_heldNow_12 : decode cX5_heldNow 12 = .ok (.getfield 9, 3) := by decide +kernel
theorem dX5_heldNow_15 : decode cX5_heldNow 15 = .ok (.iload 4, 2) := by decide +kernel
theorem dX5_heldNow_17 : decode cX5_heldNow 17 = .ok (.iload 4, 2) := by decide +kernel
theorem dX5_heldNow_19 : decode cX5_heldNow 19 = .ok (.iconst 3, 1) := by decide +kernel
theorem dX5_heldNow_20 : decode cX5_heldNow 20 = .ok (.idiv, 1) := by decide +kernel
theorem dX5_heldNow_21 : decode cX5_heldNow 21 = .ok (.isub, 1) := by decide +kernel
theorem dX5_heldNow_22 : decode cX5_heldNow 22 = .ok (.laload, 1) := by decide +kernel
theorem dX5_heldNow_23 : decode cX5_heldNow 23 = .ok (.lmul, 1) := by decide +kernel
theorem dX5_heldNow_24 : decode cX5_heldNow 24 = .ok (.bipush 10, 2) := by decide +kernel
theorem dX5_heldNow_26 : decode cX5_heldNow 26 = .ok (.iload_n 3, 1) := by decide +kernel
theorem dX5_heldNow_27 : decode cX5_heldNow 27 = .ok (.isub, 1) := by decide +kernel
theorem dX5_heldNow_28 : decode cX5_heldNow 28 = .ok (.i2l, 1) := by decide +kernel
theorem dX5_heldNow_29 : decode cX5_heldNow 29 = .ok (.aload_n 0, 1) := by decide +kernel
theorem dX5_heldNow_30 : decode cX5_heldNow 30 = .ok (.getfield 9, 3) := by decide +kernel
theorem dX5_heldNow_33 : decode cX5_heldNow 33 = .ok (.iload 4, 2) := by decide +kernel
theorem dX5_heldNow_35 : decode cX5_heldNow 35 = .ok (.laload, 1) := by decide +kernel
theorem dX5_heldNow_36 : decode cX5_heldNow 36 = .ok (.lmul, 1) := by decide +kernel
theorem dX5_heldNow_37 : decode cX5_heldNow 37 = .ok (.ladd, 1) := by decide +kernel
theorem dX5_heldNow_38 : decode cX5_heldNow 38 = .ok (.lreturn, 1) := by decide +kernel
theorem cw_X5_heldNow : Cw yX5_heldNow cX5_heldNow 5 (some .long) 3 := ⟨aw_704, aw_55, ⟨by decide, by decide⟩, by decide +kernel, by decide⟩
def fX5_heldNow_b0 (x1 : Int32) (x2 : Int32) (x3 : Int32) (σ : Sg) : Option (Int64 × Sg) :=
  if inb ((imax (0 : Int32) (x1 - x2)) - ((imax (0 : Int32) (x1 - x2)) / (3 : Int32))) 1000 = true then (if inb (imax (0 : Int32) (x1 - x2)) 1000 = true then (some ((((x3).toInt64 * (rJ σ 75 (((imax (0 : Int32) (x1 - x2)) - ((imax (0 : Int32) (x1 - x2)) / (3 : Int32)))).toNatClampNeg)) + ((((10 : Int32) - x3)).toInt64 * (rJ σ 75 ((imax (0 : Int32) (x1 - x2))).toNatClampNeg))), σ)) else none) else none
set_option maxRecDepth 4000 in
theorem bX5_heldNow_b0 {K : KT} {x1 : Int32} {x2 : Int32} {x3 : Int32} {σ : Sg} {o : Int64 × Sg} (C : Cx K layC cX5_heldNow RX5 5 (1) (some .long))  (hQ : Rk K layC (okJ o)) (h : fX5_heldNow_b0 x1 x2 x3 σ = some o) : G K 0 [some (.ref (kad K 74)), some (.int x1), some (.int x2), some (.int x3), none] [] (Wd K layC σ) := by
  unfold fX5_heldNow_b0 at h
  refine g_iconst C.c dX5_heldNow_0 (v := (0 : Int32)) (by decide) ?_
  refine g_iload_n C.c dX5_heldNow_1 rfl (i := 1) rfl ?_
  refine g_iload_n C.c dX5_heldNow_2 rfl (i := 2) rfl ?_
  refine g_isub C.c dX5_heldNow_3 ?_
  refine g_max C.c dX5_heldNow_4 aw_700 aw_477 aw_57 aw_478 rfl (Nat.le_of_ble_eq_true rfl) (Nat.le_of_ble_eq_true rfl) ?_
  refine g_istore C.c (i := 4) (L' := [some (.ref (kad K 74)), some (.int x1), some (.int x2), some (.int x3), some (.int (imax (0 : Int32) (x1 - x2)))]) dX5_heldNow_7 (Nat.le_of_ble_eq_true rfl) rfl ?_
  refine g_iload_n C.c dX5_heldNow_9 rfl (i := 3) rfl ?_
  refine g_i2l C.c dX5_heldNow_10 ?_
  refine g_aload_n C.c dX5_heldNow_11 rfl (i := 0) rfl ?_
  refine gf_5_9 C dX5_heldNow_12 ?_
  refine g_iload C.c dX5_heldNow_15 (i := 4) rfl ?_
  refine g_iload C.c dX5_heldNow_17 (i := 4) rfl ?_
  refine g_iconst C.c dX5_heldNow_19 (v := (3 : Int32)) (by decide) ?_
  refine g_idiv C.c dX5_heldNow_20 (by decide) ?_
  refine g_isub C.c dX5_heldNow_21 ?_
  obtain ⟨c1, h⟩ := chk h
  refine g_lald C dX5_heldNow_22 rfl c1 ?_
  refine g_lmul C.c dX5_heldNow_23 ?_
  refine g_bipush C.c dX5_heldNow_24 (v := (10 : Int32)) (by decide) ?_
  refine g_iload_n C.c dX5_heldNow_26 rfl (i := 3) rfl ?_
  refine g_isub C.c dX5_heldNow_27 ?_
  refine g_i2l C.c dX5_heldNow_28 ?_
  refine g_aload_n C.c dX5_heldNow_29 rfl (i := 0) rfl ?_
  refine gf_5_9 C dX5_heldNow_30 ?_
  refine g_iload C.c dX5_heldNow_33 (i := 4) rfl ?_
  obtain ⟨c2, h⟩ := chk h
  refine g_lald C dX5_heldNow_35 rfl c2 ?_
  refine g_lmul C.c dX5_heldNow_36 ?_
  refine g_ladd C.c dX5_heldNow_37 ?_
  obtain rfl := Option.some.inj h
  exact g_lret C hQ dX5_heldNow_38 ⟨rfl, rfl⟩
def fX5_heldNow (a0 : Int32) (a1 : Int32) (a2 : Int32) (σ : Sg) : Option (Int64 × Sg) := fX5_heldNow_b0 a0 a1 a2 σ
theorem ct_X5_heldNow {a0 : Int32} {a1 : Int32} {a2 : Int32} {σ : Sg} {p : Int64 × Sg} (h : fX5_heldNow a0 a1 a2 σ = some p) : Ct layC yX5_heldNow cX5_heldNow 5 (some .long) 1 (fun ad => [.ref (ad 74), .int a0, .int a1, .int a2]) σ (okJ p) :=
 ct_of (L0 := fun ad => [some (.ref (ad 74)), some (.int a0), some (.int a1), some (.int a2), none]) (by decide) (fun _ => Nat.le_of_ble_eq_true rfl) (fun _ => rfl) (fun K C hQ => g_mask [true, true, true, true, false] rfl (bX5_heldNow_b0 C hQ h))
-- X9_commonDivisor
theorem dX9_commonDivisor_0 : decode cX9_commonDivisor 0 = .ok (.iconst 0, 1) := by decide +kernel
theorem dX9_commonDivisor_1 : decode cX9_commonDivisor 1 = .ok (.istore 4, 2) := by decide +kernel
theorem dX9_commonDivisor_3 : decode cX9_commonDivisor 3 = .ok (.iload 4, 2) := by decide +kernel
theorem dX9_commonDivisor_5 : decode cX9_commonDivisor 5 = .ok (.sipush 128, 3) := by decide +kernel
theorem dX9_commonDivisor_8 : decode cX9_commonDivisor 8 = .ok (.if_icmp .ge 25, 3) := by decide +kernel
theorem dX9_commonDivisor_11 : decode cX9_commonDivisor 11 = .ok (.lload_n 2, 1) := by decide +kernel
theorem dX9_commonDivisor_12 : decode cX9_commonDivisor 12 = .ok (.lconst 0, 1) := by decide +kernel
theorem dX9_commonDivisor_13 : decode cX9_commonDivisor 13 = .ok (.lcmp, 1) := by decide +kernel
theorem dX9_commonDivisor_14 : decode cX9_commonDivisor 14 = .ok (.ifCond .eq 19, 3) := by decide +kernel
theorem dX9_commonDivisor_17 : decode cX9_commonDivisor 17 = .ok (.lload_n 0, 1) := by decide +kernel
theorem dX9_commonDivisor_18 : decode cX9_commonDivisor 18 = .ok (.lload_n 2, 1) := by decide +kernel
theorem dX9_commonDivisor_19 : decode cX9_commonDivisor 19 = .ok (.lrem, 1) := by decide +kernel
theorem dX9_commonDivisor_20 : decode cX9_commonDivisor 20 = .ok (.lstore 5, 2) := by decide +kernel
theorem dX9_commonDivisor_22 : decode cX9_commonDivisor 22 = .ok (.lload_n 2, 1) := by decide +kernel
theorem dX9_commonDivisor_23 : decode cX9_commonDivisor 23 = .ok (.lstore_n 0, 1) := by decide +kernel
theorem dX9_commonDivisor_24 : decode cX9_commonDivisor 24 = .ok (.lload 5, 2) := by decide +kernel
theorem dX9_commonDivisor_26 : decode cX9_commonDivisor 26 = .ok (.lstore_n 2, 1) := by decide +kernel
theorem dX9_commonDivisor_27 : decode cX9_commonDivisor 27 = .ok (.iinc 4 1, 3) := by decide +kernel
theorem dX9_commonDivisor_30 : decode cX9_commonDivisor 30 = .ok (.goto (-27), 3) := by decide +kernel
theorem dX9_commonDivisor_33 : decode cX9_commonDivisor 33 = .ok (.lload_n 0, 1) := by decide +kernel
theorem dX9_commonDivisor_34 : decode cX9_commonDivisor 34 = .ok (.lreturn, 1) := by decide +kernel
theorem cw_X9_commonDivisor : Cw yX9_commonDivisor cX9_commonDivisor 7 (some .long) 2 := ⟨aw_710, aw_46, ⟨by decide, by decide⟩, by decide +kernel, by decide⟩
def fX9_commonDivisor_b3 (x0 : Int64) (x2 : Int64) (x4 : Int32) (σ : Sg) : Option ((Int64 × Int64 × Int32 × Sg) ⊕ ((Int64 × Sg))) :=
  if (128 : Int32) ≤ x4 then (some (.inr (x0, σ))) else (if (lg_cmp x2 (0 : Int64)) = 0 then (some (.inr (x0, σ))) else (if x2 = 0 then none else some (.inl (x2, (x0 - x0 / x2 * x2), (x4 + (1 : Int32)), σ))))
def fX9_commonDivisor_b0 (x0 : Int64) (x2 : Int64) (σ : Sg) : Option (Int64 × Sg) :=
  Option.bind (lp (fun s => fX9_commonDivisor_b3 s.1 s.2.1 s.2.2.1 s.2.2.2) FU (x0, x2, (0 : Int32), σ)) fun t2 => some (t2.1, t2.2)
set_option maxRecDepth 4000 in
theorem bX9_commonDivisor_b3 {K : KT} {x0 : Int64} {x2 : Int64} {x4 : Int32} {σ : Sg} {o : (Int64 × Int64 × Int32 × Sg) ⊕ ((Int64 × Sg))} (C : Cx K layC cX9_commonDivisor RX9 7 (1) (some .long))  (hI : ∀ s' : Int64 × Int64 × Int32 × Sg, o = .inl s' → G K 3 [some (.long s'.1), none, some (.long s'.2.1), none, some (.int s'.2.2.1), none, none] [] (Wd K layC s'.2.2.2)) (hE0 : ∀ t : Int64 × Sg, o = .inr t → G K 33 [some (.long t.1), none, none, none, none, none, none] [] (Wd K layC t.2)) (h : fX9_commonDivisor_b3 x0 x2 x4 σ = some o) : G K 3 [some (.long x0), none, some (.long x2), none, some (.int x4), none, none] [] (Wd K layC σ) := by
  unfold fX9_commonDivisor_b3 at h
  refine g_iload C.c dX9_commonDivisor_3 (i := 4) rfl ?_
  refine g_sipush C.c dX9_commonDivisor_5 (v := (128 : Int32)) (by decide) ?_
  refine g_icmp_ge C.c (tgt := 33) dX9_commonDivisor_8 (by decide) (fun c => ?_) (fun c => ?_)
  · replace h := ite_t c h
    have g9 := hE0 _ (Option.some.inj h).symm
    exact g_mask [true, false, false, false, false, false, false] rfl g9
  · replace h := ite_f c h
    refine g_lload_n C.c dX9_commonDivisor_11 rfl (i := 2) rfl ?_
    refine g_lconst C.c dX9_commonDivisor_12 (v := (0 : Int64)) (by decide) ?_
    refine g_lcmp C.c dX9_commonDivisor_13 ?_
    refine g_if_eq C.c (tgt := 33) dX9_commonDivisor_14 (by decide) (fun c => ?_) (fun c => ?_)
    · replace h := ite_t c h
      have g9 := hE0 _ (Option.some.inj h).symm
      exact g_mask [true, false, false, false, false, false, false] rfl g9
    · replace h := ite_f c h
      refine g_lload_n C.c dX9_commonDivisor_17 rfl (i := 0) rfl ?_
      refine g_lload_n C.c dX9_commonDivisor_18 rfl (i := 2) rfl ?_
      obtain ⟨c1, h⟩ := chk0 h
      refine g_lrem C.c dX9_commonDivisor_19 c1 ?_
      refine g_lstore C.c (i := 5) (L' := [some (.long x0), none, some (.long x2), none, some (.int x4), some (.long (x0 - x0 / x2 * x2)), none]) dX9_commonDivisor_20 (Nat.le_of_ble_eq_true rfl) rfl ?_
      refine g_lload_n C.c dX9_commonDivisor_22 rfl (i := 2) rfl ?_
      refine g_lstore_n C.c (i := 0) (L' := [some (.long x2), none, some (.long x2), none, some (.int x4), some (.long (x0 - x0 / x2 * x2)), none]) dX9_commonDivisor_23 rfl (Nat.le_of_ble_eq_true rfl) rfl ?_
      refine g_lload C.c dX9_commonDivisor_24 (i := 5) rfl ?_
      refine g_lstore_n C.c (i := 2) (L' := [some (.long x2), none, some (.long (x0 - x0 / x2 * x2)), none, some (.int x4), some (.long (x0 - x0 / x2 * x2)), none]) dX9_commonDivisor_26 rfl (Nat.le_of_ble_eq_true rfl) rfl ?_
      refine g_iinc C.c (i := 4) (y := (1 : Int32)) (L' := [some (.long x2), none, some (.long (x0 - x0 / x2 * x2)), none, some (.int (x4 + (1 : Int32))), some (.long (x0 - x0 / x2 * x2)), none]) dX9_commonDivisor_27 rfl (by decide) (Nat.le_of_ble_eq_true rfl) rfl ?_
      refine g_goto C.c (tgt := 3) dX9_commonDivisor_30 (by decide) ?_
      have g9 := hI _ (Option.some.inj h).symm
      exact g_mask [true, false, true, false, true, false, false] rfl g9
set_option maxRecDepth 4000 in
theorem bX9_commonDivisor_b0 {K : KT} {x0 : Int64} {x2 : Int64} {σ : Sg} {o : Int64 × Sg} (C : Cx K layC cX9_commonDivisor RX9 7 (1) (some .long))  (hQ : Rk K layC (okJ o)) (h : fX9_commonDivisor_b0 x0 x2 σ = some o) : G K 0 [some (.long x0), none, some (.long x2), none, none, none, none] [] (Wd K layC σ) := by
  unfold fX9_commonDivisor_b0 at h
  refine g_iconst C.c dX9_commonDivisor_0 (v := (0 : Int32)) (by decide) ?_
  refine g_istore C.c (i := 4) (L' := [some (.long x0), none, some (.long x2), none, some (.int (0 : Int32)), none, none]) dX9_commonDivisor_1 (Nat.le_of_ble_eq_true rfl) rfl ?_
  refine g_mask [true, false, true, false, true, false, false] rfl ?_
  refine lp_bind (Gh := fun s => G K 3 [some (.long s.1), none, some (.long s.2.1), none, some (.int s.2.2.1), none, none] [] (Wd K layC s.2.2.2)) h (fun s o2 hf gI gE => ?_)
  refine bX9_commonDivisor_b3 C gI (fun t2 e => ?_) hf
  · have h := gE _ e
    refine g_lload_n C.c dX9_commonDivisor_33 rfl (i := 0) rfl ?_
    obtain rfl := Option.some.inj h
    exact g_lret C hQ dX9_commonDivisor_34 ⟨rfl, rfl⟩
def fX9_commonDivisor (a0 : Int64) (a1 : Int64) (σ : Sg) : Option (Int64 × Sg) := fX9_commonDivisor_b0 a0 a1 σ
theorem ct_X9_commonDivisor {a0 : Int64} {a1 : Int64} {σ : Sg} {p : Int64 × Sg} (h : fX9_commonDivisor a0 a1 σ = some p) : Ct layC yX9_commonDivisor cX9_commonDivisor 7 (some .long) 1 (fun ad => [.long a0, .long a1]) σ (okJ p) :=
 ct_of (L0 := fun ad => [some (.long a0), none, some (.long a1), none, none, none, none]) (by decide) (fun _ => Nat.le_of_ble_eq_true rfl) (fun _ => rfl) (fun K C hQ => g_mask [true, false, true, false, false, false, false] rfl (bX9_commonDivisor_b0 C hQ h))
-- X5_reckon
theorem dX5_reckon_0 : decode cX5_reckon 0 = .ok (.iconst 0, 1) := by decide +kernel
theorem dX5_reckon_1 : decode cX5_reckon 1 = .ok (.istore 5, 2) := by decide +kernel
theorem dX5_reckon_3 : decode cX5_reckon 3 = .ok (.iload 5, 2) := by decide +kernel
theorem dX5_reckon_5 : decode cX5_reckon 5 = .ok (.iload_n 1, 1) := by decide +kernel
theorem dX5_reckon_6 : decode cX5_reckon 6 = .ok (.if_icmp .gt 19, 3) := by decide +kernel
theorem dX5_reckon_9 : decode cX5_reckon 9 = .ok (.aload_n 0, 1) := by decide +kernel
theorem dX5_reckon_10 : decode cX5_reckon 10 = .ok (.getfield 9, 3) := by decide +kernel
theorem dX5_reckon_13 : decode cX5_reckon 13 = .ok (.iload 5, 2) := by decide +kernel
theorem dX5_reckon_15 : decode cX5_reckon 15 = .ok (.iload 5, 2) := by decide +kernel
theorem dX5_reckon_17 : decode cX5_reckon 17 = .ok (.i2l, 1) := by decide +kernel
theorem dX5_reckon_18 : decode cX5_reckon 18 = .ok (.lastore, 1) := by decide +kernel
theorem dX5_reckon_19 : decode cX5_reckon 19 = .ok (.iinc 5 1, 3) := by decide +kernel
theorem dX5_reckon_22 : decode cX5_reckon 22 = .ok (.goto (-19), 3) := by decide +kernel
theorem dX5_reckon_25 : decode cX5_reckon 25 = .ok (.lconst 1, 1) := by decide +kernel
theorem dX5_reckon_26 : decode cX5_reckon 26 = .ok (.lstore 5, 2) := by decide +kernel
theorem dX5_reckon_28 : decode cX5_reckon 28 = .ok (.aload_n 0, 1) := by decide +kernel
theorem dX5_reckon_29 : decode cX5_reckon 29 = .ok (.iconst 0, 1) := by decide +kernel
theorem dX5_reckon_30 : decode cX5_reckon 30 = .ok (.putfield 15, 3) := by decide +kernel
theorem dX5_reckon_33 : decode cX5_reckon 33 = .ok (.iconst 0, 1) := by decide +kernel
theorem dX5_reckon_34 : decode cX5_reckon 34 = .ok (.istore 7, 2) := by decide +kernel
theorem dX5_reckon_36 : decode cX5_reckon 36 = .ok (.iload 7, 2) := by decide +kernel
theorem dX5_reckon_38 : decode cX5_reckon 38 = .ok (.iload_n 2, 1) := by decide +kernel
theorem dX5_reckon_39 : decode cX5_reckon 39 = .ok (.if_icmp .ge 84, 3) := by decide +kernel
theorem dX5_reckon_42 : decode cX5_reckon 42 = .ok (.aload_n 0, 1) := by decide +kernel
theorem dX5_reckon_43 : decode cX5_reckon 43 = .ok (.aload_n 0, 1) := by decide +kernel
theorem dX5_reckon_44 : decode cX5_reckon 44 = .ok (.iload_n 1, 1) := by decide +kernel
theorem dX5_reckon_45 : decode cX5_reckon 45 = .ok (.iload_n 3, 1) := by decide +kernel
theorem dX5_reckon_46 : decode cX5_reckon 46 = .ok (.invokevirtual 19, 3) := by decide +kernel
theorem dX5_reckon_49 : decode cX5_reckon 49 = .ok (.aload_n 0, 1) := by decide +kernel
theorem dX5_reckon_50 : decode cX5_reckon 50 = .ok (.iload_n 1, 1) := by decide +kernel
theorem dX5_reckon_51 : decode cX5_reckon 51 = .ok (.iload_n 3, 1) := by decide +kernel
theorem dX5_reckon_52 : decode cX5_reckon 52 = .ok (.iload 4, 2) := by decide +kernel
theorem dX5_reckon_54 : decode cX5_reckon 54 = .ok (.invokevirtual 23, 3) := by decide +kernel
theorem dX5_reckon_57 : decode cX5_reckon 57 = .ok (.lcmp, 1) := by decide +kernel
theorem dX5_reckon_58 : decode cX5_reckon 58 = .ok (.ifCond .le 7, 3) := by decide +kernel
theorem dX5_reckon_61 : decode cX5_reckon 61 = .ok (.iconst 1, 1) := by decide +kernel
theorem dX5_reckon_62 : decode cX5_reckon 62 = .ok (.goto 4, 3) := by decide +kernel
theorem dX5_reckon_65 : decode cX5_reckon 65 = .ok (.iconst 0, 1) := by decide +kernel
theorem dX5_reckon_66 : decode cX5_reckon 66 = .ok (.putfield 15, 3) := by decide +kernel
theorem dX5_reckon_69 : decode cX5_reckon 69 = .ok (.iload_n 1, 1) := by decide +kernel
theorem dX5_reckon_70 : decode cX5_reckon 70 = .ok (.istore 8, 2) := by decide +kernel
theorem dX5_reckon_72 : decode cX5_reckon 72 = .ok (.iload 8, 2) := by decide +kernel
theorem dX5_reckon_74 : decode cX5_reckon 74 = .ok (.ifCond .lt 35, 3) := by decide +kernel
theorem dX5_reckon_77 : decode cX5_reckon 77 = .ok (.aload_n 0, 1) := by decide +kernel
theorem dX5_reckon_78 : decode cX5_reckon 78 = .ok (.getfield 9, 3) := by decide +kernel
theorem dX5_reckon_81 : decode cX5_reckon 81 = .ok (.iload 8, 2) := by decide +kernel
theorem dX5_reckon_83 : decode cX5_reckon 83 = .ok (.aload_n 0, 1) := by decide +kernel
theorem dX5_reckon_84 : decode cX5_reckon 84 = .ok (.iload 8, 2) := by decide +kernel
theorem dX5_reckon_86 : decode cX5_reckon 86 = .ok (.iload_n 3, 1) := by decide +kernel
theorem dX5_reckon_87 : decode cX5_reckon 87 = .ok (.invokevirtual 19, 3) := by decide +kernel
theorem dX5_reckon_90 : decode cX5_reckon 90 = .ok (.aload_n 0, 1) := by decide +kernel
theorem dX5_reckon_91 : decode cX5_reckon 91 = .ok (.iload 8, 2) := by decide +kernel
theorem dX5_reckon_93 : decode cX5_reckon 93 = .ok (.iload_n 3, 1) := by decide +kernel
theorem dX5_reckon_94 : decode cX5_reckon 94 = .ok (.iload 4, 2) := by decide +kernel
theorem dX5_reckon_96 : decode cX5_reckon 96 = .ok (.invokevirtual 23, 3) := by decide +kernel
theorem dX5_reckon_99 : decode cX5_reckon 99 = .ok (.invokestatic 27, 3) := by decide +kernel
theorem dX5_reckon_102 : decode cX5_reckon 102 = .ok (.lastore, 1) := by decide +kernel
theorem dX5_reckon_103 : decode cX5_reckon 103 = .ok (.iinc 8 (-1), 3) := by decide +kernel
theorem dX5_reckon_106 : decode cX5_reckon 106 = .ok (.goto (-34), 3) := by decide +kernel
theorem dX5_reckon_109 : decode cX5_reckon 109 = .ok (.lload 5, 2) := by decide +kernel
theorem dX5_reckon_111 : decode cX5_reckon 111 = .ok (.ldc2_w 33, 3) := by decide +kernel
theorem dX5_reckon_114 : decode cX5_reckon 114 = .ok (.lmul, 1) := by decide +kernel
theorem dX5_reckon_115 : decode cX5_reckon 115 = .ok (.lstore 5, 2) := by decide +kernel
theorem dX5_reckon_117 : decode cX5_reckon 117 = .ok (.iinc 7 1, 3) := by decide +kernel
theorem dX5_reckon_120 : decode cX5_reckon 120 = .ok (.goto (-84), 3) := by decide +kernel
theorem dX5_reckon_123 : decode cX5_reckon 123 = .ok (.aload_n 0, 1) := by decide +kernel
theorem dX5_reckon_124 : decode cX5_reckon 124 = .ok (.getfield 9, 3) := by decide +kernel
theorem dX5_reckon_127 : decode cX5_reckon 127 = .ok (.iload_n 1, 1) := by decide +kernel
theorem dX5_reckon_128 : decode cX5_reckon 128 = .ok (.laload, 1) := by decide +kernel
theorem dX5_reckon_129 : decode cX5_reckon 129 = .ok (.lload 5, 2) := by decide +kernel
theorem dX5_reckon_131 : decode cX5_reckon 131 = .ok (.invokestatic 35, 3) := by decide +kernel
theorem dX5_reckon_134 : decode cX5_reckon 134 = .ok (.lstore 7, 2) := by decide +kernel
theorem dX5_reckon_136 : decode cX5_reckon 136 = .ok (.aload_n 0, 1) := by decide +kernel
theorem dX5_reckon_137 : decode cX5_reckon 137 = .ok (.lload 7, 2) := by decide +kernel
theorem dX5_reckon_139 : decode cX5_reckon 139 = .ok (.lconst 0, 1) := by decide +kernel
theorem dX5_reckon_140 : decode cX5_reckon 140 = .ok (.lcmp, 1) := by decide +kernel
theorem dX5_reckon_141 : decode cX5_reckon 141 = .ok (.ifCond .ne 7, 3) := by decide +kernel
theorem dX5_reckon_144 : decode cX5_reckon 144 = .ok (.lconst 0, 1) := by decide +kernel
theorem dX5_reckon_145 : decode cX5_reckon 145 = .ok (.goto 12, 3) := by decide +kernel
theorem dX5_reckon_148 : decode cX5_reckon 148 = .ok (.aload_n 0, 1) := by decide +kernel
theorem dX5_reckon_149 : decode cX5_reckon 149 = .ok (.getfield 9, 3) := by decide +kernel
theorem dX5_reckon_152 : decode cX5_reckon 152 = .ok (.iload_n 1, 1) := by decide +kernel
theorem dX5_reckon_153 : decode cX5_reckon 153 = .ok (.laload, 1) := by decide +kernel
theorem dX5_reckon_154 : decode cX5_reckon 154 = .ok (.lload 7, 2) := by decide +kernel
theorem dX5_reckon_156 : decode cX5_reckon 156 = .ok (.ldiv, 1) := by decide +kernel
theorem dX5_reckon_157 : decode cX5_reckon 157 = .ok (.putfield 38, 3) := by decide +kernel
theorem dX5_reckon_160 : decode cX5_reckon 160 = .ok (.aload_n 0, 1) := by decide +kernel
theorem dX5_reckon_161 : decode cX5_reckon 161 = .ok (.lload 7, 2) := by decide +kernel
theorem dX5_reckon_163 : decode cX5_reckon 163 = .ok (.lconst 0, 1) := by decide +kernel
theorem dX5_reckon_164 : decode cX5_reckon 164 = .ok (.lcmp, 1) := by decide +kernel
theorem dX5_reckon_165 : decode cX5_reckon 165 = .ok (.ifCond .ne 7, 3) := by decide +kernel
theorem dX5_reckon_168 : decode cX5_reckon 168 = .ok (.lconst 1, 1) := by decide +kernel
theorem dX5_reckon_169 : decode cX5_reckon 169 = .ok (.goto 8, 3) := by decide +kernel
theorem dX5_reckon_172 : decode cX5_reckon 172 = .ok (.lload 5, 2) := by decide +kernel
theorem dX5_reckon_174 : decode cX5_reckon 174 = .ok (.lload 7, 2) := by decide +kernel
theorem dX5_reckon_176 : decode cX5_reckon 176 = .ok (.ldiv, 1) := by decide +kernel
theorem dX5_reckon_177 : decode cX5_reckon 177 = .ok (.putfield 42, 3) := by decide +kernel
theorem dX5_reckon_180 : decode cX5_reckon 180 = .ok (.return_, 1) := by decide +kernel
theorem cw_X5_reckon : Cw yX5_reckon cX5_reckon 9 none 4 := ⟨aw_694, aw_55, ⟨by decide, by decide⟩, by decide +kernel, by decide⟩
theorem pf_5_15 {K : KT} {cc : ByteArray} {nL d pc : Nat} {ret : Option FieldType} {L : List (Option Value)} {st : List Value} {σ : Sg} (C : Cx K layC cc RX5 nL d ret)  {v : Int32} (hb : isB v = true) (hd : decode cc pc = .ok (.putfield 15, 3)) (k : G K (pc + 3) L st (Wd K layC (wI σ 74 3 v))) : G K pc L (.int v :: .ref (kad K 74) :: st) (Wd K layC σ) := g_putI C (o := 74) (ci := 5) (k := 3) hd rfl rfl rfl (by decide) (Or.inl aw_340) inA5 tyX5_ok nmX5 rfl (isB_n hb) (isB_f hb) k
theorem kc_5_19 {K : KT} {cc : ByteArray} {nL d pc : Nat} {ret : Option FieldType} {L : List (Option Value)} {st : List Value} {σ : Sg} (C : Cx K layC cc RX5 nL d ret)  {a0 : Int32} {a1 : Int32}  {p : Int64 × Sg} (hd : decode cc pc = .ok (.invokevirtual 19, 3)) (e : fX5_letOffNow a0 a1 σ = some p) (hdd : 1 + 1 ≤ d) (hLn : L.length = nL) (hr : (st.map fun v => v.category).sum ≤ 8) (k : G K (pc + 3) L (.long p.1 :: st) (Wd K layC p.2)) : G K pc L (.int a1 :: .int a0 :: .ref (kad K 74) :: st) (Wd K layC σ) :=
  g_callV C (As := [.int a0, .int a1]) (rest := st) (o := 74) (ci := 5) hd (ct_X5_letOffNow e) cw_X5_letOffNow (Or.inl aw_695) aw_697 aw_18 rfl rfl rfl hdd hLn rfl rfl hr (fun v τ q => by obtain ⟨rfl, rfl⟩ := q; exact k)
theorem kc_5_23 {K : KT} {cc : ByteArray} {nL d pc : Nat} {ret : Option FieldType} {L : List (Option Value)} {st : List Value} {σ : Sg} (C : Cx K layC cc RX5 nL d ret)  {a0 : Int32} {a1 : Int32} {a2 : Int32}  {p : Int64 × Sg} (hd : decode cc pc = .ok (.invokevirtual 23, 3)) (e : fX5_heldNow a0 a1 a2 σ = some p) (hdd : 1 + 1 ≤ d) (hLn : L.length = nL) (hr : (st.map fun v => v.category).sum ≤ 8) (k : G K (pc + 3) L (.long p.1 :: st) (Wd K layC p.2)) : G K pc L (.int a2 :: .int a1 :: .int a0 :: .ref (kad K 74) :: st) (Wd K layC σ) :=
  g_callV C (As := [.int a0, .int a1, .int a2]) (rest := st) (o := 74) (ci := 5) hd (ct_X5_heldNow e) cw_X5_heldNow (Or.inl aw_701) aw_703 aw_19 rfl rfl rfl hdd hLn rfl rfl hr (fun v τ q => by obtain ⟨rfl, rfl⟩ := q; exact k)
theorem kc_5_35 {K : KT} {cc : ByteArray} {nL d pc : Nat} {ret : Option FieldType} {L : List (Option Value)} {st : List Value} {σ : Sg} (C : Cx K layC cc RX5 nL d ret)  {a0 : Int64} {a1 : Int64}  {p : Int64 × Sg} (hd : decode cc pc = .ok (.invokestatic 35, 3)) (e : fX9_commonDivisor a0 a1 σ = some p) (hdd : 1 + 1 ≤ d) (hLn : L.length = nL) (hr : (st.map fun v => v.category).sum ≤ 8) (k : G K (pc + 3) L (.long p.1 :: st) (Wd K layC p.2)) : G K pc L (.long a1 :: .long a0 :: st) (Wd K layC σ) :=
  g_callS C (As := [.long a0, .long a1]) (rest := st) hd (ct_X9_commonDivisor e) cw_X9_commonDivisor (Or.inr ⟨_, aw_708⟩) aw_709 rfl rfl rfl hdd hLn hr (fun v τ q => by obtain ⟨rfl, rfl⟩ := q; exact k)
theorem pf_5_38 {K : KT} {cc : ByteArray} {nL d pc : Nat} {ret : Option FieldType} {L : List (Option Value)} {st : List Value} {σ : Sg} (C : Cx K layC cc RX5 nL d ret)  {v : Int64}  (hd : decode cc pc = .ok (.putfield 38, 3)) (k : G K (pc + 3) L st (Wd K layC (wJ σ 74 1 v))) : G K pc L (.long v :: .ref (kad K 74) :: st) (Wd K layC σ) := g_putJ C (o := 74) (ci := 5) (k := 1) hd rfl rfl rfl (by decide) (Or.inl aw_336) inA5 tyX5_ok nmX5 rfl rfl rfl k
theorem pf_5_42 {K : KT} {cc : ByteArray} {nL d pc : Nat} {ret : Option FieldType} {L : List (Option Value)} {st : List Value} {σ : Sg} (C : Cx K layC cc RX5 nL d ret)  {v : Int64}  (hd : decode cc pc = .ok (.putfield 42, 3)) (k : G K (pc + 3) L st (Wd K layC (wJ σ 74 2 v))) : G K pc L (.long v :: .ref (kad K 74) :: st) (Wd K layC σ) := g_putJ C (o := 74) (ci := 5) (k := 2) hd rfl rfl rfl (by decide) (Or.inl aw_338) inA5 tyX5_ok nmX5 rfl rfl rfl k
def fX5_reckon_b3 (x1 : Int32) (x2 : Int32) (x3 : Int32) (x4 : Int32) (x5 : Int32) (σ : Sg) : Option ((Int32 × Sg) ⊕ ((Sg))) :=
  if x1 < x5 then (some (.inr σ)) else (if inb x5 1000 = true then (some (.inl ((x5 + (1 : Int32)), (wJ σ 75 (x5).toNatClampNeg ((x5).toInt64))))) else none)
def fX5_reckon_b72 (x1 : Int32) (x2 : Int32) (x3 : Int32) (x4 : Int32) (x5 : Int64) (x7 : Int32) (x8 : Int32) (σ : Sg) : Option ((Int32 × Sg) ⊕ ((Sg))) :=
  if x8 < 0 then (some (.inr σ)) else (Option.bind (fX5_letOffNow x8 x3 σ) fun p9 => (Option.bind (fX5_heldNow x8 x3 x4 p9.2) fun p11 => (if inb x8 1000 = true then (some (.inl ((x8 + (-1 : Int32)), (wJ p11.2 75 (x8).toNatClampNeg (lmax p9.1 p11.1))))) else none)))
def fX5_reckon_b66 (x1 : Int32) (x2 : Int32) (x3 : Int32) (x4 : Int32) (x5 : Int64) (x7 : Int32) (y0 : Int32) (σ : Sg) : Option ((Int64 × Int32 × Sg) ⊕ ((Int64 × Sg))) :=
  if isB y0 = true then (Option.bind (lp (fun s => fX5_reckon_b72 x1 x2 x3 x4 x5 x7 s.1 s.2) FU (x1, (wI σ 74 3 y0))) fun t14 => some (.inl ((x5 * (10 : Int64)), (x7 + (1 : Int32)), t14))) else none
def fX5_reckon_b36 (x1 : Int32) (x2 : Int32) (x3 : Int32) (x4 : Int32) (x5 : Int64) (x7 : Int32) (σ : Sg) : Option ((Int64 × Int32 × Sg) ⊕ ((Int64 × Sg))) :=
  if x2 ≤ x7 then (some (.inr (x5, σ))) else (Option.bind (fX5_letOffNow x1 x3 σ) fun p4 => (Option.bind (fX5_heldNow x1 x3 x4 p4.2) fun p6 => (if (lg_cmp p4.1 p6.1) ≤ 0 then (fX5_reckon_b66 x1 x2 x3 x4 x5 x7 (0 : Int32) p6.2) else (fX5_reckon_b66 x1 x2 x3 x4 x5 x7 (1 : Int32) p6.2))))
def fX5_reckon_b157 (x5 : Int64) (x7 : Int64) (y0 : Int64) (σ : Sg) : Option (Sg) :=
  if (lg_cmp x7 (0 : Int64)) = 0 then (some (wJ (wJ σ 74 1 y0) 74 2 (1 : Int64))) else (if x7 = 0 then none else some (wJ (wJ σ 74 1 y0) 74 2 (x5 / x7)))
def fX5_reckon_b0 (x1 : Int32) (x2 : Int32) (x3 : Int32) (x4 : Int32) (σ : Sg) : Option (Sg) :=
  Option.bind (lp (fun s => fX5_reckon_b3 x1 x2 x3 x4 s.1 s.2) FU ((0 : Int32), σ)) fun t2 => Option.bind (lp (fun s => fX5_reckon_b36 x1 x2 x3 x4 s.1 s.2.1 s.2.2) FU ((1 : Int64), (0 : Int32), (wI t2 74 3 (0 : Int32)))) fun t16 => if inb x1 1000 = true then (Option.bind (fX9_commonDivisor (rJ t16.2 75 (x1).toNatClampNeg) t16.1 t16.2) fun p19 => (if (lg_cmp p19.1 (0 : Int64)) = 0 then (fX5_reckon_b157 t16.1 p19.1 (0 : Int64) p19.2) else (if inb x1 1000 = true then (if p19.1 = 0 then none else fX5_reckon_b157 t16.1 p19.1 ((rJ p19.2 75 (x1).toNatClampNeg) / p19.1) p19.2) else none))) else none
set_option maxRecDepth 4000 in
theorem bX5_reckon_b3 {K : KT} {x1 : Int32} {x2 : Int32} {x3 : Int32} {x4 : Int32} {x5 : Int32} {σ : Sg} {o : (Int32 × Sg) ⊕ ((Sg))} (C : Cx K layC cX5_reckon RX5 9 (2) none)  (hI : ∀ s' : Int32 × Sg, o = .inl s' → G K 3 [some (.ref (kad K 74)), some (.int x1), some (.int x2), some (.int x3), some (.int x4), some (.int s'.1), none, none, none] [] (Wd K layC s'.2)) (hE0 : ∀ t : Sg, o = .inr t → G K 25 [some (.ref (kad K 74)), some (.int x1), some (.int x2), some (.int x3), some (.int x4), none, none, none, none] [] (Wd K layC t)) (h : fX5_reckon_b3 x1 x2 x3 x4 x5 σ = some o) : G K 3 [some (.ref (kad K 74)), some (.int x1), some (.int x2), some (.int x3), some (.int x4), some (.int x5), none, none, none] [] (Wd K layC σ) := by
  unfold fX5_reckon_b3 at h
  refine g_iload C.c dX5_reckon_3 (i := 5) rfl ?_
  refine g_iload_n C.c dX5_reckon_5 rfl (i := 1) rfl ?_
  refine g_icmp_gt C.c (tgt := 25) dX5_reckon_6 (by decide) (fun c => ?_) (fun c => ?_)
  · replace h := ite_t c h
    have g9 := hE0 _ (Option.some.inj h).symm
    exact g_mask [true, true, true, true, true, false, false, false, false] rfl g9
  · replace h := ite_f c h
    refine g_aload_n C.c dX5_reckon_9 rfl (i := 0) rfl ?_
    refine gf_5_9 C dX5_reckon_10 ?_
    refine g_iload C.c dX5_reckon_13 (i := 5) rfl ?_
    refine g_iload C.c dX5_reckon_15 (i := 5) rfl ?_
    refine g_i2l C.c dX5_reckon_17 ?_
    obtain ⟨c1, h⟩ := chk h
    refine g_last C dX5_reckon_18 rfl c1 ?_
    refine g_iinc C.c (i := 5) (y := (1 : Int32)) (L' := [some (.ref (kad K 74)), some (.int x1), some (.int x2), some (.int x3), some (.int x4), some (.int (x5 + (1 : Int32))), none, none, none]) dX5_reckon_19 rfl (by decide) (Nat.le_of_ble_eq_true rfl) rfl ?_
    refine g_goto C.c (tgt := 3) dX5_reckon_22 (by decide) ?_
    have g9 := hI _ (Option.some.inj h).symm
    exact g_mask [true, true, true, true, true, true, false, false, false] rfl g9
set_option maxRecDepth 4000 in
theorem bX5_reckon_b72 {K : KT} {x1 : Int32} {x2 : Int32} {x3 : Int32} {x4 : Int32} {x5 : Int64} {x7 : Int32} {x8 : Int32} {σ : Sg} {o : (Int32 × Sg) ⊕ ((Sg))} (C : Cx K layC cX5_reckon RX5 9 (2) none)  (hI : ∀ s' : Int32 × Sg, o = .inl s' → G K 72 [some (.ref (kad K 74)), some (.int x1), some (.int x2), some (.int x3), some (.int x4), some (.long x5), none, some (.int x7), some (.int s'.1)] [] (Wd K layC s'.2)) (hE0 : ∀ t : Sg, o = .inr t → G K 109 [some (.ref (kad K 74)), some (.int x1), some (.int x2), some (.int x3), some (.int x4), some (.long x5), none, some (.int x7), none] [] (Wd K layC t)) (h : fX5_reckon_b72 x1 x2 x3 x4 x5 x7 x8 σ = some o) : G K 72 [some (.ref (kad K 74)), some (.int x1), some (.int x2), some (.int x3), some (.int x4), some (.long x5), none, some (.int x7), some (.int x8)] [] (Wd K layC σ) := by
  unfold fX5_reckon_b72 at h
  refine g_iload C.c dX5_reckon_72 (i := 8) rfl ?_
  refine g_if_lt C.c (tgt := 109) dX5_reckon_74 (by decide) (fun c => ?_) (fun c => ?_)
  · replace h := ite_t c h
    have g9 := hE0 _ (Option.some.inj h).symm
    exact g_mask [true, true, true, true, true, true, false, true, false] rfl g9
  · replace h := ite_f c h
    refine g_aload_n C.c dX5_reckon_77 rfl (i := 0) rfl ?_
    refine gf_5_9 C dX5_reckon_78 ?_
    refine g_iload C.c dX5_reckon_81 (i := 8) rfl ?_
    refine g_aload_n C.c dX5_reckon_83 rfl (i := 0) rfl ?_
    refine g_iload C.c dX5_reckon_84 (i := 8) rfl ?_
    refine g_iload_n C.c dX5_reckon_86 rfl (i := 3) rfl ?_
    obtain ⟨p9, e10, h⟩ := Option.bind_eq_some_iff.mp h
    refine kc_5_19 C dX5_reckon_87 e10 (Nat.le_of_ble_eq_true rfl) rfl (Nat.le_of_ble_eq_true rfl) ?_
    refine g_aload_n C.c dX5_reckon_90 rfl (i := 0) rfl ?_
    refine g_iload C.c dX5_reckon_91 (i := 8) rfl ?_
    refine g_iload_n C.c dX5_reckon_93 rfl (i := 3) rfl ?_
    refine g_iload C.c dX5_reckon_94 (i := 4) rfl ?_
    obtain ⟨p11, e12, h⟩ := Option.bind_eq_some_iff.mp h
    refine kc_5_23 C dX5_reckon_96 e12 (Nat.le_of_ble_eq_true rfl) rfl (Nat.le_of_ble_eq_true rfl) ?_
    refine g_lmax C.c dX5_reckon_99 aw_705 aw_706 aw_57 aw_707 rfl (Nat.le_of_ble_eq_true rfl) (Nat.le_of_ble_eq_true rfl) ?_
    obtain ⟨c13, h⟩ := chk h
    refine g_last C dX5_reckon_102 rfl c13 ?_
    refine g_iinc C.c (i := 8) (y := (-1 : Int32)) (L' := [some (.ref (kad K 74)), some (.int x1), some (.int x2), some (.int x3), some (.int x4), some (.long x5), none, some (.int x7), some (.int (x8 + (-1 : Int32)))]) dX5_reckon_103 rfl (by decide) (Nat.le_of_ble_eq_true rfl) rfl ?_
    refine g_goto C.c (tgt := 72) dX5_reckon_106 (by decide) ?_
    have g9 := hI _ (Option.some.inj h).symm
    exact g_mask [true, true, true, true, true, true, false, true, true] rfl g9
set_option maxRecDepth 4000 in
theorem bX5_reckon_b66 {K : KT} {x1 : Int32} {x2 : Int32} {x3 : Int32} {x4 : Int32} {x5 : Int64} {x7 : Int32} {y0 : Int32} {σ : Sg} {o : (Int64 × Int32 × Sg) ⊕ ((Int64 × Sg))} (C : Cx K layC cX5_reckon RX5 9 (2) none)  (hI : ∀ s' : Int64 × Int32 × Sg, o = .inl s' → G K 36 [some (.ref (kad K 74)), some (.int x1), some (.int x2), some (.int x3), some (.int x4), some (.long s'.1), none, some (.int s'.2.1), none] [] (Wd K layC s'.2.2)) (hE0 : ∀ t : Int64 × Sg, o = .inr t → G K 123 [some (.ref (kad K 74)), some (.int x1), none, none, none, some (.long t.1), none, none, none] [] (Wd K layC t.2)) (h : fX5_reckon_b66 x1 x2 x3 x4 x5 x7 y0 σ = some o) : G K 66 [some (.ref (kad K 74)), some (.int x1), some (.int x2), some (.int x3), some (.int x4), some (.long x5), none, some (.int x7), none] [.int y0, .ref (kad K 74)] (Wd K layC σ) := by
  unfold fX5_reckon_b66 at h
  obtain ⟨c8, h⟩ := chk h
  refine pf_5_15 C c8 dX5_reckon_66 ?_
  refine g_iload_n C.c dX5_reckon_69 rfl (i := 1) rfl ?_
  refine g_istore C.c (i := 8) (L' := [some (.ref (kad K 74)), some (.int x1), some (.int x2), some (.int x3), some (.int x4), some (.long x5), none, some (.int x7), some (.int x1)]) dX5_reckon_70 (Nat.le_of_ble_eq_true rfl) rfl ?_
  refine g_mask [true, true, true, true, true, true, false, true, true] rfl ?_
  refine lp_bind (Gh := fun s => G K 72 [some (.ref (kad K 74)), some (.int x1), some (.int x2), some (.int x3), some (.int x4), some (.long x5), none, some (.int x7), some (.int s.1)] [] (Wd K layC s.2)) h (fun s o2 hf gI gE => ?_)
  refine bX5_reckon_b72 C gI (fun t14 e => ?_) hf
  · have h := gE _ e
    refine g_lload C.c dX5_reckon_109 (i := 5) rfl ?_
    refine g_ldc2 C.c (v := (10 : Int64)) aw_699 dX5_reckon_111 ?_
    refine g_lmul C.c dX5_reckon_114 ?_
    refine g_lstore C.c (i := 5) (L' := [some (.ref (kad K 74)), some (.int x1), some (.int x2), some (.int x3), some (.int x4), some (.long (x5 * (10 : Int64))), none, some (.int x7), none]) dX5_reckon_115 (Nat.le_of_ble_eq_true rfl) rfl ?_
    refine g_iinc C.c (i := 7) (y := (1 : Int32)) (L' := [some (.ref (kad K 74)), some (.int x1), some (.int x2), some (.int x3), some (.int x4), some (.long (x5 * (10 : Int64))), none, some (.int (x7 + (1 : Int32))), none]) dX5_reckon_117 rfl (by decide) (Nat.le_of_ble_eq_true rfl) rfl ?_
    refine g_goto C.c (tgt := 36) dX5_reckon_120 (by decide) ?_
    have g9 := hI _ (Option.some.inj h).symm
    exact g_mask [true, true, true, true, true, true, false, true, false] rfl g9
set_option maxRecDepth 4000 in
theorem bX5_reckon_b36 {K : KT} {x1 : Int32} {x2 : Int32} {x3 : Int32} {x4 : Int32} {x5 : Int64} {x7 : Int32} {σ : Sg} {o : (Int64 × Int32 × Sg) ⊕ ((Int64 × Sg))} (C : Cx K layC cX5_reckon RX5 9 (2) none)  (hI : ∀ s' : Int64 × Int32 × Sg, o = .inl s' → G K 36 [some (.ref (kad K 74)), some (.int x1), some (.int x2), some (.int x3), some (.int x4), some (.long s'.1), none, some (.int s'.2.1), none] [] (Wd K layC s'.2.2)) (hE0 : ∀ t : Int64 × Sg, o = .inr t → G K 123 [some (.ref (kad K 74)), some (.int x1), none, none, none, some (.long t.1), none, none, none] [] (Wd K layC t.2)) (h : fX5_reckon_b36 x1 x2 x3 x4 x5 x7 σ = some o) : G K 36 [some (.ref (kad K 74)), some (.int x1), some (.int x2), some (.int x3), some (.int x4), some (.long x5), none, some (.int x7), none] [] (Wd K layC σ) := by
  unfold fX5_reckon_b36 at h
  refine g_iload C.c dX5_reckon_36 (i := 7) rfl ?_
  refine g_iload_n C.c dX5_reckon_38 rfl (i := 2) rfl ?_
  refine g_icmp_ge C.c (tgt := 123) dX5_reckon_39 (by decide) (fun c => ?_) (fun c => ?_)
  · replace h := ite_t c h
    have g9 := hE0 _ (Option.some.inj h).symm
    exact g_mask [true, true, false, false, false, true, false, false, false] rfl g9
  · replace h := ite_f c h
    refine g_aload_n C.c dX5_reckon_42 rfl (i := 0) rfl ?_
    refine g_aload_n C.c dX5_reckon_43 rfl (i := 0) rfl ?_
    refine g_iload_n C.c dX5_reckon_44 rfl (i := 1) rfl ?_
    refine g_iload_n C.c dX5_reckon_45 rfl (i := 3) rfl ?_
    obtain ⟨p4, e5, h⟩ := Option.bind_eq_some_iff.mp h
    refine kc_5_19 C dX5_reckon_46 e5 (Nat.le_of_ble_eq_true rfl) rfl (Nat.le_of_ble_eq_true rfl) ?_
    refine g_aload_n C.c dX5_reckon_49 rfl (i := 0) rfl ?_
    refine g_iload_n C.c dX5_reckon_50 rfl (i := 1) rfl ?_
    refine g_iload_n C.c dX5_reckon_51 rfl (i := 3) rfl ?_
    refine g_iload C.c dX5_reckon_52 (i := 4) rfl ?_
    obtain ⟨p6, e7, h⟩ := Option.bind_eq_some_iff.mp h
    refine kc_5_23 C dX5_reckon_54 e7 (Nat.le_of_ble_eq_true rfl) rfl (Nat.le_of_ble_eq_true rfl) ?_
    refine g_lcmp C.c dX5_reckon_57 ?_
    refine g_if_le C.c (tgt := 65) dX5_reckon_58 (by decide) (fun c => ?_) (fun c => ?_)
    · replace h := ite_t c h
      refine g_iconst C.c dX5_reckon_65 (v := (0 : Int32)) (by decide) ?_
      exact g_mask [true, true, true, true, true, true, false, true, false] rfl (bX5_reckon_b66 C hI hE0 h)
    · replace h := ite_f c h
      refine g_iconst C.c dX5_reckon_61 (v := (1 : Int32)) (by decide) ?_
      refine g_goto C.c (tgt := 66) dX5_reckon_62 (by decide) ?_
      exact g_mask [true, true, true, true, true, true, false, true, false] rfl (bX5_reckon_b66 C hI hE0 h)
set_option maxRecDepth 4000 in
theorem bX5_reckon_b157 {K : KT} {x5 : Int64} {x7 : Int64} {y0 : Int64} {σ : Sg} {o : Sg} (C : Cx K layC cX5_reckon RX5 9 (2) none)  (hQ : Rk K layC (okV o)) (h : fX5_reckon_b157 x5 x7 y0 σ = some o) : G K 157 [some (.ref (kad K 74)), none, none, none, none, some (.long x5), none, some (.long x7), none] [.long y0, .ref (kad K 74)] (Wd K layC σ) := by
  unfold fX5_reckon_b157 at h
  refine pf_5_38 C dX5_reckon_157 ?_
  refine g_aload_n C.c dX5_reckon_160 rfl (i := 0) rfl ?_
  refine g_lload C.c dX5_reckon_161 (i := 7) rfl ?_
  refine g_lconst C.c dX5_reckon_163 (v := (0 : Int64)) (by decide) ?_
  refine g_lcmp C.c dX5_reckon_164 ?_
  refine g_if_ne C.c (tgt := 172) dX5_reckon_165 (by decide) (fun c => ?_) (fun c => ?_)
  · replace h := ite_f c h
    refine g_lload C.c dX5_reckon_172 (i := 5) rfl ?_
    refine g_lload C.c dX5_reckon_174 (i := 7) rfl ?_
    obtain ⟨c23, h⟩ := chk0 h
    refine g_ldiv C.c dX5_reckon_176 c23 ?_
    refine pf_5_42 C dX5_reckon_177 ?_
    obtain rfl := Option.some.inj h
    exact g_vret C hQ dX5_reckon_180 ⟨rfl, rfl⟩
  · replace h := ite_t c h
    refine g_lconst C.c dX5_reckon_168 (v := (1 : Int64)) (by decide) ?_
    refine g_goto C.c (tgt := 177) dX5_reckon_169 (by decide) ?_
    refine pf_5_42 C dX5_reckon_177 ?_
    obtain rfl := Option.some.inj h
    exact g_vret C hQ dX5_reckon_180 ⟨rfl, rfl⟩
set_option maxRecDepth 4000 in
theorem bX5_reckon_b0 {K : KT} {x1 : Int32} {x2 : Int32} {x3 : Int32} {x4 : Int32} {σ : Sg} {o : Sg} (C : Cx K layC cX5_reckon RX5 9 (2) none)  (hQ : Rk K layC (okV o)) (h : fX5_reckon_b0 x1 x2 x3 x4 σ = some o) : G K 0 [some (.ref (kad K 74)), some (.int x1), some (.int x2), some (.int x3), some (.int x4), none, none, none, none] [] (Wd K layC σ) := by
  unfold fX5_reckon_b0 at h
  refine g_iconst C.c dX5_reckon_0 (v := (0 : Int32)) (by decide) ?_
  refine g_istore C.c (i := 5) (L' := [some (.ref (kad K 74)), some (.int x1), some (.int x2), some (.int x3), some (.int x4), some (.int (0 : Int32)), none, none, none]) dX5_reckon_1 (Nat.le_of_ble_eq_true rfl) rfl ?_
  refine g_mask [true, true, true, true, true, true, false, false, false] rfl ?_
  refine lp_bind (Gh := fun s => G K 3 [some (.ref (kad K 74)), some (.int x1), some (.int x2), some (.int x3), some (.int x4), some (.int s.1), none, none, none] [] (Wd K layC s.2)) h (fun s o2 hf gI gE => ?_)
  refine bX5_reckon_b3 C gI (fun t2 e => ?_) hf
  · have h := gE _ e
    refine g_lconst C.c dX5_reckon_25 (v := (1 : Int64)) (by decide) ?_
    refine g_lstore C.c (i := 5) (L' := [some (.ref (kad K 74)), some (.int x1), some (.int x2), some (.int x3), some (.int x4), some (.long (1 : Int64)), none, none, none]) dX5_reckon_26 (Nat.le_of_ble_eq_true rfl) rfl ?_
    refine g_aload_n C.c dX5_reckon_28 rfl (i := 0) rfl ?_
    refine g_iconst C.c dX5_reckon_29 (v := (0 : Int32)) (by decide) ?_
    refine pf_5_15 C (by decide) dX5_reckon_30 ?_
    refine g_iconst C.c dX5_reckon_33 (v := (0 : Int32)) (by decide) ?_
    refine g_istore C.c (i := 7) (L' := [some (.ref (kad K 74)), some (.int x1), some (.int x2), some (.int x3), some (.int x4), some (.long (1 : Int64)), none, some (.int (0 : Int32)), none]) dX5_reckon_34 (Nat.le_of_ble_eq_true rfl) rfl ?_
    refine g_mask [true, true, true, true, true, true, false, true, false] rfl ?_
    refine lp_bind (Gh := fun s => G K 36 [some (.ref (kad K 74)), some (.int x1), some (.int x2), some (.int x3), some (.int x4), some (.long s.1), none, some (.int s.2.1), none] [] (Wd K layC s.2.2)) h (fun s o2 hf gI gE => ?_)
    refine bX5_reckon_b36 C gI (fun t16 e => ?_) hf
    · have h := gE _ e
      refine g_aload_n C.c dX5_reckon_123 rfl (i := 0) rfl ?_
      refine gf_5_9 C dX5_reckon_124 ?_
      refine g_iload_n C.c dX5_reckon_127 rfl (i := 1) rfl ?_
      obtain ⟨c18, h⟩ := chk h
      refine g_lald C dX5_reckon_128 rfl c18 ?_
      refine g_lload C.c dX5_reckon_129 (i := 5) rfl ?_
      obtain ⟨p19, e20, h⟩ := Option.bind_eq_some_iff.mp h
      refine kc_5_35 C dX5_reckon_131 e20 (Nat.le_of_ble_eq_true rfl) rfl (Nat.le_of_ble_eq_true rfl) ?_
      refine g_lstore C.c (i := 7) (L' := [some (.ref (kad K 74)), some (.int x1), none, none, none, some (.long t16.1), none, some (.long p19.1), none]) dX5_reckon_134 (Nat.le_of_ble_eq_true rfl) rfl ?_
      refine g_aload_n C.c dX5_reckon_136 rfl (i := 0) rfl ?_
      refine g_lload C.c dX5_reckon_137 (i := 7) rfl ?_
      refine g_lconst C.c dX5_reckon_139 (v := (0 : Int64)) (by decide) ?_
      refine g_lcmp C.c dX5_reckon_140 ?_
      refine g_if_ne C.c (tgt := 148) dX5_reckon_141 (by decide) (fun c => ?_) (fun c => ?_)
      · replace h := ite_f c h
        refine g_aload_n C.c dX5_reckon_148 rfl (i := 0) rfl ?_
        refine gf_5_9 C dX5_reckon_149 ?_
        refine g_iload_n C.c dX5_reckon_152 rfl (i := 1) rfl ?_
        obtain ⟨c21, h⟩ := chk h
        refine g_lald C dX5_reckon_153 rfl c21 ?_
        refine g_lload C.c dX5_reckon_154 (i := 7) rfl ?_
        obtain ⟨c22, h⟩ := chk0 h
        refine g_ldiv C.c dX5_reckon_156 c22 ?_
        exact g_mask [true, false, false, false, false, true, false, true, false] rfl (bX5_reckon_b157 C hQ h)
      · replace h := ite_t c h
        refine g_lconst C.c dX5_reckon_144 (v := (0 : Int64)) (by decide) ?_
        refine g_goto C.c (tgt := 157) dX5_reckon_145 (by decide) ?_
        exact g_mask [true, false, false, false, false, true, false, true, false] rfl (bX5_reckon_b157 C hQ h)
def fX5_reckon (a0 : Int32) (a1 : Int32) (a2 : Int32) (a3 : Int32) (σ : Sg) : Option (Sg) := fX5_reckon_b0 a0 a1 a2 a3 σ
theorem ct_X5_reckon {a0 : Int32} {a1 : Int32} {a2 : Int32} {a3 : Int32} {σ : Sg} {p : Sg} (h : fX5_reckon a0 a1 a2 a3 σ = some p) : Ct layC yX5_reckon cX5_reckon 9 none 2 (fun ad => [.ref (ad 74), .int a0, .int a1, .int a2, .int a3]) σ (okV p) :=
 ct_of (L0 := fun ad => [some (.ref (ad 74)), some (.int a0), some (.int a1), some (.int a2), some (.int a3), none, none, none, none]) (by decide) (fun _ => Nat.le_of_ble_eq_true rfl) (fun _ => rfl) (fun K C hQ => g_mask [true, true, true, true, true, false, false, false, false] rfl (bX5_reckon_b0 C hQ h))
