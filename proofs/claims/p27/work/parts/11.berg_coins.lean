-- X0_isKind
theorem dX0_isKind_0 : decode cX0_isKind 0 = .ok (.iload_n 0, 1) := by decide +kernel
theorem dX0_isKind_1 : decode cX0_isKind 1 = .ok (.ifCond .lt 12, 3) := by decide +kernel
theorem dX0_isKind_4 : decode cX0_isKind 4 = .ok (.iload_n 0, 1) := by decide +kernel
theorem dX0_isKind_5 : decode cX0_isKind 5 = .ok (.iconst 4, 1) := by decide +kernel
theorem dX0_isKind_6 : decode cX0_isKind 6 = .ok (.if_icmp .gt 7, 3) := by decide +kernel
theorem dX0_isKind_9 : decode cX0_isKind 9 = .ok (.iconst 1, 1) := by decide +kernel
theorem dX0_isKind_10 : decode cX0_isKind 10 = .ok (.goto 4, 3) := by decide +kernel
theorem dX0_isKind_13 : decode cX0_isKind 13 = .ok (.iconst 0, 1) := by decide +kernel
theorem dX0_isKind_14 : decode cX0_isKind 14 = .ok (.ireturn, 1) := by decide +kernel
theorem cw_X0_isKind : Cw yX0_isKind cX0_isKind 1 (some .boolean) 1 := ⟨aw_436, aw_24, ⟨by decide, by decide⟩, by decide +kernel, by decide⟩
def fX0_isKind_b0 (x0 : Int32) (σ : Sg) : Option (Int32 × Sg) :=
  if x0 < 0 then (some ((0 : Int32), σ)) else (if (4 : Int32) < x0 then (some ((0 : Int32), σ)) else (some ((1 : Int32), σ)))
set_option maxRecDepth 4000 in
theorem bX0_isKind_b0 {K : KT} {x0 : Int32} {σ : Sg} {o : Int32 × Sg} (C : Cx K layC cX0_isKind RX0 1 (1) (some .boolean))  (hQ : Rk K layC (okI o)) (h : fX0_isKind_b0 x0 σ = some o) : G K 0 [some (.int x0)] [] (Wd K layC σ) := by
  unfold fX0_isKind_b0 at h
  refine g_iload_n C.c dX0_isKind_0 rfl (i := 0) rfl ?_
  refine g_if_lt C.c (tgt := 13) dX0_isKind_1 (by decide) (fun c => ?_) (fun c => ?_)
  · replace h := ite_t c h
    refine g_iconst C.c dX0_isKind_13 (v := (0 : Int32)) (by decide) ?_
    obtain rfl := Option.some.inj h
    exact g_iret C hQ dX0_isKind_14 rfl ⟨rfl, rfl⟩
  · replace h := ite_f c h
    refine g_iload_n C.c dX0_isKind_4 rfl (i := 0) rfl ?_
    refine g_iconst C.c dX0_isKind_5 (v := (4 : Int32)) (by decide) ?_
    refine g_icmp_gt C.c (tgt := 13) dX0_isKind_6 (by decide) (fun c => ?_) (fun c => ?_)
    · replace h := ite_t c h
      refine g_iconst C.c dX0_isKind_13 (v := (0 : Int32)) (by decide) ?_
      obtain rfl := Option.some.inj h
      exact g_iret C hQ dX0_isKind_14 rfl ⟨rfl, rfl⟩
    · replace h := ite_f c h
      refine g_iconst C.c dX0_isKind_9 (v := (1 : Int32)) (by decide) ?_
      refine g_goto C.c (tgt := 14) dX0_isKind_10 (by decide) ?_
      obtain rfl := Option.some.inj h
      exact g_iret C hQ dX0_isKind_14 rfl ⟨rfl, rfl⟩
def fX0_isKind (a0 : Int32) (σ : Sg) : Option (Int32 × Sg) := fX0_isKind_b0 a0 σ
theorem ct_X0_isKind {a0 : Int32} {σ : Sg} {p : Int32 × Sg} (h : fX0_isKind a0 σ = some p) : Ct layC yX0_isKind cX0_isKind 1 (some .boolean) 1 (fun ad => [.int a0]) σ (okI p) :=
 ct_of (L0 := fun ad => [some (.int a0)]) (by decide) (fun _ => Nat.le_of_ble_eq_true rfl) (fun _ => rfl) (fun K C hQ => g_mask [true] rfl (bX0_isKind_b0 C hQ h))
-- X0_mayBreak
theorem dX0_mayBreak_0 : decode cX0_mayBreak 0 = .ok (.iload_n 0, 1) := by decide +kernel
theorem dX0_mayBreak_1 : decode cX0_mayBreak 1 = .ok (.iconst 2, 1) := by decide +kernel
theorem dX0_mayBreak_2 : decode cX0_mayBreak 2 = .ok (.if_icmp .ne 22, 3) := by decide +kernel
theorem dX0_mayBreak_5 : decode cX0_mayBreak 5 = .ok (.iload_n 1, 1) := by decide +kernel
theorem dX0_mayBreak_6 : decode cX0_mayBreak 6 = .ok (.iconst 2, 1) := by decide +kernel
theorem dX0_mayBreak_7 : decode cX0_mayBreak 7 = .ok (.if_icmp .lt 13, 3) := by decide +kernel
theorem dX0_mayBreak_10 : decode cX0_mayBreak 10 = .ok (.iload_n 1, 1) := by decide +kernel
theorem dX0_mayBreak_11 : decode cX0_mayBreak 11 = .ok (.bipush 9, 2) := by decide +kernel
theorem dX0_mayBreak_13 : decode cX0_mayBreak 13 = .ok (.if_icmp .gt 7, 3) := by decide +kernel
theorem dX0_mayBreak_16 : decode cX0_mayBreak 16 = .ok (.iconst 1, 1) := by decide +kernel
theorem dX0_mayBreak_17 : decode cX0_mayBreak 17 = .ok (.goto 16, 3) := by decide +kernel
theorem dX0_mayBreak_20 : decode cX0_mayBreak 20 = .ok (.iconst 0, 1) := by decide +kernel
theorem dX0_mayBreak_21 : decode cX0_mayBreak 21 = .ok (.goto 12, 3) := by decide +kernel
theorem dX0_mayBreak_24 : decode cX0_mayBreak 24 = .ok (.iload_n 1, 1) := by decide +kernel
theorem dX0_mayBreak_25 : decode cX0_mayBreak 25 = .ok (.ifCond .ne 7, 3) := by decide +kernel
theorem dX0_mayBreak_28 : decode cX0_mayBreak 28 = .ok (.iconst 1, 1) := by decide +kernel
theorem dX0_mayBreak_29 : decode cX0_mayBreak 29 = .ok (.goto 4, 3) := by decide +kernel
theorem dX0_mayBreak_32 : decode cX0_mayBreak 32 = .ok (.iconst 0, 1) := by decide +kernel
theorem dX0_mayBreak_33 : decode cX0_mayBreak 33 = .ok (.ireturn, 1) := by decide +kernel
theorem cw_X0_mayBreak : Cw yX0_mayBreak cX0_mayBreak 2 (some .boolean) 2 := ⟨aw_650, aw_24, ⟨by decide, by decide⟩, by decide +kernel, by decide⟩
def fX0_mayBreak_b20  (σ : Sg) : Option (Int32 × Sg) :=
  some ((0 : Int32), σ)
def fX0_mayBreak_b0 (x0 : Int32) (x1 : Int32) (σ : Sg) : Option (Int32 × Sg) :=
  if x0 = (2 : Int32) then (if x1 < (2 : Int32) then (fX0_mayBreak_b20 σ) else (if (9 : Int32) < x1 then (fX0_mayBreak_b20 σ) else (some ((1 : Int32), σ)))) else (if x1 = 0 then (some ((1 : Int32), σ)) else (some ((0 : Int32), σ)))
set_option maxRecDepth 4000 in
theorem bX0_mayBreak_b20 {K : KT}  {σ : Sg} {o : Int32 × Sg} (C : Cx K layC cX0_mayBreak RX0 2 (1) (some .boolean))  (hQ : Rk K layC (okI o)) (h : fX0_mayBreak_b20  σ = some o) : G K 20 [none, none] [] (Wd K layC σ) := by
  unfold fX0_mayBreak_b20 at h
  refine g_iconst C.c dX0_mayBreak_20 (v := (0 : Int32)) (by decide) ?_
  refine g_goto C.c (tgt := 33) dX0_mayBreak_21 (by decide) ?_
  obtain rfl := Option.some.inj h
  exact g_iret C hQ dX0_mayBreak_33 rfl ⟨rfl, rfl⟩
set_option maxRecDepth 4000 in
theorem bX0_mayBreak_b0 {K : KT} {x0 : Int32} {x1 : Int32} {σ : Sg} {o : Int32 × Sg} (C : Cx K layC cX0_mayBreak RX0 2 (1) (some .boolean))  (hQ : Rk K layC (okI o)) (h : fX0_mayBreak_b0 x0 x1 σ = some o) : G K 0 [some (.int x0), some (.int x1)] [] (Wd K layC σ) := by
  unfold fX0_mayBreak_b0 at h
  refine g_iload_n C.c dX0_mayBreak_0 rfl (i := 0) rfl ?_
  refine g_iconst C.c dX0_mayBreak_1 (v := (2 : Int32)) (by decide) ?_
  refine g_icmp_ne C.c (tgt := 24) dX0_mayBreak_2 (by decide) (fun c => ?_) (fun c => ?_)
  · replace h := ite_f c h
    refine g_iload_n C.c dX0_mayBreak_24 rfl (i := 1) rfl ?_
    refine g_if_ne C.c (tgt := 32) dX0_mayBreak_25 (by decide) (fun c => ?_) (fun c => ?_)
    · replace h := ite_f c h
      refine g_iconst C.c dX0_mayBreak_32 (v := (0 : Int32)) (by decide) ?_
      obtain rfl := Option.some.inj h
      exact g_iret C hQ dX0_mayBreak_33 rfl ⟨rfl, rfl⟩
    · replace h := ite_t c h
      refine g_iconst C.c dX0_mayBreak_28 (v := (1 : Int32)) (by decide) ?_
      refine g_goto C.c (tgt := 33) dX0_mayBreak_29 (by decide) ?_
      obtain rfl := Option.some.inj h
      exact g_iret C hQ dX0_mayBreak_33 rfl ⟨rfl, rfl⟩
  · replace h := ite_t c h
    refine g_iload_n C.c dX0_mayBreak_5 rfl (i := 1) rfl ?_
    refine g_iconst C.c dX0_mayBreak_6 (v := (2 : Int32)) (by decide) ?_
    refine g_icmp_lt C.c (tgt := 20) dX0_mayBreak_7 (by decide) (fun c => ?_) (fun c => ?_)
    · replace h := ite_t c h
      exact g_mask [false, false] rfl (bX0_mayBreak_b20 C hQ h)
    · replace h := ite_f c h
      refine g_iload_n C.c dX0_mayBreak_10 rfl (i := 1) rfl ?_
      refine g_bipush C.c dX0_mayBreak_11 (v := (9 : Int32)) (by decide) ?_
      refine g_icmp_gt C.c (tgt := 20) dX0_mayBreak_13 (by decide) (fun c => ?_) (fun c => ?_)
      · replace h := ite_t c h
        exact g_mask [false, false] rfl (bX0_mayBreak_b20 C hQ h)
      · replace h := ite_f c h
        refine g_iconst C.c dX0_mayBreak_16 (v := (1 : Int32)) (by decide) ?_
        refine g_goto C.c (tgt := 33) dX0_mayBreak_17 (by decide) ?_
        obtain rfl := Option.some.inj h
        exact g_iret C hQ dX0_mayBreak_33 rfl ⟨rfl, rfl⟩
def fX0_mayBreak (a0 : Int32) (a1 : Int32) (σ : Sg) : Option (Int32 × Sg) := fX0_mayBreak_b0 a0 a1 σ
theorem ct_X0_mayBreak {a0 : Int32} {a1 : Int32} {σ : Sg} {p : Int32 × Sg} (h : fX0_mayBreak a0 a1 σ = some p) : Ct layC yX0_mayBreak cX0_mayBreak 2 (some .boolean) 1 (fun ad => [.int a0, .int a1]) σ (okI p) :=
 ct_of (L0 := fun ad => [some (.int a0), some (.int a1)]) (by decide) (fun _ => Nat.le_of_ble_eq_true rfl) (fun _ => rfl) (fun K C hQ => g_mask [true, true] rfl (bX0_mayBreak_b0 C hQ h))
-- X0_become
theorem dX0_become_0 : decode cX0_become 0 = .ok (.aload_n 0, 1) := by decide +kernel
theorem dX0_become_1 : decode cX0_become 1 = .ok (.iload_n 1, 1) := by decide +kernel
theorem dX0_become_2 : decode cX0_become 2 = .ok (.putfield 9, 3) := by decide +kernel
theorem dX0_become_5 : decode cX0_become 5 = .ok (.aload_n 0, 1) := by decide +kernel
theorem dX0_become_6 : decode cX0_become 6 = .ok (.iload_n 2, 1) := by decide +kernel
theorem dX0_become_7 : decode cX0_become 7 = .ok (.putfield 13, 3) := by decide +kernel
theorem dX0_become_10 : decode cX0_become 10 = .ok (.aload_n 0, 1) := by decide +kernel
theorem dX0_become_11 : decode cX0_become 11 = .ok (.iload_n 3, 1) := by decide +kernel
theorem dX0_become_12 : decode cX0_become 12 = .ok (.putfield 16, 3) := by decide +kernel
theorem dX0_become_15 : decode cX0_become 15 = .ok (.aload_n 0, 1) := by decide +kernel
theorem dX0_become_16 : decode cX0_become 16 = .ok (.iload 4, 2) := by decide +kernel
theorem dX0_become_18 : decode cX0_become 18 = .ok (.putfield 19, 3) := by decide +kernel
theorem dX0_become_21 : decode cX0_become 21 = .ok (.aload_n 0, 1) := by decide +kernel
theorem dX0_become_22 : decode cX0_become 22 = .ok (.iload 5, 2) := by decide +kernel
theorem dX0_become_24 : decode cX0_become 24 = .ok (.putfield 22, 3) := by decide +kernel
theorem dX0_become_27 : decode cX0_become 27 = .ok (.aload_n 0, 1) := by decide +kernel
theorem dX0_become_28 : decode cX0_become 28 = .ok (.iload_n 1, 1) := by decide +kernel
theorem dX0_become_29 : decode cX0_become 29 = .ok (.iconst 1, 1) := by decide +kernel
theorem dX0_become_30 : decode cX0_become 30 = .ok (.if_icmp .eq 8, 3) := by decide +kernel
theorem dX0_become_33 : decode cX0_become 33 = .ok (.iload_n 1, 1) := by decide +kernel
theorem dX0_become_34 : decode cX0_become 34 = .ok (.iconst 4, 1) := by decide +kernel
theorem dX0_become_35 : decode cX0_become 35 = .ok (.if_icmp .ne 7, 3) := by decide +kernel
theorem dX0_become_38 : decode cX0_become 38 = .ok (.iconst 1, 1) := by decide +kernel
theorem dX0_become_39 : decode cX0_become 39 = .ok (.goto 4, 3) := by decide +kernel
theorem dX0_become_42 : decode cX0_become 42 = .ok (.iconst 0, 1) := by decide +kernel
theorem dX0_become_43 : decode cX0_become 43 = .ok (.putfield 25, 3) := by decide +kernel
theorem dX0_become_46 : decode cX0_become 46 = .ok (.return_, 1) := by decide +kernel
theorem cw_X0_become : Cw yX0_become cX0_become 6 none 5 := ⟨aw_654, aw_24, ⟨by decide, by decide⟩, by decide +kernel, by decide⟩
theorem pf_0_9d {K : KT} {cc : ByteArray} {nL d pc : Nat} {ret : Option FieldType} {L : List (Option Value)} {st : List Value} {σ : Sg} (C : Cx K layC cc RX0 nL d ret) {o : Nat} (hY : layC[o]? = some (0, 0, slX0)) {v : Int32}  (hd : decode cc pc = .ok (.putfield 9, 3)) (k : G K (pc + 3) L st (Wd K layC (wI σ o 0 v))) : G K pc L (.int v :: .ref (kad K o) :: st) (Wd K layC σ) := g_putI C (o := o) (ci := 0) (k := 0) hd hY rfl rfl (by decide) (Or.inl aw_133) inA0 tyX0_ok nmX0 rfl rfl rfl k
theorem pf_0_13d {K : KT} {cc : ByteArray} {nL d pc : Nat} {ret : Option FieldType} {L : List (Option Value)} {st : List Value} {σ : Sg} (C : Cx K layC cc RX0 nL d ret) {o : Nat} (hY : layC[o]? = some (0, 0, slX0)) {v : Int32}  (hd : decode cc pc = .ok (.putfield 13, 3)) (k : G K (pc + 3) L st (Wd K layC (wI σ o 1 v))) : G K pc L (.int v :: .ref (kad K o) :: st) (Wd K layC σ) := g_putI C (o := o) (ci := 0) (k := 1) hd hY rfl rfl (by decide) (Or.inl aw_137) inA0 tyX0_ok nmX0 rfl rfl rfl k
theorem pf_0_16d {K : KT} {cc : ByteArray} {nL d pc : Nat} {ret : Option FieldType} {L : List (Option Value)} {st : List Value} {σ : Sg} (C : Cx K layC cc RX0 nL d ret) {o : Nat} (hY : layC[o]? = some (0, 0, slX0)) {v : Int32}  (hd : decode cc pc = .ok (.putfield 16, 3)) (k : G K (pc + 3) L st (Wd K layC (wI σ o 2 v))) : G K pc L (.int v :: .ref (kad K o) :: st) (Wd K layC σ) := g_putI C (o := o) (ci := 0) (k := 2) hd hY rfl rfl (by decide) (Or.inl aw_139) inA0 tyX0_ok nmX0 rfl rfl rfl k
theorem pf_0_19d {K : KT} {cc : ByteArray} {nL d pc : Nat} {ret : Option FieldType} {L : List (Option Value)} {st : List Value} {σ : Sg} (C : Cx K layC cc RX0 nL d ret) {o : Nat} (hY : layC[o]? = some (0, 0, slX0)) {v : Int32}  (hd : decode cc pc = .ok (.putfield 19, 3)) (k : G K (pc + 3) L st (Wd K layC (wI σ o 3 v))) : G K pc L (.int v :: .ref (kad K o) :: st) (Wd K layC σ) := g_putI C (o := o) (ci := 0) (k := 3) hd hY rfl rfl (by decide) (Or.inl aw_142) inA0 tyX0_ok nmX0 rfl rfl rfl k
theorem pf_0_22d {K : KT} {cc : ByteArray} {nL d pc : Nat} {ret : Option FieldType} {L : List (Option Value)} {st : List Value} {σ : Sg} (C : Cx K layC cc RX0 nL d ret) {o : Nat} (hY : layC[o]? = some (0, 0, slX0)) {v : Int32}  (hd : decode cc pc = .ok (.putfield 22, 3)) (k : G K (pc + 3) L st (Wd K layC (wI σ o 4 v))) : G K pc L (.int v :: .ref (kad K o) :: st) (Wd K layC σ) := g_putI C (o := o) (ci := 0) (k := 4) hd hY rfl rfl (by decide) (Or.inl aw_144) inA0 tyX0_ok nmX0 rfl rfl rfl k
theorem pf_0_25d {K : KT} {cc : ByteArray} {nL d pc : Nat} {ret : Option FieldType} {L : List (Option Value)} {st : List Value} {σ : Sg} (C : Cx K layC cc RX0 nL d ret) {o : Nat} (hY : layC[o]? = some (0, 0, slX0)) {v : Int32} (hb : isB v = true) (hd : decode cc pc = .ok (.putfield 25, 3)) (k : G K (pc + 3) L st (Wd K layC (wI σ o 5 v))) : G K pc L (.int v :: .ref (kad K o) :: st) (Wd K layC σ) := g_putI C (o := o) (ci := 0) (k := 5) hd hY rfl rfl (by decide) (Or.inl aw_146) inA0 tyX0_ok nmX0 rfl (isB_n hb) (isB_f hb) k
def fX0_become_b38 (u0 : Nat) (σ : Sg) : Option (Sg) :=
  some (wI σ u0 5 (1 : Int32))
def fX0_become_b0 (w0 : Nat) (x1 : Int32) (x2 : Int32) (x3 : Int32) (x4 : Int32) (x5 : Int32) (σ : Sg) : Option (Sg) :=
  if x1 = (1 : Int32) then (fX0_become_b38 w0 (wI (wI (wI (wI (wI σ w0 0 x1) w0 1 x2) w0 2 x3) w0 3 x4) w0 4 x5)) else (if x1 = (4 : Int32) then (fX0_become_b38 w0 (wI (wI (wI (wI (wI σ w0 0 x1) w0 1 x2) w0 2 x3) w0 3 x4) w0 4 x5)) else (some (wI (wI (wI (wI (wI (wI σ w0 0 x1) w0 1 x2) w0 2 x3) w0 3 x4) w0 4 x5) w0 5 (0 : Int32))))
set_option maxRecDepth 4000 in
theorem bX0_become_b38 {K : KT} {u0 : Nat} {σ : Sg} {o : Sg} (C : Cx K layC cX0_become RX0 6 (1) none) (hu0 : layC[u0]? = some (0, 0, slX0)) (hQ : Rk K layC (okV o)) (h : fX0_become_b38 u0 σ = some o) : G K 38 [none, none, none, none, none, none] [.ref (kad K u0)] (Wd K layC σ) := by
  unfold fX0_become_b38 at h
  refine g_iconst C.c dX0_become_38 (v := (1 : Int32)) (by decide) ?_
  refine g_goto C.c (tgt := 43) dX0_become_39 (by decide) ?_
  refine pf_0_25d C hu0 (by decide) dX0_become_43 ?_
  obtain rfl := Option.some.inj h
  exact g_vret C hQ dX0_become_46 ⟨rfl, rfl⟩
set_option maxRecDepth 4000 in
theorem bX0_become_b0 {K : KT} {w0 : Nat} {x1 : Int32} {x2 : Int32} {x3 : Int32} {x4 : Int32} {x5 : Int32} {σ : Sg} {o : Sg} (C : Cx K layC cX0_become RX0 6 (1) none) (hw0 : layC[w0]? = some (0, 0, slX0)) (hQ : Rk K layC (okV o)) (h : fX0_become_b0 w0 x1 x2 x3 x4 x5 σ = some o) : G K 0 [some (.ref (kad K w0)), some (.int x1), some (.int x2), some (.int x3), some (.int x4), some (.int x5)] [] (Wd K layC σ) := by
  unfold fX0_become_b0 at h
  refine g_aload_n C.c dX0_become_0 rfl (i := 0) rfl ?_
  refine g_iload_n C.c dX0_become_1 rfl (i := 1) rfl ?_
  refine pf_0_9d C hw0 dX0_become_2 ?_
  refine g_aload_n C.c dX0_become_5 rfl (i := 0) rfl ?_
  refine g_iload_n C.c dX0_become_6 rfl (i := 2) rfl ?_
  refine pf_0_13d C hw0 dX0_become_7 ?_
  refine g_aload_n C.c dX0_become_10 rfl (i := 0) rfl ?_
  refine g_iload_n C.c dX0_become_11 rfl (i := 3) rfl ?_
  refine pf_0_16d C hw0 dX0_become_12 ?_
  refine g_aload_n C.c dX0_become_15 rfl (i := 0) rfl ?_
  refine g_iload C.c dX0_become_16 (i := 4) rfl ?_
  refine pf_0_19d C hw0 dX0_become_18 ?_
  refine g_aload_n C.c dX0_become_21 rfl (i := 0) rfl ?_
  refine g_iload C.c dX0_become_22 (i := 5) rfl ?_
  refine pf_0_22d C hw0 dX0_become_24 ?_
  refine g_aload_n C.c dX0_become_27 rfl (i := 0) rfl ?_
  refine g_iload_n C.c dX0_become_28 rfl (i := 1) rfl ?_
  refine g_iconst C.c dX0_become_29 (v := (1 : Int32)) (by decide) ?_
  refine g_icmp_eq C.c (tgt := 38) dX0_become_30 (by decide) (fun c => ?_) (fun c => ?_)
  · replace h := ite_t c h
    exact g_mask [false, false, false, false, false, false] rfl (bX0_become_b38 C hw0 hQ h)
  · replace h := ite_f c h
    refine g_iload_n C.c dX0_become_33 rfl (i := 1) rfl ?_
    refine g_iconst C.c dX0_become_34 (v := (4 : Int32)) (by decide) ?_
    refine g_icmp_ne C.c (tgt := 42) dX0_become_35 (by decide) (fun c => ?_) (fun c => ?_)
    · replace h := ite_f c h
      refine g_iconst C.c dX0_become_42 (v := (0 : Int32)) (by decide) ?_
      refine pf_0_25d C hw0 (by decide) dX0_become_43 ?_
      obtain rfl := Option.some.inj h
      exact g_vret C hQ dX0_become_46 ⟨rfl, rfl⟩
    · replace h := ite_t c h
      exact g_mask [false, false, false, false, false, false] rfl (bX0_become_b38 C hw0 hQ h)
def fX0_become (o0 : Nat) (a0 : Int32) (a1 : Int32) (a2 : Int32) (a3 : Int32) (a4 : Int32) (σ : Sg) : Option (Sg) := fX0_become_b0 o0 a0 a1 a2 a3 a4 σ
theorem ct_X0_become {o0 : Nat} {a0 : Int32} {a1 : Int32} {a2 : Int32} {a3 : Int32} {a4 : Int32} {σ : Sg} {p : Sg} (hY0 : layC[o0]? = some (0, 0, slX0)) (h : fX0_become o0 a0 a1 a2 a3 a4 σ = some p) : Ct layC yX0_become cX0_become 6 none 1 (fun ad => [.ref (ad o0), .int a0, .int a1, .int a2, .int a3, .int a4]) σ (okV p) :=
 ct_of (L0 := fun ad => [some (.ref (ad o0)), some (.int a0), some (.int a1), some (.int a2), some (.int a3), some (.int a4)]) (by decide) (fun _ => Nat.le_of_ble_eq_true rfl) (fun _ => rfl) (fun K C hQ => g_mask [true, true, true, true, true, true] rfl (bX0_become_b0 C hY0 hQ h))
-- X0_isA
theorem dX0_isA_0 : decode cX0_isA 0 = .ok (.iload_n 1, 1) := by decide +kernel
theorem dX0_isA_1 : decode cX0_isA 1 = .ok (.ifCond .eq 23, 3) := by decide +kernel
theorem dX0_isA_4 : decode cX0_isA 4 = .ok (.iload_n 1, 1) := by decide +kernel
theorem dX0_isA_5 : decode cX0_isA 5 = .ok (.aload_n 0, 1) := by decide +kernel
theorem dX0_isA_6 : decode cX0_isA 6 = .ok (.getfield 9, 3) := by decide +kernel
theorem dX0_isA_9 : decode cX0_isA 9 = .ok (.if_icmp .eq 15, 3) := by decide +kernel
theorem dX0_isA_12 : decode cX0_isA 12 = .ok (.iload_n 1, 1) := by decide +kernel
theorem dX0_isA_13 : decode cX0_isA 13 = .ok (.iconst 1, 1) := by decide +kernel
theorem dX0_isA_14 : decode cX0_isA 14 = .ok (.if_icmp .ne 14, 3) := by decide +kernel
theorem dX0_isA_17 : decode cX0_isA 17 = .ok (.aload_n 0, 1) := by decide +kernel
theorem dX0_isA_18 : decode cX0_isA 18 = .ok (.getfield 25, 3) := by decide +kernel
theorem dX0_isA_21 : decode cX0_isA 21 = .ok (.ifCond .eq 7, 3) := by decide +kernel
theorem dX0_isA_24 : decode cX0_isA 24 = .ok (.iconst 1, 1) := by decide +kernel
theorem dX0_isA_25 : decode cX0_isA 25 = .ok (.goto 4, 3) := by decide +kernel
theorem dX0_isA_28 : decode cX0_isA 28 = .ok (.iconst 0, 1) := by decide +kernel
theorem dX0_isA_29 : decode cX0_isA 29 = .ok (.ireturn, 1) := by decide +kernel
theorem cw_X0_isA : Cw yX0_isA cX0_isA 2 (some .boolean) 1 := ⟨aw_440, aw_24, ⟨by decide, by decide⟩, by decide +kernel, by decide⟩
theorem gf_0_9d {K : KT} {cc : ByteArray} {nL d pc : Nat} {ret : Option FieldType} {L : List (Option Value)} {st : List Value} {σ : Sg} (C : Cx K layC cc RX0 nL d ret) {o : Nat} (hY : layC[o]? = some (0, 0, slX0)) (hd : decode cc pc = .ok (.getfield 9, 3)) (k : G K (pc + 3) L (.int (rI σ o 0) :: st) (Wd K layC σ)) : G K pc L (.ref (kad K o) :: st) (Wd K layC σ) := g_get C (o := o) (ci := 0) (k := 0) hd hY rfl rfl (by decide) (Or.inl aw_133) inA0 rfl k
theorem gf_0_25d {K : KT} {cc : ByteArray} {nL d pc : Nat} {ret : Option FieldType} {L : List (Option Value)} {st : List Value} {σ : Sg} (C : Cx K layC cc RX0 nL d ret) {o : Nat} (hY : layC[o]? = some (0, 0, slX0)) (hd : decode cc pc = .ok (.getfield 25, 3)) (k : G K (pc + 3) L (.int (rI σ o 5) :: st) (Wd K layC σ)) : G K pc L (.ref (kad K o) :: st) (Wd K layC σ) := g_get C (o := o) (ci := 0) (k := 5) hd hY rfl rfl (by decide) (Or.inl aw_146) inA0 rfl k
def fX0_isA_b24  (σ : Sg) : Option (Int32 × Sg) :=
  some ((1 : Int32), σ)
def fX0_isA_b0 (w0 : Nat) (x1 : Int32) (σ : Sg) : Option (Int32 × Sg) :=
  if x1 = 0 then (fX0_isA_b24 σ) else (if x1 = (rI σ w0 0) then (fX0_isA_b24 σ) else (if x1 = (1 : Int32) then (if (rI σ w0 5) = 0 then (some ((0 : Int32), σ)) else (fX0_isA_b24 σ)) else (some ((0 : Int32), σ))))
set_option maxRecDepth 4000 in
theorem bX0_isA_b24 {K : KT}  {σ : Sg} {o : Int32 × Sg} (C : Cx K layC cX0_isA RX0 2 (1) (some .boolean))  (hQ : Rk K layC (okI o)) (h : fX0_isA_b24  σ = some o) : G K 24 [none, none] [] (Wd K layC σ) := by
  unfold fX0_isA_b24 at h
  refine g_iconst C.c dX0_isA_24 (v := (1 : Int32)) (by decide) ?_
  refine g_goto C.c (tgt := 29) dX0_isA_25 (by decide) ?_
  obtain rfl := Option.some.inj h
  exact g_iret C hQ dX0_isA_29 rfl ⟨rfl, rfl⟩
set_option maxRecDepth 4000 in
theorem bX0_isA_b0 {K : KT} {w0 : Nat} {x1 : Int32} {σ : Sg} {o : Int32 × Sg} (C : Cx K layC cX0_isA RX0 2 (1) (some .boolean)) (hw0 : layC[w0]? = some (0, 0, slX0)) (hQ : Rk K layC (okI o)) (h : fX0_isA_b0 w0 x1 σ = some o) : G K 0 [some (.ref (kad K w0)), some (.int x1)] [] (Wd K layC σ) := by
  unfold fX0_isA_b0 at h
  refine g_iload_n C.c dX0_isA_0 rfl (i := 1) rfl ?_
  refine g_if_eq C.c (tgt := 24) dX0_isA_1 (by decide) (fun c => ?_) (fun c => ?_)
  · replace h := ite_t c h
    exact g_mask [false, false] rfl (bX0_isA_b24 C hQ h)
  · replace h := ite_f c h
    refine g_iload_n C.c dX0_isA_4 rfl (i := 1) rfl ?_
    refine g_aload_n C.c dX0_isA_5 rfl (i := 0) rfl ?_
    refine gf_0_9d C hw0 dX0_isA_6 ?_
    refine g_icmp_eq C.c (tgt := 24) dX0_isA_9 (by decide) (fun c => ?_) (fun c => ?_)
    · replace h := ite_t c h
      exact g_mask [false, false] rfl (bX0_isA_b24 C hQ h)
    · replace h := ite_f c h
      refine g_iload_n C.c dX0_isA_12 rfl (i := 1) rfl ?_
      refine g_iconst C.c dX0_isA_13 (v := (1 : Int32)) (by decide) ?_
      refine g_icmp_ne C.c (tgt := 28) dX0_isA_14 (by decide) (fun c => ?_) (fun c => ?_)
      · replace h := ite_f c h
        refine g_iconst C.c dX0_isA_28 (v := (0 : Int32)) (by decide) ?_
        obtain rfl := Option.some.inj h
        exact g_iret C hQ dX0_isA_29 rfl ⟨rfl, rfl⟩
      · replace h := ite_t c h
        refine g_aload_n C.c dX0_isA_17 rfl (i := 0) rfl ?_
        refine gf_0_25d C hw0 dX0_isA_18 ?_
        refine g_if_eq C.c (tgt := 28) dX0_isA_21 (by decide) (fun c => ?_) (fun c => ?_)
        · replace h := ite_t c h
          refine g_iconst C.c dX0_isA_28 (v := (0 : Int32)) (by decide) ?_
          obtain rfl := Option.some.inj h
          exact g_iret C hQ dX0_isA_29 rfl ⟨rfl, rfl⟩
        · replace h := ite_f c h
          exact g_mask [false, false] rfl (bX0_isA_b24 C hQ h)
def fX0_isA (o0 : Nat) (a0 : Int32) (σ : Sg) : Option (Int32 × Sg) := fX0_isA_b0 o0 a0 σ
theorem ct_X0_isA {o0 : Nat} {a0 : Int32} {σ : Sg} {p : Int32 × Sg} (hY0 : layC[o0]? = some (0, 0, slX0)) (h : fX0_isA o0 a0 σ = some p) : Ct layC yX0_isA cX0_isA 2 (some .boolean) 1 (fun ad => [.ref (ad o0), .int a0]) σ (okI p) :=
 ct_of (L0 := fun ad => [some (.ref (ad o0)), some (.int a0)]) (by decide) (fun _ => Nat.le_of_ble_eq_true rfl) (fun _ => rfl) (fun K C hQ => g_mask [true, true] rfl (bX0_isA_b0 C hY0 hQ h))
-- X0_meltOf
theorem dX0_meltOf_0 : decode cX0_meltOf 0 = .ok (.aload_n 0, 1) := by decide +kernel
theorem dX0_meltOf_1 : decode cX0_meltOf 1 = .ok (.getfield 9, 3) := by decide +kernel
theorem dX0_meltOf_4 : decode cX0_meltOf 4 = .ok (.iconst 3, 1) := by decide +kernel
theorem dX0_meltOf_5 : decode cX0_meltOf 5 = .ok (.if_icmp .ne 9, 3) := by decide +kernel
theorem dX0_meltOf_8 : decode cX0_meltOf 8 = .ok (.iload_n 1, 1) := by decide +kernel
theorem dX0_meltOf_9 : decode cX0_meltOf 9 = .ok (.iconst 1, 1) := by decide +kernel
theorem dX0_meltOf_10 : decode cX0_meltOf 10 = .ok (.iadd, 1) := by decide +kernel
theorem dX0_meltOf_11 : decode cX0_meltOf 11 = .ok (.goto 4, 3) := by decide +kernel
theorem dX0_meltOf_14 : decode cX0_meltOf 14 = .ok (.iload_n 1, 1) := by decide +kernel
theorem dX0_meltOf_15 : decode cX0_meltOf 15 = .ok (.istore_n 3, 1) := by decide +kernel
theorem dX0_meltOf_16 : decode cX0_meltOf 16 = .ok (.iconst 1, 1) := by decide +kernel
theorem dX0_meltOf_17 : decode cX0_meltOf 17 = .ok (.iload_n 3, 1) := by decide +kernel
theorem dX0_meltOf_18 : decode cX0_meltOf 18 = .ok (.iload_n 2, 1) := by decide +kernel
theorem dX0_meltOf_19 : decode cX0_meltOf 19 = .ok (.imul, 1) := by decide +kernel
theorem dX0_meltOf_20 : decode cX0_meltOf 20 = .ok (.bipush 100, 2) := by decide +kernel
theorem dX0_meltOf_22 : decode cX0_meltOf 22 = .ok (.idiv, 1) := by decide +kernel
theorem dX0_meltOf_23 : decode cX0_meltOf 23 = .ok (.iadd, 1) := by decide +kernel
theorem dX0_meltOf_24 : decode cX0_meltOf 24 = .ok (.istore 4, 2) := by decide +kernel
theorem dX0_meltOf_26 : decode cX0_meltOf 26 = .ok (.aload_n 0, 1) := by decide +kernel
theorem dX0_meltOf_27 : decode cX0_meltOf 27 = .ok (.getfield 25, 3) := by decide +kernel
theorem dX0_meltOf_30 : decode cX0_meltOf 30 = .ok (.ifCond .eq 12, 3) := by decide +kernel
theorem dX0_meltOf_33 : decode cX0_meltOf 33 = .ok (.iload 4, 2) := by decide +kernel
theorem dX0_meltOf_35 : decode cX0_meltOf 35 = .ok (.iconst 1, 1) := by decide +kernel
theorem dX0_meltOf_36 : decode cX0_meltOf 36 = .ok (.iadd, 1) := by decide +kernel
theorem dX0_meltOf_37 : decode cX0_meltOf 37 = .ok (.iconst 2, 1) := by decide +kernel
theorem dX0_meltOf_38 : decode cX0_meltOf 38 = .ok (.idiv, 1) := by decide +kernel
theorem dX0_meltOf_39 : decode cX0_meltOf 39 = .ok (.goto 5, 3) := by decide +kernel
theorem dX0_meltOf_42 : decode cX0_meltOf 42 = .ok (.iload 4, 2) := by decide +kernel
theorem dX0_meltOf_44 : decode cX0_meltOf 44 = .ok (.ireturn, 1) := by decide +kernel
theorem cw_X0_meltOf : Cw yX0_meltOf cX0_meltOf 5 (some .int) 2 := ⟨aw_536, aw_24, ⟨by decide, by decide⟩, by decide +kernel, by decide⟩
def fX0_meltOf_b15 (w0 : Nat) (x2 : Int32) (y0 : Int32) (σ : Sg) : Option (Int32 × Sg) :=
  if (rI σ w0 5) = 0 then (some (((1 : Int32) + ((y0 * x2) / (100 : Int32))), σ)) else (some (((((1 : Int32) + ((y0 * x2) / (100 : Int32))) + (1 : Int32)) / (2 : Int32)), σ))
def fX0_meltOf_b0 (w0 : Nat) (x1 : Int32) (x2 : Int32) (σ : Sg) : Option (Int32 × Sg) :=
  if (rI σ w0 0) = (3 : Int32) then (fX0_meltOf_b15 w0 x2 (x1 + (1 : Int32)) σ) else (fX0_meltOf_b15 w0 x2 x1 σ)
set_option maxRecDepth 4000 in
theorem bX0_meltOf_b15 {K : KT} {w0 : Nat} {x2 : Int32} {y0 : Int32} {σ : Sg} {o : Int32 × Sg} (C : Cx K layC cX0_meltOf RX0 5 (1) (some .int)) (hw0 : layC[w0]? = some (0, 0, slX0)) (hQ : Rk K layC (okI o)) (h : fX0_meltOf_b15 w0 x2 y0 σ = some o) : G K 15 [some (.ref (kad K w0)), none, some (.int x2), none, none] [.int y0] (Wd K layC σ) := by
  unfold fX0_meltOf_b15 at h
  refine g_istore_n C.c (i := 3) (L' := [some (.ref (kad K w0)), none, some (.int x2), some (.int y0), none]) dX0_meltOf_15 rfl (Nat.le_of_ble_eq_true rfl) rfl ?_
  refine g_iconst C.c dX0_meltOf_16 (v := (1 : Int32)) (by decide) ?_
  refine g_iload_n C.c dX0_meltOf_17 rfl (i := 3) rfl ?_
  refine g_iload_n C.c dX0_meltOf_18 rfl (i := 2) rfl ?_
  refine g_imul C.c dX0_meltOf_19 ?_
  refine g_bipush C.c dX0_meltOf_20 (v := (100 : Int32)) (by decide) ?_
  refine g_idiv C.c dX0_meltOf_22 (by decide) ?_
  refine g_iadd C.c dX0_meltOf_23 ?_
  refine g_istore C.c (i := 4) (L' := [some (.ref (kad K w0)), none, some (.int x2), some (.int y0), some (.int ((1 : Int32) + ((y0 * x2) / (100 : Int32))))]) dX0_meltOf_24 (Nat.le_of_ble_eq_true rfl) rfl ?_
  refine g_aload_n C.c dX0_meltOf_26 rfl (i := 0) rfl ?_
  refine gf_0_25d C hw0 dX0_meltOf_27 ?_
  refine g_if_eq C.c (tgt := 42) dX0_meltOf_30 (by decide) (fun c => ?_) (fun c => ?_)
  · replace h := ite_t c h
    refine g_iload C.c dX0_meltOf_42 (i := 4) rfl ?_
    obtain rfl := Option.some.inj h
    exact g_iret C hQ dX0_meltOf_44 rfl ⟨rfl, rfl⟩
  · replace h := ite_f c h
    refine g_iload C.c dX0_meltOf_33 (i := 4) rfl ?_
    refine g_iconst C.c dX0_meltOf_35 (v := (1 : Int32)) (by decide) ?_
    refine g_iadd C.c dX0_meltOf_36 ?_
    refine g_iconst C.c dX0_meltOf_37 (v := (2 : Int32)) (by decide) ?_
    refine g_idiv C.c dX0_meltOf_38 (by decide) ?_
    refine g_goto C.c (tgt := 44) dX0_meltOf_39 (by decide) ?_
    obtain rfl := Option.some.inj h
    exact g_iret C hQ dX0_meltOf_44 rfl ⟨rfl, rfl⟩
set_option maxRecDepth 4000 in
theorem bX0_meltOf_b0 {K : KT} {w0 : Nat} {x1 : Int32} {x2 : Int32} {σ : Sg} {o : Int32 × Sg} (C : Cx K layC cX0_meltOf RX0 5 (1) (some .int)) (hw0 : layC[w0]? = some (0, 0, slX0)) (hQ : Rk K layC (okI o)) (h : fX0_meltOf_b0 w0 x1 x2 σ = some o) : G K 0 [some (.ref (kad K w0)), some (.int x1), some (.int x2), none, none] [] (Wd K layC σ) := by
  unfold fX0_meltOf_b0 at h
  refine g_aload_n C.c dX0_meltOf_0 rfl (i := 0) rfl ?_
  refine gf_0_9d C hw0 dX0_meltOf_1 ?_
  refine g_iconst C.c dX0_meltOf_4 (v := (3 : Int32)) (by decide) ?_
  refine g_icmp_ne C.c (tgt := 14) dX0_meltOf_5 (by decide) (fun c => ?_) (fun c => ?_)
  · replace h := ite_f c h
    refine g_iload_n C.c dX0_meltOf_14 rfl (i := 1) rfl ?_
    exact g_mask [true, false, true, false, false] rfl (bX0_meltOf_b15 C hw0 hQ h)
  · replace h := ite_t c h
    refine g_iload_n C.c dX0_meltOf_8 rfl (i := 1) rfl ?_
    refine g_iconst C.c dX0_meltOf_9 (v := (1 : Int32)) (by decide) ?_
    refine g_iadd C.c dX0_meltOf_10 ?_
    refine g_goto C.c (tgt := 15) dX0_meltOf_11 (by decide) ?_
    exact g_mask [true, false, true, false, false] rfl (bX0_meltOf_b15 C hw0 hQ h)
def fX0_meltOf (o0 : Nat) (a0 : Int32) (a1 : Int32) (σ : Sg) : Option (Int32 × Sg) := fX0_meltOf_b0 o0 a0 a1 σ
theorem ct_X0_meltOf {o0 : Nat} {a0 : Int32} {a1 : Int32} {σ : Sg} {p : Int32 × Sg} (hY0 : layC[o0]? = some (0, 0, slX0)) (h : fX0_meltOf o0 a0 a1 σ = some p) : Ct layC yX0_meltOf cX0_meltOf 5 (some .int) 1 (fun ad => [.ref (ad o0), .int a0, .int a1]) σ (okI p) :=
 ct_of (L0 := fun ad => [some (.ref (ad o0)), some (.int a0), some (.int a1), none, none]) (by decide) (fun _ => Nat.le_of_ble_eq_true rfl) (fun _ => rfl) (fun K C hQ => g_mask [true, true, true, false, false] rfl (bX0_meltOf_b0 C hY0 hQ h))
-- X0_breaksOn
theorem dX0_breaksOn_0 : decode cX0_breaksOn 0 = .ok (.aload_n 0, 1) := by decide +kernel
theorem dX0_breaksOn_1 : decode cX0_breaksOn 1 = .ok (.getfield 9, 3) := by decide +kernel
theorem dX0_breaksOn_4 : decode cX0_breaksOn 4 = .ok (.iconst 2, 1) := by decide +kernel
theorem dX0_breaksOn_5 : decode cX0_breaksOn 5 = .ok (.if_icmp .ne 23, 3) := by decide +kernel
theorem dX0_breaksOn_8 : decode cX0_breaksOn 8 = .ok (.aload_n 0, 1) := by decide +kernel
theorem dX0_breaksOn_9 : decode cX0_breaksOn 9 = .ok (.getfield 22, 3) := by decide +kernel
theorem dX0_breaksOn_12 : decode cX0_breaksOn 12 = .ok (.ifCond .le 16, 3) := by decide +kernel
theorem dX0_breaksOn_15 : decode cX0_breaksOn 15 = .ok (.iload_n 1, 1) := by decide +kernel
theorem dX0_breaksOn_16 : decode cX0_breaksOn 16 = .ok (.aload_n 0, 1) := by decide +kernel
theorem dX0_breaksOn_17 : decode cX0_breaksOn 17 = .ok (.getfield 22, 3) := by decide +kernel
theorem dX0_breaksOn_20 : decode cX0_breaksOn 20 = .ok (.irem, 1) := by decide +kernel
theorem dX0_breaksOn_21 : decode cX0_breaksOn 21 = .ok (.ifCond .ne 7, 3) := by decide +kernel
theorem dX0_breaksOn_24 : decode cX0_breaksOn 24 = .ok (.iconst 1, 1) := by decide +kernel
theorem dX0_breaksOn_25 : decode cX0_breaksOn 25 = .ok (.goto 4, 3) := by decide +kernel
theorem dX0_breaksOn_28 : decode cX0_breaksOn 28 = .ok (.iconst 0, 1) := by decide +kernel
theorem dX0_breaksOn_29 : decode cX0_breaksOn 29 = .ok (.ireturn, 1) := by decide +kernel
theorem cw_X0_breaksOn : Cw yX0_breaksOn cX0_breaksOn 2 (some .boolean) 1 := ⟨aw_540, aw_24, ⟨by decide, by decide⟩, by decide +kernel, by decide⟩
theorem gf_0_22d {K : KT} {cc : ByteArray} {nL d pc : Nat} {ret : Option FieldType} {L : List (Option Value)} {st : List Value} {σ : Sg} (C : Cx K layC cc RX0 nL d ret) {o : Nat} (hY : layC[o]? = some (0, 0, slX0)) (hd : decode cc pc = .ok (.getfield 22, 3)) (k : G K (pc + 3) L (.int (rI σ o 4) :: st) (Wd K layC σ)) : G K pc L (.ref (kad K o) :: st) (Wd K layC σ) := g_get C (o := o) (ci := 0) (k := 4) hd hY rfl rfl (by decide) (Or.inl aw_144) inA0 rfl k
def fX0_breaksOn_b0 (w0 : Nat) (x1 : Int32) (σ : Sg) : Option (Int32 × Sg) :=
  if (rI σ w0 0) = (2 : Int32) then (if (rI σ w0 4) ≤ 0 then (some ((0 : Int32), σ)) else (if (rI σ w0 4) = 0 then none else if (x1 - x1 / (rI σ w0 4) * (rI σ w0 4)) = 0 then (some ((1 : Int32), σ)) else (some ((0 : Int32), σ)))) else (some ((0 : Int32), σ))
set_option maxRecDepth 4000 in
theorem bX0_breaksOn_b0 {K : KT} {w0 : Nat} {x1 : Int32} {σ : Sg} {o : Int32 × Sg} (C : Cx K layC cX0_breaksOn RX0 2 (1) (some .boolean)) (hw0 : layC[w0]? = some (0, 0, slX0)) (hQ : Rk K layC (okI o)) (h : fX0_breaksOn_b0 w0 x1 σ = some o) : G K 0 [some (.ref (kad K w0)), some (.int x1)] [] (Wd K layC σ) := by
  unfold fX0_breaksOn_b0 at h
  refine g_aload_n C.c dX0_breaksOn_0 rfl (i := 0) rfl ?_
  refine gf_0_9d C hw0 dX0_breaksOn_1 ?_
  refine g_iconst C.c dX0_breaksOn_4 (v := (2 : Int32)) (by decide) ?_
  refine g_icmp_ne C.c (tgt := 28) dX0_breaksOn_5 (by decide) (fun c => ?_) (fun c => ?_)
  · replace h := ite_f c h
    refine g_iconst C.c dX0_breaksOn_28 (v := (0 : Int32)) (by decide) ?_
    obtain rfl := Option.some.inj h
    exact g_iret C hQ dX0_breaksOn_29 rfl ⟨rfl, rfl⟩
  · replace h := ite_t c h
    refine g_aload_n C.c dX0_breaksOn_8 rfl (i := 0) rfl ?_
    refine gf_0_22d C hw0 dX0_breaksOn_9 ?_
    refine g_if_le C.c (tgt := 28) dX0_breaksOn_12 (by decide) (fun c => ?_) (fun c => ?_)
    · replace h := ite_t c h
      refine g_iconst C.c dX0_breaksOn_28 (v := (0 : Int32)) (by decide) ?_
      obtain rfl := Option.some.inj h
      exact g_iret C hQ dX0_breaksOn_29 rfl ⟨rfl, rfl⟩
    · replace h := ite_f c h
      refine g_iload_n C.c dX0_breaksOn_15 rfl (i := 1) rfl ?_
      refine g_aload_n C.c dX0_breaksOn_16 rfl (i := 0) rfl ?_
      refine gf_0_22d C hw0 dX0_breaksOn_17 ?_
      obtain ⟨c1, h⟩ := chk0 h
      refine g_irem C.c dX0_breaksOn_20 c1 ?_
      refine g_if_ne C.c (tgt := 28) dX0_breaksOn_21 (by decide) (fun c => ?_) (fun c => ?_)
      · replace h := ite_f c h
        refine g_iconst C.c dX0_breaksOn_28 (v := (0 : Int32)) (by decide) ?_
        obtain rfl := Option.some.inj h
        exact g_iret C hQ dX0_breaksOn_29 rfl ⟨rfl, rfl⟩
      · replace h := ite_t c h
        refine g_iconst C.c dX0_breaksOn_24 (v := (1 : Int32)) (by decide) ?_
        refine g_goto C.c (tgt := 29) dX0_breaksOn_25 (by decide) ?_
        obtain rfl := Option.some.inj h
        exact g_iret C hQ dX0_breaksOn_29 rfl ⟨rfl, rfl⟩
def fX0_breaksOn (o0 : Nat) (a0 : Int32) (σ : Sg) : Option (Int32 × Sg) := fX0_breaksOn_b0 o0 a0 σ
theorem ct_X0_breaksOn {o0 : Nat} {a0 : Int32} {σ : Sg} {p : Int32 × Sg} (hY0 : layC[o0]? = some (0, 0, slX0)) (h : fX0_breaksOn o0 a0 σ = some p) : Ct layC yX0_breaksOn cX0_breaksOn 2 (some .boolean) 1 (fun ad => [.ref (ad o0), .int a0]) σ (okI p) :=
 ct_of (L0 := fun ad => [some (.ref (ad o0)), some (.int a0)]) (by decide) (fun _ => Nat.le_of_ble_eq_true rfl) (fun _ => rfl) (fun K C hQ => g_mask [true, true] rfl (bX0_breaksOn_b0 C hY0 hQ h))
-- X1_mayBe
theorem dX1_mayBe_0 : decode cX1_mayBe 0 = .ok (.iload_n 1, 1) := by decide +kernel
theorem dX1_mayBe_1 : decode cX1_mayBe 1 = .ok (.ifCond .lt 30, 3) := by decide +kernel
theorem dX1_mayBe_4 : decode cX1_mayBe 4 = .ok (.iload_n 1, 1) := by decide +kernel
theorem dX1_mayBe_5 : decode cX1_mayBe 5 = .ok (.iconst 2, 1) := by decide +kernel
theorem dX1_mayBe_6 : decode cX1_mayBe 6 = .ok (.if_icmp .gt 25, 3) := by decide +kernel
theorem dX1_mayBe_9 : decode cX1_mayBe 9 = .ok (.iload_n 2, 1) := by decide +kernel
theorem dX1_mayBe_10 : decode cX1_mayBe 10 = .ok (.getstatic 13, 3) := by decide +kernel
theorem dX1_mayBe_13 : decode cX1_mayBe 13 = .ok (.iload_n 1, 1) := by decide +kernel
theorem dX1_mayBe_14 : decode cX1_mayBe 14 = .ok (.iaload, 1) := by decide +kernel
theorem dX1_mayBe_15 : decode cX1_mayBe 15 = .ok (.if_icmp .lt 16, 3) := by decide +kernel
theorem dX1_mayBe_18 : decode cX1_mayBe 18 = .ok (.iload_n 2, 1) := by decide +kernel
theorem dX1_mayBe_19 : decode cX1_mayBe 19 = .ok (.getstatic 16, 3) := by decide +kernel
theorem dX1_mayBe_22 : decode cX1_mayBe 22 = .ok (.iload_n 1, 1) := by decide +kernel
theorem dX1_mayBe_23 : decode cX1_mayBe 23 = .ok (.iaload, 1) := by decide +kernel
theorem dX1_mayBe_24 : decode cX1_mayBe 24 = .ok (.if_icmp .gt 7, 3) := by decide +kernel
theorem dX1_mayBe_27 : decode cX1_mayBe 27 = .ok (.iconst 1, 1) := by decide +kernel
theorem dX1_mayBe_28 : decode cX1_mayBe 28 = .ok (.goto 4, 3) := by decide +kernel
theorem dX1_mayBe_31 : decode cX1_mayBe 31 = .ok (.iconst 0, 1) := by decide +kernel
theorem dX1_mayBe_32 : decode cX1_mayBe 32 = .ok (.ireturn, 1) := by decide +kernel
theorem cw_X1_mayBe : Cw yX1_mayBe cX1_mayBe 3 (some .boolean) 2 := ⟨aw_466, aw_23, ⟨by decide, by decide⟩, by decide +kernel, by decide⟩
def fX1_mayBe_b0 (x1 : Int32) (x2 : Int32) (σ : Sg) : Option (Int32 × Sg) :=
  if x1 < 0 then (some ((0 : Int32), σ)) else (if (2 : Int32) < x1 then (some ((0 : Int32), σ)) else (if inb x1 3 = true then (if x2 < (stL [1, 0, 0] (x1).toNatClampNeg) then (some ((0 : Int32), σ)) else (if inb x1 3 = true then (if (stL [9, 9, 99] (x1).toNatClampNeg) < x2 then (some ((0 : Int32), σ)) else (some ((1 : Int32), σ))) else none)) else none))
set_option maxRecDepth 4000 in
theorem bX1_mayBe_b0 {K : KT} {x1 : Int32} {x2 : Int32} {σ : Sg} {o : Int32 × Sg} (C : Cx K layC cX1_mayBe RX1 3 (1) (some .boolean))  (hQ : Rk K layC (okI o)) (h : fX1_mayBe_b0 x1 x2 σ = some o) : G K 0 [none, some (.int x1), some (.int x2)] [] (Wd K layC σ) := by
  unfold fX1_mayBe_b0 at h
  refine g_iload_n C.c dX1_mayBe_0 rfl (i := 1) rfl ?_
  refine g_if_lt C.c (tgt := 31) dX1_mayBe_1 (by decide) (fun c => ?_) (fun c => ?_)
  · replace h := ite_t c h
    refine g_iconst C.c dX1_mayBe_31 (v := (0 : Int32)) (by decide) ?_
    obtain rfl := Option.some.inj h
    exact g_iret C hQ dX1_mayBe_32 rfl ⟨rfl, rfl⟩
  · replace h := ite_f c h
    refine g_iload_n C.c dX1_mayBe_4 rfl (i := 1) rfl ?_
    refine g_iconst C.c dX1_mayBe_5 (v := (2 : Int32)) (by decide) ?_
    refine g_icmp_gt C.c (tgt := 31) dX1_mayBe_6 (by decide) (fun c => ?_) (fun c => ?_)
    · replace h := ite_t c h
      refine g_iconst C.c dX1_mayBe_31 (v := (0 : Int32)) (by decide) ?_
      obtain rfl := Option.some.inj h
      exact g_iret C hQ dX1_mayBe_32 rfl ⟨rfl, rfl⟩
    · replace h := ite_f c h
      refine g_iload_n C.c dX1_mayBe_9 rfl (i := 2) rfl ?_
      refine g_stat C dX1_mayBe_10 aw_467 C.e.2.1 (fun g1 hg2 => ?_)
      refine g_iload_n C.c dX1_mayBe_13 rfl (i := 1) rfl ?_
      obtain ⟨c3, h⟩ := chk h
      refine g_tld C hg2 dX1_mayBe_14 c3 ?_
      refine g_icmp_lt C.c (tgt := 31) dX1_mayBe_15 (by decide) (fun c => ?_) (fun c => ?_)
      · replace h := ite_t c h
        refine g_iconst C.c dX1_mayBe_31 (v := (0 : Int32)) (by decide) ?_
        obtain rfl := Option.some.inj h
        exact g_iret C hQ dX1_mayBe_32 rfl ⟨rfl, rfl⟩
      · replace h := ite_f c h
        refine g_iload_n C.c dX1_mayBe_18 rfl (i := 2) rfl ?_
        refine g_stat C dX1_mayBe_19 aw_469 C.e.2.2 (fun g4 hg5 => ?_)
        refine g_iload_n C.c dX1_mayBe_22 rfl (i := 1) rfl ?_
        obtain ⟨c6, h⟩ := chk h
        refine g_tld C hg5 dX1_mayBe_23 c6 ?_
        refine g_icmp_gt C.c (tgt := 31) dX1_mayBe_24 (by decide) (fun c => ?_) (fun c => ?_)
        · replace h := ite_t c h
          refine g_iconst C.c dX1_mayBe_31 (v := (0 : Int32)) (by decide) ?_
          obtain rfl := Option.some.inj h
          exact g_iret C hQ dX1_mayBe_32 rfl ⟨rfl, rfl⟩
        · replace h := ite_f c h
          refine g_iconst C.c dX1_mayBe_27 (v := (1 : Int32)) (by decide) ?_
          refine g_goto C.c (tgt := 32) dX1_mayBe_28 (by decide) ?_
          obtain rfl := Option.some.inj h
          exact g_iret C hQ dX1_mayBe_32 rfl ⟨rfl, rfl⟩
def fX1_mayBe (o0 : Nat) (a0 : Int32) (a1 : Int32) (σ : Sg) : Option (Int32 × Sg) := fX1_mayBe_b0 a0 a1 σ
theorem ct_X1_mayBe {o0 : Nat} {a0 : Int32} {a1 : Int32} {σ : Sg} {p : Int32 × Sg} (hY0 : layC[o0]? = some (0, 1, slX1)) (h : fX1_mayBe o0 a0 a1 σ = some p) : Ct layC yX1_mayBe cX1_mayBe 3 (some .boolean) 1 (fun ad => [.ref (ad o0), .int a0, .int a1]) σ (okI p) :=
 ct_of (L0 := fun ad => [some (.ref (ad o0)), some (.int a0), some (.int a1)]) (by decide) (fun _ => Nat.le_of_ble_eq_true rfl) (fun _ => rfl) (fun K C hQ => g_mask [false, true, true] rfl (bX1_mayBe_b0 C hQ h))
-- X1_put
theorem dX1_put_0 : decode cX1_put 0 = .ok (.aload_n 0, 1) := by decide +kernel
theorem dX1_put_1 : decode cX1_put 1 = .ok (.getfield 7, 3) := by decide +kernel
theorem dX1_put_4 : decode cX1_put 4 = .ok (.iload_n 1, 1) := by decide +kernel
theorem dX1_put_5 : decode cX1_put 5 = .ok (.iaload, 1) := by decide +kernel
theorem dX1_put_6 : decode cX1_put 6 = .ok (.istore_n 3, 1) := by decide +kernel
theorem dX1_put_7 : decode cX1_put 7 = .ok (.aload_n 0, 1) := by decide +kernel
theorem dX1_put_8 : decode cX1_put 8 = .ok (.getfield 7, 3) := by decide +kernel
theorem dX1_put_11 : decode cX1_put 11 = .ok (.iload_n 1, 1) := by decide +kernel
theorem dX1_put_12 : decode cX1_put 12 = .ok (.iload_n 2, 1) := by decide +kernel
theorem dX1_put_13 : decode cX1_put 13 = .ok (.iastore, 1) := by decide +kernel
theorem dX1_put_14 : decode cX1_put 14 = .ok (.iload_n 3, 1) := by decide +kernel
theorem dX1_put_15 : decode cX1_put 15 = .ok (.ireturn, 1) := by decide +kernel
theorem cw_X1_put : Cw yX1_put cX1_put 4 (some .int) 2 := ⟨aw_478, aw_23, ⟨by decide, by decide⟩, by decide +kernel, by decide⟩
theorem gf_1_7d {K : KT} {cc : ByteArray} {nL d pc : Nat} {ret : Option FieldType} {L : List (Option Value)} {st : List Value} {σ : Sg} (C : Cx K layC cc RX1 nL d ret) {o : Nat} (hY : layC[o]? = some (0, 1, slX1)) (hd : decode cc pc = .ok (.getfield 7, 3)) (k : G K (pc + 3) L (.ref (kad K (o + 1)) :: st) (Wd K layC σ)) : G K pc L (.ref (kad K o) :: st) (Wd K layC σ) := g_get C (o := o) (ci := 1) (k := 0) hd hY rfl rfl (by decide) (Or.inl aw_123) inA1 rfl k
def fX1_put_b0 (w0 : Nat) (x1 : Int32) (x2 : Int32) (σ : Sg) : Option (Int32 × Sg) :=
  if inb x1 3 = true then (if inb x1 3 = true then (some ((rI σ (w0 + 1) (x1).toNatClampNeg), (wI σ (w0 + 1) (x1).toNatClampNeg x2))) else none) else none
set_option maxRecDepth 4000 in
theorem bX1_put_b0 {K : KT} {w0 : Nat} {x1 : Int32} {x2 : Int32} {σ : Sg} {o : Int32 × Sg} (C : Cx K layC cX1_put RX1 4 (1) (some .int)) (hw0 : layC[w0]? = some (0, 1, slX1)) (hQ : Rk K layC (okI o)) (h : fX1_put_b0 w0 x1 x2 σ = some o) : G K 0 [some (.ref (kad K w0)), some (.int x1), some (.int x2), none] [] (Wd K layC σ) := by
  unfold fX1_put_b0 at h
  refine g_aload_n C.c dX1_put_0 rfl (i := 0) rfl ?_
  refine gf_1_7d C hw0 dX1_put_1 ?_
  refine g_iload_n C.c dX1_put_4 rfl (i := 1) rfl ?_
  obtain ⟨c1, h⟩ := chk h
  refine g_iald C dX1_put_5 (cn_val hw0) c1 ?_
  refine g_istore_n C.c (i := 3) (L' := [some (.ref (kad K w0)), some (.int x1), some (.int x2), some (.int (rI σ (w0 + 1) (x1).toNatClampNeg))]) dX1_put_6 rfl (Nat.le_of_ble_eq_true rfl) rfl ?_
  refine g_aload_n C.c dX1_put_7 rfl (i := 0) rfl ?_
  refine gf_1_7d C hw0 dX1_put_8 ?_
  refine g_iload_n C.c dX1_put_11 rfl (i := 1) rfl ?_
  refine g_iload_n C.c dX1_put_12 rfl (i := 2) rfl ?_
  obtain ⟨c2, h⟩ := chk h
  refine g_iast C dX1_put_13 (cn_val hw0) c2 ?_
  refine g_iload_n C.c dX1_put_14 rfl (i := 3) rfl ?_
  obtain rfl := Option.some.inj h
  exact g_iret C hQ dX1_put_15 rfl ⟨rfl, rfl⟩
def fX1_put (o0 : Nat) (a0 : Int32) (a1 : Int32) (σ : Sg) : Option (Int32 × Sg) := fX1_put_b0 o0 a0 a1 σ
theorem ct_X1_put {o0 : Nat} {a0 : Int32} {a1 : Int32} {σ : Sg} {p : Int32 × Sg} (hY0 : layC[o0]? = some (0, 1, slX1)) (h : fX1_put o0 a0 a1 σ = some p) : Ct layC yX1_put cX1_put 4 (some .int) 1 (fun ad => [.ref (ad o0), .int a0, .int a1]) σ (okI p) :=
 ct_of (L0 := fun ad => [some (.ref (ad o0)), some (.int a0), some (.int a1), none]) (by decide) (fun _ => Nat.le_of_ble_eq_true rfl) (fun _ => rfl) (fun K C hQ => g_mask [true, true, true, false] rfl (bX1_put_b0 C hY0 hQ h))
-- X1_gainOf
theorem dX1_gainOf_0 : decode cX1_gainOf 0 = .ok (.aload_n 0, 1) := by decide +kernel
theorem dX1_gainOf_1 : decode cX1_gainOf 1 = .ok (.getfield 7, 3) := by decide +kernel
theorem dX1_gainOf_4 : decode cX1_gainOf 4 = .ok (.iconst 0, 1) := by decide +kernel
theorem dX1_gainOf_5 : decode cX1_gainOf 5 = .ok (.iaload, 1) := by decide +kernel
theorem dX1_gainOf_6 : decode cX1_gainOf 6 = .ok (.iload_n 1, 1) := by decide +kernel
theorem dX1_gainOf_7 : decode cX1_gainOf 7 = .ok (.imul, 1) := by decide +kernel
theorem dX1_gainOf_8 : decode cX1_gainOf 8 = .ok (.aload_n 0, 1) := by decide +kernel
theorem dX1_gainOf_9 : decode cX1_gainOf 9 = .ok (.getfield 7, 3) := by decide +kernel
theorem dX1_gainOf_12 : decode cX1_gainOf 12 = .ok (.iconst 1, 1) := by decide +kernel
theorem dX1_gainOf_13 : decode cX1_gainOf 13 = .ok (.iaload, 1) := by decide +kernel
theorem dX1_gainOf_14 : decode cX1_gainOf 14 = .ok (.iload_n 2, 1) := by decide +kernel
theorem dX1_gainOf_15 : decode cX1_gainOf 15 = .ok (.imul, 1) := by decide +kernel
theorem dX1_gainOf_16 : decode cX1_gainOf 16 = .ok (.iload_n 3, 1) := by decide +kernel
theorem dX1_gainOf_17 : decode cX1_gainOf 17 = .ok (.imul, 1) := by decide +kernel
theorem dX1_gainOf_18 : decode cX1_gainOf 18 = .ok (.isub, 1) := by decide +kernel
theorem dX1_gainOf_19 : decode cX1_gainOf 19 = .ok (.iload 4, 2) := by decide +kernel
theorem dX1_gainOf_21 : decode cX1_gainOf 21 = .ok (.ifCond .eq 12, 3) := by decide +kernel
theorem dX1_gainOf_24 : decode cX1_gainOf 24 = .ok (.aload_n 0, 1) := by decide +kernel
theorem dX1_gainOf_25 : decode cX1_gainOf 25 = .ok (.getfield 7, 3) := by decide +kernel
theorem dX1_gainOf_28 : decode cX1_gainOf 28 = .ok (.iconst 2, 1) := by decide +kernel
theorem dX1_gainOf_29 : decode cX1_gainOf 29 = .ok (.iaload, 1) := by decide +kernel
theorem dX1_gainOf_30 : decode cX1_gainOf 30 = .ok (.goto 4, 3) := by decide +kernel
theorem dX1_gainOf_33 : decode cX1_gainOf 33 = .ok (.iconst 0, 1) := by decide +kernel
theorem dX1_gainOf_34 : decode cX1_gainOf 34 = .ok (.isub, 1) := by decide +kernel
theorem dX1_gainOf_35 : decode cX1_gainOf 35 = .ok (.ireturn, 1) := by decide +kernel
theorem cw_X1_gainOf : Cw yX1_gainOf cX1_gainOf 5 (some .int) 4 := ⟨aw_508, aw_23, ⟨by decide, by decide⟩, by decide +kernel, by decide⟩
def fX1_gainOf_b0 (w0 : Nat) (x1 : Int32) (x2 : Int32) (x3 : Int32) (x4 : Int32) (σ : Sg) : Option (Int32 × Sg) :=
  if x4 = 0 then (some (((((rI σ (w0 + 1) ((0 : Int32)).toNatClampNeg) * x1) - (((rI σ (w0 + 1) ((1 : Int32)).toNatClampNeg) * x2) * x3)) - (0 : Int32)), σ)) else (some (((((rI σ (w0 + 1) ((0 : Int32)).toNatClampNeg) * x1) - (((rI σ (w0 + 1) ((1 : Int32)).toNatClampNeg) * x2) * x3)) - (rI σ (w0 + 1) ((2 : Int32)).toNatClampNeg)), σ))
set_option maxRecDepth 4000 in
theorem bX1_gainOf_b0 {K : KT} {w0 : Nat} {x1 : Int32} {x2 : Int32} {x3 : Int32} {x4 : Int32} {σ : Sg} {o : Int32 × Sg} (C : Cx K layC cX1_gainOf RX1 5 (1) (some .int)) (hw0 : layC[w0]? = some (0, 1, slX1)) (hQ : Rk K layC (okI o)) (h : fX1_gainOf_b0 w0 x1 x2 x3 x4 σ = some o) : G K 0 [some (.ref (kad K w0)), some (.int x1), some (.int x2), some (.int x3), some (.int x4)] [] (Wd K layC σ) := by
  unfold fX1_gainOf_b0 at h
  refine g_aload_n C.c dX1_gainOf_0 rfl (i := 0) rfl ?_
  refine gf_1_7d C hw0 dX1_gainOf_1 ?_
  refine g_iconst C.c dX1_gainOf_4 (v := (0 : Int32)) (by decide) ?_
  refine g_iald C dX1_gainOf_5 (cn_val hw0) (by decide) ?_
  refine g_iload_n C.c dX1_gainOf_6 rfl (i := 1) rfl ?_
  refine g_imul C.c dX1_gainOf_7 ?_
  refine g_aload_n C.c dX1_gainOf_8 rfl (i := 0) rfl ?_
  refine gf_1_7d C hw0 dX1_gainOf_9 ?_
  refine g_iconst C.c dX1_gainOf_12 (v := (1 : Int32)) (by decide) ?_
  refine g_iald C dX1_gainOf_13 (cn_val hw0) (by decide) ?_
  refine g_iload_n C.c dX1_gainOf_14 rfl (i := 2) rfl ?_
  refine g_imul C.c dX1_gainOf_15 ?_
  refine g_iload_n C.c dX1_gainOf_16 rfl (i := 3) rfl ?_
  refine g_imul C.c dX1_gainOf_17 ?_
  refine g_isub C.c dX1_gainOf_18 ?_
  refine g_iload C.c dX1_gainOf_19 (i := 4) rfl ?_
  refine g_if_eq C.c (tgt := 33) dX1_gainOf_21 (by decide) (fun c => ?_) (fun c => ?_)
  · replace h := ite_t c h
    refine g_iconst C.c dX1_gainOf_33 (v := (0 : Int32)) (by decide) ?_
    refine g_isub C.c dX1_gainOf_34 ?_
    obtain rfl := Option.some.inj h
    exact g_iret C hQ dX1_gainOf_35 rfl ⟨rfl, rfl⟩
  · replace h := ite_f c h
    refine g_aload_n C.c dX1_gainOf_24 rfl (i := 0) rfl ?_
    refine gf_1_7d C hw0 dX1_gainOf_25 ?_
    refine g_iconst C.c dX1_gainOf_28 (v := (2 : Int32)) (by decide) ?_
    refine g_iald C dX1_gainOf_29 (cn_val hw0) (by decide) ?_
    refine g_goto C.c (tgt := 34) dX1_gainOf_30 (by decide) ?_
    refine g_isub C.c dX1_gainOf_34 ?_
    obtain rfl := Option.some.inj h
    exact g_iret C hQ dX1_gainOf_35 rfl ⟨rfl, rfl⟩
def fX1_gainOf (o0 : Nat) (a0 : Int32) (a1 : Int32) (a2 : Int32) (a3 : Int32) (σ : Sg) : Option (Int32 × Sg) := fX1_gainOf_b0 o0 a0 a1 a2 a3 σ
theorem ct_X1_gainOf {o0 : Nat} {a0 : Int32} {a1 : Int32} {a2 : Int32} {a3 : Int32} {σ : Sg} {p : Int32 × Sg} (hY0 : layC[o0]? = some (0, 1, slX1)) (h : fX1_gainOf o0 a0 a1 a2 a3 σ = some p) : Ct layC yX1_gainOf cX1_gainOf 5 (some .int) 1 (fun ad => [.ref (ad o0), .int a0, .int a1, .int a2, .int a3]) σ (okI p) :=
 ct_of (L0 := fun ad => [some (.ref (ad o0)), some (.int a0), some (.int a1), some (.int a2), some (.int a3)]) (by decide) (fun _ => Nat.le_of_ble_eq_true rfl) (fun _ => rfl) (fun K C hQ => g_mask [true, true, true, true, true] rfl (bX1_gainOf_b0 C hY0 hQ h))
