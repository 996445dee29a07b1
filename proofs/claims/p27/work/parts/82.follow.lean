/-! ===== the class follows all ways on ===== -/
theorem LW_add {σ : Sg} {o w : Nat} : ∀ (l : List Nat) (i : Nat), LW σ o l i → rI σ o (i + l.length) = yI (w : Int) → LW σ o (l ++ [w]) i
  | [], _, _, h => ⟨h, trivial⟩
  | x :: l, i, h, k => by
    rw [List.length_cons, show i + (l.length + 1) = i + 1 + l.length by omega] at k
    exact ⟨h.1, LW_add l _ h.2 k⟩
theorem qnx_none {m : Mm} (v : VS m) {c w d : Nat} (hc : c < qR m * qW m) (h11 : qL m c ≠ 11) (hd : qF m c = d + 1) (h : qnx m c w = -1) : qone m (qwy m d) c w = [] := by
  obtain ⟨-, w1, w2⟩ := v.W
  obtain ⟨-, r1, r2⟩ := v.R
  unfold qnx at h
  cases hq : qto m c w with
  | none => unfold qone; rw [hq]
  | some x =>
    rw [hq] at h
    dsimp only at h
    have i := qto_i hq
    have xF := qto_f w1 w2 hq
    have e : qwy m d x = qws m x := by unfold qws; rw [show qF m x = d by omega]
    by_cases z : qL m c = 11 ∨ qcn m x = 0
    · have z : qcn m x = 0 := by
        rcases z with z | z
        · exact absurd z h11
        · exact z
      have xH : x ≠ qH m := fun q => by
        unfold qcn at z
        rw [if_neg i.2.1, if_pos q] at z
        omega
      unfold qcn at z
      rw [if_neg i.2.1, if_neg xH] at z
      unfold qone
      rw [hq]
      dsimp only
      rw [if_neg xH, e, List.length_eq_zero_iff.mp z]
      rfl
    · rw [if_neg z] at h
      omega
theorem qnx_some {m : Mm} {c w : Nat} (h : qnx m c w ≠ -1) : ∃ x, qto m c w = some x ∧ qnx m c w = (x : Int) := by
  unfold qnx at h ⊢
  cases hq : qto m c w with
  | none => rw [hq] at h; exact absurd rfl h
  | some x =>
    rw [hq] at h
    dsimp only at h ⊢
    by_cases z : qL m c = 11 ∨ qcn m x = 0
    · rw [if_pos z] at h; exact absurd rfl h
    · exact ⟨x, rfl, by rw [if_neg z]⟩
theorem CB_hop {σ : Sg} {B B' : QB} (h : CB σ B) (n0 : B.1 ≠ 0) (n1 : B'.1 ≠ 0) (e : B'.2 = B.2) : CB σ B' := by
  refine ⟨fun q => absurd q n1, fun _ => ?_⟩
  rw [e]
  exact h.2 n0
theorem CB_f {a : Nat} {σ σ' : Sg} {B : QB} (h : CB σ B) (f3 : ∀ j, 10 ≤ j → j ≤ 14 → rI σ' 3 j = rI σ 3 j) (f46 : ∀ j, rI σ' 46 j = rI σ 46 j) : CB σ' B := by
  refine ⟨fun q => by rw [f3 10 (by omega) (by omega), h.1 q], fun n => ?_⟩
  obtain ⟨h1, h2, h3, h4, h5, h6⟩ := h.2 n
  exact ⟨by rw [f3 10 (by omega) (by omega), h1], by rw [f3 13 (by omega) (by omega), h2], by rw [f3 12 (by omega) (by omega), h3], by rw [f3 11 (by omega) (by omega), h4], by rw [f3 14 (by omega) (by omega), h5], LW_f _ _ h6 (fun j _ _ => f46 j)⟩
/-- what a call of follow does, at distance d -/
def FW (m : Mm) (E : QE) (o c0 : Nat) (T0 : QT) (d n : Nat) : Prop := ∀ (pre : List Nat) (c : Nat) (T : QT) (B : QB) (σ : Sg), c < qR m * qW m → qF m c = d → qL m c ≠ 11 → qen m pre c0 = c → PC m pre c0 → A4 pre → qtw m E pre c0 T0 = T → pre.length + d ≤ 9 → GK σ m → EC σ E o → CT σ pre.length T → LW σ 45 pre 0 → CB σ B → BB B → ∃ σ', fX8_follow n (yI (c : Int)) (yI (pre.length : Int)) σ = some σ' ∧ CB σ' (((WS m d c).map (pre ++ ·)).foldl (qup m E c0 T0) B) ∧ BB (((WS m d c).map (pre ++ ·)).foldl (qup m E c0 T0) B) ∧ cF pre.length σ σ'
theorem f8_loop {m : Mm} {E : QE} {o c0 : Nat} {T0 : QT} (v : VS m) (eb : EB E) (dr0 : E.2.2.2.2 = 0) (ho : 76 ≤ o) (tb0 : TB T0) {d n : Nat} (ih : FW m E o c0 T0 d n) (pre : List Nat) (c : Nat) (T : QT) (B : QB) (σ : Sg) (hc : c < qR m * qW m) (hF : qF m c = d + 1) (h11 : qL m c ≠ 11) (qe : qen m pre c0 = c) (pc : PC m pre c0) (p4 : A4 pre) (hT : qtw m E pre c0 T0 = T) (h9 : pre.length + (d + 1) ≤ 9) (gk : GK σ m) (ec : EC σ E o) (ct : CT σ pre.length T) (lw : LW σ 45 pre 0) (cb : CB σ B) (bb : BB B) : ∃ σ', lp (fun s : Int32 × Sg => fX8_follow_b35 (fX8_follow n) (yI (c : Int)) (yI (pre.length : Int)) s.1 s.2) FU ((0 : Int32), σ) = some σ' ∧ CB σ' (((qwy m (d + 1) c).map (pre ++ ·)).foldl (qup m E c0 T0) B) ∧ BB (((qwy m (d + 1) c).map (pre ++ ·)).foldl (qup m E c0 T0) B) ∧ cF pre.length σ σ' := by
  obtain ⟨-, w1, w2⟩ := v.W
  obtain ⟨-, r1, r2⟩ := v.R
  have b30 := v.b30
  have tb : TB T := by rw [← hT]; exact (qtw_c v pre c0 T0 pc tb0).1
  have LP : ∃ σ', lp (fun s : Int32 × Sg => fX8_follow_b35 (fX8_follow n) (yI (c : Int)) (yI (pre.length : Int)) s.1 s.2) FU ((0 : Int32), σ) = some σ' ∧ (CB σ' (((pfx m d c 4).map (pre ++ ·)).foldl (qup m E c0 T0) B) ∧ BB (((pfx m d c 4).map (pre ++ ·)).foldl (qup m E c0 T0) B) ∧ cF pre.length σ σ') := by
    refine lp_all (fun k s => s.1 = yI (k : Int) ∧ CB s.2 (((pfx m d c k).map (pre ++ ·)).foldl (qup m E c0 T0) B) ∧ BB (((pfx m d c k).map (pre ++ ·)).foldl (qup m E c0 T0) B) ∧ cF pre.length σ s.2) 4 _ ?_ ?_ ⟨rfl, cb, bb, cF_r _ _⟩ (FU_b (by omega))
    · rintro k ⟨x, t⟩ hk ⟨h1, h2, h3, h4⟩
      dsimp only at h1 h2 h3 h4
      subst h1
      have gk2 := GK_f v gk h4
      have nb := qnx_b (w := k) v hc
      have ep : pfx m d c (k + 1) = pfx m d c k ++ qone m (qwy m d) c k := rfl
      have en := (gk2.2.1 c hc).2.2 k hk
      by_cases q : qnx m c k = -1
      · refine ⟨(yI ((k + 1 : Nat) : Int), t), ?_, rfl, ?_, ?_, h4⟩
        · dsimp only
          unfold fX8_follow_b35 fX8_follow_b82
          rw [if_neg (gen (v := 4) (b := 4) rfl (by omega) (by omega) (by omega)), if_pos (inb_n (by omega) (by omega)), if_pos (inb_n (by omega) hk), yI_cln (by omega), yI_cln (by omega), en, if_pos (eqp (v := -1) (b := -1) rfl q), add1]
        · rw [ep, qnx_none v hc h11 hF q, List.append_nil]; exact h2
        · rw [ep, qnx_none v hc h11 hF q, List.append_nil]; exact h3
      · obtain ⟨x, hq, hx⟩ := qnx_some q
        have xi := qto_i hq
        have xb := qbes_b r1 r2 w1 w2 hc xi.1
        have xF := qto_f w1 w2 hq
        have eg : qgo m c k = x := by unfold qgo; rw [hq]; rfl
        obtain ⟨l1, l2, -⟩ := qL_b v hc
        obtain ⟨-, -, f1, f3, -⟩ := v.2.2.2.2.2.2.2 c (by rw [v.RW]; omega)
        -- the trial
        have fw : cF pre.length t (wI t 45 pre.length (yI (k : Int))) := ⟨fun i j n => by rw [rI_wI, if_neg (by omega)], fun _ _ => rfl⟩
        have fw2 := cF_t h4 fw
        have ec3 := EC_f ec fw2 ho
        have ct3 := CT_f ct fw2 (Nat.le_refl _)
        have gk3 := GK_f v gk fw2
        obtain ⟨t1, s1, ⟨s2, s3, s4⟩, s5, s6, s7⟩ := f8_pass (m := m) (a := pre.length) (c := c) (w := k) eb ec3 tb (fun z => absurd dr0 z) (by omega) (by omega) hk ct3.1 ct3.2.1 ct3.2.2 (gk3.2.1 c hc).1 l2 (gk3.2.1 c hc).2.1 f1 f3
        have fp : cF pre.length (wI t 45 pre.length (yI (k : Int))) t1 := ⟨fun i j n => s6 i j (by omega), s7⟩
        have fp2 := cF_t fw2 fp
        have el : (pre ++ [k]).length = pre.length + 1 := by rw [List.length_append]; rfl
        have lw1 : LW t1 45 (pre ++ [k]) 0 := by
          refine LW_add pre 0 (LW_f (o := 45) pre 0 lw (fun j _ hj => fp2.1 45 j (by omega))) ?_
          rw [Nat.zero_add, s6 45 _ (by omega), rI_s]
        have cb1 : CB t1 (((pfx m d c k).map (pre ++ ·)).foldl (qup m E c0 T0) B) := CB_f (a := 0) h2 (fun j a b => by rw [s6 3 j (by omega), rI_o (by omega)]) (fun j => by rw [s6 46 j (by omega), rI_o (by omega)])
        have p4' : A4 (pre ++ [k]) := fun y hy => by
          rcases List.mem_append.mp hy with z | z
          · exact p4 y z
          · rw [List.mem_singleton.mp z]; exact hk
        have hT' : qtw m E (pre ++ [k]) c0 T0 = qst m E c k T := by
          rw [qtw_app, qe, hT]; rfl
        obtain ⟨t2, u1, u2, u3, u4⟩ := ih (pre ++ [k]) x (qst m E c k T) (((pfx m d c k).map (pre ++ ·)).foldl (qup m E c0 T0) B) t1 xb (by omega) xi.2.1 (by rw [qen_add, qe, eg]) (PC_app pre c0 pc (by rw [qe]; exact ⟨hc, trivial⟩)) p4' hT' (by rw [el]; omega) (GK_f v gk fp2) (EC_f ec fp2 ho) (by rw [el]; exact ⟨s2, s3, s4⟩) lw1 cb1 h3
        rw [el] at u1 u4
        have eo : ((pfx m d c (k + 1)).map (pre ++ ·)).foldl (qup m E c0 T0) B = (((WS m d x).map (pre ++ [k] ++ ·)).foldl (qup m E c0 T0) (((pfx m d c k).map (pre ++ ·)).foldl (qup m E c0 T0) B)) := by
          rw [ep, List.map_append, List.foldl_append, qone_WS hq, List.map_map]
          congr 1
          refine List.map_congr_left (fun l _ => ?_)
          show pre ++ k :: l = pre ++ [k] ++ l
          rw [List.append_assoc]
          rfl
        refine ⟨(yI ((k + 1 : Nat) : Int), t2), ?_, rfl, by rw [eo]; exact u2, by rw [eo]; exact u3, cF_t fp2 (cF_w u4)⟩
        dsimp only
        unfold fX8_follow_b35 fX8_follow_b82
        rw [if_neg (gen (v := 4) (b := 4) rfl (by omega) (by omega) (by omega)), if_pos (inb_n (by omega) (by omega)), if_pos (inb_n (by omega) hk), yI_cln (by omega), yI_cln (by omega), yI_cln (by omega), en, if_neg (yI_nl (v := -1) (b := -1) rfl (by omega) (by omega) q), if_pos (inb_n (by omega) (by omega)), b1 s1, hx, add1, b1 u1, add1]
    · rintro ⟨x, t⟩ ⟨h1, h2, h3, h4⟩
      dsimp only at h1 h2 h3 h4
      subst h1
      refine ⟨t, ?_, h2, h3, h4⟩
      dsimp only
      unfold fX8_follow_b35
      rw [if_pos (gep (v := 4) (b := 4) rfl (by omega) (by omega) (by omega))]
  rw [pfx_4] at LP
  exact LP
theorem f8_follow {m : Mm} {E : QE} {o c0 : Nat} {T0 : QT} (v : VS m) (eb : EB E) (dr0 : E.2.2.2.2 = 0) (ho : 76 ≤ o) (tb0 : TB T0) : ∀ (d n : Nat), d < n → FW m E o c0 T0 d n
  | d, 0, h => absurd h (Nat.not_lt_zero _)
  | d, n + 1, hn => fun pre c T B σ hc hF h11 qe pc p4 hT h9 gk ec ct lw cb bb => by
    have tb : TB T := by rw [← hT]; exact (qtw_c v pre c0 T0 pc tb0).1
    have hh := f8_hopeless (m := m) gk eb ec tb (by omega : pre.length ≤ 9) ct cb bb
    have vk := gk.2.2.2.2.2
    have hH := v.H.2
    have b30 := v.b30
    show ∃ σ', fX8_follow_b0 (fX8_follow n) (yI (c : Int)) (yI (pre.length : Int)) σ = some σ' ∧ _
    unfold fX8_follow_b0
    by_cases z : hop m E B T
    · have fo := fold_hop (E := E) (T0 := T0) v vk qe hT tb (WS m d c) B (fun l hl => (WS_in v hc hl).1) z
      have fb := fold_bb (E := E) (T0 := T0) v vk eb tb0 ((WS m d c).map (pre ++ ·)) B (fun l hl => by
        obtain ⟨l', h1, rfl⟩ := List.mem_map.mp hl
        obtain ⟨x1, x2, x3⟩ := WS_in v hc h1
        refine ⟨PC_app pre c0 pc (by rw [qe]; exact x1), fun y hy => ?_, by rw [List.length_append]; omega⟩
        rcases List.mem_append.mp hy with q | q
        · exact p4 y q
        · exact x2 y q) bb
      refine ⟨σ, ?_, CB_hop cb z.1 fo.2 fo.1, fb, cF_r _ _⟩
      rw [if_pos z] at hh
      rw [b1 hh]
      dsimp only
      rw [if_neg (show ¬ (1 : Int32) = 0 by decide)]
    · rw [if_neg z] at hh
      rw [b1 hh]
      dsimp only
      rw [if_pos rfl, gk.1]
      by_cases q : c = qH m
      · have eW : (WS m d c).map (pre ++ ·) = [pre] := by
          unfold WS
          rw [if_pos q]
          show [pre ++ []] = [pre]
          rw [List.append_nil]
        obtain ⟨σ', r1, r2, r3⟩ := f8_choose (T := T) pre gk eb ec (by omega : pre.length ≤ 9) rfl ct lw B.1
        have eu : qup m E c0 T0 B pre = (B.1 + 1, qgain m E.2.2.1 E.2.2.2.1 T.1 T.2.2.1, T.2.2.1, T.1, pre) := by
          unfold qup
          dsimp only
          rw [hT, if_pos]
          by_cases n0 : B.1 = 0
          · exact Or.inl n0
          · by_cases n1 : B.2.1 < qgain m E.2.2.1 E.2.2.2.1 T.1 T.2.2.1
            · exact Or.inr (Or.inl n1)
            · by_cases n2 : qgain m E.2.2.1 E.2.2.2.1 T.1 T.2.2.1 = B.2.1
              · by_cases n3 : T.2.2.1 < B.2.2.1
                · exact Or.inr (Or.inr ⟨n2, n3⟩)
                · exact absurd ⟨n0, Or.inr ⟨n2, by omega⟩⟩ z
              · exact absurd ⟨n0, Or.inl (by omega)⟩ z
        have bu := qup_bb (E := E) (T := T0) v vk eb tb0 pc (by omega) p4 bb
        rw [eW]
        show ∃ σ', _ ∧ CB σ' (qup m E c0 T0 B pre) ∧ BB (qup m E c0 T0 B pre) ∧ _
        refine ⟨σ', ?_, by rw [eu]; exact r2, bu, r3⟩
        rw [if_pos (by rw [q]), b1 r1]
      · have d1 : 1 ≤ d := by
          by_cases y : d = 0
          · exact absurd (qF_0 v (by omega)) q
          · omega
        obtain ⟨d, rfl⟩ : ∃ d', d = d' + 1 := ⟨d - 1, by omega⟩
        obtain ⟨σ', r1, r2, r3, r4⟩ := f8_loop v eb dr0 ho tb0 (f8_follow v eb dr0 ho tb0 d n (by omega)) pre c T B σ hc hF h11 qe pc p4 hT h9 gk ec ct lw cb bb
        have eW : WS m (d + 1) c = qwy m (d + 1) c := by unfold WS; rw [if_neg q]
        rw [eW]
        refine ⟨σ', ?_, r2, r3, r4⟩
        rw [if_neg (fun y => q (by have := yI_inj (by omega) (by omega) (by omega) (by omega) y; omega)), if_pos (ltp (v := 9) (b := 9) rfl (by omega) (by omega) (by omega)), b1 r1]
