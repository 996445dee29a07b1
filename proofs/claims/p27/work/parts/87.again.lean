/-! ===== the best way, towed again by drawn days ===== -/
def VW (m : Mm) : List Nat → Nat → Prop
  | [], _ => True
  | w :: l, c => (c < qR m * qW m ∧ w < 4 ∧ qnx m c w = (qgo m c w : Int) ∧ qto m c w = some (qgo m c w) ∧ qgo m c w < qR m * qW m) ∧ VW m l (qgo m c w)
theorem VW_C {m : Mm} : ∀ (l : List Nat) (c : Nat), VW m l c → PC m l c
  | [], _, _ => trivial
  | _ :: l, _, h => ⟨h.1.1, VW_C l _ h.2⟩
theorem qwy_vw {m : Mm} (v : VS m) : ∀ (d c : Nat) (l : List Nat), c < qR m * qW m → qL m c ≠ 11 → qF m c = d → l ∈ qwy m d c → VW m l c
  | 0, _, _, _, _, _, h => by cases h
  | d + 1, c, l, hc, h11, hF, h => by
    obtain ⟨-, w1, w2⟩ := v.W
    obtain ⟨-, r1, r2⟩ := v.R
    obtain ⟨w, hw, hl⟩ := mem_qsf 4 (Nat.le_refl _) h
    have hn : qone m (qwy m d) c w ≠ [] := fun q => by rw [q] at hl; cases hl
    have hx : qnx m c w ≠ -1 := fun q => hn (qnx_none v hc h11 hF q)
    obtain ⟨x, hq, hxx⟩ := qnx_some hx
    have eg : qgo m c w = x := by unfold qgo; rw [hq]; rfl
    have xi := qto_i hq
    have xb := qbes_b r1 r2 w1 w2 hc xi.1
    have xF := qto_f w1 w2 hq
    have base : c < qR m * qW m ∧ w < 4 ∧ qnx m c w = (qgo m c w : Int) ∧ qto m c w = some (qgo m c w) ∧ qgo m c w < qR m * qW m := by
      rw [eg]; exact ⟨hc, hw, hxx, hq, xb⟩
    unfold qone at hl
    rw [hq] at hl
    dsimp only at hl
    by_cases z : x = qH m
    · rw [if_pos z] at hl
      have e := List.mem_singleton.mp hl
      subst e
      exact ⟨base, trivial⟩
    · rw [if_neg z] at hl
      obtain ⟨l', h1, rfl⟩ := List.mem_map.mp hl
      exact ⟨base, by rw [eg]; exact qwy_vw v d x l' xb xi.2.1 (by omega) h1⟩
theorem best_in {m : Mm} {E : QE} {c : Nat} {T : QT} {S : List (List Nat)} : ∀ (ls : List (List Nat)) (B : QB), (∀ l, l ∈ ls → l ∈ S) → (B.1 ≠ 0 → B.2.2.2.2 ∈ S) → (ls.foldl (qup m E c T) B).1 ≠ 0 → (ls.foldl (qup m E c T) B).2.2.2.2 ∈ S
  | [], _, _, h, n => h n
  | l :: ls, B, p, h, n => by
    rw [List.foldl_cons] at n ⊢
    refine best_in ls _ (fun x hx => p x (List.mem_cons_of_mem _ hx)) (fun _ => ?_) n
    unfold qup
    dsimp only
    by_cases q : B.1 = 0 ∨ B.2.1 < qgain m E.2.2.1 E.2.2.2.1 (qtw m E l c T).1 (qtw m E l c T).2.2.1 ∨ (qgain m E.2.2.1 E.2.2.2.1 (qtw m E l c T).1 (qtw m E l c T).2.2.1 = B.2.1 ∧ (qtw m E l c T).2.2.1 < B.2.2.1)
    · rw [if_pos q]; exact p l (List.mem_cons_self ..)
    · rw [if_neg q]
      exact h (fun z => q (Or.inl z))
/-- the class tows a kept way -/
theorem f8_way {m : Mm} {E : QE} {o L : Nat} (v : VS m) (eb : EB E) (ho : 76 ≤ o) (L9 : L ≤ 9) : ∀ (l : List Nat) (c i : Nat) (T : QT) (σ : Sg) (n : Nat), l.length < n → i + l.length = L → VW m l c → LW σ 46 l i → TB T → GK σ m → EC σ E o → SQ σ E T.2.2.2 → CT σ i T → rI σ 3 14 = yI (L : Int) → ∃ σ', lp (fun s : Int32 × Int32 × Sg => fX8_towAgain_b21 s.1 s.2.1 s.2.2) n (yI (c : Int), yI (i : Int), σ) = some σ' ∧ CT σ' L (qtw m E l c T) ∧ SQ σ' E (qtw m E l c T).2.2.2 ∧ rI σ' 3 14 = yI (L : Int) ∧ kT σ σ'
  | [], c, i, T, σ, n, hn, hL, vw, lw, tb, gk, ec, sq, ct, h14 => by
    obtain ⟨n, rfl⟩ : ∃ n', n = n' + 1 := ⟨n - 1, by omega⟩
    have hL2 : i + 0 = L := hL
    have hi : i = L := by omega
    subst hi
    refine ⟨σ, lp_en ?_, ct, sq, h14, kT_r σ⟩
    dsimp only
    unfold fX8_towAgain_b21
    rw [h14, if_pos ((yI_le (by omega) (by omega) (by omega) (by omega)).mpr (Int.le_refl _))]
  | w :: l, c, i, T, σ, n, hn, hL, vw, lw, tb, gk, ec, sq, ct, h14 => by
    obtain ⟨n, rfl⟩ : ∃ n', n = n' + 1 := ⟨n - 1, by omega⟩
    rw [List.length_cons] at hL hn
    obtain ⟨⟨hc, hw, hx, hq, hg⟩, vw2⟩ := vw
    have b30 := v.b30
    obtain ⟨l1, l2, -⟩ := qL_b v hc
    obtain ⟨-, -, f1, f3, -⟩ := v.2.2.2.2.2.2.2 c (by rw [v.RW]; omega)
    obtain ⟨σ1, s1, s2, s3, s4, s5⟩ := f8_pass (m := m) (a := i) (c := c) (w := w) eb ec tb sq (by omega) (by omega) hw ct.1 ct.2.1 ct.2.2 (gk.2.1 c hc).1 l2 (gk.2.1 c hc).2.1 f1 f3
    have fk : kT σ σ1 := fun a j x y => s4 a j (by omega)
    have ec1 : EC σ1 E o := by
      obtain ⟨c1, c2, c3, c4, c5, c6, c7, c8⟩ := ec
      exact ⟨by rw [s5, c1], c2, by rw [s4 o 0 (by omega), c3], by rw [s4 o 4 (by omega), c4], by rw [s4 o 5 (by omega), c5], by rw [s4 3 8 (by omega), c6], by rw [s4 3 9 (by omega), c7], by rw [s4 3 15 (by omega), c8]⟩
    have e46 : rI σ1 46 i = yI (w : Int) := by rw [s4 46 i (by omega), lw.1]
    obtain ⟨σ', r1, r2, r3, r4, r5⟩ := f8_way v eb ho L9 l (qgo m c w) (i + 1) (qst m E c w T) σ1 n (by omega) (by omega) vw2 (LW_f l _ lw.2 (fun j _ _ => s4 46 j (by omega))) (qst_b l2 tb).1 (GK_k v gk fk) ec1 s3 s2 (by rw [s4 3 14 (by omega), h14])
    refine ⟨σ', ?_, r2, r3, r4, kT_t fk r5⟩
    rw [← r1]
    refine lp_st ?_
    dsimp only
    unfold fX8_towAgain_b21
    rw [h14, if_neg (fun q => by have := (yI_le (by omega) (by omega) (by omega) (by omega)).mp q; omega), if_neg (yI_nl (v := -1) (b := -1) rfl (by omega) (by omega) (by omega)), if_pos (inb_n (by omega) (by omega)), yI_cln (by omega), lw.1, b1 s1, e46, if_pos (inb_n (by omega) (by omega)), if_pos (inb_n (by omega) (by omega)), if_pos (inb_n (by omega) hw), yI_cln (by omega), yI_cln (by omega), add1, ((GK_k v gk fk).2.1 c hc).2.2 w hw, hx]
theorem f8_towAgain {σ : Sg} {m : Mm} {b size tugs sk q : Nat} {l : List Nat} (v : VS m) (gk : GK σ m) (hb : b < 5) (w : VB1 m b) (kb : KB σ m b) (hs : size ≤ 999) (t1 : 1 ≤ tugs) (t11 : tugs ≤ 11) (s1 : sk ≤ 1) (hq : q < 2147483648) (h7 : rR σ 3 7 = 76 + b) (h8 : rI σ 3 8 = yI (tugs : Int)) (h9 : rI σ 3 9 = yI (sk : Int)) (ct : CT σ 0 (qT m b size 0)) (lw : LW σ 46 l 0) (vw : VW m l (qsq m b)) (l9 : l.length ≤ 9) (h14 : rI σ 3 14 = yI (l.length : Int)) : ∃ σ', fX8_towAgain (yI (q : Int)) σ = some σ' ∧ rI σ' 3 11 = yI ((qtw m (qE m b tugs sk 1) l (qsq m b) (qT m b size q)).1 : Int) ∧ rI σ' 3 12 = yI ((qtw m (qE m b tugs sk 1) l (qsq m b) (qT m b size q)).2.2.1 : Int) ∧ rJ σ' 3 16 = lN (qtw m (qE m b tugs sk 1) l (qsq m b) (qT m b size q)).2.2.2 ∧ kT σ σ' := by
  obtain ⟨w0, w1, w2, w3, w4, w5, w6, w7, w8, w9⟩ := VB1_q v w
  have eb := qE_b (tugs := tugs) (sk := sk) (dr := 1) w t1 t11 s1 (by omega)
  have tb : TB (qT m b size q) := ⟨hs, w6, by show size + 0 ≤ 999; omega, hq⟩
  have ft : kT σ (wJ (wI σ 3 15 1) 3 16 (lN q)) := fun o j a c => by rw [rI_wJ, rI_o a]
  have kb2 := KB_k kb ft
  have gk2 := GK_k v gk ft
  have ec := KB_EC (σ := wJ (wI σ 3 15 1) 3 16 (lN q)) (tugs := tugs) (sk := sk) (dr := 1) v w hb kb2 (by rw [rR_wJ, rR_wI, h7]) (by rw [rI_wJ, rI_k (by omega), h8]) (by rw [rI_wJ, rI_k (by omega), h9]) (by rw [rI_wJ, rI_s]; rfl)
  have ct2 : CT (wJ (wI σ 3 15 1) 3 16 (lN q)) 0 (qT m b size q) := ⟨by rw [rI_wJ, rI_o (by omega)]; exact ct.1, by rw [rI_wJ, rI_o (by omega)]; exact ct.2.1, by rw [rI_wJ, rI_o (by omega)]; exact ct.2.2⟩
  obtain ⟨σ', r1, r2, r3, r4, r5⟩ := f8_way v eb (by omega : 76 ≤ 76 + b) l9 l (qsq m b) 0 (qT m b size q) (wJ (wI σ 3 15 1) 3 16 (lN q)) FU (FU_b (by omega)) (by omega) vw (LW_f (o := 46) l 0 lw (fun j _ _ => by rw [rI_wJ, rI_o (by omega)])) tb gk2 ec (fun _ => rJ_sv) ct2 (by rw [rI_wJ, rI_k (by omega), h14])
  have hsh := ec.2.1
  refine ⟨wI (wI σ' 3 11 (yI ((qtw m (qE m b tugs sk 1) l (qsq m b) (qT m b size q)).1 : Int))) 3 12 (yI ((qtw m (qE m b tugs sk 1) l (qsq m b) (qT m b size q)).2.2.1 : Int)), ?_, ?_, ?_, ?_, fun o j a c => ?_⟩
  · have e1 : rI (wJ (wI σ 3 15 1) 3 16 (lN q)) (76 + b) 1 = yI (qsq m b : Int) := by rw [kb2.2.1, w1]
    have e7 : rR (wJ (wI σ 3 15 1) 3 16 (lN q)) 3 7 = 76 + b := by rw [rR_wJ, rR_wI, h7]
    unfold fX8_towAgain fX8_towAgain_b0
    rw [yI_lN hq, e7, if_pos hsh, e1, show (0 : Int32) = yI ((0 : Nat) : Int) from rfl, b1 r1]
    simp (disch := omega) only [rI_o, rI_k, r4, yI_cln]
    rw [if_pos (inb_n (by omega) (by omega)), if_pos (inb_n (by omega) (by omega)), r2.1, r2.2.2]
  · rw [rI_k (by omega), rI_s]
  · rw [rI_s]
  · exact r3 (by show (1 : Nat) ≠ 0; omega)
  · rw [rI_o a, rI_o a, r5 o j a c, ft o j a c]
