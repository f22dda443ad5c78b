/-! BOTH SIDES ALIKE: a text more, joined -/
section KRW
variable {S S' : CS} {M M' : MS} {nt ns nk ta : Nat}
theorem adR_get {f : Int32 → Int32} {xs : List Int32} {n : Nat} (hn : n ≤ 6) : ∀ k, 5 * n + k ≤ xs.length → k ≤ 5 → ∀ y, (adR f xs (nI n) k).getD y 0 = if 5 * n ≤ y ∧ y < 5 * n + k then f (nI (y - 5 * n)) else xs.getD y 0
  | 0, _, _, y => by rw [adR, if_neg (by omega)]
  | k + 1, h, h5, y => by
    have ei : nI n * 5 + nI k = nI (5 * n + k) := by
      rw [show nI n * 5 = nI (n * 5) from nI_mul n 5, nI_add, Nat.mul_comm n 5]
    rw [adR, ei, putF_n (by omega), getD_set, adR_len, adR_get hn k (by omega) (by omega)]
    by_cases e : 5 * n + k = y
    · subst e
      rw [if_pos ⟨rfl, by omega⟩, if_pos ⟨by omega, by omega⟩, Nat.add_sub_cancel_left]
    · rw [if_neg (fun z => e z.1)]
      by_cases q : 5 * n ≤ y ∧ y < 5 * n + k
      · rw [if_pos q, if_pos ⟨q.1, by omega⟩]
      · rw [if_neg q, if_neg (fun z => q ⟨z.1, by omega⟩)]
theorem cut3 {α : Type} (a b c : List α) : ((a ++ b ++ c).drop 0).take (a.length - 0) = a ∧ ((a ++ b ++ c).drop a.length).take ((a ++ b).length - a.length) = b ∧ ((a ++ b ++ c).drop (a ++ b).length).take ((a ++ b ++ c).length - (a ++ b).length) = c := by
  refine ⟨?_, ?_, ?_⟩
  · simp
  · rw [List.append_assoc, List.drop_left, List.length_append, Nat.add_sub_cancel_left, List.take_left]
  · rw [List.drop_left, List.length_append (bs := c), Nat.add_sub_cancel_left, List.take_length]
theorem prts_3 {c1 c2 c3 : List (Int32 × Int32)} (hl : (c1 ++ c2 ++ c3).length ≤ 160) : prts (c1 ++ c2 ++ c3) [0, nI c1.length, nI (c1 ++ c2).length, nI (c1 ++ c2 ++ c3).length] 0 = c1 ∧ prts (c1 ++ c2 ++ c3) [0, nI c1.length, nI (c1 ++ c2).length, nI (c1 ++ c2 ++ c3).length] 1 = c2 ∧ prts (c1 ++ c2 ++ c3) [0, nI c1.length, nI (c1 ++ c2).length, nI (c1 ++ c2 ++ c3).length] 2 = c3 := by
  have h12 : (c1 ++ c2).length ≤ (c1 ++ c2 ++ c3).length := by rw [List.length_append (bs := c3)]; omega
  have h1 : c1.length ≤ (c1 ++ c2).length := by rw [List.length_append]; omega
  obtain ⟨k1, k2, k3⟩ := cut3 c1 c2 c3
  have n1 : (nI c1.length).toNatClampNeg = c1.length := nI_clamp (by omega)
  have n2 : (nI (c1 ++ c2).length).toNatClampNeg = (c1 ++ c2).length := nI_clamp (by omega)
  have n3 : (nI (c1 ++ c2 ++ c3).length).toNatClampNeg = (c1 ++ c2 ++ c3).length := nI_clamp (by omega)
  refine ⟨?_, ?_, ?_⟩
  · show ((c1 ++ c2 ++ c3).drop 0).take ((nI c1.length).toNatClampNeg - 0) = c1
    rw [n1]; exact k1
  · show ((c1 ++ c2 ++ c3).drop (nI c1.length).toNatClampNeg).take ((nI (c1 ++ c2).length).toNatClampNeg - (nI c1.length).toNatClampNeg) = c2
    rw [n1, n2]; exact k2
  · show ((c1 ++ c2 ++ c3).drop (nI (c1 ++ c2).length).toNatClampNeg).take ((nI (c1 ++ c2 ++ c3).length).toNatClampNeg - (nI (c1 ++ c2).length).toNatClampNeg) = c3
    rw [n2, n3]; exact k3
theorem seg_3 {c1 c2 c3 : List (Int32 × Int32)} (hl : (c1 ++ c2 ++ c3).length ≤ 160) {cd starts st : List Int32} {n : Nat} (hn : n < 6) (l24 : starts.length = 24) (hcd : (cd.drop (200 * n)).take ((c1 ++ c2 ++ c3).map gm).length = (c1 ++ c2 ++ c3).map gm)
    (hst : st = (((starts.set (4 * n) 0).set (4 * n + 1) (nI c1.length)).set (4 * n + 2) (nI (c1 ++ c2).length)).set (4 * n + 3) (nI ((c1 ++ c2 ++ c3).map gm).length)) (h7 : M.2.1 7 = cd) (h8 : M.2.1 8 = st) :
    segM M n 0 = c1.map gm ∧ segM M n 1 = c2.map gm ∧ segM M n 2 = c3.map gm := by
  have h12 : (c1 ++ c2).length ≤ (c1 ++ c2 ++ c3).length := by rw [List.length_append (bs := c3)]; omega
  have h1 : c1.length ≤ (c1 ++ c2).length := by rw [List.length_append]; omega
  have g0 : st.getD (4 * n) 0 = nI 0 := by
    rw [hst, getD_set_ne (by omega), getD_set_ne (by omega), getD_set_ne (by omega), getD_set_eq (by omega)]; rfl
  have g1 : st.getD (4 * n + 1) 0 = nI c1.length := by
    rw [hst, getD_set_ne (by omega), getD_set_ne (by omega), getD_set_eq (by rw [List.length_set]; omega)]
  have g2 : st.getD (4 * n + 2) 0 = nI (c1 ++ c2).length := by
    rw [hst, getD_set_ne (by omega), getD_set_eq (by rw [List.length_set, List.length_set]; omega)]
  have g3 : st.getD (4 * n + 3) 0 = nI (c1 ++ c2 ++ c3).length := by
    rw [hst, getD_set_eq (by rw [List.length_set, List.length_set, List.length_set]; omega), List.length_map]
  have cut := fun (a b : Nat) (hab : a ≤ b) (hb : b ≤ (c1 ++ c2 ++ c3).length) => seg_cut (cd := cd) (K := 200 * n) (a := a) (b := b) hcd hab (by rw [List.length_map]; exact hb)
  obtain ⟨k1, k2, k3⟩ := cut3 (c1.map gm) (c2.map gm) (c3.map gm)
  have e12 : (c1.map gm ++ c2.map gm).length = (c1 ++ c2).length := by rw [← List.map_append, List.length_map]
  have e123 : (c1.map gm ++ c2.map gm ++ c3.map gm) = (c1 ++ c2 ++ c3).map gm := by rw [List.map_append, List.map_append]
  rw [e123] at k1 k2 k3
  rw [e12] at k2 k3
  rw [List.length_map] at k1 k2 k3
  unfold segM
  rw [h7, h8]
  refine ⟨?_, ?_, ?_⟩
  · show (cd.drop (200 * n + (st.getD (4 * n + 0) 0).toNatClampNeg)).take ((st.getD (4 * n + 1) 0).toNatClampNeg - (st.getD (4 * n + 0) 0).toNatClampNeg) = _
    rw [show 4 * n + 0 = 4 * n from rfl, g0, g1, nI_clamp (by omega), nI_clamp (by omega), cut 0 _ (Nat.zero_le _) (by omega)]
    exact k1
  · show (cd.drop (200 * n + (st.getD (4 * n + 1) 0).toNatClampNeg)).take ((st.getD (4 * n + 2) 0).toNatClampNeg - (st.getD (4 * n + 1) 0).toNatClampNeg) = _
    rw [g1, g2, nI_clamp (by omega), nI_clamp (by omega), cut _ _ h1 h12]
    exact k2
  · show (cd.drop (200 * n + (st.getD (4 * n + 2) 0).toNatClampNeg)).take ((st.getD (4 * n + 3) 0).toNatClampNeg - (st.getD (4 * n + 2) 0).toNatClampNeg) = _
    rw [g2, g3, nI_clamp (by omega), nI_clamp (by omega), cut _ _ h12 (Nat.le_refl _)]
    exact k3
theorem KR.lex (h : RInv M nt ns nk ta) (k : KR S M) : Lex (S.2 2) (M.2.1 5) ta := by
  have p3 := k.tp.2.2
  rw [h.2.1.1, nI_clamp (by have := h.2.1.2; omega)] at p3
  exact ⟨p3, h.2.1.2⟩
/-- what a text more leaves of the class -/
def FrX (S S' : CS) : Prop := S'.2 2 = S.2 2 ∧ S'.2 14 = S.2 14 ∧ S'.2 15 = S.2 15 ∧ S'.2 16 = S.2 16 ∧ S'.2 18 = S.2 18 ∧ S'.2 19 = S.2 19 ∧ S'.2 20 = S.2 20 ∧ S'.2 22 = S.2 22 ∧ S'.2 23 = S.2 23 ∧ S'.2 24 = S.2 24 ∧ S'.2 25 = S.2 25 ∧ S'.1 8 = S.1 8 ∧ S'.1 133 = S.1 133 ∧ S'.1 134 = S.1 134 ∧ S'.1 135 = S.1 135 ∧ S'.1 173 = S.1 173 ∧ S'.1 174 = S.1 174 ∧ S'.1 175 = S.1 175 ∧ S'.1 11 = 0
/-- what stays, whether a text was read or not -/
theorem KR.text (h : RInv M nt ns nk ta) (k : KR S M) {a b tk v hm op : Int32} {cd hd st : List Int32} {x9 ou : Int32} (eM : M' = mR (pM (xM (mN (mN M 6 (Int32.ofInt 0)) 9 x9) a b tk v) cd hd hm op ou) 8 st)
    (f : FrX S S')
    (hc : CLen S') (ht : TxInv S') (hx : RTx S' M') : KR S' M' := by
  obtain ⟨c1, c2, c3, c4, c5, k6, k7, k8, k9, k10, k11, k12⟩ := k
  obtain ⟨f1, f2, f3, f4, f5, f6, f7, f8, f9, f10, f11, f12, f13, f14, f15, f16, f17, f18, f19⟩ := f
  refine ⟨hc, ht, ?_, ?_, ?_, ?_, ?_, ?_, ?_, ⟨?_, ?_, ?_⟩, hx, ?_⟩
  · unfold ImC
    rw [f16, f17]
    exact c3
  · unfold TkL
    rw [f2, f3, f4, f5, f6, f7]
    exact c4
  · rw [f11]; exact c5
  · unfold RTk
    rw [f13, f14, f15, f2, f3, f4]
    subst eM
    exact k6
  · unfold RIm
    rw [f12, f16, f17, f18, f5, f6, f7]
    subst eM
    exact k7
  · unfold RSh
    rw [f8, f9, f10]
    subst eM
    exact k8
  · subst eM
    exact k9
  · rw [f19]
    subst eM
    rfl
  · rw [f1]; exact k10.2.1
  · intro j hj
    have e6 : M'.1 6 = 0 := by subst eM; rfl
    rw [e6] at hj
    exact absurd hj (Nat.not_lt_zero _)
  · subst eM
    exact k12
theorem txN_7 {W : TS} {e : Bool × Int32} {a tk v hm op : Int32} {cd hd : List Int32} : (txN M nt W e a tk v hm op cd hd).2.1 7 = cd ∧ (txN M nt W e a tk v hm op cd hd).2.1 8 = W.2.2.2.2.set (4 * nt + 3) (nI W.2.2.2.1.length) := ⟨rfl, rfl⟩
theorem addX_rows (Z : CS) (c : List (Int32 × Int32)) (k : Nat) : (addX Z c k).2 10 = adR (onR c (Z.2 6) 0) (Z.2 10) (Z.1 93) k ∧ (addX Z c k).2 11 = adR (onR c (Z.2 6) 1) (Z.2 11) (Z.1 93) k ∧ (addX Z c k).2 12 = adR (coR c (Z.2 6)) (Z.2 12) (Z.1 93) k := by
  unfold addX
  generalize adR (onR c (Z.2 6) 0) (Z.2 10) (Z.1 93) k = A
  generalize adR (onR c (Z.2 6) 1) (Z.2 11) (Z.1 93) k = B
  generalize adR (coR c (Z.2 6)) (Z.2 12) (Z.1 93) k = C
  exact ⟨rfl, rfl, rfl⟩
theorem txS_rows {t : Nat} {r4 r5 : List Int32} : (txS S t r4 r5).2 6 = (RT S t).2.2 ∧ (txS S t r4 r5).2 10 = S.2 10 ∧ (txS S t r4 r5).2 11 = S.2 11 ∧ (txS S t r4 r5).2 12 = S.2 12 ∧ (txS S t r4 r5).1 93 = S.1 93 := by
  unfold txS
  generalize RT S t = W
  exact ⟨rfl, rfl, rfl, rfl, rfl⟩
theorem okW_rows (Y : CS) (r7 : List Int32) (m v : Int32) : (cN (cN (cR Y 7 r7) 35 m) 93 v).2 10 = Y.2 10 ∧ (cN (cN (cR Y 7 r7) 35 m) 93 v).2 11 = Y.2 11 ∧ (cN (cN (cR Y 7 r7) 35 m) 93 v).2 12 = Y.2 12 ∧ (cN (cN (cR Y 7 r7) 35 m) 93 v).1 93 = v := ⟨rfl, rfl, rfl, rfl⟩
theorem okW_fr {S Y : CS} (h : FrX S Y) (r7 : List Int32) (m v : Int32) : FrX S (cN (cN (cR Y 7 r7) 35 m) 93 v) := h
theorem okS_rows {t : Nat} {r4 r5 r7 : List Int32} {m : Int32} : (okS S t r4 r5 r7 m).2 10 = adR (onR (RT S t).2.1.2 (RT S t).2.2 0) (S.2 10) (S.1 93) 5 ∧ (okS S t r4 r5 r7 m).2 11 = adR (onR (RT S t).2.1.2 (RT S t).2.2 1) (S.2 11) (S.1 93) 5 ∧ (okS S t r4 r5 r7 m).2 12 = adR (coR (RT S t).2.1.2 (RT S t).2.2) (S.2 12) (S.1 93) 5 ∧ (okS S t r4 r5 r7 m).1 93 = S.1 93 + 1 := by
  obtain ⟨e6, e10, e11, e12, e93⟩ := txS_rows (S := S) (t := t) (r4 := r4) (r5 := r5)
  obtain ⟨a10, a11, a12⟩ := addX_rows (txS S t r4 r5) (RT S t).2.1.2 5
  rw [e6, e10, e93] at a10
  rw [e6, e11, e93] at a11
  rw [e6, e12, e93] at a12
  unfold okS
  obtain ⟨w10, w11, w12, w93⟩ := okW_rows (addX (txS S t r4 r5) (RT S t).2.1.2 5) r7 m (S.1 93 + 1)
  exact ⟨w10.trans a10, w11.trans a11, w12.trans a12, w93⟩
theorem txS_fr {t : Nat} {r4 r5 : List Int32} : FrX S (txS S t r4 r5) := by
  unfold txS
  generalize RT S t = W
  exact ⟨rfl, rfl, rfl, rfl, rfl, rfl, rfl, rfl, rfl, rfl, rfl, rfl, rfl, rfl, rfl, rfl, rfl, rfl, rfl⟩
theorem addX_fr {S Z : CS} (h : FrX S Z) (c : List (Int32 × Int32)) (k : Nat) : FrX S (addX Z c k) := by
  unfold addX
  generalize adR (onR c (Z.2 6) 0) (Z.2 10) (Z.1 93) k = A
  generalize adR (onR c (Z.2 6) 1) (Z.2 11) (Z.1 93) k = B
  generalize adR (coR c (Z.2 6)) (Z.2 12) (Z.1 93) k = C
  exact h
theorem okS_fr {t : Nat} {r4 r5 r7 : List Int32} {m : Int32} : FrX S (okS S t r4 r5 r7 m) := by
  unfold okS
  exact okW_fr (addX_fr txS_fr _ _) r7 m _
set_option maxRecDepth 100000 in
set_option maxHeartbeats 1000000 in
theorem text_KR (h : RInv M nt ns nk ta) (k : KR S M) : txA S ta nt = txB M ta nt ∧ ∀ S' M', TxC S ta nt S' → TxM M ta nt M' → RI M' ∧ KR S' M' := by
  have h96 := h.1.2.2.1.2.2
  have h9 := h.1.2.2.1.1
  have h24 : (M.2.1 8).length = 24 := h.1.1.2.2.2.2.2.1
  have ki := KR.ki h k
  unfold txA txB TxC TxM
  by_cases e : nt = 6
  · rw [if_pos e, if_pos e]
    refine ⟨rfl, fun S' M' hS hM => ?_⟩
    rw [hS.1 e, hM.1 e]
    exact ⟨⟨nt, ns, nk, ta, h⟩, k⟩
  · have n6 : nt < 6 := by omega
    rw [if_neg e, if_neg e]
    have hx := KR.lex h k
    have hal := text_al hx (lvP_sim hx 5 (Nat.le_refl _)).1 (st := S.2 6) ki.2.1.2.2.1 ki.2.1.2.2.2.1 (tx := nt) (b := M.1 22) (starts := M.2.1 8) h24 n6
    have hWS : M.2.1 25 = WS := k.2.2.2.2.2.2.2.2.2.2.2
    have eW : WT M ta nt = txL WS (M.2.1 5) ta nt 3 0 (true, 0, M.1 22, [], M.2.1 8) := by unfold WT; rw [hWS]
    have eE : ET M ta nt = txE WS (M.2.1 5) ta (txL WS (M.2.1 5) ta nt 3 0 (true, 0, M.1 22, [], M.2.1 8)) := by unfold ET; rw [eW, hWS]
    have eT : RT S ta = rtP (lvP (S.2 2) ta 5).1 (S.2 2) ta 3 0 (lexF (S.2 2) ta 0, []) (S.2 6) := rfl
    rw [← eE, ← eW, ← eT] at hal
    obtain ⟨t1, t2, t3⟩ := hal
    refine ⟨?_, fun S' M' hS hM => ?_⟩
    · cases hb : (RT S ta).1 with
      | true => rw [t1, hb, if_pos rfl, if_pos rfl]
      | false => rw [t1, hb, if_neg Bool.false_ne_true, if_neg Bool.false_ne_true, t2 hb]
    · obtain ⟨r4, r5, hcr, hf, ht⟩ := hS.2 n6
      obtain ⟨a, tk, v, hm, op, cd, hd, ho, hhd, eM⟩ := hM.2 n6
      obtain ⟨hR, hseg⟩ := txN_R h n6 ho hhd eM
      refine ⟨⟨_, ns, nk, 0, hR⟩, ?_⟩
      have tx := k.tx
      rw [RTx, h9, nI_clamp (by omega)] at tx
      obtain ⟨⟨l10, l11, l12⟩, e93, tx⟩ := tx
      cases hb : (RT S ta).1 with
      | false =>
        have eS := hf hb
        have kk := txS_K ki (t := ta) hcr
        rw [← eS] at kk
        rw [t1, hb, if_neg Bool.false_ne_true] at hR
        have n9 := hR.1.2.2.1.1
        refine KR.text (M := M) h k eM ?_ kk.1.1 kk.2.1 ?_
        · rw [eS]
          exact txS_fr
        · obtain ⟨-, u10, u11, u12, u93⟩ := txS_rows (S := S) (t := ta) (r4 := r4) (r5 := r5)
          rw [← eS] at u10 u11 u12 u93
          unfold RTx
          rw [u10, u11, u12, u93, n9, nI_clamp (by omega)]
          refine ⟨⟨l10, l11, l12⟩, e93, fun t ht who hw => ?_⟩
          rw [soF_seg (hseg t ht 0 (by decide)), soF_seg (hseg t ht 1 (by decide)), saysF_seg (hseg t ht 2 (by decide))]
          exact tx t ht who hw
      | true =>
        obtain ⟨r7, m, h7, eS⟩ := ht hb
        have kk := okS_K ki n6 (t := ta) (m := m) hcr h7
        rw [← eS] at kk
        rw [t1, hb, if_pos rfl] at hR
        have n9 := hR.1.2.2.1.1
        obtain ⟨c1, c2, c3, ec, ⟨v1, v2, v3⟩, hl, est, ecd, ests⟩ := t3 hb
        refine KR.text (M := M) h k eM ?_ kk.1.1 kk.2.1 ?_
        · rw [eS]
          exact okS_fr
        · obtain ⟨u10, u11, u12, u93⟩ := okS_rows (S := S) (t := ta) (r4 := r4) (r5 := r5) (r7 := r7) (m := m)
          rw [← eS] at u10 u11 u12 u93
          rw [ec, est, e93] at u10 u11 u12
          rw [e93, nI_1] at u93
          have segs : segM M' nt 0 = c1.map gm ∧ segM M' nt 1 = c2.map gm ∧ segM M' nt 2 = c3.map gm := by
            have ho3 := ho.2.2
            rw [ecd] at ho3
            refine seg_3 hl (starts := M.2.1 8) n6 h24 ho3 (st := (WT M ta nt).2.2.2.2.set (4 * nt + 3) (nI (WT M ta nt).2.2.2.1.length)) ?_ (by rw [eM]; exact txN_7.1) (by rw [eM]; exact txN_7.2)
            rw [ests, ecd]
          obtain ⟨p1, p2, p3⟩ := prts_3 hl
          have hAO := hR.1.2.1 nt (Nat.lt_succ_self nt)
          have l1 : c1.length ≤ 160 := by rw [List.length_append, List.length_append] at hl; omega
          have l2 : c2.length ≤ 160 := by rw [List.length_append, List.length_append] at hl; omega
          have l3 : c3.length ≤ 160 := by rw [List.length_append, List.length_append] at hl; omega
          have ao : ∀ p, p < 3 → ∀ nm, ∃ v, evR nm (segM M' nt p) [] = some [v] := fun p hp => by
            obtain ⟨_, _, _, _, _, _, q⟩ := hAO p hp
            exact q
          unfold RTx
          rw [u93, n9, nI_clamp (by omega)]
          refine ⟨⟨by rw [u10, adR_len]; exact l10, by rw [u11, adR_len]; exact l11, by rw [u12, adR_len]; exact l12⟩, rfl, fun t ht who hw => ?_⟩
          rw [u10, u11, u12, adR_get (by omega) 5 (by omega) (Nat.le_refl _), adR_get (by omega) 5 (by omega) (Nat.le_refl _), adR_get (by omega) 5 (by omega) (Nat.le_refl _)]
          by_cases et : t = nt
          · subst et
            rw [if_pos (by omega), if_pos (by omega), if_pos (by omega), Nat.add_sub_cancel_left]
            unfold onR coR
            rw [p1, p2, p3]
            exact ⟨tr_al (p := 0) (by decide) v1 l1 segs.1 (ao 0 (by decide)) 32 (Nat.le_refl _), tr_al (p := 1) (by decide) v2 l2 segs.2.1 (ao 1 (by decide)) 32 (Nat.le_refl _), says_2 v3 l3 segs.2.2 (ao 2 (by decide))⟩
          · have ht : t < nt := by omega
            rw [if_neg (by omega), if_neg (by omega), if_neg (by omega)]
            rw [soF_seg (hseg t ht 0 (by decide)), soF_seg (hseg t ht 1 (by decide)), saysF_seg (hseg t ht 2 (by decide))]
            exact tx t ht who hw
end KRW
