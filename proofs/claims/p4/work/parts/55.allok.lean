/-! A TEXT MORE, and all can be run -/
section ALLOK
variable {l : Launch} {X : List (List Int32)} {S : CS} {M : MS}
theorem seg_eq {cd cd0 : List Int32} {K k n : Nat} (hl : cd.length = cd0.length) (h : ∀ j, j < K → cd.getD j 0 = cd0.getD j 0) (hk : k + n ≤ K) (hK : K ≤ cd0.length) : (cd.drop k).take n = (cd0.drop k).take n := by
  apply List.ext_getElem?
  intro j
  by_cases hj : j < n
  · rw [List.getElem?_take_of_lt hj, List.getElem?_take_of_lt hj, List.getElem?_drop, List.getElem?_drop]
    have e := h (k + j) (by omega)
    rw [List.getD_eq_getElem?_getD, List.getD_eq_getElem?_getD, List.getElem?_eq_getElem (by omega), List.getElem?_eq_getElem (by omega)] at e
    rw [List.getElem?_eq_getElem (by omega), List.getElem?_eq_getElem (by omega)]
    exact congrArg some e
  · rw [List.getElem?_eq_none (by simp; omega), List.getElem?_eq_none (by simp; omega)]
theorem seg_cut {cd oc : List Int32} {K a b : Nat} (h : (cd.drop K).take oc.length = oc) (hab : a ≤ b) (hb : b ≤ oc.length) : (cd.drop (K + a)).take (b - a) = (oc.drop a).take (b - a) := by
  conv => rhs; rw [← h]
  rw [List.drop_take, List.take_take, List.drop_drop]
  congr 1
  omega
theorem getD_set_ne {st : List Int32} {i j : Nat} {v : Int32} (h : ¬ i = j) : (st.set i v).getD j 0 = st.getD j 0 := by
  rw [List.getD_eq_getElem?_getD, List.getD_eq_getElem?_getD, List.getElem?_set_ne h]
theorem getD_set_eq {st : List Int32} {i : Nat} {v : Int32} (h : i < st.length) : (st.set i v).getD i 0 = v := by
  rw [List.getD_eq_getElem?_getD, List.getElem?_set_self h]
  rfl
theorem TOk.of_eq {M M' : MS} {t p : Nat} (h : TOk M t p) (hs : ∀ j, j ≤ 4 * t + 3 → (M'.2.1 8).getD j 0 = (M.2.1 8).getD j 0) (hp : p < 3) (hl : (M'.2.1 7).length = (M.2.1 7).length) (hl2 : 200 * (t + 1) ≤ (M.2.1 7).length) (hc : ∀ j, j < 200 * (t + 1) → (M'.2.1 7).getD j 0 = (M.2.1 7).getD j 0) : TOk M' t p := by
  obtain ⟨a, b, h1, h2, h3, h4, h5⟩ := h
  have g1 := hs (4 * t + p) (by omega)
  have g2 := hs (4 * t + p + 1) (by omega)
  refine ⟨a, b, g1.trans h1, g2.trans h2, h3, h4, fun nm => ?_⟩
  have e : segM M' t p = segM M t p := by
    unfold segM
    rw [g1, g2, h1, h2, nI_clamp (by omega), nI_clamp (by omega)]
    exact seg_eq (K := 200 * (t + 1)) hl hc (by omega) hl2
  rw [e]
  exact h5 nm
/-- one text more -/
theorem AllOk.more {M M' : MS} {tx t a0 : Nat} {b0 : Int32} {ws tp : List Int32} (h : AllOk M tx) (htx : tx < 6) (ht : t ≤ 160) (h7 : (M.2.1 7).length = 1200) (h8 : (M.2.1 8).length = 24)
    (hT : (txL ws tp t tx 3 0 (true, a0, b0, [], M.2.1 8)).1 = true) (hoc : (txL ws tp t tx 3 0 (true, a0, b0, [], M.2.1 8)).2.2.2.1.length ≤ 200)
    (ho : OutR (M.2.1 7) (M'.2.1 7) tx (txL ws tp t tx 3 0 (true, a0, b0, [], M.2.1 8)).2.2.2.1)
    (hs : M'.2.1 8 = (txL ws tp t tx 3 0 (true, a0, b0, [], M.2.1 8)).2.2.2.2.set (4 * tx + 3) (nI (txL ws tp t tx 3 0 (true, a0, b0, [], M.2.1 8)).2.2.2.1.length)) : AllOk M' (tx + 1) := by
  obtain ⟨c0, c1, c2, k0, k1, k2, e1, e2⟩ := txL_ok (by omega) hT
  rw [e1] at hoc ho hs
  rw [e2] at hs
  intro t' ht' p hp
  by_cases q : t' < tx
  · refine (h t' q p hp).of_eq (fun j hj => ?_) hp (by rw [ho.1, h7]) (by rw [h7]; omega) (fun j hj => ho.2.1 j (by omega))
    rw [hs, getD_set_ne (by omega), getD_set_ne (by omega), getD_set_ne (by omega), getD_set_ne (by omega)]
  · have q : t' = tx := by omega
    subst q
    have hL : (c0 ++ c1 ++ c2).length = c0.length + c1.length + c2.length := by simp [Nat.add_assoc]
    have hL2 : (c0 ++ c1).length = c0.length + c1.length := by simp
    have s0 : (M'.2.1 8).getD (4 * t') 0 = nI 0 := by
      rw [hs, getD_set_ne (by omega), getD_set_ne (by omega), getD_set_ne (by omega), getD_set_eq (by omega)]
    have s1 : (M'.2.1 8).getD (4 * t' + 1) 0 = nI c0.length := by
      rw [hs, getD_set_ne (by omega), getD_set_ne (by omega), getD_set_eq (by rw [List.length_set]; omega)]
    have s2 : (M'.2.1 8).getD (4 * t' + 2) 0 = nI (c0 ++ c1).length := by
      rw [hs, getD_set_ne (by omega), getD_set_eq (by rw [List.length_set, List.length_set]; omega)]
    have s3 : (M'.2.1 8).getD (4 * t' + 3) 0 = nI (c0 ++ c1 ++ c2).length := by
      rw [hs, getD_set_eq (by rw [List.length_set, List.length_set, List.length_set]; omega)]
    have fin : ∀ (p a b : Nat) (c : List Int32), (M'.2.1 8).getD (4 * t' + p) 0 = nI a → (M'.2.1 8).getD (4 * t' + p + 1) 0 = nI b → a ≤ b → b ≤ (c0 ++ c1 ++ c2).length → ((c0 ++ c1 ++ c2).drop a).take (b - a) = c → Ht c 1 → TOk M' t' p := by
      intro p a b c g1 g2 hab hb hc hH
      refine ⟨a, b, g1, g2, hab, by omega, fun nm => ?_⟩
      have e : segM M' t' p = c := by
        unfold segM
        rw [g1, g2, nI_clamp (by omega), nI_clamp (by omega), seg_cut ho.2.2 hab hb]
        exact hc
      rw [e]
      obtain ⟨st, w1, w2⟩ := hH nm
      match st, w2 with
      | [v], _ => exact ⟨v, w1⟩
    match p, hp with
    | 0, _ => exact fin 0 0 c0.length c0 s0 s1 (Nat.zero_le _) (by omega) (by simp) k0
    | 1, _ => exact fin 1 c0.length (c0 ++ c1).length c1 s1 s2 (by omega) (by omega) (by simp) k1
    | 2, _ => exact fin 2 (c0 ++ c1).length (c0 ++ c1 ++ c2).length c2 s2 s3 (by omega) (Nat.le_refl _) (by rw [List.drop_left, show (c0 ++ c1 ++ c2).length - (c0 ++ c1).length = c2.length by omega, List.take_length]) k2
end ALLOK
