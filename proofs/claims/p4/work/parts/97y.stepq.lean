/-! EACH CALL, on both sides: questions, whatever they answer; new ones -/
section STEPQ
variable {l : Launch} {X : List (List Int32)} {S : CS} {M : MS}
theorem N_asks (r : REL S M) (a b c d : Int32) : StN l X S M 2 sgX7_asks [.ref 0, .int a, .int b, .int c, .int d] 3 sgX8_asks [.ref 27, .int a, .int b, .int c, .int d] := by
  obtain ⟨nt, ns, nk, ta, h⟩ := id r.1
  exact stq r (K_asks r.kc a b c d) (fun B => ⟨_, g_asks h.1 a b c d⟩)
theorem N_means (r : REL S M) (a b : Int32) : StNL l X S M 2 sgX7_means [.ref 0, .int a, .int b] 4 sgX8_means [.ref 27, .int a, .int b] := by
  obtain ⟨nt, ns, nk, ta, h⟩ := id r.1
  exact stqL r (K_means r.kc a b) (fun B => ⟨_, g_means h.1 a b⟩)
theorem N_pairs (r : REL S M) (a : Int32) : StN l X S M 2 sgX7_pairs [.ref 0, .int a] 4 sgX8_pairs [.ref 27, .int a] := by
  obtain ⟨nt, ns, nk, ta, h⟩ := id r.1
  exact stq r (K_pairs r.kc a) (fun B => ⟨_, g_pairs h.1 a⟩)
theorem N_worlds (r : REL S M) : StNL l X S M 7 sgX7_worlds [.ref 0] 6 sgX8_worlds [.ref 27] := by
  obtain ⟨nt, ns, nk, ta, h⟩ := id r.1
  exact stqL r (K_worlds r.kc ) (fun B => ⟨_, g_worlds h.1 ⟩)
theorem N_behind (hX : X[0]? = some soInL) (r : REL S M) (a b : Int32) : StN l X S M 6 sgX7_behind [.ref 0, .int a, .int b] 5 sgX8_behind [.ref 27, .int a, .int b] := by
  obtain ⟨nt, ns, nk, ta, h⟩ := id r.1
  exact stq r (K_behind hX r.kc a b) (fun B => ⟨_, g_behind h.1 a b⟩)
theorem N_cannot (r : REL S M) : StN l X S M 5 sgX7_cannot [.ref 0] 5 sgX8_cannot [.ref 27] := by
  obtain ⟨nt, ns, nk, ta, h⟩ := id r.1
  exact stq r (K_cannot r.kc ) (fun B => ⟨_, g_cannot h.1 ⟩)
theorem N_lies (r : REL S M) : StN l X S M 7 sgX7_lies [.ref 0] 6 sgX8_lies [.ref 27] := by
  obtain ⟨nt, ns, nk, ta, h⟩ := id r.1
  exact stq r (K_lies r.kc ) (fun B => ⟨_, g_lies h.1 ⟩)
theorem N_least (r : REL S M) (a : Int32) : StN l X S M 6 sgX7_least [.ref 0, .int a] 6 sgX8_least [.ref 27, .int a] := by
  obtain ⟨nt, ns, nk, ta, h⟩ := id r.1
  exact stq r (K_least r.kc a) (fun B => ⟨_, g_least h.1 a⟩)
theorem N_mad (r : REL S M) (a : Int32) : StN l X S M 6 sgX7_mad [.ref 0, .int a] 5 sgX8_mad [.ref 27, .int a] := by
  obtain ⟨nt, ns, nk, ta, h⟩ := id r.1
  exact stq r (K_mad r.kc a) (fun B => ⟨_, g_mad h.1 a⟩)
theorem N_habit (r : REL S M) (a b c : Int32) : StNL l X S M 5 sgX7_habit [.ref 0, .int a, .int b, .int c] 5 sgX8_habit [.ref 27, .int a, .int b, .int c] := by
  obtain ⟨nt, ns, nk, ta, h⟩ := id r.1
  exact stqL r (K_habit r.kc a b c) (fun B => ⟨_, g_habit h.1 a b c⟩)
theorem N_kinds (r : REL S M) (a b : Int32) : StN l X S M 5 sgX7_kinds [.ref 0, .int a, .int b] 5 sgX8_kinds [.ref 27, .int a, .int b] := by
  obtain ⟨nt, ns, nk, ta, h⟩ := id r.1
  exact stq r (K_kinds r.kc a b) (fun B => ⟨_, g_kinds h.1 a b⟩)
theorem N_ask (r : REL S M) (a : Int32) : StN l X S M 7 sgX7_ask [.ref 0, .int a] 7 sgX8_ask [.ref 27, .int a] := by
  obtain ⟨nt, ns, nk, ta, h⟩ := id r.1
  exact stq r (K_ask r.kc a) (fun B => ⟨_, g_ask h.1 a⟩)
theorem N_two (r : REL S M) (a : Int32) : StN l X S M 7 sgX7_two [.ref 0, .int a] 6 sgX8_two_ [.ref 27, .int a] := by
  obtain ⟨nt, ns, nk, ta, h⟩ := id r.1
  exact stq r (K_two r.kc a) (fun B => ⟨_, g_two h.1 a⟩)
theorem N_parts (r : REL S M) (a b c : Int32) : StNL l X S M 7 sgX7_parts [.ref 0, .int a, .int b, .int c] 6 sgX8_parts [.ref 27, .int a, .int b, .int c] := by
  obtain ⟨nt, ns, nk, ta, h⟩ := id r.1
  exact stqL r (K_parts r.kc a b c) (fun B => ⟨_, g_parts h.1 a b c⟩)
theorem N_hide (hX : X[0]? = some soInL) (r : REL S M) (a b c : Int32) : StN l X S M 7 sgX7_hide [.ref 0, .int a, .int b, .int c] 6 sgX8_hide [.ref 27, .int a, .int b, .int c] := by
  obtain ⟨nt, ns, nk, ta, h⟩ := id r.1
  exact stq r (K_hide hX r.kc a b c) (fun B => ⟨_, g_hide h.1 a b c⟩)
theorem N_same (r : REL S M) (a b c : Int32) : StN l X S M 7 sgX7_same [.ref 0, .int a, .int b, .int c] 6 sgX8_same [.ref 27, .int a, .int b, .int c] := by
  obtain ⟨nt, ns, nk, ta, h⟩ := id r.1
  exact stq r (K_same r.kc a b c) (fun B => ⟨_, g_same h.1 a b c⟩)
theorem N_claims (r : REL S M) (a : Int32) : StN l X S M 7 sgX7_claims [.ref 0, .int a] 6 sgX8_claims [.ref 27, .int a] := by
  obtain ⟨nt, ns, nk, ta, h⟩ := id r.1
  exact stq r (K_claims r.kc a) (fun B => ⟨_, g_claims h.1 a⟩)
theorem N_settle (r : REL S M) (a : Int32) : StN l X S M 7 sgX7_settle [.ref 0, .int a] 6 sgX8_settle [.ref 27, .int a] := by
  obtain ⟨nt, ns, nk, ta, h⟩ := id r.1
  exact stq r (K_settle r.kc a) (fun B => ⟨_, g_settle h.1 a⟩)
theorem N_thrice (r : REL S M) (a b c : Int32) : StNL l X S M 7 sgX7_thrice [.ref 0, .int a, .int b, .int c] 6 sgX8_thrice [.ref 27, .int a, .int b, .int c] := by
  obtain ⟨nt, ns, nk, ta, h⟩ := id r.1
  exact stqL r (K_thrice r.kc a b c) (fun B => ⟨_, g_thrice h.1 a b c⟩)
theorem N_many (r : REL S M) (a : Int32) : StN l X S M 7 sgX7_many [.ref 0, .int a] 6 sgX8_many [.ref 27, .int a] := by
  obtain ⟨nt, ns, nk, ta, h⟩ := id r.1
  exact stq r (K_many r.kc a) (fun B => ⟨_, g_many h.1 a⟩)
theorem N_judge (r : REL S M) (a b : Int32) : StN l X S M 4 sgX7_judge [.ref 0, .int a, .int b] 5 sgX8_judge [.ref 27, .int a, .int b] := by
  obtain ⟨nt, ns, nk, ta, h⟩ := id r.1
  exact stq r (K_judge r.kc a b) (fun B => ⟨_, g_judge h.1 h.2.2.1 a b⟩)
theorem N_drawn (r : REL S M) (a : Int32) : StN l X S M 7 sgX7_drawn [.ref 0, .int a] 6 sgX8_drawn [.ref 27, .int a] := by
  obtain ⟨nt, ns, nk, ta, h⟩ := id r.1
  exact stq r (K_drawn r.kc a) (fun B => ⟨_, g_drawn h.1 a⟩)
theorem N_mean (r : REL S M) (a b c : Int32) : StNL l X S M 7 sgX7_mean [.ref 0, .int a, .int b, .int c] 6 sgX8_mean [.ref 27, .int a, .int b, .int c] := by
  obtain ⟨nt, ns, nk, ta, h⟩ := id r.1
  exact stqL r (K_mean r.kc a b c) (fun B => ⟨_, g_mean h.1 a b c⟩)
theorem RI_new {M : MS} (h : NewM M) : RI M := by
  obtain ⟨hM, hO, -, a, b, tk, v, cd, hd, hm, op, ou, st, rfl⟩ := h
  refine ⟨1, 0, 0, 0, ⟨hM, hO, ⟨rfl, by decide, by decide⟩, ⟨rfl, by decide⟩, ⟨rfl, by decide⟩, ⟨0, by decide, rfl⟩, ?_, ?_⟩, ⟨rfl, by decide⟩, ?_, Or.inl rfl⟩
  · intro i hi
    show Kd ((z32 5).getD i 0) ((z32 5).getD i 0)
    have a : ∀ i : Fin 5, (z32 5).getD i.val 0 = 0 := by decide
    rw [a ⟨i, hi⟩]
    exact ⟨⟨by decide, by decide⟩, by decide, by decide⟩
  · intro k hk
    exact absurd hk (Nat.not_lt_zero _)
  · intro s hs
    show m2P (([-1, -1, -1, -1] : List Int32).getD s 0) ∧ ∃ z : Nat, z ≤ 40 ∧ (z32 4).getD s 0 = nI z
    have a : ∀ i : Fin 4, m2P (([-1, -1, -1, -1] : List Int32).getD i.val 0) ∧ (z32 4).getD i.val 0 = nI 0 := by decide
    exact ⟨(a ⟨s, hs⟩).1, 0, by decide, (a ⟨s, hs⟩).2⟩
theorem z32_0 (n i : Nat) : (z32 n).getD i 0 = 0 := by
  unfold z32
  rw [List.getD_eq_getElem?_getD, List.getElem?_replicate]
  split <;> rfl
theorem REL_new (h : NewM M) : REL CS0 M := by
  have hf := h.fm
  refine ⟨RI_new h, ?_⟩
  obtain ⟨-, -, -, a, b, tk, v, cd, hd, hm, op, ou, st, eM⟩ := h
  have e1 : M.2.1 1 = z32 5 := by rw [eM]; rfl
  have e2 : M.2.1 2 = z32 5 := by rw [eM]; rfl
  have e4 : M.2.1 4 = z32 36 := by rw [eM]; rfl
  have e15 : M.2.1 15 = z32 10 := by rw [eM]; rfl
  have e16 : M.2.1 16 = z32 36 := by rw [eM]; rfl
  have e17 : M.2.1 17 = [-1, -1, -1, -1] := by rw [eM]; rfl
  have e18 : M.2.1 18 = z32 4 := by rw [eM]; rfl
  have e19 : M.2.1 19 = z32 160 := by rw [eM]; rfl
  have e25 : M.2.1 25 = WS := by rw [eM]; rfl
  have n0 : M.1 0 = 0 := by rw [eM]; rfl
  have n3 : M.1 3 = 0 := by rw [eM]; rfl
  have n6 : M.1 6 = 0 := by rw [eM]; rfl
  have n9 : M.1 9 = 1 := by rw [eM]; rfl
  have n10 : M.1 10 = 0 := by rw [eM]; rfl
  have n11 : M.1 11 = 0 := by rw [eM]; rfl
  have n12 : M.1 12 = 0 := by rw [eM]; rfl
  have n13 : M.1 13 = 0 := by rw [eM]; rfl
  have n14 : M.1 14 = 0 := by rw [eM]; rfl
  refine ⟨CS0_inv.1, ⟨List.length_replicate, List.length_replicate, List.length_replicate, rfl, List.length_replicate⟩, ⟨0, 0, rfl, by decide, rfl, by decide⟩, ⟨List.length_replicate, List.length_replicate, List.length_replicate, List.length_replicate, List.length_replicate, List.length_replicate⟩, List.length_replicate,
    ⟨n0.symm, n3.symm, n10.symm, e1.symm, e2.symm, e4.symm⟩, ⟨n11.symm, n12.symm, n13.symm, n14.symm, ?_, e16.symm⟩, ⟨e17.symm, e18.symm, e19.symm⟩, ?_, ⟨n6.symm, List.length_replicate, ?_⟩, ⟨⟨?_, List.length_replicate, ?_⟩, n9.symm, ?_⟩, e25⟩
  · rw [e15]; rfl
  · intro s _ i _
    rw [e19, z32_0]
    exact ceV_0 _
  · intro j hj
    rw [n6] at hj
    exact absurd hj (Nat.not_lt_zero _)
  · rfl
  · rfl
  · intro t ht who hw
    rw [n9] at ht
    have t0 : t = 0 := by
      have : t < 1 := ht
      omega
    subst t0
    rw [hf.so0, hf.so1, hf.says2]
    have q : ∀ w : Fin 5, (([-1, -1, -1, -1, -1] : List Int32) ++ z32 25).getD (5 * 0 + w.val) 0 = -1 ∧ (([1, 1, 1, 1, 1] : List Int32) ++ z32 25).getD (5 * 0 + w.val) 0 = 1 := by decide
    have q10 : (CS0.2 10).getD (5 * 0 + who) 0 = -1 := (q ⟨who, hw⟩).1
    have q12 : (CS0.2 12).getD (5 * 0 + who) 0 = 1 := (q ⟨who, hw⟩).2
    have q11 : (CS0.2 11).getD (5 * 0 + who) 0 = 0 := z32_0 30 _
    rw [q10, q11, q12]
    exact ⟨by unfold Zx; decide, Zx.z, rfl⟩
end STEPQ
