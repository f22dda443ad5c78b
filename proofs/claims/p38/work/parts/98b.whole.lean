/-! THE LAW FROM ITS ENTRY: new ones hold all that is kept -/
section WHOLE
variable {l : Launch}
theorem KC_new : KC CS0 := ⟨1, 0, 0, 0, CS0_inv, ⟨List.length_replicate, List.length_replicate, List.length_replicate, rfl, List.length_replicate⟩, ⟨rfl, Nat.zero_le _⟩, 0, 0, rfl, Nat.zero_le _, rfl, Nat.zero_le _⟩
theorem RI_new {M : MS} (h : NewM M) : RI M := by
  obtain ⟨hM, hO, -, a, b, tk, v, cd, hd, hm, op, ou, st, rfl⟩ := h
  refine ⟨1, 0, 0, 0, ⟨hM, hO, ⟨rfl, by decide, by decide⟩, ⟨rfl, by decide⟩, ⟨rfl, by decide⟩, ⟨0, by decide, rfl⟩, ?_, ?_⟩, ⟨rfl, by decide⟩, ?_, Or.inl rfl⟩
  · intro i hi
    show Kd ((z32 5).getD i 0) ((z32 5).getD i 0)
    have a : ∀ i : Fin 5, (z32 5).getD i.val 0 = 0 := by decide
    rw [a ⟨i, hi⟩]
    exact ⟨⟨by decide, by decide⟩, by decide, by decide⟩
  · intro k hk
    exact absurd hk (Nat.not_lt_zero _)
  · intro s hs
    show m2P (([-1, -1, -1, -1] : List Int32).getD s 0) ∧ ∃ z : Nat, z ≤ 40 ∧ (z32 4).getD s 0 = nI z
    have a : ∀ i : Fin 4, m2P (([-1, -1, -1, -1] : List Int32).getD i.val 0) ∧ (z32 4).getD i.val 0 = nI 0 := by decide
    exact ⟨(a ⟨s, hs⟩).1, 0, by decide, (a ⟨s, hs⟩).2⟩
set_option maxRecDepth 100000 in
theorem law_wp {sc : List Int32} (hL : sc.length ≤ 3584) : WP l room_1 [soInL, sc] sgL_law kL_law qL 0 [some (.ref 1001), none, none, none] [] [] 0 0 := by
  refine run_sound okL_law (fun i => Nat.beq i 10) 100 ?_
  refine And.intro (by decide) (And.intro (by decide) (And.intro (by decide) (And.intro rfl ⟨2, _, by decide, i_class0, ?_⟩)))
  rintro h w ⟨rfl, rfl⟩
  refine And.intro (by decide) (And.intro (by decide) (And.intro (by decide) (And.intro rfl ⟨5, _, by decide, i_model, ?_⟩)))
  rintro h w ⟨⟨M, hM, rfl⟩, rfl⟩
  exact law_all hL (by decide) (by decide) 0 (Nat.zero_le _) CS0 M KC_new (RI_new hM)
end WHOLE
theorem whole_start {p : Program} {e : Env} {s : State} {m : MethodId} {below : List Frame} {meth : Method} {c : Code} (l : Launch) (hflags : l.flags = flags0) {b L : Nat} {xs : Nat → Int32} (hL : L ≤ 3584) (C0 : lw_At p s m meth c b L xs) :
    W p l e room_1 s m #[Value.ref b] below meth c s.heap [] 0 0 (lw_Z below #[Value.ref b] s) (entryFrame m ([Value.ref b] : List Value).toArray 4) :=
  start_of l (Nat.lt_of_le_of_lt hL (by decide)) C0 (law_wp (by rw [List.length_map, List.length_range]; exact hL))
