/-! THE LAW FROM ITS ENTRY: new ones are alike -/
section WHOLE
variable {l : Launch}
set_option maxRecDepth 100000 in
theorem law_wp {sc : List Int32} (hL : sc.length ≤ 3584) : WP l room_1 [soInL, sc] sgL_law kL_law qL 0 [some (.ref 1001), none, none, none] [] [] 0 0 := by
  refine run_soundF okL_law lookL_ok (fun i => Nat.beq i 10) 100 ?_
  refine And.intro (by decide) (And.intro (by decide) (And.intro (by decide) (And.intro rfl ⟨2, _, by decide, i_class0, ?_⟩)))
  rintro h w ⟨rfl, rfl⟩
  refine And.intro (by decide) (And.intro (by decide) (And.intro (by decide) (And.intro rfl ⟨5, _, by decide, i_model, ?_⟩)))
  rintro h w ⟨⟨M, hM, rfl⟩, rfl⟩
  exact law_all hL (by decide) (by decide) 0 (Nat.zero_le _) CS0 M (REL_new hM)
end WHOLE
theorem whole_start {p : Program} {e : Env} {s : State} {m : MethodId} {below : List Frame} {meth : Method} {c : Code} (l : Launch) (hflags : l.flags = flags0) {b L : Nat} {xs : Nat → Int32} (hL : L ≤ 3584) (C0 : lw_At p s m meth c b L xs) :
    W p l e room_1 s m #[Value.ref b] below meth c s.heap [] 0 0 (lw_Z below #[Value.ref b] s) (entryFrame m ([Value.ref b] : List Value).toArray 4) :=
  start_of l (Nat.lt_of_le_of_lt hL (by decide)) C0 (law_wp (by rw [List.length_map, List.length_range]; exact hL))
