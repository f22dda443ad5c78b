/-! THE LAW FROM ITS ENTRY -/
section WHOLE
variable {l : Launch}
theorem len_lt {L : Nat} (h : L < 7) : Int32.ofNat L - Int32.ofInt 7 < 0 := by
  have a : ∀ L : Fin 7, Int32.ofNat L.val - Int32.ofInt 7 < 0 := by decide
  exact a ⟨L, h⟩
set_option maxRecDepth 100000 in
theorem law_wp {sc : List Int32} (hL : sc.length ≤ 7) : WP l room_1 [soInL, sc] sgL_law kL_law qL 0 [some (.ref 1001), none, none, none] [] [] 0 0 := by
  refine run_sound okL_law (fun i => Nat.beq i 16) 100 ?_
  refine And.intro (by decide) (And.intro (by decide) (And.intro (by decide) (And.intro rfl ⟨2, _, by decide, i_class0, ?_⟩)))
  rintro h w ⟨rfl, rfl⟩
  refine And.intro (by decide) (And.intro (by decide) (And.intro (by decide) (And.intro rfl ⟨5, _, by decide, i_model, ?_⟩)))
  rintro h w ⟨⟨M, hM, rfl⟩, rfl⟩
  refine Exists.intro sc (And.intro rfl (br (fun _ => ⟨rfl, rfl⟩) (fun h => ?_)))
  have h7 : sc.length = 7 := by
    by_cases z : sc.length < 7
    · exact absurd (len_lt z) h
    · omega
  exact law_all h7 hM.fm (by decide) (by decide)
end WHOLE
theorem whole_start {p : Program} {e : Env} {s : State} {m : MethodId} {below : List Frame} {meth : Method} {c : Code} (l : Launch) (hflags : l.flags = flags0) {b L : Nat} {xs : Nat → Int32} (hL : L ≤ 7) (C0 : lw_At p s m meth c b L xs) :
    W p l e room_1 s m #[Value.ref b] below meth c s.heap [] 0 0 (lw_Z below #[Value.ref b] s) (entryFrame m ([Value.ref b] : List Value).toArray 4) :=
  start_of l (Nat.lt_of_le_of_lt hL (by decide)) C0 (law_wp (by rw [List.length_map, List.length_range]; exact hL))
