/-! FROM THE LAW'S ENTRY: the law is run by the abstract machine, too; its script is a row that is only read -/
def soInL : List Int32 := [-1431655766, -858993460, -252645136, -16711936, -65536]
theorem nest_tabs {w : Cond} (h : isNest w = true) {A : Array Value} {U : State} (hw : w.before A U = true) : va_Nw w U := by
  cases w <;> first | exact va_Nw.of rfl hw | (simp [isNest] at h)
theorem ret_law : (ret : Option FieldType) = some .boolean := rfl
set_option maxHeartbeats 4000000 in
set_option maxRecDepth 100000 in
theorem start_of {p : Program} {e : Env} {s : State} {m : MethodId} {below : List Frame} {meth : Method} {c : Code} (l : Launch) {b L : Nat} {xs : Nat → Int32} (hL31 : L < 2 ^ 31) (C0 : lw_At p s m meth c b L xs)
    (h : WP l room_1 [soInL, (List.range L).map xs] sgL_law kL_law (fun _ v => v = some (.int 1)) 0 [some (.ref 1001), none, none, none] [] [] 0 0) :
    W p l e room_1 s m #[Value.ref b] below meth c s.heap [] 0 0 (lw_Z below #[Value.ref b] s) (entryFrame m ([Value.ref b] : List Value).toArray 4) := by
  obtain ⟨hx, hb, hr, hml, hown, hts, hX, hbl, hlocks, hgv⟩ := C0
  have hgf := flat_of_before _ hgv
  have hA : ∀ q : Nat, s.heap.size ≤ q → (fun q : Nat => s.heap.size ≤ q) q := fun _ h => h
  have hbA : ¬ (fun q : Nat => s.heap.size ≤ q) b := Nat.not_le.mpr hbl
  have hAn : ∀ a : Nat, a < s.heap.size → ¬ (fun q : Nat => s.heap.size ≤ q) a := fun a ha => Nat.not_le.mpr ha
  have hts' : ∀ w ∈ TBL, w.before #[Value.ref b] s = true := fun w hw => hts w (List.mem_filter.mp hw).1
  obtain ⟨c0, iS0, k0⟩ := u_known (C := RX0) (T := TX0) (N := 6) (n := 6) hts' iw_X0 (hts (.instantiable RX0 6) (by decide +kernel))
  obtain ⟨c1, iS1, k1⟩ := u_known (C := RX1) (T := TX1) (N := 2) (n := 2) hts' iw_X1 (hts (.instantiable RX1 2) (by decide +kernel))
  obtain ⟨c2, iS2, k2⟩ := u_known (C := RX2) (T := TX2) (N := 4) (n := 4) hts' iw_X2 (hts (.instantiable RX2 4) (by decide +kernel))
  obtain ⟨c3, iS3, k3⟩ := u_known (C := RX3) (T := TX3) (N := 4) (n := 4) hts' iw_X3 (hts (.instantiable RX3 4) (by decide +kernel))
  obtain ⟨c4, iS4, k4⟩ := u_known (C := RX4) (T := TX4) (N := 6) (n := 6) hts' iw_X4 (hts (.instantiable RX4 6) (by decide +kernel))
  obtain ⟨c5, iS5, k5⟩ := u_known (C := RX5) (T := TX5) (N := 4) (n := 4) hts' iw_X5 (hts (.instantiable RX5 4) (by decide +kernel))
  obtain ⟨c6, iS6, k6⟩ := u_known (C := RX6) (T := TX6) (N := 6) (n := 6) hts' iw_X6 (hts (.instantiable RX6 6) (by decide +kernel))
  obtain ⟨c7, iS7, k7⟩ := u_known (C := RX7) (T := TX7) (N := 9) (n := 9) hts' iw_X7 (hts (.instantiable RX7 9) (by decide +kernel))
  obtain ⟨c8, iS8, k8⟩ := u_known (C := RX8) (T := TX8) (N := 37) (n := 37) hts' iw_X8 (hts (.instantiable RX8 37) (by decide +kernel))
  obtain ⟨dC, dI, hKc⟩ : ∃ (dC : Nat → ClassId) (dI : Nat → Nat → Nat), ∀ (k : Nat) (q : vw_C), vwCl[k]? = some q → u_Kn s q.1 q.2.1 q.2.2 (dC k) (dI k) := by
    refine ⟨fun k => [c0, c1, c2, c3, c4, c5, c6, c7, c8].getD k c0, fun k => [iS0, iS1, iS2, iS3, iS4, iS5, iS6, iS7, iS8].getD k iS0, ?_⟩
    intro k q hq
    match k, hq with
    | 0, hq => cases hq; exact k0
    | 1, hq => cases hq; exact k1
    | 2, hq => cases hq; exact k2
    | 3, hq => cases hq; exact k3
    | 4, hq => cases hq; exact k4
    | 5, hq => cases hq; exact k5
    | 6, hq => cases hq; exact k6
    | 7, hq => cases hq; exact k7
    | 8, hq => cases hq; exact k8
    | k + 9, hq => simp [vwCl] at hq
  obtain ⟨tI, kI, cI, hI1, hI2, hI3⟩ := Cond.arrayClass_spec (hts (.arrayClass .int) (by decide +kernel))
  obtain ⟨tL, kL, cL, hL1, hL2, hL3⟩ := Cond.arrayClass_spec (hts (.arrayClass .long) (by decide +kernel))
  have hK : va_K (dC, dI) vwCl (ctys (fun j => if j = 0 then tI else tL)) s := by
    refine ⟨hKc, fun k q hq => ?_⟩
    match k, hq with
    | 0, hq => cases hq; exact ⟨fun n z => ⟨fun k h => (by cases h), kI, hI2, cI, hI3⟩, hI1⟩
    | 1, hq => cases hq; exact ⟨fun n z => ⟨fun k h => (by cases h), kL, hL2, cL, hL3⟩, hL1⟩
    | k + 2, hq => simp [ctys] at hq
  obtain ⟨t, ht, cellT, g1, g2, g3, g4, g5, g6, g7⟩ := va_Tof (ty := .int) (N := 5) (f := fun j => .int (soInL.getD j 0)) (A := fun q : Nat => s.heap.size ≤ q) (by decide) (hgf (.arrayOf (.static "SaidTwice" "SO_IN" "[I") .int) (by decide +kernel))
    (va_eqt (hgf (.eq (.length (.static "SaidTwice" "SO_IN" "[I")) (.int 5)) (by decide +kernel)))
    (fun j hj => by
      match j, hj with
      | 0, _ => exact va_eqt (hgf (.eq (.elem (.static "SaidTwice" "SO_IN" "[I") (.int 0)) (.int (-1431655766))) (by decide +kernel))
      | 1, _ => exact va_eqt (hgf (.eq (.elem (.static "SaidTwice" "SO_IN" "[I") (.int 1)) (.int (-858993460))) (by decide +kernel))
      | 2, _ => exact va_eqt (hgf (.eq (.elem (.static "SaidTwice" "SO_IN" "[I") (.int 2)) (.int (-252645136))) (by decide +kernel))
      | 3, _ => exact va_eqt (hgf (.eq (.elem (.static "SaidTwice" "SO_IN" "[I") (.int 3)) (.int (-16711936))) (by decide +kernel))
      | 4, _ => exact va_eqt (hgf (.eq (.elem (.static "SaidTwice" "SO_IN" "[I") (.int 4)) (.int (-65536))) (by decide +kernel))) hAn
  have hZ : va_Z "SaidTwice" "SO_IN" "[I" (.ref t) (fun q : Nat => s.heap.size ≤ q) s s.heap := va_Zof (hts (.laysStatic "SaidTwice" "SO_IN" "[I") (by decide +kernel)) (hts (.initialized "SaidTwice") (by decide +kernel)) ht hAn
  have htl : t < s.heap.size := (Array.getElem?_eq_some_iff.mp g1).1
  have sN : ∀ i : Nat, i < 7 → lenS.getD i 0 < 2 ^ 31 := by
    intro i hi
    match i, hi with
    | 0, _ => exact (by decide)
    | 1, _ => exact (by decide)
    | 2, _ => exact (by decide)
    | 3, _ => exact (by decide)
    | 4, _ => exact (by decide)
    | 5, _ => exact (by decide)
    | 6, _ => exact (by decide)
    | i + 7, hi => omega
  have sX : ∀ i : Nat, i < 7 → (Cond.exactly ((fun i => Term.string "SaidTwice$Tokens" (sIx.getD i 0)) i) "java/lang/String").before #[Value.ref b] s = true := by
    intro i hi
    match i, hi with
    | 0, _ => exact hgf (.exactly (.string "SaidTwice$Tokens" 61) "java/lang/String") (by decide +kernel)
    | 1, _ => exact hgf (.exactly (.string "SaidTwice$Tokens" 67) "java/lang/String") (by decide +kernel)
    | 2, _ => exact hgf (.exactly (.string "SaidTwice$Tokens" 69) "java/lang/String") (by decide +kernel)
    | 3, _ => exact hgf (.exactly (.string "SaidTwice$Tokens" 71) "java/lang/String") (by decide +kernel)
    | 4, _ => exact hgf (.exactly (.string "SaidTwice$Tokens" 73) "java/lang/String") (by decide +kernel)
    | 5, _ => exact hgf (.exactly (.string "SaidTwice$Tokens" 75) "java/lang/String") (by decide +kernel)
    | 6, _ => exact hgf (.exactly (.string "SaidTwice$Tokens" 77) "java/lang/String") (by decide +kernel)
    | i + 7, hi => omega
  have sCo : ∀ i : Nat, i < 7 → (Cond.eq (.field ((fun i => Term.string "SaidTwice$Tokens" (sIx.getD i 0)) i) "java/lang/String" "coder" "B") (.int 0)).before #[Value.ref b] s = true := by
    intro i hi
    match i, hi with
    | 0, _ => exact hgf (.eq (.field (.string "SaidTwice$Tokens" 61) "java/lang/String" "coder" "B") (.int 0)) (by decide +kernel)
    | 1, _ => exact hgf (.eq (.field (.string "SaidTwice$Tokens" 67) "java/lang/String" "coder" "B") (.int 0)) (by decide +kernel)
    | 2, _ => exact hgf (.eq (.field (.string "SaidTwice$Tokens" 69) "java/lang/String" "coder" "B") (.int 0)) (by decide +kernel)
    | 3, _ => exact hgf (.eq (.field (.string "SaidTwice$Tokens" 71) "java/lang/String" "coder" "B") (.int 0)) (by decide +kernel)
    | 4, _ => exact hgf (.eq (.field (.string "SaidTwice$Tokens" 73) "java/lang/String" "coder" "B") (.int 0)) (by decide +kernel)
    | 5, _ => exact hgf (.eq (.field (.string "SaidTwice$Tokens" 75) "java/lang/String" "coder" "B") (.int 0)) (by decide +kernel)
    | 6, _ => exact hgf (.eq (.field (.string "SaidTwice$Tokens" 77) "java/lang/String" "coder" "B") (.int 0)) (by decide +kernel)
    | i + 7, hi => omega
  have sAr : ∀ i : Nat, i < 7 → (Cond.arrayOf (.field ((fun i => Term.string "SaidTwice$Tokens" (sIx.getD i 0)) i) "java/lang/String" "value" "[B") .byte).before #[Value.ref b] s = true := by
    intro i hi
    match i, hi with
    | 0, _ => exact hgf (.arrayOf (.field (.string "SaidTwice$Tokens" 61) "java/lang/String" "value" "[B") .byte) (by decide +kernel)
    | 1, _ => exact hgf (.arrayOf (.field (.string "SaidTwice$Tokens" 67) "java/lang/String" "value" "[B") .byte) (by decide +kernel)
    | 2, _ => exact hgf (.arrayOf (.field (.string "SaidTwice$Tokens" 69) "java/lang/String" "value" "[B") .byte) (by decide +kernel)
    | 3, _ => exact hgf (.arrayOf (.field (.string "SaidTwice$Tokens" 71) "java/lang/String" "value" "[B") .byte) (by decide +kernel)
    | 4, _ => exact hgf (.arrayOf (.field (.string "SaidTwice$Tokens" 73) "java/lang/String" "value" "[B") .byte) (by decide +kernel)
    | 5, _ => exact hgf (.arrayOf (.field (.string "SaidTwice$Tokens" 75) "java/lang/String" "value" "[B") .byte) (by decide +kernel)
    | 6, _ => exact hgf (.arrayOf (.field (.string "SaidTwice$Tokens" 77) "java/lang/String" "value" "[B") .byte) (by decide +kernel)
    | i + 7, hi => omega
  have sLe : ∀ i : Nat, i < 7 → (Cond.eq (.length (.field ((fun i => Term.string "SaidTwice$Tokens" (sIx.getD i 0)) i) "java/lang/String" "value" "[B")) (.int (Int32.ofNat (lenS.getD i 0)))).before #[Value.ref b] s = true := by
    intro i hi
    match i, hi with
    | 0, _ => exact hgf (.eq (.length (.field (.string "SaidTwice$Tokens" 61) "java/lang/String" "value" "[B")) (.int 3)) (by decide +kernel)
    | 1, _ => exact hgf (.eq (.length (.field (.string "SaidTwice$Tokens" 67) "java/lang/String" "value" "[B")) (.int 4)) (by decide +kernel)
    | 2, _ => exact hgf (.eq (.length (.field (.string "SaidTwice$Tokens" 69) "java/lang/String" "value" "[B")) (.int 5)) (by decide +kernel)
    | 3, _ => exact hgf (.eq (.length (.field (.string "SaidTwice$Tokens" 71) "java/lang/String" "value" "[B")) (.int 5)) (by decide +kernel)
    | 4, _ => exact hgf (.eq (.length (.field (.string "SaidTwice$Tokens" 73) "java/lang/String" "value" "[B")) (.int 2)) (by decide +kernel)
    | 5, _ => exact hgf (.eq (.length (.field (.string "SaidTwice$Tokens" 75) "java/lang/String" "value" "[B")) (.int 3)) (by decide +kernel)
    | 6, _ => exact hgf (.eq (.length (.field (.string "SaidTwice$Tokens" 77) "java/lang/String" "value" "[B")) (.int 3)) (by decide +kernel)
    | i + 7, hi => omega
  have sEl : ∀ i : Nat, i < 7 → ∀ j : Nat, j < lenS.getD i 0 → (Cond.eq (.elem (.field ((fun i => Term.string "SaidTwice$Tokens" (sIx.getD i 0)) i) "java/lang/String" "value" "[B") (.int (Int32.ofNat j))) (.int ((bytS.getD i []).getD j 0))).before #[Value.ref b] s = true := by
    intro i hi j hj
    match i, hi with
    | 0, _ => exact (by
      match j, hj with
      | 0, _ => exact hgf (.eq (.elem (.field (.string "SaidTwice$Tokens" 61) "java/lang/String" "value" "[B") (.int 0)) (.int 119)) (by decide +kernel)
      | 1, _ => exact hgf (.eq (.elem (.field (.string "SaidTwice$Tokens" 61) "java/lang/String" "value" "[B") (.int 1)) (.int 104)) (by decide +kernel)
      | 2, _ => exact hgf (.eq (.elem (.field (.string "SaidTwice$Tokens" 61) "java/lang/String" "value" "[B") (.int 2)) (.int 111)) (by decide +kernel)
      | j + 3, hj => exact absurd hj (by show ¬ j + 3 < 3; omega))
    | 1, _ => exact (by
      match j, hj with
      | 0, _ => exact hgf (.eq (.elem (.field (.string "SaidTwice$Tokens" 67) "java/lang/String" "value" "[B") (.int 0)) (.int 111)) (by decide +kernel)
      | 1, _ => exact hgf (.eq (.elem (.field (.string "SaidTwice$Tokens" 67) "java/lang/String" "value" "[B") (.int 1)) (.int 110)) (by decide +kernel)
      | 2, _ => exact hgf (.eq (.elem (.field (.string "SaidTwice$Tokens" 67) "java/lang/String" "value" "[B") (.int 2)) (.int 99)) (by decide +kernel)
      | 3, _ => exact hgf (.eq (.elem (.field (.string "SaidTwice$Tokens" 67) "java/lang/String" "value" "[B") (.int 3)) (.int 101)) (by decide +kernel)
      | j + 4, hj => exact absurd hj (by show ¬ j + 4 < 4; omega))
    | 2, _ => exact (by
      match j, hj with
      | 0, _ => exact hgf (.eq (.elem (.field (.string "SaidTwice$Tokens" 69) "java/lang/String" "value" "[B") (.int 0)) (.int 116)) (by decide +kernel)
      | 1, _ => exact hgf (.eq (.elem (.field (.string "SaidTwice$Tokens" 69) "java/lang/String" "value" "[B") (.int 1)) (.int 119)) (by decide +kernel)
      | 2, _ => exact hgf (.eq (.elem (.field (.string "SaidTwice$Tokens" 69) "java/lang/String" "value" "[B") (.int 2)) (.int 105)) (by decide +kernel)
      | 3, _ => exact hgf (.eq (.elem (.field (.string "SaidTwice$Tokens" 69) "java/lang/String" "value" "[B") (.int 3)) (.int 99)) (by decide +kernel)
      | 4, _ => exact hgf (.eq (.elem (.field (.string "SaidTwice$Tokens" 69) "java/lang/String" "value" "[B") (.int 4)) (.int 101)) (by decide +kernel)
      | j + 5, hj => exact absurd hj (by show ¬ j + 5 < 5; omega))
    | 3, _ => exact (by
      match j, hj with
      | 0, _ => exact hgf (.eq (.elem (.field (.string "SaidTwice$Tokens" 71) "java/lang/String" "value" "[B") (.int 0)) (.int 99)) (by decide +kernel)
      | 1, _ => exact hgf (.eq (.elem (.field (.string "SaidTwice$Tokens" 71) "java/lang/String" "value" "[B") (.int 1)) (.int 111)) (by decide +kernel)
      | 2, _ => exact hgf (.eq (.elem (.field (.string "SaidTwice$Tokens" 71) "java/lang/String" "value" "[B") (.int 2)) (.int 115)) (by decide +kernel)
      | 3, _ => exact hgf (.eq (.elem (.field (.string "SaidTwice$Tokens" 71) "java/lang/String" "value" "[B") (.int 3)) (.int 116)) (by decide +kernel)
      | 4, _ => exact hgf (.eq (.elem (.field (.string "SaidTwice$Tokens" 71) "java/lang/String" "value" "[B") (.int 4)) (.int 115)) (by decide +kernel)
      | j + 5, hj => exact absurd hj (by show ¬ j + 5 < 5; omega))
    | 4, _ => exact (by
      match j, hj with
      | 0, _ => exact hgf (.eq (.elem (.field (.string "SaidTwice$Tokens" 73) "java/lang/String" "value" "[B") (.int 0)) (.int 111)) (by decide +kernel)
      | 1, _ => exact hgf (.eq (.elem (.field (.string "SaidTwice$Tokens" 73) "java/lang/String" "value" "[B") (.int 1)) (.int 114)) (by decide +kernel)
      | j + 2, hj => exact absurd hj (by show ¬ j + 2 < 2; omega))
    | 5, _ => exact (by
      match j, hj with
      | 0, _ => exact hgf (.eq (.elem (.field (.string "SaidTwice$Tokens" 75) "java/lang/String" "value" "[B") (.int 0)) (.int 97)) (by decide +kernel)
      | 1, _ => exact hgf (.eq (.elem (.field (.string "SaidTwice$Tokens" 75) "java/lang/String" "value" "[B") (.int 1)) (.int 110)) (by decide +kernel)
      | 2, _ => exact hgf (.eq (.elem (.field (.string "SaidTwice$Tokens" 75) "java/lang/String" "value" "[B") (.int 2)) (.int 100)) (by decide +kernel)
      | j + 3, hj => exact absurd hj (by show ¬ j + 3 < 3; omega))
    | 6, _ => exact (by
      match j, hj with
      | 0, _ => exact hgf (.eq (.elem (.field (.string "SaidTwice$Tokens" 77) "java/lang/String" "value" "[B") (.int 0)) (.int 110)) (by decide +kernel)
      | 1, _ => exact hgf (.eq (.elem (.field (.string "SaidTwice$Tokens" 77) "java/lang/String" "value" "[B") (.int 1)) (.int 111)) (by decide +kernel)
      | 2, _ => exact hgf (.eq (.elem (.field (.string "SaidTwice$Tokens" 77) "java/lang/String" "value" "[B") (.int 2)) (.int 116)) (by decide +kernel)
      | j + 3, hj => exact absurd hj (by show ¬ j + 3 < 3; omega))
    | i + 7, hi => omega
  have sNe : ∀ i j : Nat, i < 7 → j < 7 → i ≠ j → (Cond.not (Cond.eq ((fun i => Term.string "SaidTwice$Tokens" (sIx.getD i 0)) i) ((fun i => Term.string "SaidTwice$Tokens" (sIx.getD i 0)) j))).before #[Value.ref b] s = true ∨ (Cond.not (Cond.eq ((fun i => Term.string "SaidTwice$Tokens" (sIx.getD i 0)) j) ((fun i => Term.string "SaidTwice$Tokens" (sIx.getD i 0)) i))).before #[Value.ref b] s = true := by
    intro i j hi hj hij
    match i, hi, j, hj with
    | 0, _, 0, _ => exact absurd rfl hij
    | 0, _, 1, _ => exact Or.inl (hgf (.not (.eq (.string "SaidTwice$Tokens" 61) (.string "SaidTwice$Tokens" 67))) (by decide +kernel))
    | 0, _, 2, _ => exact Or.inl (hgf (.not (.eq (.string "SaidTwice$Tokens" 61) (.string "SaidTwice$Tokens" 69))) (by decide +kernel))
    | 0, _, 3, _ => exact Or.inl (hgf (.not (.eq (.string "SaidTwice$Tokens" 61) (.string "SaidTwice$Tokens" 71))) (by decide +kernel))
    | 0, _, 4, _ => exact Or.inl (hgf (.not (.eq (.string "SaidTwice$Tokens" 61) (.string "SaidTwice$Tokens" 73))) (by decide +kernel))
    | 0, _, 5, _ => exact Or.inl (hgf (.not (.eq (.string "SaidTwice$Tokens" 61) (.string "SaidTwice$Tokens" 75))) (by decide +kernel))
    | 0, _, 6, _ => exact Or.inl (hgf (.not (.eq (.string "SaidTwice$Tokens" 61) (.string "SaidTwice$Tokens" 77))) (by decide +kernel))
    | 1, _, 0, _ => exact Or.inr (hgf (.not (.eq (.string "SaidTwice$Tokens" 61) (.string "SaidTwice$Tokens" 67))) (by decide +kernel))
    | 1, _, 1, _ => exact absurd rfl hij
    | 1, _, 2, _ => exact Or.inl (hgf (.not (.eq (.string "SaidTwice$Tokens" 67) (.string "SaidTwice$Tokens" 69))) (by decide +kernel))
    | 1, _, 3, _ => exact Or.inl (hgf (.not (.eq (.string "SaidTwice$Tokens" 67) (.string "SaidTwice$Tokens" 71))) (by decide +kernel))
    | 1, _, 4, _ => exact Or.inl (hgf (.not (.eq (.string "SaidTwice$Tokens" 67) (.string "SaidTwice$Tokens" 73))) (by decide +kernel))
    | 1, _, 5, _ => exact Or.inl (hgf (.not (.eq (.string "SaidTwice$Tokens" 67) (.string "SaidTwice$Tokens" 75))) (by decide +kernel))
    | 1, _, 6, _ => exact Or.inl (hgf (.not (.eq (.string "SaidTwice$Tokens" 67) (.string "SaidTwice$Tokens" 77))) (by decide +kernel))
    | 2, _, 0, _ => exact Or.inr (hgf (.not (.eq (.string "SaidTwice$Tokens" 61) (.string "SaidTwice$Tokens" 69))) (by decide +kernel))
    | 2, _, 1, _ => exact Or.inr (hgf (.not (.eq (.string "SaidTwice$Tokens" 67) (.string "SaidTwice$Tokens" 69))) (by decide +kernel))
    | 2, _, 2, _ => exact absurd rfl hij
    | 2, _, 3, _ => exact Or.inl (hgf (.not (.eq (.string "SaidTwice$Tokens" 69) (.string "SaidTwice$Tokens" 71))) (by decide +kernel))
    | 2, _, 4, _ => exact Or.inl (hgf (.not (.eq (.string "SaidTwice$Tokens" 69) (.string "SaidTwice$Tokens" 73))) (by decide +kernel))
    | 2, _, 5, _ => exact Or.inl (hgf (.not (.eq (.string "SaidTwice$Tokens" 69) (.string "SaidTwice$Tokens" 75))) (by decide +kernel))
    | 2, _, 6, _ => exact Or.inl (hgf (.not (.eq (.string "SaidTwice$Tokens" 69) (.string "SaidTwice$Tokens" 77))) (by decide +kernel))
    | 3, _, 0, _ => exact Or.inr (hgf (.not (.eq (.string "SaidTwice$Tokens" 61) (.string "SaidTwice$Tokens" 71))) (by decide +kernel))
    | 3, _, 1, _ => exact Or.inr (hgf (.not (.eq (.string "SaidTwice$Tokens" 67) (.string "SaidTwice$Tokens" 71))) (by decide +kernel))
    | 3, _, 2, _ => exact Or.inr (hgf (.not (.eq (.string "SaidTwice$Tokens" 69) (.string "SaidTwice$Tokens" 71))) (by decide +kernel))
    | 3, _, 3, _ => exact absurd rfl hij
    | 3, _, 4, _ => exact Or.inl (hgf (.not (.eq (.string "SaidTwice$Tokens" 71) (.string "SaidTwice$Tokens" 73))) (by decide +kernel))
    | 3, _, 5, _ => exact Or.inl (hgf (.not (.eq (.string "SaidTwice$Tokens" 71) (.string "SaidTwice$Tokens" 75))) (by decide +kernel))
    | 3, _, 6, _ => exact Or.inl (hgf (.not (.eq (.string "SaidTwice$Tokens" 71) (.string "SaidTwice$Tokens" 77))) (by decide +kernel))
    | 4, _, 0, _ => exact Or.inr (hgf (.not (.eq (.string "SaidTwice$Tokens" 61) (.string "SaidTwice$Tokens" 73))) (by decide +kernel))
    | 4, _, 1, _ => exact Or.inr (hgf (.not (.eq (.string "SaidTwice$Tokens" 67) (.string "SaidTwice$Tokens" 73))) (by decide +kernel))
    | 4, _, 2, _ => exact Or.inr (hgf (.not (.eq (.string "SaidTwice$Tokens" 69) (.string "SaidTwice$Tokens" 73))) (by decide +kernel))
    | 4, _, 3, _ => exact Or.inr (hgf (.not (.eq (.string "SaidTwice$Tokens" 71) (.string "SaidTwice$Tokens" 73))) (by decide +kernel))
    | 4, _, 4, _ => exact absurd rfl hij
    | 4, _, 5, _ => exact Or.inl (hgf (.not (.eq (.string "SaidTwice$Tokens" 73) (.string "SaidTwice$Tokens" 75))) (by decide +kernel))
    | 4, _, 6, _ => exact Or.inl (hgf (.not (.eq (.string "SaidTwice$Tokens" 73) (.string "SaidTwice$Tokens" 77))) (by decide +kernel))
    | 5, _, 0, _ => exact Or.inr (hgf (.not (.eq (.string "SaidTwice$Tokens" 61) (.string "SaidTwice$Tokens" 75))) (by decide +kernel))
    | 5, _, 1, _ => exact Or.inr (hgf (.not (.eq (.string "SaidTwice$Tokens" 67) (.string "SaidTwice$Tokens" 75))) (by decide +kernel))
    | 5, _, 2, _ => exact Or.inr (hgf (.not (.eq (.string "SaidTwice$Tokens" 69) (.string "SaidTwice$Tokens" 75))) (by decide +kernel))
    | 5, _, 3, _ => exact Or.inr (hgf (.not (.eq (.string "SaidTwice$Tokens" 71) (.string "SaidTwice$Tokens" 75))) (by decide +kernel))
    | 5, _, 4, _ => exact Or.inr (hgf (.not (.eq (.string "SaidTwice$Tokens" 73) (.string "SaidTwice$Tokens" 75))) (by decide +kernel))
    | 5, _, 5, _ => exact absurd rfl hij
    | 5, _, 6, _ => exact Or.inl (hgf (.not (.eq (.string "SaidTwice$Tokens" 75) (.string "SaidTwice$Tokens" 77))) (by decide +kernel))
    | 6, _, 0, _ => exact Or.inr (hgf (.not (.eq (.string "SaidTwice$Tokens" 61) (.string "SaidTwice$Tokens" 77))) (by decide +kernel))
    | 6, _, 1, _ => exact Or.inr (hgf (.not (.eq (.string "SaidTwice$Tokens" 67) (.string "SaidTwice$Tokens" 77))) (by decide +kernel))
    | 6, _, 2, _ => exact Or.inr (hgf (.not (.eq (.string "SaidTwice$Tokens" 69) (.string "SaidTwice$Tokens" 77))) (by decide +kernel))
    | 6, _, 3, _ => exact Or.inr (hgf (.not (.eq (.string "SaidTwice$Tokens" 71) (.string "SaidTwice$Tokens" 77))) (by decide +kernel))
    | 6, _, 4, _ => exact Or.inr (hgf (.not (.eq (.string "SaidTwice$Tokens" 73) (.string "SaidTwice$Tokens" 77))) (by decide +kernel))
    | 6, _, 5, _ => exact Or.inr (hgf (.not (.eq (.string "SaidTwice$Tokens" 75) (.string "SaidTwice$Tokens" 77))) (by decide +kernel))
    | 6, _, 6, _ => exact absurd rfl hij
    | i + 7, hi, _, _ => omega
    | _, _, j + 7, hj => omega
  obtain ⟨adK, adV, sE, sEv⟩ := vk_Sof (N := 7) (tm := (fun i => Term.string "SaidTwice$Tokens" (sIx.getD i 0))) (len := lenS) (byt := bytS) sN sX sCo sAr sLe sEl sNe hAn
  have hCS : va_Z "java/lang/String" "COMPACT_STRINGS" "Z" (.int 1) (fun q : Nat => s.heap.size ≤ q) s s.heap := va_Zof (hts (.laysStatic "java/lang/String" "COMPACT_STRINGS" "Z") (by decide +kernel)) (hts (.initialized "java/lang/String") (by decide +kernel)) (va_eqt (hgf (.eq (.static "java/lang/String" "COMPACT_STRINGS" "Z") (.int 1)) (by decide +kernel))) hAn
  obtain ⟨q3, hSI⟩ : ∃ q3 : Nat, va_Z "jdk/internal/util/Preconditions" "SIOOBE_FORMATTER" "Ljava/util/function/BiFunction;" .null (fun q : Nat => s.heap.size ≤ q) s s.heap ∨ va_Z "jdk/internal/util/Preconditions" "SIOOBE_FORMATTER" "Ljava/util/function/BiFunction;" (.ref q3) (fun q : Nat => s.heap.size ≤ q) s s.heap := by
    rcases va_Zqof (hts (.laysStatic "jdk/internal/util/Preconditions" "SIOOBE_FORMATTER" "Ljava/util/function/BiFunction;") (by decide +kernel)) (hts (.initialized "jdk/internal/util/Preconditions") (by decide +kernel)) (hgf (.isRef (.static "jdk/internal/util/Preconditions" "SIOOBE_FORMATTER" "Ljava/util/function/BiFunction;")) (by decide +kernel)) hAn with z | ⟨q, z⟩
    · exact ⟨0, Or.inl z⟩
    · exact ⟨q, Or.inr z⟩
  have sR : ∀ (i ix : Nat) (tx : String), sIx[i]? = some ix → sTx[i]? = some tx → vk_R "SaidTwice$Tokens" ix tx (adK i) s := by
    intro i ix tx h1 h2
    have hi : i < 7 := (List.getElem?_eq_some_iff.mp h1).1
    have ev := sEv i hi
    match i, hi with
    | 0, _ =>
      cases h1
      cases h2
      exact vk_R.of (hts (.stringRef "SaidTwice$Tokens" 61 "who") (by decide +kernel)) ev
    | 1, _ =>
      cases h1
      cases h2
      exact vk_R.of (hts (.stringRef "SaidTwice$Tokens" 67 "once") (by decide +kernel)) ev
    | 2, _ =>
      cases h1
      cases h2
      exact vk_R.of (hts (.stringRef "SaidTwice$Tokens" 69 "twice") (by decide +kernel)) ev
    | 3, _ =>
      cases h1
      cases h2
      exact vk_R.of (hts (.stringRef "SaidTwice$Tokens" 71 "costs") (by decide +kernel)) ev
    | 4, _ =>
      cases h1
      cases h2
      exact vk_R.of (hts (.stringRef "SaidTwice$Tokens" 73 "or") (by decide +kernel)) ev
    | 5, _ =>
      cases h1
      cases h2
      exact vk_R.of (hts (.stringRef "SaidTwice$Tokens" 75 "and") (by decide +kernel)) ev
    | 6, _ =>
      cases h1
      cases h2
      exact vk_R.of (hts (.stringRef "SaidTwice$Tokens" 77 "not") (by decide +kernel)) ev
    | i + 7, hi => omega
  obtain ⟨adX, hadX⟩ : ∃ adX : Nat → Nat, adX = fun k => if k = 1000 then t else if 1100 ≤ k ∧ k < 1107 then adK (k - 1100) else if 1200 ≤ k ∧ k < 1207 then adV (k - 1200) else if k = 1300 then q3 else b := ⟨_, rfl⟩
  have aK : ∀ i, i < 7 → adX (1000 + (100 + i)) = adK i := by
    intro i hi
    rw [hadX]
    show (if 1000 + (100 + i) = 1000 then t else if 1100 ≤ 1000 + (100 + i) ∧ 1000 + (100 + i) < 1107 then adK (1000 + (100 + i) - 1100) else _) = _
    rw [if_neg (by omega), if_pos (by omega), show 1000 + (100 + i) - 1100 = i by omega]
  have aV : ∀ i, i < 7 → adX (1000 + (200 + i)) = adV i := by
    intro i hi
    rw [hadX]
    show (if 1000 + (200 + i) = 1000 then t else if 1100 ≤ 1000 + (200 + i) ∧ 1000 + (200 + i) < 1107 then adK (1000 + (200 + i) - 1100) else if 1200 ≤ 1000 + (200 + i) ∧ 1000 + (200 + i) < 1207 then adV (1000 + (200 + i) - 1200) else _) = _
    rw [if_neg (by omega), if_neg (by omega), if_pos (by omega), show 1000 + (200 + i) - 1200 = i by omega]
  have a0 : adX (1000 + 0) = t := by rw [hadX]; rfl
  have a1 : adX (1000 + 1) = b := by rw [hadX]; rfl
  have a1' : adX 1001 = b := a1
  have a3 : adX (1000 + 300) = q3 := by rw [hadX]; rfl
  have hES : EFS (fun j => adX (1000 + j)) (fun q : Nat => s.heap.size ≤ q) s := by
    refine ⟨⟨fun i hi => ?_, fun i j hi hj z => ?_⟩, fun i ix tx h1 h2 => ?_, hCS, ?_⟩
    · have z := sE.1 i hi
      rw [← aK i hi, ← aV i hi] at z
      exact z
    · refine sE.2 i j hi hj ?_
      rw [← aK i hi, ← aK j hj]
      exact z
    · have hi : i < 7 := (List.getElem?_eq_some_iff.mp h1).1
      have z := sR i ix tx h1 h2
      rw [← aK i hi] at z
      exact z
    · rw [← a3] at hSI
      exact hSI
  have hEF : EF [soInL, (List.range L).map xs] (dC, dI) (fun j => if j = 0 then tI else tL) (fun j => adX (1000 + j)) (fun q : Nat => s.heap.size ≤ q) s := by
    refine ⟨hK, fun w hw => nest_tabs (NWL_nest w hw) (hts w (List.mem_filter.mp hw).1), by show va_Z "SaidTwice" "SO_IN" "[I" (.ref (adX (1000 + 0))) _ _ _; rw [a0]; exact hZ, fun j ys hj => ?_, hES⟩
    match j, hj with
    | 0, hj =>
      cases hj
      show roX (adX (1000 + 0)) _ _ _ ∧ adX (1000 + 0) < s.heap.size ∧ ¬ s.heap.size ≤ adX (1000 + 0)
      rw [a0]
      exact ⟨⟨cellT, g1, g2, g3, g4, g5, g6⟩, htl, hAn t htl⟩
    | 1, hj =>
      cases hj
      show roX (adX (1000 + 1)) _ _ _ ∧ adX (1000 + 1) < s.heap.size ∧ ¬ s.heap.size ≤ adX (1000 + 1)
      rw [a1]
      obtain ⟨scr, q1, q2, q3, q4, q5⟩ := hX
      refine ⟨⟨scr, q1, q2, q3, by simp [q4], by simp [q4], fun j hj => ?_⟩, hbl, hbA⟩
      have hj' : j < L := by simpa using hj
      rw [q5 j hj']
      simp [List.getD_eq_getElem?_getD, hj']
    | j + 2, hj => simp at hj
  have hl := lv_entry ([.ref b]) (n := 4) (Nat.le_of_ble_eq_true rfl)
  rw [lg_entry_eq]
  generalize (lg_sl ([.ref b]) ++ List.replicate (4 - (lg_sl ([.ref b])).length) Slot.unset).toArray = ls at hl ⊢
  refine h p e s m #[Value.ref b] below meth c (dC, dI) (fun j => if j = 0 then tI else tL) adX adX 0 (fun q : Nat => s.heap.size ≤ q) (lw_Z below #[Value.ref b] s) s.heap [] ls
    ⟨hx, hb, hml, hown, hts', fun z => absurd z (by decide : ¬ (sY sgL_law).name = "<init>"), hEF, hA⟩ ?_ ⟨fun k q h => by simp [cW] at h, ⟨fun i j p q h => by simp [cW] at h, fun k q h => by simp [cW] at h⟩, va_S.rf⟩ ⟨fun _ _ => rfl, fun _ => rfl⟩ (Nat.le_refl _) (Nat.zero_le _) (Nat.zero_le _) ?_
  · intro v hp ad H locs k n pc ls' hv hW hak hn0 hk hn hrt
    subst hv
    obtain ⟨hd, -⟩ := hrt
    refine va_forget hW.2.2.2.2 (W.widen hk hn ?_)
    exact lw_ret hx hb hr hlocks hd
  · refine ⟨rfl, hl.1, hl.2.1, fun j v hj => ?_⟩
    match j, hj with
    | 0, hj =>
      cases hj
      show ls[0]? = some (.val (.ref (adX 1001)))
      rw [a1']
      exact hl.2.2 (0, .ref b) List.mem_cons_self
    | 1, hj => cases hj
    | 2, hj => cases hj
    | 3, hj => cases hj
    | j + 4, hj => simp at hj
