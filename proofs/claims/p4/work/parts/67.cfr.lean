/-! THE CLASS's public methods, over a new one -/
section CFR
variable {l : Launch} {X : List (List Int32)} {S : CS} {T : AH} {hp : AH}
theorem bI_iff {p q : Prop} [Decidable p] [Decidable q] (h : p ↔ q) : bI p = bI q := by
  by_cases hp : p
  · rw [bI_t hp, bI_t (h.mp hp)]
  · rw [bI_f hp, bI_f (fun z => hp (h.mpr z))]
theorem ltle {a b c : Int32} (h : b.toInt = c.toInt + 1) : a < b ↔ a ≤ c := by
  rw [Int32.lt_iff_toInt_lt, Int32.le_iff_toInt_le, h]
  omega
theorem k_B (a b c : Int32) (h : b.toInt = c.toInt + 1) : Ans l 0 X sgX7_isBelow [.int a, .int b] hp (bI (0 ≤ a ∧ a ≤ c)) := by
  have q : Ans l 0 X sgX7_isBelow [.int a, .int b] hp (bI (0 ≤ a ∧ a < b)) := c_isBelow a b
  rw [bI_iff (show (0 ≤ a ∧ a < b) ↔ (0 ≤ a ∧ a ≤ c) from and_congr_right (fun _ => ltle h))] at q
  exact q
theorem k_W (a : Int32) : Ans l 1 X sgX7_isWorld [.int a] hp (bI (wdP a)) := by
  have q : Ans l 1 X sgX7_isWorld [.int a] hp (bI (0 ≤ a ∧ a < 32)) := c_isWorld a
  rw [bI_iff (show (0 ≤ a ∧ a < 32) ↔ wdP a from and_congr_right (fun _ => ltle (by decide)))] at q
  exact q
theorem k_K (a : Int32) : Ans l 1 X sgX7_isKind [.int a] hp (bI ((0 : Int32) ≤ a ∧ a ≤ 5)) := by
  have q : Ans l 1 X sgX7_isKind [.int a] hp (bI (0 ≤ a ∧ a < 6)) := c_isKind a
  rw [bI_iff (show (0 ≤ a ∧ a < 6) ↔ (0 ≤ a ∧ a ≤ 5) from and_congr_right (fun _ => ltle (by decide)))] at q
  exact q
theorem in04 {v : Int32} (h : (0 : Int32) ≤ v ∧ v ≤ 4) : v = 0 ∨ v = 1 ∨ v = 2 ∨ v = 3 ∨ v = 4 := by
  by_cases h4 : v = 4
  · exact Or.inr (Or.inr (Or.inr (Or.inr h4)))
  · have h3 : v ≤ 3 := by
      have h1 := Int32.le_iff_toInt_le.mp h.2
      have e4 : (4 : Int32).toInt = 4 := by decide
      have e3 : (3 : Int32).toInt = 3 := by decide
      have n4 : ¬ v.toInt = 4 := fun z => h4 (Int32.toInt_inj.mp (z.trans e4.symm))
      rw [Int32.le_iff_toInt_le]
      omega
    rcases in03 ⟨h.1, h3⟩ with z | z | z | z
    · exact Or.inl z
    · exact Or.inr (Or.inl z)
    · exact Or.inr (Or.inr (Or.inl z))
    · exact Or.inr (Or.inr (Or.inr (Or.inl z)))
theorem wd_n {w : Int32} (h : wdP w) : ∃ n : Nat, n < 32 ∧ w = nI n := by
  have h1 := Int32.le_iff_toInt_le.mp h.1
  have h2 := Int32.le_iff_toInt_le.mp h.2
  have e0 : (0 : Int32).toInt = 0 := by decide
  have e1 : (31 : Int32).toInt = 31 := by decide
  refine ⟨w.toInt.toNat, by omega, Int32.toInt_inj.mp ?_⟩
  rw [nI_toInt (by omega)]
  omega
theorem bitF_m1 {w : Int32} (h : wdP w) : bitF (-1) w = 1 := by
  obtain ⟨n, hn, rfl⟩ := wd_n h
  have : ∀ n : Fin 32, bitF (-1) (nI n.val) = 1 := by decide +kernel
  exact this ⟨n, hn⟩
theorem bitF_0 (w : Int32) : bitF 0 w = 0 := by
  unfold bitF
  have e : (0 : Int32).toUInt32 = 0 := by decide
  rw [e, UInt32.zero_shiftRight]
  decide
theorem CS0_len : CLen CS0 := by
  intro k
  show (match k with
    | 2 => z32 160 | 4 => z32 160 | 5 => z32 160 | 6 => z32 4 | 7 => z32 160
    | 10 => [-1, -1, -1, -1, -1] ++ z32 25 | 11 => z32 30 | 12 => [1, 1, 1, 1, 1] ++ z32 25
    | 14 => z32 5 | 15 => z32 5 | 16 => z32 36 | 18 => z32 5 | 19 => z32 5 | 20 => z32 36
    | 22 => [-1, -1, -1, -1] | 23 => z32 4 | 24 => z32 160 | 25 => z32 40 | _ => ([] : List Int32)).length ≤ 1000
  split <;> simp [z32]
theorem CS0_inv : CInv CS0 1 0 0 := ⟨CS0_len, rfl, ⟨by decide, by decide⟩, rfl, by decide, rfl, by decide⟩
theorem k_T (t : Int32) : Ans l 1 X sgX7_isText [.ref 0, .int t] (encC CS0 ++ T) (bI (zeP t)) := by
  have q : Ans l 1 X sgX7_isText [.ref 0, .int t] (encC CS0 ++ T) (bI (0 ≤ t ∧ t < CS0.1 93)) := c_isText t
  rw [bI_iff (show (0 ≤ t ∧ t < CS0.1 93) ↔ zeP t from and_congr_right (fun _ => ltle (by decide)))] at q
  exact q
theorem k_S (s : Int32) : Ans l 1 X sgX7_isSpeaker [.ref 0, .int s] (encC CS0 ++ T) 0 := by
  have q : Ans l 1 X sgX7_isSpeaker [.ref 0, .int s] (encC CS0 ++ T) (bI (0 ≤ s ∧ s < CS0.1 133)) := c_isSpeaker s
  have e : bI (0 ≤ s ∧ s < CS0.1 133) = 0 := bI_f (fun z => absurd z.2 (Int32.not_lt.mpr z.1))
  rw [e] at q
  exact q
/-- an answer, the reference as it was -/
abbrev cQ (T : AH) (v : Value) : AH → Option Value → Prop := fun h w => (∃ S', h = encC S' ++ T) ∧ w = some v
theorem lf {S : CS} {a b : Int32} (e : a = b) : cQ T (.int b) (encC S ++ T) (some (.int a)) := ⟨⟨S, rfl⟩, some_int e⟩
theorem lfL {S : CS} {a b : Int64} (e : a = b) : cQ T (.long b) (encC S ++ T) (some (.long a)) := ⟨⟨S, rfl⟩, some_long e⟩
theorem Ctr.cq {d : Nat} {g : Sig} {as : List Value} {v w : Int32} {S' : CS} (h : Ctr l d X g as hp (fun h x => h = encC S' ++ T ∧ x = some (.int w))) (e : w = v) : Ctr l d X g as hp (cQ T (.int v)) := h.weak (fun hp x hx => ⟨⟨S', hx.1⟩, hx.2.trans (some_int e)⟩)
set_option maxRecDepth 100000 in
theorem k_count (v : Int32) : Ctr l 0 X sgX7_count [.ref 0, .int v] (encC CS0 ++ T) (cQ T (.int (cntA v))) := by
  refine Ctr.of okX7_count rfl (Nat.le_of_ble_eq_true rfl) (run_sound okX7_count noCut 100 ?_)
  refine And.intro (fun h => lf ?_) (And.intro (fun h => ?_) (And.intro (fun h => ?_) (And.intro (fun h => ?_) (And.intro (fun h => ?_) (And.intro (fun h => ?_) trivial)))))
  · have n0 : ¬ v = 0 := fun z => by subst z; revert h; decide
    have n1 : ¬ v = 1 := fun z => by subst z; revert h; decide
    have n2 : ¬ v = 2 := fun z => by subst z; revert h; decide
    have n3 : ¬ v = 3 := fun z => by subst z; revert h; decide
    have n4 : ¬ v = 4 := fun z => by subst z; revert h; decide
    unfold cntA
    rw [if_neg n2, if_neg (fun z => z.elim n0 (fun z => z.elim n1 (fun z => z.elim n3 n4)))]
    rfl
  · subst h; exact lf rfl
  · subst h; exact lf rfl
  · subst h; exact lf rfl
  · subst h; exact lf rfl
  · subst h; exact lf rfl
set_option maxRecDepth 100000 in
theorem k_force (t : Int32) : Ctr l 2 X sgX7_force [.ref 0, .int t] (encC CS0 ++ T) (cQ T (.int (forA t))) := by
  refine Ctr.of okX7_force rfl (Nat.le_of_ble_eq_true rfl) (run_sound okX7_force noCut 100 ?_)
  exact kH (k_T t) (by decide) (brB' (fun q => lf (if_neg q).symm) (fun q => And.intro trivial ⟨⟨cN CS0 135 t, rfl⟩, some_int (if_pos q).symm⟩))
set_option maxRecDepth 100000 in
theorem k_asks (t w who part : Int32) : Ctr l 2 X sgX7_asks [.ref 0, .int t, .int w, .int who, .int part] (encC CS0 ++ T) (cQ T (.int (askA4 t w who part))) := by
  refine Ctr.of okX7_asks rfl (Nat.le_of_ble_eq_true rfl) (run_sound okX7_asks noCut 100 ?_)
  refine kH (k_T t) (by decide) (brB' (fun q => lf (if_neg (fun z => q z.1)).symm) (fun q => kH (k_W w) (by decide) (brB' (fun q2 => lf (if_neg (fun z => q2 z.2)).symm) (fun q2 => kH (k_B who 5 4 (by decide)) (by decide) (brB' (fun q3 => lf ?_) (fun q3 => kH (k_B part 3 2 (by decide)) (by decide) (brB' (fun q4 => lf ?_) (fun q4 => ?_))))))))
  · exact ((if_pos (show zeP t ∧ wdP w from ⟨q, q2⟩)).trans (if_neg (fun z => q3 z.1))).symm
  · exact ((if_pos (show zeP t ∧ wdP w from ⟨q, q2⟩)).trans (if_neg (fun z => q4 z.2))).symm
  · have e : askA4 t w who part = if part = 1 then 0 else 1 := (if_pos ⟨q, q2⟩).trans (if_pos ⟨q3, q4⟩)
    rw [e]
    have ht := zeP_0 q
    subst ht
    have hw5 : who = 0 ∨ who = 1 ∨ who = 2 ∨ who = 3 ∨ who = 4 := in04 q3
    rcases in02 q4 with rfl | rfl | rfl
    · refine brF (by decide) (kH (c_side CS0_len 0 who 0) (by decide) (kH (c_bit _ _) (by decide) (lf ?_)))
      have hs : sideF CS0 0 who 0 = -1 := by rcases hw5 with rfl | rfl | rfl | rfl | rfl <;> decide
      rw [hs]
      exact bitF_m1 q2
    · refine brF (by decide) (kH (c_side CS0_len 0 who 1) (by decide) (kH (c_bit _ _) (by decide) (lf ?_)))
      have hs : sideF CS0 0 who 1 = 0 := by rcases hw5 with rfl | rfl | rfl | rfl | rfl <;> decide
      rw [hs]
      exact bitF_0 w
    · refine brT rfl (kH (c_costOf CS0_len 0 who) (by decide) (lf ?_))
      rcases hw5 with rfl | rfl | rfl | rfl | rfl <;> decide
end CFR
