/-! THE REFERENCE in general: sheets made, cells, copies -/
section MSHE2
variable {l : Launch} {X : List (List Int32)} {S : CS} {M : MS} {hp : AH} {nt ns nk : Nat}
/-- the sheets: their sorts, their sizes -/
def ShOk (M : MS) : Prop := ∀ s, s < 4 → m2P ((M.2.1 17).getD s 0) ∧ ∃ z : Nat, z ≤ 40 ∧ (M.2.1 18).getD s 0 = nI z
def zeC (f : Nat → Int32) (xs : List Int32) (s : Nat) : Nat → List Int32
  | 0 => xs
  | k + 1 => (zeC f xs s k).set (40 * s + k) (f k)
theorem zeC_len {f : Nat → Int32} {xs : List Int32} {s : Nat} : ∀ k, (zeC f xs s k).length = xs.length
  | 0 => rfl
  | k + 1 => by rw [zeC, List.length_set, zeC_len k]
theorem cel_ix {s j : Nat} (hs : s < 4) (hj : j < 40) : Int32.ofInt 40 * nI s + nI j = nI (40 * s + j) := by
  rw [show Int32.ofInt 40 * nI s = nI (40 * s) from nI_mul 40 s, nI_add]
def shM (M : MS) (s : Nat) (sort n : Int32) : MS := mR (mR (mR M 17 ((M.2.1 17).set s sort)) 18 ((M.2.1 18).set s (if sort = -1 then 0 else n))) 19 (zeC (fun _ => 0) (M.2.1 19) s 40)
def shG (M : MS) (s sort n : Int32) : MS × Int32 := if p3P s ∧ m2P sort ∧ (sort = -1 ∨ n ≤ 40) then (if ¬ sort = -1 ∧ n < 0 then (M, -14) else (shM M s.toNatClampNeg sort n, 1)) else (M, -2)
theorem shG_ans (M : MS) (s sort n : Int32) : (shG M s sort n).2 = shtA s sort n := by
  unfold shG shtA
  split
  · split <;> rfl
  · rfl
set_option maxRecDepth 100000 in
set_option maxHeartbeats 1000000 in
theorem g_sheet (hM : MLen M) (s sort n : Int32) : Ctr l 1 X sgX8_sheet [.ref 27, .int s, .int sort, .int n] (mk S M) (rsQ S (shG M s sort n)) := by
  have l17 : (M.2.1 17).length = 4 := hM.2.2.2.2.2.2.2.2.1
  have l18 : (M.2.1 18).length = 4 := hM.2.2.2.2.2.2.2.2.2.1
  have l19 : (M.2.1 19).length = 160 := hM.2.2.2.2.2.2.2.2.2.2.1
  refine Ctr.of okX8_sheet rfl (Nat.le_of_ble_eq_true rfl) (run_sound okX8_sheet (fun i => Nat.beq i 18 || Nat.beq i 25 || Nat.beq i 42) 200 ?_)
  refine kH (m_in _ _ _) (by decide) (brB' (fun q => rs_i (if_neg (fun z => q z.1)) rfl) (fun q => kH (m_in _ _ _) (by decide) (brB' (fun q2 => rs_i (if_neg (fun z => q2 z.2.1)) rfl) (fun q2 => ?_))))
  have t25 : p3P s → shG M s sort n = (shM M s.toNatClampNeg sort n, 1) → WP l (rmD 1 0 0) X sgX8_sheet kX8_sheet (rsQ S (shG M s sort n)) 25 [some (.ref 27), some (.int s), some (.int sort), some (.int n), none] [] (mk S M) 0 0 := by
    intro q e
    rw [e]
    obtain ⟨a, ha, rfl⟩ := in03n q
    have en : (nI a).toNatClampNeg = a := nI_clamp (by omega)
    obtain ⟨x, hx⟩ : ∃ x, (M.2.1 17).set a sort = x := ⟨_, rfl⟩
    have tail : ∀ y, y = (M.2.1 18).set a (if sort = -1 then 0 else n) → ∀ j, j ≤ 40 → WP l (rmD 1 0 0) X sgX8_sheet kX8_sheet (rsQ S (shM M a sort n, 1)) 42 [some (.ref 27), some (.int (nI a)), some (.int sort), some (.int n), some (.int (nI j))] [] (mk S (mR (mR (mR M 17 x) 18 y) 19 (zeC (fun _ => 0) (M.2.1 19) a j))) 0 0 := by
      intro y hy
      refine down ?_ (fun j hj ih => ?_)
      · refine run_sound okX8_sheet (fun i => Nat.beq i 18 || Nat.beq i 25 || Nat.beq i 42) 200 (brT (Int32.le_refl _) ⟨?_, rfl⟩)
        rw [hy, ← hx]
        rfl
      · refine run_sound okX8_sheet (fun i => Nat.beq i 18 || Nat.beq i 25 || Nat.beq i 42) 200 (brF (ge_no (n := 40) rfl hj (by decide)) (Exists.intro _ (And.intro rfl (And.intro ?_ ?_))))
        · exact cell_in ha hj (by rw [← l19]; exact zeC_len j)
        · have e1 : zeC (fun _ => 0) (M.2.1 19) a (j + 1) = (zeC (fun _ => 0) (M.2.1 19) a j).set (Int32.ofInt 40 * nI a + nI j).toNatClampNeg (Int32.ofInt 0) := by rw [cel_ix ha hj, nI_clamp (by omega)]; rfl
          rw [e1, ← nI_1 j] at ih
          exact ih
    rw [en]
    rw [← en] at hx
    refine run_sound okX8_sheet (fun i => Nat.beq i 18 || Nat.beq i 42) 200 (Exists.intro _ (And.intro rfl (And.intro ?_ (br (fun p => Exists.intro _ (And.intro rfl (And.intro ?_ ?_))) (fun p => Exists.intro _ (And.intro rfl (And.intro ?_ ?_)))))))
    · show vp_in (nI a) (M.2.1 17).length
      rw [l17]; exact vp_nI ha (by decide)
    · show vp_in (nI a) (M.2.1 18).length
      rw [l18]; exact vp_nI ha (by decide)
    · have t := tail ((M.2.1 18).set (nI a).toNatClampNeg (Int32.ofInt 0)) (by rw [en, if_pos (show sort = -1 from p)]; rfl) 0 (Nat.zero_le _)
      rw [← hx] at t
      exact t
    · show vp_in (nI a) (M.2.1 18).length
      rw [l18]; exact vp_nI ha (by decide)
    · have t := tail ((M.2.1 18).set (nI a).toNatClampNeg n) (by rw [en, if_neg (show ¬ sort = -1 from p)]) 0 (Nat.zero_le _)
      rw [← hx] at t
      exact t
  have t18 : (sort = -1 ∨ n ≤ 40) → WP l (rmD 1 0 0) X sgX8_sheet kX8_sheet (rsQ S (shG M s sort n)) 18 [some (.ref 27), some (.int s), some (.int sort), some (.int n), none] [] (mk S M) 0 0 := by
    intro p
    have e : shG M s sort n = if ¬ sort = -1 ∧ n < 0 then (M, -14) else (shM M s.toNatClampNeg sort n, 1) := if_pos ⟨q, q2, p⟩
    refine run_sound okX8_sheet (fun i => Nat.beq i 25 || Nat.beq i 42) 200 (br (fun h1 => t25 q ?_) (fun h1 => br (fun h2 => t25 q ?_) (fun h2 => rs_i (e.trans (if_pos ⟨h1, Int32.not_le.mp h2⟩)) rfl)))
    · exact e.trans (if_neg (fun z => z.1 h1))
    · exact e.trans (if_neg (fun z => absurd z.2 (Int32.not_lt.mpr h2)))
  exact br (fun h1 => t18 (Or.inl h1)) (fun h1 => br (fun h2 => t18 (Or.inr h2)) (fun h2 => rs_i (if_neg (fun z => z.2.2.elim h1 h2)) rfl))
def fiV (M : MS) (nk k : Nat) : Int32 := if k < 3 * nk then (M.2.1 4).getD k 0 else 0
def fiM (M : MS) (nk s : Nat) : MS := mR (mR (mR M 17 ((M.2.1 17).set s 2)) 18 ((M.2.1 18).set s (nI (3 * nk)))) 19 (zeC (fiV M nk) (M.2.1 19) s 40)
def fiG (M : MS) (nk : Nat) (s : Int32) : MS × Int32 := if p3P s then (fiM M nk s.toNatClampNeg, nI nk) else (M, -2)
set_option maxRecDepth 100000 in
set_option maxHeartbeats 1000000 in
theorem g_film (h : MInv M nt ns nk) (s : Int32) : Ctr l 1 X sgX8_film [.ref 27, .int s] (mk S M) (rsQ S (fiG M nk s)) := by
  obtain ⟨h3, h12⟩ := h.2.2.2.2.1
  have l4 : (M.2.1 4).length = 36 := h.1.2.2.1
  have l17 : (M.2.1 17).length = 4 := h.1.2.2.2.2.2.2.2.2.1
  have l18 : (M.2.1 18).length = 4 := h.1.2.2.2.2.2.2.2.2.2.1
  have l19 : (M.2.1 19).length = 160 := h.1.2.2.2.2.2.2.2.2.2.2.1
  have e3 : Int32.ofInt 3 * M.1 3 = nI (3 * nk) := by rw [h3]; exact nI_mul 3 nk
  refine Ctr.of okX8_film rfl (Nat.le_of_ble_eq_true rfl) (run_sound okX8_film (fun i => Nat.beq i 22) 200 ?_)
  refine kH (m_in _ _ _) (by decide) (brB' (fun q => rs_i (if_neg q) rfl) (fun q => ?_))
  rw [show fiG M nk s = (fiM M nk s.toNatClampNeg, nI nk) from if_pos q]
  obtain ⟨a, ha, rfl⟩ := in03n q
  have en : (nI a).toNatClampNeg = a := nI_clamp (by omega)
  obtain ⟨x, hx⟩ : ∃ x, (M.2.1 17).set (nI a).toNatClampNeg (Int32.ofInt 2) = x := ⟨_, rfl⟩
  obtain ⟨y, hy⟩ : ∃ y, (M.2.1 18).set (nI a).toNatClampNeg (Int32.ofInt 3 * M.1 3) = y := ⟨_, rfl⟩
  have key : ∀ j, j ≤ 40 → WP l (rmD 1 0 0) X sgX8_film kX8_film (rsQ S (fiM M nk (nI a).toNatClampNeg, nI nk)) 22 [some (.ref 27), some (.int (nI a)), some (.int (nI j))] [] (mk S (mR (mR (mR M 17 x) 18 y) 19 (zeC (fiV M nk) (M.2.1 19) a j))) 0 0 := by
    refine down ?_ (fun j hj ih => ?_)
    · refine run_sound okX8_film (fun i => Nat.beq i 22) 200 (brT (Int32.le_refl _) ⟨?_, some_int h3⟩)
      rw [← hx, ← hy, en, e3]
      rfl
    · have e1 : ∀ v, v = fiV M nk j → zeC (fiV M nk) (M.2.1 19) a (j + 1) = (zeC (fiV M nk) (M.2.1 19) a j).set (Int32.ofInt 40 * nI a + nI j).toNatClampNeg v := fun v hv => by rw [cel_ix ha hj, nI_clamp (by omega), hv]; rfl
      have v0 : vp_in (Int32.ofInt 40 * nI a + nI j) (zeC (fiV M nk) (M.2.1 19) a j).length := cell_in ha hj (by rw [← l19]; exact zeC_len j)
      refine run_sound okX8_film (fun i => Nat.beq i 22) 200 (brF (ge_no (n := 40) rfl hj (by decide)) (br (fun p => ?_) (fun p => ?_)))
      · have p : Int32.ofInt 3 * M.1 3 ≤ nI j := p
        rw [e3] at p
        have p := (nI_leI (by omega) (by omega)).mp p
        rw [e1 (Int32.ofInt 0) (if_neg (by omega)).symm, ← nI_1 j] at ih
        exact Exists.intro _ (And.intro rfl (And.intro v0 ih))
      · have p : ¬ Int32.ofInt 3 * M.1 3 ≤ nI j := p
        rw [e3] at p
        have p : j < 3 * nk := Nat.lt_of_not_le (fun z => p ((nI_leI (by omega) (by omega)).mpr z))
        rw [e1 ((M.2.1 4).getD (nI j).toNatClampNeg 0) (by rw [nI_clamp (by omega)]; exact (if_pos p).symm), ← nI_1 j] at ih
        refine Exists.intro _ (And.intro rfl (And.intro ?_ (Exists.intro _ (And.intro rfl (And.intro v0 ih)))))
        show vp_in (nI j) (M.2.1 4).length
        rw [l4]; exact vp_nI (by omega) (by decide)
  refine Exists.intro _ (And.intro rfl (And.intro ?_ (Exists.intro _ (And.intro rfl (And.intro ?_ ?_)))))
  · show vp_in (nI a) (M.2.1 17).length
    rw [l17]; exact vp_nI ha (by decide)
  · show vp_in (nI a) (M.2.1 18).length
    rw [l18]; exact vp_nI ha (by decide)
  · have k0 := key 0 (Nat.zero_le _)
    rw [← hx, ← hy] at k0
    exact k0
def ceV (sort v : Int32) : Int32 := if sort = 0 then v.toInt8.toInt32 else if sort = 1 then v.toInt16.toInt32 else v
def ceM (M : MS) (s i : Nat) (v : Int32) : MS := mR M 19 ((M.2.1 19).set (40 * s + i) (ceV ((M.2.1 17).getD s 0) v))
def ceG (M : MS) (s i v : Int32) : MS × Int32 := if p3P s then (if (M.2.1 17).getD s.toNatClampNeg 0 = -1 then (M, -11) else if (0 : Int32) ≤ i ∧ i ≤ (M.2.1 18).getD s.toNatClampNeg 0 - 1 then (ceM M s.toNatClampNeg i.toNatClampNeg v, 1) else (M, -12)) else (M, -2)
set_option maxRecDepth 100000 in
set_option maxHeartbeats 1000000 in
theorem g_cell (hM : MLen M) (hs : ShOk M) (s i v : Int32) : Ctr l 2 X sgX8_cell [.ref 27, .int s, .int i, .int v] (mk S M) (rsQ S (ceG M s i v)) := by
  have l17 : (M.2.1 17).length = 4 := hM.2.2.2.2.2.2.2.2.1
  have l18 : (M.2.1 18).length = 4 := hM.2.2.2.2.2.2.2.2.2.1
  have l19 : (M.2.1 19).length = 160 := hM.2.2.2.2.2.2.2.2.2.2.1
  refine Ctr.of okX8_cell rfl (Nat.le_of_ble_eq_true rfl) (run_sound okX8_cell (fun i => Nat.beq i 52) 200 ?_)
  refine kH (m_in _ _ _) (by decide) (brB' (fun q => rs_i (if_neg q) rfl) (fun q => ?_))
  rw [show ceG M s i v = if (M.2.1 17).getD s.toNatClampNeg 0 = -1 then (M, -11) else if (0 : Int32) ≤ i ∧ i ≤ (M.2.1 18).getD s.toNatClampNeg 0 - 1 then (ceM M s.toNatClampNeg i.toNatClampNeg v, 1) else (M, -12) from if_pos q]
  obtain ⟨a, ha, rfl⟩ := in03n q
  have en : (nI a).toNatClampNeg = a := nI_clamp (by omega)
  obtain ⟨hso, z, hz, hsz⟩ := hs a ha
  have va : ∀ xs : List Int32, xs.length = 4 → vp_in (nI a) xs.length := fun xs e => by rw [e]; exact vp_nI ha (by decide)
  refine Exists.intro _ (And.intro rfl (And.intro (va _ l17) (br (fun p => rs_i (if_pos p) rfl) (fun p => Exists.intro _ (And.intro rfl (And.intro (va _ l18) (kH (m_in _ _ _) (by decide) (brB' (fun p2 => rs_i ((if_neg p).trans (if_neg p2)) rfl) (fun p2 => ?_)))))))))
  rw [if_neg (show ¬ (M.2.1 17).getD (nI a).toNatClampNeg 0 = -1 from p), if_pos (show (0 : Int32) ≤ i ∧ i ≤ (M.2.1 18).getD (nI a).toNatClampNeg 0 - 1 from p2)]
  have p3 : (0 : Int32) ≤ i ∧ i ≤ nI z - 1 := by
    have p2 : (0 : Int32) ≤ i ∧ i ≤ (M.2.1 18).getD (nI a).toNatClampNeg 0 - 1 := p2
    rw [en, hsz] at p2
    exact p2
  obtain ⟨j, hj, rfl⟩ := inN (by omega) p3
  have ej : (nI j).toNatClampNeg = j := nI_clamp (by omega)
  have t52 : ∀ x : Int32, x = ceV ((M.2.1 17).getD a 0) v → WP l (rmD 2 0 0) X sgX8_cell kX8_cell (rsQ S (ceM M (nI a).toNatClampNeg (nI j).toNatClampNeg v, 1)) 52 [some (.ref 27), some (.int (nI a)), some (.int (nI j)), some (.int v)] [.int x, .int (Int32.ofInt 40 * nI a + nI j), .ref 38] (mk S M) 0 0 := by
    intro x hx
    refine run_sound okX8_cell noCut 200 (Exists.intro _ (And.intro rfl (And.intro ?_ ⟨?_, rfl⟩)))
    · exact cell_in ha (show j < 40 by omega) l19
    · show mk S (mR M 19 ((M.2.1 19).set (Int32.ofInt 40 * nI a + nI j).toNatClampNeg x)) = _
      rw [cel_ix ha (show j < 40 by omega), nI_clamp (by omega), en, ej, hx]
      rfl
  refine Exists.intro _ (And.intro rfl (And.intro (va _ l17) (br (fun p0 => t52 _ ?_) (fun p0 => Exists.intro _ (And.intro rfl (And.intro (va _ l17) (br (fun p1 => t52 _ ?_) (fun p1 => t52 _ ?_))))))))
  · have p0 : (M.2.1 17).getD (nI a).toNatClampNeg 0 = 0 := p0
    rw [en] at p0
    exact (if_pos p0).symm
  · have p0 : ¬ (M.2.1 17).getD (nI a).toNatClampNeg 0 = 0 := p0
    have p1 : (M.2.1 17).getD (nI a).toNatClampNeg 0 = 1 := p1
    rw [en] at p0 p1
    exact ((if_neg p0).trans (if_pos p1)).symm
  · have p0 : ¬ (M.2.1 17).getD (nI a).toNatClampNeg 0 = 0 := p0
    have p1 : ¬ (M.2.1 17).getD (nI a).toNatClampNeg 0 = 1 := p1
    rw [en] at p0 p1
    exact ((if_neg p0).trans (if_neg p1)).symm
def unP (k of : Int32) : Prop := of = 0 ∨ k = of ∨ (of = 1 ∧ k = 3) ∨ (of = 2 ∧ k = 5)
def unF (k of : Int32) : Int32 := if of = 0 then 1 else if k = of then 1 else if of = 1 ∧ k = 3 then 1 else if of = 2 ∧ k = 5 then 1 else 0
set_option maxRecDepth 100000 in
theorem m_isUnder (k of : Int32) : Ans l 0 X sgX8_isUnder [.int k, .int of] hp (unF k of) := by
  refine Ctr.of okX8_isUnder rfl (Nat.le_of_ble_eq_true rfl) (run_sound okX8_isUnder (fun i => Nat.beq i 11) 200 ?_)
  unfold unF
  refine br (fun p => ⟨rfl, rfl, some_int (if_pos p).symm⟩) (fun p => ?_)
  rw [if_neg (show ¬ of = 0 from p)]
  refine br (fun p1 => ⟨rfl, rfl, some_int (if_pos p1).symm⟩) (fun p1 => ?_)
  rw [if_neg (show ¬ k = of from p1)]
  have t11 : ¬ (of = 1 ∧ k = 3) → WP l (rmD 0 0 0) X sgX8_isUnder kX8_isUnder (fun h w => h = hp ∧ w = some (.int (if of = 1 ∧ k = 3 then 1 else if of = 2 ∧ k = 5 then 1 else 0))) 11 [some (.int k), some (.int of)] [] hp 0 0 := by
    intro n
    rw [if_neg n]
    exact run_sound okX8_isUnder noCut 200 (br (fun p2 => br (fun p3 => ⟨rfl, rfl, some_int (if_pos ⟨p2, p3⟩).symm⟩) (fun p3 => ⟨rfl, rfl, some_int (if_neg (fun y => p3 y.2)).symm⟩)) (fun p2 => ⟨rfl, rfl, some_int (if_neg (fun y => p2 y.1)).symm⟩))
  exact br (fun p2 => br (fun p3 => ⟨rfl, rfl, some_int (if_pos ⟨p2, p3⟩).symm⟩) (fun p3 => t11 (fun y => p3 y.2))) (fun p2 => t11 (fun y => p2 y.1))
def tkG (M : MS) (ns nk : Nat) (i k : Int32) : Int32 := if (0 : Int32) ≤ k ∧ k ≤ 6 then (if (0 : Int32) ≤ i ∧ i ≤ 16 then
    (if 12 ≤ i then (if i - 12 < nI ns then (if 6 ≤ k then -13 else if unF ((M.2.1 1).getD (i - 12).toNatClampNeg 0) k = 0 then -13 else i - 12) else -11)
     else (if i < nI nk then (if k = 6 then (M.2.1 4).getD (3 * i.toNatClampNeg + 2) 0 else -13) else -11)) else -12) else -2
set_option maxRecDepth 100000 in
set_option maxHeartbeats 1000000 in
theorem g_taken (h : MInv M nt ns nk) (i k : Int32) : Ans l 1 X sgX8_taken [.ref 27, .int i, .int k] (mk S M) (tkG M ns nk i k) := by
  obtain ⟨h3, h12⟩ := h.2.2.2.2.1
  obtain ⟨h0, h5⟩ := h.2.2.2.1
  have l4 : (M.2.1 4).length = 36 := h.1.2.2.1
  have l1 : (M.2.1 1).length = 5 := h.1.1
  refine Ctr.of okX8_taken rfl (Nat.le_of_ble_eq_true rfl) (run_sound okX8_taken noCut 200 ?_)
  refine kH (m_in _ _ _) (by decide) (brB' (fun q => ⟨rfl, some_int (if_neg q).symm⟩) (fun q => kH (m_in _ _ _) (by decide) (brB' (fun q2 => ⟨rfl, some_int ((if_pos q).trans (if_neg q2)).symm⟩) (fun q2 => ?_))))
  have e : tkG M ns nk i k = if 12 ≤ i then (if i - 12 < nI ns then (if 6 ≤ k then -13 else if unF ((M.2.1 1).getD (i - 12).toNatClampNeg 0) k = 0 then -13 else i - 12) else -11) else (if i < nI nk then (if k = 6 then (M.2.1 4).getD (3 * i.toNatClampNeg + 2) 0 else -13) else -11) := (if_pos q).trans (if_pos q2)
  rw [e]
  refine br (fun p => ?_) (fun p => ?_)
  · have p : (12 : Int32) ≤ i := p
    rw [if_pos p]
    refine br (fun p2 => ?_) (fun p2 => ⟨rfl, some_int ?_⟩)
    · have p2 : i - 12 < M.1 0 := p2
      rw [h0] at p2
      rw [if_pos p2]
      have n0 := sub12 (Int32.not_lt.mpr p) q2.2
      obtain ⟨j, hj, ej⟩ := inN (n := ns) (by omega) ⟨Int32.not_lt.mp n0, by
        have y := Int32.lt_iff_toInt_lt.mp p2
        rw [nI_toInt (by omega)] at y
        have y0 := Int32.le_iff_toInt_le.mp (Int32.not_lt.mp n0)
        have e0 : (0 : Int32).toInt = 0 := by decide
        have hp : 1 ≤ ns := by omega
        rw [show nI ns - 1 = nI (ns - 1) from nI_m1 hp]
        rw [Int32.le_iff_toInt_le, nI_toInt (by omega)]
        omega⟩
      refine br (fun p3 => ⟨rfl, some_int (if_pos p3).symm⟩) (fun p3 => ?_)
      rw [if_neg (show ¬ 6 ≤ k from p3)]
      have vj : vp_in (i - Int32.ofInt 12) (M.2.1 1).length := by
        rw [show i - Int32.ofInt 12 = nI j from ej, l1]; exact vp_nI (by omega) (by decide)
      exact Exists.intro _ (And.intro rfl (And.intro vj (kH (m_isUnder _ _) (by decide) (br (fun p4 => ⟨rfl, some_int (if_pos p4).symm⟩) (fun p4 => ⟨rfl, some_int (if_neg p4).symm⟩)))))
    · have p2 : ¬ i - 12 < M.1 0 := p2
      rw [h0] at p2
      exact (if_neg p2).symm
  · have p : ¬ (12 : Int32) ≤ i := p
    rw [if_neg p]
    refine br (fun p2 => ?_) (fun p2 => ⟨rfl, some_int ?_⟩)
    · have p2 : i < M.1 3 := p2
      rw [h3] at p2
      rw [if_pos p2]
      obtain ⟨j, hj, rfl⟩ := inC (c := 16) (n := 16) (by decide) (by decide) q2
      have hjk : j < nk := Nat.lt_of_not_le (fun z => absurd p2 (nI_nlt z (by omega)))
      have e2 : Int32.ofInt 3 * nI j + Int32.ofInt 2 = nI (3 * j + 2) := by rw [show Int32.ofInt 3 * nI j = nI (3 * j) from nI_mul 3 j]; exact nI_add _ 2
      refine br (fun p3 => ?_) (fun p3 => ⟨rfl, some_int (if_neg p3).symm⟩)
      rw [if_pos (show k = 6 from p3)]
      refine Exists.intro _ (And.intro rfl (And.intro ?_ ⟨rfl, some_int ?_⟩))
      · show vp_in (Int32.ofInt 3 * nI j + Int32.ofInt 2) (M.2.1 4).length
        rw [e2, l4]; exact vp_nI (by omega) (by decide)
      · show (M.2.1 4).getD (Int32.ofInt 3 * nI j + Int32.ofInt 2).toNatClampNeg 0 = _
        rw [e2, nI_clamp (by omega), nI_clamp (by omega)]
    · have p2 : ¬ i < M.1 3 := p2
      rw [h3] at p2
      exact (if_neg p2).symm
end MSHE2
