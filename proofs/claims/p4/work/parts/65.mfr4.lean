/-! THE REFERENCE's strangers, images, sheets, tape, over a new one -/
section MFR4
variable {l : Launch} {X : List (List Int32)} {S : CS} {M : MS} {hp : AH}
/-- the n-th world -/
def waF (s : Int64) : Nat → Nat → Int32 → Int32
  | 0, _, _ => -1
  | m + 1, w, left => if (s >>> ((nI w).toInt64 &&& 63)) &&& 1 = 1 then (if left = 0 then nI w else waF s m (w + 1) (left + Int32.ofInt (-1))) else waF s m (w + 1) left
set_option maxRecDepth 100000 in
theorem m_worldAt (s : Int64) (n : Int32) : Ans l 1 X sgX8_worldAt [.long s, .int n] hp (waF s 32 0 n) := by
  refine Ctr.of okX8_worldAt rfl (Nat.le_of_ble_eq_true rfl) (run_sound okX8_worldAt (fun i => Nat.beq i 4) 100 ?_)
  have key : ∀ j, j ≤ 32 → ∀ left, waF s (32 - j) j left = waF s 32 0 n → WP l (rmD 1 0 0) X sgX8_worldAt kX8_worldAt (fun h w => h = hp ∧ w = some (.int (waF s 32 0 n))) 4 [some (.long s), none, some (.int n), some (.int left), some (.int (nI j))] [] hp 0 0 := by
    refine down (fun left e => ?_) (fun j hj ih left e => ?_)
    · exact run_sound okX8_worldAt (fun i => Nat.beq i 4) 100 (brT (Int32.le_refl _) ⟨rfl, some_int e⟩)
    · rw [show 32 - j = (32 - (j + 1)) + 1 by omega, waF] at e
      refine run_sound okX8_worldAt (fun i => Nat.beq i 4) 100 (brF (ge_no (n := 32) rfl hj (by decide)) (kH (m_has _ _) (by decide) (brB' (fun h => ?_) (fun h => br (fun h0 => ?_) (fun h0 => ?_)))))
      · rw [if_neg h] at e
        have ih := ih left e
        rw [← nI_1 j] at ih
        exact ih
      · rw [if_pos h, if_pos h0] at e
        exact ⟨rfl, some_int e⟩
      · rw [if_pos h, if_neg h0] at e
        have ih := ih _ e
        rw [← nI_1 j] at ih
        exact ih
  exact key 0 (Nat.zero_le _) n rfl
set_option maxRecDepth 100000 in
theorem f_asksBy (h : FM M) (seed : Int32) : Ans l 2 X sgX8_asksBy [.ref 27, .long ALLW, .int seed] (mk S M) 0 := by
  have h0 := h.n0
  have e32 : cntF ALLW 32 = 32 := by decide +kernel
  have hb : Ans l 1 X sgX8_bitsOf [.long ALLW] (mk S M) 32 := by
    have q : Ans l 1 X sgX8_bitsOf [.long ALLW] (mk S M) (cntF ALLW 32) := m_bitsOf _
    rw [e32] at q
    exact q
  refine Ctr.of okX8_asksBy rfl (Nat.le_of_ble_eq_true rfl) (run_sound okX8_asksBy noCut 200 ?_)
  refine And.intro (by decide) (kH hb (by decide) (And.intro (by decide) (kH (m_worldAt _ _) (by decide) (kH hb (by decide) (brF (by decide) (brF (by decide) (brT ?_ ⟨rfl, rfl⟩)))))))
  show M.1 0 ≤ 0
  rw [h0]
  decide
def drwA (seed : Int32) : Int32 := if (0 : Int32) ≤ seed ∧ seed ≤ 99999 then 0 else -2
set_option maxRecDepth 100000 in
theorem f_drawn (h : FM M) (seed : Int32) : Ctr l 6 X sgX8_drawn [.ref 27, .int seed] (mk S M) (pA (.int (drwA seed))) := by
  refine Ctr.of okX8_drawn rfl (Nat.le_of_ble_eq_true rfl) (run_sound okX8_drawn noCut 200 ?_)
  refine kH (m_in _ _ _) (by decide) (brB' (fun q => some_int (if_neg q).symm) (fun q => ⟨5, _, by decide, f_worldsNow h, ?_⟩))
  rintro hp' w ⟨⟨z, hz, hzm, rfl⟩, rfl⟩
  exact brC (fun z => absurd z (by decide)) (fun _ => kH (f_asksBy (h.sc hz) seed) (by decide) (some_int (if_pos q).symm))
set_option maxRecDepth 100000 in
theorem f_lowest (b : Int64) (part : Int32) : AnsL l 0 X sgX8_lowest [.long 0, .long b, .int part] hp part.toInt64 := by
  refine Ctr.of okX8_lowest rfl (Nat.le_of_ble_eq_true rfl) (run_sound okX8_lowest (fun i => Nat.beq i 7) 200 ?_)
  exact brC (fun _ => ⟨rfl, rfl, rfl⟩) (fun z => absurd rfl z)
theorem in110 {v : Int32} (h : (1 : Int32) ≤ v ∧ v ≤ 10) : ∃ n : Nat, n ≤ 10 ∧ v = nI n := by
  have h1 := Int32.le_iff_toInt_le.mp h.1
  have h2 := Int32.le_iff_toInt_le.mp h.2
  have e1 : (1 : Int32).toInt = 1 := by decide
  have e10 : (10 : Int32).toInt = 10 := by decide
  refine ⟨v.toInt.toNat, by omega, Int32.toInt_inj.mp ?_⟩
  rw [nI_toInt (by omega)]
  omega
def mnA (seed seeds part : Int32) : Int64 := if ((0 : Int32) ≤ seed ∧ seed ≤ 99999) ∧ ((1 : Int32) ≤ seeds ∧ seeds ≤ 10) ∧ p1P part then part.toInt64 else NOL
set_option maxRecDepth 100000 in
theorem f_mean (h : FM M) (seed seeds part : Int32) : Ctr l 6 X sgX8_mean [.ref 27, .int seed, .int seeds, .int part] (mk S M) (pA (.long (mnA seed seeds part))) := by
  refine Ctr.of okX8_mean rfl (Nat.le_of_ble_eq_true rfl) (run_sound okX8_mean (fun i => Nat.beq i 30) 200 ?_)
  refine kH (m_in _ _ _) (by decide) (brB' (fun q => ⟨rfl, some_long (if_neg (fun z => q z.1)).symm⟩) (fun q => kH (m_in _ _ _) (by decide) (brB' (fun q2 => ⟨rfl, some_long (if_neg (fun z => q2 z.2.1)).symm⟩) (fun q2 => kH (m_in _ _ _) (by decide) (brB' (fun q3 => ⟨rfl, some_long (if_neg (fun z => q3 z.2.2)).symm⟩) (fun q3 => ⟨5, _, by decide, f_worldsNow h, ?_⟩))))))
  rintro hp' w ⟨⟨z, hz, hzm, rfl⟩, rfl⟩
  rw [show mnA seed seeds part = part.toInt64 from if_pos ⟨q, q2, q3⟩]
  refine brC (fun z => absurd z (by decide)) (fun _ => ?_)
  obtain ⟨n, hn, rfl⟩ := in110 q2
  have key : ∀ j, j ≤ n → WP l (rmD 6 0 0) X sgX8_mean kX8_mean (pA (.long part.toInt64)) 30 [some (.ref 27), some (.int seed), some (.int (nI n)), some (.int part), some (.long ALLW), none, some (.long 0), none, some (.int (nI j))] [] (mk S (sc M z)) 0 0 := by
    refine down ?_ (fun j hj ih => ?_)
    · exact run_sound okX8_mean (fun i => Nat.beq i 30) 200 (brT (Int32.le_refl _) (kH (f_lowest _ _) (by decide) ⟨rfl, rfl⟩))
    · refine run_sound okX8_mean (fun i => Nat.beq i 30) 200 (brF (ge_no (n := n) rfl hj (by omega)) (kH (f_asksBy (h.sc hz) _) (by decide) ?_))
      rw [← nI_1 j] at ih
      exact ih
  exact key 0 (Nat.zero_le _)
set_option maxRecDepth 100000 in
theorem f_image (h : FM M) : Ctr l 0 X sgX8_image [.ref 27] (mk S M) (pA (.int 0)) := by
  have h3 := h.n3
  obtain ⟨l1, l2, l4, l5, l7, l8, l15, l16, -⟩ := h.1
  refine Ctr.of okX8_image rfl (Nat.le_of_ble_eq_true rfl) (run_sound okX8_image (fun i => Nat.beq i 17 || Nat.beq i 42) 200 ?_)
  refine And.intro (Or.inr rfl) (And.intro trivial (And.intro trivial (And.intro trivial ?_)))
  obtain ⟨M1, hM1⟩ : ∃ M1, M1 = mN (mN (mN (mN M 11 1) 12 (M.1 0)) 13 (M.1 3)) 14 (M.1 10) := ⟨_, rfl⟩
  have e1 : (M1.2.1 1).length = 5 := by subst hM1; exact l1
  have e2 : (M1.2.1 2).length = 5 := by subst hM1; exact l2
  have e4 : (M1.2.1 4).length = 36 := by subst hM1; exact l4
  have e3 : M1.1 3 = 0 := by subst hM1; exact h3
  have k2 : ∀ j, j ≤ 36 → ∀ a b : List Int32, b.length = 36 → WP l (rmD 0 0 0) X sgX8_image kX8_image (pA (.int 0)) 42 [some (.ref 27), some (.int (nI j))] [] (mk S (mR (mR M1 15 a) 16 b)) 0 0 := by
    refine down (fun a b hb => ?_) (fun j hj ih a b hb => ?_)
    · exact run_sound okX8_image (fun i => Nat.beq i 17 || Nat.beq i 42) 200 (brT (Int32.le_refl _) (some_int e3))
    · refine run_sound okX8_image (fun i => Nat.beq i 17 || Nat.beq i 42) 200 (brF (ge_no (n := 36) rfl hj (by decide)) (Exists.intro _ (And.intro rfl (And.intro ?_ (Exists.intro _ (And.intro rfl (And.intro ?_ ?_)))))))
      · show vp_in (nI j) (M1.2.1 4).length
        rw [e4]; exact vp_nI hj (by decide)
      · show vp_in (nI j) b.length
        rw [hb]; exact vp_nI hj (by decide)
      · have ih := ih a (b.set (nI j).toNatClampNeg ((M1.2.1 4).getD (nI j).toNatClampNeg 0)) (by simpa using hb)
        rw [← nI_1 j] at ih
        exact ih
  have k1 : ∀ j, j ≤ 5 → ∀ a : List Int32, a.length = 10 → WP l (rmD 0 0 0) X sgX8_image kX8_image (pA (.int 0)) 17 [some (.ref 27), some (.int (nI j))] [] (mk S (mR M1 15 a)) 0 0 := by
    refine down (fun a ha => ?_) (fun j hj ih a ha => ?_)
    · have e16 : (M1.2.1 16).length = 36 := by subst hM1; exact l16
      have q := k2 0 (Nat.zero_le _) a (M1.2.1 16) e16
      exact run_sound okX8_image (fun i => Nat.beq i 17 || Nat.beq i 42) 200 (brT (Int32.le_refl _) q)
    · refine run_sound okX8_image (fun i => Nat.beq i 17 || Nat.beq i 42) 200 (brF (ge_no (n := 5) rfl hj (by decide)) (Exists.intro _ (And.intro rfl (And.intro ?_ (Exists.intro _ (And.intro rfl (And.intro ?_ (Exists.intro _ (And.intro rfl (And.intro ?_ (Exists.intro _ (And.intro rfl (And.intro ?_ ?_)))))))))))))
      · show vp_in (nI j) (M1.2.1 1).length
        rw [e1]; exact vp_nI hj (by decide)
      · show vp_in (nI j) a.length
        rw [ha]; exact vp_nI (by omega) (by decide)
      · show vp_in (nI j) (M1.2.1 2).length
        rw [e2]; exact vp_nI hj (by decide)
      · show vp_in (Int32.ofInt 5 + nI j) (a.set (nI j).toNatClampNeg ((M1.2.1 1).getD (nI j).toNatClampNeg 0)).length
        rw [List.length_set, ha, show Int32.ofInt 5 + nI j = nI (5 + j) from nI_add 5 j]; exact vp_nI (by omega) (by decide)
      · have ih := ih ((a.set (nI j).toNatClampNeg ((M1.2.1 1).getD (nI j).toNatClampNeg 0)).set (Int32.ofInt 5 + nI j).toNatClampNeg ((M1.2.1 2).getD (nI j).toNatClampNeg 0)) (by simpa using ha)
        rw [← nI_1 j] at ih
        exact ih
  have e15 : (M1.2.1 15).length = 10 := by subst hM1; exact l15
  have q := k1 0 (Nat.zero_le _) (M1.2.1 15) e15
  subst hM1
  exact q
set_option maxRecDepth 100000 in
theorem f_back (h : FM M) : Ctr l 0 X sgX8_back [.ref 27] (mk S M) (pA (.int (-3))) := by
  refine Ctr.of okX8_back rfl (Nat.le_of_ble_eq_true rfl) (run_sound okX8_back (fun i => Nat.beq i 5) 200 ?_)
  exact brT h.n11 rfl
theorem in03n {v : Int32} (h : p3P v) : ∃ a : Nat, a < 4 ∧ v = nI a := by
  rcases in03 h with rfl | rfl | rfl | rfl
  · exact ⟨0, by decide, rfl⟩
  · exact ⟨1, by decide, rfl⟩
  · exact ⟨2, by decide, rfl⟩
  · exact ⟨3, by decide, rfl⟩
theorem cell_in {a j n : Nat} (ha : a < 4) (hj : j < 40) (hn : n = 160) : vp_in (Int32.ofInt 40 * nI a + nI j) n := by
  rw [hn, show Int32.ofInt 40 * nI a = nI (40 * a) from nI_mul 40 a, nI_add]
  exact vp_nI (by omega) (by decide)
def filA (s : Int32) : Int32 := if p3P s then 0 else -2
set_option maxRecDepth 100000 in
theorem f_film (h : FM M) (s : Int32) : Ctr l 1 X sgX8_film [.ref 27, .int s] (mk S M) (pA (.int (filA s))) := by
  have h3 := h.n3
  have l17 : (M.2.1 17).length = 4 := by rw [h.2.2.2.2]; rfl
  have l18 : (M.2.1 18).length = 4 := h.1.2.2.2.2.2.2.2.2.2.1
  have l19 : (M.2.1 19).length = 160 := h.1.2.2.2.2.2.2.2.2.2.2.1
  refine Ctr.of okX8_film rfl (Nat.le_of_ble_eq_true rfl) (run_sound okX8_film (fun i => Nat.beq i 22) 200 ?_)
  refine kH (m_in _ _ _) (by decide) (brB' (fun q => some_int (if_neg q).symm) (fun q => ?_))
  have e : (0 : Int32) = filA s := (if_pos q).symm
  rw [← e]
  obtain ⟨a, ha, rfl⟩ := in03n q
  refine Exists.intro _ (And.intro rfl (And.intro ?_ (Exists.intro _ (And.intro rfl (And.intro ?_ ?_)))))
  · show vp_in (nI a) (M.2.1 17).length
    rw [l17]; exact vp_nI ha (by decide)
  · show vp_in (nI a) (M.2.1 18).length
    rw [l18]; exact vp_nI ha (by decide)
  have key : ∀ j, j ≤ 40 → ∀ x y z : List Int32, z.length = 160 → WP l (rmD 1 0 0) X sgX8_film kX8_film (pA (.int 0)) 22 [some (.ref 27), some (.int (nI a)), some (.int (nI j))] [] (mk S (mR (mR (mR M 17 x) 18 y) 19 z)) 0 0 := by
    refine down (fun x y z hz => ?_) (fun j hj ih x y z hz => ?_)
    · exact run_sound okX8_film (fun i => Nat.beq i 22) 200 (brT (Int32.le_refl _) (some_int h3))
    · refine run_sound okX8_film (fun i => Nat.beq i 22) 200 (brF (ge_no (n := 40) rfl hj (by decide)) (brT ?_ (Exists.intro _ (And.intro rfl (And.intro ?_ ?_)))))
      · show Int32.ofInt 3 * M.1 3 ≤ nI j
        rw [h3]
        exact nI_pos' (by omega)
      · exact cell_in ha hj hz
      · have ih := ih x y (z.set (Int32.ofInt 40 * nI a + nI j).toNatClampNeg 0) (by simpa using hz)
        rw [← nI_1 j] at ih
        exact ih
  exact key 0 (Nat.zero_le _) _ _ (M.2.1 19) l19
abbrev m2P (v : Int32) : Prop := (-1 : Int32) ≤ v ∧ v ≤ 2
def shtA (s sort n : Int32) : Int32 := if p3P s ∧ m2P sort ∧ (sort = -1 ∨ n ≤ 40) then (if ¬ sort = -1 ∧ n < 0 then -14 else 1) else -2
set_option maxRecDepth 100000 in
set_option maxHeartbeats 1000000 in
theorem m_sheet (hM : MLen M) (s sort n : Int32) : Ctr l 1 X sgX8_sheet [.ref 27, .int s, .int sort, .int n] (mk S M) (pA (.int (shtA s sort n))) := by
  have l17 : (M.2.1 17).length = 4 := hM.2.2.2.2.2.2.2.2.1
  have l18 : (M.2.1 18).length = 4 := hM.2.2.2.2.2.2.2.2.2.1
  have l19 : (M.2.1 19).length = 160 := hM.2.2.2.2.2.2.2.2.2.2.1
  refine Ctr.of okX8_sheet rfl (Nat.le_of_ble_eq_true rfl) (run_sound okX8_sheet (fun i => Nat.beq i 18 || Nat.beq i 25 || Nat.beq i 42) 200 ?_)
  refine kH (m_in _ _ _) (by decide) (brB' (fun q => some_int (if_neg (fun z => q z.1)).symm) (fun q => kH (m_in _ _ _) (by decide) (brB' (fun q2 => some_int (if_neg (fun z => q2 z.2.1)).symm) (fun q2 => ?_))))
  have t25 : p3P s → (1 : Int32) = shtA s sort n → WP l (rmD 1 0 0) X sgX8_sheet kX8_sheet (pA (.int (shtA s sort n))) 25 [some (.ref 27), some (.int s), some (.int sort), some (.int n), none] [] (mk S M) 0 0 := by
    intro q e
    rw [← e]
    obtain ⟨a, ha, rfl⟩ := in03n q
    have key : ∀ j, j ≤ 40 → ∀ x y z : List Int32, z.length = 160 → WP l (rmD 1 0 0) X sgX8_sheet kX8_sheet (pA (.int 1)) 42 [some (.ref 27), some (.int (nI a)), some (.int sort), some (.int n), some (.int (nI j))] [] (mk S (mR (mR (mR M 17 x) 18 y) 19 z)) 0 0 := by
      refine down (fun x y z hz => ?_) (fun j hj ih x y z hz => ?_)
      · exact run_sound okX8_sheet (fun i => Nat.beq i 18 || Nat.beq i 25 || Nat.beq i 42) 200 (brT (Int32.le_refl _) rfl)
      · refine run_sound okX8_sheet (fun i => Nat.beq i 18 || Nat.beq i 25 || Nat.beq i 42) 200 (brF (ge_no (n := 40) rfl hj (by decide)) (Exists.intro _ (And.intro rfl (And.intro ?_ ?_))))
        · exact cell_in ha hj hz
        · have ih := ih x y (z.set (Int32.ofInt 40 * nI a + nI j).toNatClampNeg 0) (by simpa using hz)
          rw [← nI_1 j] at ih
          exact ih
    refine run_sound okX8_sheet (fun i => Nat.beq i 18 || Nat.beq i 42) 200 (Exists.intro _ (And.intro rfl (And.intro ?_ (br (fun _ => Exists.intro _ (And.intro rfl (And.intro ?_ (key 0 (Nat.zero_le _) _ _ (M.2.1 19) l19)))) (fun _ => Exists.intro _ (And.intro rfl (And.intro ?_ (key 0 (Nat.zero_le _) _ _ (M.2.1 19) l19))))))))
    · show vp_in (nI a) (M.2.1 17).length
      rw [l17]; exact vp_nI ha (by decide)
    · show vp_in (nI a) (M.2.1 18).length
      rw [l18]; exact vp_nI ha (by decide)
    · show vp_in (nI a) (M.2.1 18).length
      rw [l18]; exact vp_nI ha (by decide)
  have t18 : (sort = -1 ∨ n ≤ 40) → WP l (rmD 1 0 0) X sgX8_sheet kX8_sheet (pA (.int (shtA s sort n))) 18 [some (.ref 27), some (.int s), some (.int sort), some (.int n), none] [] (mk S M) 0 0 := by
    intro p
    have e : shtA s sort n = if ¬ sort = -1 ∧ n < 0 then -14 else 1 := if_pos ⟨q, q2, p⟩
    refine run_sound okX8_sheet (fun i => Nat.beq i 25 || Nat.beq i 42) 200 (br (fun h1 => t25 q ?_) (fun h1 => br (fun h2 => t25 q ?_) (fun h2 => some_int ?_)))
    · exact (e.trans (if_neg (fun z => z.1 h1))).symm
    · exact (e.trans (if_neg (fun z => absurd z.2 (Int32.not_lt.mpr h2)))).symm
    · exact (e.trans (if_pos ⟨h1, Int32.not_le.mp h2⟩)).symm
  exact br (fun h1 => t18 (Or.inl h1)) (fun h1 => br (fun h2 => t18 (Or.inr h2)) (fun h2 => some_int (if_neg (fun z => z.2.2.elim h1 h2)).symm))
end MFR4
