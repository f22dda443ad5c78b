section READS
variable {l : Launch} {X : List (List Int32)} {S : CS} {M : MS}
/-- what a query may leave behind: named, stack, meant, fitting, the best question -/
abbrev SZ : Type := List Int32 × List Int32 × List Int64 × List Int64 × Int32 × Int32 × Int32
def sc (M : MS) (z : SZ) : MS := (uf (uf (uf M.1 34 z.2.2.2.2.1) 35 z.2.2.2.2.2.1) 36 z.2.2.2.2.2.2, uf (uf M.2.1 31 z.1) 30 z.2.1, z.2.2.1, z.2.2.2.1)
def getZ (M : MS) : SZ := (M.2.1 31, M.2.1 30, M.2.2.1, M.2.2.2, M.1 34, M.1 35, M.1 36)
def ScOk (z : SZ) : Prop := z.1.length = 6 ∧ z.2.1.length = 200 ∧ z.2.2.1.length = 60 ∧ z.2.2.2.1.length = 12
theorem MLen.sc {z : SZ} (h : MLen M) (hz : ScOk z) : MLen (sc M z) := by
  obtain ⟨h1, h2, h3, h4, h5, h6, h7, h8, h9, h10, h11, h12, h13, h14, h15, h16, h17, h18⟩ := h
  obtain ⟨z1, z2, z3, z4⟩ := hz
  exact ⟨h1, h2, h3, h4, h5, h6, h7, h8, h9, h10, h11, h12, h13, h14, z2, z1, z3, z4⟩
theorem MLen.z (h : MLen M) : ScOk (getZ M) := by
  obtain ⟨h1, h2, h3, h4, h5, h6, h7, h8, h9, h10, h11, h12, h13, h14, h15, h16, h17, h18⟩ := h
  exact ⟨h16, h15, h17, h18⟩
/-- a part of a text, as codes -/
def segM (M : MS) (t p : Nat) : List Int32 := ((M.2.1 7).drop (200 * t + ((M.2.1 8).getD (4 * t + p) 0).toNatClampNeg)).take (((M.2.1 8).getD (4 * t + p + 1) 0).toNatClampNeg - ((M.2.1 8).getD (4 * t + p) 0).toNatClampNeg)
def valR (nm seg : List Int32) : Int32 := match evR nm seg [] with
  | some (v :: _) => v
  | _ => 0
/-- the part can be run -/
def TOk (M : MS) (t p : Nat) : Prop := ∃ a b : Nat, (M.2.1 8).getD (4 * t + p) 0 = nI a ∧ (M.2.1 8).getD (4 * t + p + 1) 0 = nI b ∧ a ≤ b ∧ b ≤ 200 ∧ ∀ nm, ∃ v, evR nm (segM M t p) [] = some [v]
theorem m_says2 (hM : MLen M) {t p : Nat} (ht : M.1 10 = nI t) (ht6 : t < 6) (hp3 : p < 3) (hO : TOk M t p) : Ctr l 1 X sgX8_says [.ref 27, .int (nI p)] (mk S M) (saysQ S M (valR (M.2.1 31) (segM M t p))) := by
  obtain ⟨a, b, ha, hb, hab, hb2, hv⟩ := hO
  obtain ⟨v, hv⟩ := hv (M.2.1 31)
  have e : valR (M.2.1 31) (segM M t p) = v := by unfold valR; rw [hv]
  rw [e]
  refine m_says hM ht ht6 hp3 ha hb hab hb2 ?_
  unfold segM at hv
  rw [ha, hb, nI_clamp (by omega), nI_clamp (by omega)] at hv
  exact hv
def nmF (w who : Int32) : List Int32 := [w >>> (0 &&& 31) &&& 1, w >>> (1 &&& 31) &&& 1, w >>> (2 &&& 31) &&& 1, w >>> (3 &&& 31) &&& 1, w >>> (4 &&& 31) &&& 1, who]
def saysF (M : MS) (p t : Nat) (w who : Int32) : Int32 := if p = 2 then withinF (valR (nmF w who) (segM M t p)) 0 99 else if valR (nmF w who) (segM M t p) = 0 then 0 else 1
/-- named, filled up to x -/
def nmP (nm : List Int32) (w : Int32) : Nat → List Int32
  | 0 => nm
  | x + 1 => (nmP nm w x).set x (w >>> (nI x &&& 31) &&& 1)
theorem nmP_len {nm : List Int32} {w : Int32} : ∀ x, (nmP nm w x).length = nm.length
  | 0 => rfl
  | x + 1 => by rw [nmP, List.length_set, nmP_len x]
theorem nmP_all {nm : List Int32} (h : nm.length = 6) (w who : Int32) : (nmP nm w 5).set 5 who = nmF w who := by
  match nm, h with
  | [a, b, c, d, e, f], _ => rfl
abbrev zR (S : CS) (M : MS) (v : Int32) : AH → Option Value → Prop := fun h w => (∃ z, ScOk z ∧ z.2.2 = (getZ M).2.2 ∧ h = mk S (sc M z)) ∧ w = some (.int v)
set_option maxRecDepth 100000 in
set_option maxHeartbeats 4000000 in
theorem m_saysOf (hM : MLen M) {t p : Nat} (ht6 : t < 6) (hp3 : p < 3) (hO : TOk M t p) (w who : Int32) : Ctr l 2 X sgX8_saysOf [.ref 27, .int (nI p), .int (nI t), .int w, .int who] (mk S M) (zR S M (saysF M p t w who)) := by
  have h31 : (M.2.1 31).length = 6 := hM.z.1
  refine Ctr.of okX8_saysOf rfl (Nat.le_of_ble_eq_true rfl) (run_sound okX8_saysOf (fun i => Nat.beq i 8) 300 ?_)
  have key : ∀ j, j ≤ 5 → WP l (rmD 2 0 0) X sgX8_saysOf kX8_saysOf (zR S M (saysF M p t w who)) 8 [some (.ref 27), some (.int (nI p)), some (.int (nI t)), some (.int w), some (.int who), some (.int (M.1 10)), some (.int (nI j))] [] (mk S (mR (mN M 10 (nI t)) 31 (nmP (M.2.1 31) w j))) 0 0 := by
    refine down ?_ (fun j hj ih => ?_)
    · refine run_sound okX8_saysOf (fun i => Nat.beq i 8) 300 (brT (Int32.le_refl _) (Exists.intro _ (And.intro rfl (And.intro ?_ ?_))))
      · show vp_in (nI 5) (nmP (M.2.1 31) w 5).length
        rw [nmP_len, h31]; exact vp_nI (by decide) (by decide)
      have hnm : (nmP (M.2.1 31) w 5).set (Int32.ofInt 5).toNatClampNeg who = nmF w who := nmP_all h31 w who
      have hM2 : MLen (mR (mN M 10 (nI t)) 31 (nmF w who)) := by
        obtain ⟨h1, h2, h3, h4, h5, h6, h7, h8, h9, h10, h11, h12, h13, h14, h15, h16, h17, h18⟩ := hM
        exact ⟨h1, h2, h3, h4, h5, h6, h7, h8, h9, h10, h11, h12, h13, h14, h15, rfl, h17, h18⟩
      have hs : Ctr l 1 X sgX8_says [.ref 27, .int (nI p)] (mk S (mR (mN M 10 (nI t)) 31 ((nmP (M.2.1 31) w 5).set (Int32.ofInt 5).toNatClampNeg who))) (saysQ S (mR (mN M 10 (nI t)) 31 (nmF w who)) (valR (nmF w who) (segM M t p))) := by
        rw [hnm]
        exact m_says2 hM2 rfl ht6 hp3 hO
      refine ⟨1, _, by decide, hs, ?_⟩
      rintro hp' v ⟨⟨st, hst, rfl⟩, rfl⟩
      have fin : ∃ z, ScOk z ∧ z.2.2 = (getZ M).2.2 ∧ mk S (mR (mN (mR (mR (mN M 10 (nI t)) 31 (nmF w who)) 30 st) 10 (M.1 10)) 30 st) = mk S (sc M z) := ⟨(nmF w who, st, (getZ M).2.2), ⟨rfl, hst, hM.z.2.2.1, hM.z.2.2.2⟩, rfl, rfl⟩
      refine And.intro trivial (br (fun q1 => kH (m_within _ _ _) (by decide) ⟨fin, some_int ?_⟩) (fun q1 => br (fun q2 => ⟨fin, some_int ?_⟩) (fun q2 => ⟨fin, some_int ?_⟩)))
      · have q3 : p = 2 := (nI_eq (a := p) (b := 2) (by omega) (by decide)).mp q1
        exact (if_pos q3).symm
      · have q3 : ¬ p = 2 := fun z => q1 (by rw [z]; rfl)
        exact ((if_neg q3).trans (if_pos q2)).symm
      · have q3 : ¬ p = 2 := fun z => q1 (by rw [z]; rfl)
        exact ((if_neg q3).trans (if_neg q2)).symm
    · refine run_sound okX8_saysOf (fun i => Nat.beq i 8) 300 (brF (ge_no (n := 5) rfl hj (by decide)) (Exists.intro _ (And.intro rfl (And.intro ?_ ?_))))
      · show vp_in (nI j) (nmP (M.2.1 31) w j).length
        rw [nmP_len, h31]; exact vp_nI (by omega) (by decide)
      · rw [← nI_1 j, nmP, show j = (nI j).toNatClampNeg from (nI_clamp (by omega)).symm, nI_clamp (by omega)] at ih
        have e : (nmP (M.2.1 31) w j).set j (w >>> (nI j &&& 31) &&& 1) = (nmP (M.2.1 31) w j).set (nI j).toNatClampNeg (w >>> (nI j &&& 31) &&& 1) := by rw [nI_clamp (by omega)]
        rw [e] at ih
        exact ih
  exact And.intro trivial (key 0 (Nat.zero_le _))
end READS
