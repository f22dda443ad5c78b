/-! THE REFERENCE in general: texts asked, speakers, sayings -/
section MTALK
variable {l : Launch} {X : List (List Int32)} {S : CS} {M : MS} {hp : AH} {nt ns nk : Nat}
abbrev tP (n : Nat) (t : Int32) : Prop := (0 : Int32) ≤ t ∧ t ≤ nI n - 1
abbrev soP (k m : Int32) : Prop := ((0 : Int32) ≤ k ∧ k ≤ 5) ∧ ((0 : Int32) ≤ m ∧ m ≤ 9)
/-- a new state and an answer -/
abbrev rsQ (S : CS) (r : MS × Int32) : AH → Option Value → Prop := fun h w => h = mk S r.1 ∧ w = some (.int r.2)
theorem rs_i {S : CS} {M' : MS} {v w : Int32} {r : MS × Int32} (e : r = (M', v)) (hv : w = v) : rsQ S r (mk S M') (some (.int w)) := by subst e; exact ⟨rfl, some_int hv⟩
def asG (M : MS) (nt : Nat) (t w who part : Int32) : Int32 := if tP nt t ∧ wdP w then (if whP who ∧ p2P part then saysF M part.toNatClampNeg t.toNatClampNeg (if part = 2 then 0 else w) who else -7) else -5
set_option maxRecDepth 100000 in
set_option maxHeartbeats 1000000 in
theorem g_asks (h : MInv M nt ns nk) (t w who part : Int32) : Ctr l 3 X sgX8_asks [.ref 27, .int t, .int w, .int who, .int part] (mk S M) (zA S M (.int (asG M nt t w who part))) := by
  have h6 := h.2.2.1.2.2
  have lf : ∀ {v w : Int32}, v = w → zA S M (.int w) (mk S M) (some (.int v)) := fun e => ⟨⟨getZ M, h.1.z, rfl⟩, some_int e⟩
  refine Ctr.of okX8_asks rfl (Nat.le_of_ble_eq_true rfl) (run_sound okX8_asks noCut 100 ?_)
  refine kH (g_T h t) (by decide) (brB' (fun q => lf (if_neg (fun z => q z.1)).symm) (fun q => kH (m_isWorld w) (by decide) (brB' (fun q2 => lf (if_neg (fun z => q2 z.2)).symm) (fun q2 => kH (m_in _ _ _) (by decide) (brB' (fun q3 => lf ?_) (fun q3 => kH (m_in _ _ _) (by decide) (brB' (fun q4 => lf ?_) (fun q4 => ?_))))))))
  · exact ((if_pos (show tP nt t ∧ wdP w from ⟨q, q2⟩)).trans (if_neg (fun z => q3 z.1))).symm
  · exact ((if_pos (show tP nt t ∧ wdP w from ⟨q, q2⟩)).trans (if_neg (fun z => q4 z.2))).symm
  · have e : asG M nt t w who part = saysF M part.toNatClampNeg t.toNatClampNeg (if part = 2 then 0 else w) who := (if_pos ⟨q, q2⟩).trans (if_pos ⟨q3, q4⟩)
    rw [e]
    obtain ⟨k, hk, rfl⟩ := inN (by omega) q
    rw [nI_clamp (show k < 2 ^ 31 by omega)]
    rcases in02 q4 with rfl | rfl | rfl
    · have hc : Ctr l 2 X sgX8_saysOf [.ref 27, .int 0, .int (nI k), .int w, .int who] (mk S M) (zR S M (saysF M 0 k w who)) := m_saysOf h.1 (p := 0) (t := k) (by omega) (by decide) (h.2.1 k hk 0 (by decide)) w who
      refine brF (by decide) ⟨2, _, by decide, hc, ?_⟩
      rintro hp' v ⟨⟨z, hz, -, rfl⟩, rfl⟩
      exact ⟨⟨z, hz, rfl⟩, rfl⟩
    · have hc : Ctr l 2 X sgX8_saysOf [.ref 27, .int 1, .int (nI k), .int w, .int who] (mk S M) (zR S M (saysF M 1 k w who)) := m_saysOf h.1 (p := 1) (t := k) (by omega) (by decide) (h.2.1 k hk 1 (by decide)) w who
      refine brF (by decide) ⟨2, _, by decide, hc, ?_⟩
      rintro hp' v ⟨⟨z, hz, -, rfl⟩, rfl⟩
      exact ⟨⟨z, hz, rfl⟩, rfl⟩
    · have hc : Ctr l 2 X sgX8_saysOf [.ref 27, .int 2, .int (nI k), .int 0, .int who] (mk S M) (zR S M (saysF M 2 k 0 who)) := m_saysOf h.1 (p := 2) (t := k) (by omega) (by decide) (h.2.1 k hk 2 (by decide)) 0 who
      refine brT rfl ⟨2, _, by decide, hc, ?_⟩
      rintro hp' v ⟨⟨z, hz, -, rfl⟩, rfl⟩
      exact ⟨⟨z, hz, rfl⟩, rfl⟩
def meG (M : MS) (nt : Nat) (t part : Int32) : Int64 := if tP nt t ∧ p1P part then soF M part.toNatClampNeg t.toNatClampNeg 0 32 else NOL
set_option maxRecDepth 100000 in
theorem g_means (h : MInv M nt ns nk) (t part : Int32) : Ctr l 4 X sgX8_means [.ref 27, .int t, .int part] (mk S M) (zA S M (.long (meG M nt t part))) := by
  have h6 := h.2.2.1.2.2
  have lf : ∀ {v w : Int64}, v = w → zA S M (.long w) (mk S M) (some (.long v)) := fun e => ⟨⟨getZ M, h.1.z, rfl⟩, some_long e⟩
  refine Ctr.of okX8_means rfl (Nat.le_of_ble_eq_true rfl) (run_sound okX8_means noCut 100 ?_)
  refine kH (g_T h t) (by decide) (brB' (fun q => ⟨rfl, lf (if_neg (fun z => q z.1)).symm⟩) (fun q => kH (m_in _ _ _) (by decide) (brB' (fun q2 => ⟨rfl, lf (if_neg (fun z => q2 z.2)).symm⟩) (fun q2 => ?_))))
  have e : meG M nt t part = soF M part.toNatClampNeg t.toNatClampNeg 0 32 := if_pos ⟨q, q2⟩
  rw [e]
  obtain ⟨k, hk, rfl⟩ := inN (by omega) q
  rw [nI_clamp (show k < 2 ^ 31 by omega)]
  rcases in01 q2 with rfl | rfl
  · have hc : Ctr l 3 X sgX8_soIn [.ref 27, .int (nI k), .int 0, .int 0] (mk S M) (zL S M (soF M 0 k 0 32)) := m_soIn h.1 (p := 0) (t := k) (by omega) (by decide) (h.2.1 k hk 0 (by decide)) 0
    refine ⟨3, _, by decide, hc, ?_⟩
    rintro hp' v ⟨⟨z, hz, -, rfl⟩, rfl⟩
    exact ⟨rfl, ⟨z, hz, rfl⟩, rfl⟩
  · have hc : Ctr l 3 X sgX8_soIn [.ref 27, .int (nI k), .int 1, .int 0] (mk S M) (zL S M (soF M 1 k 0 32)) := m_soIn h.1 (p := 1) (t := k) (by omega) (by decide) (h.2.1 k hk 1 (by decide)) 0
    refine ⟨3, _, by decide, hc, ?_⟩
    rintro hp' v ⟨⟨z, hz, -, rfl⟩, rfl⟩
    exact ⟨rfl, ⟨z, hz, rfl⟩, rfl⟩
def paF (M : MS) (who : Int32) : Nat → Int32
  | 0 => 0
  | t + 1 => paF M who t ||| (if soF M 0 t who 32 ^^^ soF M 1 t who 32 = ALLW then (1 : Int32) <<< (nI t &&& 31) else 0)
def paG (M : MS) (nt : Nat) (who : Int32) : Int32 := if whP who then paF M who nt else -2
set_option maxRecDepth 100000 in
set_option maxHeartbeats 1000000 in
theorem g_pairs (h : MInv M nt ns nk) (who : Int32) : Ctr l 4 X sgX8_pairs [.ref 27, .int who] (mk S M) (zA S M (.int (paG M nt who))) := by
  have h9 := h.2.2.1.1
  have h6 := h.2.2.1.2.2
  refine Ctr.of okX8_pairs rfl (Nat.le_of_ble_eq_true rfl) (run_sound okX8_pairs (fun i => Nat.beq i 11) 100 ?_)
  refine kH (m_in _ _ _) (by decide) (brB' (fun q => ⟨⟨getZ M, h.1.z, rfl⟩, some_int (if_neg q).symm⟩) (fun q => ?_))
  rw [show paG M nt who = paF M who nt from if_pos q]
  have key : ∀ j, j ≤ nt → ∀ z, ScOk z → WP l (rmD 4 0 0) X sgX8_pairs kX8_pairs (zA S M (.int (paF M who nt))) 11 [some (.ref 27), some (.int who), some (.int (paF M who j)), some (.int (nI j))] [] (mk S (sc M z)) 0 0 := by
    refine down (fun z hz => ?_) (fun j hj ih z hz => ?_)
    · refine run_sound okX8_pairs (fun i => Nat.beq i 11) 100 (brT ?_ ⟨⟨z, hz, rfl⟩, rfl⟩)
      show M.1 9 ≤ nI nt
      rw [h9]; exact Int32.le_refl _
    · have hs := h.sc hz
      have c0 : Ctr l 3 X sgX8_soIn [.ref 27, .int (nI j), .int 0, .int who] (mk S (sc M z)) (zL S (sc M z) (soF M 0 j who 32)) := by
        rw [← soF_sc z]
        exact m_soIn hs.1 (p := 0) (t := j) (by omega) (by decide) (h.2.1 j hj 0 (by decide)) who
      refine run_sound okX8_pairs (fun i => Nat.beq i 11) 100 (brF ?_ ⟨3, _, by decide, c0, ?_⟩)
      · show ¬ M.1 9 ≤ nI j
        rw [h9]; exact nI_ge hj (by omega)
      · rintro hp' v ⟨⟨z1, hz1, -, rfl⟩, rfl⟩
        have c1 : Ctr l 3 X sgX8_soIn [.ref 27, .int (nI j), .int 1, .int who] (mk S (sc M z1)) (zL S (sc M z1) (soF M 1 j who 32)) := by
          rw [← soF_sc z1]
          exact m_soIn (h.sc hz1).1 (p := 1) (t := j) (by omega) (by decide) (h.2.1 j hj 1 (by decide)) who
        refine ⟨3, _, by decide, c1, ?_⟩
        rintro hp' v ⟨⟨z2, hz2, -, rfl⟩, rfl⟩
        have ih := ih z2 hz2
        refine brC (fun e => ?_) (fun e => ?_)
        · rw [show paF M who (j + 1) = paF M who j ||| ((1 : Int32) <<< (nI j &&& 31)) by rw [paF, if_pos (show soF M 0 j who 32 ^^^ soF M 1 j who 32 = ALLW from e)], ← nI_1 j] at ih
          exact ih
        · rw [show paF M who (j + 1) = paF M who j ||| 0 by rw [paF, if_neg (show ¬ soF M 0 j who 32 ^^^ soF M 1 j who 32 = ALLW from e)], ← nI_1 j] at ih
          exact ih
  exact key 0 (Nat.zero_le _) (getZ M) h.1.z
def spM (M : MS) (ns : Nat) (k m : Int32) : MS := mN (mR (mR M 1 ((M.2.1 1).set ns k)) 2 ((M.2.1 2).set ns m)) 0 (nI (ns + 1))
def spG (M : MS) (ns : Nat) (k m : Int32) : MS × Int32 := if soP k m then (if ns = 5 then (M, -4) else (spM M ns k m, nI ns)) else (M, -2)
set_option maxRecDepth 100000 in
theorem g_speaker (h : MInv M nt ns nk) (k m : Int32) : Ctr l 2 X sgX8_speaker [.ref 27, .int k, .int m] (mk S M) (rsQ S (spG M ns k m)) := by
  obtain ⟨h0, h5⟩ := h.2.2.2.1
  obtain ⟨l1, l2, -⟩ := h.1
  refine Ctr.of okX8_speaker rfl (Nat.le_of_ble_eq_true rfl) (run_sound okX8_speaker noCut 100 ?_)
  refine kH (m_isSo k m) (by decide) (brB' (fun q => rs_i (if_neg q) rfl) (fun q => ?_))
  rw [show spG M ns k m = if ns = 5 then (M, -4) else (spM M ns k m, nI ns) from if_pos q]
  by_cases e : ns = 5
  · refine brT ?_ (rs_i (if_pos e) rfl)
    show M.1 0 = 5
    rw [h0, e]; rfl
  · have e1 : (nI ns).toNatClampNeg = ns := nI_clamp (by omega)
    refine brF ?_ (Exists.intro _ (And.intro rfl (And.intro ?_ (Exists.intro _ (And.intro rfl (And.intro ?_ (And.intro rfl (And.intro trivial ?_))))))))
    · show ¬ M.1 0 = 5
      rw [h0]
      intro z
      exact e ((nI_eq (b := 5) (by omega) (by decide)).mp z)
    · show vp_in (M.1 0) (M.2.1 1).length
      rw [h0, l1]; exact vp_nI (by omega) (by decide)
    · show vp_in (M.1 0) (M.2.1 2).length
      rw [h0, l2]; exact vp_nI (by omega) (by decide)
    · rw [if_neg e]
      refine ⟨?_, some_int ?_⟩
      · show mk S (mN (mR (mR M 1 ((M.2.1 1).set (M.1 0).toNatClampNeg k)) 2 ((M.2.1 2).set (M.1 0).toNatClampNeg m)) 0 (M.1 0 + 1)) = mk S (spM M ns k m)
        rw [h0, e1, nI_1]
        rfl
      · show M.1 0 + 1 - Int32.ofInt 1 = nI ns
        rw [h0, nI_1]; exact nI_pred _
def trM (M : MS) (s : Nat) (k m : Int32) : MS := mR (mR M 1 ((M.2.1 1).set s k)) 2 ((M.2.1 2).set s m)
def trG (M : MS) (ns : Nat) (s k m : Int32) : MS × Int32 := if tP ns s then (if soP k m then (trM M s.toNatClampNeg k m, (M.2.1 1).getD s.toNatClampNeg 0) else (M, -7)) else (M, -5)
set_option maxRecDepth 100000 in
theorem g_turn (h : MInv M nt ns nk) (s k m : Int32) : Ctr l 2 X sgX8_turn [.ref 27, .int s, .int k, .int m] (mk S M) (rsQ S (trG M ns s k m)) := by
  obtain ⟨h0, h5⟩ := h.2.2.2.1
  obtain ⟨l1, l2, -⟩ := h.1
  refine Ctr.of okX8_turn rfl (Nat.le_of_ble_eq_true rfl) (run_sound okX8_turn noCut 100 ?_)
  refine kH (g_S h s) (by decide) (brB' (fun q => rs_i (if_neg q) rfl) (fun q => kH (m_isSo k m) (by decide) (brB' (fun q2 => rs_i ((if_pos q).trans (if_neg q2)) rfl) (fun q2 => ?_))))
  have e : trG M ns s k m = (trM M s.toNatClampNeg k m, (M.2.1 1).getD s.toNatClampNeg 0) := (if_pos q).trans (if_pos q2)
  rw [e]
  obtain ⟨j, hj, rfl⟩ := inN (by omega) q
  refine Exists.intro _ (And.intro rfl (And.intro ?_ (Exists.intro _ (And.intro rfl (And.intro ?_ (Exists.intro _ (And.intro rfl (And.intro ?_ ⟨rfl, rfl⟩))))))))
  · show vp_in (nI j) (M.2.1 1).length
    rw [l1]; exact vp_nI (by omega) (by decide)
  · show vp_in (nI j) (M.2.1 1).length
    rw [l1]; exact vp_nI (by omega) (by decide)
  · show vp_in (nI j) (M.2.1 2).length
    rw [l2]; exact vp_nI (by omega) (by decide)
def tdG (M : MS) (ns : Nat) (s what : Int32) : Int32 := if tP ns s then (if what = 0 then (M.2.1 1).getD s.toNatClampNeg 0 else if what = 1 then (M.2.1 2).getD s.toNatClampNeg 0 else if what = 2 then bI ((M.2.1 1).getD s.toNatClampNeg 0 = 5) else -7) else -5
set_option maxRecDepth 100000 in
theorem g_told (h : MInv M nt ns nk) (s what : Int32) : Ans l 2 X sgX8_told [.ref 27, .int s, .int what] (mk S M) (tdG M ns s what) := by
  obtain ⟨h0, h5⟩ := h.2.2.2.1
  obtain ⟨l1, l2, -⟩ := h.1
  refine Ctr.of okX8_told rfl (Nat.le_of_ble_eq_true rfl) (run_sound okX8_told noCut 100 ?_)
  refine kH (g_S h s) (by decide) (brB' (fun q => ⟨rfl, some_int (if_neg q).symm⟩) (fun q => ?_))
  have e : tdG M ns s what = if what = 0 then (M.2.1 1).getD s.toNatClampNeg 0 else if what = 1 then (M.2.1 2).getD s.toNatClampNeg 0 else if what = 2 then bI ((M.2.1 1).getD s.toNatClampNeg 0 = 5) else -7 := if_pos q
  rw [e]
  obtain ⟨j, hj, rfl⟩ := inN (by omega) q
  have v1 : vp_in (nI j) (M.2.1 1).length := by rw [l1]; exact vp_nI (by omega) (by decide)
  have v2 : vp_in (nI j) (M.2.1 2).length := by rw [l2]; exact vp_nI (by omega) (by decide)
  refine And.intro (fun hd => ⟨rfl, some_int ?_⟩) (And.intro (fun hw => ?_) (And.intro (fun hw => ?_) (And.intro (fun hw => ?_) trivial)))
  · have no : ∀ k : Int32, 0 ≤ k.toInt → k.toInt ≤ 2 → ¬ what = k := fun k h1 h2 z => by subst z; omega
    rw [if_neg (no 0 (by decide) (by decide)), if_neg (no 1 (by decide) (by decide)), if_neg (no 2 (by decide) (by decide))]
    rfl
  · subst hw
    exact Exists.intro _ (And.intro rfl (And.intro v1 ⟨rfl, rfl⟩))
  · subst hw
    exact Exists.intro _ (And.intro rfl (And.intro v2 ⟨rfl, rfl⟩))
  · subst hw
    exact Exists.intro _ (And.intro rfl (And.intro v1 (br (fun z => ⟨rfl, some_int (bIe1 z)⟩) (fun z => ⟨rfl, some_int (bIe0 z)⟩))))
def syM (M : MS) (nk : Nat) (s t u : Int32) : MS := mN (mR M 4 ((((M.2.1 4).set (3 * nk) s).set (3 * nk + 1) t).set (3 * nk + 2) u)) 3 (nI (nk + 1))
def syG (M : MS) (nt ns nk : Nat) (s t u : Int32) : MS × Int32 := if tP ns s ∧ tP nt t then (if p1P u then (if nk = 12 then (M, -4) else (syM M nk s t u, nI nk)) else (M, -7)) else (M, -5)
set_option maxRecDepth 100000 in
set_option maxHeartbeats 1000000 in
theorem g_say (h : MInv M nt ns nk) (s t u : Int32) : Ctr l 2 X sgX8_say [.ref 27, .int s, .int t, .int u] (mk S M) (rsQ S (syG M nt ns nk s t u)) := by
  obtain ⟨h3, h12⟩ := h.2.2.2.2.1
  have l4 := h.1.2.2.1
  refine Ctr.of okX8_say rfl (Nat.le_of_ble_eq_true rfl) (run_sound okX8_say noCut 100 ?_)
  refine kH (g_S h s) (by decide) (brB' (fun q => rs_i (if_neg (fun z => q z.1)) rfl) (fun q => kH (g_T h t) (by decide) (brB' (fun q2 => rs_i (if_neg (fun z => q2 z.2)) rfl) (fun q2 => kH (m_in _ _ _) (by decide) (brB' (fun q3 => rs_i ((if_pos ⟨q, q2⟩).trans (if_neg q3)) rfl) (fun q3 => ?_))))))
  rw [show syG M nt ns nk s t u = if nk = 12 then (M, -4) else (syM M nk s t u, nI nk) from (if_pos ⟨q, q2⟩).trans (if_pos q3)]
  by_cases e : nk = 12
  · refine brT ?_ (rs_i (if_pos e) rfl)
    show M.1 3 = 12
    rw [h3, e]; rfl
  · have i0 : Int32.ofInt 3 * M.1 3 = nI (3 * nk) := by rw [h3]; exact nI_mul 3 nk
    have i1 : Int32.ofInt 3 * M.1 3 + Int32.ofInt 1 = nI (3 * nk + 1) := by rw [i0]; exact nI_1 _
    have i2 : Int32.ofInt 3 * M.1 3 + Int32.ofInt 2 = nI (3 * nk + 2) := by rw [i0]; exact nI_add _ 2
    refine brF ?_ (Exists.intro _ (And.intro rfl (And.intro ?_ (Exists.intro _ (And.intro rfl (And.intro ?_ (Exists.intro _ (And.intro rfl (And.intro ?_ (And.intro rfl (And.intro trivial ?_)))))))))))
    · show ¬ M.1 3 = 12
      rw [h3]
      intro z
      exact e ((nI_eq (b := 12) (by omega) (by decide)).mp z)
    · show vp_in (Int32.ofInt 3 * M.1 3) (M.2.1 4).length
      rw [i0, l4]; exact vp_nI (by omega) (by decide)
    · show vp_in (Int32.ofInt 3 * M.1 3 + Int32.ofInt 1) ((M.2.1 4).set (Int32.ofInt 3 * M.1 3).toNatClampNeg s).length
      rw [i1, List.length_set, l4]; exact vp_nI (by omega) (by decide)
    · show vp_in (Int32.ofInt 3 * M.1 3 + Int32.ofInt 2) (((M.2.1 4).set (Int32.ofInt 3 * M.1 3).toNatClampNeg s).set (Int32.ofInt 3 * M.1 3 + Int32.ofInt 1).toNatClampNeg t).length
      rw [i2, List.length_set, List.length_set, l4]; exact vp_nI (by omega) (by decide)
    · rw [if_neg e]
      refine ⟨?_, some_int ?_⟩
      · show mk S (mN (mR M 4 ((((M.2.1 4).set (Int32.ofInt 3 * M.1 3).toNatClampNeg s).set (Int32.ofInt 3 * M.1 3 + Int32.ofInt 1).toNatClampNeg t).set (Int32.ofInt 3 * M.1 3 + Int32.ofInt 2).toNatClampNeg u)) 3 (M.1 3 + 1)) = mk S (syM M nk s t u)
        rw [i1, i2, i0, nI_clamp (by omega), nI_clamp (by omega), nI_clamp (by omega), h3, nI_1]
        rfl
      · show M.1 3 + 1 - Int32.ofInt 1 = nI nk
        rw [h3, nI_1]; exact nI_pred _
def sdG (M : MS) (nk : Nat) (k what : Int32) : Int32 := if tP nk k then (if p2P what then (M.2.1 4).getD (3 * k.toNatClampNeg + what.toNatClampNeg) 0 else -7) else -5
set_option maxRecDepth 100000 in
theorem g_said (h : MInv M nt ns nk) (k what : Int32) : Ans l 2 X sgX8_said [.ref 27, .int k, .int what] (mk S M) (sdG M nk k what) := by
  obtain ⟨h3, h12⟩ := h.2.2.2.2.1
  have hc : Ans l 0 X sgX8_in [.int k, .int 0, .int (M.1 3 - Int32.ofInt 1)] (mk S M) (bI (tP nk k)) := by
    rw [h3]
    exact m_in _ _ _
  refine Ctr.of okX8_said rfl (Nat.le_of_ble_eq_true rfl) (run_sound okX8_said noCut 100 ?_)
  refine kH hc (by decide) (brB' (fun q => ⟨rfl, some_int (if_neg q).symm⟩) (fun q => kH (m_in _ _ _) (by decide) (brB' (fun q2 => ⟨rfl, some_int ((if_pos q).trans (if_neg q2)).symm⟩) (fun q2 => ?_))))
  have e : sdG M nk k what = (M.2.1 4).getD (3 * k.toNatClampNeg + what.toNatClampNeg) 0 := (if_pos q).trans (if_pos q2)
  rw [e]
  obtain ⟨j, hj, rfl⟩ := inN (by omega) q
  obtain ⟨u, hu, rfl⟩ := inC (c := 2) (n := 2) (by decide) (by decide) q2
  have i0 : Int32.ofInt 3 * nI j + nI u = nI (3 * j + u) := by rw [show Int32.ofInt 3 * nI j = nI (3 * j) from nI_mul 3 j, nI_add]
  have ix := ix_tk h hj (show u < 3 by omega)
  refine Exists.intro _ (And.intro rfl (And.intro ?_ ⟨rfl, some_int ?_⟩))
  · show vp_in (Int32.ofInt 3 * nI j + nI u) (M.2.1 4).length
    rw [i0]; exact ix.1
  · show (M.2.1 4).getD (Int32.ofInt 3 * nI j + nI u).toNatClampNeg 0 = _
    rw [i0, ix.2, nI_clamp (by omega), nI_clamp (by omega)]
def fdM (M : MS) (ta : Nat) (f : Nat → Int32) : Nat → List Int32
  | 0 => M.2.1 5
  | j + 1 => (fdM M ta f j).set (ta + j) (f j)
def fdV (a b c d e : Int32) (j : Nat) : Int32 := if nI j = 0 then a else if nI j = 1 then b else if nI j = 2 then c else if nI j = 3 then d else e
theorem fdM_len {ta : Nat} {f : Nat → Int32} : ∀ j, (fdM M ta f j).length = (M.2.1 5).length
  | 0 => rfl
  | j + 1 => by rw [fdM, List.length_set, fdM_len j]
abbrev feQ (n a b c d e : Int32) : Prop := ((1 : Int32) ≤ n ∧ n ≤ 5) ∧ byP a ∧ byP b ∧ byP c ∧ byP d ∧ byP e
def fdG (M : MS) (ta : Nat) (n a b c d e : Int32) : MS × Int32 := if feQ n a b c d e then (if 160 < ta + n.toNatClampNeg then (M, -4) else (mN (mR M 5 (fdM M ta (fdV a b c d e) n.toNatClampNeg)) 6 (nI (ta + n.toNatClampNeg)), nI (ta + n.toNatClampNeg))) else (M, -2)
set_option maxRecDepth 100000 in
set_option maxHeartbeats 1000000 in
theorem g_feed (hM : MLen M) {ta : Nat} (hta : M.1 6 = nI ta) (hta2 : ta ≤ 160) (n a b c d e : Int32) : Ctr l 2 X sgX8_feed [.ref 27, .int n, .int a, .int b, .int c, .int d, .int e] (mk S M) (rsQ S (fdG M ta n a b c d e)) := by
  have l5 : (M.2.1 5).length = 160 := hM.2.2.2.1
  refine Ctr.of okX8_feed rfl (Nat.le_of_ble_eq_true rfl) (run_sound okX8_feed cNf 200 ?_)
  refine kH (m_in _ _ _) (by decide) (brB' (fun q => rs_i (if_neg (fun z => q z.1)) rfl) (fun q => ?_))
  refine kH (m_isByte _) (by decide) (brB' (fun q => rs_i (if_neg (fun z => q z.2.1)) rfl) (fun qa => ?_))
  refine kH (m_isByte _) (by decide) (brB' (fun q => rs_i (if_neg (fun z => q z.2.2.1)) rfl) (fun qb => ?_))
  refine kH (m_isByte _) (by decide) (brB' (fun q => rs_i (if_neg (fun z => q z.2.2.2.1)) rfl) (fun qc => ?_))
  refine kH (m_isByte _) (by decide) (brB' (fun q => rs_i (if_neg (fun z => q z.2.2.2.2.1)) rfl) (fun qd => ?_))
  refine kH (m_isByte _) (by decide) (brB' (fun q => rs_i (if_neg (fun z => q z.2.2.2.2.2)) rfl) (fun qe => ?_))
  have yes : feQ n a b c d e := ⟨q, qa, qb, qc, qd, qe⟩
  rw [show fdG M ta n a b c d e = if 160 < ta + n.toNatClampNeg then (M, -4) else (mN (mR M 5 (fdM M ta (fdV a b c d e) n.toNatClampNeg)) 6 (nI (ta + n.toNatClampNeg)), nI (ta + n.toNatClampNeg)) from if_pos yes]
  obtain ⟨m, hm, rfl⟩ : ∃ m : Nat, m ≤ 5 ∧ n = nI m := inC (c := 5) (by decide) (by decide) ⟨Int32.le_trans (by decide) q.1, q.2⟩
  rw [nI_clamp (show m < 2 ^ 31 by omega)]
  have es : M.1 6 + nI m = nI (ta + m) := by rw [hta, nI_add]
  by_cases hf : 160 < ta + m
  · refine brF ?_ (rs_i (if_pos hf) rfl)
    show ¬ M.1 6 + nI m ≤ Int32.ofInt 160
    rw [es]
    exact nI_ge (a := 160) hf (by omega)
  · refine brT ?_ ?_
    · show M.1 6 + nI m ≤ Int32.ofInt 160
      rw [es]
      exact nI_le (b := 160) (by omega) (by decide)
    rw [if_neg hf]
    have key : ∀ j, j ≤ m → WP l (rmD 2 0 0) X sgX8_feed kX8_feed (rsQ S (mN (mR M 5 (fdM M ta (fdV a b c d e) m)) 6 (nI (ta + m)), nI (ta + m))) 32 [some (.ref 27), some (.int (nI m)), some (.int a), some (.int b), some (.int c), some (.int d), some (.int e), some (.int (nI j))] [] (mk S (mN (mR M 5 (fdM M ta (fdV a b c d e) j)) 6 (nI (ta + j)))) 0 0 := by
      refine down ?_ (fun j hj ih => ?_)
      · exact run_sound okX8_feed cNf 200 (brT (Int32.le_refl _) ⟨rfl, rfl⟩)
      · have t59 : ∀ x, x = fdV a b c d e j → WP l (rmD 2 0 0) X sgX8_feed kX8_feed (rsQ S (mN (mR M 5 (fdM M ta (fdV a b c d e) m)) 6 (nI (ta + m)), nI (ta + m))) 59 [some (.ref 27), some (.int (nI m)), some (.int a), some (.int b), some (.int c), some (.int d), some (.int e), some (.int (nI j))] [.int x, .int (nI (ta + j)), .ref 31] (mk S (mN (mR M 5 (fdM M ta (fdV a b c d e) j)) 6 (nI (ta + j)))) 0 0 := by
          intro x hx
          refine run_sound okX8_feed cNf 200 (Exists.intro _ (And.intro rfl (And.intro ?_ (And.intro rfl (And.intro trivial ?_)))))
          · show vp_in (nI (ta + j)) (fdM M ta (fdV a b c d e) j).length
            rw [fdM_len, l5]; exact vp_nI (by omega) (by decide)
          · have e1 : (fdM M ta (fdV a b c d e) j).set (nI (ta + j)).toNatClampNeg x = fdM M ta (fdV a b c d e) (j + 1) := by rw [nI_clamp (by omega), hx]; rfl
            rw [← e1, show ta + (j + 1) = (ta + j) + 1 by omega, ← nI_1 j, ← nI_1 (ta + j)] at ih
            exact ih
        refine run_sound okX8_feed cNf 200 (brF (ge_no (n := m) rfl hj (by omega)) (br (fun z => t59 _ (if_pos z).symm) (fun z => br (fun z1 => t59 _ ((if_neg z).trans (if_pos z1)).symm) (fun z1 => br (fun z2 => t59 _ ((if_neg z).trans ((if_neg z1).trans (if_pos z2))).symm) (fun z2 => br (fun z3 => t59 _ ((if_neg z).trans ((if_neg z1).trans ((if_neg z2).trans (if_pos z3)))).symm) (fun z3 => t59 _ ((if_neg z).trans ((if_neg z1).trans ((if_neg z2).trans (if_neg z3)))).symm))))))
    have q := key 0 (Nat.zero_le _)
    have e0 : mk S (mN (mR M 5 (fdM M ta (fdV a b c d e) 0)) 6 (nI (ta + 0))) = mk S M := by
      show mk S (mN (mR M 5 (M.2.1 5)) 6 (nI ta)) = mk S M
      rw [← hta]
      rfl
    rw [e0] at q
    exact q
end MTALK
