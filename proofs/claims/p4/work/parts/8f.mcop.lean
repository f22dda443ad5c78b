/-! THE REFERENCE in general: drawn, mean, copies -/
section MCOP
variable {l : Launch} {X : List (List Int32)} {S : CS} {M : MS} {hp : AH} {nt ns nk : Nat}
def drG (M : MS) (nt ns nk : Nat) (seed : Int32) : Int32 := if (0 : Int32) ≤ seed ∧ seed ≤ 99999 then (if woT M nk = 0 then -1 else nI (agA M nt ns nk (woT M nk) seed)) else -2
set_option maxRecDepth 100000 in
theorem g_drawn (h : MInv M nt ns nk) (seed : Int32) : Ctr l 6 X sgX8_drawn [.ref 27, .int seed] (mk S M) (zA S M (.int (drG M nt ns nk seed))) := by
  refine Ctr.of okX8_drawn rfl (Nat.le_of_ble_eq_true rfl) (run_sound okX8_drawn noCut 200 ?_)
  refine kH (m_in _ _ _) (by decide) (brB' (fun q => zI h.1 (if_neg q).symm) (fun q => ⟨5, _, by decide, g_worldsNow h, ?_⟩))
  have e : drG M nt ns nk seed = if woT M nk = 0 then -1 else nI (agA M nt ns nk (woT M nk) seed) := if_pos q
  rw [e]
  rintro hp' w ⟨⟨z, hz, hzm, rfl⟩, rfl⟩
  refine brC (fun y => ⟨⟨z, hz, rfl⟩, some_int (if_pos y).symm⟩) (fun y => ?_)
  rw [if_neg (show ¬ woT M nk = 0 from y)]
  refine ⟨4, _, by decide, g_asksBy h hz hzm (cnt_ne (woT_lo nk) y) seed, ?_⟩
  rintro hp' w ⟨⟨z', hz', hzm', rfl⟩, rfl⟩
  exact ⟨⟨z', hz', rfl⟩, rfl⟩
/-- what so many strangers ask in all -/
def meS (M : MS) (nt ns nk : Nat) (seed : Int32) : Nat → Nat
  | 0 => 0
  | k + 1 => meS M nt ns nk seed k + agA M nt ns nk (woT M nk) (seed + nI k)
theorem meS_le (seed : Int32) : ∀ k, meS M nt ns nk seed k ≤ 6 * k
  | 0 => Nat.le_refl _
  | k + 1 => by
    have h1 := meS_le seed k
    have h2 : agA M nt ns nk (woT M nk) (seed + nI k) ≤ 0 + 6 := agF_le _ 6 0 _ _
    rw [meS]
    omega
theorem nI_64 {n : Nat} (h : n < 2 ^ 31) : (nI n).toInt64 = Int64.ofNat n := by
  apply Int64.toInt_inj.mp
  rw [Int32.toInt_toInt64, nI_toInt h, Int64.toInt_ofNat_of_lt (by omega)]
def meG2 (M : MS) (nt ns nk : Nat) (seed seeds part : Int32) : Int64 := if ((0 : Int32) ≤ seed ∧ seed ≤ 99999) ∧ ((1 : Int32) ≤ seeds ∧ seeds ≤ 10) ∧ p1P part then (if woT M nk = 0 then NOL else loG (Int64.ofNat (meS M nt ns nk seed seeds.toNatClampNeg)) (Int64.ofNat seeds.toNatClampNeg) part) else NOL
set_option maxRecDepth 100000 in
set_option maxHeartbeats 1000000 in
theorem g_mean (h : MInv M nt ns nk) (seed seeds part : Int32) : Ctr l 6 X sgX8_mean [.ref 27, .int seed, .int seeds, .int part] (mk S M) (zA S M (.long (meG2 M nt ns nk seed seeds part))) := by
  refine Ctr.of okX8_mean rfl (Nat.le_of_ble_eq_true rfl) (run_sound okX8_mean (fun i => Nat.beq i 30) 200 ?_)
  refine kH (m_in _ _ _) (by decide) (brB' (fun q => ⟨rfl, zJ h.1 (if_neg (fun z => q z.1)).symm⟩) (fun q => kH (m_in _ _ _) (by decide) (brB' (fun q2 => ⟨rfl, zJ h.1 (if_neg (fun z => q2 z.2.1)).symm⟩) (fun q2 => kH (m_in _ _ _) (by decide) (brB' (fun q3 => ⟨rfl, zJ h.1 (if_neg (fun z => q3 z.2.2)).symm⟩) (fun q3 => ⟨5, _, by decide, g_worldsNow h, ?_⟩))))))
  have e : meG2 M nt ns nk seed seeds part = if woT M nk = 0 then NOL else loG (Int64.ofNat (meS M nt ns nk seed seeds.toNatClampNeg)) (Int64.ofNat seeds.toNatClampNeg) part := if_pos ⟨q, q2, q3⟩
  rw [e]
  rintro hp' w ⟨⟨z, hz, hzm, rfl⟩, rfl⟩
  refine brC (fun y => ⟨rfl, ⟨z, hz, rfl⟩, some_long (if_pos y).symm⟩) (fun y => ?_)
  rw [if_neg (show ¬ woT M nk = 0 from y)]
  obtain ⟨n, hn, rfl⟩ := in110 q2
  rw [nI_clamp (show n < 2 ^ 31 by omega)]
  have hne := cnt_ne (woT_lo (M := M) nk) y
  have key : ∀ k, k ≤ n → ∀ (z : SZ), ScOk z → Mt (sc M z) nt → WP l (rmD 6 0 0) X sgX8_mean kX8_mean (zA S M (.long (loG (Int64.ofNat (meS M nt ns nk seed n)) (Int64.ofNat n) part))) 30 [some (.ref 27), some (.int seed), some (.int (nI n)), some (.int part), some (.long (woT M nk)), none, some (.long (Int64.ofNat (meS M nt ns nk seed k))), none, some (.int (nI k))] [] (mk S (sc M z)) 0 0 := by
    refine down (fun z hz hzm => ?_) (fun k hk ih z hz hzm => ?_)
    · have hle := meS_le (M := M) (nt := nt) (ns := ns) (nk := nk) seed n
      have lo := lo_ok (a := meS M nt ns nk seed n) (b := n) (by omega) (by omega)
      have hc : AnsL l 0 X sgX8_lowest [.long (Int64.ofNat (meS M nt ns nk seed n)), .long (nI n).toInt64, .int part] (mk S (sc M z)) (loG (Int64.ofNat (meS M nt ns nk seed n)) (Int64.ofNat n) part) := by
        rw [nI_64 (by omega)]
        exact m_lowest _ _ _ lo.1 lo.2
      exact run_sound okX8_mean (fun i => Nat.beq i 30) 200 (brT (Int32.le_refl _) (kH hc (by decide) ⟨rfl, ⟨z, hz, rfl⟩, rfl⟩))
    · have hag : agA M nt ns nk (woT M nk) (seed + nI k) ≤ 0 + 6 := agF_le _ 6 0 _ _
      refine run_sound okX8_mean (fun i => Nat.beq i 30) 200 (brF (nI_ge hk (by omega)) ⟨4, _, by decide, g_asksBy h hz hzm hne (seed + nI k), ?_⟩)
      rintro hp' w ⟨⟨z', hz', hzm', rfl⟩, rfl⟩
      have ih := ih z' hz' hzm'
      rw [show meS M nt ns nk seed (k + 1) = meS M nt ns nk seed k + agA M nt ns nk (woT M nk) (seed + nI k) from rfl, ← oN_add, ← nI_64 (show agA M nt ns nk (woT M nk) (seed + nI k) < 2 ^ 31 by omega), ← nI_1 k] at ih
      exact ih
  exact key 0 (Nat.zero_le _) z hz hzm
def coX (a b n k : Nat) : Nat := if a < b then n - 1 - k else k
def coC (xs : List Int32) (a b n : Nat) : Nat → List Int32
  | 0 => xs
  | k + 1 => (coC xs a b n k).set (b + coX a b n k) ((coC xs a b n k).getD (a + coX a b n k) 0)
theorem coC_len {xs : List Int32} {a b n : Nat} : ∀ k, (coC xs a b n k).length = xs.length
  | 0 => rfl
  | k + 1 => by rw [coC, List.length_set, coC_len k]
abbrev coP (M : MS) (s i o j n : Int32) : Prop := ¬ n < 0 ∧ ¬ i < 0 ∧ ¬ j < 0 ∧ i ≤ (M.2.1 18).getD s.toNatClampNeg 0 ∧ j ≤ (M.2.1 18).getD o.toNatClampNeg 0 ∧ n ≤ (M.2.1 18).getD s.toNatClampNeg 0 - i ∧ n ≤ (M.2.1 18).getD o.toNatClampNeg 0 - j
def coG (M : MS) (s i o j n : Int32) : MS × Int32 := if p3P s ∧ p3P o then (if (M.2.1 17).getD s.toNatClampNeg 0 = -1 ∨ (M.2.1 17).getD o.toNatClampNeg 0 = -1 then (M, -11) else if (M.2.1 17).getD s.toNatClampNeg 0 = (M.2.1 17).getD o.toNatClampNeg 0 then
    (if coP M s i o j n then (mR M 19 (coC (M.2.1 19) (40 * s.toNatClampNeg + i.toNatClampNeg) (40 * o.toNatClampNeg + j.toNatClampNeg) n.toNatClampNeg n.toNatClampNeg), n) else (M, -12)) else (M, -13)) else (M, -2)
theorem nonneg_n {i c : Int32} {z : Nat} (h0 : ¬ i < 0) (h1 : i ≤ c) (hc : c = nI z) (hz : z < 2 ^ 31) : ∃ k : Nat, k ≤ z ∧ i = nI k := by
  subst hc
  have g0 := Int32.le_iff_toInt_le.mp (Int32.not_lt.mp h0)
  have g1 := Int32.le_iff_toInt_le.mp h1
  have e0 : (0 : Int32).toInt = 0 := by decide
  rw [nI_toInt hz] at g1
  refine ⟨i.toInt.toNat, by omega, Int32.toInt_inj.mp ?_⟩
  rw [nI_toInt (by omega)]
  omega
def cNco (i : Nat) : Bool := Nat.beq i 24 || Nat.beq i 71 || Nat.beq i 87 || Nat.beq i 100
set_option maxRecDepth 100000 in
set_option maxHeartbeats 2000000 in
theorem g_copy (hM : MLen M) (hs : ShOk M) (s i o j n : Int32) : Ctr l 2 X sgX8_copy [.ref 27, .int s, .int i, .int o, .int j, .int n] (mk S M) (rsQ S (coG M s i o j n)) := by
  have l17 : (M.2.1 17).length = 4 := hM.2.2.2.2.2.2.2.2.1
  have l18 : (M.2.1 18).length = 4 := hM.2.2.2.2.2.2.2.2.2.1
  have l19 : (M.2.1 19).length = 160 := hM.2.2.2.2.2.2.2.2.2.2.1
  refine Ctr.of okX8_copy rfl (Nat.le_of_ble_eq_true rfl) (run_sound okX8_copy cNco 300 ?_)
  refine kH (m_in _ _ _) (by decide) (brB' (fun q => rs_i (if_neg (fun z => q z.1)) rfl) (fun q => kH (m_in _ _ _) (by decide) (brB' (fun q2 => rs_i (if_neg (fun z => q2 z.2)) rfl) (fun q2 => ?_))))
  have e : coG M s i o j n = if (M.2.1 17).getD s.toNatClampNeg 0 = -1 ∨ (M.2.1 17).getD o.toNatClampNeg 0 = -1 then (M, -11) else if (M.2.1 17).getD s.toNatClampNeg 0 = (M.2.1 17).getD o.toNatClampNeg 0 then
    (if coP M s i o j n then (mR M 19 (coC (M.2.1 19) (40 * s.toNatClampNeg + i.toNatClampNeg) (40 * o.toNatClampNeg + j.toNatClampNeg) n.toNatClampNeg n.toNatClampNeg), n) else (M, -12)) else (M, -13) := if_pos ⟨q, q2⟩
  have v : ∀ {s : Int32}, p3P s → ∀ xs : List Int32, xs.length = 4 → vp_in s xs.length := fun {s} q xs e => by
    obtain ⟨a, ha, rfl⟩ := in03n q
    rw [e]; exact vp_nI ha (by decide)
  have t24 : ((M.2.1 17).getD s.toNatClampNeg 0 = -1 ∨ (M.2.1 17).getD o.toNatClampNeg 0 = -1) → WP l (rmD 2 0 0) X sgX8_copy kX8_copy (rsQ S (coG M s i o j n)) 24 [some (.ref 27), some (.int s), some (.int i), some (.int o), some (.int j), some (.int n), none, none, none, none] [] (mk S M) 0 0 := fun y =>
    run_sound okX8_copy noCut 100 (rs_i (e.trans (if_pos y)) rfl)
  refine Exists.intro _ (And.intro rfl (And.intro (v q _ l17) (br (fun p => t24 (Or.inl p)) (fun p => Exists.intro _ (And.intro rfl (And.intro (v q2 _ l17) (br (fun p2 => t24 (Or.inr p2)) (fun p2 => Exists.intro _ (And.intro rfl (And.intro (v q _ l17) (Exists.intro _ (And.intro rfl (And.intro (v q2 _ l17) (br (fun p3 => ?_) (fun p3 => rs_i (e.trans ((if_neg (fun y => y.elim p p2)).trans (if_neg p3))) rfl)))))))))))))))
  have e : coG M s i o j n = if coP M s i o j n then (mR M 19 (coC (M.2.1 19) (40 * s.toNatClampNeg + i.toNatClampNeg) (40 * o.toNatClampNeg + j.toNatClampNeg) n.toNatClampNeg n.toNatClampNeg), n) else (M, -12) := e.trans ((if_neg (fun y => y.elim p p2)).trans (if_pos p3))
  have t71 : ¬ coP M s i o j n → WP l (rmD 2 0 0) X sgX8_copy kX8_copy (rsQ S (coG M s i o j n)) 71 [some (.ref 27), some (.int s), some (.int i), some (.int o), some (.int j), some (.int n), none, none, none, none] [] (mk S M) 0 0 := fun y =>
    run_sound okX8_copy noCut 100 (rs_i (e.trans (if_neg y)) rfl)
  refine br (fun y => t71 (fun c => c.1 y)) (fun y1 => br (fun y => t71 (fun c => c.2.1 y)) (fun y2 => br (fun y => t71 (fun c => c.2.2.1 y)) (fun y3 => ?_)))
  refine Exists.intro _ (And.intro rfl (And.intro (v q _ l18) (br (fun y => t71 (fun c => absurd y (Int32.not_lt.mpr c.2.2.2.1))) (fun y4 => Exists.intro _ (And.intro rfl (And.intro (v q2 _ l18) (br (fun y => t71 (fun c => absurd y (Int32.not_lt.mpr c.2.2.2.2.1))) (fun y5 => ?_))))))))
  refine Exists.intro _ (And.intro rfl (And.intro (v q _ l18) (br (fun y => t71 (fun c => absurd y (Int32.not_lt.mpr c.2.2.2.2.2.1))) (fun y6 => Exists.intro _ (And.intro rfl (And.intro (v q2 _ l18) (br (fun y7 => ?_) (fun y => t71 (fun c => y c.2.2.2.2.2.2)))))))))
  have hc : coP M s i o j n := ⟨y1, y2, y3, Int32.not_lt.mp y4, Int32.not_lt.mp y5, Int32.not_lt.mp y6, y7⟩
  have e : coG M s i o j n = (mR M 19 (coC (M.2.1 19) (40 * s.toNatClampNeg + i.toNatClampNeg) (40 * o.toNatClampNeg + j.toNatClampNeg) n.toNatClampNeg n.toNatClampNeg), n) := e.trans (if_pos hc)
  rw [e]
  obtain ⟨hn0, hi0, hj0, hi, hj, hns, hno⟩ := hc
  obtain ⟨a, ha, rfl⟩ := in03n q
  obtain ⟨b, hb, rfl⟩ := in03n q2
  rw [nI_clamp (show a < 2 ^ 31 by omega)] at hi hns
  rw [nI_clamp (show b < 2 ^ 31 by omega)] at hj hno
  rw [nI_clamp (show a < 2 ^ 31 by omega), nI_clamp (show b < 2 ^ 31 by omega)]
  obtain ⟨-, zs, hzs, esz⟩ := hs a ha
  obtain ⟨-, zo, hzo, eoz⟩ := hs b hb
  obtain ⟨i', hi', rfl⟩ := nonneg_n hi0 hi esz (by omega)
  obtain ⟨j', hj', rfl⟩ := nonneg_n hj0 hj eoz (by omega)
  obtain ⟨m, hm, rfl⟩ := nonneg_n hn0 hns (by rw [esz]; exact nI_sub hi') (by omega)
  have hm2 : m ≤ zo - j' := by
    rw [eoz, nI_sub hj'] at hno
    exact (nI_leI (by omega) (by omega)).mp hno
  rw [nI_clamp (show i' < 2 ^ 31 by omega), nI_clamp (show j' < 2 ^ 31 by omega), nI_clamp (show m < 2 ^ 31 by omega)]
  have ea : Int32.ofInt 40 * nI a + nI i' = nI (40 * a + i') := by rw [show Int32.ofInt 40 * nI a = nI (40 * a) from nI_mul 40 a, nI_add]
  have eb : Int32.ofInt 40 * nI b + nI j' = nI (40 * b + j') := by rw [show Int32.ofInt 40 * nI b = nI (40 * b) from nI_mul 40 b, nI_add]
  have key : ∀ k, k ≤ m → ∀ x9, WP l (rmD 2 0 0) X sgX8_copy kX8_copy (rsQ S (mR M 19 (coC (M.2.1 19) (40 * a + i') (40 * b + j') m m), nI m)) 87 [some (.ref 27), some (.int (nI a)), some (.int (nI i')), some (.int (nI b)), some (.int (nI j')), some (.int (nI m)), some (.int (nI (40 * a + i'))), some (.int (nI (40 * b + j'))), some (.int (nI k)), x9] [] (mk S (mR M 19 (coC (M.2.1 19) (40 * a + i') (40 * b + j') m k))) 0 0 := by
    refine down (fun x9 => ?_) (fun k hk ih x9 => ?_)
    · exact run_sound okX8_copy cNco 300 (brT (Int32.le_refl _) ⟨rfl, rfl⟩)
    · have hx : coX (40 * a + i') (40 * b + j') m k < m := by unfold coX; split <;> omega
      have t100 : ∀ x : Int32, x = nI (coX (40 * a + i') (40 * b + j') m k) → WP l (rmD 2 0 0) X sgX8_copy kX8_copy (rsQ S (mR M 19 (coC (M.2.1 19) (40 * a + i') (40 * b + j') m m), nI m)) 100 [some (.ref 27), some (.int (nI a)), some (.int (nI i')), some (.int (nI b)), some (.int (nI j')), some (.int (nI m)), some (.int (nI (40 * a + i'))), some (.int (nI (40 * b + j'))), some (.int (nI k)), x9] [.int x] (mk S (mR M 19 (coC (M.2.1 19) (40 * a + i') (40 * b + j') m k))) 0 0 := by
        intro x hxx
        have c1 : nI (40 * a + i') + x = nI (40 * a + i' + coX (40 * a + i') (40 * b + j') m k) := by rw [hxx, nI_add]
        have c2 : nI (40 * b + j') + x = nI (40 * b + j' + coX (40 * a + i') (40 * b + j') m k) := by rw [hxx, nI_add]
        have e1 : coC (M.2.1 19) (40 * a + i') (40 * b + j') m (k + 1) = (coC (M.2.1 19) (40 * a + i') (40 * b + j') m k).set (nI (40 * b + j') + x).toNatClampNeg ((coC (M.2.1 19) (40 * a + i') (40 * b + j') m k).getD (nI (40 * a + i') + x).toNatClampNeg 0) := by
          rw [c1, c2, nI_clamp (by omega), nI_clamp (by omega)]
          rfl
        have ih := ih (some (.int x))
        rw [e1, ← nI_1 k] at ih
        refine run_sound okX8_copy (fun i => Nat.beq i 87) 300 (Exists.intro _ (And.intro rfl (And.intro ?_ (Exists.intro _ (And.intro rfl (And.intro ?_ ih))))))
        · show vp_in (nI (40 * a + i') + x) (coC (M.2.1 19) (40 * a + i') (40 * b + j') m k).length
          rw [c1, coC_len, l19]; exact vp_nI (by omega) (by decide)
        · show vp_in (nI (40 * b + j') + x) (coC (M.2.1 19) (40 * a + i') (40 * b + j') m k).length
          rw [c2, coC_len, l19]; exact vp_nI (by omega) (by decide)
      refine run_sound okX8_copy cNco 300 (brF (nI_ge hk (by omega)) (br (fun y => t100 _ ?_) (fun y => t100 _ ?_)))
      · have y := (nI_leI (by omega) (by omega)).mp y
        unfold coX
        rw [if_neg (by omega)]
      · have y : 40 * a + i' < 40 * b + j' := Nat.lt_of_not_le (fun z => y ((nI_leI (by omega) (by omega)).mpr z))
        unfold coX
        rw [if_pos y]
        show nI m - Int32.ofInt 1 - nI k = nI (m - 1 - k)
        rw [nI_m1 (by omega), nI_sub (by omega)]
  have k0 := key 0 (Nat.zero_le _) none
  rw [← ea, ← eb] at k0
  exact k0
end MCOP
