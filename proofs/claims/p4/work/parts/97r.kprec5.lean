/-! THE CLASS in general, precisely: copies, sayings by a sheet -/
section KPREC5
variable {l : Launch} {X : List (List Int32)} {S : CS} {T : AH} {hp : AH} {nt ns nk ta : Nat}
/-- a state of some kind and an answer -/
abbrev keQ (T : AH) (P : CS → Prop) (v : Int32) : AH → Option Value → Prop := fun h w => (∃ S', P S' ∧ h = encC S' ++ T) ∧ w = some (.int v)
theorem ke {P : CS → Prop} {S' : CS} {v w : Int32} (h : P S') (e : v = w) : keQ T P w (encC S' ++ T) (some (.int v)) := ⟨⟨S', h, rfl⟩, some_int e⟩
/-- the sizes of the sheets -/
def SzC (S : CS) : Prop := ∀ s, s < 4 → ∃ z : Nat, z ≤ 40 ∧ (S.2 23).getD s 0 = nI z
abbrev cobP (S : CS) (s o : Int32) : Prop := kxP 4 s ∧ kxP 4 o
abbrev comP (S : CS) (s o : Int32) : Prop := atF (S.2 22) s = -1 ∨ atF (S.2 22) o = -1
abbrev coiP (S : CS) (s i o j n : Int32) : Prop := hrP S s i n ∧ hrP S o j n
def kcoA (S : CS) (s i o j n : Int32) : Int32 := if cobP S s o then (if comP S s o then -11 else if atF (S.2 22) s = atF (S.2 22) o then (if coiP S s i o j n then n else -12) else -13) else -2
abbrev coyP (S : CS) (s i o j n : Int32) : Prop := cobP S s o ∧ ¬ comP S s o ∧ atF (S.2 22) s = atF (S.2 22) o ∧ coiP S s i o j n
def kcoP (S : CS) (s i o j n : Int32) (S' : CS) : Prop := (coyP S s i o j n → ∃ r25, r25.length = 40 ∧ S' = kcoS S r25 (cpC (S.2 24) (S.2 24) (40 * s.toNatClampNeg + i.toNatClampNeg) (40 * o.toNatClampNeg + j.toNatClampNeg) n.toNatClampNeg)) ∧ (¬ coyP S s i o j n → S' = S)
theorem hr_nat {s i n : Int32} {a z : Nat} (hz : z ≤ 40) (e : atF (S.2 23) s = nI z) (h : hrP S s i n) : ∃ i' n' : Nat, i = nI i' ∧ n = nI n' ∧ i' + n' ≤ z := by
  obtain ⟨h1, h2, h3, h4⟩ := h
  rw [e] at h3 h4
  have g1 := Int32.le_iff_toInt_le.mp (Int32.not_lt.mp h1)
  have g2 := Int32.le_iff_toInt_le.mp (Int32.not_lt.mp h2)
  have g3 := Int32.le_iff_toInt_le.mp h3
  have g4 := Int32.le_iff_toInt_le.mp h4
  have e0 : (0 : Int32).toInt = 0 := by decide
  rw [nI_toInt (by omega)] at g3
  have e5 : (nI z - n).toInt = z - n.toInt := by
    rw [Int32.toInt_sub, nI_toInt (by omega)]
    apply Int.bmod_eq_of_le <;> omega
  rw [e5] at g4
  refine ⟨i.toInt.toNat, n.toInt.toNat, Int32.toInt_inj.mp ?_, Int32.toInt_inj.mp ?_, by omega⟩
  · rw [nI_toInt (by omega)]; omega
  · rw [nI_toInt (by omega)]; omega
theorem x4_nat {s : Int32} (h : kxP 4 s) : ∃ a : Nat, a < 4 ∧ s = nI a := in03n (x4_iff.mp h)
set_option maxRecDepth 100000 in
set_option maxHeartbeats 1000000 in
theorem P_copy (hL : CLen S) (l24 : (S.2 24).length = 160) (l25 : (S.2 25).length = 40) (hV : ShC S) (hZ : SzC S) (s i o j n : Int32) : Ctr l 3 X sgX7_copy [.ref 0, .int s, .int i, .int o, .int j, .int n] (encC S ++ T) (keQ T (kcoP S s i o j n) (kcoA S s i o j n)) := by
  refine Ctr.of okX7_copy rfl (Nat.le_of_ble_eq_true rfl) (run_sound okX7_copy (fun i => Nat.beq i 20 || Nat.beq i 49) 200 ?_)
  have same : ¬ coyP S s i o j n → kcoP S s i o j n S := fun h => ⟨fun z => absurd z h, fun _ => rfl⟩
  refine kH (c_isBelow s 4) (by decide) (brB' (fun q => ke (same (fun z => q z.1.1)) (if_neg (fun z => q z.1)).symm) (fun q1 => kH (c_isBelow o 4) (by decide) (brB' (fun q => ke (same (fun z => q z.1.2)) (if_neg (fun z => q z.2)).symm) (fun q2 => ?_))))
  have t20 : comP S s o → WP l (rmD 3 0 0) X sgX7_copy kX7_copy (keQ T (kcoP S s i o j n) (kcoA S s i o j n)) 20 [some (.ref 0), some (.int s), some (.int i), some (.int o), some (.int j), some (.int n)] [] (encC S ++ T) 0 0 := fun h => run_sound okX7_copy noCut 200 (ke (same (fun z => z.2.1 h)) ((if_pos ⟨q1, q2⟩).trans (if_pos h)).symm)
  refine kH (c_isMissing hL s) (by decide) (brB' (fun m1 => kH (c_isMissing hL o) (by decide) (brB' (fun m2 => ?_) (fun m => t20 (Or.inr m)))) (fun m => t20 (Or.inl m)))
  have nm : ¬ comP S s o := fun z => z.elim m1 m2
  refine kH (c_at (xs := S.2 22) rfl (hL.lt 22)) (by decide) (kH (c_at (xs := S.2 22) rfl (hL.lt 22)) (by decide) (br (fun e => ?_) (fun e => ke (same (fun z => e z.2.2.1)) ((if_pos ⟨q1, q2⟩).trans ((if_neg nm).trans (if_neg e))).symm)))
  have t49 : ¬ coiP S s i o j n → WP l (rmD 3 0 0) X sgX7_copy kX7_copy (keQ T (kcoP S s i o j n) (kcoA S s i o j n)) 49 [some (.ref 0), some (.int s), some (.int i), some (.int o), some (.int j), some (.int n)] [] (encC S ++ T) 0 0 := fun h => run_sound okX7_copy noCut 200 (ke (same (fun z => h z.2.2.2)) ((if_pos ⟨q1, q2⟩).trans ((if_neg nm).trans ((if_pos e).trans (if_neg h)))).symm)
  refine kH (c_holdsRun hL s i n) (by decide) (brB' (fun h => t49 (fun z => h z.1)) (fun h1 => kH (c_holdsRun hL o j n) (by decide) (brB' (fun h => t49 (fun z => h z.2)) (fun h2 => ?_))))
  have yes : coyP S s i o j n := ⟨⟨q1, q2⟩, nm, e, h1, h2⟩
  have ev : kcoA S s i o j n = n := (if_pos ⟨q1, q2⟩).trans ((if_neg nm).trans ((if_pos e).trans (if_pos ⟨h1, h2⟩)))
  rw [ev]
  obtain ⟨a, ha, rfl⟩ := x4_nat q1
  obtain ⟨b, hb, rfl⟩ := x4_nat q2
  obtain ⟨z, hz, ez⟩ := hZ a ha
  obtain ⟨y, hy, ey⟩ := hZ b hb
  obtain ⟨i', n', rfl, rfl, hin⟩ := hr_nat (a := a) hz ((atF_n (by omega)).trans ez) h1
  obtain ⟨j', n2, rfl, en, hjn⟩ := hr_nat (a := b) hy ((atF_n (by omega)).trans ey) h2
  have en := nI_inj (by omega) (by omega) en
  subst en
  refine ⟨2, _, by decide, P_move hL l24 l25 hV ha hb (by omega) (by omega) e, ?_⟩
  rintro hp' w ⟨⟨r25, lr, rfl⟩, rfl⟩
  refine ke ⟨fun _ => ⟨r25, lr, ?_⟩, fun z => absurd yes z⟩ rfl
  rw [nI_clamp (by omega), nI_clamp (by omega), nI_clamp (by omega), nI_clamp (by omega), nI_clamp (by omega)]
/-! sayings by a sheet -/
theorem ksyG_len (hL : CLen S) (s t u : Int32) : CLen (ksyG S s t u).1 := by
  unfold ksyG
  split
  · split
    · split
      · exact (hL.row 16 _ (by rw [putF_len, putF_len, putF_len]; exact hL 16)).num 134 _
      · exact hL
    · exact hL
  · exact hL
abbrev rdC (S : CS) (s : Nat) (i : Int32) : Int32 := atF (S.2 24) (nI s * Int32.ofInt 40 + i)
abbrev ksbY (Q : CS) (s : Nat) (i : Int32) : CS × Int32 := ksyG Q (rdC Q s i) (rdC Q s (i + Int32.ofInt 1)) (rdC Q s (i + Int32.ofInt 2))
def ksbF (s : Nat) (fr : Int32) : Nat → Nat → CS → Nat → CS × Int32
  | 0, _, Q, came => (Q, nI came)
  | m + 1, k, Q, came => if hrP Q (nI s) (fr + Int32.ofInt 3 * nI k) 3 then ksbF s fr m (k + 1) (ksbY Q s (fr + Int32.ofInt 3 * nI k)).1 (if (ksbY Q s (fr + Int32.ofInt 3 * nI k)).2 < 0 then came else came + 1) else (Q, -12)
def ksbG (S : CS) (s sort fr n : Int32) : CS × Int32 := if p3P s ∧ p2P sort ∧ ((0 : Int32) ≤ n ∧ n ≤ 12) then (if atF (S.2 22) s = -1 then (S, -11) else if atF (S.2 22) s = sort then ksbF s.toNatClampNeg fr n.toNatClampNeg 0 S 0 else (S, -13)) else (S, -2)
set_option maxRecDepth 100000 in
set_option maxHeartbeats 1000000 in
theorem P_sayingsBy (hL : CLen S) (s sort fr n : Int32) : Ctr l 3 X sgX7_sayingsBy [.ref 0, .int s, .int sort, .int fr, .int n] (encC S ++ T) (kpQ T (ksbG S s sort fr n)) := by
  refine Ctr.of okX7_sayingsBy rfl (Nat.le_of_ble_eq_true rfl) (run_sound okX7_sayingsBy cNsy 200 ?_)
  have no : ¬ (p3P s ∧ p2P sort ∧ ((0 : Int32) ≤ n ∧ n ≤ 12)) → kpQ T (ksbG S s sort fr n) (encC S ++ T) (some (.int (-2))) := fun h => kp (if_neg h)
  have t9 : ¬ (p3P s ∧ p2P sort ∧ ((0 : Int32) ≤ n ∧ n ≤ 12)) → WP l (rmD 3 0 0) X sgX7_sayingsBy kX7_sayingsBy (kpQ T (ksbG S s sort fr n)) 9 [some (.ref 0), some (.int s), some (.int sort), some (.int fr), some (.int n), none, none, none] [] (encC S ++ T) 0 0 := fun h => run_sound okX7_sayingsBy noCut 200 (no h)
  have t16 : ¬ (p3P s ∧ p2P sort ∧ ((0 : Int32) ≤ n ∧ n ≤ 12)) → WP l (rmD 3 0 0) X sgX7_sayingsBy kX7_sayingsBy (kpQ T (ksbG S s sort fr n)) 16 [some (.ref 0), some (.int s), some (.int sort), some (.int fr), some (.int n), none, none, none] [] (encC S ++ T) 0 0 := fun h => run_sound okX7_sayingsBy noCut 200 (no h)
  refine kH (k_B s 4 3 (by decide)) (by decide) (brB' (fun q => t9 (fun z => q z.1)) (fun q1 => br (fun q => t9 (fun z => absurd q (Int32.not_lt.mpr z.2.1.1))) (fun q2 => br (fun q3 => ?_) (fun q => t9 (fun z => q z.2.1.2)))))
  refine br (fun q => t16 (fun z => absurd q (Int32.not_lt.mpr z.2.2.1))) (fun y1 => br (fun y2 => ?_) (fun q => t16 (fun z => q z.2.2.2)))
  have yes : p3P s ∧ p2P sort ∧ ((0 : Int32) ≤ n ∧ n ≤ 12) := ⟨q1, ⟨Int32.not_lt.mp q2, q3⟩, Int32.not_lt.mp y1, y2⟩
  obtain ⟨m, hm, rfl⟩ := p3_or (c := 12) (z := 12) y1 y2 (by decide) (by decide)
  obtain ⟨a, ha, rfl⟩ := in03n q1
  refine kH (c_isMissing hL _) (by decide) (brB' (fun m1 => kH (c_at (xs := S.2 22) rfl (hL.lt 22)) (by decide) (br (fun e => ?_) (fun e => kp ((if_pos yes).trans ((if_neg m1).trans (if_neg e)))))) (fun m1 => kp ((if_pos yes).trans (if_pos m1))))
  have eG : ksbG S (nI a) sort fr (nI m) = ksbF a fr m 0 S 0 := by
    unfold ksbG
    rw [if_pos yes, if_neg m1, if_pos (show atF (S.2 22) (nI a) = sort from e), nI_clamp (by omega), nI_clamp (by omega)]
  rw [eG]
  obtain ⟨W, hW⟩ : ∃ W, ksbF a fr m 0 S 0 = W := ⟨_, rfl⟩
  rw [hW]
  have key : ∀ k, k ≤ m → ∀ (S : CS), CLen S → ∀ (came : Nat) x7, ksbF a fr (m - k) k S came = W → WP l (rmD 3 0 0) X sgX7_sayingsBy kX7_sayingsBy (kpQ T W) 38 [some (.ref 0), some (.int (nI a)), some (.int sort), some (.int fr), some (.int (nI m)), some (.int (nI came)), some (.int (nI k)), x7] [] (encC S ++ T) 0 0 := by
    refine down (fun S hL came x7 hW => ?_) (fun k hk ih S hL came x7 hW => ?_)
    · rw [Nat.sub_self] at hW
      exact run_sound okX7_sayingsBy cNsy 200 (brT (Int32.le_refl _) (kp hW.symm))
    · rw [show m - k = (m - (k + 1)) + 1 by omega, ksbF] at hW
      refine run_sound okX7_sayingsBy cNsy 200 (brF (nI_ge hk (by omega)) (kH (c_holdsRun hL _ _ _) (by decide) (brB' (fun h => kp (((if_neg h).symm.trans hW).symm)) (fun h => ?_))))
      have hW := (if_pos h).symm.trans hW
      refine kH (c_read hL _ _) (by decide) (kH (c_read hL _ _) (by decide) (kH (c_read hL _ _) (by decide) ⟨2, _, by decide, P_say hL _ _ _, ?_⟩))
      rintro hp' w ⟨rfl, rfl⟩
      have hL2 : CLen (ksbY S a (fr + Int32.ofInt 3 * nI k)).1 := ksyG_len hL _ _ _
      rw [← nI_1 k] at ih
      refine br (fun v => ?_) (fun v => ?_)
      · have v : (ksbY S a (fr + Int32.ofInt 3 * nI k)).2 < 0 := v
        rw [if_pos v] at hW
        exact ih _ hL2 came _ hW
      · have v : ¬ (ksbY S a (fr + Int32.ofInt 3 * nI k)).2 < 0 := v
        rw [if_neg v] at hW
        have ih := ih _ hL2 (came + 1) (some (.int (fr + Int32.ofInt 3 * nI k))) hW
        rw [← nI_1 came] at ih
        exact ih
  exact key 0 (Nat.zero_le _) S hL 0 _ hW
end KPREC5
