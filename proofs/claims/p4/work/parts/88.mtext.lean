/-! THE REFERENCE in general: two in a row; what texts mean -/
section MTEXT
variable {l : Launch} {X : List (List Int32)} {S : CS} {M : MS} {hp : AH} {nt ns nk : Nat}
def twT (M : MS) (nt ns nk : Nat) : Nat → Int32 × Int32
  | 0 => (-1, -1)
  | k + 1 => twS M nt ns nk k (twT M nt ns nk k)
def twG (M : MS) (nt ns nk : Nat) (what : Int32) : Int32 := if p1P what then (if what = 0 then (twT M nt ns nk (ns * nt)).1 else (twT M nt ns nk (ns * nt)).2) else -2
def cNtw (i : Nat) : Bool := Nat.beq i 16 || Nat.beq i 63 || Nat.beq i 77
set_option maxRecDepth 100000 in
set_option maxHeartbeats 4000000 in
theorem g_two (h : MInv M nt ns nk) (what : Int32) : Ctr l 6 X sgX8_two_ [.ref 27, .int what] (mk S M) (zA S M (.int (twG M nt ns nk what))) := by
  obtain ⟨h3, h12⟩ := h.2.2.2.2.1
  obtain ⟨h0, h5⟩ := h.2.2.2.1
  obtain ⟨h9, h1, h6⟩ := h.2.2.1
  have hle : ns * nt ≤ 30 := Nat.le_trans (Nat.mul_le_mul h5 h6) (by decide)
  have hend : M.1 0 * M.1 9 = nI (ns * nt) := by rw [h0, h9, nI_mul]
  refine Ctr.of okX8_two_ rfl (Nat.le_of_ble_eq_true rfl) (run_sound okX8_two_ cNtw 200 ?_)
  refine kH (m_in _ _ _) (by decide) (brB' (fun q => zI h.1 (if_neg q).symm) (fun q => ⟨5, _, by decide, g_worldsNow h, ?_⟩))
  rw [show twG M nt ns nk what = if what = 0 then (twT M nt ns nk (ns * nt)).1 else (twT M nt ns nk (ns * nt)).2 from if_pos q]
  rintro hp' w ⟨⟨z, hz, hzm, rfl⟩, rfl⟩
  obtain ⟨V, hV⟩ : ∃ V, (if what = 0 then (twT M nt ns nk (ns * nt)).1 else (twT M nt ns nk (ns * nt)).2) = V := ⟨_, rfl⟩
  rw [hV]
  have key : ∀ k, k ≤ ns * nt → ∀ (z : SZ), ScOk z → Mt (sc M z) nt → ∀ x7 x8 x9 x10 x11, WP l (rmD 6 0 0) X sgX8_two_ kX8_two_ (zA S M (.int V)) 16 [some (.ref 27), some (.int what), some (.long (woT M nk)), none, some (.int (twT M nt ns nk k).1), some (.int (twT M nt ns nk k).2), some (.int (nI k)), x7, x8, x9, x10, x11] [] (mk S (sc M z)) 0 0 := by
    refine down (fun z hz hzm x7 x8 x9 x10 x11 => ?_) (fun k hk ih z hz hzm x7 x8 x9 x10 x11 => ?_)
    · refine run_sound okX8_two_ cNtw 200 (brT ?_ (br (fun p => ⟨⟨z, hz, rfl⟩, some_int ?_⟩) (fun p => ⟨⟨z, hz, rfl⟩, some_int ?_⟩)))
      · show M.1 0 * M.1 9 ≤ nI (ns * nt)
        rw [hend]; exact Int32.le_refl _
      · rw [← hV]; exact (if_pos p).symm
      · rw [← hV]; exact (if_neg p).symm
    · have hkt : k % nt < nt := Nat.mod_lt _ (by omega)
      have hks : k / nt < ns := Nat.div_lt_of_lt_mul (by rw [Nat.mul_comm]; exact hk)
      have e1 : nI k / M.1 9 = nI (k / nt) := by rw [h9]; exact nI_div (by omega) (by omega) (by omega)
      have e2 : nI k - nI k / M.1 9 * M.1 9 = nI (k % nt) := by rw [h9]; exact nI_rem (by omega) (by omega) (by omega)
      have h90 : ¬ M.1 9 = 0 := by rw [h9]; exact nI_ne0 (by omega) (by omega)
      have c0 : ∀ z, ScOk z → Mt (sc M z) nt → AnsL l 1 X sgX8_fits [.ref 27, .int (nI k / M.1 9), .int (nI k - nI k / M.1 9 * M.1 9), .int 0, .int (M.1 3)] (mk S (sc M z)) (fitT M (k / nt) (k % nt) 0 (nI nk)) := fun z hz hzm => by
        rw [e2, e1, h3, ← fitT_sc z]; exact g_fits (h.sc hz) hzm (by omega) hkt (u := 0) (by decide) (nI nk)
      have c1 : ∀ z, ScOk z → Mt (sc M z) nt → AnsL l 1 X sgX8_fits [.ref 27, .int (nI k / M.1 9), .int (nI k - nI k / M.1 9 * M.1 9), .int 1, .int (M.1 3)] (mk S (sc M z)) (fitT M (k / nt) (k % nt) 1 (nI nk)) := fun z hz hzm => by
        rw [e2, e1, h3, ← fitT_sc z]; exact g_fits (h.sc hz) hzm (by omega) hkt (u := 1) (by decide) (nI nk)
      have b0 : ∀ z, ScOk z → Mt (sc M z) nt → ∀ left, Ctr l 4 X sgX8_worstBehind [.ref 27, .long left] (mk S (sc M z)) (nowQ S (sc M z) nt (some (.int (wbT M nt ns nk left)))) := fun z hz hzm left => by
        rw [← wbT_sc z]; exact g_worstBehind (h.sc hz) hzm left
      obtain ⟨P, hP⟩ : ∃ P, twT M nt ns nk k = P := ⟨_, rfl⟩
      have hs : twT M nt ns nk (k + 1) = twS M nt ns nk k P := by rw [twT, hP]
      unfold twS at hs
      rw [hP]
      generalize fitT M (k / nt) (k % nt) 0 (nI nk) = f0 at c0 hs
      generalize fitT M (k / nt) (k % nt) 1 (nI nk) = f1 at c1 hs
      refine run_sound okX8_two_ cNtw 200 (brF ?_ (And.intro h90 (And.intro h90 (kH (c0 z hz hzm) (by decide) ⟨4, _, by decide, b0 z hz hzm _, ?_⟩))))
      · show ¬ M.1 0 * M.1 9 ≤ nI k
        rw [hend]; exact nI_ge hk (by omega)
      · rintro hp' w ⟨⟨z1, hz1, hzm1, rfl⟩, rfl⟩
        have hzm1 := mt_sc (M := M) hzm1
        refine kH (c1 z1 hz1 hzm1) (by decide) ⟨4, _, by decide, b0 z1 hz1 hzm1 _, ?_⟩
        rintro hp' w ⟨⟨z2, hz2, hzm2, rfl⟩, rfl⟩
        have hzm2 := mt_sc (M := M) hzm2
        generalize wbT M nt ns nk (woT M nk &&& f0) = w0 at hs ⊢
        generalize wbT M nt ns nk (woT M nk &&& f1) = w1 at hs ⊢
        have t63 : ∀ m, m = maxR w0 w1 → WP l (rmD 6 0 0) X sgX8_two_ kX8_two_ (zA S M (.int V)) 63 [some (.ref 27), some (.int what), some (.long (woT M nk)), none, some (.int P.1), some (.int P.2), some (.int (nI k)), some (.int (nI k / M.1 9)), some (.int (nI k - nI k / M.1 9 * M.1 9)), some (.int w0), some (.int w1), x11] [.int m] (mk S (sc M z2)) 0 0 := by
          intro m hm
          rw [← hm] at hs
          have ih := ih z2 hz2 hzm2 (some (.int (nI k / M.1 9))) (some (.int (nI k - nI k / M.1 9 * M.1 9))) (some (.int w0)) (some (.int w1)) (some (.int m))
          rw [hs, ← e1, ← e2, ← nI_1 k] at ih
          have t77 : ∀ v, v = (if P.1 = -1 ∨ m < P.2 then Int32.ofInt 10 * (nI k / M.1 9) + (nI k - nI k / M.1 9 * M.1 9) else P.1) → WP l (rmD 6 0 0) X sgX8_two_ kX8_two_ (zA S M (.int V)) 77 [some (.ref 27), some (.int what), some (.long (woT M nk)), none, some (.int P.1), some (.int P.2), some (.int (nI k)), some (.int (nI k / M.1 9)), some (.int (nI k - nI k / M.1 9 * M.1 9)), some (.int w0), some (.int w1), some (.int m)] [.int v] (mk S (sc M z2)) 0 0 := by
            intro v hv
            rw [← hv] at ih
            refine run_sound okX8_two_ (fun i => Nat.beq i 16) 200 (br (fun p => ?_) (fun p => br (fun p2 => ?_) (fun p2 => ?_)))
            · rw [if_pos (Or.inl (show P.2 = -1 from p))] at ih
              exact ih
            · rw [if_neg (show ¬ (P.2 = -1 ∨ m < P.2) from fun y => y.elim p (fun y => absurd y (Int32.not_lt.mpr p2)))] at ih
              exact ih
            · rw [if_pos (show P.2 = -1 ∨ m < P.2 from Or.inr (Int32.not_le.mp p2))] at ih
              exact ih
          exact run_sound okX8_two_ (fun i => Nat.beq i 77) 200 (br (fun p => t77 _ (if_pos (Or.inl p)).symm) (fun p => br (fun p2 => t77 _ (if_neg (fun y => y.elim p (fun y => absurd y (Int32.not_lt.mpr p2)))).symm) (fun p2 => t77 _ (if_pos (Or.inr (Int32.not_le.mp p2))).symm)))
        exact br (fun p => t63 _ (if_pos p).symm) (fun p => t63 _ (if_neg p).symm)
  exact key 0 (Nat.zero_le _) z hz hzm none none none none none
def saG (M : MS) (nt nk : Nat) (t u what : Int32) : Int32 := if tP nt t ∧ tP nt u then (if p1P what then bI ((if what = 0 then (mtF M (10 * t.toNatClampNeg) ^^^ mtF M (10 * u.toNatClampNeg)) &&& woT M nk else mtF M (10 * t.toNatClampNeg) ^^^ mtF M (10 * u.toNatClampNeg)) = 0) else -7) else -5
theorem g_onceZ (h : MInv M nt ns nk) {z : SZ} (hz : ScOk z) (hzm : Mt (sc M z) nt) {t : Nat} (ht : t < nt) : AnsL l 0 X sgX8_once [.ref 27, .int (nI t)] (mk S (sc M z)) (mtF M (10 * t)) := by
  rw [← mtF_sc z]
  exact g_once (h.sc hz) hzm ht
set_option maxRecDepth 100000 in
theorem g_same (h : MInv M nt ns nk) (t u what : Int32) : Ctr l 6 X sgX8_same [.ref 27, .int t, .int u, .int what] (mk S M) (zA S M (.int (saG M nt nk t u what))) := by
  have h6 := h.2.2.1.2.2
  refine Ctr.of okX8_same rfl (Nat.le_of_ble_eq_true rfl) (run_sound okX8_same (fun i => Nat.beq i 35) 200 ?_)
  refine kH (g_T h t) (by decide) (brB' (fun q => zI h.1 (if_neg (fun z => q z.1)).symm) (fun q => kH (g_T h u) (by decide) (brB' (fun q2 => zI h.1 (if_neg (fun z => q2 z.2)).symm) (fun q2 => kH (m_in _ _ _) (by decide) (brB' (fun q3 => zI h.1 ((if_pos ⟨q, q2⟩).trans (if_neg q3)).symm) (fun q3 => ⟨5, _, by decide, g_worldsNow h, ?_⟩))))))
  rintro hp' w ⟨⟨z, hz, hzm, rfl⟩, rfl⟩
  rw [show saG M nt nk t u what = bI ((if what = 0 then (mtF M (10 * t.toNatClampNeg) ^^^ mtF M (10 * u.toNatClampNeg)) &&& woT M nk else mtF M (10 * t.toNatClampNeg) ^^^ mtF M (10 * u.toNatClampNeg)) = 0) from (if_pos ⟨q, q2⟩).trans (if_pos q3)]
  obtain ⟨i, hi, rfl⟩ := inN (by omega) q
  obtain ⟨j, hj, rfl⟩ := inN (by omega) q2
  rw [nI_clamp (show i < 2 ^ 31 by omega), nI_clamp (show j < 2 ^ 31 by omega)]
  have c0 := g_onceZ (l := l) (X := X) (S := S) h hz hzm hi
  have c1 := g_onceZ (l := l) (X := X) (S := S) h hz hzm hj
  generalize mtF M (10 * i) = a at c0 ⊢
  generalize mtF M (10 * j) = b at c1 ⊢
  generalize woT M nk = v
  have t35 : ∀ x : Int64, x = (if what = 0 then (a ^^^ b) &&& v else a ^^^ b) → WP l (rmD 6 0 0) X sgX8_same kX8_same (zA S M (.int (bI ((if what = 0 then (a ^^^ b) &&& v else a ^^^ b) = 0)))) 35 [some (.ref 27), some (.int (nI i)), some (.int (nI j)), some (.int what), some (.long v), none, some (.long (a ^^^ b)), none] [.long x] (mk S (sc M z)) 0 0 := by
    intro x hx
    rw [← hx]
    exact run_sound okX8_same noCut 200 (brC (fun p => ⟨⟨z, hz, rfl⟩, some_int (bIe1 p)⟩) (fun p => ⟨⟨z, hz, rfl⟩, some_int (bIe0 p)⟩))
  exact kH c0 (by decide) (kH c1 (by decide) (br (fun p => t35 _ (if_pos p).symm) (fun p => t35 _ (if_neg p).symm)))
def clT2 (M : MS) (left : Int64) : Nat → Int32
  | 0 => 0
  | u + 1 => clT2 M left u ||| (if left &&& (mtF M (10 * u) ^^^ -1) = 0 then (1 : Int32) <<< (nI u &&& 31) else 0)
def clG (M : MS) (nt nk : Nat) (t : Int32) : Int32 := if tP nt t then clT2 M (woT M nk &&& mtF M (10 * t.toNatClampNeg)) nt else -5
set_option maxRecDepth 100000 in
theorem g_claims (h : MInv M nt ns nk) (t : Int32) : Ctr l 6 X sgX8_claims [.ref 27, .int t] (mk S M) (zA S M (.int (clG M nt nk t))) := by
  obtain ⟨h9, h1, h6⟩ := h.2.2.1
  refine Ctr.of okX8_claims rfl (Nat.le_of_ble_eq_true rfl) (run_sound okX8_claims (fun i => Nat.beq i 17) 200 ?_)
  refine kH (g_T h t) (by decide) (brB' (fun q => zI h.1 (if_neg q).symm) (fun q => ⟨5, _, by decide, g_worldsNow h, ?_⟩))
  rintro hp' w ⟨⟨z, hz, hzm, rfl⟩, rfl⟩
  rw [show clG M nt nk t = clT2 M (woT M nk &&& mtF M (10 * t.toNatClampNeg)) nt from if_pos q]
  obtain ⟨i, hi, rfl⟩ := inN (by omega) q
  rw [nI_clamp (show i < 2 ^ 31 by omega)]
  have c0 := g_onceZ (l := l) (X := X) (S := S) h hz hzm hi
  obtain ⟨a, ha⟩ : ∃ a, woT M nk &&& mtF M (10 * i) = a := ⟨_, rfl⟩
  obtain ⟨V, hV⟩ : ∃ V, clT2 M a nt = V := ⟨_, rfl⟩
  have key : ∀ k, k ≤ nt → WP l (rmD 6 0 0) X sgX8_claims kX8_claims (zA S M (.int V)) 17 [some (.ref 27), some (.int (nI i)), some (.long a), none, some (.int (clT2 M a k)), some (.int (nI k))] [] (mk S (sc M z)) 0 0 := by
    refine down ?_ (fun k hk ih => ?_)
    · refine run_sound okX8_claims (fun i => Nat.beq i 17) 200 (brT ?_ ⟨⟨z, hz, rfl⟩, some_int hV⟩)
      show M.1 9 ≤ nI nt
      rw [h9]; exact Int32.le_refl _
    · refine run_sound okX8_claims (fun i => Nat.beq i 17) 200 (brF ?_ (kH (g_onceZ h hz hzm hk) (by decide) (brC (fun p => ?_) (fun p => ?_))))
      · show ¬ M.1 9 ≤ nI k
        rw [h9]; exact nI_ge hk (by omega)
      · rw [show clT2 M a (k + 1) = clT2 M a k ||| ((1 : Int32) <<< (nI k &&& 31)) by rw [clT2, if_pos (show a &&& (mtF M (10 * k) ^^^ -1) = 0 from p)], ← nI_1 k] at ih
        exact ih
      · rw [show clT2 M a (k + 1) = clT2 M a k ||| 0 by rw [clT2, if_neg (show ¬ a &&& (mtF M (10 * k) ^^^ -1) = 0 from p)], ← nI_1 k] at ih
        exact ih
  rw [ha, hV]
  have k0 := key 0 (Nat.zero_le _)
  rw [← ha] at k0
  exact kH c0 (by decide) k0
def thG (M : MS) (nt nk : Nat) (t u v : Int32) : Int64 := if tP nt t ∧ tP nt u ∧ tP nt v then woT M nk &&& (mtF M (10 * t.toNatClampNeg) &&& (mtF M (10 * u.toNatClampNeg) ^^^ -1) &&& (mtF M (10 * v.toNatClampNeg) ^^^ -1) ||| mtF M (10 * u.toNatClampNeg) &&& (mtF M (10 * t.toNatClampNeg) ^^^ -1) &&& (mtF M (10 * v.toNatClampNeg) ^^^ -1) ||| mtF M (10 * v.toNatClampNeg) &&& (mtF M (10 * t.toNatClampNeg) ^^^ -1) &&& (mtF M (10 * u.toNatClampNeg) ^^^ -1)) else NOL
set_option maxRecDepth 100000 in
theorem g_thrice (h : MInv M nt ns nk) (t u v : Int32) : Ctr l 6 X sgX8_thrice [.ref 27, .int t, .int u, .int v] (mk S M) (zA S M (.long (thG M nt nk t u v))) := by
  have h6 := h.2.2.1.2.2
  refine Ctr.of okX8_thrice rfl (Nat.le_of_ble_eq_true rfl) (run_sound okX8_thrice noCut 200 ?_)
  refine kH (g_T h t) (by decide) (brB' (fun q => ⟨rfl, zJ h.1 (if_neg (fun z => q z.1)).symm⟩) (fun q => kH (g_T h u) (by decide) (brB' (fun q2 => ⟨rfl, zJ h.1 (if_neg (fun z => q2 z.2.1)).symm⟩) (fun q2 => kH (g_T h v) (by decide) (brB' (fun q3 => ⟨rfl, zJ h.1 (if_neg (fun z => q3 z.2.2)).symm⟩) (fun q3 => ⟨5, _, by decide, g_worldsNow h, ?_⟩))))))
  rintro hp' w ⟨⟨z, hz, hzm, rfl⟩, rfl⟩
  have e : ∀ a b c : Nat, t.toNatClampNeg = a → u.toNatClampNeg = b → v.toNatClampNeg = c → thG M nt nk t u v = woT M nk &&& (mtF M (10 * a) &&& (mtF M (10 * b) ^^^ -1) &&& (mtF M (10 * c) ^^^ -1) ||| mtF M (10 * b) &&& (mtF M (10 * a) ^^^ -1) &&& (mtF M (10 * c) ^^^ -1) ||| mtF M (10 * c) &&& (mtF M (10 * a) ^^^ -1) &&& (mtF M (10 * b) ^^^ -1)) := by
    intro a b c ea eb ec
    subst ea
    subst eb
    subst ec
    exact if_pos ⟨q, q2, q3⟩
  obtain ⟨i, hi, rfl⟩ := inN (by omega) q
  obtain ⟨j, hj, rfl⟩ := inN (by omega) q2
  obtain ⟨k, hk, rfl⟩ := inN (by omega) q3
  rw [e i j k (nI_clamp (by omega)) (nI_clamp (by omega)) (nI_clamp (by omega))]
  have c0 := g_onceZ (l := l) (X := X) (S := S) h hz hzm hi
  have c1 := g_onceZ (l := l) (X := X) (S := S) h hz hzm hj
  have c2 := g_onceZ (l := l) (X := X) (S := S) h hz hzm hk
  clear e
  generalize mtF M (10 * i) = a at c0 ⊢
  generalize mtF M (10 * j) = b at c1 ⊢
  generalize mtF M (10 * k) = c at c2 ⊢
  generalize woT M nk = d
  exact kH c0 (by decide) (kH c1 (by decide) (kH c2 (by decide) ⟨rfl, ⟨z, hz, rfl⟩, rfl⟩))
end MTEXT
