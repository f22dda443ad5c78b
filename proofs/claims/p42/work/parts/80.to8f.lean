/-! parts 80 .. 8f, joined -/
section
-- 80.minv
/-! THE REFERENCE in general: what always holds of it; what is read; what fits -/
section MINV
variable {l : Launch} {X : List (List Int32)} {S : CS} {M : MS} {hp : AH} {nt ns nk : Nat}
def Kd (k m : Int32) : Prop := ((0 : Int32) ≤ k ∧ k ≤ 5) ∧ ((0 : Int32) ≤ m ∧ m ≤ 9)
def TkOk (xs : List Int32) (nt nk : Nat) : Prop := ∀ k, k < nk → ∃ s t u : Nat, xs.getD (3 * k) 0 = nI s ∧ xs.getD (3 * k + 1) 0 = nI t ∧ xs.getD (3 * k + 2) 0 = nI u ∧ s < 5 ∧ t < nt ∧ u < 2
def MInv (M : MS) (nt ns nk : Nat) : Prop := MLen M ∧ AllOk M nt ∧ (M.1 9 = nI nt ∧ 1 ≤ nt ∧ nt ≤ 6) ∧ (M.1 0 = nI ns ∧ ns ≤ 5) ∧ (M.1 3 = nI nk ∧ nk ≤ 12) ∧ (∃ r, r < nt ∧ M.1 10 = nI r) ∧ (∀ i, i < 5 → Kd ((M.2.1 1).getD i 0) ((M.2.1 2).getD i 0)) ∧ TkOk (M.2.1 4) nt nk
theorem MInv.sc {z : SZ} (h : MInv M nt ns nk) (hz : ScOk z) : MInv (sc M z) nt ns nk := ⟨h.1.sc hz, h.2⟩
/-- meanings are what they are, whatever a query writes -/
theorem soF_sc (z : SZ) (p t : Nat) (who : Int32) : ∀ n, soF (sc M z) p t who n = soF M p t who n
  | 0 => rfl
  | n + 1 => by
    rw [soF, soF, soF_sc z p t who n]
    rfl
theorem mtF_sc (z : SZ) (k : Nat) : mtF (sc M z) k = mtF M k := soF_sc z _ _ _ _
/-- the row of meanings holds them -/
def Mt (M : MS) (nt : Nat) : Prop := ∀ k, k < 10 * nt → M.2.2.1.getD k 0 = mtF M k
theorem Mt.of {z : SZ} (h : MtOk M nt z) : Mt (sc M z) nt := fun k hk => (h.2.2 k hk).trans (mtF_sc z k).symm
theorem inN {v : Int32} {n : Nat} (hn : n < 2 ^ 31) (h : 0 ≤ v ∧ v ≤ nI n - 1) : ∃ k : Nat, k < n ∧ v = nI k := by
  have h0 := Int32.le_iff_toInt_le.mp h.1
  have h1 := Int32.le_iff_toInt_le.mp h.2
  have e0 : (0 : Int32).toInt = 0 := by decide
  cases n with
  | zero =>
    have e1 : (nI 0 - 1).toInt = -1 := by decide
    omega
  | succ n =>
    rw [nI_pred, nI_toInt (by omega)] at h1
    refine ⟨v.toInt.toNat, by omega, Int32.toInt_inj.mp ?_⟩
    rw [nI_toInt (by omega)]
    omega
theorem inC {v c : Int32} {n : Nat} (hc : c.toInt = n) (hn : n < 2 ^ 31 - 1) (h : 0 ≤ v ∧ v ≤ c) : ∃ k : Nat, k ≤ n ∧ v = nI k := by
  have h0 := Int32.le_iff_toInt_le.mp h.1
  have h1 := Int32.le_iff_toInt_le.mp h.2
  have e0 : (0 : Int32).toInt = 0 := by decide
  refine ⟨v.toInt.toNat, by omega, Int32.toInt_inj.mp ?_⟩
  rw [nI_toInt (by omega)]
  omega
theorem g_T (h : MInv M nt ns nk) (t : Int32) : Ans l 1 X sgX8_isOfTexts [.ref 27, .int t] (mk S M) (bI (0 ≤ t ∧ t ≤ nI nt - 1)) := by
  have q : Ans l 1 X sgX8_isOfTexts [.ref 27, .int t] (mk S M) (bI (0 ≤ t ∧ t ≤ M.1 9 - 1)) := m_isOfTexts t
  rw [h.2.2.1.1] at q
  exact q
theorem g_S (h : MInv M nt ns nk) (s : Int32) : Ans l 1 X sgX8_isSpeaker [.ref 27, .int s] (mk S M) (bI (0 ≤ s ∧ s ≤ nI ns - 1)) := by
  have q : Ans l 1 X sgX8_isSpeaker [.ref 27, .int s] (mk S M) (bI (0 ≤ s ∧ s ≤ M.1 0 - 1)) := m_isSpeaker s
  rw [h.2.2.2.1.1] at q
  exact q
theorem g_reads (h : MInv M nt ns nk) : Ctr l 4 X sgX8_reads [.ref 27] (mk S M) (fun h w => (∃ z, ScOk z ∧ Mt (sc M z) nt ∧ h = mk S (sc M z)) ∧ w = none) := by
  have q := m_reads (l := l) (X := X) (S := S) h.1 (nt := nt) h.2.2.1.1 h.2.2.1.2.2 h.2.1
  exact q.weak (fun hp w hw => ⟨let ⟨z, hz, e⟩ := hw.1; ⟨z, hz.1, Mt.of hz, e⟩, hw.2⟩)
theorem g_once (h : MInv M nt ns nk) (hm : Mt M nt) {t : Nat} (ht : t < nt) : AnsL l 0 X sgX8_once [.ref 27, .int (nI t)] (mk S M) (mtF M (10 * t)) := by
  have q : AnsL l 0 X sgX8_once [.ref 27, .int (nI t)] (mk S M) (M.2.2.1.getD (10 * t) 0) := m_once h.1.z.2.2.1 (by have := h.2.2.1.2.2; omega)
  rw [hm _ (by omega)] at q
  exact q
/-- worlds in which a speaker can say a pair, as a saying of a number -/
def fitT (M : MS) (s t u : Nat) (n : Int32) : Int64 := canL ((M.2.1 1).getD s 0) ((M.2.1 2).getD s 0) n (mtF M (10 * t + 2 * s + u)) (mtF M (10 * t + 2 * s + 1 - u))
theorem Kd.two {k m : Int32} (h : Kd k m) : ¬ m + 2 = 0 := by
  obtain ⟨j, hj, e⟩ := inC (c := 9) (n := 9) (by decide) (by decide) h.2
  rw [e]
  have a : ∀ j : Fin 10, ¬ nI j.val + 2 = 0 := by decide
  exact a ⟨j, by omega⟩
theorem g_canSay (h : MInv M nt ns nk) (hm : Mt M nt) (k much n : Int32) {s t u : Nat} (hs : s < 5) (ht : t < nt) (hu : u < 2) (h2 : ¬ much + 2 = 0) :
    AnsL l 0 X sgX8_canSay [.ref 27, .int k, .int much, .int (nI s), .int (nI t), .int (nI u), .int n] (mk S M) (canL k much n (mtF M (10 * t + 2 * s + u)) (mtF M (10 * t + 2 * s + 1 - u))) := by
  have h6 := h.2.2.1.2.2
  have q := m_canSay (l := l) (X := X) (S := S) h.1.z.2.2.1 k much n (who := s) (t := t) (tu := u) hs (by omega) hu h2
  have e1 : M.2.2.1.getD (10 * t + 2 * s + u) 0 = mtF M (10 * t + 2 * s + u) := hm _ (by omega)
  have e2 : M.2.2.1.getD (10 * t + 2 * s + 1 - u) 0 = mtF M (10 * t + 2 * s + 1 - u) := hm _ (by omega)
  rw [e1, e2] at q
  exact q
set_option maxRecDepth 100000 in
theorem g_fits (h : MInv M nt ns nk) (hm : Mt M nt) {s t u : Nat} (hs : s < 5) (ht : t < nt) (hu : u < 2) (n : Int32) : AnsL l 1 X sgX8_fits [.ref 27, .int (nI s), .int (nI t), .int (nI u), .int n] (mk S M) (fitT M s t u n) := by
  have hk := h.2.2.2.2.2.2.1 s hs
  have hc := g_canSay (l := l) (X := X) (S := S) h hm ((M.2.1 1).getD s 0) ((M.2.1 2).getD s 0) n hs ht hu hk.two
  obtain ⟨l1, l2, -⟩ := h.1
  have e1 : (M.2.1 1).getD (nI s).toNatClampNeg 0 = (M.2.1 1).getD s 0 := by rw [nI_clamp (by omega)]
  have e2 : (M.2.1 2).getD (nI s).toNatClampNeg 0 = (M.2.1 2).getD s 0 := by rw [nI_clamp (by omega)]
  rw [← e1, ← e2] at hc
  have ef : canL ((M.2.1 1).getD (nI s).toNatClampNeg 0) ((M.2.1 2).getD (nI s).toNatClampNeg 0) n (mtF M (10 * t + 2 * s + u)) (mtF M (10 * t + 2 * s + 1 - u)) = fitT M s t u n := by rw [e1, e2]; rfl
  rw [ef] at hc
  refine Ctr.of okX8_fits rfl (Nat.le_of_ble_eq_true rfl) (run_sound okX8_fits noCut 100 ?_)
  refine Exists.intro _ (And.intro rfl (And.intro ?_ (Exists.intro _ (And.intro rfl (And.intro ?_ (kH hc (by decide) ⟨rfl, rfl, rfl⟩))))))
  · show vp_in (nI s) (M.2.1 1).length
    rw [l1]; exact vp_nI hs (by decide)
  · show vp_in (nI s) (M.2.1 2).length
    rw [l2]; exact vp_nI hs (by decide)
/-- a saying's parts -/
def tk (M : MS) (k j : Nat) : Nat := ((M.2.1 4).getD (3 * k + j) 0).toNatClampNeg
theorem tk_ok (h : MInv M nt ns nk) {k : Nat} (hk : k < nk) : (M.2.1 4).getD (3 * k) 0 = nI (tk M k 0) ∧ (M.2.1 4).getD (3 * k + 1) 0 = nI (tk M k 1) ∧ (M.2.1 4).getD (3 * k + 2) 0 = nI (tk M k 2) ∧ tk M k 0 < 5 ∧ tk M k 1 < nt ∧ tk M k 2 < 2 := by
  have h6 := h.2.2.1.2.2
  obtain ⟨s, t, u, e1, e2, e3, h1, h2, h3⟩ := h.2.2.2.2.2.2.2 k hk
  have f1 : tk M k 0 = s := by unfold tk; rw [Nat.add_zero, e1, nI_clamp (by omega)]
  have f2 : tk M k 1 = t := by unfold tk; rw [e2, nI_clamp (by omega)]
  have f3 : tk M k 2 = u := by unfold tk; rw [e3, nI_clamp (by omega)]
  rw [f1, f2, f3]
  exact ⟨e1, e2, e3, h1, h2, h3⟩
theorem ix_tk (h : MInv M nt ns nk) {k j : Nat} (hk : k < nk) (hj : j < 3) : vp_in (nI (3 * k + j)) (M.2.1 4).length ∧ (nI (3 * k + j)).toNatClampNeg = 3 * k + j := by
  have h12 := h.2.2.2.2.1.2
  rw [h.1.2.2.1]
  exact ⟨vp_nI (by omega) (by decide), nI_clamp (by omega)⟩
def fsT (M : MS) (k : Nat) : Int64 := fitT M (tk M k 0) (tk M k 1) (tk M k 2) (nI k)
set_option maxRecDepth 100000 in
theorem g_fitsSaying (h : MInv M nt ns nk) (hm : Mt M nt) {k : Nat} (hk : k < nk) : AnsL l 2 X sgX8_fitsSaying [.ref 27, .int (nI k)] (mk S M) (fsT M k) := by
  obtain ⟨e1, e2, e3, h1, h2, h3⟩ := tk_ok h hk
  have i0 : Int32.ofInt 3 * nI k = nI (3 * k + 0) := nI_mul 3 k
  have i1 : Int32.ofInt 3 * nI k + Int32.ofInt 1 = nI (3 * k + 1) := by rw [i0]; exact nI_1 _
  have i2 : Int32.ofInt 3 * nI k + Int32.ofInt 2 = nI (3 * k + 2) := by rw [i0]; exact nI_add _ 2
  have hc : AnsL l 1 X sgX8_fits [.ref 27, .int ((M.2.1 4).getD (Int32.ofInt 3 * nI k).toNatClampNeg 0), .int ((M.2.1 4).getD (Int32.ofInt 3 * nI k + Int32.ofInt 1).toNatClampNeg 0), .int ((M.2.1 4).getD (Int32.ofInt 3 * nI k + Int32.ofInt 2).toNatClampNeg 0), .int (nI k)] (mk S M) (fsT M k) := by
    rw [i1, i2, i0, (ix_tk h hk (show 0 < 3 by decide)).2, (ix_tk h hk (show 1 < 3 by decide)).2, (ix_tk h hk (show 2 < 3 by decide)).2, Nat.add_zero, e1, e2, e3]
    exact g_fits h hm h1 h2 h3 (nI k)
  refine Ctr.of okX8_fitsSaying rfl (Nat.le_of_ble_eq_true rfl) (run_sound okX8_fitsSaying noCut 100 ?_)
  refine Exists.intro _ (And.intro rfl (And.intro ?_ (Exists.intro _ (And.intro rfl (And.intro ?_ (Exists.intro _ (And.intro rfl (And.intro ?_ (kH hc (by decide) ⟨rfl, rfl, rfl⟩)))))))))
  · show vp_in (Int32.ofInt 3 * nI k) (M.2.1 4).length
    rw [i0]; exact (ix_tk h hk (by decide)).1
  · show vp_in (Int32.ofInt 3 * nI k + Int32.ofInt 1) (M.2.1 4).length
    rw [i1]; exact (ix_tk h hk (by decide)).1
  · show vp_in (Int32.ofInt 3 * nI k + Int32.ofInt 2) (M.2.1 4).length
    rw [i2]; exact (ix_tk h hk (by decide)).1
/-- worlds that fit the first sayings -/
def woT (M : MS) : Nat → Int64
  | 0 => mtF M (10 * (M.1 10).toNatClampNeg)
  | k + 1 => woT M k &&& fsT M k
theorem rl_ok (h : MInv M nt ns nk) : ∃ r, r < nt ∧ M.1 10 = nI r ∧ (M.1 10).toNatClampNeg = r := by
  have h6 := h.2.2.1.2.2
  obtain ⟨r, hr, e⟩ := h.2.2.2.2.2.1
  exact ⟨r, hr, e, by rw [e, nI_clamp (by omega)]⟩
theorem g_law (h : MInv M nt ns nk) (hm : Mt M nt) : AnsL l 0 X sgX8_once [.ref 27, .int (M.1 10)] (mk S M) (woT M 0) := by
  obtain ⟨r, hr, e, e2⟩ := rl_ok h
  have q := g_once (l := l) (X := X) (S := S) h hm hr
  rw [← e] at q
  rw [show mtF M (10 * r) = woT M 0 by rw [woT, e2]] at q
  exact q
set_option maxRecDepth 100000 in
theorem g_worldsOf (h : MInv M nt ns nk) (hm : Mt M nt) {n : Nat} (hn : n ≤ nk) : AnsL l 3 X sgX8_worldsOf [.ref 27, .int (nI n)] (mk S M) (woT M n) := by
  have h12 := h.2.2.2.2.1.2
  refine Ctr.of okX8_worldsOf rfl (Nat.le_of_ble_eq_true rfl) (run_sound okX8_worldsOf (fun i => Nat.beq i 7) 100 ?_)
  have key : ∀ j, j ≤ n → WP l (rmD 3 0 0) X sgX8_worldsOf kX8_worldsOf (fun h w => h = mk S M ∧ w = some (.long (woT M n))) 7 [some (.ref 27), some (.int (nI n)), some (.long (woT M j)), none, some (.int (nI j))] [] (mk S M) 0 0 := by
    refine down ?_ (fun j hj ih => ?_)
    · exact run_sound okX8_worldsOf (fun i => Nat.beq i 7) 100 (brT (Int32.le_refl _) ⟨rfl, rfl, rfl⟩)
    · refine run_sound okX8_worldsOf (fun i => Nat.beq i 7) 100 (brF (nI_ge hj (by omega)) (kH (g_fitsSaying h hm (by omega)) (by decide) ?_))
      rw [show woT M (j + 1) = woT M j &&& fsT M j from rfl, ← nI_1 j] at ih
      exact ih
  exact kH (g_law h hm) (by decide) (key 0 (Nat.zero_le _))
theorem woT_sc (z : SZ) : ∀ n, woT (sc M z) n = woT M n
  | 0 => mtF_sc z _
  | n + 1 => by
    rw [woT, woT, woT_sc z n]
    show woT M n &&& fitT (sc M z) _ _ _ _ = woT M n &&& fitT M _ _ _ _
    unfold fitT
    rw [mtF_sc, mtF_sc]
    rfl
theorem fitT_sc (z : SZ) (s t u : Nat) (n : Int32) : fitT (sc M z) s t u n = fitT M s t u n := by
  unfold fitT
  rw [mtF_sc, mtF_sc]
  rfl
/-- behind a query: the rows that it may write as they come, the meanings there -/
abbrev nowQ (S : CS) (M : MS) (nt : Nat) (v : Option Value) : AH → Option Value → Prop := fun h w => (∃ z, ScOk z ∧ Mt (sc M z) nt ∧ h = mk S (sc M z)) ∧ w = v
/-- behind a public query -/
abbrev zA (S : CS) (M : MS) (v : Value) : AH → Option Value → Prop := fun h w => (∃ z, ScOk z ∧ h = mk S (sc M z)) ∧ w = some v
set_option maxRecDepth 100000 in
theorem g_worldsNow (h : MInv M nt ns nk) : Ctr l 5 X sgX8_worldsNow [.ref 27] (mk S M) (nowQ S M nt (some (.long (woT M nk)))) := by
  have h3 := h.2.2.2.2.1.1
  refine Ctr.of okX8_worldsNow rfl (Nat.le_of_ble_eq_true rfl) (run_sound okX8_worldsNow noCut 100 ⟨4, _, by decide, g_reads h, ?_⟩)
  rintro hp' w ⟨⟨z, hz, hzm, rfl⟩, rfl⟩
  have hc : AnsL l 3 X sgX8_worldsOf [.ref 27, .int (M.1 3)] (mk S (sc M z)) (woT M nk) := by
    rw [h3, ← woT_sc z]
    exact g_worldsOf (h.sc hz) hzm (Nat.le_refl _)
  exact kH hc (by decide) ⟨rfl, ⟨z, hz, hzm, rfl⟩, rfl⟩
set_option maxRecDepth 100000 in
theorem g_worlds (h : MInv M nt ns nk) : Ctr l 6 X sgX8_worlds [.ref 27] (mk S M) (zA S M (.long (woT M nk))) := by
  refine Ctr.of okX8_worlds rfl (Nat.le_of_ble_eq_true rfl) (run_sound okX8_worlds noCut 100 ⟨5, _, by decide, g_worldsNow h, ?_⟩)
  rintro hp' w ⟨⟨z, hz, hzm, rfl⟩, rfl⟩
  exact ⟨rfl, ⟨z, hz, rfl⟩, rfl⟩
end MINV
end
section
-- 81.mtalk
/-! THE REFERENCE in general: texts asked, speakers, sayings -/
section MTALK
variable {l : Launch} {X : List (List Int32)} {S : CS} {M : MS} {hp : AH} {nt ns nk : Nat}
abbrev tP (n : Nat) (t : Int32) : Prop := (0 : Int32) ≤ t ∧ t ≤ nI n - 1
abbrev soP (k m : Int32) : Prop := ((0 : Int32) ≤ k ∧ k ≤ 5) ∧ ((0 : Int32) ≤ m ∧ m ≤ 9)
/-- a new state and an answer -/
abbrev rsQ (S : CS) (r : MS × Int32) : AH → Option Value → Prop := fun h w => h = mk S r.1 ∧ w = some (.int r.2)
theorem rs_i {S : CS} {M' : MS} {v w : Int32} {r : MS × Int32} (e : r = (M', v)) (hv : w = v) : rsQ S r (mk S M') (some (.int w)) := by subst e; exact ⟨rfl, some_int hv⟩
def asG (M : MS) (nt : Nat) (t w who part : Int32) : Int32 := if tP nt t ∧ wdP w then (if whP who ∧ p2P part then saysF M part.toNatClampNeg t.toNatClampNeg (if part = 2 then 0 else w) who else -7) else -5
set_option maxRecDepth 100000 in
set_option maxHeartbeats 1000000 in
theorem g_asks (h : MInv M nt ns nk) (t w who part : Int32) : Ctr l 3 X sgX8_asks [.ref 27, .int t, .int w, .int who, .int part] (mk S M) (zA S M (.int (asG M nt t w who part))) := by
  have h6 := h.2.2.1.2.2
  have lf : ∀ {v w : Int32}, v = w → zA S M (.int w) (mk S M) (some (.int v)) := fun e => ⟨⟨getZ M, h.1.z, rfl⟩, some_int e⟩
  refine Ctr.of okX8_asks rfl (Nat.le_of_ble_eq_true rfl) (run_sound okX8_asks noCut 100 ?_)
  refine kH (g_T h t) (by decide) (brB' (fun q => lf (if_neg (fun z => q z.1)).symm) (fun q => kH (m_isWorld w) (by decide) (brB' (fun q2 => lf (if_neg (fun z => q2 z.2)).symm) (fun q2 => kH (m_in _ _ _) (by decide) (brB' (fun q3 => lf ?_) (fun q3 => kH (m_in _ _ _) (by decide) (brB' (fun q4 => lf ?_) (fun q4 => ?_))))))))
  · exact ((if_pos (show tP nt t ∧ wdP w from ⟨q, q2⟩)).trans (if_neg (fun z => q3 z.1))).symm
  · exact ((if_pos (show tP nt t ∧ wdP w from ⟨q, q2⟩)).trans (if_neg (fun z => q4 z.2))).symm
  · have e : asG M nt t w who part = saysF M part.toNatClampNeg t.toNatClampNeg (if part = 2 then 0 else w) who := (if_pos ⟨q, q2⟩).trans (if_pos ⟨q3, q4⟩)
    rw [e]
    obtain ⟨k, hk, rfl⟩ := inN (by omega) q
    rw [nI_clamp (show k < 2 ^ 31 by omega)]
    rcases in02 q4 with rfl | rfl | rfl
    · have hc : Ctr l 2 X sgX8_saysOf [.ref 27, .int 0, .int (nI k), .int w, .int who] (mk S M) (zR S M (saysF M 0 k w who)) := m_saysOf h.1 (p := 0) (t := k) (by omega) (by decide) (h.2.1 k hk 0 (by decide)) w who
      refine brF (by decide) ⟨2, _, by decide, hc, ?_⟩
      rintro hp' v ⟨⟨z, hz, -, rfl⟩, rfl⟩
      exact ⟨⟨z, hz, rfl⟩, rfl⟩
    · have hc : Ctr l 2 X sgX8_saysOf [.ref 27, .int 1, .int (nI k), .int w, .int who] (mk S M) (zR S M (saysF M 1 k w who)) := m_saysOf h.1 (p := 1) (t := k) (by omega) (by decide) (h.2.1 k hk 1 (by decide)) w who
      refine brF (by decide) ⟨2, _, by decide, hc, ?_⟩
      rintro hp' v ⟨⟨z, hz, -, rfl⟩, rfl⟩
      exact ⟨⟨z, hz, rfl⟩, rfl⟩
    · have hc : Ctr l 2 X sgX8_saysOf [.ref 27, .int 2, .int (nI k), .int 0, .int who] (mk S M) (zR S M (saysF M 2 k 0 who)) := m_saysOf h.1 (p := 2) (t := k) (by omega) (by decide) (h.2.1 k hk 2 (by decide)) 0 who
      refine brT rfl ⟨2, _, by decide, hc, ?_⟩
      rintro hp' v ⟨⟨z, hz, -, rfl⟩, rfl⟩
      exact ⟨⟨z, hz, rfl⟩, rfl⟩
def meG (M : MS) (nt : Nat) (t part : Int32) : Int64 := if tP nt t ∧ p1P part then soF M part.toNatClampNeg t.toNatClampNeg 0 32 else NOL
set_option maxRecDepth 100000 in
theorem g_means (h : MInv M nt ns nk) (t part : Int32) : Ctr l 4 X sgX8_means [.ref 27, .int t, .int part] (mk S M) (zA S M (.long (meG M nt t part))) := by
  have h6 := h.2.2.1.2.2
  have lf : ∀ {v w : Int64}, v = w → zA S M (.long w) (mk S M) (some (.long v)) := fun e => ⟨⟨getZ M, h.1.z, rfl⟩, some_long e⟩
  refine Ctr.of okX8_means rfl (Nat.le_of_ble_eq_true rfl) (run_sound okX8_means noCut 100 ?_)
  refine kH (g_T h t) (by decide) (brB' (fun q => ⟨rfl, lf (if_neg (fun z => q z.1)).symm⟩) (fun q => kH (m_in _ _ _) (by decide) (brB' (fun q2 => ⟨rfl, lf (if_neg (fun z => q2 z.2)).symm⟩) (fun q2 => ?_))))
  have e : meG M nt t part = soF M part.toNatClampNeg t.toNatClampNeg 0 32 := if_pos ⟨q, q2⟩
  rw [e]
  obtain ⟨k, hk, rfl⟩ := inN (by omega) q
  rw [nI_clamp (show k < 2 ^ 31 by omega)]
  rcases in01 q2 with rfl | rfl
  · have hc : Ctr l 3 X sgX8_soIn [.ref 27, .int (nI k), .int 0, .int 0] (mk S M) (zL S M (soF M 0 k 0 32)) := m_soIn h.1 (p := 0) (t := k) (by omega) (by decide) (h.2.1 k hk 0 (by decide)) 0
    refine ⟨3, _, by decide, hc, ?_⟩
    rintro hp' v ⟨⟨z, hz, -, rfl⟩, rfl⟩
    exact ⟨rfl, ⟨z, hz, rfl⟩, rfl⟩
  · have hc : Ctr l 3 X sgX8_soIn [.ref 27, .int (nI k), .int 1, .int 0] (mk S M) (zL S M (soF M 1 k 0 32)) := m_soIn h.1 (p := 1) (t := k) (by omega) (by decide) (h.2.1 k hk 1 (by decide)) 0
    refine ⟨3, _, by decide, hc, ?_⟩
    rintro hp' v ⟨⟨z, hz, -, rfl⟩, rfl⟩
    exact ⟨rfl, ⟨z, hz, rfl⟩, rfl⟩
def paF (M : MS) (who : Int32) : Nat → Int32
  | 0 => 0
  | t + 1 => paF M who t ||| (if soF M 0 t who 32 ^^^ soF M 1 t who 32 = ALLW then (1 : Int32) <<< (nI t &&& 31) else 0)
def paG (M : MS) (nt : Nat) (who : Int32) : Int32 := if whP who then paF M who nt else -2
set_option maxRecDepth 100000 in
set_option maxHeartbeats 1000000 in
theorem g_pairs (h : MInv M nt ns nk) (who : Int32) : Ctr l 4 X sgX8_pairs [.ref 27, .int who] (mk S M) (zA S M (.int (paG M nt who))) := by
  have h9 := h.2.2.1.1
  have h6 := h.2.2.1.2.2
  refine Ctr.of okX8_pairs rfl (Nat.le_of_ble_eq_true rfl) (run_sound okX8_pairs (fun i => Nat.beq i 11) 100 ?_)
  refine kH (m_in _ _ _) (by decide) (brB' (fun q => ⟨⟨getZ M, h.1.z, rfl⟩, some_int (if_neg q).symm⟩) (fun q => ?_))
  rw [show paG M nt who = paF M who nt from if_pos q]
  have key : ∀ j, j ≤ nt → ∀ z, ScOk z → WP l (rmD 4 0 0) X sgX8_pairs kX8_pairs (zA S M (.int (paF M who nt))) 11 [some (.ref 27), some (.int who), some (.int (paF M who j)), some (.int (nI j))] [] (mk S (sc M z)) 0 0 := by
    refine down (fun z hz => ?_) (fun j hj ih z hz => ?_)
    · refine run_sound okX8_pairs (fun i => Nat.beq i 11) 100 (brT ?_ ⟨⟨z, hz, rfl⟩, rfl⟩)
      show M.1 9 ≤ nI nt
      rw [h9]; exact Int32.le_refl _
    · have hs := h.sc hz
      have c0 : Ctr l 3 X sgX8_soIn [.ref 27, .int (nI j), .int 0, .int who] (mk S (sc M z)) (zL S (sc M z) (soF M 0 j who 32)) := by
        rw [← soF_sc z]
        exact m_soIn hs.1 (p := 0) (t := j) (by omega) (by decide) (h.2.1 j hj 0 (by decide)) who
      refine run_sound okX8_pairs (fun i => Nat.beq i 11) 100 (brF ?_ ⟨3, _, by decide, c0, ?_⟩)
      · show ¬ M.1 9 ≤ nI j
        rw [h9]; exact nI_ge hj (by omega)
      · rintro hp' v ⟨⟨z1, hz1, -, rfl⟩, rfl⟩
        have c1 : Ctr l 3 X sgX8_soIn [.ref 27, .int (nI j), .int 1, .int who] (mk S (sc M z1)) (zL S (sc M z1) (soF M 1 j who 32)) := by
          rw [← soF_sc z1]
          exact m_soIn (h.sc hz1).1 (p := 1) (t := j) (by omega) (by decide) (h.2.1 j hj 1 (by decide)) who
        refine ⟨3, _, by decide, c1, ?_⟩
        rintro hp' v ⟨⟨z2, hz2, -, rfl⟩, rfl⟩
        have ih := ih z2 hz2
        refine brC (fun e => ?_) (fun e => ?_)
        · rw [show paF M who (j + 1) = paF M who j ||| ((1 : Int32) <<< (nI j &&& 31)) by rw [paF, if_pos (show soF M 0 j who 32 ^^^ soF M 1 j who 32 = ALLW from e)], ← nI_1 j] at ih
          exact ih
        · rw [show paF M who (j + 1) = paF M who j ||| 0 by rw [paF, if_neg (show ¬ soF M 0 j who 32 ^^^ soF M 1 j who 32 = ALLW from e)], ← nI_1 j] at ih
          exact ih
  exact key 0 (Nat.zero_le _) (getZ M) h.1.z
def spM (M : MS) (ns : Nat) (k m : Int32) : MS := mN (mR (mR M 1 ((M.2.1 1).set ns k)) 2 ((M.2.1 2).set ns m)) 0 (nI (ns + 1))
def spG (M : MS) (ns : Nat) (k m : Int32) : MS × Int32 := if soP k m then (if ns = 5 then (M, -4) else (spM M ns k m, nI ns)) else (M, -2)
set_option maxRecDepth 100000 in
theorem g_speaker (h : MInv M nt ns nk) (k m : Int32) : Ctr l 2 X sgX8_speaker [.ref 27, .int k, .int m] (mk S M) (rsQ S (spG M ns k m)) := by
  obtain ⟨h0, h5⟩ := h.2.2.2.1
  obtain ⟨l1, l2, -⟩ := h.1
  refine Ctr.of okX8_speaker rfl (Nat.le_of_ble_eq_true rfl) (run_sound okX8_speaker noCut 100 ?_)
  refine kH (m_isSo k m) (by decide) (brB' (fun q => rs_i (if_neg q) rfl) (fun q => ?_))
  rw [show spG M ns k m = if ns = 5 then (M, -4) else (spM M ns k m, nI ns) from if_pos q]
  by_cases e : ns = 5
  · refine brT ?_ (rs_i (if_pos e) rfl)
    show M.1 0 = 5
    rw [h0, e]; rfl
  · have e1 : (nI ns).toNatClampNeg = ns := nI_clamp (by omega)
    refine brF ?_ (Exists.intro _ (And.intro rfl (And.intro ?_ (Exists.intro _ (And.intro rfl (And.intro ?_ (And.intro rfl (And.intro trivial ?_))))))))
    · show ¬ M.1 0 = 5
      rw [h0]
      intro z
      exact e ((nI_eq (b := 5) (by omega) (by decide)).mp z)
    · show vp_in (M.1 0) (M.2.1 1).length
      rw [h0, l1]; exact vp_nI (by omega) (by decide)
    · show vp_in (M.1 0) (M.2.1 2).length
      rw [h0, l2]; exact vp_nI (by omega) (by decide)
    · rw [if_neg e]
      refine ⟨?_, some_int ?_⟩
      · show mk S (mN (mR (mR M 1 ((M.2.1 1).set (M.1 0).toNatClampNeg k)) 2 ((M.2.1 2).set (M.1 0).toNatClampNeg m)) 0 (M.1 0 + 1)) = mk S (spM M ns k m)
        rw [h0, e1, nI_1]
        rfl
      · show M.1 0 + 1 - Int32.ofInt 1 = nI ns
        rw [h0, nI_1]; exact nI_pred _
def trM (M : MS) (s : Nat) (k m : Int32) : MS := mR (mR M 1 ((M.2.1 1).set s k)) 2 ((M.2.1 2).set s m)
def trG (M : MS) (ns : Nat) (s k m : Int32) : MS × Int32 := if tP ns s then (if soP k m then (trM M s.toNatClampNeg k m, (M.2.1 1).getD s.toNatClampNeg 0) else (M, -7)) else (M, -5)
set_option maxRecDepth 100000 in
theorem g_turn (h : MInv M nt ns nk) (s k m : Int32) : Ctr l 2 X sgX8_turn [.ref 27, .int s, .int k, .int m] (mk S M) (rsQ S (trG M ns s k m)) := by
  obtain ⟨h0, h5⟩ := h.2.2.2.1
  obtain ⟨l1, l2, -⟩ := h.1
  refine Ctr.of okX8_turn rfl (Nat.le_of_ble_eq_true rfl) (run_sound okX8_turn noCut 100 ?_)
  refine kH (g_S h s) (by decide) (brB' (fun q => rs_i (if_neg q) rfl) (fun q => kH (m_isSo k m) (by decide) (brB' (fun q2 => rs_i ((if_pos q).trans (if_neg q2)) rfl) (fun q2 => ?_))))
  have e : trG M ns s k m = (trM M s.toNatClampNeg k m, (M.2.1 1).getD s.toNatClampNeg 0) := (if_pos q).trans (if_pos q2)
  rw [e]
  obtain ⟨j, hj, rfl⟩ := inN (by omega) q
  refine Exists.intro _ (And.intro rfl (And.intro ?_ (Exists.intro _ (And.intro rfl (And.intro ?_ (Exists.intro _ (And.intro rfl (And.intro ?_ ⟨rfl, rfl⟩))))))))
  · show vp_in (nI j) (M.2.1 1).length
    rw [l1]; exact vp_nI (by omega) (by decide)
  · show vp_in (nI j) (M.2.1 1).length
    rw [l1]; exact vp_nI (by omega) (by decide)
  · show vp_in (nI j) (M.2.1 2).length
    rw [l2]; exact vp_nI (by omega) (by decide)
def tdG (M : MS) (ns : Nat) (s what : Int32) : Int32 := if tP ns s then (if what = 0 then (M.2.1 1).getD s.toNatClampNeg 0 else if what = 1 then (M.2.1 2).getD s.toNatClampNeg 0 else if what = 2 then bI ((M.2.1 1).getD s.toNatClampNeg 0 = 5) else -7) else -5
set_option maxRecDepth 100000 in
theorem g_told (h : MInv M nt ns nk) (s what : Int32) : Ans l 2 X sgX8_told [.ref 27, .int s, .int what] (mk S M) (tdG M ns s what) := by
  obtain ⟨h0, h5⟩ := h.2.2.2.1
  obtain ⟨l1, l2, -⟩ := h.1
  refine Ctr.of okX8_told rfl (Nat.le_of_ble_eq_true rfl) (run_sound okX8_told noCut 100 ?_)
  refine kH (g_S h s) (by decide) (brB' (fun q => ⟨rfl, some_int (if_neg q).symm⟩) (fun q => ?_))
  have e : tdG M ns s what = if what = 0 then (M.2.1 1).getD s.toNatClampNeg 0 else if what = 1 then (M.2.1 2).getD s.toNatClampNeg 0 else if what = 2 then bI ((M.2.1 1).getD s.toNatClampNeg 0 = 5) else -7 := if_pos q
  rw [e]
  obtain ⟨j, hj, rfl⟩ := inN (by omega) q
  have v1 : vp_in (nI j) (M.2.1 1).length := by rw [l1]; exact vp_nI (by omega) (by decide)
  have v2 : vp_in (nI j) (M.2.1 2).length := by rw [l2]; exact vp_nI (by omega) (by decide)
  refine And.intro (fun hd => ⟨rfl, some_int ?_⟩) (And.intro (fun hw => ?_) (And.intro (fun hw => ?_) (And.intro (fun hw => ?_) trivial)))
  · have no : ∀ k : Int32, 0 ≤ k.toInt → k.toInt ≤ 2 → ¬ what = k := fun k h1 h2 z => by subst z; omega
    rw [if_neg (no 0 (by decide) (by decide)), if_neg (no 1 (by decide) (by decide)), if_neg (no 2 (by decide) (by decide))]
    rfl
  · subst hw
    exact Exists.intro _ (And.intro rfl (And.intro v1 ⟨rfl, rfl⟩))
  · subst hw
    exact Exists.intro _ (And.intro rfl (And.intro v2 ⟨rfl, rfl⟩))
  · subst hw
    exact Exists.intro _ (And.intro rfl (And.intro v1 (br (fun z => ⟨rfl, some_int (bIe1 z)⟩) (fun z => ⟨rfl, some_int (bIe0 z)⟩))))
def syM (M : MS) (nk : Nat) (s t u : Int32) : MS := mN (mR M 4 ((((M.2.1 4).set (3 * nk) s).set (3 * nk + 1) t).set (3 * nk + 2) u)) 3 (nI (nk + 1))
def syG (M : MS) (nt ns nk : Nat) (s t u : Int32) : MS × Int32 := if tP ns s ∧ tP nt t then (if p1P u then (if nk = 12 then (M, -4) else (syM M nk s t u, nI nk)) else (M, -7)) else (M, -5)
set_option maxRecDepth 100000 in
set_option maxHeartbeats 1000000 in
theorem g_say (h : MInv M nt ns nk) (s t u : Int32) : Ctr l 2 X sgX8_say [.ref 27, .int s, .int t, .int u] (mk S M) (rsQ S (syG M nt ns nk s t u)) := by
  obtain ⟨h3, h12⟩ := h.2.2.2.2.1
  have l4 := h.1.2.2.1
  refine Ctr.of okX8_say rfl (Nat.le_of_ble_eq_true rfl) (run_sound okX8_say noCut 100 ?_)
  refine kH (g_S h s) (by decide) (brB' (fun q => rs_i (if_neg (fun z => q z.1)) rfl) (fun q => kH (g_T h t) (by decide) (brB' (fun q2 => rs_i (if_neg (fun z => q2 z.2)) rfl) (fun q2 => kH (m_in _ _ _) (by decide) (brB' (fun q3 => rs_i ((if_pos ⟨q, q2⟩).trans (if_neg q3)) rfl) (fun q3 => ?_))))))
  rw [show syG M nt ns nk s t u = if nk = 12 then (M, -4) else (syM M nk s t u, nI nk) from (if_pos ⟨q, q2⟩).trans (if_pos q3)]
  by_cases e : nk = 12
  · refine brT ?_ (rs_i (if_pos e) rfl)
    show M.1 3 = 12
    rw [h3, e]; rfl
  · have i0 : Int32.ofInt 3 * M.1 3 = nI (3 * nk) := by rw [h3]; exact nI_mul 3 nk
    have i1 : Int32.ofInt 3 * M.1 3 + Int32.ofInt 1 = nI (3 * nk + 1) := by rw [i0]; exact nI_1 _
    have i2 : Int32.ofInt 3 * M.1 3 + Int32.ofInt 2 = nI (3 * nk + 2) := by rw [i0]; exact nI_add _ 2
    refine brF ?_ (Exists.intro _ (And.intro rfl (And.intro ?_ (Exists.intro _ (And.intro rfl (And.intro ?_ (Exists.intro _ (And.intro rfl (And.intro ?_ (And.intro rfl (And.intro trivial ?_)))))))))))
    · show ¬ M.1 3 = 12
      rw [h3]
      intro z
      exact e ((nI_eq (b := 12) (by omega) (by decide)).mp z)
    · show vp_in (Int32.ofInt 3 * M.1 3) (M.2.1 4).length
      rw [i0, l4]; exact vp_nI (by omega) (by decide)
    · show vp_in (Int32.ofInt 3 * M.1 3 + Int32.ofInt 1) ((M.2.1 4).set (Int32.ofInt 3 * M.1 3).toNatClampNeg s).length
      rw [i1, List.length_set, l4]; exact vp_nI (by omega) (by decide)
    · show vp_in (Int32.ofInt 3 * M.1 3 + Int32.ofInt 2) (((M.2.1 4).set (Int32.ofInt 3 * M.1 3).toNatClampNeg s).set (Int32.ofInt 3 * M.1 3 + Int32.ofInt 1).toNatClampNeg t).length
      rw [i2, List.length_set, List.length_set, l4]; exact vp_nI (by omega) (by decide)
    · rw [if_neg e]
      refine ⟨?_, some_int ?_⟩
      · show mk S (mN (mR M 4 ((((M.2.1 4).set (Int32.ofInt 3 * M.1 3).toNatClampNeg s).set (Int32.ofInt 3 * M.1 3 + Int32.ofInt 1).toNatClampNeg t).set (Int32.ofInt 3 * M.1 3 + Int32.ofInt 2).toNatClampNeg u)) 3 (M.1 3 + 1)) = mk S (syM M nk s t u)
        rw [i1, i2, i0, nI_clamp (by omega), nI_clamp (by omega), nI_clamp (by omega), h3, nI_1]
        rfl
      · show M.1 3 + 1 - Int32.ofInt 1 = nI nk
        rw [h3, nI_1]; exact nI_pred _
def sdG (M : MS) (nk : Nat) (k what : Int32) : Int32 := if tP nk k then (if p2P what then (M.2.1 4).getD (3 * k.toNatClampNeg + what.toNatClampNeg) 0 else -7) else -5
set_option maxRecDepth 100000 in
theorem g_said (h : MInv M nt ns nk) (k what : Int32) : Ans l 2 X sgX8_said [.ref 27, .int k, .int what] (mk S M) (sdG M nk k what) := by
  obtain ⟨h3, h12⟩ := h.2.2.2.2.1
  have hc : Ans l 0 X sgX8_in [.int k, .int 0, .int (M.1 3 - Int32.ofInt 1)] (mk S M) (bI (tP nk k)) := by
    rw [h3]
    exact m_in _ _ _
  refine Ctr.of okX8_said rfl (Nat.le_of_ble_eq_true rfl) (run_sound okX8_said noCut 100 ?_)
  refine kH hc (by decide) (brB' (fun q => ⟨rfl, some_int (if_neg q).symm⟩) (fun q => kH (m_in _ _ _) (by decide) (brB' (fun q2 => ⟨rfl, some_int ((if_pos q).trans (if_neg q2)).symm⟩) (fun q2 => ?_))))
  have e : sdG M nk k what = (M.2.1 4).getD (3 * k.toNatClampNeg + what.toNatClampNeg) 0 := (if_pos q).trans (if_pos q2)
  rw [e]
  obtain ⟨j, hj, rfl⟩ := inN (by omega) q
  obtain ⟨u, hu, rfl⟩ := inC (c := 2) (n := 2) (by decide) (by decide) q2
  have i0 : Int32.ofInt 3 * nI j + nI u = nI (3 * j + u) := by rw [show Int32.ofInt 3 * nI j = nI (3 * j) from nI_mul 3 j, nI_add]
  have ix := ix_tk h hj (show u < 3 by omega)
  refine Exists.intro _ (And.intro rfl (And.intro ?_ ⟨rfl, some_int ?_⟩))
  · show vp_in (Int32.ofInt 3 * nI j + nI u) (M.2.1 4).length
    rw [i0]; exact ix.1
  · show (M.2.1 4).getD (Int32.ofInt 3 * nI j + nI u).toNatClampNeg 0 = _
    rw [i0, ix.2, nI_clamp (by omega), nI_clamp (by omega)]
def fdM (M : MS) (ta : Nat) (f : Nat → Int32) : Nat → List Int32
  | 0 => M.2.1 5
  | j + 1 => (fdM M ta f j).set (ta + j) (f j)
def fdV (a b c d e : Int32) (j : Nat) : Int32 := if nI j = 0 then a else if nI j = 1 then b else if nI j = 2 then c else if nI j = 3 then d else e
theorem fdM_len {ta : Nat} {f : Nat → Int32} : ∀ j, (fdM M ta f j).length = (M.2.1 5).length
  | 0 => rfl
  | j + 1 => by rw [fdM, List.length_set, fdM_len j]
abbrev feQ (n a b c d e : Int32) : Prop := ((1 : Int32) ≤ n ∧ n ≤ 5) ∧ byP a ∧ byP b ∧ byP c ∧ byP d ∧ byP e
def fdG (M : MS) (ta : Nat) (n a b c d e : Int32) : MS × Int32 := if feQ n a b c d e then (if 160 < ta + n.toNatClampNeg then (M, -4) else (mN (mR M 5 (fdM M ta (fdV a b c d e) n.toNatClampNeg)) 6 (nI (ta + n.toNatClampNeg)), nI (ta + n.toNatClampNeg))) else (M, -2)
set_option maxRecDepth 100000 in
set_option maxHeartbeats 1000000 in
theorem g_feed (hM : MLen M) {ta : Nat} (hta : M.1 6 = nI ta) (hta2 : ta ≤ 160) (n a b c d e : Int32) : Ctr l 2 X sgX8_feed [.ref 27, .int n, .int a, .int b, .int c, .int d, .int e] (mk S M) (rsQ S (fdG M ta n a b c d e)) := by
  have l5 : (M.2.1 5).length = 160 := hM.2.2.2.1
  refine Ctr.of okX8_feed rfl (Nat.le_of_ble_eq_true rfl) (run_sound okX8_feed cNf 200 ?_)
  refine kH (m_in _ _ _) (by decide) (brB' (fun q => rs_i (if_neg (fun z => q z.1)) rfl) (fun q => ?_))
  refine kH (m_isByte _) (by decide) (brB' (fun q => rs_i (if_neg (fun z => q z.2.1)) rfl) (fun qa => ?_))
  refine kH (m_isByte _) (by decide) (brB' (fun q => rs_i (if_neg (fun z => q z.2.2.1)) rfl) (fun qb => ?_))
  refine kH (m_isByte _) (by decide) (brB' (fun q => rs_i (if_neg (fun z => q z.2.2.2.1)) rfl) (fun qc => ?_))
  refine kH (m_isByte _) (by decide) (brB' (fun q => rs_i (if_neg (fun z => q z.2.2.2.2.1)) rfl) (fun qd => ?_))
  refine kH (m_isByte _) (by decide) (brB' (fun q => rs_i (if_neg (fun z => q z.2.2.2.2.2)) rfl) (fun qe => ?_))
  have yes : feQ n a b c d e := ⟨q, qa, qb, qc, qd, qe⟩
  rw [show fdG M ta n a b c d e = if 160 < ta + n.toNatClampNeg then (M, -4) else (mN (mR M 5 (fdM M ta (fdV a b c d e) n.toNatClampNeg)) 6 (nI (ta + n.toNatClampNeg)), nI (ta + n.toNatClampNeg)) from if_pos yes]
  obtain ⟨m, hm, rfl⟩ : ∃ m : Nat, m ≤ 5 ∧ n = nI m := inC (c := 5) (by decide) (by decide) ⟨Int32.le_trans (by decide) q.1, q.2⟩
  rw [nI_clamp (show m < 2 ^ 31 by omega)]
  have es : M.1 6 + nI m = nI (ta + m) := by rw [hta, nI_add]
  by_cases hf : 160 < ta + m
  · refine brF ?_ (rs_i (if_pos hf) rfl)
    show ¬ M.1 6 + nI m ≤ Int32.ofInt 160
    rw [es]
    exact nI_ge (a := 160) hf (by omega)
  · refine brT ?_ ?_
    · show M.1 6 + nI m ≤ Int32.ofInt 160
      rw [es]
      exact nI_le (b := 160) (by omega) (by decide)
    rw [if_neg hf]
    have key : ∀ j, j ≤ m → WP l (rmD 2 0 0) X sgX8_feed kX8_feed (rsQ S (mN (mR M 5 (fdM M ta (fdV a b c d e) m)) 6 (nI (ta + m)), nI (ta + m))) 32 [some (.ref 27), some (.int (nI m)), some (.int a), some (.int b), some (.int c), some (.int d), some (.int e), some (.int (nI j))] [] (mk S (mN (mR M 5 (fdM M ta (fdV a b c d e) j)) 6 (nI (ta + j)))) 0 0 := by
      refine down ?_ (fun j hj ih => ?_)
      · exact run_sound okX8_feed cNf 200 (brT (Int32.le_refl _) ⟨rfl, rfl⟩)
      · have t59 : ∀ x, x = fdV a b c d e j → WP l (rmD 2 0 0) X sgX8_feed kX8_feed (rsQ S (mN (mR M 5 (fdM M ta (fdV a b c d e) m)) 6 (nI (ta + m)), nI (ta + m))) 59 [some (.ref 27), some (.int (nI m)), some (.int a), some (.int b), some (.int c), some (.int d), some (.int e), some (.int (nI j))] [.int x, .int (nI (ta + j)), .ref 31] (mk S (mN (mR M 5 (fdM M ta (fdV a b c d e) j)) 6 (nI (ta + j)))) 0 0 := by
          intro x hx
          refine run_sound okX8_feed cNf 200 (Exists.intro _ (And.intro rfl (And.intro ?_ (And.intro rfl (And.intro trivial ?_)))))
          · show vp_in (nI (ta + j)) (fdM M ta (fdV a b c d e) j).length
            rw [fdM_len, l5]; exact vp_nI (by omega) (by decide)
          · have e1 : (fdM M ta (fdV a b c d e) j).set (nI (ta + j)).toNatClampNeg x = fdM M ta (fdV a b c d e) (j + 1) := by rw [nI_clamp (by omega), hx]; rfl
            rw [← e1, show ta + (j + 1) = (ta + j) + 1 by omega, ← nI_1 j, ← nI_1 (ta + j)] at ih
            exact ih
        refine run_sound okX8_feed cNf 200 (brF (ge_no (n := m) rfl hj (by omega)) (br (fun z => t59 _ (if_pos z).symm) (fun z => br (fun z1 => t59 _ ((if_neg z).trans (if_pos z1)).symm) (fun z1 => br (fun z2 => t59 _ ((if_neg z).trans ((if_neg z1).trans (if_pos z2))).symm) (fun z2 => br (fun z3 => t59 _ ((if_neg z).trans ((if_neg z1).trans ((if_neg z2).trans (if_pos z3)))).symm) (fun z3 => t59 _ ((if_neg z).trans ((if_neg z1).trans ((if_neg z2).trans (if_neg z3)))).symm))))))
    have q := key 0 (Nat.zero_le _)
    have e0 : mk S (mN (mR M 5 (fdM M ta (fdV a b c d e) 0)) 6 (nI (ta + 0))) = mk S M := by
      show mk S (mN (mR M 5 (M.2.1 5)) 6 (nI ta)) = mk S M
      rw [← hta]
      rfl
    rw [e0] at q
    exact q
end MTALK
end
section
-- 82.mwor
/-! THE REFERENCE in general: what the sayings leave -/
section MWOR
variable {l : Launch} {X : List (List Int32)} {S : CS} {M : MS} {hp : AH} {nt ns nk : Nat}
abbrev zI {S : CS} {M : MS} {v w : Int32} (hM : MLen M) (e : v = w) : zA S M (.int w) (mk S M) (some (.int v)) := ⟨⟨getZ M, hM.z, rfl⟩, some_int e⟩
abbrev zJ {S : CS} {M : MS} {v w : Int64} (hM : MLen M) (e : v = w) : zA S M (.long w) (mk S M) (some (.long v)) := ⟨⟨getZ M, hM.z, rfl⟩, some_long e⟩
def beG (M : MS) (nk : Nat) (n what : Int32) : Int32 := if (0 : Int32) ≤ n ∧ n ≤ nI nk then (if p3P what then (if what = 0 then cntF (woT M n.toNatClampNeg) 32 else if what = 1 then alF (woT M n.toNatClampNeg) 32 else if what = 2 then noF (woT M n.toNatClampNeg) 32 else leF (woT M n.toNatClampNeg) 32 0) else -7) else -5
set_option maxRecDepth 100000 in
theorem g_behind (h : MInv M nt ns nk) (n what : Int32) : Ctr l 5 X sgX8_behind [.ref 27, .int n, .int what] (mk S M) (zA S M (.int (beG M nk n what))) := by
  obtain ⟨h3, h12⟩ := h.2.2.2.2.1
  have hc : Ans l 0 X sgX8_in [.int n, .int 0, .int (M.1 3)] (mk S M) (bI ((0 : Int32) ≤ n ∧ n ≤ nI nk)) := by
    rw [h3]
    exact m_in _ _ _
  refine Ctr.of okX8_behind rfl (Nat.le_of_ble_eq_true rfl) (run_sound okX8_behind noCut 100 ?_)
  refine kH hc (by decide) (brB' (fun q => zI h.1 (if_neg q).symm) (fun q => kH (m_in _ _ _) (by decide) (brB' (fun q2 => zI h.1 ((if_pos q).trans (if_neg q2)).symm) (fun q2 => ⟨4, _, by decide, g_reads h, ?_⟩))))
  rintro hp' w ⟨⟨z, hz, hzm, rfl⟩, rfl⟩
  have e : beG M nk n what = if what = 0 then cntF (woT M n.toNatClampNeg) 32 else if what = 1 then alF (woT M n.toNatClampNeg) 32 else if what = 2 then noF (woT M n.toNatClampNeg) 32 else leF (woT M n.toNatClampNeg) 32 0 := (if_pos q).trans (if_pos q2)
  rw [e]
  obtain ⟨j, hj, rfl⟩ := inC (c := nI nk) (n := nk) (by rw [nI_toInt (by omega)]) (by omega) q
  rw [nI_clamp (show j < 2 ^ 31 by omega)]
  have hw : AnsL l 3 X sgX8_worldsOf [.ref 27, .int (nI j)] (mk S (sc M z)) (woT M j) := by
    rw [← woT_sc z]
    exact g_worldsOf (h.sc hz) hzm hj
  refine kH hw (by decide) ?_
  rcases in03 q2 with rfl | rfl | rfl | rfl
  · rw [if_pos (show (0 : Int32) = 0 from rfl)]
    exact brT rfl (kH (m_bitsOf _) (by decide) ⟨⟨z, hz, rfl⟩, rfl⟩)
  · rw [if_neg (show ¬ (1 : Int32) = 0 by decide), if_pos (show (1 : Int32) = 1 from rfl)]
    exact brF (by decide) (brT rfl (kH (m_allIn _) (by decide) ⟨⟨z, hz, rfl⟩, rfl⟩))
  · rw [if_neg (show ¬ (2 : Int32) = 0 by decide), if_neg (show ¬ (2 : Int32) = 1 by decide), if_pos (show (2 : Int32) = 2 from rfl)]
    exact brF (by decide) (brF (by decide) (brT rfl (kH (m_noneIn _) (by decide) ⟨⟨z, hz, rfl⟩, rfl⟩)))
  · rw [if_neg (show ¬ (3 : Int32) = 0 by decide), if_neg (show ¬ (3 : Int32) = 1 by decide), if_neg (show ¬ (3 : Int32) = 2 by decide)]
    exact brF (by decide) (brF (by decide) (brF (by decide) (kH (m_leastOf _) (by decide) ⟨⟨z, hz, rfl⟩, rfl⟩)))
def cnG (M : MS) : Nat → Nat → Int32
  | 0, _ => -1
  | m + 1, k => if woT M (k + 1) = 0 then nI k else cnG M m (k + 1)
set_option maxRecDepth 100000 in
theorem g_cannot (h : MInv M nt ns nk) : Ctr l 5 X sgX8_cannot [.ref 27] (mk S M) (zA S M (.int (cnG M nk 0))) := by
  obtain ⟨h3, h12⟩ := h.2.2.2.2.1
  refine Ctr.of okX8_cannot rfl (Nat.le_of_ble_eq_true rfl) (run_sound okX8_cannot (fun i => Nat.beq i 4) 100 ⟨4, _, by decide, g_reads h, ?_⟩)
  rintro hp' w ⟨⟨z, hz, hzm, rfl⟩, rfl⟩
  have key : ∀ j, j ≤ nk → cnG M (nk - j) j = cnG M nk 0 → WP l (rmD 5 0 0) X sgX8_cannot kX8_cannot (zA S M (.int (cnG M nk 0))) 4 [some (.ref 27), some (.int (nI j))] [] (mk S (sc M z)) 0 0 := by
    refine down (fun e => ?_) (fun j hj ih e => ?_)
    · rw [Nat.sub_self] at e
      refine run_sound okX8_cannot (fun i => Nat.beq i 4) 100 (brT ?_ ⟨⟨z, hz, rfl⟩, some_int e⟩)
      show M.1 3 ≤ nI nk
      rw [h3]; exact Int32.le_refl _
    · rw [show nk - j = (nk - (j + 1)) + 1 by omega, cnG] at e
      have hw : AnsL l 3 X sgX8_worldsOf [.ref 27, .int (nI j + Int32.ofInt 1)] (mk S (sc M z)) (woT M (j + 1)) := by
        rw [show nI j + Int32.ofInt 1 = nI (j + 1) from nI_1 j, ← woT_sc z]
        exact g_worldsOf (h.sc hz) hzm hj
      refine run_sound okX8_cannot (fun i => Nat.beq i 4) 100 (brF ?_ (kH hw (by decide) (brC (fun q => ?_) (fun q => ?_))))
      · show ¬ M.1 3 ≤ nI j
        rw [h3]; exact nI_ge hj (by omega)
      · rw [if_pos (show woT M (j + 1) = 0 from q)] at e
        exact ⟨⟨z, hz, rfl⟩, some_int e⟩
      · rw [if_neg (show ¬ woT M (j + 1) = 0 from q)] at e
        have ih := ih e
        rw [← nI_1 j] at ih
        exact ih
  exact key 0 (Nat.zero_le _) rfl
end MWOR
end
section
-- 82b.mwor
section MWORB
variable {l : Launch} {X : List (List Int32)} {S : CS} {M : MS} {hp : AH} {nt ns nk : Nat}
/-- the row of what fits holds it -/
def Ft (M : MS) (nk : Nat) : Prop := ∀ k, k < nk → M.2.2.2.getD k 0 = fsT M k
theorem fsT_sc (z : SZ) (k : Nat) : fsT (sc M z) k = fsT M k := fitT_sc z _ _ _ _
set_option maxRecDepth 100000 in
set_option maxHeartbeats 1000000 in
theorem g_findsFitting (h : MInv M nt ns nk) : Ctr l 5 X sgX8_findsFitting [.ref 27] (mk S M) (fun hp w => (∃ z, ScOk z ∧ Mt (sc M z) nt ∧ Ft (sc M z) nk ∧ hp = mk S (sc M z)) ∧ w = none) := by
  obtain ⟨h3, h12⟩ := h.2.2.2.2.1
  refine Ctr.of okX8_findsFitting rfl (Nat.le_of_ble_eq_true rfl) (run_sound okX8_findsFitting (fun i => Nat.beq i 4) 100 ⟨4, _, by decide, g_reads h, ?_⟩)
  rintro hp' w ⟨⟨z, hz, hzm, rfl⟩, rfl⟩
  have key : ∀ j, j ≤ nk → ∀ z : SZ, ScOk z → Mt (sc M z) nt → (∀ k, k < j → z.2.2.2.1.getD k 0 = fsT M k) → WP l (rmD 5 0 0) X sgX8_findsFitting kX8_findsFitting (fun hp w => (∃ z, ScOk z ∧ Mt (sc M z) nt ∧ Ft (sc M z) nk ∧ hp = mk S (sc M z)) ∧ w = none) 4 [some (.ref 27), some (.int (nI j))] [] (mk S (sc M z)) 0 0 := by
    refine down (fun z hz hzm hf => ?_) (fun j hj ih z hz hzm hf => ?_)
    · refine run_sound okX8_findsFitting (fun i => Nat.beq i 4) 100 (brT ?_ ⟨rfl, ⟨z, hz, hzm, fun k hk => (hf k hk).trans (fsT_sc z k).symm, rfl⟩, rfl⟩)
      show M.1 3 ≤ nI nk
      rw [h3]; exact Int32.le_refl _
    · have hl : z.2.2.2.1.length = 12 := hz.2.2.2
      have hc : AnsL l 2 X sgX8_fitsSaying [.ref 27, .int (nI j)] (mk S (sc M z)) (fsT M j) := by
        rw [← fsT_sc z]
        exact g_fitsSaying (h.sc hz) hzm hj
      refine run_sound okX8_findsFitting (fun i => Nat.beq i 4) 100 (brF ?_ (kH hc (by decide) (Exists.intro _ (And.intro rfl (And.intro ?_ ?_)))))
      · show ¬ M.1 3 ≤ nI j
        rw [h3]; exact nI_ge hj (by omega)
      · show vp_in (nI j) z.2.2.2.1.length
        rw [hl]; exact vp_nI (by omega) (by decide)
      · have ih := ih (z.1, z.2.1, z.2.2.1, z.2.2.2.1.set (nI j).toNatClampNeg (fsT M j), z.2.2.2.2) ⟨hz.1, hz.2.1, hz.2.2.1, by simpa using hl⟩ (fun k hk => (hzm k hk).trans ((mtF_sc _ k).trans (mtF_sc _ k).symm)) (fun k hk => by
          show (z.2.2.2.1.set (nI j).toNatClampNeg (fsT M j)).getD k 0 = fsT M k
          rw [nI_clamp (by omega)]
          by_cases e : k = j
          · subst e
            rw [List.getD_eq_getElem?_getD, List.getElem?_set_self (by omega)]
            rfl
          · rw [List.getD_eq_getElem?_getD, List.getElem?_set_ne (fun q => e q.symm), ← List.getD_eq_getElem?_getD]
            exact hf k (by omega))
        rw [← nI_1 j] at ih
        exact ih
  exact key 0 (Nat.zero_le _) z hz hzm (fun k hk => absurd hk (Nat.not_lt_zero _))
def wiT (M : MS) (left : Int32) : Nat → Int64
  | 0 => woT M 0
  | k + 1 => wiT M left k &&& (if left >>> (nI k &&& 31) &&& 1 = 1 then ALLW else fsT M k)
theorem wiT_sc (z : SZ) (left : Int32) : ∀ k, wiT (sc M z) left k = wiT M left k
  | 0 => woT_sc z 0
  | k + 1 => by rw [wiT, wiT, wiT_sc z left k, fsT_sc]
set_option maxRecDepth 100000 in
theorem g_without (h : MInv M nt ns nk) (hm : Mt M nt) (hf : Ft M nk) (left : Int32) : AnsL l 1 X sgX8_without [.ref 27, .int left] (mk S M) (wiT M left nk) := by
  obtain ⟨h3, h12⟩ := h.2.2.2.2.1
  have l12 : M.2.2.2.length = 12 := h.1.z.2.2.2
  refine Ctr.of okX8_without rfl (Nat.le_of_ble_eq_true rfl) (run_sound okX8_without (fun i => Nat.beq i 7) 100 ?_)
  have key : ∀ j, j ≤ nk → WP l (rmD 1 0 0) X sgX8_without kX8_without (fun h w => h = mk S M ∧ w = some (.long (wiT M left nk))) 7 [some (.ref 27), some (.int left), some (.long (wiT M left j)), none, some (.int (nI j))] [] (mk S M) 0 0 := by
    refine down ?_ (fun j hj ih => ?_)
    · refine run_sound okX8_without (fun i => Nat.beq i 7) 100 (brT ?_ ⟨rfl, rfl, rfl⟩)
      show M.1 3 ≤ nI nk
      rw [h3]; exact Int32.le_refl _
    · refine run_sound okX8_without (fun i => Nat.beq i 7) 100 (brF ?_ (br (fun q => ?_) (fun q => Exists.intro _ (And.intro rfl (And.intro ?_ ?_)))))
      · show ¬ M.1 3 ≤ nI j
        rw [h3]; exact nI_ge hj (by omega)
      · rw [show wiT M left (j + 1) = wiT M left j &&& ALLW by rw [wiT, if_pos (show left >>> (nI j &&& 31) &&& 1 = 1 from q)], ← nI_1 j] at ih
        exact ih
      · show vp_in (nI j) M.2.2.2.length
        rw [l12]; exact vp_nI (by omega) (by decide)
      · have e : M.2.2.2.getD (nI j).toNatClampNeg 0 = fsT M j := by rw [nI_clamp (by omega)]; exact hf j hj
        rw [show wiT M left (j + 1) = wiT M left j &&& M.2.2.2.getD (nI j).toNatClampNeg 0 by rw [e, wiT, if_neg (show ¬ left >>> (nI j &&& 31) &&& 1 = 1 from q)], ← nI_1 j] at ih
        exact ih
  exact kH (g_law h hm) (by decide) (key 0 (Nat.zero_le _))
def liG (M : MS) (nk : Nat) : Nat → Int32
  | 0 => 0
  | k + 1 => if wiT M 0 nk = 0 then liG M nk k ||| (if ¬ wiT M ((1 : Int32) <<< (nI k &&& 31)) nk = 0 then (1 : Int32) <<< (nI k &&& 31) else 0) else liG M nk k
theorem liG_no (h : ¬ wiT M 0 nk = 0) : ∀ k, liG M nk k = 0
  | 0 => rfl
  | k + 1 => by rw [liG, if_neg h, liG_no h k]
set_option maxRecDepth 100000 in
set_option maxHeartbeats 1000000 in
theorem g_lies (h : MInv M nt ns nk) : Ctr l 6 X sgX8_lies [.ref 27] (mk S M) (zA S M (.int (liG M nk nk))) := by
  obtain ⟨h3, h12⟩ := h.2.2.2.2.1
  refine Ctr.of okX8_lies rfl (Nat.le_of_ble_eq_true rfl) (run_sound okX8_lies (fun i => Nat.beq i 6) 100 ⟨5, _, by decide, g_findsFitting h, ?_⟩)
  rintro hp' w ⟨⟨z, hz, hzm, hzf, rfl⟩, rfl⟩
  have hw : ∀ left, AnsL l 1 X sgX8_without [.ref 27, .int left] (mk S (sc M z)) (wiT M left nk) := fun left => by
    rw [← wiT_sc z]
    exact g_without (h.sc hz) hzm hzf left
  have key : ∀ j, j ≤ nk → WP l (rmD 6 0 0) X sgX8_lies kX8_lies (zA S M (.int (liG M nk nk))) 6 [some (.ref 27), some (.int (liG M nk j)), some (.int (nI j))] [] (mk S (sc M z)) 0 0 := by
    refine down ?_ (fun j hj ih => ?_)
    · refine run_sound okX8_lies (fun i => Nat.beq i 6) 100 (brT ?_ ⟨⟨z, hz, rfl⟩, rfl⟩)
      show M.1 3 ≤ nI nk
      rw [h3]; exact Int32.le_refl _
    · refine run_sound okX8_lies (fun i => Nat.beq i 6) 100 (brF ?_ (kH (hw 0) (by decide) (brC (fun q => kH (hw _) (by decide) (brC (fun q2 => ?_) (fun q2 => ?_))) (fun q => ⟨⟨z, hz, rfl⟩, some_int ?_⟩))))
      · show ¬ M.1 3 ≤ nI j
        rw [h3]; exact nI_ge hj (by omega)
      · rw [show liG M nk (j + 1) = liG M nk j ||| 0 by rw [liG, if_pos (show wiT M 0 nk = 0 from q), if_neg (fun z => z (show wiT M ((1 : Int32) <<< (nI j &&& 31)) nk = 0 from q2))], ← nI_1 j] at ih
        exact ih
      · rw [show liG M nk (j + 1) = liG M nk j ||| ((1 : Int32) <<< (nI j &&& 31)) by rw [liG, if_pos (show wiT M 0 nk = 0 from q), if_pos (show ¬ wiT M ((1 : Int32) <<< (nI j &&& 31)) nk = 0 from q2)], ← nI_1 j] at ih
        exact ih
      · rw [liG_no q, liG_no q]
  exact key 0 (Nat.zero_le _)
end MWORB
end
section
-- 82c.mwor
section MWORC
variable {l : Launch} {X : List (List Int32)} {S : CS} {M : MS} {hp : AH} {nt ns nk : Nat}
/-- the fewest bits of those that can be, the least as a number -/
def beB (P : Int32 → Bool) : Nat → Int32
  | 0 => -1
  | n + 1 => if (beB P n = -1 ∨ cntF (nI n).toInt64 32 < cntF (beB P n).toInt64 32) ∧ P (nI n) = true then nI n else beB P n
def beO (P : Int32 → Bool) (n : Nat) (what : Int32) : Int32 := if what = 1 ∨ beB P n = -1 then beB P n else cntF (beB P n).toInt64 32
def leG (M : MS) (nk : Nat) (what : Int32) : Int32 := if p1P what then beO (fun left => decide (¬ wiT M left nk = 0)) (2 ^ nk) what else -2
theorem shl_nk {n : Nat} (h : n ≤ 12) : (1 : Int32) <<< (nI n &&& 31) = nI (2 ^ n) := by
  have a : ∀ n : Fin 13, (1 : Int32) <<< (nI n.val &&& 31) = nI (2 ^ n.val) := by decide +kernel
  exact a ⟨n, by omega⟩
theorem pw_nk {n : Nat} (h : n ≤ 12) : 2 ^ n < 2 ^ 31 := Nat.pow_lt_pow_right (by decide) (by omega)
def cNle (i : Nat) : Bool := Nat.beq i 13 || Nat.beq i 32
set_option maxRecDepth 100000 in
set_option maxHeartbeats 1000000 in
theorem g_least (h : MInv M nt ns nk) (what : Int32) : Ctr l 6 X sgX8_least [.ref 27, .int what] (mk S M) (zA S M (.int (leG M nk what))) := by
  obtain ⟨h3, h12⟩ := h.2.2.2.2.1
  refine Ctr.of okX8_least rfl (Nat.le_of_ble_eq_true rfl) (run_sound okX8_least cNle 200 ?_)
  refine kH (m_in _ _ _) (by decide) (brB' (fun q => zI h.1 (if_neg q).symm) (fun q => ⟨5, _, by decide, g_findsFitting h, ?_⟩))
  rw [show leG M nk what = beO (fun left => decide (¬ wiT M left nk = 0)) (2 ^ nk) what from if_pos q]
  rintro hp' w ⟨⟨z, hz, hzm, hzf, rfl⟩, rfl⟩
  have hw : ∀ left, AnsL l 1 X sgX8_without [.ref 27, .int left] (mk S (sc M z)) (wiT M left nk) := fun left => by
    rw [← wiT_sc z]
    exact g_without (h.sc hz) hzm hzf left
  obtain ⟨P, hP⟩ : ∃ P : Int32 → Bool, P = fun left => decide (¬ wiT M left nk = 0) := ⟨_, rfl⟩
  rw [← hP]
  have hPy : ∀ left, ¬ wiT M left nk = 0 → P left = true := fun left z => by rw [hP]; exact decide_eq_true z
  have hPn : ∀ left, wiT M left nk = 0 → ¬ P left = true := fun left z => by rw [hP]; exact fun y => of_decide_eq_true y z
  have hsh : (1 : Int32) <<< (M.1 3 &&& 31) = nI (2 ^ nk) := by rw [h3, shl_nk h12]
  have hpw := pw_nk h12
  generalize 2 ^ nk = N at hsh hpw ⊢
  have key : ∀ j, j ≤ N → ∀ x4, WP l (rmD 6 0 0) X sgX8_least kX8_least (zA S M (.int (beO P N what))) 13 [some (.ref 27), some (.int what), some (.int (beB P j)), some (.int (nI j)), x4] [] (mk S (sc M z)) 0 0 := by
    refine down (fun x4 => ?_) (fun j hj ih x4 => ?_)
    · refine run_sound okX8_least cNle 200 (brT ?_ (br (fun p => ⟨⟨z, hz, rfl⟩, some_int (if_pos (Or.inl p)).symm⟩) (fun p => br (fun p2 => ⟨⟨z, hz, rfl⟩, some_int (if_pos (Or.inr p2)).symm⟩) (fun p2 => kH (m_bitsOf _) (by decide) ⟨⟨z, hz, rfl⟩, some_int (if_neg (fun y => y.elim p p2)).symm⟩))))
      show (1 : Int32) <<< (M.1 3 &&& 31) ≤ nI N
      rw [hsh]; exact Int32.le_refl _
    · have t32 : ∀ v : Int32, (v = 1 ∧ (beB P j = -1 ∨ cntF (nI j).toInt64 32 < cntF (beB P j).toInt64 32)) ∨ (v = 0 ∧ ¬ (beB P j = -1 ∨ cntF (nI j).toInt64 32 < cntF (beB P j).toInt64 32)) → WP l (rmD 6 0 0) X sgX8_least kX8_least (zA S M (.int (beO P N what))) 32 [some (.ref 27), some (.int what), some (.int (beB P j)), some (.int (nI j)), x4] [.int v] (mk S (sc M z)) 0 0 := by
        intro v hv
        rcases hv with ⟨rfl, hf⟩ | ⟨rfl, hf⟩
        · refine run_sound okX8_least (fun i => Nat.beq i 13) 200 (brF (by decide) (kH (hw _) (by decide) (brC (fun p => ?_) (fun p => ?_))))
          · have ih := ih (some (.int 1))
            rw [show beB P (j + 1) = beB P j by rw [beB, if_neg (fun y => hPn _ p y.2)], ← nI_1 j] at ih
            exact ih
          · have ih := ih (some (.int 1))
            rw [show beB P (j + 1) = nI j by rw [beB, if_pos ⟨hf, hPy _ p⟩], ← nI_1 j] at ih
            exact ih
        · have ih := ih (some (.int 0))
          rw [show beB P (j + 1) = beB P j by rw [beB, if_neg (fun y => hf y.1)], ← nI_1 j] at ih
          exact run_sound okX8_least (fun i => Nat.beq i 13) 200 (brT rfl ih)
      refine run_sound okX8_least cNle 200 (brF ?_ (br (fun p => t32 1 (Or.inl ⟨rfl, Or.inl p⟩)) (fun p => kH (m_bitsOf _) (by decide) (kH (m_bitsOf _) (by decide) (br (fun p2 => t32 0 (Or.inr ⟨rfl, fun y => y.elim p (fun y => absurd y (Int32.not_lt.mpr p2))⟩)) (fun p2 => t32 1 (Or.inl ⟨rfl, Or.inr (Int32.not_le.mp p2)⟩)))))))
      show ¬ (1 : Int32) <<< (M.1 3 &&& 31) ≤ nI j
      rw [hsh]; exact nI_ge hj hpw
  exact key 0 (Nat.zero_le _) none
end MWORC
end
section
-- 83.mmad
/-! THE REFERENCE in general: mad ones, habits, kinds -/
section MMAD
variable {l : Launch} {X : List (List Int32)} {S : CS} {M : MS} {hp : AH} {nt ns nk : Nat}
/-- a saying's worlds, were its speaker of a kind -/
def asT (M : MS) (k : Nat) (kind : Int32) : Int64 := canL kind ((M.2.1 2).getD (tk M k 0) 0) (nI k) (mtF M (10 * tk M k 1 + 2 * tk M k 0 + tk M k 2)) (mtF M (10 * tk M k 1 + 2 * tk M k 0 + 1 - tk M k 2))
theorem asT_sc (z : SZ) (k : Nat) (kind : Int32) : asT (sc M z) k kind = asT M k kind := by
  unfold asT
  rw [mtF_sc, mtF_sc]
  rfl
abbrev mdP (M : MS) (a : Int32) (k : Nat) : Prop := a >>> (nI (tk M k 0) &&& 31) &&& 1 = 1
def mdT (M : MS) (a : Int32) : Nat → Int64
  | 0 => woT M 0
  | k + 1 => mdT M a k &&& asT M k (if mdP M a k then 4 else (M.2.1 1).getD (tk M k 0) 0)
theorem mdT_sc (z : SZ) (a : Int32) : ∀ k, mdT (sc M z) a k = mdT M a k
  | 0 => woT_sc z 0
  | k + 1 => by
    rw [mdT, mdT, mdT_sc z a k, asT_sc]
    rfl
def cNmd (i : Nat) : Bool := Nat.beq i 7 || Nat.beq i 28
set_option maxRecDepth 100000 in
set_option maxHeartbeats 1000000 in
theorem g_worldsMad (h : MInv M nt ns nk) (hm : Mt M nt) (a : Int32) : AnsL l 1 X sgX8_worldsMad [.ref 27, .int a] (mk S M) (mdT M a nk) := by
  obtain ⟨h3, h12⟩ := h.2.2.2.2.1
  obtain ⟨l1, l2, -⟩ := h.1
  refine Ctr.of okX8_worldsMad rfl (Nat.le_of_ble_eq_true rfl) (run_sound okX8_worldsMad cNmd 200 ?_)
  have key : ∀ j, j ≤ nk → ∀ x5 x6, WP l (rmD 1 0 0) X sgX8_worldsMad kX8_worldsMad (fun h w => h = mk S M ∧ w = some (.long (mdT M a nk))) 7 [some (.ref 27), some (.int a), some (.long (mdT M a j)), none, some (.int (nI j)), x5, x6] [] (mk S M) 0 0 := by
    refine down (fun x5 x6 => ?_) (fun j hj ih x5 x6 => ?_)
    · refine run_sound okX8_worldsMad cNmd 200 (brT ?_ ⟨rfl, rfl, rfl⟩)
      show M.1 3 ≤ nI nk
      rw [h3]; exact Int32.le_refl _
    · obtain ⟨e1, e2, e3, t1, t2, t3⟩ := tk_ok h hj
      have i0 : Int32.ofInt 3 * nI j = nI (3 * j + 0) := nI_mul 3 j
      have i1 : Int32.ofInt 3 * nI j + Int32.ofInt 1 = nI (3 * j + 1) := by rw [i0]; exact nI_1 _
      have i2 : Int32.ofInt 3 * nI j + Int32.ofInt 2 = nI (3 * j + 2) := by rw [i0]; exact nI_add _ 2
      have v0 : vp_in (Int32.ofInt 3 * nI j) (M.2.1 4).length := by rw [i0]; exact (ix_tk h hj (by decide)).1
      have v1 : vp_in (Int32.ofInt 3 * nI j + Int32.ofInt 1) (M.2.1 4).length := by rw [i1]; exact (ix_tk h hj (by decide)).1
      have v2 : vp_in (Int32.ofInt 3 * nI j + Int32.ofInt 2) (M.2.1 4).length := by rw [i2]; exact (ix_tk h hj (by decide)).1
      have g0 : (M.2.1 4).getD (Int32.ofInt 3 * nI j).toNatClampNeg 0 = nI (tk M j 0) := by rw [i0, (ix_tk h hj (show 0 < 3 by decide)).2, Nat.add_zero]; exact e1
      have g1 : (M.2.1 4).getD (Int32.ofInt 3 * nI j + Int32.ofInt 1).toNatClampNeg 0 = nI (tk M j 1) := by rw [i1, (ix_tk h hj (show 1 < 3 by decide)).2]; exact e2
      have g2 : (M.2.1 4).getD (Int32.ofInt 3 * nI j + Int32.ofInt 2).toNatClampNeg 0 = nI (tk M j 2) := by rw [i2, (ix_tk h hj (show 2 < 3 by decide)).2]; exact e3
      obtain ⟨s0, hs0⟩ : ∃ s0, (M.2.1 4).getD (Int32.ofInt 3 * nI j).toNatClampNeg 0 = s0 := ⟨_, rfl⟩
      have hs : s0 = nI (tk M j 0) := hs0.symm.trans g0
      have w1 : vp_in s0 (M.2.1 1).length := by rw [hs, l1]; exact vp_nI t1 (by decide)
      have w2 : vp_in s0 (M.2.1 2).length := by rw [hs, l2]; exact vp_nI t1 (by decide)
      have n1 : (M.2.1 1).getD s0.toNatClampNeg 0 = (M.2.1 1).getD (tk M j 0) 0 := by rw [hs, nI_clamp (by omega)]
      have n2 : (M.2.1 2).getD s0.toNatClampNeg 0 = (M.2.1 2).getD (tk M j 0) 0 := by rw [hs, nI_clamp (by omega)]
      have hk := h.2.2.2.2.2.2.1 (tk M j 0) t1
      have cc : ∀ kind, AnsL l 0 X sgX8_canSay [.ref 27, .int kind, .int ((M.2.1 2).getD s0.toNatClampNeg 0), .int s0, .int ((M.2.1 4).getD (Int32.ofInt 3 * nI j + Int32.ofInt 1).toNatClampNeg 0), .int ((M.2.1 4).getD (Int32.ofInt 3 * nI j + Int32.ofInt 2).toNatClampNeg 0), .int (nI j)] (mk S M) (asT M j kind) := by
        intro kind
        rw [n2, hs, g1, g2]
        exact g_canSay h hm kind _ (nI j) t1 t2 t3 hk.two
      have t28 : ∀ v : Int32, (v = 1 ∧ mdP M a j) ∨ (v = 0 ∧ ¬ mdP M a j) → WP l (rmD 1 0 0) X sgX8_worldsMad kX8_worldsMad (fun h w => h = mk S M ∧ w = some (.long (mdT M a nk))) 28 [some (.ref 27), some (.int a), some (.long (mdT M a j)), none, some (.int (nI j)), some (.int s0), x6] [.int v] (mk S M) 0 0 := by
        intro v hv
        rcases hv with ⟨rfl, hf⟩ | ⟨rfl, hf⟩
        · have ih := ih (some (.int s0)) (some (.int 1))
          rw [show mdT M a (j + 1) = mdT M a j &&& asT M j 4 by rw [mdT, if_pos hf], ← nI_1 j] at ih
          exact run_sound okX8_worldsMad (fun i => Nat.beq i 7) 200 (brF (by decide) (Exists.intro _ (And.intro rfl (And.intro w2 (Exists.intro _ (And.intro rfl (And.intro v1 (Exists.intro _ (And.intro rfl (And.intro v2 (kH (cc 4) (by decide) ih)))))))))))
        · have ih := ih (some (.int s0)) (some (.int 0))
          rw [show mdT M a (j + 1) = mdT M a j &&& asT M j ((M.2.1 1).getD s0.toNatClampNeg 0) by rw [n1, mdT, if_neg hf], ← nI_1 j] at ih
          exact run_sound okX8_worldsMad (fun i => Nat.beq i 7) 200 (brT rfl (Exists.intro _ (And.intro rfl (And.intro w1 (Exists.intro _ (And.intro rfl (And.intro w2 (Exists.intro _ (And.intro rfl (And.intro v1 (Exists.intro _ (And.intro rfl (And.intro v2 (kH (cc _) (by decide) ih))))))))))))))
      refine run_sound okX8_worldsMad cNmd 200 (brF ?_ (Exists.intro _ (And.intro rfl (And.intro v0 ?_))))
      · show ¬ M.1 3 ≤ nI j
        rw [h3]; exact nI_ge hj (by omega)
      · have tt := t28
        rw [← hs0] at tt
        have es : mdP M a j ↔ a >>> (s0 &&& 31) &&& 1 = 1 := by rw [hs]
        rw [← hs0] at es
        exact br (fun p => tt 1 (Or.inl ⟨rfl, es.mpr p⟩)) (fun p => tt 0 (Or.inr ⟨rfl, fun y => p (es.mp y)⟩))
  exact kH (g_law h hm) (by decide) (key 0 (Nat.zero_le _) none none)
def mdG (M : MS) (ns nk : Nat) (what : Int32) : Int32 := if p1P what then beO (fun a => decide (¬ mdT M a nk = 0)) (2 ^ ns) what else -2
set_option maxRecDepth 100000 in
set_option maxHeartbeats 1000000 in
theorem g_mad (h : MInv M nt ns nk) (what : Int32) : Ctr l 5 X sgX8_mad [.ref 27, .int what] (mk S M) (zA S M (.int (mdG M ns nk what))) := by
  obtain ⟨h0, h5⟩ := h.2.2.2.1
  have h12 : ns ≤ 12 := by omega
  refine Ctr.of okX8_mad rfl (Nat.le_of_ble_eq_true rfl) (run_sound okX8_mad cNle 200 ?_)
  refine kH (m_in _ _ _) (by decide) (brB' (fun q => zI h.1 (if_neg q).symm) (fun q => ⟨4, _, by decide, g_reads h, ?_⟩))
  rw [show mdG M ns nk what = beO (fun a => decide (¬ mdT M a nk = 0)) (2 ^ ns) what from if_pos q]
  rintro hp' w ⟨⟨z, hz, hzm, rfl⟩, rfl⟩
  have hw : ∀ a, AnsL l 1 X sgX8_worldsMad [.ref 27, .int a] (mk S (sc M z)) (mdT M a nk) := fun a => by
    rw [← mdT_sc z]
    exact g_worldsMad (h.sc hz) hzm a
  obtain ⟨P, hP⟩ : ∃ P : Int32 → Bool, P = fun a => decide (¬ mdT M a nk = 0) := ⟨_, rfl⟩
  rw [← hP]
  have hPy : ∀ a, ¬ mdT M a nk = 0 → P a = true := fun a z => by rw [hP]; exact decide_eq_true z
  have hPn : ∀ a, mdT M a nk = 0 → ¬ P a = true := fun a z => by rw [hP]; exact fun y => of_decide_eq_true y z
  have hsh : (1 : Int32) <<< (M.1 0 &&& 31) = nI (2 ^ ns) := by rw [h0, shl_nk h12]
  have hpw := pw_nk h12
  generalize 2 ^ ns = N at hsh hpw ⊢
  have key : ∀ j, j ≤ N → ∀ x4, WP l (rmD 5 0 0) X sgX8_mad kX8_mad (zA S M (.int (beO P N what))) 13 [some (.ref 27), some (.int what), some (.int (beB P j)), some (.int (nI j)), x4] [] (mk S (sc M z)) 0 0 := by
    refine down (fun x4 => ?_) (fun j hj ih x4 => ?_)
    · refine run_sound okX8_mad cNle 200 (brT ?_ (br (fun p => ⟨⟨z, hz, rfl⟩, some_int (if_pos (Or.inl p)).symm⟩) (fun p => br (fun p2 => ⟨⟨z, hz, rfl⟩, some_int (if_pos (Or.inr p2)).symm⟩) (fun p2 => kH (m_bitsOf _) (by decide) ⟨⟨z, hz, rfl⟩, some_int (if_neg (fun y => y.elim p p2)).symm⟩))))
      show (1 : Int32) <<< (M.1 0 &&& 31) ≤ nI N
      rw [hsh]; exact Int32.le_refl _
    · have t32 : ∀ v : Int32, (v = 1 ∧ (beB P j = -1 ∨ cntF (nI j).toInt64 32 < cntF (beB P j).toInt64 32)) ∨ (v = 0 ∧ ¬ (beB P j = -1 ∨ cntF (nI j).toInt64 32 < cntF (beB P j).toInt64 32)) → WP l (rmD 5 0 0) X sgX8_mad kX8_mad (zA S M (.int (beO P N what))) 32 [some (.ref 27), some (.int what), some (.int (beB P j)), some (.int (nI j)), x4] [.int v] (mk S (sc M z)) 0 0 := by
        intro v hv
        rcases hv with ⟨rfl, hf⟩ | ⟨rfl, hf⟩
        · refine run_sound okX8_mad (fun i => Nat.beq i 13) 200 (brF (by decide) (kH (hw _) (by decide) (brC (fun p => ?_) (fun p => ?_))))
          · have ih := ih (some (.int 1))
            rw [show beB P (j + 1) = beB P j by rw [beB, if_neg (fun y => hPn _ p y.2)], ← nI_1 j] at ih
            exact ih
          · have ih := ih (some (.int 1))
            rw [show beB P (j + 1) = nI j by rw [beB, if_pos ⟨hf, hPy _ p⟩], ← nI_1 j] at ih
            exact ih
        · have ih := ih (some (.int 0))
          rw [show beB P (j + 1) = beB P j by rw [beB, if_neg (fun y => hf y.1)], ← nI_1 j] at ih
          exact run_sound okX8_mad (fun i => Nat.beq i 13) 200 (brT rfl ih)
      refine run_sound okX8_mad cNle 200 (brF ?_ (br (fun p => t32 1 (Or.inl ⟨rfl, Or.inl p⟩)) (fun p => kH (m_bitsOf _) (by decide) (kH (m_bitsOf _) (by decide) (br (fun p2 => t32 0 (Or.inr ⟨rfl, fun y => y.elim p (fun y => absurd y (Int32.not_lt.mpr p2))⟩)) (fun p2 => t32 1 (Or.inl ⟨rfl, Or.inr (Int32.not_le.mp p2)⟩)))))))
      show ¬ (1 : Int32) <<< (M.1 0 &&& 31) ≤ nI j
      rw [hsh]; exact nI_ge hj hpw
  exact key 0 (Nat.zero_le _) none
end MMAD
end
section
-- 84.mhab
/-! THE REFERENCE in general: habits in lowest terms, kinds -/
section MHAB
variable {l : Launch} {X : List (List Int32)} {S : CS} {M : MS} {hp : AH} {nt ns nk : Nat}
/-- the greatest number that divides both, by rests -/
def lgE : Nat → Int64 → Int64 → Bool
  | 0, _, b => if b = 0 then true else false
  | m + 1, a, b => if b = 0 then true else lgE m b (a - a / b * b)
def lgF : Nat → Int64 → Int64 → Int64
  | 0, a, _ => a
  | m + 1, a, b => if b = 0 then a else lgF m b (a - a / b * b)
def loG (a b : Int64) (part : Int32) : Int64 := if a = 0 then part.toInt64 else (if part = 0 then a else b) / lgF 12 a b
set_option maxRecDepth 100000 in
theorem m_lowest (a b : Int64) (part : Int32) (he : ¬ a = 0 → lgE 12 a b = true) (hn : ¬ a = 0 → ¬ lgF 12 a b = 0) : AnsL l 0 X sgX8_lowest [.long a, .long b, .int part] hp (loG a b part) := by
  refine Ctr.of okX8_lowest rfl (Nat.le_of_ble_eq_true rfl) (run_sound okX8_lowest (fun i => Nat.beq i 11) 200 ?_)
  refine brC (fun z => ⟨rfl, rfl, some_long (if_pos z).symm⟩) (fun z => ?_)
  have he := he z
  have hn := hn z
  rw [show loG a b part = (if part = 0 then a else b) / lgF 12 a b from if_neg z]
  obtain ⟨g, hg⟩ : ∃ g, lgF 12 a b = g := ⟨_, rfl⟩
  rw [hg] at hn ⊢
  have fin : ∀ (x y : Int64) x9, y = 0 → x = g → WP l (rmD 0 0 0) X sgX8_lowest kX8_lowest (fun h w => h = hp ∧ w = some (.long ((if part = 0 then a else b) / g))) 11 [some (.long a), none, some (.long b), none, some (.int part), some (.long x), none, some (.long y), none, x9, none] [] hp 0 0 := by
    intro x y x9 hy hx
    subst hx
    subst hy
    refine run_sound okX8_lowest (fun i => Nat.beq i 11) 200 (brC (fun _ => br (fun p => And.intro hn ⟨rfl, rfl, some_long ?_⟩) (fun p => And.intro hn ⟨rfl, rfl, some_long ?_⟩)) (fun z => absurd rfl z))
    · rw [if_pos (show part = 0 from p)]
    · rw [if_neg (show ¬ part = 0 from p)]
  have key : ∀ (m : Nat) (x y : Int64) x9, lgE m x y = true → lgF m x y = g → WP l (rmD 0 0 0) X sgX8_lowest kX8_lowest (fun h w => h = hp ∧ w = some (.long ((if part = 0 then a else b) / g))) 11 [some (.long a), none, some (.long b), none, some (.int part), some (.long x), none, some (.long y), none, x9, none] [] hp 0 0 := by
    intro m
    induction m with
    | zero =>
      intro x y x9 e1 e2
      by_cases hy : y = 0
      · exact fin x y x9 hy e2
      · rw [lgE, if_neg hy] at e1
        cases e1
    | succ m ih =>
      intro x y x9 e1 e2
      by_cases hy : y = 0
      · rw [lgF, if_pos hy] at e2
        exact fin x y x9 hy e2
      · rw [lgE, if_neg hy] at e1
        rw [lgF, if_neg hy] at e2
        exact run_sound okX8_lowest (fun i => Nat.beq i 11) 200 (brC (fun z => absurd z hy) (fun _ => And.intro hy (ih _ _ _ e1 e2)))
  exact key 12 a b none he hg
theorem lo_small : ∀ a : Fin 61, ∀ b : Fin 13, lgE 12 (Int64.ofNat a.val) (Int64.ofNat b.val) = true ∧ (¬ a.val = 0 → ¬ lgF 12 (Int64.ofNat a.val) (Int64.ofNat b.val) = 0) := by decide +kernel
theorem lo_ok {a b : Nat} (ha : a ≤ 60) (hb : b ≤ 12) : (¬ Int64.ofNat a = 0 → lgE 12 (Int64.ofNat a) (Int64.ofNat b) = true) ∧ (¬ Int64.ofNat a = 0 → ¬ lgF 12 (Int64.ofNat a) (Int64.ofNat b) = 0) := by
  have h := lo_small ⟨a, by omega⟩ ⟨b, by omega⟩
  refine ⟨fun _ => h.1, fun z => h.2 (fun y => z ?_)⟩
  have y : a = 0 := y
  rw [y]
  rfl
abbrev hsP (x : Int64) (w : Int32) : Prop := (x >>> (w.toInt64 &&& 63)) &&& 1 = 1
/-- whether a saying of one's is so first, second, in a world -/
abbrev hpP (M : MS) (s : Nat) (w : Int32) (k : Nat) : Prop := hsP (mtF M (10 * tk M k 1 + 2 * s + tk M k 2)) w
abbrev hqP (M : MS) (s : Nat) (w : Int32) (k : Nat) : Prop := hsP (mtF M (10 * tk M k 1 + 2 * s + 1 - tk M k 2)) w
abbrev hcP (M : MS) (s : Nat) (w : Int32) (k : Nat) : Prop := tk M k 0 = s ∧ ¬ bI (hpP M s w k) = bI (hqP M s w k)
def haT (M : MS) (s : Nat) (w : Int32) : Nat → Nat × Nat
  | 0 => (0, 0)
  | k + 1 => ((haT M s w k).1 + (if hcP M s w k ∧ hpP M s w k then 1 else 0), (haT M s w k).2 + (if hcP M s w k then 1 else 0))
theorem haT_le (s : Nat) (w : Int32) : ∀ k, (haT M s w k).1 ≤ k ∧ (haT M s w k).2 ≤ k
  | 0 => ⟨Nat.le_refl _, Nat.le_refl _⟩
  | k + 1 => by
    have h := haT_le s w k
    rw [haT]
    constructor
    · show (haT M s w k).1 + _ ≤ k + 1
      split <;> omega
    · show (haT M s w k).2 + _ ≤ k + 1
      split <;> omega
theorem oN_add (a b : Nat) : Int64.ofNat a + Int64.ofNat b = Int64.ofNat (a + b) := (Int64.ofNat_add a b).symm
def hbG (M : MS) (ns nk : Nat) (s w part : Int32) : Int64 := if tP ns s ∧ wdP w ∧ p1P part then (if Int64.ofNat (haT M s.toNatClampNeg w nk).2 = 0 then NOL else loG (Int64.ofNat (haT M s.toNatClampNeg w nk).1) (Int64.ofNat (haT M s.toNatClampNeg w nk).2) part) else NOL
def cNh (i : Nat) : Bool := Nat.beq i 22 || Nat.beq i 95
set_option maxRecDepth 100000 in
set_option maxHeartbeats 2000000 in
theorem g_habit (h : MInv M nt ns nk) (s w part : Int32) : Ctr l 5 X sgX8_habit [.ref 27, .int s, .int w, .int part] (mk S M) (zA S M (.long (hbG M ns nk s w part))) := by
  obtain ⟨h3, h12⟩ := h.2.2.2.2.1
  obtain ⟨h0, h5⟩ := h.2.2.2.1
  have h6 := h.2.2.1.2.2
  refine Ctr.of okX8_habit rfl (Nat.le_of_ble_eq_true rfl) (run_soundF okX8_habit lkf_X8_habit_ok cNh 200 ?_)
  refine kH (g_S h s) (by decide) (brB' (fun q => ⟨rfl, zJ h.1 (if_neg (fun z => q z.1)).symm⟩) (fun q => kH (m_isWorld w) (by decide) (brB' (fun q2 => ⟨rfl, zJ h.1 (if_neg (fun z => q2 z.2.1)).symm⟩) (fun q2 => kH (m_in _ _ _) (by decide) (brB' (fun q3 => ⟨rfl, zJ h.1 (if_neg (fun z => q3 z.2.2)).symm⟩) (fun q3 => ⟨4, _, by decide, g_reads h, ?_⟩))))))
  rintro hp' w' ⟨⟨z, hz, hzm, rfl⟩, rfl⟩
  have e : hbG M ns nk s w part = if Int64.ofNat (haT M s.toNatClampNeg w nk).2 = 0 then NOL else loG (Int64.ofNat (haT M s.toNatClampNeg w nk).1) (Int64.ofNat (haT M s.toNatClampNeg w nk).2) part := if_pos ⟨q, q2, q3⟩
  rw [e]
  obtain ⟨j, hj, rfl⟩ := inN (by omega) q
  rw [nI_clamp (show j < 2 ^ 31 by omega)]
  obtain ⟨V, hV⟩ : ∃ V, (if Int64.ofNat (haT M j w nk).2 = 0 then NOL else loG (Int64.ofNat (haT M j w nk).1) (Int64.ofNat (haT M j w nk).2) part) = V := ⟨_, rfl⟩
  rw [hV]
  have key : ∀ k, k ≤ nk → ∀ x9 x10 x11 x12, WP l (rmD 5 0 0) X sgX8_habit kX8_habit (zA S M (.long V)) 22 [some (.ref 27), some (.int (nI j)), some (.int w), some (.int part), some (.long (Int64.ofNat (haT M j w k).1)), none, some (.long (Int64.ofNat (haT M j w k).2)), none, some (.int (nI k)), x9, x10, x11, x12] [] (mk S (sc M z)) 0 0 := by
    refine down (fun x9 x10 x11 x12 => ?_) (fun k hk ih x9 x10 x11 x12 => ?_)
    · have hle := haT_le (M := M) j w nk
      have lo := lo_ok (a := (haT M j w nk).1) (b := (haT M j w nk).2) (by omega) (by omega)
      refine run_soundF okX8_habit lkf_X8_habit_ok cNh 200 (brT ?_ (brC (fun y => ⟨rfl, ⟨z, hz, rfl⟩, some_long ?_⟩) (fun y => kH (m_lowest _ _ _ lo.1 lo.2) (by decide) ⟨rfl, ⟨z, hz, rfl⟩, some_long ?_⟩)))
      · show M.1 3 ≤ nI nk
        rw [h3]; exact Int32.le_refl _
      · rw [← hV]; exact (if_pos y).symm
      · rw [← hV]; exact (if_neg y).symm
    · obtain ⟨e1, e2, e3, t1, t2, t3⟩ := tk_ok h hk
      have i0 : Int32.ofInt 3 * nI k = nI (3 * k + 0) := nI_mul 3 k
      have i1 : Int32.ofInt 3 * nI k + Int32.ofInt 1 = nI (3 * k + 1) := by rw [i0]; exact nI_1 _
      have i2 : Int32.ofInt 3 * nI k + Int32.ofInt 2 = nI (3 * k + 2) := by rw [i0]; exact nI_add _ 2
      have v0 : vp_in (Int32.ofInt 3 * nI k) (M.2.1 4).length := by rw [i0]; exact (ix_tk h hk (by decide)).1
      have v1 : vp_in (Int32.ofInt 3 * nI k + Int32.ofInt 1) (M.2.1 4).length := by rw [i1]; exact (ix_tk h hk (by decide)).1
      have v2 : vp_in (Int32.ofInt 3 * nI k + Int32.ofInt 2) (M.2.1 4).length := by rw [i2]; exact (ix_tk h hk (by decide)).1
      have g0 : (M.2.1 4).getD (Int32.ofInt 3 * nI k).toNatClampNeg 0 = nI (tk M k 0) := by rw [i0, (ix_tk h hk (show 0 < 3 by decide)).2, Nat.add_zero]; exact e1
      have g1 : (M.2.1 4).getD (Int32.ofInt 3 * nI k + Int32.ofInt 1).toNatClampNeg 0 = nI (tk M k 1) := by rw [i1, (ix_tk h hk (show 1 < 3 by decide)).2]; exact e2
      have g2 : (M.2.1 4).getD (Int32.ofInt 3 * nI k + Int32.ofInt 2).toNatClampNeg 0 = nI (tk M k 2) := by rw [i2, (ix_tk h hk (show 2 < 3 by decide)).2]; exact e3
      obtain ⟨a0, ha0⟩ : ∃ a0, (M.2.1 4).getD (Int32.ofInt 3 * nI k).toNatClampNeg 0 = a0 := ⟨_, rfl⟩
      obtain ⟨a1, ha1⟩ : ∃ a1, (M.2.1 4).getD (Int32.ofInt 3 * nI k + Int32.ofInt 1).toNatClampNeg 0 = a1 := ⟨_, rfl⟩
      obtain ⟨a2, ha2⟩ : ∃ a2, (M.2.1 4).getD (Int32.ofInt 3 * nI k + Int32.ofInt 2).toNatClampNeg 0 = a2 := ⟨_, rfl⟩
      have n0 : a0 = nI (tk M k 0) := ha0.symm.trans g0
      have n1 : a1 = nI (tk M k 1) := ha1.symm.trans g1
      have n2 : a2 = nI (tk M k 2) := ha2.symm.trans g2
      have l60 : z.2.2.1.length = 60 := hz.2.2.1
      have x1 : Int32.ofInt 10 * a1 + Int32.ofInt 2 * nI j + a2 = nI (10 * tk M k 1 + 2 * j + tk M k 2) := by
        rw [n1, n2, show Int32.ofInt 10 * nI (tk M k 1) = nI (10 * tk M k 1) from nI_mul 10 _, show Int32.ofInt 2 * nI j = nI (2 * j) from nI_mul 2 _, nI_add, nI_add]
      have x2 : Int32.ofInt 10 * a1 + Int32.ofInt 2 * nI j + Int32.ofInt 1 - a2 = nI (10 * tk M k 1 + 2 * j + 1 - tk M k 2) := by
        rw [n1, n2, show Int32.ofInt 10 * nI (tk M k 1) = nI (10 * tk M k 1) from nI_mul 10 _, show Int32.ofInt 2 * nI j = nI (2 * j) from nI_mul 2 _, nI_add, show nI (10 * tk M k 1 + 2 * j) + Int32.ofInt 1 = nI (10 * tk M k 1 + 2 * j + 1) from nI_1 _]
        rcases (show tk M k 2 = 0 ∨ tk M k 2 = 1 by omega) with y | y
        · rw [y]; simp [nI]
        · rw [y]; exact nI_pred _
      have w1 : vp_in (Int32.ofInt 10 * a1 + Int32.ofInt 2 * nI j + a2) z.2.2.1.length := by rw [x1, l60]; exact vp_nI (by omega) (by decide)
      have w2 : vp_in (Int32.ofInt 10 * a1 + Int32.ofInt 2 * nI j + Int32.ofInt 1 - a2) z.2.2.1.length := by rw [x2, l60]; exact vp_nI (by omega) (by decide)
      have m1 : z.2.2.1.getD (Int32.ofInt 10 * a1 + Int32.ofInt 2 * nI j + a2).toNatClampNeg 0 = mtF M (10 * tk M k 1 + 2 * j + tk M k 2) := by
        rw [x1, nI_clamp (by omega), ← mtF_sc z]; exact hzm _ (by omega)
      have m2 : z.2.2.1.getD (Int32.ofInt 10 * a1 + Int32.ofInt 2 * nI j + Int32.ofInt 1 - a2).toNatClampNeg 0 = mtF M (10 * tk M k 1 + 2 * j + 1 - tk M k 2) := by
        rw [x2, nI_clamp (by omega), ← mtF_sc z]; exact hzm _ (by omega)
      obtain ⟨y1, hy1⟩ : ∃ y1, z.2.2.1.getD (Int32.ofInt 10 * a1 + Int32.ofInt 2 * nI j + a2).toNatClampNeg 0 = y1 := ⟨_, rfl⟩
      obtain ⟨y2, hy2⟩ : ∃ y2, z.2.2.1.getD (Int32.ofInt 10 * a1 + Int32.ofInt 2 * nI j + Int32.ofInt 1 - a2).toNatClampNeg 0 = y2 := ⟨_, rfl⟩
      have hh1 : Ans l 0 X sgX8_has [.long y1, .int w] (mk S (sc M z)) (bI (hpP M j w k)) := by
        rw [← hy1, m1]; exact m_has _ _
      have hh2 : Ans l 0 X sgX8_has [.long y2, .int w] (mk S (sc M z)) (bI (hqP M j w k)) := by
        rw [← hy2, m2]; exact m_has _ _
      have t95 : ∀ v : Int32, (v = 1 ∧ hcP M j w k) ∨ (v = 0 ∧ ¬ hcP M j w k) → ∀ x12, WP l (rmD 5 0 0) X sgX8_habit kX8_habit (zA S M (.long V)) 95 [some (.ref 27), some (.int (nI j)), some (.int w), some (.int part), some (.long (Int64.ofNat (haT M j w k).1)), none, some (.long (Int64.ofNat (haT M j w k).2)), none, some (.int (nI k)), some (.int a1), some (.int (bI (hpP M j w k))), some (.int (bI (hqP M j w k))), x12] [.int v] (mk S (sc M z)) 0 0 := by
        intro v hv x12
        rcases hv with ⟨rfl, hf⟩ | ⟨rfl, hf⟩
        · have ih := ih (some (.int a1)) (some (.int (bI (hpP M j w k)))) (some (.int (bI (hqP M j w k)))) (some (.int 1))
          refine run_soundF okX8_habit lkf_X8_habit_ok (fun i => Nat.beq i 22) 200 (brF (by decide) (brF (by decide) (brB' (fun p => ?_) (fun p => ?_))))
          · rw [show haT M j w (k + 1) = ((haT M j w k).1 + 0, (haT M j w k).2 + 1) by rw [haT, if_pos hf, if_neg (fun y => p y.2)], ← nI_1 k, ← oN_add, ← oN_add] at ih
            exact ih
          · rw [show haT M j w (k + 1) = ((haT M j w k).1 + 1, (haT M j w k).2 + 1) by rw [haT, if_pos hf, if_pos ⟨hf, p⟩], ← nI_1 k, ← oN_add, ← oN_add] at ih
            exact ih
        · have ih := ih (some (.int a1)) (some (.int (bI (hpP M j w k)))) (some (.int (bI (hqP M j w k)))) (some (.int 0))
          rw [show haT M j w (k + 1) = ((haT M j w k).1 + 0, (haT M j w k).2 + 0) by rw [haT, if_neg hf, if_neg (fun y => hf y.1)], ← nI_1 k, ← oN_add, ← oN_add] at ih
          exact run_soundF okX8_habit lkf_X8_habit_ok (fun i => Nat.beq i 22) 200 (brT rfl (brT rfl ih))
      have go : WP l (rmD 5 0 0) X sgX8_habit kX8_habit (zA S M (.long V)) 22 [some (.ref 27), some (.int (nI j)), some (.int w), some (.int part), some (.long (Int64.ofNat (haT M j w k).1)), none, some (.long (Int64.ofNat (haT M j w k).2)), none, some (.int (nI k)), x9, x10, x11, x12] [] (mk S (sc M z)) 0 0 := by
        refine run_soundF okX8_habit lkf_X8_habit_ok cNh 200 (brF ?_ (Exists.intro _ (And.intro rfl (And.intro v1 ?_))))
        · show ¬ M.1 3 ≤ nI k
          rw [h3]; exact nI_ge hk (by omega)
        · rw [← ha1] at hy1 hy2 w1 w2 t95
          rw [← ha2] at hy1 hy2 w1 w2
          rw [← hy1] at hh1
          rw [← hy2] at hh2
          refine Exists.intro _ (And.intro rfl (And.intro v2 (Exists.intro _ (And.intro rfl (And.intro w1 (kH hh1 (by decide) (Exists.intro _ (And.intro rfl (And.intro v2 (Exists.intro _ (And.intro rfl (And.intro w2 (kH hh2 (by decide) (Exists.intro _ (And.intro rfl (And.intro v0 ?_))))))))))))))))
          refine br (fun p => br (fun p2 => t95 0 (Or.inr ⟨rfl, fun y => y.2 p2⟩) _) (fun p2 => t95 1 (Or.inl ⟨rfl, ?_, p2⟩) _)) (fun p => t95 0 (Or.inr ⟨rfl, fun y => p ?_⟩) _)
          · have p : (M.2.1 4).getD (Int32.ofInt 3 * nI k).toNatClampNeg 0 = nI j := p
            rw [g0] at p
            exact (nI_eq (by omega) (by omega)).mp p
          · show (M.2.1 4).getD (Int32.ofInt 3 * nI k).toNatClampNeg 0 = nI j
            rw [g0, y.1]
      exact go
  exact key 0 (Nat.zero_le _) none none none none
end MHAB
end
section
-- 85.mkinds
/-! THE REFERENCE in general: kinds, questions -/
section MKINDS
variable {l : Launch} {X : List (List Int32)} {S : CS} {M : MS} {hp : AH} {nt ns nk : Nat}
abbrev kiP (M : MS) (s : Nat) (w : Int32) (of k : Nat) : Prop := ¬ tk M k 0 = s ∨ hsP (asT M k (nI of)) w
def kiI (M : MS) (s : Nat) (w : Int32) (of : Nat) : Nat → Bool
  | 0 => true
  | k + 1 => if kiI M s w of k = true then (if kiP M s w of k then true else false) else false
def kiT (M : MS) (nk s : Nat) (w : Int32) : Nat → Int32
  | 0 => 0
  | of + 1 => kiT M nk s w of ||| (if kiI M s w of nk = true then (1 : Int32) <<< (nI of &&& 31) else 0)
def kiG (M : MS) (ns nk : Nat) (s w : Int32) : Int32 := if tP ns s ∧ wdP w then kiT M nk s.toNatClampNeg w 6 else -5
def cNk (i : Nat) : Bool := Nat.beq i 15 || Nat.beq i 22 || Nat.beq i 37 || Nat.beq i 73
set_option maxRecDepth 100000 in
set_option maxHeartbeats 2000000 in
theorem g_kinds (h : MInv M nt ns nk) (s w : Int32) : Ctr l 5 X sgX8_kinds [.ref 27, .int s, .int w] (mk S M) (zA S M (.int (kiG M ns nk s w))) := by
  obtain ⟨h3, h12⟩ := h.2.2.2.2.1
  obtain ⟨h0, h5⟩ := h.2.2.2.1
  have h6 := h.2.2.1.2.2
  have l2 : (M.2.1 2).length = 5 := h.1.2.1
  refine Ctr.of okX8_kinds rfl (Nat.le_of_ble_eq_true rfl) (run_sound okX8_kinds cNk 200 ?_)
  refine kH (g_S h s) (by decide) (brB' (fun q => zI h.1 (if_neg (fun z => q z.1)).symm) (fun q => kH (m_isWorld w) (by decide) (brB' (fun q2 => zI h.1 (if_neg (fun z => q2 z.2)).symm) (fun q2 => ⟨4, _, by decide, g_reads h, ?_⟩))))
  rintro hp' w' ⟨⟨z, hz, hzm, rfl⟩, rfl⟩
  rw [show kiG M ns nk s w = kiT M nk s.toNatClampNeg w 6 from if_pos ⟨q, q2⟩]
  obtain ⟨j, hj, rfl⟩ := inN (by omega) q
  rw [nI_clamp (show j < 2 ^ 31 by omega)]
  have vj : vp_in (nI j) (M.2.1 2).length := by rw [l2]; exact vp_nI (by omega) (by decide)
  have nj : (M.2.1 2).getD (nI j).toNatClampNeg 0 = (M.2.1 2).getD j 0 := by rw [nI_clamp (by omega)]
  have hkd := h.2.2.2.2.2.2.1 j (by omega)
  obtain ⟨V, hV⟩ : ∃ V, kiT M nk j w 6 = V := ⟨_, rfl⟩
  rw [hV]
  have key : ∀ of, of ≤ 6 → ∀ x5 x6 x7, WP l (rmD 5 0 0) X sgX8_kinds kX8_kinds (zA S M (.int V)) 15 [some (.ref 27), some (.int (nI j)), some (.int w), some (.int (kiT M nk j w of)), some (.int (nI of)), x5, x6, x7] [] (mk S (sc M z)) 0 0 := by
    refine down (fun x5 x6 x7 => ?_) (fun of hof iho x5 x6 x7 => ?_)
    · exact run_sound okX8_kinds cNk 200 (brT (Int32.le_refl _) ⟨⟨z, hz, rfl⟩, some_int hV⟩)
    · have inner : ∀ k, k ≤ nk → ∀ x7, WP l (rmD 5 0 0) X sgX8_kinds kX8_kinds (zA S M (.int V)) 22 [some (.ref 27), some (.int (nI j)), some (.int w), some (.int (kiT M nk j w of)), some (.int (nI of)), some (.int (bB (kiI M j w of k))), some (.int (nI k)), x7] [] (mk S (sc M z)) 0 0 := by
        refine down (fun x7 => ?_) (fun k hk ih x7 => ?_)
        · have iho := iho (some (.int (bB (kiI M j w of nk)))) (some (.int (nI nk))) x7
          refine run_sound okX8_kinds cNk 200 (brT ?_ (brBB (fun p => ?_) (fun p => ?_)))
          · show M.1 3 ≤ nI nk
            rw [h3]; exact Int32.le_refl _
          · rw [show kiT M nk j w (of + 1) = kiT M nk j w of ||| 0 by rw [kiT, if_neg (by rw [p]; decide)], ← nI_1 of] at iho
            exact iho
          · rw [show kiT M nk j w (of + 1) = kiT M nk j w of ||| ((1 : Int32) <<< (nI of &&& 31)) by rw [kiT, if_pos p], ← nI_1 of] at iho
            exact iho
        · obtain ⟨e1, e2, e3, t1, t2, t3⟩ := tk_ok h hk
          have i0 : Int32.ofInt 3 * nI k = nI (3 * k + 0) := nI_mul 3 k
          have i1 : Int32.ofInt 3 * nI k + Int32.ofInt 1 = nI (3 * k + 1) := by rw [i0]; exact nI_1 _
          have i2 : Int32.ofInt 3 * nI k + Int32.ofInt 2 = nI (3 * k + 2) := by rw [i0]; exact nI_add _ 2
          have v0 : vp_in (Int32.ofInt 3 * nI k) (M.2.1 4).length := by rw [i0]; exact (ix_tk h hk (by decide)).1
          have v1 : vp_in (Int32.ofInt 3 * nI k + Int32.ofInt 1) (M.2.1 4).length := by rw [i1]; exact (ix_tk h hk (by decide)).1
          have v2 : vp_in (Int32.ofInt 3 * nI k + Int32.ofInt 2) (M.2.1 4).length := by rw [i2]; exact (ix_tk h hk (by decide)).1
          have g0 : (M.2.1 4).getD (Int32.ofInt 3 * nI k).toNatClampNeg 0 = nI (tk M k 0) := by rw [i0, (ix_tk h hk (show 0 < 3 by decide)).2, Nat.add_zero]; exact e1
          have g1 : (M.2.1 4).getD (Int32.ofInt 3 * nI k + Int32.ofInt 1).toNatClampNeg 0 = nI (tk M k 1) := by rw [i1, (ix_tk h hk (show 1 < 3 by decide)).2]; exact e2
          have g2 : (M.2.1 4).getD (Int32.ofInt 3 * nI k + Int32.ofInt 2).toNatClampNeg 0 = nI (tk M k 2) := by rw [i2, (ix_tk h hk (show 2 < 3 by decide)).2]; exact e3
          have cc : tk M k 0 = j → AnsL l 0 X sgX8_canSay [.ref 27, .int (nI of), .int ((M.2.1 2).getD (nI j).toNatClampNeg 0), .int (nI j), .int ((M.2.1 4).getD (Int32.ofInt 3 * nI k + Int32.ofInt 1).toNatClampNeg 0), .int ((M.2.1 4).getD (Int32.ofInt 3 * nI k + Int32.ofInt 2).toNatClampNeg 0), .int (nI k)] (mk S (sc M z)) (asT M k (nI of)) := by
            intro ej
            have q := g_canSay (l := l) (X := X) (S := S) (h.sc hz) hzm (nI of) ((M.2.1 2).getD j 0) (nI k) (show j < 5 by omega) t2 t3 hkd.two
            rw [mtF_sc, mtF_sc] at q
            rw [nj, g1, g2]
            have ea : asT M k (nI of) = canL (nI of) ((M.2.1 2).getD j 0) (nI k) (mtF M (10 * tk M k 1 + 2 * j + tk M k 2)) (mtF M (10 * tk M k 1 + 2 * j + 1 - tk M k 2)) := by unfold asT; rw [ej]
            rw [ea]
            exact q
          have t73 : ∀ v : Int32, v = bB (kiI M j w of (k + 1)) → ∀ x7, WP l (rmD 5 0 0) X sgX8_kinds kX8_kinds (zA S M (.int V)) 73 [some (.ref 27), some (.int (nI j)), some (.int w), some (.int (kiT M nk j w of)), some (.int (nI of)), some (.int (bB (kiI M j w of k))), some (.int (nI k)), x7] [.int v] (mk S (sc M z)) 0 0 := by
            intro v hv x7
            have ih := ih x7
            rw [← hv, ← nI_1 k] at ih
            exact run_sound okX8_kinds (fun i => Nat.beq i 22) 200 ih
          have e0 : ¬ kiI M j w of k = true → (0 : Int32) = bB (kiI M j w of (k + 1)) := fun y => by rw [kiI, if_neg y]; rfl
          have e1' : kiI M j w of k = true → kiP M j w of k → (1 : Int32) = bB (kiI M j w of (k + 1)) := fun y y2 => by rw [kiI, if_pos y, if_pos y2]; rfl
          have e2' : kiI M j w of k = true → ¬ kiP M j w of k → (0 : Int32) = bB (kiI M j w of (k + 1)) := fun y y2 => by rw [kiI, if_pos y, if_neg y2]; rfl
          have t37 : ∀ v : Int32, (v = 1 ∧ tk M k 0 = j) ∨ (v = 0 ∧ ¬ tk M k 0 = j) → WP l (rmD 5 0 0) X sgX8_kinds kX8_kinds (zA S M (.int V)) 37 [some (.ref 27), some (.int (nI j)), some (.int w), some (.int (kiT M nk j w of)), some (.int (nI of)), some (.int (bB (kiI M j w of k))), some (.int (nI k)), x7] [.int v] (mk S (sc M z)) 0 0 := by
            intro v hv
            rcases hv with ⟨rfl, ho⟩ | ⟨rfl, ho⟩
            · refine run_sound okX8_kinds (fun i => Nat.beq i 73) 200 (brBB (fun p => t73 _ (e0 (by rw [p]; decide)) _) (fun p => brF (by decide) (Exists.intro _ (And.intro rfl (And.intro vj (Exists.intro _ (And.intro rfl (And.intro v1 (Exists.intro _ (And.intro rfl (And.intro v2 (kH (cc ho) (by decide) (kH (m_has _ _) (by decide) (brB' (fun p2 => t73 _ (e2' p (fun y => y.elim (fun y => y ho) p2)) _) (fun p2 => t73 _ (e1' p (Or.inr p2)) _)))))))))))))))
            · exact run_sound okX8_kinds (fun i => Nat.beq i 73) 200 (brBB (fun p => t73 _ (e0 (by rw [p]; decide)) _) (fun p => brT rfl (t73 _ (e1' p (Or.inl ho)) _)))
          refine run_sound okX8_kinds cNk 200 (brF ?_ (Exists.intro _ (And.intro rfl (And.intro v0 (br (fun p => t37 1 (Or.inl ⟨rfl, ?_⟩)) (fun p => t37 0 (Or.inr ⟨rfl, fun y => p ?_⟩)))))))
          · show ¬ M.1 3 ≤ nI k
            rw [h3]; exact nI_ge hk (by omega)
          · have p : (M.2.1 4).getD (Int32.ofInt 3 * nI k).toNatClampNeg 0 = nI j := p
            rw [g0] at p
            exact (nI_eq (by omega) (by omega)).mp p
          · show (M.2.1 4).getD (Int32.ofInt 3 * nI k).toNatClampNeg 0 = nI j
            rw [g0, y]
      exact run_sound okX8_kinds cNk 200 (brF (ge_no (n := 6) rfl hof (by decide)) (inner 0 (Nat.zero_le _) x7))
  exact key 0 (Nat.zero_le _) none none none
end MKINDS
end
section
-- 86.mques
/-! THE REFERENCE in general: questions -/
section MQUES
variable {l : Launch} {X : List (List Int32)} {S : CS} {M : MS} {hp : AH} {nt ns nk : Nat}
def maxR (a b : Int32) : Int32 := if a ≤ b then b else a
def wsT (M : MS) (left : Int64) (s t : Nat) (n : Int32) : Int32 := maxR (cntF (left &&& fitT M s t 0 n) 32) (cntF (left &&& fitT M s t 1 n) 32)
theorem wsT_sc (z : SZ) (left : Int64) (s t : Nat) (n : Int32) : wsT (sc M z) left s t n = wsT M left s t n := by
  unfold wsT
  rw [fitT_sc, fitT_sc]
set_option maxRecDepth 100000 in
theorem g_worstOf (h : MInv M nt ns nk) (hm : Mt M nt) (left : Int64) {s t : Nat} (hs : s < 5) (ht : t < nt) (n : Int32) : Ans l 2 X sgX8_worstOf [.ref 27, .long left, .int (nI s), .int (nI t), .int n] (mk S M) (wsT M left s t n) := by
  have c0 : AnsL l 1 X sgX8_fits [.ref 27, .int (nI s), .int (nI t), .int 0, .int n] (mk S M) (fitT M s t 0 n) := g_fits h hm hs ht (u := 0) (by decide) n
  have c1 : AnsL l 1 X sgX8_fits [.ref 27, .int (nI s), .int (nI t), .int 1, .int n] (mk S M) (fitT M s t 1 n) := g_fits h hm hs ht (u := 1) (by decide) n
  obtain ⟨a, ha⟩ : ∃ a, cntF (left &&& fitT M s t 0 n) 32 = a := ⟨_, rfl⟩
  obtain ⟨b, hb⟩ : ∃ b, cntF (left &&& fitT M s t 1 n) 32 = b := ⟨_, rfl⟩
  have b0 : Ans l 1 X sgX8_bitsOf [.long (left &&& fitT M s t 0 n)] (mk S M) a := by rw [← ha]; exact m_bitsOf _
  have b1 : Ans l 1 X sgX8_bitsOf [.long (left &&& fitT M s t 1 n)] (mk S M) b := by rw [← hb]; exact m_bitsOf _
  rw [show wsT M left s t n = maxR a b by unfold wsT; rw [ha, hb]]
  refine Ctr.of okX8_worstOf rfl (Nat.le_of_ble_eq_true rfl) (run_sound okX8_worstOf noCut 100 ?_)
  exact kH c0 (by decide) (kH b0 (by decide) (kH c1 (by decide) (kH b1 (by decide) (br (fun p => ⟨rfl, some_int (if_pos p).symm⟩) (fun p => ⟨rfl, some_int (if_neg p).symm⟩)))))
abbrev QT : Type := Int32 × Int32 × Int32
def qsS (M : MS) (left : Int64) (n : Int32) (nt k : Nat) (Q : QT) : QT :=
  if Q.1 = -1 ∨ wsT M left (k / nt) (k % nt) n ≤ Q.2.1 then
    (if Q.1 = -1 ∨ wsT M left (k / nt) (k % nt) n < Q.2.1 ∨ saysF M 2 (k % nt) 0 (nI (k / nt)) < Q.2.2 then (Int32.ofInt 10 * nI (k / nt) + nI (k % nt), wsT M left (k / nt) (k % nt) n, saysF M 2 (k % nt) 0 (nI (k / nt))) else Q)
  else Q
def qsT (M : MS) (left : Int64) (n : Int32) (nt : Nat) : Nat → QT
  | 0 => (-1, -1, -1)
  | k + 1 => qsS M left n nt k (qsT M left n nt k)
abbrev qsQ (S : CS) (M : MS) (nt : Nat) (Q : QT) : AH → Option Value → Prop := fun h w => (∃ z, ScOk z ∧ Mt (sc M z) nt ∧ z.2.2.2.2 = Q ∧ h = mk S (sc M z)) ∧ w = none
theorem saysF_sc (z : SZ) (p t : Nat) (w who : Int32) : saysF (sc M z) p t w who = saysF M p t w who := rfl
def cNq (i : Nat) : Bool := Nat.beq i 11 || Nat.beq i 43 || Nat.beq i 65
set_option maxRecDepth 100000 in
set_option maxHeartbeats 4000000 in
theorem g_findsQuestion (h : MInv M nt ns nk) (hm : Mt M nt) (left : Int64) (n : Int32) : Ctr l 3 X sgX8_findsQuestion [.ref 27, .long left, .int n] (mk S M) (qsQ S M nt (qsT M left n nt (ns * nt))) := by
  obtain ⟨h0, h5⟩ := h.2.2.2.1
  obtain ⟨h9, h1, h6⟩ := h.2.2.1
  have hle : ns * nt ≤ 30 := Nat.le_trans (Nat.mul_le_mul h5 h6) (by decide)
  have hend : M.1 0 * M.1 9 = nI (ns * nt) := by rw [h0, h9, nI_mul]
  refine Ctr.of okX8_findsQuestion rfl (Nat.le_of_ble_eq_true rfl) (run_sound okX8_findsQuestion cNq 200 ?_)
  obtain ⟨W, hW⟩ : ∃ W, qsT M left n nt (ns * nt) = W := ⟨_, rfl⟩
  rw [hW]
  have key : ∀ k, k ≤ ns * nt → ∀ (z : SZ), ScOk z → Mt (sc M z) nt → z.2.2.2.2 = qsT M left n nt k → ∀ x5 x6 x7 x8 x9, WP l (rmD 3 0 0) X sgX8_findsQuestion kX8_findsQuestion (qsQ S M nt W) 11 [some (.ref 27), some (.long left), none, some (.int n), some (.int (nI k)), x5, x6, x7, x8, x9] [] (mk S (sc M z)) 0 0 := by
    refine down (fun z hz hzm hzq x5 x6 x7 x8 x9 => ?_) (fun k hk ih z hz hzm hzq x5 x6 x7 x8 x9 => ?_)
    · refine run_sound okX8_findsQuestion cNq 200 (brT ?_ ⟨rfl, ⟨z, hz, hzm, hzq.trans hW, rfl⟩, rfl⟩)
      show M.1 0 * M.1 9 ≤ nI (ns * nt)
      rw [hend]; exact Int32.le_refl _
    · have hkt : k % nt < nt := Nat.mod_lt _ (by omega)
      have hks : k / nt < ns := Nat.div_lt_of_lt_mul (by rw [Nat.mul_comm]; exact hk)
      have e1 : nI k / M.1 9 = nI (k / nt) := by rw [h9]; exact nI_div (by omega) (by omega) (by omega)
      have e2 : nI k - nI k / M.1 9 * M.1 9 = nI (k % nt) := by rw [h9]; exact nI_rem (by omega) (by omega) (by omega)
      have h90 : ¬ M.1 9 = 0 := by rw [h9]; exact nI_ne0 (by omega) (by omega)
      obtain ⟨w, hw⟩ : ∃ w, wsT M left (k / nt) (k % nt) n = w := ⟨_, rfl⟩
      obtain ⟨c, hc⟩ : ∃ c, saysF M 2 (k % nt) 0 (nI (k / nt)) = c := ⟨_, rfl⟩
      obtain ⟨Q, hQ⟩ : ∃ Q, qsT M left n nt k = Q := ⟨_, rfl⟩
      have hstep : qsT M left n nt (k + 1) = if Q.1 = -1 ∨ w ≤ Q.2.1 then (if Q.1 = -1 ∨ w < Q.2.1 ∨ c < Q.2.2 then (Int32.ofInt 10 * nI (k / nt) + nI (k % nt), w, c) else Q) else Q := by
        rw [qsT, hQ]
        unfold qsS
        rw [hw, hc]
      rw [hQ] at hzq
      obtain ⟨z1, z2, z3, z4, b1, b2, b3⟩ := z
      have hzq : (b1, b2, b3) = Q := hzq
      subst hzq
      have c1 : Ans l 2 X sgX8_worstOf [.ref 27, .long left, .int (nI k / M.1 9), .int (nI k - nI k / M.1 9 * M.1 9), .int n] (mk S (sc M (z1, z2, z3, z4, b1, b2, b3))) w := by
        rw [e2, e1, ← hw, ← wsT_sc (z1, z2, z3, z4, b1, b2, b3)]
        exact g_worstOf (h.sc hz) hzm left (by omega) hkt n
      have c2 : Ctr l 2 X sgX8_saysOf [.ref 27, .int 2, .int (nI k - nI k / M.1 9 * M.1 9), .int 0, .int (nI k / M.1 9)] (mk S (sc M (z1, z2, z3, z4, b1, b2, b3))) (zR S (sc M (z1, z2, z3, z4, b1, b2, b3)) c) := by
        rw [e2, e1, ← hc, ← saysF_sc (z1, z2, z3, z4, b1, b2, b3)]
        exact m_saysOf (M := sc M (z1, z2, z3, z4, b1, b2, b3)) (h.sc hz).1 (p := 2) (t := k % nt) (by omega) (by decide) (h.2.1 _ hkt 2 (by decide)) 0 (nI (k / nt))
      have skip : ∀ x8 x9, qsT M left n nt (k + 1) = (b1, b2, b3) → ∀ z1 z2, ScOk (z1, z2, z3, z4, b1, b2, b3) → WP l (rmD 3 0 0) X sgX8_findsQuestion kX8_findsQuestion (qsQ S M nt W) 11 [some (.ref 27), some (.long left), none, some (.int n), some (.int (nI k + 1)), some (.int (nI k / M.1 9)), some (.int (nI k - nI k / M.1 9 * M.1 9)), some (.int w), x8, x9] [] (mk S (sc M (z1, z2, z3, z4, b1, b2, b3))) 0 0 := by
        intro x8 x9 e z1 z2 hz
        have ih := ih (z1, z2, z3, z4, b1, b2, b3) hz (fun k hk => (hzm k hk).trans ((mtF_sc _ k).trans (mtF_sc _ k).symm)) e.symm (some (.int (nI k / M.1 9))) (some (.int (nI k - nI k / M.1 9 * M.1 9))) (some (.int w)) x8 x9
        rw [← nI_1 k] at ih
        exact ih
      have t43 : (b1 = -1 ∨ w ≤ b2) → WP l (rmD 3 0 0) X sgX8_findsQuestion kX8_findsQuestion (qsQ S M nt W) 43 [some (.ref 27), some (.long left), none, some (.int n), some (.int (nI k)), some (.int (nI k / M.1 9)), some (.int (nI k - nI k / M.1 9 * M.1 9)), some (.int w), x8, x9] [] (mk S (sc M (z1, z2, z3, z4, b1, b2, b3))) 0 0 := by
        intro ho
        have hst2 : qsT M left n nt (k + 1) = if b1 = -1 ∨ w < b2 ∨ c < b3 then (Int32.ofInt 10 * nI (k / nt) + nI (k % nt), w, c) else (b1, b2, b3) := hstep.trans (if_pos ho)
        refine run_sound okX8_findsQuestion cNq 200 ⟨2, _, by decide, c2, ?_⟩
        rintro hp' v ⟨⟨z', hz', hzz', rfl⟩, rfl⟩
        obtain ⟨y1, y2, y3, y4, d1, d2, d3⟩ := z'
        have hzz' : (y3, y4, d1, d2, d3) = (z3, z4, b1, b2, b3) := hzz'
        cases hzz'
        have t65 : ∀ v : Int32, (v = 1 ∧ (b1 = -1 ∨ w < b2 ∨ c < b3)) ∨ (v = 0 ∧ ¬ (b1 = -1 ∨ w < b2 ∨ c < b3)) → WP l (rmD 3 0 0) X sgX8_findsQuestion kX8_findsQuestion (qsQ S M nt W) 65 [some (.ref 27), some (.long left), none, some (.int n), some (.int (nI k)), some (.int (nI k / M.1 9)), some (.int (nI k - nI k / M.1 9 * M.1 9)), some (.int w), some (.int c), x9] [.int v] (mk S (sc M (y1, y2, z3, z4, b1, b2, b3))) 0 0 := by
          intro v hv
          rcases hv with ⟨rfl, hp⟩ | ⟨rfl, hp⟩
          · have ih := ih (y1, y2, z3, z4, Int32.ofInt 10 * nI (k / nt) + nI (k % nt), w, c) hz' (fun k hk => (hzm k hk).trans ((mtF_sc _ k).trans (mtF_sc _ k).symm)) (hst2.trans (if_pos hp)).symm (some (.int (nI k / M.1 9))) (some (.int (nI k - nI k / M.1 9 * M.1 9))) (some (.int w)) (some (.int c)) (some (.int 1))
            rw [← e1, ← e2, ← nI_1 k] at ih
            exact run_sound okX8_findsQuestion (fun i => Nat.beq i 11) 200 (brF (by decide) (And.intro trivial (brF (by decide) (And.intro trivial (brF (by decide) (And.intro trivial ih))))))
          · exact run_sound okX8_findsQuestion (fun i => Nat.beq i 11) 200 (brT rfl (And.intro trivial (brT rfl (And.intro trivial (brT rfl (And.intro trivial (skip _ _ (hst2.trans (if_neg hp)) y1 y2 hz')))))))
        exact br (fun p => t65 1 (Or.inl ⟨rfl, Or.inl p⟩)) (fun p => br (fun p2 => t65 1 (Or.inl ⟨rfl, Or.inr (Or.inl p2)⟩)) (fun p2 => br (fun p3 => t65 0 (Or.inr ⟨rfl, fun y => y.elim p (fun y => y.elim p2 (fun y => absurd y (Int32.not_lt.mpr p3)))⟩)) (fun p3 => t65 1 (Or.inl ⟨rfl, Or.inr (Or.inr (Int32.not_le.mp p3))⟩))))
      refine run_sound okX8_findsQuestion cNq 200 (brF ?_ (And.intro h90 (And.intro h90 (kH c1 (by decide) (br (fun p => t43 (Or.inl p)) (fun p => br (fun p2 => ?_) (fun p2 => t43 (Or.inr (Int32.not_lt.mp p2)))))))))
      · show ¬ M.1 0 * M.1 9 ≤ nI k
        rw [hend]; exact nI_ge hk (by omega)
      · exact skip _ _ (hstep.trans (if_neg (fun y => y.elim p (fun y => absurd p2 (Int32.not_lt.mpr y))))) z1 z2 hz
  have hz := h.1.z
  exact And.intro trivial (And.intro trivial (And.intro trivial (key 0 (Nat.zero_le _) ((getZ M).1, (getZ M).2.1, (getZ M).2.2.1, (getZ M).2.2.2.1, -1, -1, -1) hz (fun k hk => (hm k hk).trans (mtF_sc _ k).symm) rfl none none none none none)))
end MQUES
end
section
-- 87.mask
/-! THE REFERENCE in general: what is asked, parts, what a hider may say -/
section MASK
variable {l : Launch} {X : List (List Int32)} {S : CS} {M : MS} {hp : AH} {nt ns nk : Nat}
theorem qsT_sc (z : SZ) (left : Int64) (n : Int32) : ∀ k, qsT (sc M z) left n nt k = qsT M left n nt k
  | 0 => rfl
  | k + 1 => by
    rw [qsT, qsT, qsT_sc z left n k]
    unfold qsS
    rw [wsT_sc]
    rfl
theorem mt_sc {z z' : SZ} (h : Mt (sc (sc M z) z') nt) : Mt (sc M z') nt := fun k hk => (h k hk).trans ((mtF_sc _ k).trans ((mtF_sc _ k).trans (mtF_sc _ k).symm))
def askG (M : MS) (nt ns nk : Nat) (what : Int32) : Int32 := if p2P what then (if what = 0 then (qsT M (woT M nk) (nI nk) nt (ns * nt)).1 else if what = 1 then (qsT M (woT M nk) (nI nk) nt (ns * nt)).2.1 else (qsT M (woT M nk) (nI nk) nt (ns * nt)).2.2) else -2
set_option maxRecDepth 100000 in
theorem g_ask (h : MInv M nt ns nk) (what : Int32) : Ctr l 7 X sgX8_ask [.ref 27, .int what] (mk S M) (zA S M (.int (askG M nt ns nk what))) := by
  obtain ⟨h3, h12⟩ := h.2.2.2.2.1
  refine Ctr.of okX8_ask rfl (Nat.le_of_ble_eq_true rfl) (run_sound okX8_ask noCut 100 ?_)
  refine kH (m_in _ _ _) (by decide) (brB' (fun q => zI h.1 (if_neg q).symm) (fun q => ⟨5, _, by decide, g_worldsNow h, ?_⟩))
  have e : askG M nt ns nk what = if what = 0 then (qsT M (woT M nk) (nI nk) nt (ns * nt)).1 else if what = 1 then (qsT M (woT M nk) (nI nk) nt (ns * nt)).2.1 else (qsT M (woT M nk) (nI nk) nt (ns * nt)).2.2 := if_pos q
  rw [e]
  rintro hp' w ⟨⟨z, hz, hzm, rfl⟩, rfl⟩
  have hc : Ctr l 3 X sgX8_findsQuestion [.ref 27, .long (woT M nk), .int (M.1 3)] (mk S (sc M z)) (qsQ S (sc M z) nt (qsT M (woT M nk) (nI nk) nt (ns * nt))) := by
    rw [h3, ← qsT_sc z]
    exact g_findsQuestion (h.sc hz) hzm _ _
  obtain ⟨Q, hQ⟩ : ∃ Q, qsT M (woT M nk) (nI nk) nt (ns * nt) = Q := ⟨_, rfl⟩
  rw [hQ] at hc ⊢
  refine ⟨3, _, by decide, hc, ?_⟩
  rintro hp' w ⟨⟨z', hz', hzm', hq, rfl⟩, rfl⟩
  subst hq
  exact br (fun p => ⟨⟨z', hz', rfl⟩, some_int (if_pos p).symm⟩) (fun p => br (fun p2 => ⟨⟨z', hz', rfl⟩, some_int ((if_neg p).trans (if_pos p2)).symm⟩) (fun p2 => ⟨⟨z', hz', rfl⟩, some_int ((if_neg p).trans (if_neg p2)).symm⟩))
def wbT (M : MS) (nt ns nk : Nat) (left : Int64) : Int32 := (qsT M left (nI nk + 1) nt (ns * nt)).2.1
theorem wbT_sc (z : SZ) (left : Int64) : wbT (sc M z) nt ns nk left = wbT M nt ns nk left := by unfold wbT; rw [qsT_sc]
set_option maxRecDepth 100000 in
theorem g_worstBehind (h : MInv M nt ns nk) (hm : Mt M nt) (left : Int64) : Ctr l 4 X sgX8_worstBehind [.ref 27, .long left] (mk S M) (nowQ S M nt (some (.int (wbT M nt ns nk left)))) := by
  obtain ⟨h3, h12⟩ := h.2.2.2.2.1
  have hc : Ctr l 3 X sgX8_findsQuestion [.ref 27, .long left, .int (M.1 3 + Int32.ofInt 1)] (mk S M) (qsQ S M nt (qsT M left (nI nk + 1) nt (ns * nt))) := by
    rw [h3]
    exact g_findsQuestion h hm _ _
  refine Ctr.of okX8_worstBehind rfl (Nat.le_of_ble_eq_true rfl) (run_sound okX8_worstBehind noCut 100 ⟨3, _, by decide, hc, ?_⟩)
  rintro hp' w ⟨⟨z', hz', hzm', hq, rfl⟩, rfl⟩
  refine ⟨⟨z', hz', hzm', rfl⟩, some_int ?_⟩
  unfold wbT
  rw [← hq]
  rfl
def twS (M : MS) (nt ns nk k : Nat) (P : Int32 × Int32) : Int32 × Int32 :=
  (if P.1 = -1 ∨ maxR (wbT M nt ns nk (woT M nk &&& fitT M (k / nt) (k % nt) 0 (nI nk))) (wbT M nt ns nk (woT M nk &&& fitT M (k / nt) (k % nt) 1 (nI nk))) < P.2 then Int32.ofInt 10 * nI (k / nt) + nI (k % nt) else P.1,
   if P.2 = -1 ∨ maxR (wbT M nt ns nk (woT M nk &&& fitT M (k / nt) (k % nt) 0 (nI nk))) (wbT M nt ns nk (woT M nk &&& fitT M (k / nt) (k % nt) 1 (nI nk))) < P.2 then maxR (wbT M nt ns nk (woT M nk &&& fitT M (k / nt) (k % nt) 0 (nI nk))) (wbT M nt ns nk (woT M nk &&& fitT M (k / nt) (k % nt) 1 (nI nk))) else P.2)
def paT (M : MS) (nt ns nk : Nat) (s t what : Int32) : Int64 := if tP ns s ∧ tP nt t ∧ p3P what then
    woT M nk &&& (if what = 0 then fitT M s.toNatClampNeg t.toNatClampNeg 0 (nI nk) else if what = 1 then fitT M s.toNatClampNeg t.toNatClampNeg 1 (nI nk) else if what = 2 then (fitT M s.toNatClampNeg t.toNatClampNeg 0 (nI nk) ^^^ -1) &&& (fitT M s.toNatClampNeg t.toNatClampNeg 1 (nI nk) ^^^ -1) else fitT M s.toNatClampNeg t.toNatClampNeg 0 (nI nk) &&& fitT M s.toNatClampNeg t.toNatClampNeg 1 (nI nk))
  else NOL
set_option maxRecDepth 100000 in
set_option maxHeartbeats 1000000 in
theorem g_parts (h : MInv M nt ns nk) (s t what : Int32) : Ctr l 6 X sgX8_parts [.ref 27, .int s, .int t, .int what] (mk S M) (zA S M (.long (paT M nt ns nk s t what))) := by
  obtain ⟨h3, h12⟩ := h.2.2.2.2.1
  obtain ⟨h0, h5⟩ := h.2.2.2.1
  have h6 := h.2.2.1.2.2
  refine Ctr.of okX8_parts rfl (Nat.le_of_ble_eq_true rfl) (run_sound okX8_parts noCut 200 ?_)
  refine kH (g_S h s) (by decide) (brB' (fun q => ⟨rfl, zJ h.1 (if_neg (fun z => q z.1)).symm⟩) (fun q => kH (g_T h t) (by decide) (brB' (fun q2 => ⟨rfl, zJ h.1 (if_neg (fun z => q2 z.2.1)).symm⟩) (fun q2 => kH (m_in _ _ _) (by decide) (brB' (fun q3 => ⟨rfl, zJ h.1 (if_neg (fun z => q3 z.2.2)).symm⟩) (fun q3 => ⟨5, _, by decide, g_worldsNow h, ?_⟩))))))
  rintro hp' w ⟨⟨z, hz, hzm, rfl⟩, rfl⟩
  rw [show paT M nt ns nk s t what = woT M nk &&& (if what = 0 then fitT M s.toNatClampNeg t.toNatClampNeg 0 (nI nk) else if what = 1 then fitT M s.toNatClampNeg t.toNatClampNeg 1 (nI nk) else if what = 2 then (fitT M s.toNatClampNeg t.toNatClampNeg 0 (nI nk) ^^^ -1) &&& (fitT M s.toNatClampNeg t.toNatClampNeg 1 (nI nk) ^^^ -1) else fitT M s.toNatClampNeg t.toNatClampNeg 0 (nI nk) &&& fitT M s.toNatClampNeg t.toNatClampNeg 1 (nI nk)) from if_pos ⟨q, q2, q3⟩]
  obtain ⟨i, hi, rfl⟩ := inN (by omega) q
  obtain ⟨j, hj, rfl⟩ := inN (by omega) q2
  rw [nI_clamp (show i < 2 ^ 31 by omega), nI_clamp (show j < 2 ^ 31 by omega)]
  have c0 : AnsL l 1 X sgX8_fits [.ref 27, .int (nI i), .int (nI j), .int 0, .int (M.1 3)] (mk S (sc M z)) (fitT M i j 0 (nI nk)) := by
    rw [h3, ← fitT_sc z]; exact g_fits (h.sc hz) hzm (show i < 5 by omega) hj (u := 0) (by decide) (nI nk)
  have c1 : AnsL l 1 X sgX8_fits [.ref 27, .int (nI i), .int (nI j), .int 1, .int (M.1 3)] (mk S (sc M z)) (fitT M i j 1 (nI nk)) := by
    rw [h3, ← fitT_sc z]; exact g_fits (h.sc hz) hzm (show i < 5 by omega) hj (u := 1) (by decide) (nI nk)
  generalize fitT M i j 0 (nI nk) = a at c0 ⊢
  generalize fitT M i j 1 (nI nk) = b at c1 ⊢
  generalize woT M nk = v
  refine kH c0 (by decide) (kH c1 (by decide) ?_)
  rcases in03 q3 with rfl | rfl | rfl | rfl
  · exact brT rfl ⟨rfl, ⟨z, hz, rfl⟩, rfl⟩
  · exact brF (by decide) (brT rfl ⟨rfl, ⟨z, hz, rfl⟩, rfl⟩)
  · exact brF (by decide) (brF (by decide) (brT rfl ⟨rfl, ⟨z, hz, rfl⟩, rfl⟩))
  · exact brF (by decide) (brF (by decide) (brF (by decide) ⟨rfl, ⟨z, hz, rfl⟩, rfl⟩))
abbrev suP (s : Int64) (x : Int32) : Prop := alF s 32 >>> (x &&& 31) &&& 1 = 1 ∨ noF s 32 >>> (x &&& 31) &&& 1 = 1
set_option maxRecDepth 100000 in
theorem m_isSure (s : Int64) (x : Int32) : Ans l 2 X sgX8_isSure [.long s, .int x] hp (bI (suP s x)) := by
  have c0 : Ans l 1 X sgX8_allIn [.long s] hp (alF s 32) := m_allIn s
  have c1 : Ans l 1 X sgX8_noneIn [.long s] hp (noF s 32) := m_noneIn s
  unfold suP
  generalize alF s 32 = a at c0 ⊢
  generalize noF s 32 = b at c1 ⊢
  refine Ctr.of okX8_isSure rfl (Nat.le_of_ble_eq_true rfl) (run_sound okX8_isSure noCut 200 ?_)
  exact kH c0 (by decide) (br (fun p => ⟨rfl, rfl, some_int (bIe1 (Or.inl p))⟩) (fun p => kH c1 (by decide) (br (fun p2 => ⟨rfl, rfl, some_int (bIe1 (Or.inr p2))⟩) (fun p2 => ⟨rfl, rfl, some_int (bIe0 (fun y => y.elim p p2))⟩))))
abbrev hiP (M : MS) (nk s : Nat) (w x : Int32) (k : Nat) : Prop := hsP (fitT M s (k / 2) (k % 2) (nI nk)) w ∧ ¬ suP (woT M nk &&& fitT M s (k / 2) (k % 2) (nI nk)) x
def hiT (M : MS) (nk s : Nat) (w x : Int32) : Nat → Int32
  | 0 => 0
  | k + 1 => hiT M nk s w x k ||| (if hiP M nk s w x k then (1 : Int32) <<< (nI k &&& 31) else 0)
def hiG (M : MS) (nt ns nk : Nat) (s w x : Int32) : Int32 := if tP ns s ∧ wdP w ∧ whP x then hiT M nk s.toNatClampNeg w x (2 * nt) else -5
def cNhi (i : Nat) : Bool := Nat.beq i 21
set_option maxRecDepth 100000 in
set_option maxHeartbeats 1000000 in
theorem g_hide (h : MInv M nt ns nk) (s w x : Int32) : Ctr l 6 X sgX8_hide [.ref 27, .int s, .int w, .int x] (mk S M) (zA S M (.int (hiG M nt ns nk s w x))) := by
  obtain ⟨h3, h12⟩ := h.2.2.2.2.1
  obtain ⟨h0, h5⟩ := h.2.2.2.1
  obtain ⟨h9, h1, h6⟩ := h.2.2.1
  refine Ctr.of okX8_hide rfl (Nat.le_of_ble_eq_true rfl) (run_sound okX8_hide cNhi 200 ?_)
  refine kH (g_S h s) (by decide) (brB' (fun q => zI h.1 (if_neg (fun z => q z.1)).symm) (fun q => kH (m_isWorld w) (by decide) (brB' (fun q2 => zI h.1 (if_neg (fun z => q2 z.2.1)).symm) (fun q2 => kH (m_in _ _ _) (by decide) (brB' (fun q3 => zI h.1 (if_neg (fun z => q3 z.2.2)).symm) (fun q3 => ⟨5, _, by decide, g_worldsNow h, ?_⟩))))))
  rintro hp' w' ⟨⟨z, hz, hzm, rfl⟩, rfl⟩
  rw [show hiG M nt ns nk s w x = hiT M nk s.toNatClampNeg w x (2 * nt) from if_pos ⟨q, q2, q3⟩]
  obtain ⟨i, hi, rfl⟩ := inN (by omega) q
  rw [nI_clamp (show i < 2 ^ 31 by omega)]
  obtain ⟨V, hV⟩ : ∃ V, hiT M nk i w x (2 * nt) = V := ⟨_, rfl⟩
  rw [hV]
  have hend : Int32.ofInt 2 * M.1 9 = nI (2 * nt) := by rw [h9]; exact nI_mul 2 nt
  have key : ∀ k, k ≤ 2 * nt → ∀ x8, WP l (rmD 6 0 0) X sgX8_hide kX8_hide (zA S M (.int V)) 21 [some (.ref 27), some (.int (nI i)), some (.int w), some (.int x), some (.long (woT M nk)), none, some (.int (hiT M nk i w x k)), some (.int (nI k)), x8, none] [] (mk S (sc M z)) 0 0 := by
    refine down (fun x8 => ?_) (fun k hk ih x8 => ?_)
    · refine run_sound okX8_hide cNhi 200 (brT ?_ ⟨⟨z, hz, rfl⟩, some_int hV⟩)
      show Int32.ofInt 2 * M.1 9 ≤ nI (2 * nt)
      rw [hend]; exact Int32.le_refl _
    · have e1 : nI k / Int32.ofInt 2 = nI (k / 2) := nI_div (b := 2) (by omega) (by decide) (by decide)
      have e2 : nI k - nI k / Int32.ofInt 2 * Int32.ofInt 2 = nI (k % 2) := nI_rem (b := 2) (by omega) (by decide) (by decide)
      have c0 : AnsL l 1 X sgX8_fits [.ref 27, .int (nI i), .int (nI k / Int32.ofInt 2), .int (nI k - nI k / Int32.ofInt 2 * Int32.ofInt 2), .int (M.1 3)] (mk S (sc M z)) (fitT M i (k / 2) (k % 2) (nI nk)) := by
        rw [e2, e1, h3, ← fitT_sc z]; exact g_fits (h.sc hz) hzm (show i < 5 by omega) (show k / 2 < nt by omega) (show k % 2 < 2 by omega) (nI nk)
      have hy : hiP M nk i w x k → hiT M nk i w x (k + 1) = hiT M nk i w x k ||| ((1 : Int32) <<< (nI k &&& 31)) := fun y => by rw [hiT, if_pos y]
      have hn : ¬ hiP M nk i w x k → hiT M nk i w x (k + 1) = hiT M nk i w x k ||| 0 := fun y => by rw [hiT, if_neg y]
      unfold hiP at hy hn
      generalize fitT M i (k / 2) (k % 2) (nI nk) = f at c0 hy hn
      have ih := ih (some (.long f))
      rw [← nI_1 k] at ih
      refine run_sound okX8_hide cNhi 200 (brF ?_ (And.intro (by decide) (And.intro (by decide) (kH c0 (by decide) (kH (m_has _ _) (by decide) (brB' (fun p => ?_) (fun p => kH (m_isSure _ _) (by decide) (brB' (fun p2 => ?_) (fun p2 => ?_)))))))))
      · show ¬ Int32.ofInt 2 * M.1 9 ≤ nI k
        rw [hend]; exact nI_ge hk (by omega)
      · rw [hn (fun y => p y.1)] at ih
        exact ih
      · rw [hy ⟨p, p2⟩] at ih
        exact ih
      · rw [hn (fun y => y.2 p2)] at ih
        exact ih
  exact key 0 (Nat.zero_le _) none
end MASK
end
section
-- 88.mtext
/-! THE REFERENCE in general: two in a row; what texts mean -/
section MTEXT
variable {l : Launch} {X : List (List Int32)} {S : CS} {M : MS} {hp : AH} {nt ns nk : Nat}
def twT (M : MS) (nt ns nk : Nat) : Nat → Int32 × Int32
  | 0 => (-1, -1)
  | k + 1 => twS M nt ns nk k (twT M nt ns nk k)
def twG (M : MS) (nt ns nk : Nat) (what : Int32) : Int32 := if p1P what then (if what = 0 then (twT M nt ns nk (ns * nt)).1 else (twT M nt ns nk (ns * nt)).2) else -2
def cNtw (i : Nat) : Bool := Nat.beq i 16 || Nat.beq i 63 || Nat.beq i 77
set_option maxRecDepth 100000 in
set_option maxHeartbeats 4000000 in
theorem g_two (h : MInv M nt ns nk) (what : Int32) : Ctr l 6 X sgX8_two_ [.ref 27, .int what] (mk S M) (zA S M (.int (twG M nt ns nk what))) := by
  obtain ⟨h3, h12⟩ := h.2.2.2.2.1
  obtain ⟨h0, h5⟩ := h.2.2.2.1
  obtain ⟨h9, h1, h6⟩ := h.2.2.1
  have hle : ns * nt ≤ 30 := Nat.le_trans (Nat.mul_le_mul h5 h6) (by decide)
  have hend : M.1 0 * M.1 9 = nI (ns * nt) := by rw [h0, h9, nI_mul]
  refine Ctr.of okX8_two_ rfl (Nat.le_of_ble_eq_true rfl) (run_sound okX8_two_ cNtw 200 ?_)
  refine kH (m_in _ _ _) (by decide) (brB' (fun q => zI h.1 (if_neg q).symm) (fun q => ⟨5, _, by decide, g_worldsNow h, ?_⟩))
  rw [show twG M nt ns nk what = if what = 0 then (twT M nt ns nk (ns * nt)).1 else (twT M nt ns nk (ns * nt)).2 from if_pos q]
  rintro hp' w ⟨⟨z, hz, hzm, rfl⟩, rfl⟩
  obtain ⟨V, hV⟩ : ∃ V, (if what = 0 then (twT M nt ns nk (ns * nt)).1 else (twT M nt ns nk (ns * nt)).2) = V := ⟨_, rfl⟩
  rw [hV]
  have key : ∀ k, k ≤ ns * nt → ∀ (z : SZ), ScOk z → Mt (sc M z) nt → ∀ x7 x8 x9 x10 x11, WP l (rmD 6 0 0) X sgX8_two_ kX8_two_ (zA S M (.int V)) 16 [some (.ref 27), some (.int what), some (.long (woT M nk)), none, some (.int (twT M nt ns nk k).1), some (.int (twT M nt ns nk k).2), some (.int (nI k)), x7, x8, x9, x10, x11] [] (mk S (sc M z)) 0 0 := by
    refine down (fun z hz hzm x7 x8 x9 x10 x11 => ?_) (fun k hk ih z hz hzm x7 x8 x9 x10 x11 => ?_)
    · refine run_sound okX8_two_ cNtw 200 (brT ?_ (br (fun p => ⟨⟨z, hz, rfl⟩, some_int ?_⟩) (fun p => ⟨⟨z, hz, rfl⟩, some_int ?_⟩)))
      · show M.1 0 * M.1 9 ≤ nI (ns * nt)
        rw [hend]; exact Int32.le_refl _
      · rw [← hV]; exact (if_pos p).symm
      · rw [← hV]; exact (if_neg p).symm
    · have hkt : k % nt < nt := Nat.mod_lt _ (by omega)
      have hks : k / nt < ns := Nat.div_lt_of_lt_mul (by rw [Nat.mul_comm]; exact hk)
      have e1 : nI k / M.1 9 = nI (k / nt) := by rw [h9]; exact nI_div (by omega) (by omega) (by omega)
      have e2 : nI k - nI k / M.1 9 * M.1 9 = nI (k % nt) := by rw [h9]; exact nI_rem (by omega) (by omega) (by omega)
      have h90 : ¬ M.1 9 = 0 := by rw [h9]; exact nI_ne0 (by omega) (by omega)
      have c0 : ∀ z, ScOk z → Mt (sc M z) nt → AnsL l 1 X sgX8_fits [.ref 27, .int (nI k / M.1 9), .int (nI k - nI k / M.1 9 * M.1 9), .int 0, .int (M.1 3)] (mk S (sc M z)) (fitT M (k / nt) (k % nt) 0 (nI nk)) := fun z hz hzm => by
        rw [e2, e1, h3, ← fitT_sc z]; exact g_fits (h.sc hz) hzm (by omega) hkt (u := 0) (by decide) (nI nk)
      have c1 : ∀ z, ScOk z → Mt (sc M z) nt → AnsL l 1 X sgX8_fits [.ref 27, .int (nI k / M.1 9), .int (nI k - nI k / M.1 9 * M.1 9), .int 1, .int (M.1 3)] (mk S (sc M z)) (fitT M (k / nt) (k % nt) 1 (nI nk)) := fun z hz hzm => by
        rw [e2, e1, h3, ← fitT_sc z]; exact g_fits (h.sc hz) hzm (by omega) hkt (u := 1) (by decide) (nI nk)
      have b0 : ∀ z, ScOk z → Mt (sc M z) nt → ∀ left, Ctr l 4 X sgX8_worstBehind [.ref 27, .long left] (mk S (sc M z)) (nowQ S (sc M z) nt (some (.int (wbT M nt ns nk left)))) := fun z hz hzm left => by
        rw [← wbT_sc z]; exact g_worstBehind (h.sc hz) hzm left
      obtain ⟨P, hP⟩ : ∃ P, twT M nt ns nk k = P := ⟨_, rfl⟩
      have hs : twT M nt ns nk (k + 1) = twS M nt ns nk k P := by rw [twT, hP]
      unfold twS at hs
      rw [hP]
      generalize fitT M (k / nt) (k % nt) 0 (nI nk) = f0 at c0 hs
      generalize fitT M (k / nt) (k % nt) 1 (nI nk) = f1 at c1 hs
      refine run_sound okX8_two_ cNtw 200 (brF ?_ (And.intro h90 (And.intro h90 (kH (c0 z hz hzm) (by decide) ⟨4, _, by decide, b0 z hz hzm _, ?_⟩))))
      · show ¬ M.1 0 * M.1 9 ≤ nI k
        rw [hend]; exact nI_ge hk (by omega)
      · rintro hp' w ⟨⟨z1, hz1, hzm1, rfl⟩, rfl⟩
        have hzm1 := mt_sc (M := M) hzm1
        refine kH (c1 z1 hz1 hzm1) (by decide) ⟨4, _, by decide, b0 z1 hz1 hzm1 _, ?_⟩
        rintro hp' w ⟨⟨z2, hz2, hzm2, rfl⟩, rfl⟩
        have hzm2 := mt_sc (M := M) hzm2
        generalize wbT M nt ns nk (woT M nk &&& f0) = w0 at hs ⊢
        generalize wbT M nt ns nk (woT M nk &&& f1) = w1 at hs ⊢
        have t63 : ∀ m, m = maxR w0 w1 → WP l (rmD 6 0 0) X sgX8_two_ kX8_two_ (zA S M (.int V)) 63 [some (.ref 27), some (.int what), some (.long (woT M nk)), none, some (.int P.1), some (.int P.2), some (.int (nI k)), some (.int (nI k / M.1 9)), some (.int (nI k - nI k / M.1 9 * M.1 9)), some (.int w0), some (.int w1), x11] [.int m] (mk S (sc M z2)) 0 0 := by
          intro m hm
          rw [← hm] at hs
          have ih := ih z2 hz2 hzm2 (some (.int (nI k / M.1 9))) (some (.int (nI k - nI k / M.1 9 * M.1 9))) (some (.int w0)) (some (.int w1)) (some (.int m))
          rw [hs, ← e1, ← e2, ← nI_1 k] at ih
          have t77 : ∀ v, v = (if P.1 = -1 ∨ m < P.2 then Int32.ofInt 10 * (nI k / M.1 9) + (nI k - nI k / M.1 9 * M.1 9) else P.1) → WP l (rmD 6 0 0) X sgX8_two_ kX8_two_ (zA S M (.int V)) 77 [some (.ref 27), some (.int what), some (.long (woT M nk)), none, some (.int P.1), some (.int P.2), some (.int (nI k)), some (.int (nI k / M.1 9)), some (.int (nI k - nI k / M.1 9 * M.1 9)), some (.int w0), some (.int w1), some (.int m)] [.int v] (mk S (sc M z2)) 0 0 := by
            intro v hv
            rw [← hv] at ih
            refine run_sound okX8_two_ (fun i => Nat.beq i 16) 200 (br (fun p => ?_) (fun p => br (fun p2 => ?_) (fun p2 => ?_)))
            · rw [if_pos (Or.inl (show P.2 = -1 from p))] at ih
              exact ih
            · rw [if_neg (show ¬ (P.2 = -1 ∨ m < P.2) from fun y => y.elim p (fun y => absurd y (Int32.not_lt.mpr p2)))] at ih
              exact ih
            · rw [if_pos (show P.2 = -1 ∨ m < P.2 from Or.inr (Int32.not_le.mp p2))] at ih
              exact ih
          exact run_sound okX8_two_ (fun i => Nat.beq i 77) 200 (br (fun p => t77 _ (if_pos (Or.inl p)).symm) (fun p => br (fun p2 => t77 _ (if_neg (fun y => y.elim p (fun y => absurd y (Int32.not_lt.mpr p2)))).symm) (fun p2 => t77 _ (if_pos (Or.inr (Int32.not_le.mp p2))).symm)))
        exact br (fun p => t63 _ (if_pos p).symm) (fun p => t63 _ (if_neg p).symm)
  exact key 0 (Nat.zero_le _) z hz hzm none none none none none
def saG (M : MS) (nt nk : Nat) (t u what : Int32) : Int32 := if tP nt t ∧ tP nt u then (if p1P what then bI ((if what = 0 then (mtF M (10 * t.toNatClampNeg) ^^^ mtF M (10 * u.toNatClampNeg)) &&& woT M nk else mtF M (10 * t.toNatClampNeg) ^^^ mtF M (10 * u.toNatClampNeg)) = 0) else -7) else -5
theorem g_onceZ (h : MInv M nt ns nk) {z : SZ} (hz : ScOk z) (hzm : Mt (sc M z) nt) {t : Nat} (ht : t < nt) : AnsL l 0 X sgX8_once [.ref 27, .int (nI t)] (mk S (sc M z)) (mtF M (10 * t)) := by
  rw [← mtF_sc z]
  exact g_once (h.sc hz) hzm ht
set_option maxRecDepth 100000 in
theorem g_same (h : MInv M nt ns nk) (t u what : Int32) : Ctr l 6 X sgX8_same [.ref 27, .int t, .int u, .int what] (mk S M) (zA S M (.int (saG M nt nk t u what))) := by
  have h6 := h.2.2.1.2.2
  refine Ctr.of okX8_same rfl (Nat.le_of_ble_eq_true rfl) (run_sound okX8_same (fun i => Nat.beq i 35) 200 ?_)
  refine kH (g_T h t) (by decide) (brB' (fun q => zI h.1 (if_neg (fun z => q z.1)).symm) (fun q => kH (g_T h u) (by decide) (brB' (fun q2 => zI h.1 (if_neg (fun z => q2 z.2)).symm) (fun q2 => kH (m_in _ _ _) (by decide) (brB' (fun q3 => zI h.1 ((if_pos ⟨q, q2⟩).trans (if_neg q3)).symm) (fun q3 => ⟨5, _, by decide, g_worldsNow h, ?_⟩))))))
  rintro hp' w ⟨⟨z, hz, hzm, rfl⟩, rfl⟩
  rw [show saG M nt nk t u what = bI ((if what = 0 then (mtF M (10 * t.toNatClampNeg) ^^^ mtF M (10 * u.toNatClampNeg)) &&& woT M nk else mtF M (10 * t.toNatClampNeg) ^^^ mtF M (10 * u.toNatClampNeg)) = 0) from (if_pos ⟨q, q2⟩).trans (if_pos q3)]
  obtain ⟨i, hi, rfl⟩ := inN (by omega) q
  obtain ⟨j, hj, rfl⟩ := inN (by omega) q2
  rw [nI_clamp (show i < 2 ^ 31 by omega), nI_clamp (show j < 2 ^ 31 by omega)]
  have c0 := g_onceZ (l := l) (X := X) (S := S) h hz hzm hi
  have c1 := g_onceZ (l := l) (X := X) (S := S) h hz hzm hj
  generalize mtF M (10 * i) = a at c0 ⊢
  generalize mtF M (10 * j) = b at c1 ⊢
  generalize woT M nk = v
  have t35 : ∀ x : Int64, x = (if what = 0 then (a ^^^ b) &&& v else a ^^^ b) → WP l (rmD 6 0 0) X sgX8_same kX8_same (zA S M (.int (bI ((if what = 0 then (a ^^^ b) &&& v else a ^^^ b) = 0)))) 35 [some (.ref 27), some (.int (nI i)), some (.int (nI j)), some (.int what), some (.long v), none, some (.long (a ^^^ b)), none] [.long x] (mk S (sc M z)) 0 0 := by
    intro x hx
    rw [← hx]
    exact run_sound okX8_same noCut 200 (brC (fun p => ⟨⟨z, hz, rfl⟩, some_int (bIe1 p)⟩) (fun p => ⟨⟨z, hz, rfl⟩, some_int (bIe0 p)⟩))
  exact kH c0 (by decide) (kH c1 (by decide) (br (fun p => t35 _ (if_pos p).symm) (fun p => t35 _ (if_neg p).symm)))
def clT2 (M : MS) (left : Int64) : Nat → Int32
  | 0 => 0
  | u + 1 => clT2 M left u ||| (if left &&& (mtF M (10 * u) ^^^ -1) = 0 then (1 : Int32) <<< (nI u &&& 31) else 0)
def clG (M : MS) (nt nk : Nat) (t : Int32) : Int32 := if tP nt t then clT2 M (woT M nk &&& mtF M (10 * t.toNatClampNeg)) nt else -5
set_option maxRecDepth 100000 in
theorem g_claims (h : MInv M nt ns nk) (t : Int32) : Ctr l 6 X sgX8_claims [.ref 27, .int t] (mk S M) (zA S M (.int (clG M nt nk t))) := by
  obtain ⟨h9, h1, h6⟩ := h.2.2.1
  refine Ctr.of okX8_claims rfl (Nat.le_of_ble_eq_true rfl) (run_sound okX8_claims (fun i => Nat.beq i 17) 200 ?_)
  refine kH (g_T h t) (by decide) (brB' (fun q => zI h.1 (if_neg q).symm) (fun q => ⟨5, _, by decide, g_worldsNow h, ?_⟩))
  rintro hp' w ⟨⟨z, hz, hzm, rfl⟩, rfl⟩
  rw [show clG M nt nk t = clT2 M (woT M nk &&& mtF M (10 * t.toNatClampNeg)) nt from if_pos q]
  obtain ⟨i, hi, rfl⟩ := inN (by omega) q
  rw [nI_clamp (show i < 2 ^ 31 by omega)]
  have c0 := g_onceZ (l := l) (X := X) (S := S) h hz hzm hi
  obtain ⟨a, ha⟩ : ∃ a, woT M nk &&& mtF M (10 * i) = a := ⟨_, rfl⟩
  obtain ⟨V, hV⟩ : ∃ V, clT2 M a nt = V := ⟨_, rfl⟩
  have key : ∀ k, k ≤ nt → WP l (rmD 6 0 0) X sgX8_claims kX8_claims (zA S M (.int V)) 17 [some (.ref 27), some (.int (nI i)), some (.long a), none, some (.int (clT2 M a k)), some (.int (nI k))] [] (mk S (sc M z)) 0 0 := by
    refine down ?_ (fun k hk ih => ?_)
    · refine run_sound okX8_claims (fun i => Nat.beq i 17) 200 (brT ?_ ⟨⟨z, hz, rfl⟩, some_int hV⟩)
      show M.1 9 ≤ nI nt
      rw [h9]; exact Int32.le_refl _
    · refine run_sound okX8_claims (fun i => Nat.beq i 17) 200 (brF ?_ (kH (g_onceZ h hz hzm hk) (by decide) (brC (fun p => ?_) (fun p => ?_))))
      · show ¬ M.1 9 ≤ nI k
        rw [h9]; exact nI_ge hk (by omega)
      · rw [show clT2 M a (k + 1) = clT2 M a k ||| ((1 : Int32) <<< (nI k &&& 31)) by rw [clT2, if_pos (show a &&& (mtF M (10 * k) ^^^ -1) = 0 from p)], ← nI_1 k] at ih
        exact ih
      · rw [show clT2 M a (k + 1) = clT2 M a k ||| 0 by rw [clT2, if_neg (show ¬ a &&& (mtF M (10 * k) ^^^ -1) = 0 from p)], ← nI_1 k] at ih
        exact ih
  rw [ha, hV]
  have k0 := key 0 (Nat.zero_le _)
  rw [← ha] at k0
  exact kH c0 (by decide) k0
def thG (M : MS) (nt nk : Nat) (t u v : Int32) : Int64 := if tP nt t ∧ tP nt u ∧ tP nt v then woT M nk &&& (mtF M (10 * t.toNatClampNeg) &&& (mtF M (10 * u.toNatClampNeg) ^^^ -1) &&& (mtF M (10 * v.toNatClampNeg) ^^^ -1) ||| mtF M (10 * u.toNatClampNeg) &&& (mtF M (10 * t.toNatClampNeg) ^^^ -1) &&& (mtF M (10 * v.toNatClampNeg) ^^^ -1) ||| mtF M (10 * v.toNatClampNeg) &&& (mtF M (10 * t.toNatClampNeg) ^^^ -1) &&& (mtF M (10 * u.toNatClampNeg) ^^^ -1)) else NOL
set_option maxRecDepth 100000 in
theorem g_thrice (h : MInv M nt ns nk) (t u v : Int32) : Ctr l 6 X sgX8_thrice [.ref 27, .int t, .int u, .int v] (mk S M) (zA S M (.long (thG M nt nk t u v))) := by
  have h6 := h.2.2.1.2.2
  refine Ctr.of okX8_thrice rfl (Nat.le_of_ble_eq_true rfl) (run_sound okX8_thrice noCut 200 ?_)
  refine kH (g_T h t) (by decide) (brB' (fun q => ⟨rfl, zJ h.1 (if_neg (fun z => q z.1)).symm⟩) (fun q => kH (g_T h u) (by decide) (brB' (fun q2 => ⟨rfl, zJ h.1 (if_neg (fun z => q2 z.2.1)).symm⟩) (fun q2 => kH (g_T h v) (by decide) (brB' (fun q3 => ⟨rfl, zJ h.1 (if_neg (fun z => q3 z.2.2)).symm⟩) (fun q3 => ⟨5, _, by decide, g_worldsNow h, ?_⟩))))))
  rintro hp' w ⟨⟨z, hz, hzm, rfl⟩, rfl⟩
  have e : ∀ a b c : Nat, t.toNatClampNeg = a → u.toNatClampNeg = b → v.toNatClampNeg = c → thG M nt nk t u v = woT M nk &&& (mtF M (10 * a) &&& (mtF M (10 * b) ^^^ -1) &&& (mtF M (10 * c) ^^^ -1) ||| mtF M (10 * b) &&& (mtF M (10 * a) ^^^ -1) &&& (mtF M (10 * c) ^^^ -1) ||| mtF M (10 * c) &&& (mtF M (10 * a) ^^^ -1) &&& (mtF M (10 * b) ^^^ -1)) := by
    intro a b c ea eb ec
    subst ea
    subst eb
    subst ec
    exact if_pos ⟨q, q2, q3⟩
  obtain ⟨i, hi, rfl⟩ := inN (by omega) q
  obtain ⟨j, hj, rfl⟩ := inN (by omega) q2
  obtain ⟨k, hk, rfl⟩ := inN (by omega) q3
  rw [e i j k (nI_clamp (by omega)) (nI_clamp (by omega)) (nI_clamp (by omega))]
  have c0 := g_onceZ (l := l) (X := X) (S := S) h hz hzm hi
  have c1 := g_onceZ (l := l) (X := X) (S := S) h hz hzm hj
  have c2 := g_onceZ (l := l) (X := X) (S := S) h hz hzm hk
  clear e
  generalize mtF M (10 * i) = a at c0 ⊢
  generalize mtF M (10 * j) = b at c1 ⊢
  generalize mtF M (10 * k) = c at c2 ⊢
  generalize woT M nk = d
  exact kH c0 (by decide) (kH c1 (by decide) (kH c2 (by decide) ⟨rfl, ⟨z, hz, rfl⟩, rfl⟩))
end MTEXT
end
section
-- 89.mset
/-! THE REFERENCE in general: texts that settle all, how many are so -/
section MSET
variable {l : Launch} {X : List (List Int32)} {S : CS} {M : MS} {hp : AH} {nt ns nk : Nat}
/-- whether two worlds need not be parted, or a text of some parts them -/
abbrev apP (left : Int64) (k : Nat) : Prop := k % 32 ≤ k / 32 ∨ ¬ hsP left (nI (k / 32)) ∨ ¬ hsP left (nI (k % 32))
abbrev apT (M : MS) (a : Int32) (k t : Nat) : Prop := a >>> (nI t &&& 31) &&& 1 = 1 ∧ ¬ bI (hsP (mtF M (10 * t)) (nI (k / 32))) = bI (hsP (mtF M (10 * t)) (nI (k % 32)))
def apF (M : MS) (left : Int64) (a : Int32) (k : Nat) : Nat → Bool
  | 0 => if apP left k then true else false
  | t + 1 => if apF M left a k t = true then true else if apT M a k t then true else false
theorem apF_more (left : Int64) (a : Int32) (k : Nat) {t : Nat} (h : apF M left a k t = true) : ∀ n, t ≤ n → apF M left a k n = true := by
  intro n hn
  induction n with
  | zero =>
    have : t = 0 := by omega
    rw [← this]; exact h
  | succ n ih =>
    by_cases e : t = n + 1
    · rw [← e]; exact h
    · rw [apF, if_pos (ih (by omega))]
def seF (M : MS) (nt : Nat) (left : Int64) (a : Int32) : Nat → Nat → Bool
  | 0, _ => true
  | m + 1, k => if apF M left a k nt = true then seF M nt left a m (k + 1) else false
def cNse (i : Nat) : Bool := Nat.beq i 2 || Nat.beq i 27 || Nat.beq i 30 || Nat.beq i 57 || Nat.beq i 60
set_option maxRecDepth 100000 in
set_option maxHeartbeats 4000000 in
theorem g_settles (h : MInv M nt ns nk) {z : SZ} (hz : ScOk z) (hzm : Mt (sc M z) nt) (left : Int64) (a : Int32) : Ans l 1 X sgX8_settles [.ref 27, .long left, .int a] (mk S (sc M z)) (bB (seF M nt left a 1024 0)) := by
  obtain ⟨h9, h1, h6⟩ := h.2.2.1
  refine Ctr.of okX8_settles rfl (Nat.le_of_ble_eq_true rfl) (run_sound okX8_settles cNse 300 ?_)
  obtain ⟨V, hV⟩ : ∃ V, seF M nt left a 1024 0 = V := ⟨_, rfl⟩
  rw [hV]
  have key : ∀ k, k ≤ 1024 → seF M nt left a (1024 - k) k = V → ∀ x5 x6 x7 x8, WP l (rmD 1 0 0) X sgX8_settles kX8_settles (fun h w => h = mk S (sc M z) ∧ w = some (.int (bB V))) 2 [some (.ref 27), some (.long left), none, some (.int a), some (.int (nI k)), x5, x6, x7, x8] [] (mk S (sc M z)) 0 0 := by
    refine down (fun e x5 x6 x7 x8 => ?_) (fun k hk ih e x5 x6 x7 x8 => ?_)
    · rw [Nat.sub_self] at e
      have e : true = V := e
      subst e
      exact run_sound okX8_settles cNse 300 (brT (Int32.le_refl _) ⟨rfl, rfl, rfl⟩)
    · rw [show 1024 - k = (1024 - (k + 1)) + 1 by omega, seF] at e
      have e1 : nI k / Int32.ofInt 32 = nI (k / 32) := nI_div (b := 32) (by omega) (by decide) (by decide)
      have e2 : nI k - nI k / Int32.ofInt 32 * Int32.ofInt 32 = nI (k % 32) := nI_rem (b := 32) (by omega) (by decide) (by decide)
      obtain ⟨v, hv⟩ : ∃ v, nI k / Int32.ofInt 32 = v := ⟨_, rfl⟩
      obtain ⟨w, hw⟩ : ∃ w, nI k - nI k / Int32.ofInt 32 * Int32.ofInt 32 = w := ⟨_, rfl⟩
      have ev : v = nI (k / 32) := hv.symm.trans e1
      have ew : w = nI (k % 32) := hw.symm.trans e2
      have t60 : ∀ b : Bool, b = apF M left a k nt → ∀ x8, WP l (rmD 1 0 0) X sgX8_settles kX8_settles (fun h w => h = mk S (sc M z) ∧ w = some (.int (bB V))) 60 [some (.ref 27), some (.long left), none, some (.int a), some (.int (nI k)), some (.int v), some (.int w), some (.int (bB b)), x8] [] (mk S (sc M z)) 0 0 := by
        intro b hb x8
        rw [← hb] at e
        refine run_sound okX8_settles (fun i => Nat.beq i 2) 300 (brBB (fun p => ?_) (fun p => ?_))
        · rw [if_neg (by rw [p]; decide)] at e
          subst e
          exact ⟨rfl, rfl, rfl⟩
        · rw [if_pos p] at e
          have ih := ih e (some (.int v)) (some (.int w)) (some (.int (bB b))) x8
          rw [← nI_1 k] at ih
          exact ih
      have inner : ∀ t, t ≤ nt → WP l (rmD 1 0 0) X sgX8_settles kX8_settles (fun h w => h = mk S (sc M z) ∧ w = some (.int (bB V))) 30 [some (.ref 27), some (.long left), none, some (.int a), some (.int (nI k)), some (.int v), some (.int w), some (.int (bB (apF M left a k t))), some (.int (nI t))] [] (mk S (sc M z)) 0 0 := by
        refine down ?_ (fun t ht iht => ?_)
        · refine run_sound okX8_settles cNse 300 (brT ?_ (t60 _ rfl _))
          show M.1 9 ≤ nI nt
          rw [h9]; exact Int32.le_refl _
        · have t57 : ∀ x : Int32, x = bB (apF M left a k (t + 1)) → WP l (rmD 1 0 0) X sgX8_settles kX8_settles (fun h w => h = mk S (sc M z) ∧ w = some (.int (bB V))) 57 [some (.ref 27), some (.long left), none, some (.int a), some (.int (nI k)), some (.int v), some (.int w), some (.int (bB (apF M left a k t))), some (.int (nI t))] [.int x] (mk S (sc M z)) 0 0 := by
            intro x hx
            rw [← hx, ← nI_1 t] at iht
            exact run_sound okX8_settles (fun i => Nat.beq i 30) 300 iht
          have co := g_onceZ (l := l) (X := X) (S := S) h hz hzm ht
          have hv1 : Ans l 0 X sgX8_has [.long (mtF M (10 * t)), .int v] (mk S (sc M z)) (bI (hsP (mtF M (10 * t)) (nI (k / 32)))) := by rw [ev]; exact m_has _ _
          have hw1 : Ans l 0 X sgX8_has [.long (mtF M (10 * t)), .int w] (mk S (sc M z)) (bI (hsP (mtF M (10 * t)) (nI (k % 32)))) := by rw [ew]; exact m_has _ _
          refine run_sound okX8_settles cNse 300 (brF ?_ (brBB (fun p => ?_) (fun p => t60 _ ?_ _)))
          · show ¬ M.1 9 ≤ nI t
            rw [h9]; exact nI_ge ht (by omega)
          · have en : ¬ apF M left a k t = true := by rw [p]; decide
            have ey : apT M a k t → (1 : Int32) = bB (apF M left a k (t + 1)) := fun y => by rw [apF, if_neg en, if_pos y]; rfl
            have e0 : ¬ apT M a k t → (0 : Int32) = bB (apF M left a k (t + 1)) := fun y => by rw [apF, if_neg en, if_neg y]; rfl
            exact br (fun p1 => kH co (by decide) (kH hv1 (by decide) (kH co (by decide) (kH hw1 (by decide) (br (fun p2 => t57 _ (e0 (fun y => y.2 p2))) (fun p2 => t57 _ (ey ⟨p1, p2⟩))))))) (fun p1 => t57 _ (e0 (fun y => p1 y.1)))
          · rw [p]
            exact (apF_more left a k p nt (by omega)).symm
      have t27 : ∀ x : Int32, x = bB (apF M left a k 0) → WP l (rmD 1 0 0) X sgX8_settles kX8_settles (fun h w => h = mk S (sc M z) ∧ w = some (.int (bB V))) 27 [some (.ref 27), some (.long left), none, some (.int a), some (.int (nI k)), some (.int v), some (.int w), x7, x8] [.int x] (mk S (sc M z)) 0 0 := by
        intro x hx
        subst hx
        exact run_sound okX8_settles (fun i => Nat.beq i 30) 300 (inner 0 (Nat.zero_le _))
      have ey : apP left k → (1 : Int32) = bB (apF M left a k 0) := fun y => by rw [apF, if_pos y]; rfl
      have e0 : ¬ apP left k → (0 : Int32) = bB (apF M left a k 0) := fun y => by rw [apF, if_neg y]; rfl
      have hlv : Ans l 0 X sgX8_has [.long left, .int v] (mk S (sc M z)) (bI (hsP left (nI (k / 32)))) := by rw [ev]; exact m_has _ _
      have hlw : Ans l 0 X sgX8_has [.long left, .int w] (mk S (sc M z)) (bI (hsP left (nI (k % 32)))) := by rw [ew]; exact m_has _ _
      have hvw : w ≤ v ↔ k % 32 ≤ k / 32 := by rw [ev, ew]; exact nI_leI (by omega) (by omega)
      subst hv
      subst hw
      refine run_sound okX8_settles cNse 300 (brF (nI_ge (b := 1024) hk (by decide)) (And.intro (by decide) (And.intro (by decide) (br (fun p => t27 _ (ey (Or.inl (hvw.mp p)))) (fun p => kH hlv (by decide) (brB' (fun p2 => t27 _ (ey (Or.inr (Or.inl p2)))) (fun p2 => kH hlw (by decide) (brB' (fun p3 => t27 _ (ey (Or.inr (Or.inr p3)))) (fun p3 => t27 _ (e0 (fun y => y.elim (fun y => p (hvw.mpr y)) (fun y => y.elim (fun y => y p2) (fun y => y p3)))))))))))))
  exact key 0 (Nat.zero_le _) hV none none none none
def stG (M : MS) (nt nk : Nat) (what : Int32) : Int32 := if p1P what then beO (fun a => seF M nt (woT M nk) a 1024 0) (2 ^ nt) what else -2
def cNst (i : Nat) : Bool := Nat.beq i 14 || Nat.beq i 33
set_option maxRecDepth 100000 in
set_option maxHeartbeats 1000000 in
theorem g_settle (h : MInv M nt ns nk) (what : Int32) : Ctr l 6 X sgX8_settle [.ref 27, .int what] (mk S M) (zA S M (.int (stG M nt nk what))) := by
  obtain ⟨h9, h1, h6⟩ := h.2.2.1
  have h12 : nt ≤ 12 := by omega
  refine Ctr.of okX8_settle rfl (Nat.le_of_ble_eq_true rfl) (run_sound okX8_settle cNst 200 ?_)
  refine kH (m_in _ _ _) (by decide) (brB' (fun q => zI h.1 (if_neg q).symm) (fun q => ⟨5, _, by decide, g_worldsNow h, ?_⟩))
  rw [show stG M nt nk what = beO (fun a => seF M nt (woT M nk) a 1024 0) (2 ^ nt) what from if_pos q]
  rintro hp' w ⟨⟨z, hz, hzm, rfl⟩, rfl⟩
  obtain ⟨P, hP⟩ : ∃ P : Int32 → Bool, P = fun a => seF M nt (woT M nk) a 1024 0 := ⟨_, rfl⟩
  have hw : ∀ a, Ans l 1 X sgX8_settles [.ref 27, .long (woT M nk), .int a] (mk S (sc M z)) (bB (P a)) := fun a => by
    rw [hP]
    exact g_settles h hz hzm (woT M nk) a
  rw [← hP]
  have hsh : (1 : Int32) <<< (M.1 9 &&& 31) = nI (2 ^ nt) := by rw [h9, shl_nk h12]
  have hpw := pw_nk h12
  generalize 2 ^ nt = N at hsh hpw ⊢
  have key : ∀ j, j ≤ N → ∀ x6, WP l (rmD 6 0 0) X sgX8_settle kX8_settle (zA S M (.int (beO P N what))) 14 [some (.ref 27), some (.int what), some (.long (woT M nk)), none, some (.int (beB P j)), some (.int (nI j)), x6] [] (mk S (sc M z)) 0 0 := by
    refine down (fun x6 => ?_) (fun j hj ih x6 => ?_)
    · refine run_sound okX8_settle cNst 200 (brT ?_ (br (fun p => ⟨⟨z, hz, rfl⟩, some_int (if_pos (Or.inl p)).symm⟩) (fun p => br (fun p2 => ⟨⟨z, hz, rfl⟩, some_int (if_pos (Or.inr p2)).symm⟩) (fun p2 => kH (m_bitsOf _) (by decide) ⟨⟨z, hz, rfl⟩, some_int (if_neg (fun y => y.elim p p2)).symm⟩))))
      show (1 : Int32) <<< (M.1 9 &&& 31) ≤ nI N
      rw [hsh]; exact Int32.le_refl _
    · have t33 : ∀ v : Int32, (v = 1 ∧ (beB P j = -1 ∨ cntF (nI j).toInt64 32 < cntF (beB P j).toInt64 32)) ∨ (v = 0 ∧ ¬ (beB P j = -1 ∨ cntF (nI j).toInt64 32 < cntF (beB P j).toInt64 32)) → WP l (rmD 6 0 0) X sgX8_settle kX8_settle (zA S M (.int (beO P N what))) 33 [some (.ref 27), some (.int what), some (.long (woT M nk)), none, some (.int (beB P j)), some (.int (nI j)), x6] [.int v] (mk S (sc M z)) 0 0 := by
        intro v hv
        rcases hv with ⟨rfl, hf⟩ | ⟨rfl, hf⟩
        · refine run_sound okX8_settle (fun i => Nat.beq i 14) 200 (brF (by decide) (kH (hw _) (by decide) (brBB (fun p => ?_) (fun p => ?_))))
          · have ih := ih (some (.int 1))
            rw [show beB P (j + 1) = beB P j by rw [beB, if_neg (fun y => by rw [p] at y; cases y.2)], ← nI_1 j] at ih
            exact ih
          · have ih := ih (some (.int 1))
            rw [show beB P (j + 1) = nI j by rw [beB, if_pos ⟨hf, p⟩], ← nI_1 j] at ih
            exact ih
        · have ih := ih (some (.int 0))
          rw [show beB P (j + 1) = beB P j by rw [beB, if_neg (fun y => hf y.1)], ← nI_1 j] at ih
          exact run_sound okX8_settle (fun i => Nat.beq i 14) 200 (brT rfl ih)
      refine run_sound okX8_settle cNst 200 (brF ?_ (br (fun p => t33 1 (Or.inl ⟨rfl, Or.inl p⟩)) (fun p => kH (m_bitsOf _) (by decide) (kH (m_bitsOf _) (by decide) (br (fun p2 => t33 0 (Or.inr ⟨rfl, fun y => y.elim p (fun y => absurd y (Int32.not_lt.mpr p2))⟩)) (fun p2 => t33 1 (Or.inl ⟨rfl, Or.inr (Int32.not_le.mp p2)⟩)))))))
      show ¬ (1 : Int32) <<< (M.1 9 &&& 31) ≤ nI j
      rw [hsh]; exact nI_ge hj hpw
  exact key 0 (Nat.zero_le _) none
def mnG (M : MS) (nk : Nat) (what : Int32) : Int32 := if (0 : Int32) ≤ what ∧ what ≤ 7 then manF what (woT M nk) else -2
set_option maxRecDepth 100000 in
set_option maxHeartbeats 1000000 in
theorem g_many (h : MInv M nt ns nk) (what : Int32) : Ctr l 6 X sgX8_many [.ref 27, .int what] (mk S M) (zA S M (.int (mnG M nk what))) := by
  refine Ctr.of okX8_many rfl (Nat.le_of_ble_eq_true rfl) (run_sound okX8_many cNm 200 ?_)
  refine kH (m_in _ _ _) (by decide) (brB' (fun q => zI h.1 (if_neg q).symm) (fun q => ⟨5, _, by decide, g_worldsNow h, ?_⟩))
  rintro hp' w ⟨⟨z, hz, hzm, rfl⟩, rfl⟩
  rw [show mnG M nk what = manF what (woT M nk) from if_pos q]
  generalize woT M nk = A
  obtain ⟨V, hV⟩ : ∃ V, manF what A = V := ⟨_, rfl⟩
  rw [hV]
  have key : ∀ j, j ≤ 32 → ∀ x8, WP l (rmD 6 0 0) X sgX8_many kX8_many (zA S M (.int V)) 18 [some (.ref 27), some (.int what), some (.long A), none, some (.int (maF what A j).1), some (.int (maF what A j).2.1), some (.int (maF what A j).2.2), some (.int (nI j)), x8] [] (mk S (sc M z)) 0 0 := by
    refine down (fun x8 => ?_) (fun j hj ih x8 => ?_)
    · rw [← hV]
      refine run_sound okX8_many cNm 200 (brT (Int32.le_refl _) (br (fun p => ⟨⟨z, hz, rfl⟩, some_int ?_⟩) (fun p => br (fun p0 => ⟨⟨z, hz, rfl⟩, some_int ?_⟩) (fun p0 => br (fun p1 => ⟨⟨z, hz, rfl⟩, some_int ?_⟩) (fun p1 => ⟨⟨z, hz, rfl⟩, some_int ?_⟩)))))
      · exact (if_pos p).symm
      · exact ((if_neg p).trans (if_pos p0)).symm
      · exact ((if_neg p).trans ((if_neg p0).trans (if_pos p1))).symm
      · exact ((if_neg p).trans ((if_neg p0).trans (if_neg p1))).symm
    · refine run_sound okX8_many cNm 200 (brF (ge_no (n := 32) rfl hj (by decide)) (kH (m_has _ _) (by decide) (brB' (fun hs => ?_) (fun hs => kH (m_bitsOf _) (by decide) ?_))))
      · have ih := ih x8
        rw [maF, if_neg hs, ← nI_1 j] at ih
        exact ih
      · obtain ⟨c, hc⟩ : ∃ c, c = cntF (nI j).toInt64 32 := ⟨_, rfl⟩
        rw [maF, if_pos hs, ← hc, ← nI_1 j] at ih
        rw [← hc]
        have t46 : ∀ v4 v5, v4 = (if (maF what A j).1 = -1 then c else if (maF what A j).1 ≤ c then (maF what A j).1 else c) → v5 = (if c ≤ (maF what A j).2.1 then (maF what A j).2.1 else c) →
            WP l (rmD 6 0 0) X sgX8_many kX8_many (zA S M (.int V)) 46 [some (.ref 27), some (.int what), some (.long A), none, some (.int v4), some (.int v5), some (.int (maF what A j).2.2), some (.int (nI j)), some (.int c)] [] (mk S (sc M z)) 0 0 := by
          intro v4 v5 h4 h5
          have ih := ih (some (.int c))
          rw [← h4, ← h5] at ih
          refine run_sound okX8_many cNm 200 (br (fun p => ?_) (fun p => ?_))
          · rw [show (if c = what - 2 then (1 : Int32) else 0) = 1 from if_pos p] at ih
            exact ih
          · rw [show (if c = what - 2 then (1 : Int32) else 0) = 0 from if_neg p] at ih
            exact ih
        have t39 : ∀ v4, v4 = (if (maF what A j).1 = -1 then c else if (maF what A j).1 ≤ c then (maF what A j).1 else c) →
            WP l (rmD 6 0 0) X sgX8_many kX8_many (zA S M (.int V)) 39 [some (.ref 27), some (.int what), some (.long A), none, some (.int v4), some (.int (maF what A j).2.1), some (.int (maF what A j).2.2), some (.int (nI j)), some (.int c)] [] (mk S (sc M z)) 0 0 := by
          intro v4 h4
          exact run_sound okX8_many cNm 200 (br (fun p => t46 _ _ h4 (if_pos p).symm) (fun p => t46 _ _ h4 (if_neg p).symm))
        exact br (fun p => t39 _ (if_pos p).symm) (fun p => br (fun p2 => t39 _ ((if_neg p).trans (if_pos p2)).symm) (fun p2 => t39 _ ((if_neg p).trans (if_neg p2)).symm))
  exact key 0 (Nat.zero_le _) none
end MSET
end
section
-- 8a.mshe
/-! THE REFERENCE in general: images, sheets, what is taken -/
section MSHE
variable {l : Launch} {X : List (List Int32)} {S : CS} {M : MS} {hp : AH} {nt ns nk : Nat}
theorem copy_step {xs ys : List Int32} {j : Nat} (hj : j < xs.length) (hl : xs.length = ys.length) : (xs.take j ++ ys.drop j).set j (xs.getD j 0) = xs.take (j + 1) ++ ys.drop (j + 1) := by
  apply List.ext_getElem?
  intro k
  have hk : (xs.take j).length = j := by simp; omega
  have hk1 : (xs.take (j + 1)).length = j + 1 := by simp; omega
  by_cases e : k = j
  · subst e
    rw [List.getElem?_set_self (by simp; omega), List.getElem?_append_left (by omega), List.getElem?_take_of_lt (by omega), List.getD_eq_getElem?_getD, List.getElem?_eq_getElem hj]
    rfl
  · rw [List.getElem?_set_ne (fun z => e z.symm)]
    by_cases h : k < j
    · rw [List.getElem?_append_left (by omega), List.getElem?_append_left (by omega), List.getElem?_take_of_lt h, List.getElem?_take_of_lt (by omega)]
    · rw [List.getElem?_append_right (by omega), List.getElem?_append_right (by omega), hk, hk1, List.getElem?_drop, List.getElem?_drop]
      congr 1
      omega
/-- half copied -/
abbrev cpH (xs ys : List Int32) (j : Nat) : List Int32 := xs.take j ++ ys.drop j
theorem cpH_len {xs ys : List Int32} {j : Nat} (hj : j ≤ xs.length) (hl : xs.length = ys.length) : (cpH xs ys j).length = xs.length := by simp; omega
theorem cpH_all {xs ys : List Int32} (hl : xs.length = ys.length) : cpH xs ys xs.length = xs := by
  unfold cpH
  rw [List.take_length, List.drop_eq_nil_of_le (by omega), List.append_nil]
def imM (M : MS) : MS := mR (mR (mN (mN (mN (mN M 11 1) 12 (M.1 0)) 13 (M.1 3)) 14 (M.1 10)) 15 (M.2.1 1 ++ M.2.1 2)) 16 (M.2.1 4)
set_option maxRecDepth 100000 in
set_option maxHeartbeats 2000000 in
theorem g_image (hM : MLen M) : Ctr l 0 X sgX8_image [.ref 27] (mk S M) (rsQ S (imM M, M.1 3)) := by
  obtain ⟨l1, l2, l4, l5, l7, l8, l15, l16, -⟩ := hM
  refine Ctr.of okX8_image rfl (Nat.le_of_ble_eq_true rfl) (run_sound okX8_image (fun i => Nat.beq i 17 || Nat.beq i 42) 300 ?_)
  refine And.intro (Or.inr rfl) (And.intro trivial (And.intro trivial (And.intro trivial ?_)))
  obtain ⟨M0, hM0⟩ : ∃ M0, M0 = mN (mN (mN (mN M 11 1) 12 (M.1 0)) 13 (M.1 3)) 14 (M.1 10) := ⟨_, rfl⟩
  have f1 : (M0.2.1 1).length = 5 := by subst hM0; exact l1
  have f2 : (M0.2.1 2).length = 5 := by subst hM0; exact l2
  have f4 : (M0.2.1 4).length = 36 := by subst hM0; exact l4
  have f16 : (M0.2.1 16).length = 36 := by subst hM0; exact l16
  have f15 : (M0.2.1 15).length = 10 := by subst hM0; exact l15
  have fin : mk S (mR (mR M0 15 (M0.2.1 1 ++ M0.2.1 2)) 16 (M0.2.1 4)) = mk S (imM M) ∧ M0.1 3 = M.1 3 := by subst hM0; exact ⟨rfl, rfl⟩
  have k2 : ∀ j, j ≤ 36 → ∀ a, WP l (rmD 0 0 0) X sgX8_image kX8_image (fun h w => h = mk S (mR (mR M0 15 a) 16 (M0.2.1 4)) ∧ w = some (.int (M0.1 3))) 42 [some (.ref 27), some (.int (nI j))] [] (mk S (mR (mR M0 15 a) 16 (cpH (M0.2.1 4) (M0.2.1 16) j))) 0 0 := by
    refine down (fun a => ?_) (fun j hj ih a => ?_)
    · refine run_sound okX8_image (fun i => Nat.beq i 42) 200 (brT (Int32.le_refl _) ⟨?_, rfl⟩)
      rw [show (36 : Nat) = (M0.2.1 4).length from f4.symm, cpH_all (by omega)]
    · refine run_sound okX8_image (fun i => Nat.beq i 42) 200 (brF (ge_no (n := 36) rfl hj (by decide)) (Exists.intro _ (And.intro rfl (And.intro ?_ (Exists.intro _ (And.intro rfl (And.intro ?_ ?_)))))))
      · show vp_in (nI j) (M0.2.1 4).length
        rw [f4]; exact vp_nI hj (by decide)
      · show vp_in (nI j) (cpH (M0.2.1 4) (M0.2.1 16) j).length
        rw [cpH_len (by omega) (by omega), f4]; exact vp_nI hj (by decide)
      · have ih := ih a
        have en : (nI j).toNatClampNeg = j := nI_clamp (by omega)
        have eh : cpH (M0.2.1 4) (M0.2.1 16) (j + 1) = (cpH (M0.2.1 4) (M0.2.1 16) j).set (nI j).toNatClampNeg ((M0.2.1 4).getD (nI j).toNatClampNeg 0) := by rw [en]; exact (copy_step (by omega) (by omega)).symm
        rw [eh, ← nI_1 j] at ih
        exact ih
  have k1 : ∀ j, j ≤ 5 → WP l (rmD 0 0 0) X sgX8_image kX8_image (rsQ S (imM M, M.1 3)) 17 [some (.ref 27), some (.int (nI j))] [] (mk S (mR M0 15 (cpH (M0.2.1 1) ((M0.2.1 15).take 5) j ++ cpH (M0.2.1 2) ((M0.2.1 15).drop 5) j))) 0 0 := by
    have t5 : ((M0.2.1 15).take 5).length = 5 := by simp; omega
    have d5 : ((M0.2.1 15).drop 5).length = 5 := by simp; omega
    refine down ?_ (fun j hj ih => ?_)
    · have q := k2 0 (Nat.zero_le _) (M0.2.1 1 ++ M0.2.1 2)
      rw [fin.1, fin.2] at q
      have e1 : cpH (M0.2.1 1) ((M0.2.1 15).take 5) 5 = M0.2.1 1 := by have y := cpH_all (xs := M0.2.1 1) (ys := (M0.2.1 15).take 5) (by omega); rw [f1] at y; exact y
      have e2 : cpH (M0.2.1 2) ((M0.2.1 15).drop 5) 5 = M0.2.1 2 := by have y := cpH_all (xs := M0.2.1 2) (ys := (M0.2.1 15).drop 5) (by omega); rw [f2] at y; exact y
      rw [e1, e2]
      exact run_sound okX8_image (fun i => Nat.beq i 42) 200 (brT (Int32.le_refl _) q)
    · have en : (nI j).toNatClampNeg = j := nI_clamp (by omega)
      have e5 : Int32.ofInt 5 + nI j = nI (5 + j) := nI_add 5 j
      have c1 : (cpH (M0.2.1 1) ((M0.2.1 15).take 5) j).length = 5 := by rw [cpH_len (by omega) (by omega), f1]
      have c2 : (cpH (M0.2.1 2) ((M0.2.1 15).drop 5) j).length = 5 := by rw [cpH_len (by omega) (by omega), f2]
      have s1 : (cpH (M0.2.1 1) ((M0.2.1 15).take 5) j ++ cpH (M0.2.1 2) ((M0.2.1 15).drop 5) j).set (nI j).toNatClampNeg ((M0.2.1 1).getD (nI j).toNatClampNeg 0) = cpH (M0.2.1 1) ((M0.2.1 15).take 5) (j + 1) ++ cpH (M0.2.1 2) ((M0.2.1 15).drop 5) j := by
        rw [en, List.set_append_left _ _ (by omega), copy_step (by omega) (by omega)]
      have s2 : (cpH (M0.2.1 1) ((M0.2.1 15).take 5) (j + 1) ++ cpH (M0.2.1 2) ((M0.2.1 15).drop 5) j).set (Int32.ofInt 5 + nI j).toNatClampNeg ((M0.2.1 2).getD (nI j).toNatClampNeg 0) = cpH (M0.2.1 1) ((M0.2.1 15).take 5) (j + 1) ++ cpH (M0.2.1 2) ((M0.2.1 15).drop 5) (j + 1) := by
        have c1' : (cpH (M0.2.1 1) ((M0.2.1 15).take 5) (j + 1)).length = 5 := by rw [cpH_len (by omega) (by omega), f1]
        rw [en, e5, nI_clamp (by omega), List.set_append_right _ _ (by omega), c1', show 5 + j - 5 = j by omega, copy_step (by omega) (by omega)]
      rw [← s2, ← s1, ← nI_1 j] at ih
      refine run_sound okX8_image (fun i => Nat.beq i 17 || Nat.beq i 42) 200 (brF (ge_no (n := 5) rfl hj (by decide)) (Exists.intro _ (And.intro rfl (And.intro ?_ (Exists.intro _ (And.intro rfl (And.intro ?_ (Exists.intro _ (And.intro rfl (And.intro ?_ (Exists.intro _ (And.intro rfl (And.intro ?_ ih)))))))))))))
      · show vp_in (nI j) (M0.2.1 1).length
        rw [f1]; exact vp_nI hj (by decide)
      · show vp_in (nI j) (cpH (M0.2.1 1) ((M0.2.1 15).take 5) j ++ cpH (M0.2.1 2) ((M0.2.1 15).drop 5) j).length
        rw [List.length_append, c1, c2]; exact vp_nI (by omega) (by decide)
      · show vp_in (nI j) (M0.2.1 2).length
        rw [f2]; exact vp_nI hj (by decide)
      · show vp_in (Int32.ofInt 5 + nI j) ((cpH (M0.2.1 1) ((M0.2.1 15).take 5) j ++ cpH (M0.2.1 2) ((M0.2.1 15).drop 5) j).set (nI j).toNatClampNeg ((M0.2.1 1).getD (nI j).toNatClampNeg 0)).length
        rw [List.length_set, List.length_append, c1, c2, e5]; exact vp_nI (by omega) (by decide)
  have q := k1 0 (Nat.zero_le _)
  have e0 : mk S (mR M0 15 (cpH (M0.2.1 1) ((M0.2.1 15).take 5) 0 ++ cpH (M0.2.1 2) ((M0.2.1 15).drop 5) 0)) = mk S M0 := by
    show mk S (mR M0 15 ((M0.2.1 15).take 5 ++ (M0.2.1 15).drop 5)) = mk S M0
    rw [List.take_append_drop]
    rfl
  rw [e0] at q
  subst hM0
  exact q
def bkM (M : MS) : MS := mN (mN (mN (mR (mR (mR M 1 ((M.2.1 15).take 5)) 2 ((M.2.1 15).drop 5)) 4 (M.2.1 16)) 0 (M.1 12)) 3 (M.1 13)) 10 (M.1 14)
def bkG (M : MS) : MS × Int32 := if M.1 11 = 0 then (M, -3) else (bkM M, M.1 13)
set_option maxRecDepth 100000 in
set_option maxHeartbeats 2000000 in
theorem g_back (hM : MLen M) : Ctr l 0 X sgX8_back [.ref 27] (mk S M) (rsQ S (bkG M)) := by
  obtain ⟨l1, l2, l4, l5, l7, l8, l15, l16, -⟩ := hM
  refine Ctr.of okX8_back rfl (Nat.le_of_ble_eq_true rfl) (run_sound okX8_back (fun i => Nat.beq i 19 || Nat.beq i 44) 300 ?_)
  refine br (fun p => rs_i (if_pos p) rfl) (fun p => And.intro trivial (And.intro trivial (And.intro trivial ?_)))
  rw [show bkG M = (bkM M, M.1 13) from if_neg p]
  obtain ⟨M0, hM0⟩ : ∃ M0, M0 = mN (mN (mN M 0 (M.1 12)) 3 (M.1 13)) 10 (M.1 14) := ⟨_, rfl⟩
  have f1 : (M0.2.1 1).length = 5 := by subst hM0; exact l1
  have f2 : (M0.2.1 2).length = 5 := by subst hM0; exact l2
  have f4 : (M0.2.1 4).length = 36 := by subst hM0; exact l4
  have f16 : (M0.2.1 16).length = 36 := by subst hM0; exact l16
  have f15 : (M0.2.1 15).length = 10 := by subst hM0; exact l15
  have t5 : ((M0.2.1 15).take 5).length = 5 := by simp; omega
  have d5 : ((M0.2.1 15).drop 5).length = 5 := by simp; omega
  have fin : mk S (mR (mR (mR M0 1 ((M0.2.1 15).take 5)) 2 ((M0.2.1 15).drop 5)) 4 (M0.2.1 16)) = mk S (bkM M) ∧ M0.1 3 = M.1 13 := by subst hM0; exact ⟨rfl, rfl⟩
  have k2 : ∀ j, j ≤ 36 → ∀ a b, WP l (rmD 0 0 0) X sgX8_back kX8_back (fun h w => h = mk S (mR (mR (mR M0 1 a) 2 b) 4 (M0.2.1 16)) ∧ w = some (.int (M0.1 3))) 44 [some (.ref 27), some (.int (nI j))] [] (mk S (mR (mR (mR M0 1 a) 2 b) 4 (cpH (M0.2.1 16) (M0.2.1 4) j))) 0 0 := by
    refine down (fun a b => ?_) (fun j hj ih a b => ?_)
    · refine run_sound okX8_back (fun i => Nat.beq i 44) 200 (brT (Int32.le_refl _) ⟨?_, rfl⟩)
      rw [show (36 : Nat) = (M0.2.1 16).length from f16.symm, cpH_all (by omega)]
    · refine run_sound okX8_back (fun i => Nat.beq i 44) 200 (brF (ge_no (n := 36) rfl hj (by decide)) (Exists.intro _ (And.intro rfl (And.intro ?_ (Exists.intro _ (And.intro rfl (And.intro ?_ ?_)))))))
      · show vp_in (nI j) (M0.2.1 16).length
        rw [f16]; exact vp_nI hj (by decide)
      · show vp_in (nI j) (cpH (M0.2.1 16) (M0.2.1 4) j).length
        rw [cpH_len (by omega) (by omega), f16]; exact vp_nI hj (by decide)
      · have ih := ih a b
        have en : (nI j).toNatClampNeg = j := nI_clamp (by omega)
        have eh : cpH (M0.2.1 16) (M0.2.1 4) (j + 1) = (cpH (M0.2.1 16) (M0.2.1 4) j).set (nI j).toNatClampNeg ((M0.2.1 16).getD (nI j).toNatClampNeg 0) := by rw [en]; exact (copy_step (by omega) (by omega)).symm
        rw [eh, ← nI_1 j] at ih
        exact ih
  have k1 : ∀ j, j ≤ 5 → WP l (rmD 0 0 0) X sgX8_back kX8_back (rsQ S (bkM M, M.1 13)) 19 [some (.ref 27), some (.int (nI j))] [] (mk S (mR (mR M0 1 (cpH ((M0.2.1 15).take 5) (M0.2.1 1) j)) 2 (cpH ((M0.2.1 15).drop 5) (M0.2.1 2) j))) 0 0 := by
    refine down ?_ (fun j hj ih => ?_)
    · have q := k2 0 (Nat.zero_le _) ((M0.2.1 15).take 5) ((M0.2.1 15).drop 5)
      rw [fin.1, fin.2] at q
      have e1 : cpH ((M0.2.1 15).take 5) (M0.2.1 1) 5 = (M0.2.1 15).take 5 := by have y := cpH_all (xs := (M0.2.1 15).take 5) (ys := M0.2.1 1) (by omega); rw [t5] at y; exact y
      have e2 : cpH ((M0.2.1 15).drop 5) (M0.2.1 2) 5 = (M0.2.1 15).drop 5 := by have y := cpH_all (xs := (M0.2.1 15).drop 5) (ys := M0.2.1 2) (by omega); rw [d5] at y; exact y
      rw [e1, e2]
      exact run_sound okX8_back (fun i => Nat.beq i 44) 200 (brT (Int32.le_refl _) q)
    · have en : (nI j).toNatClampNeg = j := nI_clamp (by omega)
      have e5 : Int32.ofInt 5 + nI j = nI (5 + j) := nI_add 5 j
      have g1 : (M0.2.1 15).getD (nI j).toNatClampNeg 0 = ((M0.2.1 15).take 5).getD j 0 := by
        rw [en, List.getD_eq_getElem?_getD, List.getD_eq_getElem?_getD, List.getElem?_take_of_lt (by omega)]
      have g2 : (M0.2.1 15).getD (Int32.ofInt 5 + nI j).toNatClampNeg 0 = ((M0.2.1 15).drop 5).getD j 0 := by
        rw [e5, nI_clamp (by omega), List.getD_eq_getElem?_getD, List.getD_eq_getElem?_getD, List.getElem?_drop]
      have s1 : cpH ((M0.2.1 15).take 5) (M0.2.1 1) (j + 1) = (cpH ((M0.2.1 15).take 5) (M0.2.1 1) j).set (nI j).toNatClampNeg ((M0.2.1 15).getD (nI j).toNatClampNeg 0) := by rw [g1, en]; exact (copy_step (by omega) (by omega)).symm
      have s2 : cpH ((M0.2.1 15).drop 5) (M0.2.1 2) (j + 1) = (cpH ((M0.2.1 15).drop 5) (M0.2.1 2) j).set (nI j).toNatClampNeg ((M0.2.1 15).getD (Int32.ofInt 5 + nI j).toNatClampNeg 0) := by rw [g2, en]; exact (copy_step (by omega) (by omega)).symm
      rw [s1, s2, ← nI_1 j] at ih
      refine run_sound okX8_back (fun i => Nat.beq i 19 || Nat.beq i 44) 200 (brF (ge_no (n := 5) rfl hj (by decide)) (Exists.intro _ (And.intro rfl (And.intro ?_ (Exists.intro _ (And.intro rfl (And.intro ?_ (Exists.intro _ (And.intro rfl (And.intro ?_ (Exists.intro _ (And.intro rfl (And.intro ?_ ih)))))))))))))
      · show vp_in (nI j) (M0.2.1 15).length
        rw [f15]; exact vp_nI (by omega) (by decide)
      · show vp_in (nI j) (cpH ((M0.2.1 15).take 5) (M0.2.1 1) j).length
        rw [cpH_len (by omega) (by omega), t5]; exact vp_nI hj (by decide)
      · show vp_in (Int32.ofInt 5 + nI j) (M0.2.1 15).length
        rw [f15, e5]; exact vp_nI (by omega) (by decide)
      · show vp_in (nI j) (cpH ((M0.2.1 15).drop 5) (M0.2.1 2) j).length
        rw [cpH_len (by omega) (by omega), d5]; exact vp_nI hj (by decide)
  have q := k1 0 (Nat.zero_le _)
  have e0 : mk S (mR (mR M0 1 (cpH ((M0.2.1 15).take 5) (M0.2.1 1) 0)) 2 (cpH ((M0.2.1 15).drop 5) (M0.2.1 2) 0)) = mk S M0 := rfl
  rw [e0] at q
  subst hM0
  exact q
end MSHE
end
section
-- 8b.mshe2
/-! THE REFERENCE in general: sheets made, cells, copies -/
section MSHE2
variable {l : Launch} {X : List (List Int32)} {S : CS} {M : MS} {hp : AH} {nt ns nk : Nat}
/-- the sheets: their sorts, their sizes -/
def ShOk (M : MS) : Prop := ∀ s, s < 4 → m2P ((M.2.1 17).getD s 0) ∧ ∃ z : Nat, z ≤ 40 ∧ (M.2.1 18).getD s 0 = nI z
def zeC (f : Nat → Int32) (xs : List Int32) (s : Nat) : Nat → List Int32
  | 0 => xs
  | k + 1 => (zeC f xs s k).set (40 * s + k) (f k)
theorem zeC_len {f : Nat → Int32} {xs : List Int32} {s : Nat} : ∀ k, (zeC f xs s k).length = xs.length
  | 0 => rfl
  | k + 1 => by rw [zeC, List.length_set, zeC_len k]
theorem cel_ix {s j : Nat} (hs : s < 4) (hj : j < 40) : Int32.ofInt 40 * nI s + nI j = nI (40 * s + j) := by
  rw [show Int32.ofInt 40 * nI s = nI (40 * s) from nI_mul 40 s, nI_add]
def shM (M : MS) (s : Nat) (sort n : Int32) : MS := mR (mR (mR M 17 ((M.2.1 17).set s sort)) 18 ((M.2.1 18).set s (if sort = -1 then 0 else n))) 19 (zeC (fun _ => 0) (M.2.1 19) s 40)
def shG (M : MS) (s sort n : Int32) : MS × Int32 := if p3P s ∧ m2P sort ∧ (sort = -1 ∨ n ≤ 40) then (if ¬ sort = -1 ∧ n < 0 then (M, -14) else (shM M s.toNatClampNeg sort n, 1)) else (M, -2)
set_option maxRecDepth 100000 in
set_option maxHeartbeats 1000000 in
theorem g_sheet (hM : MLen M) (s sort n : Int32) : Ctr l 1 X sgX8_sheet [.ref 27, .int s, .int sort, .int n] (mk S M) (rsQ S (shG M s sort n)) := by
  have l17 : (M.2.1 17).length = 4 := hM.2.2.2.2.2.2.2.2.1
  have l18 : (M.2.1 18).length = 4 := hM.2.2.2.2.2.2.2.2.2.1
  have l19 : (M.2.1 19).length = 160 := hM.2.2.2.2.2.2.2.2.2.2.1
  refine Ctr.of okX8_sheet rfl (Nat.le_of_ble_eq_true rfl) (run_sound okX8_sheet (fun i => Nat.beq i 18 || Nat.beq i 25 || Nat.beq i 42) 200 ?_)
  refine kH (m_in _ _ _) (by decide) (brB' (fun q => rs_i (if_neg (fun z => q z.1)) rfl) (fun q => kH (m_in _ _ _) (by decide) (brB' (fun q2 => rs_i (if_neg (fun z => q2 z.2.1)) rfl) (fun q2 => ?_))))
  have t25 : p3P s → shG M s sort n = (shM M s.toNatClampNeg sort n, 1) → WP l (rmD 1 0 0) X sgX8_sheet kX8_sheet (rsQ S (shG M s sort n)) 25 [some (.ref 27), some (.int s), some (.int sort), some (.int n), none] [] (mk S M) 0 0 := by
    intro q e
    rw [e]
    obtain ⟨a, ha, rfl⟩ := in03n q
    have en : (nI a).toNatClampNeg = a := nI_clamp (by omega)
    obtain ⟨x, hx⟩ : ∃ x, (M.2.1 17).set a sort = x := ⟨_, rfl⟩
    have tail : ∀ y, y = (M.2.1 18).set a (if sort = -1 then 0 else n) → ∀ j, j ≤ 40 → WP l (rmD 1 0 0) X sgX8_sheet kX8_sheet (rsQ S (shM M a sort n, 1)) 42 [some (.ref 27), some (.int (nI a)), some (.int sort), some (.int n), some (.int (nI j))] [] (mk S (mR (mR (mR M 17 x) 18 y) 19 (zeC (fun _ => 0) (M.2.1 19) a j))) 0 0 := by
      intro y hy
      refine down ?_ (fun j hj ih => ?_)
      · refine run_sound okX8_sheet (fun i => Nat.beq i 18 || Nat.beq i 25 || Nat.beq i 42) 200 (brT (Int32.le_refl _) ⟨?_, rfl⟩)
        rw [hy, ← hx]
        rfl
      · refine run_sound okX8_sheet (fun i => Nat.beq i 18 || Nat.beq i 25 || Nat.beq i 42) 200 (brF (ge_no (n := 40) rfl hj (by decide)) (Exists.intro _ (And.intro rfl (And.intro ?_ ?_))))
        · exact cell_in ha hj (by rw [← l19]; exact zeC_len j)
        · have e1 : zeC (fun _ => 0) (M.2.1 19) a (j + 1) = (zeC (fun _ => 0) (M.2.1 19) a j).set (Int32.ofInt 40 * nI a + nI j).toNatClampNeg (Int32.ofInt 0) := by rw [cel_ix ha hj, nI_clamp (by omega)]; rfl
          rw [e1, ← nI_1 j] at ih
          exact ih
    rw [en]
    rw [← en] at hx
    refine run_sound okX8_sheet (fun i => Nat.beq i 18 || Nat.beq i 42) 200 (Exists.intro _ (And.intro rfl (And.intro ?_ (br (fun p => Exists.intro _ (And.intro rfl (And.intro ?_ ?_))) (fun p => Exists.intro _ (And.intro rfl (And.intro ?_ ?_)))))))
    · show vp_in (nI a) (M.2.1 17).length
      rw [l17]; exact vp_nI ha (by decide)
    · show vp_in (nI a) (M.2.1 18).length
      rw [l18]; exact vp_nI ha (by decide)
    · have t := tail ((M.2.1 18).set (nI a).toNatClampNeg (Int32.ofInt 0)) (by rw [en, if_pos (show sort = -1 from p)]; rfl) 0 (Nat.zero_le _)
      rw [← hx] at t
      exact t
    · show vp_in (nI a) (M.2.1 18).length
      rw [l18]; exact vp_nI ha (by decide)
    · have t := tail ((M.2.1 18).set (nI a).toNatClampNeg n) (by rw [en, if_neg (show ¬ sort = -1 from p)]) 0 (Nat.zero_le _)
      rw [← hx] at t
      exact t
  have t18 : (sort = -1 ∨ n ≤ 40) → WP l (rmD 1 0 0) X sgX8_sheet kX8_sheet (rsQ S (shG M s sort n)) 18 [some (.ref 27), some (.int s), some (.int sort), some (.int n), none] [] (mk S M) 0 0 := by
    intro p
    have e : shG M s sort n = if ¬ sort = -1 ∧ n < 0 then (M, -14) else (shM M s.toNatClampNeg sort n, 1) := if_pos ⟨q, q2, p⟩
    refine run_sound okX8_sheet (fun i => Nat.beq i 25 || Nat.beq i 42) 200 (br (fun h1 => t25 q ?_) (fun h1 => br (fun h2 => t25 q ?_) (fun h2 => rs_i (e.trans (if_pos ⟨h1, Int32.not_le.mp h2⟩)) rfl)))
    · exact e.trans (if_neg (fun z => z.1 h1))
    · exact e.trans (if_neg (fun z => absurd z.2 (Int32.not_lt.mpr h2)))
  exact br (fun h1 => t18 (Or.inl h1)) (fun h1 => br (fun h2 => t18 (Or.inr h2)) (fun h2 => rs_i (if_neg (fun z => z.2.2.elim h1 h2)) rfl))
def fiV (M : MS) (nk k : Nat) : Int32 := if k < 3 * nk then (M.2.1 4).getD k 0 else 0
def fiM (M : MS) (nk s : Nat) : MS := mR (mR (mR M 17 ((M.2.1 17).set s 2)) 18 ((M.2.1 18).set s (nI (3 * nk)))) 19 (zeC (fiV M nk) (M.2.1 19) s 40)
def fiG (M : MS) (nk : Nat) (s : Int32) : MS × Int32 := if p3P s then (fiM M nk s.toNatClampNeg, nI nk) else (M, -2)
set_option maxRecDepth 100000 in
set_option maxHeartbeats 1000000 in
theorem g_film (h : MInv M nt ns nk) (s : Int32) : Ctr l 1 X sgX8_film [.ref 27, .int s] (mk S M) (rsQ S (fiG M nk s)) := by
  obtain ⟨h3, h12⟩ := h.2.2.2.2.1
  have l4 : (M.2.1 4).length = 36 := h.1.2.2.1
  have l17 : (M.2.1 17).length = 4 := h.1.2.2.2.2.2.2.2.2.1
  have l18 : (M.2.1 18).length = 4 := h.1.2.2.2.2.2.2.2.2.2.1
  have l19 : (M.2.1 19).length = 160 := h.1.2.2.2.2.2.2.2.2.2.2.1
  have e3 : Int32.ofInt 3 * M.1 3 = nI (3 * nk) := by rw [h3]; exact nI_mul 3 nk
  refine Ctr.of okX8_film rfl (Nat.le_of_ble_eq_true rfl) (run_sound okX8_film (fun i => Nat.beq i 22) 200 ?_)
  refine kH (m_in _ _ _) (by decide) (brB' (fun q => rs_i (if_neg q) rfl) (fun q => ?_))
  rw [show fiG M nk s = (fiM M nk s.toNatClampNeg, nI nk) from if_pos q]
  obtain ⟨a, ha, rfl⟩ := in03n q
  have en : (nI a).toNatClampNeg = a := nI_clamp (by omega)
  obtain ⟨x, hx⟩ : ∃ x, (M.2.1 17).set (nI a).toNatClampNeg (Int32.ofInt 2) = x := ⟨_, rfl⟩
  obtain ⟨y, hy⟩ : ∃ y, (M.2.1 18).set (nI a).toNatClampNeg (Int32.ofInt 3 * M.1 3) = y := ⟨_, rfl⟩
  have key : ∀ j, j ≤ 40 → WP l (rmD 1 0 0) X sgX8_film kX8_film (rsQ S (fiM M nk (nI a).toNatClampNeg, nI nk)) 22 [some (.ref 27), some (.int (nI a)), some (.int (nI j))] [] (mk S (mR (mR (mR M 17 x) 18 y) 19 (zeC (fiV M nk) (M.2.1 19) a j))) 0 0 := by
    refine down ?_ (fun j hj ih => ?_)
    · refine run_sound okX8_film (fun i => Nat.beq i 22) 200 (brT (Int32.le_refl _) ⟨?_, some_int h3⟩)
      rw [← hx, ← hy, en, e3]
      rfl
    · have e1 : ∀ v, v = fiV M nk j → zeC (fiV M nk) (M.2.1 19) a (j + 1) = (zeC (fiV M nk) (M.2.1 19) a j).set (Int32.ofInt 40 * nI a + nI j).toNatClampNeg v := fun v hv => by rw [cel_ix ha hj, nI_clamp (by omega), hv]; rfl
      have v0 : vp_in (Int32.ofInt 40 * nI a + nI j) (zeC (fiV M nk) (M.2.1 19) a j).length := cell_in ha hj (by rw [← l19]; exact zeC_len j)
      refine run_sound okX8_film (fun i => Nat.beq i 22) 200 (brF (ge_no (n := 40) rfl hj (by decide)) (br (fun p => ?_) (fun p => ?_)))
      · have p : Int32.ofInt 3 * M.1 3 ≤ nI j := p
        rw [e3] at p
        have p := (nI_leI (by omega) (by omega)).mp p
        rw [e1 (Int32.ofInt 0) (if_neg (by omega)).symm, ← nI_1 j] at ih
        exact Exists.intro _ (And.intro rfl (And.intro v0 ih))
      · have p : ¬ Int32.ofInt 3 * M.1 3 ≤ nI j := p
        rw [e3] at p
        have p : j < 3 * nk := Nat.lt_of_not_le (fun z => p ((nI_leI (by omega) (by omega)).mpr z))
        rw [e1 ((M.2.1 4).getD (nI j).toNatClampNeg 0) (by rw [nI_clamp (by omega)]; exact (if_pos p).symm), ← nI_1 j] at ih
        refine Exists.intro _ (And.intro rfl (And.intro ?_ (Exists.intro _ (And.intro rfl (And.intro v0 ih)))))
        show vp_in (nI j) (M.2.1 4).length
        rw [l4]; exact vp_nI (by omega) (by decide)
  refine Exists.intro _ (And.intro rfl (And.intro ?_ (Exists.intro _ (And.intro rfl (And.intro ?_ ?_)))))
  · show vp_in (nI a) (M.2.1 17).length
    rw [l17]; exact vp_nI ha (by decide)
  · show vp_in (nI a) (M.2.1 18).length
    rw [l18]; exact vp_nI ha (by decide)
  · have k0 := key 0 (Nat.zero_le _)
    rw [← hx, ← hy] at k0
    exact k0
def ceV (sort v : Int32) : Int32 := if sort = 0 then v.toInt8.toInt32 else if sort = 1 then v.toInt16.toInt32 else v
def ceM (M : MS) (s i : Nat) (v : Int32) : MS := mR M 19 ((M.2.1 19).set (40 * s + i) (ceV ((M.2.1 17).getD s 0) v))
def ceG (M : MS) (s i v : Int32) : MS × Int32 := if p3P s then (if (M.2.1 17).getD s.toNatClampNeg 0 = -1 then (M, -11) else if (0 : Int32) ≤ i ∧ i ≤ (M.2.1 18).getD s.toNatClampNeg 0 - 1 then (ceM M s.toNatClampNeg i.toNatClampNeg v, 1) else (M, -12)) else (M, -2)
set_option maxRecDepth 100000 in
set_option maxHeartbeats 1000000 in
theorem g_cell (hM : MLen M) (hs : ShOk M) (s i v : Int32) : Ctr l 2 X sgX8_cell [.ref 27, .int s, .int i, .int v] (mk S M) (rsQ S (ceG M s i v)) := by
  have l17 : (M.2.1 17).length = 4 := hM.2.2.2.2.2.2.2.2.1
  have l18 : (M.2.1 18).length = 4 := hM.2.2.2.2.2.2.2.2.2.1
  have l19 : (M.2.1 19).length = 160 := hM.2.2.2.2.2.2.2.2.2.2.1
  refine Ctr.of okX8_cell rfl (Nat.le_of_ble_eq_true rfl) (run_sound okX8_cell (fun i => Nat.beq i 52) 200 ?_)
  refine kH (m_in _ _ _) (by decide) (brB' (fun q => rs_i (if_neg q) rfl) (fun q => ?_))
  rw [show ceG M s i v = if (M.2.1 17).getD s.toNatClampNeg 0 = -1 then (M, -11) else if (0 : Int32) ≤ i ∧ i ≤ (M.2.1 18).getD s.toNatClampNeg 0 - 1 then (ceM M s.toNatClampNeg i.toNatClampNeg v, 1) else (M, -12) from if_pos q]
  obtain ⟨a, ha, rfl⟩ := in03n q
  have en : (nI a).toNatClampNeg = a := nI_clamp (by omega)
  obtain ⟨hso, z, hz, hsz⟩ := hs a ha
  have va : ∀ xs : List Int32, xs.length = 4 → vp_in (nI a) xs.length := fun xs e => by rw [e]; exact vp_nI ha (by decide)
  refine Exists.intro _ (And.intro rfl (And.intro (va _ l17) (br (fun p => rs_i (if_pos p) rfl) (fun p => Exists.intro _ (And.intro rfl (And.intro (va _ l18) (kH (m_in _ _ _) (by decide) (brB' (fun p2 => rs_i ((if_neg p).trans (if_neg p2)) rfl) (fun p2 => ?_)))))))))
  rw [if_neg (show ¬ (M.2.1 17).getD (nI a).toNatClampNeg 0 = -1 from p), if_pos (show (0 : Int32) ≤ i ∧ i ≤ (M.2.1 18).getD (nI a).toNatClampNeg 0 - 1 from p2)]
  have p3 : (0 : Int32) ≤ i ∧ i ≤ nI z - 1 := by
    have p2 : (0 : Int32) ≤ i ∧ i ≤ (M.2.1 18).getD (nI a).toNatClampNeg 0 - 1 := p2
    rw [en, hsz] at p2
    exact p2
  obtain ⟨j, hj, rfl⟩ := inN (by omega) p3
  have ej : (nI j).toNatClampNeg = j := nI_clamp (by omega)
  have t52 : ∀ x : Int32, x = ceV ((M.2.1 17).getD a 0) v → WP l (rmD 2 0 0) X sgX8_cell kX8_cell (rsQ S (ceM M (nI a).toNatClampNeg (nI j).toNatClampNeg v, 1)) 52 [some (.ref 27), some (.int (nI a)), some (.int (nI j)), some (.int v)] [.int x, .int (Int32.ofInt 40 * nI a + nI j), .ref 38] (mk S M) 0 0 := by
    intro x hx
    refine run_sound okX8_cell noCut 200 (Exists.intro _ (And.intro rfl (And.intro ?_ ⟨?_, rfl⟩)))
    · exact cell_in ha (show j < 40 by omega) l19
    · show mk S (mR M 19 ((M.2.1 19).set (Int32.ofInt 40 * nI a + nI j).toNatClampNeg x)) = _
      rw [cel_ix ha (show j < 40 by omega), nI_clamp (by omega), en, ej, hx]
      rfl
  refine Exists.intro _ (And.intro rfl (And.intro (va _ l17) (br (fun p0 => t52 _ ?_) (fun p0 => Exists.intro _ (And.intro rfl (And.intro (va _ l17) (br (fun p1 => t52 _ ?_) (fun p1 => t52 _ ?_))))))))
  · have p0 : (M.2.1 17).getD (nI a).toNatClampNeg 0 = 0 := p0
    rw [en] at p0
    exact (if_pos p0).symm
  · have p0 : ¬ (M.2.1 17).getD (nI a).toNatClampNeg 0 = 0 := p0
    have p1 : (M.2.1 17).getD (nI a).toNatClampNeg 0 = 1 := p1
    rw [en] at p0 p1
    exact ((if_neg p0).trans (if_pos p1)).symm
  · have p0 : ¬ (M.2.1 17).getD (nI a).toNatClampNeg 0 = 0 := p0
    have p1 : ¬ (M.2.1 17).getD (nI a).toNatClampNeg 0 = 1 := p1
    rw [en] at p0 p1
    exact ((if_neg p0).trans (if_neg p1)).symm
def unF (k of : Int32) : Int32 := if of = 0 then 1 else if k = of then 1 else if of = 1 ∧ k = 3 then 1 else if of = 2 ∧ k = 5 then 1 else 0
set_option maxRecDepth 100000 in
theorem m_isUnder (k of : Int32) : Ans l 0 X sgX8_isUnder [.int k, .int of] hp (unF k of) := by
  refine Ctr.of okX8_isUnder rfl (Nat.le_of_ble_eq_true rfl) (run_sound okX8_isUnder (fun i => Nat.beq i 11) 200 ?_)
  unfold unF
  refine br (fun p => ⟨rfl, rfl, some_int (if_pos p).symm⟩) (fun p => ?_)
  rw [if_neg (show ¬ of = 0 from p)]
  refine br (fun p1 => ⟨rfl, rfl, some_int (if_pos p1).symm⟩) (fun p1 => ?_)
  rw [if_neg (show ¬ k = of from p1)]
  have t11 : ¬ (of = 1 ∧ k = 3) → WP l (rmD 0 0 0) X sgX8_isUnder kX8_isUnder (fun h w => h = hp ∧ w = some (.int (if of = 1 ∧ k = 3 then 1 else if of = 2 ∧ k = 5 then 1 else 0))) 11 [some (.int k), some (.int of)] [] hp 0 0 := by
    intro n
    rw [if_neg n]
    exact run_sound okX8_isUnder noCut 200 (br (fun p2 => br (fun p3 => ⟨rfl, rfl, some_int (if_pos ⟨p2, p3⟩).symm⟩) (fun p3 => ⟨rfl, rfl, some_int (if_neg (fun y => p3 y.2)).symm⟩)) (fun p2 => ⟨rfl, rfl, some_int (if_neg (fun y => p2 y.1)).symm⟩))
  exact br (fun p2 => br (fun p3 => ⟨rfl, rfl, some_int (if_pos ⟨p2, p3⟩).symm⟩) (fun p3 => t11 (fun y => p3 y.2))) (fun p2 => t11 (fun y => p2 y.1))
def tkG (M : MS) (ns nk : Nat) (i k : Int32) : Int32 := if (0 : Int32) ≤ k ∧ k ≤ 6 then (if (0 : Int32) ≤ i ∧ i ≤ 16 then
    (if 12 ≤ i then (if i - 12 < nI ns then (if 6 ≤ k then -13 else if unF ((M.2.1 1).getD (i - 12).toNatClampNeg 0) k = 0 then -13 else i - 12) else -11)
     else (if i < nI nk then (if k = 6 then (M.2.1 4).getD (3 * i.toNatClampNeg + 2) 0 else -13) else -11)) else -12) else -2
set_option maxRecDepth 100000 in
set_option maxHeartbeats 1000000 in
theorem g_taken (h : MInv M nt ns nk) (i k : Int32) : Ans l 1 X sgX8_taken [.ref 27, .int i, .int k] (mk S M) (tkG M ns nk i k) := by
  obtain ⟨h3, h12⟩ := h.2.2.2.2.1
  obtain ⟨h0, h5⟩ := h.2.2.2.1
  have l4 : (M.2.1 4).length = 36 := h.1.2.2.1
  have l1 : (M.2.1 1).length = 5 := h.1.1
  refine Ctr.of okX8_taken rfl (Nat.le_of_ble_eq_true rfl) (run_sound okX8_taken noCut 200 ?_)
  refine kH (m_in _ _ _) (by decide) (brB' (fun q => ⟨rfl, some_int (if_neg q).symm⟩) (fun q => kH (m_in _ _ _) (by decide) (brB' (fun q2 => ⟨rfl, some_int ((if_pos q).trans (if_neg q2)).symm⟩) (fun q2 => ?_))))
  have e : tkG M ns nk i k = if 12 ≤ i then (if i - 12 < nI ns then (if 6 ≤ k then -13 else if unF ((M.2.1 1).getD (i - 12).toNatClampNeg 0) k = 0 then -13 else i - 12) else -11) else (if i < nI nk then (if k = 6 then (M.2.1 4).getD (3 * i.toNatClampNeg + 2) 0 else -13) else -11) := (if_pos q).trans (if_pos q2)
  rw [e]
  refine br (fun p => ?_) (fun p => ?_)
  · have p : (12 : Int32) ≤ i := p
    rw [if_pos p]
    refine br (fun p2 => ?_) (fun p2 => ⟨rfl, some_int ?_⟩)
    · have p2 : i - 12 < M.1 0 := p2
      rw [h0] at p2
      rw [if_pos p2]
      have n0 := sub12 (Int32.not_lt.mpr p) q2.2
      obtain ⟨j, hj, ej⟩ := inN (n := ns) (by omega) ⟨Int32.not_lt.mp n0, by
        have y := Int32.lt_iff_toInt_lt.mp p2
        rw [nI_toInt (by omega)] at y
        have y0 := Int32.le_iff_toInt_le.mp (Int32.not_lt.mp n0)
        have e0 : (0 : Int32).toInt = 0 := by decide
        have hp : 1 ≤ ns := by omega
        rw [show nI ns - 1 = nI (ns - 1) from nI_m1 hp]
        rw [Int32.le_iff_toInt_le, nI_toInt (by omega)]
        omega⟩
      refine br (fun p3 => ⟨rfl, some_int (if_pos p3).symm⟩) (fun p3 => ?_)
      rw [if_neg (show ¬ 6 ≤ k from p3)]
      have vj : vp_in (i - Int32.ofInt 12) (M.2.1 1).length := by
        rw [show i - Int32.ofInt 12 = nI j from ej, l1]; exact vp_nI (by omega) (by decide)
      exact Exists.intro _ (And.intro rfl (And.intro vj (kH (m_isUnder _ _) (by decide) (br (fun p4 => ⟨rfl, some_int (if_pos p4).symm⟩) (fun p4 => ⟨rfl, some_int (if_neg p4).symm⟩)))))
    · have p2 : ¬ i - 12 < M.1 0 := p2
      rw [h0] at p2
      exact (if_neg p2).symm
  · have p : ¬ (12 : Int32) ≤ i := p
    rw [if_neg p]
    refine br (fun p2 => ?_) (fun p2 => ⟨rfl, some_int ?_⟩)
    · have p2 : i < M.1 3 := p2
      rw [h3] at p2
      rw [if_pos p2]
      obtain ⟨j, hj, rfl⟩ := inC (c := 16) (n := 16) (by decide) (by decide) q2
      have hjk : j < nk := Nat.lt_of_not_le (fun z => absurd p2 (nI_nlt z (by omega)))
      have e2 : Int32.ofInt 3 * nI j + Int32.ofInt 2 = nI (3 * j + 2) := by rw [show Int32.ofInt 3 * nI j = nI (3 * j) from nI_mul 3 j]; exact nI_add _ 2
      refine br (fun p3 => ?_) (fun p3 => ⟨rfl, some_int (if_neg p3).symm⟩)
      rw [if_pos (show k = 6 from p3)]
      refine Exists.intro _ (And.intro rfl (And.intro ?_ ⟨rfl, some_int ?_⟩))
      · show vp_in (Int32.ofInt 3 * nI j + Int32.ofInt 2) (M.2.1 4).length
        rw [e2, l4]; exact vp_nI (by omega) (by decide)
      · show (M.2.1 4).getD (Int32.ofInt 3 * nI j + Int32.ofInt 2).toNatClampNeg 0 = _
        rw [e2, nI_clamp (by omega), nI_clamp (by omega)]
    · have p2 : ¬ i < M.1 3 := p2
      rw [h3] at p2
      exact (if_neg p2).symm
end MSHE2
end
section
-- 8c.mrow
/-! THE REFERENCE in general: told talks, copies, sayings by a sheet -/
section MROW
variable {l : Launch} {X : List (List Int32)} {S : CS} {M : MS} {hp : AH} {nt ns nk : Nat}
abbrev ceA (M : MS) (c : Nat) : Int32 := (M.2.1 19).getD c 0
abbrev irP (M : MS) (nt ns c : Nat) (n w : Int32) : Prop := tP ns (ceA M c) ∧ tP nt (ceA M (c + 1)) ∧ p1P (ceA M (c + 2)) ∧ hsP (fitT M (ceA M c).toNatClampNeg (ceA M (c + 1)).toNatClampNeg (ceA M (c + 2)).toNatClampNeg n) w
set_option maxRecDepth 100000 in
set_option maxHeartbeats 1000000 in
theorem g_isRow (h : MInv M nt ns nk) {z : SZ} (hz : ScOk z) (hzm : Mt (sc M z) nt) {c : Nat} (hc : c + 2 < 160) (n w : Int32) : Ans l 2 X sgX8_isRow [.ref 27, .int (nI c), .int n, .int w] (mk S (sc M z)) (bI (irP M nt ns c n w)) := by
  obtain ⟨h0, h5⟩ := h.2.2.2.1
  have h6 := h.2.2.1.2.2
  have l19 : (M.2.1 19).length = 160 := h.1.2.2.2.2.2.2.2.2.2.2.1
  have i1 : nI c + Int32.ofInt 1 = nI (c + 1) := nI_1 c
  have i2 : nI c + Int32.ofInt 2 = nI (c + 2) := nI_add c 2
  have v0 : vp_in (nI c) (M.2.1 19).length := by rw [l19]; exact vp_nI (by omega) (by decide)
  have v1 : vp_in (nI c + Int32.ofInt 1) (M.2.1 19).length := by rw [i1, l19]; exact vp_nI (by omega) (by decide)
  have v2 : vp_in (nI c + Int32.ofInt 2) (M.2.1 19).length := by rw [i2, l19]; exact vp_nI (by omega) (by decide)
  have g0 : (M.2.1 19).getD (nI c).toNatClampNeg 0 = ceA M c := by rw [nI_clamp (by omega)]
  have g1 : (M.2.1 19).getD (nI c + Int32.ofInt 1).toNatClampNeg 0 = ceA M (c + 1) := by rw [i1, nI_clamp (by omega)]
  have g2 : (M.2.1 19).getD (nI c + Int32.ofInt 2).toNatClampNeg 0 = ceA M (c + 2) := by rw [i2, nI_clamp (by omega)]
  have hs : Ans l 1 X sgX8_isSpeaker [.ref 27, .int ((M.2.1 19).getD (nI c).toNatClampNeg 0)] (mk S (sc M z)) (bI (tP ns (ceA M c))) := by rw [g0]; exact g_S (h.sc hz) _
  have ht : Ans l 1 X sgX8_isOfTexts [.ref 27, .int ((M.2.1 19).getD (nI c + Int32.ofInt 1).toNatClampNeg 0)] (mk S (sc M z)) (bI (tP nt (ceA M (c + 1)))) := by rw [g1]; exact g_T (h.sc hz) _
  have hu : Ans l 0 X sgX8_in [.int ((M.2.1 19).getD (nI c + Int32.ofInt 2).toNatClampNeg 0), .int 0, .int 1] (mk S (sc M z)) (bI (p1P (ceA M (c + 2)))) := by rw [g2]; exact m_in _ _ _
  have hf : tP ns (ceA M c) → tP nt (ceA M (c + 1)) → p1P (ceA M (c + 2)) → AnsL l 1 X sgX8_fits [.ref 27, .int ((M.2.1 19).getD (nI c).toNatClampNeg 0), .int ((M.2.1 19).getD (nI c + Int32.ofInt 1).toNatClampNeg 0), .int ((M.2.1 19).getD (nI c + Int32.ofInt 2).toNatClampNeg 0), .int n] (mk S (sc M z)) (fitT M (ceA M c).toNatClampNeg (ceA M (c + 1)).toNatClampNeg (ceA M (c + 2)).toNatClampNeg n) := by
    intro q1 q2 q3
    rw [g0, g1, g2]
    obtain ⟨a, ha, ea⟩ := inN (by omega) q1
    obtain ⟨b, hb, eb⟩ := inN (by omega) q2
    obtain ⟨u, hu, eu⟩ := inC (c := 1) (n := 1) (by decide) (by decide) q3
    rw [ea, eb, eu, nI_clamp (by omega), nI_clamp (by omega), nI_clamp (by omega), ← fitT_sc z]
    exact g_fits (h.sc hz) hzm (by omega) hb (by omega) n
  refine Ctr.of okX8_isRow rfl (Nat.le_of_ble_eq_true rfl) (run_sound okX8_isRow noCut 200 ?_)
  refine Exists.intro _ (And.intro rfl (And.intro v0 (Exists.intro _ (And.intro rfl (And.intro v1 (Exists.intro _ (And.intro rfl (And.intro v2 ?_))))))))
  exact kH hs (by decide) (brB' (fun q1 => ⟨rfl, rfl, some_int (bIe0 (fun y => q1 y.1))⟩) (fun q1 => kH ht (by decide) (brB' (fun q2 => ⟨rfl, rfl, some_int (bIe0 (fun y => q2 y.2.1))⟩) (fun q2 => kH hu (by decide) (brB' (fun q3 => ⟨rfl, rfl, some_int (bIe0 (fun y => q3 y.2.2.1))⟩) (fun q3 => kH (hf q1 q2 q3) (by decide) (kH (m_has _ _) (by decide) (brB' (fun q4 => ⟨rfl, rfl, some_int (bIe0 (fun y => q4 y.2.2.2))⟩) (fun q4 => ⟨rfl, rfl, some_int (bIe1 ⟨q1, q2, q3, q4⟩)⟩)))))))))
def juF (M : MS) (nt ns s : Nat) (w : Int32) : Nat → Nat → Int32
  | 0, _ => -1
  | m + 1, k => if irP M nt ns (40 * s + 3 * k) (nI k) w then juF M nt ns s w m (k + 1) else nI k
def siN (M : MS) (s : Nat) : Nat := ((M.2.1 18).getD s 0).toNatClampNeg
def juG (M : MS) (nt ns : Nat) (s w : Int32) : Int32 := if p3P s then (if (M.2.1 17).getD s.toNatClampNeg 0 = -1 then -11 else if siN M s.toNatClampNeg % 3 = 0 then (if wdP w then juF M nt ns s.toNatClampNeg w (siN M s.toNatClampNeg / 3) 0 else -5) else -2) else -2
set_option maxRecDepth 100000 in
set_option maxHeartbeats 1000000 in
theorem g_judge (h : MInv M nt ns nk) (hs : ShOk M) (s w : Int32) : Ctr l 5 X sgX8_judge [.ref 27, .int s, .int w] (mk S M) (zA S M (.int (juG M nt ns s w))) := by
  have l17 : (M.2.1 17).length = 4 := h.1.2.2.2.2.2.2.2.2.1
  have l18 : (M.2.1 18).length = 4 := h.1.2.2.2.2.2.2.2.2.2.1
  refine Ctr.of okX8_judge rfl (Nat.le_of_ble_eq_true rfl) (run_sound okX8_judge (fun i => Nat.beq i 33) 200 ?_)
  refine kH (m_in _ _ _) (by decide) (brB' (fun q => zI h.1 (if_neg q).symm) (fun q => ?_))
  have e : juG M nt ns s w = if (M.2.1 17).getD s.toNatClampNeg 0 = -1 then -11 else if siN M s.toNatClampNeg % 3 = 0 then (if wdP w then juF M nt ns s.toNatClampNeg w (siN M s.toNatClampNeg / 3) 0 else -5) else -2 := if_pos q
  rw [e]
  obtain ⟨a, ha, rfl⟩ := in03n q
  have en : (nI a).toNatClampNeg = a := nI_clamp (by omega)
  obtain ⟨hso, zz, hzz, hsz⟩ := hs a ha
  have esi : siN M a = zz := by unfold siN; rw [hsz, nI_clamp (by omega)]
  have va : ∀ xs : List Int32, xs.length = 4 → vp_in (nI a) xs.length := fun xs e => by rw [e]; exact vp_nI ha (by decide)
  have g18 : (M.2.1 18).getD (nI a).toNatClampNeg 0 = nI zz := by rw [en]; exact hsz
  rw [en, esi]
  refine Exists.intro _ (And.intro rfl (And.intro (va _ l17) (br (fun p => zI h.1 ?_) (fun p => Exists.intro _ (And.intro rfl (And.intro (va _ l18) (And.intro (by decide) (br (fun p2 => ?_) (fun p2 => zI h.1 ?_)))))))))
  · have p : (M.2.1 17).getD (nI a).toNatClampNeg 0 = -1 := p
    rw [en] at p
    exact (if_pos p).symm
  · have p : ¬ (M.2.1 17).getD (nI a).toNatClampNeg 0 = -1 := p
    rw [en] at p
    have p2 : (M.2.1 18).getD (nI a).toNatClampNeg 0 - (M.2.1 18).getD (nI a).toNatClampNeg 0 / Int32.ofInt 3 * Int32.ofInt 3 = 0 := p2
    rw [g18, show nI zz - nI zz / Int32.ofInt 3 * Int32.ofInt 3 = nI (zz % 3) from nI_rem (b := 3) (by omega) (by decide) (by decide)] at p2
    have p2 : zz % 3 = 0 := (nI_eq (b := 0) (by omega) (by decide)).mp p2
    rw [if_neg p, if_pos p2]
    refine kH (m_isWorld w) (by decide) (brB' (fun q3 => zI h.1 (if_neg q3).symm) (fun q3 => ⟨4, _, by decide, g_reads h, ?_⟩))
    rw [if_pos (show wdP w from q3)]
    rintro hp' w' ⟨⟨z, hz, hzm, rfl⟩, rfl⟩
    have hd : (M.2.1 18).getD (nI a).toNatClampNeg 0 / Int32.ofInt 3 = nI (zz / 3) := by rw [g18]; exact nI_div (b := 3) (by omega) (by decide) (by decide)
    obtain ⟨V, hV⟩ : ∃ V, juF M nt ns a w (zz / 3) 0 = V := ⟨_, rfl⟩
    rw [hV]
    have key : ∀ k, k ≤ zz / 3 → juF M nt ns a w (zz / 3 - k) k = V → WP l (rmD 5 0 0) X sgX8_judge kX8_judge (zA S M (.int V)) 33 [some (.ref 27), some (.int (nI a)), some (.int w), some (.int (nI k))] [] (mk S (sc M z)) 0 0 := by
      refine down (fun e => ?_) (fun k hk ih e => ?_)
      · rw [Nat.sub_self] at e
        refine run_sound okX8_judge (fun i => Nat.beq i 33) 200 (Exists.intro _ (And.intro rfl (And.intro (va _ l18) (And.intro (by decide) (brT ?_ ⟨⟨z, hz, rfl⟩, some_int e⟩)))))
        show (M.2.1 18).getD (nI a).toNatClampNeg 0 / Int32.ofInt 3 ≤ nI (zz / 3)
        rw [hd]; exact Int32.le_refl _
      · rw [show zz / 3 - k = (zz / 3 - (k + 1)) + 1 by omega, juF] at e
        have ei : Int32.ofInt 40 * nI a + Int32.ofInt 3 * nI k = nI (40 * a + 3 * k) := by rw [show Int32.ofInt 3 * nI k = nI (3 * k) from nI_mul 3 k]; exact cel_ix ha (by omega)
        have hr : Ans l 2 X sgX8_isRow [.ref 27, .int (Int32.ofInt 40 * nI a + Int32.ofInt 3 * nI k), .int (nI k), .int w] (mk S (sc M z)) (bI (irP M nt ns (40 * a + 3 * k) (nI k) w)) := by
          rw [ei]
          exact g_isRow h hz hzm (by omega) (nI k) w
        refine run_sound okX8_judge (fun i => Nat.beq i 33) 200 (Exists.intro _ (And.intro rfl (And.intro (va _ l18) (And.intro (by decide) (brF ?_ (kH hr (by decide) (brB' (fun y => ?_) (fun y => ?_))))))))
        · show ¬ (M.2.1 18).getD (nI a).toNatClampNeg 0 / Int32.ofInt 3 ≤ nI k
          rw [hd]; exact nI_ge hk (by omega)
        · rw [if_neg y] at e
          exact ⟨⟨z, hz, rfl⟩, some_int e⟩
        · rw [if_pos y] at e
          have ih := ih e
          rw [← nI_1 k] at ih
          exact ih
    exact key 0 (Nat.zero_le _) hV
  · have p : ¬ (M.2.1 17).getD (nI a).toNatClampNeg 0 = -1 := p
    rw [en] at p
    have p2 : ¬ (M.2.1 18).getD (nI a).toNatClampNeg 0 - (M.2.1 18).getD (nI a).toNatClampNeg 0 / Int32.ofInt 3 * Int32.ofInt 3 = 0 := p2
    rw [g18, show nI zz - nI zz / Int32.ofInt 3 * Int32.ofInt 3 = nI (zz % 3) from nI_rem (b := 3) (by omega) (by decide) (by decide)] at p2
    rw [if_neg p, if_neg (fun y : zz % 3 = 0 => p2 (by rw [y]; rfl))]
    rfl
/-- what always holds is kept by a saying -/
theorem getD_set (xs : List Int32) (i j : Nat) (v : Int32) : (xs.set i v).getD j 0 = if i = j ∧ i < xs.length then v else xs.getD j 0 := by
  by_cases e : i = j
  · subst e
    by_cases h : i < xs.length
    · rw [if_pos ⟨rfl, h⟩, List.getD_eq_getElem?_getD, List.getElem?_set_self h]
      rfl
    · rw [if_neg (fun z => h z.2), List.set_eq_of_length_le (by omega)]
  · rw [if_neg (fun z => e z.1), List.getD_eq_getElem?_getD, List.getElem?_set_ne e, ← List.getD_eq_getElem?_getD]
theorem syM_inv (h : MInv M nt ns nk) (hk : nk < 12) {s t u : Nat} (hs : s < 5) (ht : t < nt) (hu : u < 2) : MInv (syM M nk (nI s) (nI t) (nI u)) nt ns (nk + 1) := by
  obtain ⟨hM, hO, h9, h0, h3, hr, hk5, htk⟩ := h
  have l4 : (M.2.1 4).length = 36 := hM.2.2.1
  refine ⟨?_, hO, h9, h0, ⟨rfl, by omega⟩, hr, hk5, ?_⟩
  · obtain ⟨a1, a2, a3, a4, a5, a6, a7, a8, a9, a10, a11, a12, a13, a14, a15, a16, a17, a18⟩ := hM
    exact ⟨a1, a2, by show ((((M.2.1 4).set (3 * nk) (nI s)).set (3 * nk + 1) (nI t)).set (3 * nk + 2) (nI u)).length = 36; simp [a3], a4, a5, a6, a7, a8, a9, a10, a11, a12, a13, a14, a15, a16, a17, a18⟩
  · intro k hk'
    show ∃ s' t' u' : Nat, ((((M.2.1 4).set (3 * nk) (nI s)).set (3 * nk + 1) (nI t)).set (3 * nk + 2) (nI u)).getD (3 * k) 0 = nI s' ∧ ((((M.2.1 4).set (3 * nk) (nI s)).set (3 * nk + 1) (nI t)).set (3 * nk + 2) (nI u)).getD (3 * k + 1) 0 = nI t' ∧ ((((M.2.1 4).set (3 * nk) (nI s)).set (3 * nk + 1) (nI t)).set (3 * nk + 2) (nI u)).getD (3 * k + 2) 0 = nI u' ∧ s' < 5 ∧ t' < nt ∧ u' < 2
    by_cases e : k = nk
    · subst e
      refine ⟨s, t, u, ?_, ?_, ?_, hs, ht, hu⟩
      · rw [getD_set, getD_set, getD_set, if_neg (by omega), if_neg (by omega), if_pos (by omega)]
      · rw [getD_set, getD_set, if_neg (by omega), if_pos (by simp; omega)]
      · rw [getD_set, if_pos (by simp; omega)]
    · obtain ⟨s', t', u', e1, e2, e3, b1, b2, b3⟩ := htk k (by omega)
      refine ⟨s', t', u', ?_, ?_, ?_, b1, b2, b3⟩
      · rw [getD_set, getD_set, getD_set, if_neg (by omega), if_neg (by omega), if_neg (by omega)]; exact e1
      · rw [getD_set, getD_set, getD_set, if_neg (by omega), if_neg (by omega), if_neg (by omega)]; exact e2
      · rw [getD_set, getD_set, getD_set, if_neg (by omega), if_neg (by omega), if_neg (by omega)]; exact e3
end MROW
end
section
-- 8d.msby
/-! THE REFERENCE in general: sayings by a sheet, copies -/
section MSBY
variable {l : Launch} {X : List (List Int32)} {S : CS} {M : MS} {hp : AH} {nt ns nk : Nat}
/-- a saying said keeps what always holds; how many there are then -/
theorem syG_inv (h : MInv M nt ns nk) (s t u : Int32) : ∃ nk', MInv (syG M nt ns nk s t u).1 nt ns nk' ∧ (syG M nt ns nk s t u).1.2.1 17 = M.2.1 17 ∧ (syG M nt ns nk s t u).1.2.1 18 = M.2.1 18 ∧ (syG M nt ns nk s t u).1.2.1 19 = M.2.1 19 ∧ nk' = (if 0 ≤ (syG M nt ns nk s t u).2 then nk + 1 else nk) := by
  obtain ⟨h0, h5⟩ := h.2.2.2.1
  obtain ⟨h3, h12⟩ := h.2.2.2.2.1
  have h6 := h.2.2.1.2.2
  unfold syG
  by_cases q : tP ns s ∧ tP nt t
  · rw [if_pos q]
    by_cases q2 : p1P u
    · rw [if_pos q2]
      by_cases e : nk = 12
      · rw [if_pos e]
        exact ⟨nk, h, rfl, rfl, rfl, by rw [if_neg (show ¬ (0 : Int32) ≤ -4 by decide)]⟩
      · rw [if_neg e]
        obtain ⟨a, ha, rfl⟩ := inN (by omega) q.1
        obtain ⟨b, hb, rfl⟩ := inN (by omega) q.2
        obtain ⟨c, hc, rfl⟩ := inC (c := 1) (n := 1) (by decide) (by decide) q2
        refine ⟨nk + 1, syM_inv h (by omega) (by omega) hb (by omega), rfl, rfl, rfl, ?_⟩
        rw [if_pos (show (0 : Int32) ≤ nI nk from nI_pos' (by omega))]
    · rw [if_neg q2]
      exact ⟨nk, h, rfl, rfl, rfl, by rw [if_neg (show ¬ (0 : Int32) ≤ -7 by decide)]⟩
  · rw [if_neg q]
    exact ⟨nk, h, rfl, rfl, rfl, by rw [if_neg (show ¬ (0 : Int32) ≤ -5 by decide)]⟩
/-- the sayings of a sheet's rows, one behind the other: the state, how many there are, how many came; whether all were inside -/
abbrev SB : Type := MS × Nat × Nat
abbrev sbP (sz : Int32) (fr : Int32) (k : Nat) : Prop := fr < 0 ∨ fr + Int32.ofInt 3 * nI k < fr ∨ sz - Int32.ofInt 3 < fr + Int32.ofInt 3 * nI k
def sbS (nt ns : Nat) (c : Nat) (Q : SB) : SB :=
  ((syG Q.1 nt ns Q.2.1 (ceA Q.1 c) (ceA Q.1 (c + 1)) (ceA Q.1 (c + 2))).1,
   (if 0 ≤ (syG Q.1 nt ns Q.2.1 (ceA Q.1 c) (ceA Q.1 (c + 1)) (ceA Q.1 (c + 2))).2 then Q.2.1 + 1 else Q.2.1),
   (if 0 ≤ (syG Q.1 nt ns Q.2.1 (ceA Q.1 c) (ceA Q.1 (c + 1)) (ceA Q.1 (c + 2))).2 then Q.2.2 + 1 else Q.2.2))
def sbF (nt ns s : Nat) (sz fr : Int32) : Nat → Nat → SB → MS × Int32
  | 0, _, Q => (Q.1, nI Q.2.2)
  | m + 1, k, Q => if sbP sz fr k then (Q.1, -12) else sbF nt ns s sz fr m (k + 1) (sbS nt ns (40 * s + (fr + Int32.ofInt 3 * nI k).toNatClampNeg) Q)
def sbG (M : MS) (nt ns nk : Nat) (s sort fr n : Int32) : MS × Int32 := if p3P s ∧ p2P sort ∧ ((0 : Int32) ≤ n ∧ n ≤ 12) then (if (M.2.1 17).getD s.toNatClampNeg 0 = -1 then (M, -11) else if (M.2.1 17).getD s.toNatClampNeg 0 = sort then sbF nt ns s.toNatClampNeg ((M.2.1 18).getD s.toNatClampNeg 0) fr n.toNatClampNeg 0 (M, nk, 0) else (M, -13)) else (M, -2)
/-- a row of a sheet lies in it -/
theorem sb_in {zz k : Nat} {fr : Int32} (hz : zz ≤ 40) (hp : ¬ sbP (nI zz) fr k) : ∃ i : Nat, i + 3 ≤ zz ∧ fr + Int32.ofInt 3 * nI k = nI i := by
  have h1 : (0 : Int32) ≤ fr := Int32.not_lt.mp (fun z => hp (Or.inl z))
  have h2 : fr ≤ fr + Int32.ofInt 3 * nI k := Int32.not_lt.mp (fun z => hp (Or.inr (Or.inl z)))
  have h3 : fr + Int32.ofInt 3 * nI k ≤ nI zz - Int32.ofInt 3 := Int32.not_lt.mp (fun z => hp (Or.inr (Or.inr z)))
  have h4 := Int32.le_trans h1 h2
  have g1 := Int32.le_iff_toInt_le.mp h4
  have g2 := Int32.le_iff_toInt_le.mp h3
  have e0 : (0 : Int32).toInt = 0 := by decide
  have e3 : (nI zz - Int32.ofInt 3).toInt = (zz : Int) - 3 := by
    have a : ∀ z : Fin 41, (nI z.val - Int32.ofInt 3).toInt = (z.val : Int) - 3 := by decide +kernel
    exact a ⟨zz, by omega⟩
  refine ⟨(fr + Int32.ofInt 3 * nI k).toInt.toNat, by omega, Int32.toInt_inj.mp ?_⟩
  rw [nI_toInt (by omega)]
  omega
def cNsb (i : Nat) : Bool := Nat.beq i 37 || Nat.beq i 90
set_option maxRecDepth 100000 in
set_option maxHeartbeats 2000000 in
theorem g_sayingsBy (h : MInv M nt ns nk) (hs : ShOk M) (s sort fr n : Int32) : Ctr l 3 X sgX8_sayingsBy [.ref 27, .int s, .int sort, .int fr, .int n] (mk S M) (rsQ S (sbG M nt ns nk s sort fr n)) := by
  have l17 : (M.2.1 17).length = 4 := h.1.2.2.2.2.2.2.2.2.1
  have l18 : (M.2.1 18).length = 4 := h.1.2.2.2.2.2.2.2.2.2.1
  refine Ctr.of okX8_sayingsBy rfl (Nat.le_of_ble_eq_true rfl) (run_sound okX8_sayingsBy cNsb 200 ?_)
  refine kH (m_in _ _ _) (by decide) (brB' (fun q => rs_i (if_neg (fun z => q z.1)) rfl) (fun q => kH (m_in _ _ _) (by decide) (brB' (fun q2 => rs_i (if_neg (fun z => q2 z.2.1)) rfl) (fun q2 => kH (m_in _ _ _) (by decide) (brB' (fun q3 => rs_i (if_neg (fun z => q3 z.2.2)) rfl) (fun q3 => ?_))))))
  rw [show sbG M nt ns nk s sort fr n = if (M.2.1 17).getD s.toNatClampNeg 0 = -1 then (M, -11) else if (M.2.1 17).getD s.toNatClampNeg 0 = sort then sbF nt ns s.toNatClampNeg ((M.2.1 18).getD s.toNatClampNeg 0) fr n.toNatClampNeg 0 (M, nk, 0) else (M, -13) from if_pos ⟨q, q2, q3⟩]
  obtain ⟨a, ha, rfl⟩ := in03n q
  obtain ⟨m, hm, rfl⟩ := inC (c := 12) (n := 12) (by decide) (by decide) q3
  have en : (nI a).toNatClampNeg = a := nI_clamp (by omega)
  have em : (nI m).toNatClampNeg = m := nI_clamp (by omega)
  obtain ⟨hso, zz, hzz, hsz⟩ := hs a ha
  have va : ∀ xs : List Int32, xs.length = 4 → vp_in (nI a) xs.length := fun xs e => by rw [e]; exact vp_nI ha (by decide)
  have g17 : (M.2.1 17).getD (nI a).toNatClampNeg 0 = (M.2.1 17).getD a 0 := by rw [en]
  rw [en, em, hsz]
  refine Exists.intro _ (And.intro rfl (And.intro (va _ l17) (br (fun p => rs_i (if_pos ?_) rfl) (fun p => Exists.intro _ (And.intro rfl (And.intro (va _ l17) (br (fun p2 => ?_) (fun p2 => rs_i ((if_neg ?_).trans (if_neg ?_)) rfl))))))))
  · rw [← g17]; exact p
  · have p : ¬ (M.2.1 17).getD (nI a).toNatClampNeg 0 = -1 := p
    have p2 : (M.2.1 17).getD (nI a).toNatClampNeg 0 = sort := p2
    rw [g17] at p p2
    rw [if_neg p, if_pos p2]
    obtain ⟨V, hV⟩ : ∃ V, sbF nt ns a (nI zz) fr m 0 (M, nk, 0) = V := ⟨_, rfl⟩
    rw [hV]
    have key : ∀ k, k ≤ m → ∀ (Q : SB), MInv Q.1 nt ns Q.2.1 → Q.1.2.1 17 = M.2.1 17 → Q.1.2.1 18 = M.2.1 18 → sbF nt ns a (nI zz) fr (m - k) k Q = V → ∀ x7 x8, WP l (rmD 3 0 0) X sgX8_sayingsBy kX8_sayingsBy (rsQ S V) 37 [some (.ref 27), some (.int (nI a)), some (.int sort), some (.int fr), some (.int (nI m)), some (.int (nI Q.2.2)), some (.int (nI k)), x7, x8] [] (mk S Q.1) 0 0 := by
      refine down (fun Q hQ q17 q18 e x7 x8 => ?_) (fun k hk ih Q hQ q17 q18 e x7 x8 => ?_)
      · rw [Nat.sub_self] at e
        have e : (Q.1, nI Q.2.2) = V := e
        subst e
        exact run_sound okX8_sayingsBy cNsb 200 (brT (Int32.le_refl _) ⟨rfl, rfl⟩)
      · rw [show m - k = (m - (k + 1)) + 1 by omega, sbF] at e
        have l18q : (Q.1.2.1 18).length = 4 := by rw [q18]; exact l18
        have g18 : (Q.1.2.1 18).getD (nI a).toNatClampNeg 0 = nI zz := by rw [en, q18]; exact hsz
        have l19 : (Q.1.2.1 19).length = 160 := hQ.1.2.2.2.2.2.2.2.2.2.2.1
        have out : sbP (nI zz) fr k → rsQ S V (mk S Q.1) (some (.int (-12))) := fun y => by
          rw [if_pos y] at e
          subst e
          exact ⟨rfl, rfl⟩
        refine run_sound okX8_sayingsBy cNsb 200 (brF (nI_ge hk (by omega)) (br (fun y => out (Or.inl y)) (fun y1 => br (fun y => out (Or.inr (Or.inl y))) (fun y2 => Exists.intro _ (And.intro rfl (And.intro (va _ l18q) (br (fun y3 => ?_) (fun y => out (Or.inr (Or.inr ?_))))))))))
        · have y3 : fr + Int32.ofInt 3 * nI k ≤ (Q.1.2.1 18).getD (nI a).toNatClampNeg 0 - Int32.ofInt 3 := y3
          rw [g18] at y3
          have no : ¬ sbP (nI zz) fr k := fun y => y.elim y1 (fun y => y.elim y2 (fun y => absurd y (Int32.not_lt.mpr y3)))
          rw [if_neg no] at e
          obtain ⟨i, hi, ei⟩ := sb_in hzz no
          obtain ⟨ir, hir⟩ : ∃ ir, fr + Int32.ofInt 3 * nI k = ir := ⟨_, rfl⟩
          have e0 : Int32.ofInt 40 * nI a + (fr + Int32.ofInt 3 * nI k) = nI (40 * a + i) := by rw [ei]; exact cel_ix ha (by omega)
          have e1 : Int32.ofInt 40 * nI a + (fr + Int32.ofInt 3 * nI k) + Int32.ofInt 1 = nI (40 * a + i + 1) := by rw [e0]; exact nI_1 _
          have e2 : Int32.ofInt 40 * nI a + (fr + Int32.ofInt 3 * nI k) + Int32.ofInt 2 = nI (40 * a + i + 2) := by rw [e0]; exact nI_add _ 2
          have v0 : vp_in (Int32.ofInt 40 * nI a + (fr + Int32.ofInt 3 * nI k)) (Q.1.2.1 19).length := by rw [e0, l19]; exact vp_nI (by omega) (by decide)
          have v1 : vp_in (Int32.ofInt 40 * nI a + (fr + Int32.ofInt 3 * nI k) + Int32.ofInt 1) (Q.1.2.1 19).length := by rw [e1, l19]; exact vp_nI (by omega) (by decide)
          have v2 : vp_in (Int32.ofInt 40 * nI a + (fr + Int32.ofInt 3 * nI k) + Int32.ofInt 2) (Q.1.2.1 19).length := by rw [e2, l19]; exact vp_nI (by omega) (by decide)
          have ec : (fr + Int32.ofInt 3 * nI k).toNatClampNeg = i := by rw [ei, nI_clamp (by omega)]
          rw [ec] at e
          have hsay : Ctr l 2 X sgX8_say [.ref 27, .int ((Q.1.2.1 19).getD (Int32.ofInt 40 * nI a + (fr + Int32.ofInt 3 * nI k)).toNatClampNeg 0), .int ((Q.1.2.1 19).getD (Int32.ofInt 40 * nI a + (fr + Int32.ofInt 3 * nI k) + Int32.ofInt 1).toNatClampNeg 0), .int ((Q.1.2.1 19).getD (Int32.ofInt 40 * nI a + (fr + Int32.ofInt 3 * nI k) + Int32.ofInt 2).toNatClampNeg 0)] (mk S Q.1) (rsQ S (syG Q.1 nt ns Q.2.1 (ceA Q.1 (40 * a + i)) (ceA Q.1 (40 * a + i + 1)) (ceA Q.1 (40 * a + i + 2)))) := by
            rw [e2, e1, e0, nI_clamp (by omega), nI_clamp (by omega), nI_clamp (by omega)]
            exact g_say hQ _ _ _
          obtain ⟨nk', hinv, i17, i18, i19, hnk⟩ := syG_inv hQ (ceA Q.1 (40 * a + i)) (ceA Q.1 (40 * a + i + 1)) (ceA Q.1 (40 * a + i + 2))
          have hsb : sbS nt ns (40 * a + i) Q = ((syG Q.1 nt ns Q.2.1 (ceA Q.1 (40 * a + i)) (ceA Q.1 (40 * a + i + 1)) (ceA Q.1 (40 * a + i + 2))).1, nk', if 0 ≤ (syG Q.1 nt ns Q.2.1 (ceA Q.1 (40 * a + i)) (ceA Q.1 (40 * a + i + 1)) (ceA Q.1 (40 * a + i + 2))).2 then Q.2.2 + 1 else Q.2.2) := by
            unfold sbS
            rw [← hnk]
          rw [hsb] at e
          clear hsb hnk
          generalize syG Q.1 nt ns Q.2.1 (ceA Q.1 (40 * a + i)) (ceA Q.1 (40 * a + i + 1)) (ceA Q.1 (40 * a + i + 2)) = R at hsay hinv i17 i18 i19 e
          refine Exists.intro _ (And.intro rfl (And.intro v0 (Exists.intro _ (And.intro rfl (And.intro v1 (Exists.intro _ (And.intro rfl (And.intro v2 ⟨2, _, by decide, hsay, ?_⟩))))))))
          rintro hp' w ⟨rfl, rfl⟩
          have ih := ih _ hinv (i17.trans q17) (i18.trans q18) e (some (.int (fr + Int32.ofInt 3 * nI k))) (some (.int (Int32.ofInt 40 * nI a + (fr + Int32.ofInt 3 * nI k))))
          refine br (fun y => ?_) (fun y => ?_)
          · have y : R.2 < 0 := y
            have ih : WP l (rmD 3 0 0) X sgX8_sayingsBy kX8_sayingsBy (rsQ S V) 37 [some (.ref 27), some (.int (nI a)), some (.int sort), some (.int fr), some (.int (nI m)), some (.int (nI (if 0 ≤ R.2 then Q.2.2 + 1 else Q.2.2))), some (.int (nI (k + 1))), some (.int (fr + Int32.ofInt 3 * nI k)), some (.int (Int32.ofInt 40 * nI a + (fr + Int32.ofInt 3 * nI k)))] [] (mk S R.1) 0 0 := ih
            rw [if_neg (fun z => absurd y (Int32.not_lt.mpr z)), ← nI_1 k, show nI Q.2.2 = nI Q.2.2 + 0 from (Int32.add_zero _).symm] at ih
            exact run_sound okX8_sayingsBy (fun i => Nat.beq i 37) 200 ih
          · have y : ¬ R.2 < 0 := y
            have ih : WP l (rmD 3 0 0) X sgX8_sayingsBy kX8_sayingsBy (rsQ S V) 37 [some (.ref 27), some (.int (nI a)), some (.int sort), some (.int fr), some (.int (nI m)), some (.int (nI (if 0 ≤ R.2 then Q.2.2 + 1 else Q.2.2))), some (.int (nI (k + 1))), some (.int (fr + Int32.ofInt 3 * nI k)), some (.int (Int32.ofInt 40 * nI a + (fr + Int32.ofInt 3 * nI k)))] [] (mk S R.1) 0 0 := ih
            rw [if_pos (Int32.not_lt.mp y), ← nI_1 k, ← nI_1 Q.2.2] at ih
            exact run_sound okX8_sayingsBy (fun i => Nat.beq i 37) 200 ih
        · have y : ¬ fr + Int32.ofInt 3 * nI k ≤ (Q.1.2.1 18).getD (nI a).toNatClampNeg 0 - Int32.ofInt 3 := y
          rw [g18] at y
          exact Int32.not_le.mp y
    exact key 0 (Nat.zero_le _) (M, nk, 0) h rfl rfl hV none none
  · rw [← g17]; exact p
  · rw [← g17]; exact p2
end MSBY
end
section
-- 8e.mstr
/-! THE REFERENCE in general: bits of worlds, strangers, copies -/
section MSTR
variable {l : Launch} {X : List (List Int32)} {S : CS} {M : MS} {hp : AH} {nt ns nk : Nat}
theorem sh_w : ∀ w : Fin 32, ((nI w.val).toInt64 &&& 63).toBitVec.smod 64 = BitVec.ofNat 64 w.val := by decide +kernel
theorem one_bit (x : BitVec 64) : x &&& 1#64 = 1#64 ↔ x.getLsbD 0 = true := by
  constructor
  · intro h
    have z := congrArg (fun q : BitVec 64 => q.getLsbD 0) h
    simpa using z
  · intro h
    apply BitVec.eq_of_getLsbD_eq
    intro i hi
    by_cases e : i = 0
    · subst e
      simp [h]
    · simp [e]
theorem hs_bit {s : Int64} {w : Nat} (hw : w < 32) : hsP s (nI w) ↔ s.toBitVec.getLsbD w = true := by
  unfold hsP
  rw [← Int64.toBitVec_inj, Int64.toBitVec_and, Int64.toBitVec_shiftRight, sh_w ⟨w, hw⟩]
  show (s.toBitVec.sshiftRight' (BitVec.ofNat 64 w)) &&& 1#64 = 1#64 ↔ _
  rw [one_bit]
  show (s.toBitVec.sshiftRight (BitVec.ofNat 64 w).toNat).getLsbD 0 = true ↔ _
  rw [BitVec.getLsbD_sshiftRight]
  have e : (BitVec.ofNat 64 w).toNat = w := by simp; omega
  rw [e, if_pos (by omega)]
  simp
/-- a set of worlds has no bits above -/
def Lo (s : Int64) : Prop := ∀ i, 32 ≤ i → s.toBitVec.getLsbD i = false
theorem Lo.or {a b : Int64} (ha : Lo a) (hb : Lo b) : Lo (a ||| b) := fun i hi => by rw [Int64.toBitVec_or, BitVec.getLsbD_or, ha i hi, hb i hi]; rfl
theorem Lo.and {a b : Int64} (ha : Lo a) : Lo (a &&& b) := fun i hi => by rw [Int64.toBitVec_and, BitVec.getLsbD_and, ha i hi]; rfl
theorem Lo.zero : Lo 0 := fun i _ => by show (0#64).getLsbD i = false; simp
theorem sh_lo : ∀ w : Fin 32, ∀ i : Fin 64, 32 ≤ i.val → ((1 : Int64) <<< ((nI w.val).toInt64 &&& 63)).toBitVec.getLsbD i.val = false := by decide +kernel
theorem Lo.one {w : Nat} (hw : w < 32) : Lo ((1 : Int64) <<< ((nI w).toInt64 &&& 63)) := fun i hi => by
  by_cases h : i < 64
  · exact sh_lo ⟨w, hw⟩ ⟨i, h⟩ hi
  · exact BitVec.getLsbD_of_ge _ _ (by omega)
theorem soF_lo (p t : Nat) (who : Int32) : ∀ n, n ≤ 32 → Lo (soF M p t who n)
  | 0, _ => Lo.zero
  | n + 1, h => by
    rw [soF]
    refine Lo.or (soF_lo p t who n (by omega)) ?_
    split
    · exact Lo.one (by omega)
    · exact Lo.zero
theorem woT_lo : ∀ n, Lo (woT M n)
  | 0 => soF_lo _ _ _ 32 (by decide)
  | n + 1 => Lo.and (woT_lo n)
theorem lo_some {s : Int64} (h : Lo s) (hn : ¬ s = 0) : ∃ w, w < 32 ∧ hsP s (nI w) := by
  by_cases e : ∃ w, w < 32 ∧ hsP s (nI w)
  · exact e
  · exfalso
    apply hn
    rw [← Int64.toBitVec_inj]
    apply BitVec.eq_of_getLsbD_eq
    intro i _
    show s.toBitVec.getLsbD i = (0#64).getLsbD i
    by_cases hi : i < 32
    · have : ¬ s.toBitVec.getLsbD i = true := fun z => e ⟨i, hi, (hs_bit hi).mpr z⟩
      simpa using this
    · rw [h i (by omega)]
      simp
def cnN (s : Int64) : Nat → Nat
  | 0 => 0
  | w + 1 => cnN s w + if hsP s (nI w) then 1 else 0
theorem cnN_le (s : Int64) : ∀ n, cnN s n ≤ n
  | 0 => Nat.le_refl _
  | n + 1 => by
    have := cnN_le s n
    rw [cnN]
    split <;> omega
theorem cnt_N (s : Int64) : ∀ n, cntF s n = nI (cnN s n)
  | 0 => rfl
  | n + 1 => by
    rw [cntF, cnN, cnt_N s n, ← nI_add]
    congr 1
    by_cases h : hsP s (nI n)
    · rw [if_pos h]; exact bI_t h
    · rw [if_neg h]; exact bI_f h
theorem cnN_pos {s : Int64} {w : Nat} (h : hsP s (nI w)) : ∀ n, w < n → 0 < cnN s n := by
  intro n
  induction n with
  | zero => intro h0; omega
  | succ n ih =>
    intro h0
    rw [cnN]
    by_cases e : w = n
    · subst e; rw [if_pos h]; omega
    · have := ih (by omega); omega
theorem cnt_ne {s : Int64} (h : Lo s) (hn : ¬ s = 0) : ¬ (cntF s 32).toInt64 = 0 := by
  obtain ⟨w, hw, hb⟩ := lo_some h hn
  have h1 := cnN_pos hb 32 hw
  have h2 := cnN_le s 32
  rw [cnt_N]
  have a : ∀ n : Fin 33, 0 < n.val → ¬ (nI n.val).toInt64 = 0 := by decide
  exact a ⟨cnN s 32, by omega⟩ h1
/-- the best question is one -/
theorem qsT_some (left : Int64) (n : Int32) (hnt : 0 < nt) : ∀ k, 0 < k → ∃ j, j < k ∧ (qsT M left n nt k).1 = Int32.ofInt 10 * nI (j / nt) + nI (j % nt) := by
  intro k
  induction k with
  | zero => intro h; omega
  | succ k ih =>
    intro _
    rw [qsT]
    unfold qsS
    by_cases e : k = 0
    · subst e
      rw [if_pos (show (qsT M left n nt 0).1 = -1 ∨ _ from Or.inl rfl), if_pos (show (qsT M left n nt 0).1 = -1 ∨ _ from Or.inl rfl)]
      exact ⟨0, by omega, rfl⟩
    · obtain ⟨j, hj, ej⟩ := ih (by omega)
      split
      · split
        · exact ⟨k, by omega, rfl⟩
        · exact ⟨j, by omega, ej⟩
      · exact ⟨j, by omega, ej⟩
theorem ten : ∀ s : Fin 5, ∀ t : Fin 6, (Int32.ofInt 10 * nI s.val + nI t.val) / Int32.ofInt 10 = nI s.val ∧ (Int32.ofInt 10 * nI s.val + nI t.val) - (Int32.ofInt 10 * nI s.val + nI t.val) / Int32.ofInt 10 * Int32.ofInt 10 = nI t.val := by decide +kernel
def loN (x : Int64) : Int64 := x * 48271 - x * 48271 / 2147483647 * 2147483647
def agF (M : MS) (nt ns nk : Nat) (right : Int32) : Nat → Nat → Int64 → Int64 → Nat
  | 0, i, _, _ => i
  | m + 1, i, left, lot =>
    if cntF left 32 ≤ 1 then i else if ns = 0 then i else
    let q := (qsT M left (nI nk + nI i) nt (ns * nt)).1
    let a := fitT M (q / 10).toNatClampNeg (q - q / 10 * 10).toNatClampNeg 0 (nI nk + nI i)
    let b := fitT M (q / 10).toNatClampNeg (q - q / 10 * 10).toNatClampNeg 1 (nI nk + nI i)
    agF M nt ns nk right m (i + 1) (left &&& (if hsP a right ∧ (¬ hsP b right ∨ loN lot - loN lot / 2 * 2 = 0) then a else if hsP b right then b else ALLW)) (loN lot)
def agA (M : MS) (nt ns nk : Nat) (all : Int64) (seed : Int32) : Nat := agF M nt ns nk (waF all 32 0 (loN (seed.toInt64 + 1) - loN (seed.toInt64 + 1) / (cntF all 32).toInt64 * (cntF all 32).toInt64).toInt32) 6 0 all (loN (seed.toInt64 + 1))
theorem agF_le (right : Int32) : ∀ m i left lot, agF M nt ns nk right m i left lot ≤ i + m
  | 0, i, _, _ => Nat.le_refl _
  | m + 1, i, left, lot => by
    rw [agF]
    split
    · omega
    · split
      · omega
      · refine Nat.le_trans (agF_le right m (i + 1) _ _) ?_
        omega
def cNag (i : Nat) : Bool := Nat.beq i 22 || Nat.beq i 94 || Nat.beq i 107
set_option maxRecDepth 100000 in
set_option maxHeartbeats 4000000 in
theorem g_asksBy (h : MInv M nt ns nk) {z : SZ} (hz : ScOk z) (hzm : Mt (sc M z) nt) {all : Int64} (hal : ¬ (cntF all 32).toInt64 = 0) (seed : Int32) : Ctr l 4 X sgX8_asksBy [.ref 27, .long all, .int seed] (mk S (sc M z)) (nowQ S M nt (some (.int (nI (agA M nt ns nk all seed))))) := by
  obtain ⟨h3, h12⟩ := h.2.2.2.2.1
  obtain ⟨h0, h5⟩ := h.2.2.2.1
  obtain ⟨h9, h1, h6⟩ := h.2.2.1
  refine Ctr.of okX8_asksBy rfl (Nat.le_of_ble_eq_true rfl) (run_sound okX8_asksBy cNag 300 ?_)
  obtain ⟨cb, hcb⟩ : ∃ cb, cntF all 32 = cb := ⟨_, rfl⟩
  have hbc : Ans l 1 X sgX8_bitsOf [.long all] (mk S (sc M z)) cb := by rw [← hcb]; exact m_bitsOf _
  unfold agA
  rw [hcb] at hal ⊢
  obtain ⟨right, hri⟩ : ∃ right, waF all 32 0 (loN (seed.toInt64 + 1) - loN (seed.toInt64 + 1) / cb.toInt64 * cb.toInt64).toInt32 = right := ⟨_, rfl⟩
  rw [hri]
  have hwa : Ans l 1 X sgX8_worldAt [.long all, .int (loN (seed.toInt64 + 1) - loN (seed.toInt64 + 1) / cb.toInt64 * cb.toInt64).toInt32] (mk S (sc M z)) right := by rw [← hri]; exact m_worldAt _ _
  obtain ⟨V, hV⟩ : ∃ V, agF M nt ns nk right 6 0 all (loN (seed.toInt64 + 1)) = V := ⟨_, rfl⟩
  rw [hV]
  have key : ∀ i, i ≤ 6 → ∀ (z : SZ), ScOk z → Mt (sc M z) nt → ∀ left lot, agF M nt ns nk right (6 - i) i left lot = V → ∀ x10 x11 x12 x13 x14, (x11 = none ∧ x13 = none) → WP l (rmD 4 0 0) X sgX8_asksBy kX8_asksBy (nowQ S M nt (some (.int (nI V)))) 22 [some (.ref 27), some (.long all), none, some (.int seed), some (.long lot), none, some (.int right), some (.long left), none, some (.int (nI i)), x10, x11, x12, x13, x14] [] (mk S (sc M z)) 0 0 := by
    refine down (fun z hz hzm left lot e x10 x11 x12 x13 x14 hx => ?_) (fun i hi ih z hz hzm left lot e x10 x11 x12 x13 x14 hx => ?_)
    · rw [Nat.sub_self] at e
      have e : 6 = V := e
      exact run_sound okX8_asksBy cNag 300 (kH (m_bitsOf _) (by decide) (br (fun _ => ⟨⟨z, hz, hzm, rfl⟩, some_int (by rw [e])⟩) (fun _ => brT (Int32.le_refl _) ⟨⟨z, hz, hzm, rfl⟩, some_int (by rw [e])⟩)))
    · rw [show 6 - i = (6 - (i + 1)) + 1 by omega, agF] at e
      refine run_sound okX8_asksBy cNag 300 (kH (m_bitsOf _) (by decide) (br (fun p => ⟨⟨z, hz, hzm, rfl⟩, some_int ?_⟩) (fun p => brF (nI_ge (b := 6) hi (by decide)) (br (fun p2 => ⟨⟨z, hz, hzm, rfl⟩, some_int ?_⟩) (fun p2 => ?_)))))
      · rw [if_pos (show cntF left 32 ≤ 1 from p)] at e
        rw [e]
      · rw [if_neg (show ¬ cntF left 32 ≤ 1 from p)] at e
        have p2 : M.1 0 ≤ 0 := p2
        rw [h0] at p2
        have hns : ns = 0 := by
          by_cases y : ns = 0
          · exact y
          · exact absurd p2 (nI_nle (by omega) (by omega))
        rw [if_pos hns] at e
        rw [e]
      · rw [if_neg (show ¬ cntF left 32 ≤ 1 from p)] at e
        have p2 : ¬ M.1 0 ≤ 0 := p2
        rw [h0] at p2
        have hns : ¬ ns = 0 := fun y => p2 (by rw [y]; exact Int32.le_refl _)
        rw [if_neg hns] at e
        have hnn : 0 < ns * nt := Nat.mul_pos (by omega) (by omega)
        have hfq : Ctr l 3 X sgX8_findsQuestion [.ref 27, .long left, .int (M.1 3 + nI i)] (mk S (sc M z)) (qsQ S (sc M z) nt (qsT M left (nI nk + nI i) nt (ns * nt))) := by
          rw [h3, ← qsT_sc z]
          exact g_findsQuestion (h.sc hz) hzm _ _
        obtain ⟨j, hj, ej⟩ := qsT_some (M := M) left (nI nk + nI i) (show 0 < nt by omega) (ns * nt) hnn
        have hjt : j % nt < nt := Nat.mod_lt _ (by omega)
        have hjs : j / nt < ns := Nat.div_lt_of_lt_mul (by rw [Nat.mul_comm]; exact hj)
        have t10 := ten ⟨j / nt, by omega⟩ ⟨j % nt, by omega⟩
        obtain ⟨Q, hQ⟩ : ∃ Q, qsT M left (nI nk + nI i) nt (ns * nt) = Q := ⟨_, rfl⟩
        rw [hQ] at hfq ej e
        have d1 : Q.1 / Int32.ofInt 10 = nI (j / nt) := by rw [ej]; exact t10.1
        have d2 : Q.1 - Q.1 / Int32.ofInt 10 * Int32.ofInt 10 = nI (j % nt) := by rw [ej]; exact t10.2
        have n1 : (Q.1 / 10).toNatClampNeg = j / nt := by rw [show Q.1 / 10 = nI (j / nt) from d1, nI_clamp (by omega)]
        have n2 : (Q.1 - Q.1 / 10 * 10).toNatClampNeg = j % nt := by rw [show Q.1 - Q.1 / 10 * 10 = nI (j % nt) from d2, nI_clamp (by omega)]
        dsimp only at e
        rw [n1, n2] at e
        refine ⟨3, _, by decide, hfq, ?_⟩
        rintro hp' w ⟨⟨z', hz', hzm', hq', rfl⟩, rfl⟩
        have hzm' := mt_sc (M := M) hzm'
        obtain ⟨z1, z2, z3, z4, b1, b2, b3⟩ := z'
        have hq' : (b1, b2, b3) = Q := hq'
        subst hq'
        have cf : ∀ u : Nat, u < 2 → AnsL l 1 X sgX8_fits [.ref 27, .int (b1 / Int32.ofInt 10), .int (b1 - b1 / Int32.ofInt 10 * Int32.ofInt 10), .int (nI u), .int (M.1 3 + nI i)] (mk S (sc M (z1, z2, z3, z4, b1, b2, b3))) (fitT M (j / nt) (j % nt) u (nI nk + nI i)) := by
          intro u hu
          have d1 : b1 / Int32.ofInt 10 = nI (j / nt) := d1
          have d2 : b1 - b1 / Int32.ofInt 10 * Int32.ofInt 10 = nI (j % nt) := d2
          rw [d2, d1, h3, ← fitT_sc (z1, z2, z3, z4, b1, b2, b3)]
          exact g_fits (h.sc hz') hzm' (by omega) hjt hu _
        have c0 := cf 0 (by decide)
        have c1 := cf 1 (by decide)
        clear cf
        generalize fitT M (j / nt) (j % nt) 0 (nI nk + nI i) = fa at c0 e
        generalize fitT M (j / nt) (j % nt) 1 (nI nk + nI i) = fb at c1 e
        have t107 : ∀ x : Int64, x = (if hsP fa right ∧ (¬ hsP fb right ∨ loN lot - loN lot / 2 * 2 = 0) then fa else if hsP fb right then fb else ALLW) → ∀ x14, WP l (rmD 4 0 0) X sgX8_asksBy kX8_asksBy (nowQ S M nt (some (.int (nI V)))) 107 [some (.ref 27), some (.long all), none, some (.int seed), some (.long (loN lot)), none, some (.int right), some (.long left), none, some (.int (nI i)), some (.long fa), none, some (.long fb), none, x14] [.long x, .long left] (mk S (sc M (z1, z2, z3, z4, b1, b2, b3))) 0 0 := by
          intro x hx x14
          rw [← hx] at e
          have ih := ih (z1, z2, z3, z4, b1, b2, b3) hz' hzm' _ _ e (some (.long fa)) none (some (.long fb)) none x14 ⟨rfl, rfl⟩
          rw [← nI_1 i] at ih
          exact run_sound okX8_asksBy (fun i => Nat.beq i 22) 300 ih
        have t94 : ∀ v : Int32, (v = 1 ∧ (hsP fa right ∧ (¬ hsP fb right ∨ loN lot - loN lot / 2 * 2 = 0))) ∨ (v = 0 ∧ ¬ (hsP fa right ∧ (¬ hsP fb right ∨ loN lot - loN lot / 2 * 2 = 0))) → WP l (rmD 4 0 0) X sgX8_asksBy kX8_asksBy (nowQ S M nt (some (.int (nI V)))) 94 [some (.ref 27), some (.long all), none, some (.int seed), some (.long (loN lot)), none, some (.int right), some (.long left), none, some (.int (nI i)), some (.long fa), none, some (.long fb), none, x14] [.int v] (mk S (sc M (z1, z2, z3, z4, b1, b2, b3))) 0 0 := by
          intro v hv
          rcases hv with ⟨rfl, hf⟩ | ⟨rfl, hf⟩
          · exact run_sound okX8_asksBy (fun i => Nat.beq i 107) 300 (brF (by decide) (t107 _ (if_pos hf).symm _))
          · exact run_sound okX8_asksBy (fun i => Nat.beq i 107) 300 (brT rfl (kH (m_has _ _) (by decide) (brB' (fun y => t107 _ ((if_neg hf).trans (if_neg y)).symm _) (fun y => t107 _ ((if_neg hf).trans (if_pos y)).symm _))))
        obtain ⟨hx1, hx2⟩ := hx
        subst hx1
        subst hx2
        refine And.intro (by decide) (And.intro (by decide) (kH c0 (by decide) (And.intro (by decide) (And.intro (by decide) (kH c1 (by decide) (And.intro (by decide) ?_))))))
        refine kH (m_has _ _) (by decide) (brB' (fun y => t94 0 (Or.inr ⟨rfl, fun q => y q.1⟩)) (fun y => kH (m_has _ _) (by decide) (brB' (fun y2 => t94 1 (Or.inl ⟨rfl, y, Or.inl y2⟩)) (fun y2 => And.intro (by decide) (brC (fun y3 => t94 1 (Or.inl ⟨rfl, y, Or.inr y3⟩)) (fun y3 => t94 0 (Or.inr ⟨rfl, fun q => q.2.elim (fun q => q y2) (fun q => y3 q)⟩)))))))
  exact And.intro (by decide) (kH hbc (by decide) (And.intro hal (kH hwa (by decide) (key 0 (Nat.zero_le _) z hz hzm all _ hV none none none none none ⟨rfl, rfl⟩))))
end MSTR
end
section
-- 8f.mcop
/-! THE REFERENCE in general: drawn, mean, copies -/
section MCOP
variable {l : Launch} {X : List (List Int32)} {S : CS} {M : MS} {hp : AH} {nt ns nk : Nat}
def drG (M : MS) (nt ns nk : Nat) (seed : Int32) : Int32 := if (0 : Int32) ≤ seed ∧ seed ≤ 99999 then (if woT M nk = 0 then -1 else nI (agA M nt ns nk (woT M nk) seed)) else -2
set_option maxRecDepth 100000 in
theorem g_drawn (h : MInv M nt ns nk) (seed : Int32) : Ctr l 6 X sgX8_drawn [.ref 27, .int seed] (mk S M) (zA S M (.int (drG M nt ns nk seed))) := by
  refine Ctr.of okX8_drawn rfl (Nat.le_of_ble_eq_true rfl) (run_sound okX8_drawn noCut 200 ?_)
  refine kH (m_in _ _ _) (by decide) (brB' (fun q => zI h.1 (if_neg q).symm) (fun q => ⟨5, _, by decide, g_worldsNow h, ?_⟩))
  have e : drG M nt ns nk seed = if woT M nk = 0 then -1 else nI (agA M nt ns nk (woT M nk) seed) := if_pos q
  rw [e]
  rintro hp' w ⟨⟨z, hz, hzm, rfl⟩, rfl⟩
  refine brC (fun y => ⟨⟨z, hz, rfl⟩, some_int (if_pos y).symm⟩) (fun y => ?_)
  rw [if_neg (show ¬ woT M nk = 0 from y)]
  refine ⟨4, _, by decide, g_asksBy h hz hzm (cnt_ne (woT_lo nk) y) seed, ?_⟩
  rintro hp' w ⟨⟨z', hz', hzm', rfl⟩, rfl⟩
  exact ⟨⟨z', hz', rfl⟩, rfl⟩
/-- what so many strangers ask in all -/
def meS (M : MS) (nt ns nk : Nat) (seed : Int32) : Nat → Nat
  | 0 => 0
  | k + 1 => meS M nt ns nk seed k + agA M nt ns nk (woT M nk) (seed + nI k)
theorem meS_le (seed : Int32) : ∀ k, meS M nt ns nk seed k ≤ 6 * k
  | 0 => Nat.le_refl _
  | k + 1 => by
    have h1 := meS_le seed k
    have h2 : agA M nt ns nk (woT M nk) (seed + nI k) ≤ 0 + 6 := agF_le _ 6 0 _ _
    rw [meS]
    omega
theorem nI_64 {n : Nat} (h : n < 2 ^ 31) : (nI n).toInt64 = Int64.ofNat n := by
  apply Int64.toInt_inj.mp
  rw [Int32.toInt_toInt64, nI_toInt h, Int64.toInt_ofNat_of_lt (by omega)]
def meG2 (M : MS) (nt ns nk : Nat) (seed seeds part : Int32) : Int64 := if ((0 : Int32) ≤ seed ∧ seed ≤ 99999) ∧ ((1 : Int32) ≤ seeds ∧ seeds ≤ 10) ∧ p1P part then (if woT M nk = 0 then NOL else loG (Int64.ofNat (meS M nt ns nk seed seeds.toNatClampNeg)) (Int64.ofNat seeds.toNatClampNeg) part) else NOL
set_option maxRecDepth 100000 in
set_option maxHeartbeats 1000000 in
theorem g_mean (h : MInv M nt ns nk) (seed seeds part : Int32) : Ctr l 6 X sgX8_mean [.ref 27, .int seed, .int seeds, .int part] (mk S M) (zA S M (.long (meG2 M nt ns nk seed seeds part))) := by
  refine Ctr.of okX8_mean rfl (Nat.le_of_ble_eq_true rfl) (run_sound okX8_mean (fun i => Nat.beq i 30) 200 ?_)
  refine kH (m_in _ _ _) (by decide) (brB' (fun q => ⟨rfl, zJ h.1 (if_neg (fun z => q z.1)).symm⟩) (fun q => kH (m_in _ _ _) (by decide) (brB' (fun q2 => ⟨rfl, zJ h.1 (if_neg (fun z => q2 z.2.1)).symm⟩) (fun q2 => kH (m_in _ _ _) (by decide) (brB' (fun q3 => ⟨rfl, zJ h.1 (if_neg (fun z => q3 z.2.2)).symm⟩) (fun q3 => ⟨5, _, by decide, g_worldsNow h, ?_⟩))))))
  have e : meG2 M nt ns nk seed seeds part = if woT M nk = 0 then NOL else loG (Int64.ofNat (meS M nt ns nk seed seeds.toNatClampNeg)) (Int64.ofNat seeds.toNatClampNeg) part := if_pos ⟨q, q2, q3⟩
  rw [e]
  rintro hp' w ⟨⟨z, hz, hzm, rfl⟩, rfl⟩
  refine brC (fun y => ⟨rfl, ⟨z, hz, rfl⟩, some_long (if_pos y).symm⟩) (fun y => ?_)
  rw [if_neg (show ¬ woT M nk = 0 from y)]
  obtain ⟨n, hn, rfl⟩ := in110 q2
  rw [nI_clamp (show n < 2 ^ 31 by omega)]
  have hne := cnt_ne (woT_lo (M := M) nk) y
  have key : ∀ k, k ≤ n → ∀ (z : SZ), ScOk z → Mt (sc M z) nt → WP l (rmD 6 0 0) X sgX8_mean kX8_mean (zA S M (.long (loG (Int64.ofNat (meS M nt ns nk seed n)) (Int64.ofNat n) part))) 30 [some (.ref 27), some (.int seed), some (.int (nI n)), some (.int part), some (.long (woT M nk)), none, some (.long (Int64.ofNat (meS M nt ns nk seed k))), none, some (.int (nI k))] [] (mk S (sc M z)) 0 0 := by
    refine down (fun z hz hzm => ?_) (fun k hk ih z hz hzm => ?_)
    · have hle := meS_le (M := M) (nt := nt) (ns := ns) (nk := nk) seed n
      have lo := lo_ok (a := meS M nt ns nk seed n) (b := n) (by omega) (by omega)
      have hc : AnsL l 0 X sgX8_lowest [.long (Int64.ofNat (meS M nt ns nk seed n)), .long (nI n).toInt64, .int part] (mk S (sc M z)) (loG (Int64.ofNat (meS M nt ns nk seed n)) (Int64.ofNat n) part) := by
        rw [nI_64 (by omega)]
        exact m_lowest _ _ _ lo.1 lo.2
      exact run_sound okX8_mean (fun i => Nat.beq i 30) 200 (brT (Int32.le_refl _) (kH hc (by decide) ⟨rfl, ⟨z, hz, rfl⟩, rfl⟩))
    · have hag : agA M nt ns nk (woT M nk) (seed + nI k) ≤ 0 + 6 := agF_le _ 6 0 _ _
      refine run_sound okX8_mean (fun i => Nat.beq i 30) 200 (brF (nI_ge hk (by omega)) ⟨4, _, by decide, g_asksBy h hz hzm hne (seed + nI k), ?_⟩)
      rintro hp' w ⟨⟨z', hz', hzm', rfl⟩, rfl⟩
      have ih := ih z' hz' hzm'
      rw [show meS M nt ns nk seed (k + 1) = meS M nt ns nk seed k + agA M nt ns nk (woT M nk) (seed + nI k) from rfl, ← oN_add, ← nI_64 (show agA M nt ns nk (woT M nk) (seed + nI k) < 2 ^ 31 by omega), ← nI_1 k] at ih
      exact ih
  exact key 0 (Nat.zero_le _) z hz hzm
def coX (a b n k : Nat) : Nat := if a < b then n - 1 - k else k
def coC (xs : List Int32) (a b n : Nat) : Nat → List Int32
  | 0 => xs
  | k + 1 => (coC xs a b n k).set (b + coX a b n k) ((coC xs a b n k).getD (a + coX a b n k) 0)
theorem coC_len {xs : List Int32} {a b n : Nat} : ∀ k, (coC xs a b n k).length = xs.length
  | 0 => rfl
  | k + 1 => by rw [coC, List.length_set, coC_len k]
abbrev coP (M : MS) (s i o j n : Int32) : Prop := ¬ n < 0 ∧ ¬ i < 0 ∧ ¬ j < 0 ∧ i ≤ (M.2.1 18).getD s.toNatClampNeg 0 ∧ j ≤ (M.2.1 18).getD o.toNatClampNeg 0 ∧ n ≤ (M.2.1 18).getD s.toNatClampNeg 0 - i ∧ n ≤ (M.2.1 18).getD o.toNatClampNeg 0 - j
def coG (M : MS) (s i o j n : Int32) : MS × Int32 := if p3P s ∧ p3P o then (if (M.2.1 17).getD s.toNatClampNeg 0 = -1 ∨ (M.2.1 17).getD o.toNatClampNeg 0 = -1 then (M, -11) else if (M.2.1 17).getD s.toNatClampNeg 0 = (M.2.1 17).getD o.toNatClampNeg 0 then
    (if coP M s i o j n then (mR M 19 (coC (M.2.1 19) (40 * s.toNatClampNeg + i.toNatClampNeg) (40 * o.toNatClampNeg + j.toNatClampNeg) n.toNatClampNeg n.toNatClampNeg), n) else (M, -12)) else (M, -13)) else (M, -2)
theorem nonneg_n {i c : Int32} {z : Nat} (h0 : ¬ i < 0) (h1 : i ≤ c) (hc : c = nI z) (hz : z < 2 ^ 31) : ∃ k : Nat, k ≤ z ∧ i = nI k := by
  subst hc
  have g0 := Int32.le_iff_toInt_le.mp (Int32.not_lt.mp h0)
  have g1 := Int32.le_iff_toInt_le.mp h1
  have e0 : (0 : Int32).toInt = 0 := by decide
  rw [nI_toInt hz] at g1
  refine ⟨i.toInt.toNat, by omega, Int32.toInt_inj.mp ?_⟩
  rw [nI_toInt (by omega)]
  omega
def cNco (i : Nat) : Bool := Nat.beq i 24 || Nat.beq i 71 || Nat.beq i 87 || Nat.beq i 100
set_option maxRecDepth 100000 in
set_option maxHeartbeats 2000000 in
theorem g_copy (hM : MLen M) (hs : ShOk M) (s i o j n : Int32) : Ctr l 2 X sgX8_copy [.ref 27, .int s, .int i, .int o, .int j, .int n] (mk S M) (rsQ S (coG M s i o j n)) := by
  have l17 : (M.2.1 17).length = 4 := hM.2.2.2.2.2.2.2.2.1
  have l18 : (M.2.1 18).length = 4 := hM.2.2.2.2.2.2.2.2.2.1
  have l19 : (M.2.1 19).length = 160 := hM.2.2.2.2.2.2.2.2.2.2.1
  refine Ctr.of okX8_copy rfl (Nat.le_of_ble_eq_true rfl) (run_sound okX8_copy cNco 300 ?_)
  refine kH (m_in _ _ _) (by decide) (brB' (fun q => rs_i (if_neg (fun z => q z.1)) rfl) (fun q => kH (m_in _ _ _) (by decide) (brB' (fun q2 => rs_i (if_neg (fun z => q2 z.2)) rfl) (fun q2 => ?_))))
  have e : coG M s i o j n = if (M.2.1 17).getD s.toNatClampNeg 0 = -1 ∨ (M.2.1 17).getD o.toNatClampNeg 0 = -1 then (M, -11) else if (M.2.1 17).getD s.toNatClampNeg 0 = (M.2.1 17).getD o.toNatClampNeg 0 then
    (if coP M s i o j n then (mR M 19 (coC (M.2.1 19) (40 * s.toNatClampNeg + i.toNatClampNeg) (40 * o.toNatClampNeg + j.toNatClampNeg) n.toNatClampNeg n.toNatClampNeg), n) else (M, -12)) else (M, -13) := if_pos ⟨q, q2⟩
  have v : ∀ {s : Int32}, p3P s → ∀ xs : List Int32, xs.length = 4 → vp_in s xs.length := fun {s} q xs e => by
    obtain ⟨a, ha, rfl⟩ := in03n q
    rw [e]; exact vp_nI ha (by decide)
  have t24 : ((M.2.1 17).getD s.toNatClampNeg 0 = -1 ∨ (M.2.1 17).getD o.toNatClampNeg 0 = -1) → WP l (rmD 2 0 0) X sgX8_copy kX8_copy (rsQ S (coG M s i o j n)) 24 [some (.ref 27), some (.int s), some (.int i), some (.int o), some (.int j), some (.int n), none, none, none, none] [] (mk S M) 0 0 := fun y =>
    run_sound okX8_copy noCut 100 (rs_i (e.trans (if_pos y)) rfl)
  refine Exists.intro _ (And.intro rfl (And.intro (v q _ l17) (br (fun p => t24 (Or.inl p)) (fun p => Exists.intro _ (And.intro rfl (And.intro (v q2 _ l17) (br (fun p2 => t24 (Or.inr p2)) (fun p2 => Exists.intro _ (And.intro rfl (And.intro (v q _ l17) (Exists.intro _ (And.intro rfl (And.intro (v q2 _ l17) (br (fun p3 => ?_) (fun p3 => rs_i (e.trans ((if_neg (fun y => y.elim p p2)).trans (if_neg p3))) rfl)))))))))))))))
  have e : coG M s i o j n = if coP M s i o j n then (mR M 19 (coC (M.2.1 19) (40 * s.toNatClampNeg + i.toNatClampNeg) (40 * o.toNatClampNeg + j.toNatClampNeg) n.toNatClampNeg n.toNatClampNeg), n) else (M, -12) := e.trans ((if_neg (fun y => y.elim p p2)).trans (if_pos p3))
  have t71 : ¬ coP M s i o j n → WP l (rmD 2 0 0) X sgX8_copy kX8_copy (rsQ S (coG M s i o j n)) 71 [some (.ref 27), some (.int s), some (.int i), some (.int o), some (.int j), some (.int n), none, none, none, none] [] (mk S M) 0 0 := fun y =>
    run_sound okX8_copy noCut 100 (rs_i (e.trans (if_neg y)) rfl)
  refine br (fun y => t71 (fun c => c.1 y)) (fun y1 => br (fun y => t71 (fun c => c.2.1 y)) (fun y2 => br (fun y => t71 (fun c => c.2.2.1 y)) (fun y3 => ?_)))
  refine Exists.intro _ (And.intro rfl (And.intro (v q _ l18) (br (fun y => t71 (fun c => absurd y (Int32.not_lt.mpr c.2.2.2.1))) (fun y4 => Exists.intro _ (And.intro rfl (And.intro (v q2 _ l18) (br (fun y => t71 (fun c => absurd y (Int32.not_lt.mpr c.2.2.2.2.1))) (fun y5 => ?_))))))))
  refine Exists.intro _ (And.intro rfl (And.intro (v q _ l18) (br (fun y => t71 (fun c => absurd y (Int32.not_lt.mpr c.2.2.2.2.2.1))) (fun y6 => Exists.intro _ (And.intro rfl (And.intro (v q2 _ l18) (br (fun y7 => ?_) (fun y => t71 (fun c => y c.2.2.2.2.2.2)))))))))
  have hc : coP M s i o j n := ⟨y1, y2, y3, Int32.not_lt.mp y4, Int32.not_lt.mp y5, Int32.not_lt.mp y6, y7⟩
  have e : coG M s i o j n = (mR M 19 (coC (M.2.1 19) (40 * s.toNatClampNeg + i.toNatClampNeg) (40 * o.toNatClampNeg + j.toNatClampNeg) n.toNatClampNeg n.toNatClampNeg), n) := e.trans (if_pos hc)
  rw [e]
  obtain ⟨hn0, hi0, hj0, hi, hj, hns, hno⟩ := hc
  obtain ⟨a, ha, rfl⟩ := in03n q
  obtain ⟨b, hb, rfl⟩ := in03n q2
  rw [nI_clamp (show a < 2 ^ 31 by omega)] at hi hns
  rw [nI_clamp (show b < 2 ^ 31 by omega)] at hj hno
  rw [nI_clamp (show a < 2 ^ 31 by omega), nI_clamp (show b < 2 ^ 31 by omega)]
  obtain ⟨-, zs, hzs, esz⟩ := hs a ha
  obtain ⟨-, zo, hzo, eoz⟩ := hs b hb
  obtain ⟨i', hi', rfl⟩ := nonneg_n hi0 hi esz (by omega)
  obtain ⟨j', hj', rfl⟩ := nonneg_n hj0 hj eoz (by omega)
  obtain ⟨m, hm, rfl⟩ := nonneg_n hn0 hns (by rw [esz]; exact nI_sub hi') (by omega)
  have hm2 : m ≤ zo - j' := by
    rw [eoz, nI_sub hj'] at hno
    exact (nI_leI (by omega) (by omega)).mp hno
  rw [nI_clamp (show i' < 2 ^ 31 by omega), nI_clamp (show j' < 2 ^ 31 by omega), nI_clamp (show m < 2 ^ 31 by omega)]
  have ea : Int32.ofInt 40 * nI a + nI i' = nI (40 * a + i') := by rw [show Int32.ofInt 40 * nI a = nI (40 * a) from nI_mul 40 a, nI_add]
  have eb : Int32.ofInt 40 * nI b + nI j' = nI (40 * b + j') := by rw [show Int32.ofInt 40 * nI b = nI (40 * b) from nI_mul 40 b, nI_add]
  have key : ∀ k, k ≤ m → ∀ x9, WP l (rmD 2 0 0) X sgX8_copy kX8_copy (rsQ S (mR M 19 (coC (M.2.1 19) (40 * a + i') (40 * b + j') m m), nI m)) 87 [some (.ref 27), some (.int (nI a)), some (.int (nI i')), some (.int (nI b)), some (.int (nI j')), some (.int (nI m)), some (.int (nI (40 * a + i'))), some (.int (nI (40 * b + j'))), some (.int (nI k)), x9] [] (mk S (mR M 19 (coC (M.2.1 19) (40 * a + i') (40 * b + j') m k))) 0 0 := by
    refine down (fun x9 => ?_) (fun k hk ih x9 => ?_)
    · exact run_sound okX8_copy cNco 300 (brT (Int32.le_refl _) ⟨rfl, rfl⟩)
    · have hx : coX (40 * a + i') (40 * b + j') m k < m := by unfold coX; split <;> omega
      have t100 : ∀ x : Int32, x = nI (coX (40 * a + i') (40 * b + j') m k) → WP l (rmD 2 0 0) X sgX8_copy kX8_copy (rsQ S (mR M 19 (coC (M.2.1 19) (40 * a + i') (40 * b + j') m m), nI m)) 100 [some (.ref 27), some (.int (nI a)), some (.int (nI i')), some (.int (nI b)), some (.int (nI j')), some (.int (nI m)), some (.int (nI (40 * a + i'))), some (.int (nI (40 * b + j'))), some (.int (nI k)), x9] [.int x] (mk S (mR M 19 (coC (M.2.1 19) (40 * a + i') (40 * b + j') m k))) 0 0 := by
        intro x hxx
        have c1 : nI (40 * a + i') + x = nI (40 * a + i' + coX (40 * a + i') (40 * b + j') m k) := by rw [hxx, nI_add]
        have c2 : nI (40 * b + j') + x = nI (40 * b + j' + coX (40 * a + i') (40 * b + j') m k) := by rw [hxx, nI_add]
        have e1 : coC (M.2.1 19) (40 * a + i') (40 * b + j') m (k + 1) = (coC (M.2.1 19) (40 * a + i') (40 * b + j') m k).set (nI (40 * b + j') + x).toNatClampNeg ((coC (M.2.1 19) (40 * a + i') (40 * b + j') m k).getD (nI (40 * a + i') + x).toNatClampNeg 0) := by
          rw [c1, c2, nI_clamp (by omega), nI_clamp (by omega)]
          rfl
        have ih := ih (some (.int x))
        rw [e1, ← nI_1 k] at ih
        refine run_sound okX8_copy (fun i => Nat.beq i 87) 300 (Exists.intro _ (And.intro rfl (And.intro ?_ (Exists.intro _ (And.intro rfl (And.intro ?_ ih))))))
        · show vp_in (nI (40 * a + i') + x) (coC (M.2.1 19) (40 * a + i') (40 * b + j') m k).length
          rw [c1, coC_len, l19]; exact vp_nI (by omega) (by decide)
        · show vp_in (nI (40 * b + j') + x) (coC (M.2.1 19) (40 * a + i') (40 * b + j') m k).length
          rw [c2, coC_len, l19]; exact vp_nI (by omega) (by decide)
      refine run_sound okX8_copy cNco 300 (brF (nI_ge hk (by omega)) (br (fun y => t100 _ ?_) (fun y => t100 _ ?_)))
      · have y := (nI_leI (by omega) (by omega)).mp y
        unfold coX
        rw [if_neg (by omega)]
      · have y : 40 * a + i' < 40 * b + j' := Nat.lt_of_not_le (fun z => y ((nI_leI (by omega) (by omega)).mpr z))
        unfold coX
        rw [if_pos y]
        show nI m - Int32.ofInt 1 - nI k = nI (m - 1 - k)
        rw [nI_m1 (by omega), nI_sub (by omega)]
  have k0 := key 0 (Nat.zero_le _) none
  rw [← ea, ← eb] at k0
  exact k0
end MCOP
end
