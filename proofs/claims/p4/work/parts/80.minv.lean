/-! THE REFERENCE in general: what always holds of it; what is read; what fits -/
section MINV
variable {l : Launch} {X : List (List Int32)} {S : CS} {M : MS} {hp : AH} {nt ns nk : Nat}
def Kd (k m : Int32) : Prop := ((0 : Int32) ≤ k ∧ k ≤ 5) ∧ ((0 : Int32) ≤ m ∧ m ≤ 9)
def TkOk (xs : List Int32) (nt nk : Nat) : Prop := ∀ k, k < nk → ∃ s t u : Nat, xs.getD (3 * k) 0 = nI s ∧ xs.getD (3 * k + 1) 0 = nI t ∧ xs.getD (3 * k + 2) 0 = nI u ∧ s < 5 ∧ t < nt ∧ u < 2
def MInv (M : MS) (nt ns nk : Nat) : Prop := MLen M ∧ AllOk M nt ∧ (M.1 9 = nI nt ∧ 1 ≤ nt ∧ nt ≤ 6) ∧ (M.1 0 = nI ns ∧ ns ≤ 5) ∧ (M.1 3 = nI nk ∧ nk ≤ 12) ∧ (∃ r, r < nt ∧ M.1 10 = nI r) ∧ (∀ i, i < 5 → Kd ((M.2.1 1).getD i 0) ((M.2.1 2).getD i 0)) ∧ TkOk (M.2.1 4) nt nk
theorem MInv.sc {z : SZ} (h : MInv M nt ns nk) (hz : ScOk z) : MInv (sc M z) nt ns nk := ⟨h.1.sc hz, h.2⟩
theorem sc_sc (M : MS) (z z' : SZ) : mk S (sc (sc M z) z') = mk S (sc M z') := rfl
theorem sc_get (M : MS) : mk S (sc M (getZ M)) = mk S M := rfl
/-- meanings are what they are, whatever a query writes -/
theorem soF_sc (z : SZ) (p t : Nat) (who : Int32) : ∀ n, soF (sc M z) p t who n = soF M p t who n
  | 0 => rfl
  | n + 1 => by
    rw [soF, soF, soF_sc z p t who n]
    rfl
theorem mtF_sc (z : SZ) (k : Nat) : mtF (sc M z) k = mtF M k := soF_sc z _ _ _ _
/-- the row of meanings holds them -/
def Mt (M : MS) (nt : Nat) : Prop := ∀ k, k < 10 * nt → M.2.2.1.getD k 0 = mtF M k
theorem Mt.of {z : SZ} (h : MtOk M nt z) : Mt (sc M z) nt := fun k hk => (h.2.2 k hk).trans (mtF_sc z k).symm
theorem inN {v : Int32} {n : Nat} (hn : n < 2 ^ 31) (h : 0 ≤ v ∧ v ≤ nI n - 1) : ∃ k : Nat, k < n ∧ v = nI k := by
  have h0 := Int32.le_iff_toInt_le.mp h.1
  have h1 := Int32.le_iff_toInt_le.mp h.2
  have e0 : (0 : Int32).toInt = 0 := by decide
  cases n with
  | zero =>
    have e1 : (nI 0 - 1).toInt = -1 := by decide
    omega
  | succ n =>
    rw [nI_pred, nI_toInt (by omega)] at h1
    refine ⟨v.toInt.toNat, by omega, Int32.toInt_inj.mp ?_⟩
    rw [nI_toInt (by omega)]
    omega
theorem inC {v c : Int32} {n : Nat} (hc : c.toInt = n) (hn : n < 2 ^ 31 - 1) (h : 0 ≤ v ∧ v ≤ c) : ∃ k : Nat, k ≤ n ∧ v = nI k := by
  have h0 := Int32.le_iff_toInt_le.mp h.1
  have h1 := Int32.le_iff_toInt_le.mp h.2
  have e0 : (0 : Int32).toInt = 0 := by decide
  refine ⟨v.toInt.toNat, by omega, Int32.toInt_inj.mp ?_⟩
  rw [nI_toInt (by omega)]
  omega
theorem g_T (h : MInv M nt ns nk) (t : Int32) : Ans l 1 X sgX8_isOfTexts [.ref 27, .int t] (mk S M) (bI (0 ≤ t ∧ t ≤ nI nt - 1)) := by
  have q : Ans l 1 X sgX8_isOfTexts [.ref 27, .int t] (mk S M) (bI (0 ≤ t ∧ t ≤ M.1 9 - 1)) := m_isOfTexts t
  rw [h.2.2.1.1] at q
  exact q
theorem g_S (h : MInv M nt ns nk) (s : Int32) : Ans l 1 X sgX8_isSpeaker [.ref 27, .int s] (mk S M) (bI (0 ≤ s ∧ s ≤ nI ns - 1)) := by
  have q : Ans l 1 X sgX8_isSpeaker [.ref 27, .int s] (mk S M) (bI (0 ≤ s ∧ s ≤ M.1 0 - 1)) := m_isSpeaker s
  rw [h.2.2.2.1.1] at q
  exact q
theorem g_reads (h : MInv M nt ns nk) : Ctr l 4 X sgX8_reads [.ref 27] (mk S M) (fun h w => (∃ z, ScOk z ∧ Mt (sc M z) nt ∧ h = mk S (sc M z)) ∧ w = none) := by
  have q := m_reads (l := l) (X := X) (S := S) h.1 (nt := nt) h.2.2.1.1 h.2.2.1.2.2 h.2.1
  exact q.weak (fun hp w hw => ⟨let ⟨z, hz, e⟩ := hw.1; ⟨z, hz.1, Mt.of hz, e⟩, hw.2⟩)
theorem g_once (h : MInv M nt ns nk) (hm : Mt M nt) {t : Nat} (ht : t < nt) : AnsL l 0 X sgX8_once [.ref 27, .int (nI t)] (mk S M) (mtF M (10 * t)) := by
  have q : AnsL l 0 X sgX8_once [.ref 27, .int (nI t)] (mk S M) (M.2.2.1.getD (10 * t) 0) := m_once h.1.z.2.2.1 (by have := h.2.2.1.2.2; omega)
  rw [hm _ (by omega)] at q
  exact q
/-- worlds in which a speaker can say a pair, as a saying of a number -/
def fitT (M : MS) (s t u : Nat) (n : Int32) : Int64 := canL ((M.2.1 1).getD s 0) ((M.2.1 2).getD s 0) n (mtF M (10 * t + 2 * s + u)) (mtF M (10 * t + 2 * s + 1 - u))
theorem Kd.two {k m : Int32} (h : Kd k m) : ¬ m + 2 = 0 := by
  obtain ⟨j, hj, e⟩ := inC (c := 9) (n := 9) (by decide) (by decide) h.2
  rw [e]
  have a : ∀ j : Fin 10, ¬ nI j.val + 2 = 0 := by decide
  exact a ⟨j, by omega⟩
theorem g_canSay (h : MInv M nt ns nk) (hm : Mt M nt) (k much n : Int32) {s t u : Nat} (hs : s < 5) (ht : t < nt) (hu : u < 2) (h2 : ¬ much + 2 = 0) :
    AnsL l 0 X sgX8_canSay [.ref 27, .int k, .int much, .int (nI s), .int (nI t), .int (nI u), .int n] (mk S M) (canL k much n (mtF M (10 * t + 2 * s + u)) (mtF M (10 * t + 2 * s + 1 - u))) := by
  have h6 := h.2.2.1.2.2
  have q := m_canSay (l := l) (X := X) (S := S) h.1.z.2.2.1 k much n (who := s) (t := t) (tu := u) hs (by omega) hu h2
  have e1 : M.2.2.1.getD (10 * t + 2 * s + u) 0 = mtF M (10 * t + 2 * s + u) := hm _ (by omega)
  have e2 : M.2.2.1.getD (10 * t + 2 * s + 1 - u) 0 = mtF M (10 * t + 2 * s + 1 - u) := hm _ (by omega)
  rw [e1, e2] at q
  exact q
set_option maxRecDepth 100000 in
theorem g_fits (h : MInv M nt ns nk) (hm : Mt M nt) {s t u : Nat} (hs : s < 5) (ht : t < nt) (hu : u < 2) (n : Int32) : AnsL l 1 X sgX8_fits [.ref 27, .int (nI s), .int (nI t), .int (nI u), .int n] (mk S M) (fitT M s t u n) := by
  have hk := h.2.2.2.2.2.2.1 s hs
  have hc := g_canSay (l := l) (X := X) (S := S) h hm ((M.2.1 1).getD s 0) ((M.2.1 2).getD s 0) n hs ht hu hk.two
  obtain ⟨l1, l2, -⟩ := h.1
  have e1 : (M.2.1 1).getD (nI s).toNatClampNeg 0 = (M.2.1 1).getD s 0 := by rw [nI_clamp (by omega)]
  have e2 : (M.2.1 2).getD (nI s).toNatClampNeg 0 = (M.2.1 2).getD s 0 := by rw [nI_clamp (by omega)]
  rw [← e1, ← e2] at hc
  have ef : canL ((M.2.1 1).getD (nI s).toNatClampNeg 0) ((M.2.1 2).getD (nI s).toNatClampNeg 0) n (mtF M (10 * t + 2 * s + u)) (mtF M (10 * t + 2 * s + 1 - u)) = fitT M s t u n := by rw [e1, e2]; rfl
  rw [ef] at hc
  refine Ctr.of okX8_fits rfl (Nat.le_of_ble_eq_true rfl) (run_sound okX8_fits noCut 100 ?_)
  refine Exists.intro _ (And.intro rfl (And.intro ?_ (Exists.intro _ (And.intro rfl (And.intro ?_ (kH hc (by decide) ⟨rfl, rfl, rfl⟩))))))
  · show vp_in (nI s) (M.2.1 1).length
    rw [l1]; exact vp_nI hs (by decide)
  · show vp_in (nI s) (M.2.1 2).length
    rw [l2]; exact vp_nI hs (by decide)
/-- a saying's parts -/
def tk (M : MS) (k j : Nat) : Nat := ((M.2.1 4).getD (3 * k + j) 0).toNatClampNeg
theorem tk_ok (h : MInv M nt ns nk) {k : Nat} (hk : k < nk) : (M.2.1 4).getD (3 * k) 0 = nI (tk M k 0) ∧ (M.2.1 4).getD (3 * k + 1) 0 = nI (tk M k 1) ∧ (M.2.1 4).getD (3 * k + 2) 0 = nI (tk M k 2) ∧ tk M k 0 < 5 ∧ tk M k 1 < nt ∧ tk M k 2 < 2 := by
  have h6 := h.2.2.1.2.2
  obtain ⟨s, t, u, e1, e2, e3, h1, h2, h3⟩ := h.2.2.2.2.2.2.2 k hk
  have f1 : tk M k 0 = s := by unfold tk; rw [Nat.add_zero, e1, nI_clamp (by omega)]
  have f2 : tk M k 1 = t := by unfold tk; rw [e2, nI_clamp (by omega)]
  have f3 : tk M k 2 = u := by unfold tk; rw [e3, nI_clamp (by omega)]
  rw [f1, f2, f3]
  exact ⟨e1, e2, e3, h1, h2, h3⟩
theorem ix_tk (h : MInv M nt ns nk) {k j : Nat} (hk : k < nk) (hj : j < 3) : vp_in (nI (3 * k + j)) (M.2.1 4).length ∧ (nI (3 * k + j)).toNatClampNeg = 3 * k + j := by
  have h12 := h.2.2.2.2.1.2
  rw [h.1.2.2.1]
  exact ⟨vp_nI (by omega) (by decide), nI_clamp (by omega)⟩
def fsT (M : MS) (k : Nat) : Int64 := fitT M (tk M k 0) (tk M k 1) (tk M k 2) (nI k)
set_option maxRecDepth 100000 in
theorem g_fitsSaying (h : MInv M nt ns nk) (hm : Mt M nt) {k : Nat} (hk : k < nk) : AnsL l 2 X sgX8_fitsSaying [.ref 27, .int (nI k)] (mk S M) (fsT M k) := by
  obtain ⟨e1, e2, e3, h1, h2, h3⟩ := tk_ok h hk
  have i0 : Int32.ofInt 3 * nI k = nI (3 * k + 0) := nI_mul 3 k
  have i1 : Int32.ofInt 3 * nI k + Int32.ofInt 1 = nI (3 * k + 1) := by rw [i0]; exact nI_1 _
  have i2 : Int32.ofInt 3 * nI k + Int32.ofInt 2 = nI (3 * k + 2) := by rw [i0]; exact nI_add _ 2
  have hc : AnsL l 1 X sgX8_fits [.ref 27, .int ((M.2.1 4).getD (Int32.ofInt 3 * nI k).toNatClampNeg 0), .int ((M.2.1 4).getD (Int32.ofInt 3 * nI k + Int32.ofInt 1).toNatClampNeg 0), .int ((M.2.1 4).getD (Int32.ofInt 3 * nI k + Int32.ofInt 2).toNatClampNeg 0), .int (nI k)] (mk S M) (fsT M k) := by
    rw [i1, i2, i0, (ix_tk h hk (show 0 < 3 by decide)).2, (ix_tk h hk (show 1 < 3 by decide)).2, (ix_tk h hk (show 2 < 3 by decide)).2, Nat.add_zero, e1, e2, e3]
    exact g_fits h hm h1 h2 h3 (nI k)
  refine Ctr.of okX8_fitsSaying rfl (Nat.le_of_ble_eq_true rfl) (run_sound okX8_fitsSaying noCut 100 ?_)
  refine Exists.intro _ (And.intro rfl (And.intro ?_ (Exists.intro _ (And.intro rfl (And.intro ?_ (Exists.intro _ (And.intro rfl (And.intro ?_ (kH hc (by decide) ⟨rfl, rfl, rfl⟩)))))))))
  · show vp_in (Int32.ofInt 3 * nI k) (M.2.1 4).length
    rw [i0]; exact (ix_tk h hk (by decide)).1
  · show vp_in (Int32.ofInt 3 * nI k + Int32.ofInt 1) (M.2.1 4).length
    rw [i1]; exact (ix_tk h hk (by decide)).1
  · show vp_in (Int32.ofInt 3 * nI k + Int32.ofInt 2) (M.2.1 4).length
    rw [i2]; exact (ix_tk h hk (by decide)).1
/-- worlds that fit the first sayings -/
def woT (M : MS) : Nat → Int64
  | 0 => mtF M (10 * (M.1 10).toNatClampNeg)
  | k + 1 => woT M k &&& fsT M k
theorem rl_ok (h : MInv M nt ns nk) : ∃ r, r < nt ∧ M.1 10 = nI r ∧ (M.1 10).toNatClampNeg = r := by
  have h6 := h.2.2.1.2.2
  obtain ⟨r, hr, e⟩ := h.2.2.2.2.2.1
  exact ⟨r, hr, e, by rw [e, nI_clamp (by omega)]⟩
theorem g_law (h : MInv M nt ns nk) (hm : Mt M nt) : AnsL l 0 X sgX8_once [.ref 27, .int (M.1 10)] (mk S M) (woT M 0) := by
  obtain ⟨r, hr, e, e2⟩ := rl_ok h
  have q := g_once (l := l) (X := X) (S := S) h hm hr
  rw [← e] at q
  rw [show mtF M (10 * r) = woT M 0 by rw [woT, e2]] at q
  exact q
set_option maxRecDepth 100000 in
theorem g_worldsOf (h : MInv M nt ns nk) (hm : Mt M nt) {n : Nat} (hn : n ≤ nk) : AnsL l 3 X sgX8_worldsOf [.ref 27, .int (nI n)] (mk S M) (woT M n) := by
  have h12 := h.2.2.2.2.1.2
  refine Ctr.of okX8_worldsOf rfl (Nat.le_of_ble_eq_true rfl) (run_sound okX8_worldsOf (fun i => Nat.beq i 7) 100 ?_)
  have key : ∀ j, j ≤ n → WP l (rmD 3 0 0) X sgX8_worldsOf kX8_worldsOf (fun h w => h = mk S M ∧ w = some (.long (woT M n))) 7 [some (.ref 27), some (.int (nI n)), some (.long (woT M j)), none, some (.int (nI j))] [] (mk S M) 0 0 := by
    refine down ?_ (fun j hj ih => ?_)
    · exact run_sound okX8_worldsOf (fun i => Nat.beq i 7) 100 (brT (Int32.le_refl _) ⟨rfl, rfl, rfl⟩)
    · refine run_sound okX8_worldsOf (fun i => Nat.beq i 7) 100 (brF (nI_ge hj (by omega)) (kH (g_fitsSaying h hm (by omega)) (by decide) ?_))
      rw [show woT M (j + 1) = woT M j &&& fsT M j from rfl, ← nI_1 j] at ih
      exact ih
  exact kH (g_law h hm) (by decide) (key 0 (Nat.zero_le _))
theorem woT_sc (z : SZ) : ∀ n, woT (sc M z) n = woT M n
  | 0 => mtF_sc z _
  | n + 1 => by
    rw [woT, woT, woT_sc z n]
    show woT M n &&& fitT (sc M z) _ _ _ _ = woT M n &&& fitT M _ _ _ _
    unfold fitT
    rw [mtF_sc, mtF_sc]
    rfl
theorem fitT_sc (z : SZ) (s t u : Nat) (n : Int32) : fitT (sc M z) s t u n = fitT M s t u n := by
  unfold fitT
  rw [mtF_sc, mtF_sc]
  rfl
/-- behind a query: the rows that it may write as they come, the meanings there -/
abbrev nowQ (S : CS) (M : MS) (nt : Nat) (v : Option Value) : AH → Option Value → Prop := fun h w => (∃ z, ScOk z ∧ Mt (sc M z) nt ∧ h = mk S (sc M z)) ∧ w = v
/-- behind a public query -/
abbrev zA (S : CS) (M : MS) (v : Value) : AH → Option Value → Prop := fun h w => (∃ z, ScOk z ∧ h = mk S (sc M z)) ∧ w = some v
set_option maxRecDepth 100000 in
theorem g_worldsNow (h : MInv M nt ns nk) : Ctr l 5 X sgX8_worldsNow [.ref 27] (mk S M) (nowQ S M nt (some (.long (woT M nk)))) := by
  have h3 := h.2.2.2.2.1.1
  refine Ctr.of okX8_worldsNow rfl (Nat.le_of_ble_eq_true rfl) (run_sound okX8_worldsNow noCut 100 ⟨4, _, by decide, g_reads h, ?_⟩)
  rintro hp' w ⟨⟨z, hz, hzm, rfl⟩, rfl⟩
  have hc : AnsL l 3 X sgX8_worldsOf [.ref 27, .int (M.1 3)] (mk S (sc M z)) (woT M nk) := by
    rw [h3, ← woT_sc z]
    exact g_worldsOf (h.sc hz) hzm (Nat.le_refl _)
  exact kH hc (by decide) ⟨rfl, ⟨z, hz, hzm, rfl⟩, rfl⟩
set_option maxRecDepth 100000 in
theorem g_worlds (h : MInv M nt ns nk) : Ctr l 6 X sgX8_worlds [.ref 27] (mk S M) (zA S M (.long (woT M nk))) := by
  refine Ctr.of okX8_worlds rfl (Nat.le_of_ble_eq_true rfl) (run_sound okX8_worlds noCut 100 ⟨5, _, by decide, g_worldsNow h, ?_⟩)
  rintro hp' w ⟨⟨z, hz, hzm, rfl⟩, rfl⟩
  exact ⟨rfl, ⟨z, hz, rfl⟩, rfl⟩
end MINV
