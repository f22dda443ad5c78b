/-! THE REFERENCE in general: what the sayings leave -/
section MWOR
variable {l : Launch} {X : List (List Int32)} {S : CS} {M : MS} {hp : AH} {nt ns nk : Nat}
abbrev zI {S : CS} {M : MS} {v w : Int32} (hM : MLen M) (e : v = w) : zA S M (.int w) (mk S M) (some (.int v)) := ⟨⟨getZ M, hM.z, rfl⟩, some_int e⟩
abbrev zJ {S : CS} {M : MS} {v w : Int64} (hM : MLen M) (e : v = w) : zA S M (.long w) (mk S M) (some (.long v)) := ⟨⟨getZ M, hM.z, rfl⟩, some_long e⟩
def beG (M : MS) (nk : Nat) (n what : Int32) : Int32 := if (0 : Int32) ≤ n ∧ n ≤ nI nk then (if p3P what then (if what = 0 then cntF (woT M n.toNatClampNeg) 32 else if what = 1 then alF (woT M n.toNatClampNeg) 32 else if what = 2 then noF (woT M n.toNatClampNeg) 32 else leF (woT M n.toNatClampNeg) 32 0) else -7) else -5
set_option maxRecDepth 100000 in
theorem g_behind (h : MInv M nt ns nk) (n what : Int32) : Ctr l 5 X sgX8_behind [.ref 27, .int n, .int what] (mk S M) (zA S M (.int (beG M nk n what))) := by
  obtain ⟨h3, h12⟩ := h.2.2.2.2.1
  have hc : Ans l 0 X sgX8_in [.int n, .int 0, .int (M.1 3)] (mk S M) (bI ((0 : Int32) ≤ n ∧ n ≤ nI nk)) := by
    rw [h3]
    exact m_in _ _ _
  refine Ctr.of okX8_behind rfl (Nat.le_of_ble_eq_true rfl) (run_sound okX8_behind noCut 100 ?_)
  refine kH hc (by decide) (brB' (fun q => zI h.1 (if_neg q).symm) (fun q => kH (m_in _ _ _) (by decide) (brB' (fun q2 => zI h.1 ((if_pos q).trans (if_neg q2)).symm) (fun q2 => ⟨4, _, by decide, g_reads h, ?_⟩))))
  rintro hp' w ⟨⟨z, hz, hzm, rfl⟩, rfl⟩
  have e : beG M nk n what = if what = 0 then cntF (woT M n.toNatClampNeg) 32 else if what = 1 then alF (woT M n.toNatClampNeg) 32 else if what = 2 then noF (woT M n.toNatClampNeg) 32 else leF (woT M n.toNatClampNeg) 32 0 := (if_pos q).trans (if_pos q2)
  rw [e]
  obtain ⟨j, hj, rfl⟩ := inC (c := nI nk) (n := nk) (by rw [nI_toInt (by omega)]) (by omega) q
  rw [nI_clamp (show j < 2 ^ 31 by omega)]
  have hw : AnsL l 3 X sgX8_worldsOf [.ref 27, .int (nI j)] (mk S (sc M z)) (woT M j) := by
    rw [← woT_sc z]
    exact g_worldsOf (h.sc hz) hzm hj
  refine kH hw (by decide) ?_
  rcases in03 q2 with rfl | rfl | rfl | rfl
  · exact brT rfl (kH (m_bitsOf _) (by decide) ⟨⟨z, hz, rfl⟩, rfl⟩)
  · exact brF (by decide) (brT rfl (kH (m_allIn _) (by decide) ⟨⟨z, hz, rfl⟩, rfl⟩))
  · exact brF (by decide) (brF (by decide) (brT rfl (kH (m_noneIn _) (by decide) ⟨⟨z, hz, rfl⟩, rfl⟩)))
  · exact brF (by decide) (brF (by decide) (brF (by decide) (kH (m_leastOf _) (by decide) ⟨⟨z, hz, rfl⟩, rfl⟩)))
def cnG (M : MS) : Nat → Nat → Int32
  | 0, _ => -1
  | m + 1, k => if woT M (k + 1) = 0 then nI k else cnG M m (k + 1)
set_option maxRecDepth 100000 in
theorem g_cannot (h : MInv M nt ns nk) : Ctr l 5 X sgX8_cannot [.ref 27] (mk S M) (zA S M (.int (cnG M nk 0))) := by
  obtain ⟨h3, h12⟩ := h.2.2.2.2.1
  refine Ctr.of okX8_cannot rfl (Nat.le_of_ble_eq_true rfl) (run_sound okX8_cannot (fun i => Nat.beq i 4) 100 ⟨4, _, by decide, g_reads h, ?_⟩)
  rintro hp' w ⟨⟨z, hz, hzm, rfl⟩, rfl⟩
  have key : ∀ j, j ≤ nk → cnG M (nk - j) j = cnG M nk 0 → WP l (rmD 5 0 0) X sgX8_cannot kX8_cannot (zA S M (.int (cnG M nk 0))) 4 [some (.ref 27), some (.int (nI j))] [] (mk S (sc M z)) 0 0 := by
    refine down (fun e => ?_) (fun j hj ih e => ?_)
    · rw [Nat.sub_self] at e
      refine run_sound okX8_cannot (fun i => Nat.beq i 4) 100 (brT ?_ ⟨⟨z, hz, rfl⟩, some_int e⟩)
      show M.1 3 ≤ nI nk
      rw [h3]; exact Int32.le_refl _
    · rw [show nk - j = (nk - (j + 1)) + 1 by omega, cnG] at e
      have hw : AnsL l 3 X sgX8_worldsOf [.ref 27, .int (nI j + Int32.ofInt 1)] (mk S (sc M z)) (woT M (j + 1)) := by
        rw [show nI j + Int32.ofInt 1 = nI (j + 1) from nI_1 j, ← woT_sc z]
        exact g_worldsOf (h.sc hz) hzm hj
      refine run_sound okX8_cannot (fun i => Nat.beq i 4) 100 (brF ?_ (kH hw (by decide) (brC (fun q => ?_) (fun q => ?_))))
      · show ¬ M.1 3 ≤ nI j
        rw [h3]; exact nI_ge hj (by omega)
      · rw [if_pos (show woT M (j + 1) = 0 from q)] at e
        exact ⟨⟨z, hz, rfl⟩, some_int e⟩
      · rw [if_neg (show ¬ woT M (j + 1) = 0 from q)] at e
        have ih := ih e
        rw [← nI_1 j] at ih
        exact ih
  exact key 0 (Nat.zero_le _) rfl
/-- the row of what fits holds it -/
def Ft (M : MS) (nk : Nat) : Prop := ∀ k, k < nk → M.2.2.2.getD k 0 = fsT M k
theorem fsT_sc (z : SZ) (k : Nat) : fsT (sc M z) k = fsT M k := fitT_sc z _ _ _ _
set_option maxRecDepth 100000 in
set_option maxHeartbeats 1000000 in
theorem g_findsFitting (h : MInv M nt ns nk) : Ctr l 5 X sgX8_findsFitting [.ref 27] (mk S M) (fun hp w => (∃ z, ScOk z ∧ Mt (sc M z) nt ∧ Ft (sc M z) nk ∧ hp = mk S (sc M z)) ∧ w = none) := by
  obtain ⟨h3, h12⟩ := h.2.2.2.2.1
  refine Ctr.of okX8_findsFitting rfl (Nat.le_of_ble_eq_true rfl) (run_sound okX8_findsFitting (fun i => Nat.beq i 4) 100 ⟨4, _, by decide, g_reads h, ?_⟩)
  rintro hp' w ⟨⟨z, hz, hzm, rfl⟩, rfl⟩
  have key : ∀ j, j ≤ nk → ∀ z : SZ, ScOk z → Mt (sc M z) nt → (∀ k, k < j → z.2.2.2.1.getD k 0 = fsT M k) → WP l (rmD 5 0 0) X sgX8_findsFitting kX8_findsFitting (fun hp w => (∃ z, ScOk z ∧ Mt (sc M z) nt ∧ Ft (sc M z) nk ∧ hp = mk S (sc M z)) ∧ w = none) 4 [some (.ref 27), some (.int (nI j))] [] (mk S (sc M z)) 0 0 := by
    refine down (fun z hz hzm hf => ?_) (fun j hj ih z hz hzm hf => ?_)
    · refine run_sound okX8_findsFitting (fun i => Nat.beq i 4) 100 (brT ?_ ⟨rfl, ⟨z, hz, hzm, fun k hk => (hf k hk).trans (fsT_sc z k).symm, rfl⟩, rfl⟩)
      show M.1 3 ≤ nI nk
      rw [h3]; exact Int32.le_refl _
    · have hl : z.2.2.2.1.length = 12 := hz.2.2.2
      have hc : AnsL l 2 X sgX8_fitsSaying [.ref 27, .int (nI j)] (mk S (sc M z)) (fsT M j) := by
        rw [← fsT_sc z]
        exact g_fitsSaying (h.sc hz) hzm hj
      refine run_sound okX8_findsFitting (fun i => Nat.beq i 4) 100 (brF ?_ (kH hc (by decide) (Exists.intro _ (And.intro rfl (And.intro ?_ ?_)))))
      · show ¬ M.1 3 ≤ nI j
        rw [h3]; exact nI_ge hj (by omega)
      · show vp_in (nI j) z.2.2.2.1.length
        rw [hl]; exact vp_nI (by omega) (by decide)
      · have ih := ih (z.1, z.2.1, z.2.2.1, z.2.2.2.1.set (nI j).toNatClampNeg (fsT M j), z.2.2.2.2) ⟨hz.1, hz.2.1, hz.2.2.1, by simpa using hl⟩ (fun k hk => (hzm k hk).trans ((mtF_sc _ k).trans (mtF_sc _ k).symm)) (fun k hk => by
          show (z.2.2.2.1.set (nI j).toNatClampNeg (fsT M j)).getD k 0 = fsT M k
          rw [nI_clamp (by omega)]
          by_cases e : k = j
          · subst e
            rw [List.getD_eq_getElem?_getD, List.getElem?_set_self (by omega)]
            rfl
          · rw [List.getD_eq_getElem?_getD, List.getElem?_set_ne (fun q => e q.symm), ← List.getD_eq_getElem?_getD]
            exact hf k (by omega))
        rw [← nI_1 j] at ih
        exact ih
  exact key 0 (Nat.zero_le _) z hz hzm (fun k hk => absurd hk (Nat.not_lt_zero _))
def wiT (M : MS) (left : Int32) : Nat → Int64
  | 0 => woT M 0
  | k + 1 => wiT M left k &&& (if left >>> (nI k &&& 31) &&& 1 = 1 then ALLW else fsT M k)
theorem wiT_sc (z : SZ) (left : Int32) : ∀ k, wiT (sc M z) left k = wiT M left k
  | 0 => woT_sc z 0
  | k + 1 => by rw [wiT, wiT, wiT_sc z left k, fsT_sc]
set_option maxRecDepth 100000 in
theorem g_without (h : MInv M nt ns nk) (hm : Mt M nt) (hf : Ft M nk) (left : Int32) : AnsL l 1 X sgX8_without [.ref 27, .int left] (mk S M) (wiT M left nk) := by
  obtain ⟨h3, h12⟩ := h.2.2.2.2.1
  have l12 : M.2.2.2.length = 12 := h.1.z.2.2.2
  refine Ctr.of okX8_without rfl (Nat.le_of_ble_eq_true rfl) (run_sound okX8_without (fun i => Nat.beq i 7) 100 ?_)
  have key : ∀ j, j ≤ nk → WP l (rmD 1 0 0) X sgX8_without kX8_without (fun h w => h = mk S M ∧ w = some (.long (wiT M left nk))) 7 [some (.ref 27), some (.int left), some (.long (wiT M left j)), none, some (.int (nI j))] [] (mk S M) 0 0 := by
    refine down ?_ (fun j hj ih => ?_)
    · refine run_sound okX8_without (fun i => Nat.beq i 7) 100 (brT ?_ ⟨rfl, rfl, rfl⟩)
      show M.1 3 ≤ nI nk
      rw [h3]; exact Int32.le_refl _
    · refine run_sound okX8_without (fun i => Nat.beq i 7) 100 (brF ?_ (br (fun q => ?_) (fun q => Exists.intro _ (And.intro rfl (And.intro ?_ ?_)))))
      · show ¬ M.1 3 ≤ nI j
        rw [h3]; exact nI_ge hj (by omega)
      · rw [show wiT M left (j + 1) = wiT M left j &&& ALLW by rw [wiT, if_pos (show left >>> (nI j &&& 31) &&& 1 = 1 from q)], ← nI_1 j] at ih
        exact ih
      · show vp_in (nI j) M.2.2.2.length
        rw [l12]; exact vp_nI (by omega) (by decide)
      · have e : M.2.2.2.getD (nI j).toNatClampNeg 0 = fsT M j := by rw [nI_clamp (by omega)]; exact hf j hj
        rw [show wiT M left (j + 1) = wiT M left j &&& M.2.2.2.getD (nI j).toNatClampNeg 0 by rw [e, wiT, if_neg (show ¬ left >>> (nI j &&& 31) &&& 1 = 1 from q)], ← nI_1 j] at ih
        exact ih
  exact kH (g_law h hm) (by decide) (key 0 (Nat.zero_le _))
def liG (M : MS) (nk : Nat) : Nat → Int32
  | 0 => 0
  | k + 1 => if wiT M 0 nk = 0 then liG M nk k ||| (if ¬ wiT M ((1 : Int32) <<< (nI k &&& 31)) nk = 0 then (1 : Int32) <<< (nI k &&& 31) else 0) else liG M nk k
theorem liG_no (h : ¬ wiT M 0 nk = 0) : ∀ k, liG M nk k = 0
  | 0 => rfl
  | k + 1 => by rw [liG, if_neg h, liG_no h k]
set_option maxRecDepth 100000 in
set_option maxHeartbeats 1000000 in
theorem g_lies (h : MInv M nt ns nk) : Ctr l 6 X sgX8_lies [.ref 27] (mk S M) (zA S M (.int (liG M nk nk))) := by
  obtain ⟨h3, h12⟩ := h.2.2.2.2.1
  refine Ctr.of okX8_lies rfl (Nat.le_of_ble_eq_true rfl) (run_sound okX8_lies (fun i => Nat.beq i 6) 100 ⟨5, _, by decide, g_findsFitting h, ?_⟩)
  rintro hp' w ⟨⟨z, hz, hzm, hzf, rfl⟩, rfl⟩
  have hw : ∀ left, AnsL l 1 X sgX8_without [.ref 27, .int left] (mk S (sc M z)) (wiT M left nk) := fun left => by
    rw [← wiT_sc z]
    exact g_without (h.sc hz) hzm hzf left
  have key : ∀ j, j ≤ nk → WP l (rmD 6 0 0) X sgX8_lies kX8_lies (zA S M (.int (liG M nk nk))) 6 [some (.ref 27), some (.int (liG M nk j)), some (.int (nI j))] [] (mk S (sc M z)) 0 0 := by
    refine down ?_ (fun j hj ih => ?_)
    · refine run_sound okX8_lies (fun i => Nat.beq i 6) 100 (brT ?_ ⟨⟨z, hz, rfl⟩, rfl⟩)
      show M.1 3 ≤ nI nk
      rw [h3]; exact Int32.le_refl _
    · refine run_sound okX8_lies (fun i => Nat.beq i 6) 100 (brF ?_ (kH (hw 0) (by decide) (brC (fun q => kH (hw _) (by decide) (brC (fun q2 => ?_) (fun q2 => ?_))) (fun q => ⟨⟨z, hz, rfl⟩, some_int ?_⟩))))
      · show ¬ M.1 3 ≤ nI j
        rw [h3]; exact nI_ge hj (by omega)
      · rw [show liG M nk (j + 1) = liG M nk j ||| 0 by rw [liG, if_pos (show wiT M 0 nk = 0 from q), if_neg (fun z => z (show wiT M ((1 : Int32) <<< (nI j &&& 31)) nk = 0 from q2))], ← nI_1 j] at ih
        exact ih
      · rw [show liG M nk (j + 1) = liG M nk j ||| ((1 : Int32) <<< (nI j &&& 31)) by rw [liG, if_pos (show wiT M 0 nk = 0 from q), if_pos (show ¬ wiT M ((1 : Int32) <<< (nI j &&& 31)) nk = 0 from q2)], ← nI_1 j] at ih
        exact ih
      · rw [liG_no q, liG_no q]
  exact key 0 (Nat.zero_le _)
/-- the fewest bits of those that can be, the least as a number -/
def beB (P : Int32 → Bool) : Nat → Int32
  | 0 => -1
  | n + 1 => if (beB P n = -1 ∨ cntF (nI n).toInt64 32 < cntF (beB P n).toInt64 32) ∧ P (nI n) = true then nI n else beB P n
def beO (P : Int32 → Bool) (n : Nat) (what : Int32) : Int32 := if what = 1 ∨ beB P n = -1 then beB P n else cntF (beB P n).toInt64 32
def leG (M : MS) (nk : Nat) (what : Int32) : Int32 := if p1P what then beO (fun left => decide (¬ wiT M left nk = 0)) (2 ^ nk) what else -2
theorem shl_nk {n : Nat} (h : n ≤ 12) : (1 : Int32) <<< (nI n &&& 31) = nI (2 ^ n) := by
  have a : ∀ n : Fin 13, (1 : Int32) <<< (nI n.val &&& 31) = nI (2 ^ n.val) := by decide +kernel
  exact a ⟨n, by omega⟩
theorem pw_nk {n : Nat} (h : n ≤ 12) : 2 ^ n < 2 ^ 31 := Nat.pow_lt_pow_right (by decide) (by omega)
def cNle (i : Nat) : Bool := Nat.beq i 13 || Nat.beq i 32
set_option maxRecDepth 100000 in
set_option maxHeartbeats 1000000 in
theorem g_least (h : MInv M nt ns nk) (what : Int32) : Ctr l 6 X sgX8_least [.ref 27, .int what] (mk S M) (zA S M (.int (leG M nk what))) := by
  obtain ⟨h3, h12⟩ := h.2.2.2.2.1
  refine Ctr.of okX8_least rfl (Nat.le_of_ble_eq_true rfl) (run_sound okX8_least cNle 200 ?_)
  refine kH (m_in _ _ _) (by decide) (brB' (fun q => zI h.1 (if_neg q).symm) (fun q => ⟨5, _, by decide, g_findsFitting h, ?_⟩))
  rw [show leG M nk what = beO (fun left => decide (¬ wiT M left nk = 0)) (2 ^ nk) what from if_pos q]
  rintro hp' w ⟨⟨z, hz, hzm, hzf, rfl⟩, rfl⟩
  have hw : ∀ left, AnsL l 1 X sgX8_without [.ref 27, .int left] (mk S (sc M z)) (wiT M left nk) := fun left => by
    rw [← wiT_sc z]
    exact g_without (h.sc hz) hzm hzf left
  obtain ⟨P, hP⟩ : ∃ P : Int32 → Bool, P = fun left => decide (¬ wiT M left nk = 0) := ⟨_, rfl⟩
  rw [← hP]
  have hPy : ∀ left, ¬ wiT M left nk = 0 → P left = true := fun left z => by rw [hP]; exact decide_eq_true z
  have hPn : ∀ left, wiT M left nk = 0 → ¬ P left = true := fun left z => by rw [hP]; exact fun y => of_decide_eq_true y z
  have hsh : (1 : Int32) <<< (M.1 3 &&& 31) = nI (2 ^ nk) := by rw [h3, shl_nk h12]
  have hpw := pw_nk h12
  generalize 2 ^ nk = N at hsh hpw ⊢
  have key : ∀ j, j ≤ N → ∀ x4, WP l (rmD 6 0 0) X sgX8_least kX8_least (zA S M (.int (beO P N what))) 13 [some (.ref 27), some (.int what), some (.int (beB P j)), some (.int (nI j)), x4] [] (mk S (sc M z)) 0 0 := by
    refine down (fun x4 => ?_) (fun j hj ih x4 => ?_)
    · refine run_sound okX8_least cNle 200 (brT ?_ (br (fun p => ⟨⟨z, hz, rfl⟩, some_int (if_pos (Or.inl p)).symm⟩) (fun p => br (fun p2 => ⟨⟨z, hz, rfl⟩, some_int (if_pos (Or.inr p2)).symm⟩) (fun p2 => kH (m_bitsOf _) (by decide) ⟨⟨z, hz, rfl⟩, some_int (if_neg (fun y => y.elim p p2)).symm⟩))))
      show (1 : Int32) <<< (M.1 3 &&& 31) ≤ nI N
      rw [hsh]; exact Int32.le_refl _
    · have t32 : ∀ v : Int32, (v = 1 ∧ (beB P j = -1 ∨ cntF (nI j).toInt64 32 < cntF (beB P j).toInt64 32)) ∨ (v = 0 ∧ ¬ (beB P j = -1 ∨ cntF (nI j).toInt64 32 < cntF (beB P j).toInt64 32)) → WP l (rmD 6 0 0) X sgX8_least kX8_least (zA S M (.int (beO P N what))) 32 [some (.ref 27), some (.int what), some (.int (beB P j)), some (.int (nI j)), x4] [.int v] (mk S (sc M z)) 0 0 := by
        intro v hv
        rcases hv with ⟨rfl, hf⟩ | ⟨rfl, hf⟩
        · refine run_sound okX8_least (fun i => Nat.beq i 13) 200 (brF (by decide) (kH (hw _) (by decide) (brC (fun p => ?_) (fun p => ?_))))
          · have ih := ih (some (.int 1))
            rw [show beB P (j + 1) = beB P j by rw [beB, if_neg (fun y => hPn _ p y.2)], ← nI_1 j] at ih
            exact ih
          · have ih := ih (some (.int 1))
            rw [show beB P (j + 1) = nI j by rw [beB, if_pos ⟨hf, hPy _ p⟩], ← nI_1 j] at ih
            exact ih
        · have ih := ih (some (.int 0))
          rw [show beB P (j + 1) = beB P j by rw [beB, if_neg (fun y => hf y.1)], ← nI_1 j] at ih
          exact run_sound okX8_least (fun i => Nat.beq i 13) 200 (brT rfl ih)
      refine run_sound okX8_least cNle 200 (brF ?_ (br (fun p => t32 1 (Or.inl ⟨rfl, Or.inl p⟩)) (fun p => kH (m_bitsOf _) (by decide) (kH (m_bitsOf _) (by decide) (br (fun p2 => t32 0 (Or.inr ⟨rfl, fun y => y.elim p (fun y => absurd y (Int32.not_lt.mpr p2))⟩)) (fun p2 => t32 1 (Or.inl ⟨rfl, Or.inr (Int32.not_le.mp p2)⟩)))))))
      show ¬ (1 : Int32) <<< (M.1 3 &&& 31) ≤ nI j
      rw [hsh]; exact nI_ge hj hpw
  exact key 0 (Nat.zero_le _) none
end MWOR
