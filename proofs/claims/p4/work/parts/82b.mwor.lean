section MWORB
variable {l : Launch} {X : List (List Int32)} {S : CS} {M : MS} {hp : AH} {nt ns nk : Nat}
/-- the row of what fits holds it -/
def Ft (M : MS) (nk : Nat) : Prop := ∀ k, k < nk → M.2.2.2.getD k 0 = fsT M k
theorem fsT_sc (z : SZ) (k : Nat) : fsT (sc M z) k = fsT M k := fitT_sc z _ _ _ _
set_option maxRecDepth 100000 in
set_option maxHeartbeats 1000000 in
theorem g_findsFitting (h : MInv M nt ns nk) : Ctr l 5 X sgX8_findsFitting [.ref 27] (mk S M) (fun hp w => (∃ z, ScOk z ∧ Mt (sc M z) nt ∧ Ft (sc M z) nk ∧ hp = mk S (sc M z)) ∧ w = none) := by
  obtain ⟨h3, h12⟩ := h.2.2.2.2.1
  refine Ctr.of okX8_findsFitting rfl (Nat.le_of_ble_eq_true rfl) (run_sound okX8_findsFitting (fun i => Nat.beq i 4) 100 ⟨4, _, by decide, g_reads h, ?_⟩)
  rintro hp' w ⟨⟨z, hz, hzm, rfl⟩, rfl⟩
  have key : ∀ j, j ≤ nk → ∀ z : SZ, ScOk z → Mt (sc M z) nt → (∀ k, k < j → z.2.2.2.1.getD k 0 = fsT M k) → WP l (rmD 5 0 0) X sgX8_findsFitting kX8_findsFitting (fun hp w => (∃ z, ScOk z ∧ Mt (sc M z) nt ∧ Ft (sc M z) nk ∧ hp = mk S (sc M z)) ∧ w = none) 4 [some (.ref 27), some (.int (nI j))] [] (mk S (sc M z)) 0 0 := by
    refine down (fun z hz hzm hf => ?_) (fun j hj ih z hz hzm hf => ?_)
    · refine run_sound okX8_findsFitting (fun i => Nat.beq i 4) 100 (brT ?_ ⟨rfl, ⟨z, hz, hzm, fun k hk => (hf k hk).trans (fsT_sc z k).symm, rfl⟩, rfl⟩)
      show M.1 3 ≤ nI nk
      rw [h3]; exact Int32.le_refl _
    · have hl : z.2.2.2.1.length = 12 := hz.2.2.2
      have hc : AnsL l 2 X sgX8_fitsSaying [.ref 27, .int (nI j)] (mk S (sc M z)) (fsT M j) := by
        rw [← fsT_sc z]
        exact g_fitsSaying (h.sc hz) hzm hj
      refine run_sound okX8_findsFitting (fun i => Nat.beq i 4) 100 (brF ?_ (kH hc (by decide) (Exists.intro _ (And.intro rfl (And.intro ?_ ?_)))))
      · show ¬ M.1 3 ≤ nI j
        rw [h3]; exact nI_ge hj (by omega)
      · show vp_in (nI j) z.2.2.2.1.length
        rw [hl]; exact vp_nI (by omega) (by decide)
      · have ih := ih (z.1, z.2.1, z.2.2.1, z.2.2.2.1.set (nI j).toNatClampNeg (fsT M j), z.2.2.2.2) ⟨hz.1, hz.2.1, hz.2.2.1, by simpa using hl⟩ (fun k hk => (hzm k hk).trans ((mtF_sc _ k).trans (mtF_sc _ k).symm)) (fun k hk => by
          show (z.2.2.2.1.set (nI j).toNatClampNeg (fsT M j)).getD k 0 = fsT M k
          rw [nI_clamp (by omega)]
          by_cases e : k = j
          · subst e
            rw [List.getD_eq_getElem?_getD, List.getElem?_set_self (by omega)]
            rfl
          · rw [List.getD_eq_getElem?_getD, List.getElem?_set_ne (fun q => e q.symm), ← List.getD_eq_getElem?_getD]
            exact hf k (by omega))
        rw [← nI_1 j] at ih
        exact ih
  exact key 0 (Nat.zero_le _) z hz hzm (fun k hk => absurd hk (Nat.not_lt_zero _))
def wiT (M : MS) (left : Int32) : Nat → Int64
  | 0 => woT M 0
  | k + 1 => wiT M left k &&& (if left >>> (nI k &&& 31) &&& 1 = 1 then ALLW else fsT M k)
theorem wiT_sc (z : SZ) (left : Int32) : ∀ k, wiT (sc M z) left k = wiT M left k
  | 0 => woT_sc z 0
  | k + 1 => by rw [wiT, wiT, wiT_sc z left k, fsT_sc]
set_option maxRecDepth 100000 in
theorem g_without (h : MInv M nt ns nk) (hm : Mt M nt) (hf : Ft M nk) (left : Int32) : AnsL l 1 X sgX8_without [.ref 27, .int left] (mk S M) (wiT M left nk) := by
  obtain ⟨h3, h12⟩ := h.2.2.2.2.1
  have l12 : M.2.2.2.length = 12 := h.1.z.2.2.2
  refine Ctr.of okX8_without rfl (Nat.le_of_ble_eq_true rfl) (run_sound okX8_without (fun i => Nat.beq i 7) 100 ?_)
  have key : ∀ j, j ≤ nk → WP l (rmD 1 0 0) X sgX8_without kX8_without (fun h w => h = mk S M ∧ w = some (.long (wiT M left nk))) 7 [some (.ref 27), some (.int left), some (.long (wiT M left j)), none, some (.int (nI j))] [] (mk S M) 0 0 := by
    refine down ?_ (fun j hj ih => ?_)
    · refine run_sound okX8_without (fun i => Nat.beq i 7) 100 (brT ?_ ⟨rfl, rfl, rfl⟩)
      show M.1 3 ≤ nI nk
      rw [h3]; exact Int32.le_refl _
    · refine run_sound okX8_without (fun i => Nat.beq i 7) 100 (brF ?_ (br (fun q => ?_) (fun q => Exists.intro _ (And.intro rfl (And.intro ?_ ?_)))))
      · show ¬ M.1 3 ≤ nI j
        rw [h3]; exact nI_ge hj (by omega)
      · rw [show wiT M left (j + 1) = wiT M left j &&& ALLW by rw [wiT, if_pos (show left >>> (nI j &&& 31) &&& 1 = 1 from q)], ← nI_1 j] at ih
        exact ih
      · show vp_in (nI j) M.2.2.2.length
        rw [l12]; exact vp_nI (by omega) (by decide)
      · have e : M.2.2.2.getD (nI j).toNatClampNeg 0 = fsT M j := by rw [nI_clamp (by omega)]; exact hf j hj
        rw [show wiT M left (j + 1) = wiT M left j &&& M.2.2.2.getD (nI j).toNatClampNeg 0 by rw [e, wiT, if_neg (show ¬ left >>> (nI j &&& 31) &&& 1 = 1 from q)], ← nI_1 j] at ih
        exact ih
  exact kH (g_law h hm) (by decide) (key 0 (Nat.zero_le _))
def liG (M : MS) (nk : Nat) : Nat → Int32
  | 0 => 0
  | k + 1 => if wiT M 0 nk = 0 then liG M nk k ||| (if ¬ wiT M ((1 : Int32) <<< (nI k &&& 31)) nk = 0 then (1 : Int32) <<< (nI k &&& 31) else 0) else liG M nk k
theorem liG_no (h : ¬ wiT M 0 nk = 0) : ∀ k, liG M nk k = 0
  | 0 => rfl
  | k + 1 => by rw [liG, if_neg h, liG_no h k]
set_option maxRecDepth 100000 in
set_option maxHeartbeats 1000000 in
theorem g_lies (h : MInv M nt ns nk) : Ctr l 6 X sgX8_lies [.ref 27] (mk S M) (zA S M (.int (liG M nk nk))) := by
  obtain ⟨h3, h12⟩ := h.2.2.2.2.1
  refine Ctr.of okX8_lies rfl (Nat.le_of_ble_eq_true rfl) (run_sound okX8_lies (fun i => Nat.beq i 6) 100 ⟨5, _, by decide, g_findsFitting h, ?_⟩)
  rintro hp' w ⟨⟨z, hz, hzm, hzf, rfl⟩, rfl⟩
  have hw : ∀ left, AnsL l 1 X sgX8_without [.ref 27, .int left] (mk S (sc M z)) (wiT M left nk) := fun left => by
    rw [← wiT_sc z]
    exact g_without (h.sc hz) hzm hzf left
  have key : ∀ j, j ≤ nk → WP l (rmD 6 0 0) X sgX8_lies kX8_lies (zA S M (.int (liG M nk nk))) 6 [some (.ref 27), some (.int (liG M nk j)), some (.int (nI j))] [] (mk S (sc M z)) 0 0 := by
    refine down ?_ (fun j hj ih => ?_)
    · refine run_sound okX8_lies (fun i => Nat.beq i 6) 100 (brT ?_ ⟨⟨z, hz, rfl⟩, rfl⟩)
      show M.1 3 ≤ nI nk
      rw [h3]; exact Int32.le_refl _
    · refine run_sound okX8_lies (fun i => Nat.beq i 6) 100 (brF ?_ (kH (hw 0) (by decide) (brC (fun q => kH (hw _) (by decide) (brC (fun q2 => ?_) (fun q2 => ?_))) (fun q => ⟨⟨z, hz, rfl⟩, some_int ?_⟩))))
      · show ¬ M.1 3 ≤ nI j
        rw [h3]; exact nI_ge hj (by omega)
      · rw [show liG M nk (j + 1) = liG M nk j ||| 0 by rw [liG, if_pos (show wiT M 0 nk = 0 from q), if_neg (fun z => z (show wiT M ((1 : Int32) <<< (nI j &&& 31)) nk = 0 from q2))], ← nI_1 j] at ih
        exact ih
      · rw [show liG M nk (j + 1) = liG M nk j ||| ((1 : Int32) <<< (nI j &&& 31)) by rw [liG, if_pos (show wiT M 0 nk = 0 from q), if_pos (show ¬ wiT M ((1 : Int32) <<< (nI j &&& 31)) nk = 0 from q2)], ← nI_1 j] at ih
        exact ih
      · rw [liG_no q, liG_no q]
  exact key 0 (Nat.zero_le _)
end MWORB
