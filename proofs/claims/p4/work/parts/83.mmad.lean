/-! THE REFERENCE in general: mad ones, habits, kinds -/
section MMAD
variable {l : Launch} {X : List (List Int32)} {S : CS} {M : MS} {hp : AH} {nt ns nk : Nat}
/-- a saying's worlds, were its speaker of a kind -/
def asT (M : MS) (k : Nat) (kind : Int32) : Int64 := canL kind ((M.2.1 2).getD (tk M k 0) 0) (nI k) (mtF M (10 * tk M k 1 + 2 * tk M k 0 + tk M k 2)) (mtF M (10 * tk M k 1 + 2 * tk M k 0 + 1 - tk M k 2))
theorem asT_sc (z : SZ) (k : Nat) (kind : Int32) : asT (sc M z) k kind = asT M k kind := by
  unfold asT
  rw [mtF_sc, mtF_sc]
  rfl
abbrev mdP (M : MS) (a : Int32) (k : Nat) : Prop := a >>> (nI (tk M k 0) &&& 31) &&& 1 = 1
def mdT (M : MS) (a : Int32) : Nat → Int64
  | 0 => woT M 0
  | k + 1 => mdT M a k &&& asT M k (if mdP M a k then 4 else (M.2.1 1).getD (tk M k 0) 0)
theorem mdT_sc (z : SZ) (a : Int32) : ∀ k, mdT (sc M z) a k = mdT M a k
  | 0 => woT_sc z 0
  | k + 1 => by
    rw [mdT, mdT, mdT_sc z a k, asT_sc]
    rfl
def cNmd (i : Nat) : Bool := Nat.beq i 7 || Nat.beq i 28
set_option maxRecDepth 100000 in
set_option maxHeartbeats 1000000 in
theorem g_worldsMad (h : MInv M nt ns nk) (hm : Mt M nt) (a : Int32) : AnsL l 1 X sgX8_worldsMad [.ref 27, .int a] (mk S M) (mdT M a nk) := by
  obtain ⟨h3, h12⟩ := h.2.2.2.2.1
  obtain ⟨l1, l2, -⟩ := h.1
  refine Ctr.of okX8_worldsMad rfl (Nat.le_of_ble_eq_true rfl) (run_sound okX8_worldsMad cNmd 200 ?_)
  have key : ∀ j, j ≤ nk → ∀ x5 x6, WP l (rmD 1 0 0) X sgX8_worldsMad kX8_worldsMad (fun h w => h = mk S M ∧ w = some (.long (mdT M a nk))) 7 [some (.ref 27), some (.int a), some (.long (mdT M a j)), none, some (.int (nI j)), x5, x6] [] (mk S M) 0 0 := by
    refine down (fun x5 x6 => ?_) (fun j hj ih x5 x6 => ?_)
    · refine run_sound okX8_worldsMad cNmd 200 (brT ?_ ⟨rfl, rfl, rfl⟩)
      show M.1 3 ≤ nI nk
      rw [h3]; exact Int32.le_refl _
    · obtain ⟨e1, e2, e3, t1, t2, t3⟩ := tk_ok h hj
      have i0 : Int32.ofInt 3 * nI j = nI (3 * j + 0) := nI_mul 3 j
      have i1 : Int32.ofInt 3 * nI j + Int32.ofInt 1 = nI (3 * j + 1) := by rw [i0]; exact nI_1 _
      have i2 : Int32.ofInt 3 * nI j + Int32.ofInt 2 = nI (3 * j + 2) := by rw [i0]; exact nI_add _ 2
      have v0 : vp_in (Int32.ofInt 3 * nI j) (M.2.1 4).length := by rw [i0]; exact (ix_tk h hj (by decide)).1
      have v1 : vp_in (Int32.ofInt 3 * nI j + Int32.ofInt 1) (M.2.1 4).length := by rw [i1]; exact (ix_tk h hj (by decide)).1
      have v2 : vp_in (Int32.ofInt 3 * nI j + Int32.ofInt 2) (M.2.1 4).length := by rw [i2]; exact (ix_tk h hj (by decide)).1
      have g0 : (M.2.1 4).getD (Int32.ofInt 3 * nI j).toNatClampNeg 0 = nI (tk M j 0) := by rw [i0, (ix_tk h hj (show 0 < 3 by decide)).2, Nat.add_zero]; exact e1
      have g1 : (M.2.1 4).getD (Int32.ofInt 3 * nI j + Int32.ofInt 1).toNatClampNeg 0 = nI (tk M j 1) := by rw [i1, (ix_tk h hj (show 1 < 3 by decide)).2]; exact e2
      have g2 : (M.2.1 4).getD (Int32.ofInt 3 * nI j + Int32.ofInt 2).toNatClampNeg 0 = nI (tk M j 2) := by rw [i2, (ix_tk h hj (show 2 < 3 by decide)).2]; exact e3
      obtain ⟨s0, hs0⟩ : ∃ s0, (M.2.1 4).getD (Int32.ofInt 3 * nI j).toNatClampNeg 0 = s0 := ⟨_, rfl⟩
      have hs : s0 = nI (tk M j 0) := hs0.symm.trans g0
      have w1 : vp_in s0 (M.2.1 1).length := by rw [hs, l1]; exact vp_nI t1 (by decide)
      have w2 : vp_in s0 (M.2.1 2).length := by rw [hs, l2]; exact vp_nI t1 (by decide)
      have n1 : (M.2.1 1).getD s0.toNatClampNeg 0 = (M.2.1 1).getD (tk M j 0) 0 := by rw [hs, nI_clamp (by omega)]
      have n2 : (M.2.1 2).getD s0.toNatClampNeg 0 = (M.2.1 2).getD (tk M j 0) 0 := by rw [hs, nI_clamp (by omega)]
      have hk := h.2.2.2.2.2.2.1 (tk M j 0) t1
      have cc : ∀ kind, AnsL l 0 X sgX8_canSay [.ref 27, .int kind, .int ((M.2.1 2).getD s0.toNatClampNeg 0), .int s0, .int ((M.2.1 4).getD (Int32.ofInt 3 * nI j + Int32.ofInt 1).toNatClampNeg 0), .int ((M.2.1 4).getD (Int32.ofInt 3 * nI j + Int32.ofInt 2).toNatClampNeg 0), .int (nI j)] (mk S M) (asT M j kind) := by
        intro kind
        rw [n2, hs, g1, g2]
        exact g_canSay h hm kind _ (nI j) t1 t2 t3 hk.two
      have t28 : ∀ v : Int32, (v = 1 ∧ mdP M a j) ∨ (v = 0 ∧ ¬ mdP M a j) → WP l (rmD 1 0 0) X sgX8_worldsMad kX8_worldsMad (fun h w => h = mk S M ∧ w = some (.long (mdT M a nk))) 28 [some (.ref 27), some (.int a), some (.long (mdT M a j)), none, some (.int (nI j)), some (.int s0), x6] [.int v] (mk S M) 0 0 := by
        intro v hv
        rcases hv with ⟨rfl, hf⟩ | ⟨rfl, hf⟩
        · have ih := ih (some (.int s0)) (some (.int 1))
          rw [show mdT M a (j + 1) = mdT M a j &&& asT M j 4 by rw [mdT, if_pos hf], ← nI_1 j] at ih
          exact run_sound okX8_worldsMad (fun i => Nat.beq i 7) 200 (brF (by decide) (Exists.intro _ (And.intro rfl (And.intro w2 (Exists.intro _ (And.intro rfl (And.intro v1 (Exists.intro _ (And.intro rfl (And.intro v2 (kH (cc 4) (by decide) ih)))))))))))
        · have ih := ih (some (.int s0)) (some (.int 0))
          rw [show mdT M a (j + 1) = mdT M a j &&& asT M j ((M.2.1 1).getD s0.toNatClampNeg 0) by rw [n1, mdT, if_neg hf], ← nI_1 j] at ih
          exact run_sound okX8_worldsMad (fun i => Nat.beq i 7) 200 (brT rfl (Exists.intro _ (And.intro rfl (And.intro w1 (Exists.intro _ (And.intro rfl (And.intro w2 (Exists.intro _ (And.intro rfl (And.intro v1 (Exists.intro _ (And.intro rfl (And.intro v2 (kH (cc _) (by decide) ih))))))))))))))
      refine run_sound okX8_worldsMad cNmd 200 (brF ?_ (Exists.intro _ (And.intro rfl (And.intro v0 ?_))))
      · show ¬ M.1 3 ≤ nI j
        rw [h3]; exact nI_ge hj (by omega)
      · have tt := t28
        rw [← hs0] at tt
        have es : mdP M a j ↔ a >>> (s0 &&& 31) &&& 1 = 1 := by rw [hs]
        rw [← hs0] at es
        exact br (fun p => tt 1 (Or.inl ⟨rfl, es.mpr p⟩)) (fun p => tt 0 (Or.inr ⟨rfl, fun y => p (es.mp y)⟩))
  exact kH (g_law h hm) (by decide) (key 0 (Nat.zero_le _) none none)
def mdG (M : MS) (ns nk : Nat) (what : Int32) : Int32 := if p1P what then beO (fun a => decide (¬ mdT M a nk = 0)) (2 ^ ns) what else -2
set_option maxRecDepth 100000 in
set_option maxHeartbeats 1000000 in
theorem g_mad (h : MInv M nt ns nk) (what : Int32) : Ctr l 5 X sgX8_mad [.ref 27, .int what] (mk S M) (zA S M (.int (mdG M ns nk what))) := by
  obtain ⟨h0, h5⟩ := h.2.2.2.1
  have h12 : ns ≤ 12 := by omega
  refine Ctr.of okX8_mad rfl (Nat.le_of_ble_eq_true rfl) (run_sound okX8_mad cNle 200 ?_)
  refine kH (m_in _ _ _) (by decide) (brB' (fun q => zI h.1 (if_neg q).symm) (fun q => ⟨4, _, by decide, g_reads h, ?_⟩))
  rw [show mdG M ns nk what = beO (fun a => decide (¬ mdT M a nk = 0)) (2 ^ ns) what from if_pos q]
  rintro hp' w ⟨⟨z, hz, hzm, rfl⟩, rfl⟩
  have hw : ∀ a, AnsL l 1 X sgX8_worldsMad [.ref 27, .int a] (mk S (sc M z)) (mdT M a nk) := fun a => by
    rw [← mdT_sc z]
    exact g_worldsMad (h.sc hz) hzm a
  obtain ⟨P, hP⟩ : ∃ P : Int32 → Bool, P = fun a => decide (¬ mdT M a nk = 0) := ⟨_, rfl⟩
  rw [← hP]
  have hPy : ∀ a, ¬ mdT M a nk = 0 → P a = true := fun a z => by rw [hP]; exact decide_eq_true z
  have hPn : ∀ a, mdT M a nk = 0 → ¬ P a = true := fun a z => by rw [hP]; exact fun y => of_decide_eq_true y z
  have hsh : (1 : Int32) <<< (M.1 0 &&& 31) = nI (2 ^ ns) := by rw [h0, shl_nk h12]
  have hpw := pw_nk h12
  generalize 2 ^ ns = N at hsh hpw ⊢
  have key : ∀ j, j ≤ N → ∀ x4, WP l (rmD 5 0 0) X sgX8_mad kX8_mad (zA S M (.int (beO P N what))) 13 [some (.ref 27), some (.int what), some (.int (beB P j)), some (.int (nI j)), x4] [] (mk S (sc M z)) 0 0 := by
    refine down (fun x4 => ?_) (fun j hj ih x4 => ?_)
    · refine run_sound okX8_mad cNle 200 (brT ?_ (br (fun p => ⟨⟨z, hz, rfl⟩, some_int (if_pos (Or.inl p)).symm⟩) (fun p => br (fun p2 => ⟨⟨z, hz, rfl⟩, some_int (if_pos (Or.inr p2)).symm⟩) (fun p2 => kH (m_bitsOf _) (by decide) ⟨⟨z, hz, rfl⟩, some_int (if_neg (fun y => y.elim p p2)).symm⟩))))
      show (1 : Int32) <<< (M.1 0 &&& 31) ≤ nI N
      rw [hsh]; exact Int32.le_refl _
    · have t32 : ∀ v : Int32, (v = 1 ∧ (beB P j = -1 ∨ cntF (nI j).toInt64 32 < cntF (beB P j).toInt64 32)) ∨ (v = 0 ∧ ¬ (beB P j = -1 ∨ cntF (nI j).toInt64 32 < cntF (beB P j).toInt64 32)) → WP l (rmD 5 0 0) X sgX8_mad kX8_mad (zA S M (.int (beO P N what))) 32 [some (.ref 27), some (.int what), some (.int (beB P j)), some (.int (nI j)), x4] [.int v] (mk S (sc M z)) 0 0 := by
        intro v hv
        rcases hv with ⟨rfl, hf⟩ | ⟨rfl, hf⟩
        · refine run_sound okX8_mad (fun i => Nat.beq i 13) 200 (brF (by decide) (kH (hw _) (by decide) (brC (fun p => ?_) (fun p => ?_))))
          · have ih := ih (some (.int 1))
            rw [show beB P (j + 1) = beB P j by rw [beB, if_neg (fun y => hPn _ p y.2)], ← nI_1 j] at ih
            exact ih
          · have ih := ih (some (.int 1))
            rw [show beB P (j + 1) = nI j by rw [beB, if_pos ⟨hf, hPy _ p⟩], ← nI_1 j] at ih
            exact ih
        · have ih := ih (some (.int 0))
          rw [show beB P (j + 1) = beB P j by rw [beB, if_neg (fun y => hf y.1)], ← nI_1 j] at ih
          exact run_sound okX8_mad (fun i => Nat.beq i 13) 200 (brT rfl ih)
      refine run_sound okX8_mad cNle 200 (brF ?_ (br (fun p => t32 1 (Or.inl ⟨rfl, Or.inl p⟩)) (fun p => kH (m_bitsOf _) (by decide) (kH (m_bitsOf _) (by decide) (br (fun p2 => t32 0 (Or.inr ⟨rfl, fun y => y.elim p (fun y => absurd y (Int32.not_lt.mpr p2))⟩)) (fun p2 => t32 1 (Or.inl ⟨rfl, Or.inr (Int32.not_le.mp p2)⟩)))))))
      show ¬ (1 : Int32) <<< (M.1 0 &&& 31) ≤ nI j
      rw [hsh]; exact nI_ge hj hpw
  exact key 0 (Nat.zero_le _) none
end MMAD
