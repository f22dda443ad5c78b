/-! THE REFERENCE in general: bits of worlds, strangers, copies -/
section MSTR
variable {l : Launch} {X : List (List Int32)} {S : CS} {M : MS} {hp : AH} {nt ns nk : Nat}
theorem sh_w : ∀ w : Fin 32, ((nI w.val).toInt64 &&& 63).toBitVec.smod 64 = BitVec.ofNat 64 w.val := by decide +kernel
theorem one_bit (x : BitVec 64) : x &&& 1#64 = 1#64 ↔ x.getLsbD 0 = true := by
  constructor
  · intro h
    have z := congrArg (fun q : BitVec 64 => q.getLsbD 0) h
    simpa using z
  · intro h
    apply BitVec.eq_of_getLsbD_eq
    intro i hi
    by_cases e : i = 0
    · subst e
      simp [h]
    · simp [e]
theorem hs_bit {s : Int64} {w : Nat} (hw : w < 32) : hsP s (nI w) ↔ s.toBitVec.getLsbD w = true := by
  unfold hsP
  rw [← Int64.toBitVec_inj, Int64.toBitVec_and, Int64.toBitVec_shiftRight, sh_w ⟨w, hw⟩]
  show (s.toBitVec.sshiftRight' (BitVec.ofNat 64 w)) &&& 1#64 = 1#64 ↔ _
  rw [one_bit]
  show (s.toBitVec.sshiftRight (BitVec.ofNat 64 w).toNat).getLsbD 0 = true ↔ _
  rw [BitVec.getLsbD_sshiftRight]
  have e : (BitVec.ofNat 64 w).toNat = w := by simp; omega
  rw [e, if_pos (by omega)]
  simp
/-- a set of worlds has no bits above -/
def Lo (s : Int64) : Prop := ∀ i, 32 ≤ i → s.toBitVec.getLsbD i = false
theorem Lo.or {a b : Int64} (ha : Lo a) (hb : Lo b) : Lo (a ||| b) := fun i hi => by rw [Int64.toBitVec_or, BitVec.getLsbD_or, ha i hi, hb i hi]; rfl
theorem Lo.and {a b : Int64} (ha : Lo a) : Lo (a &&& b) := fun i hi => by rw [Int64.toBitVec_and, BitVec.getLsbD_and, ha i hi]; rfl
theorem Lo.zero : Lo 0 := fun i _ => by show (0#64).getLsbD i = false; simp
theorem sh_lo : ∀ w : Fin 32, ∀ i : Fin 64, 32 ≤ i.val → ((1 : Int64) <<< ((nI w.val).toInt64 &&& 63)).toBitVec.getLsbD i.val = false := by decide +kernel
theorem Lo.one {w : Nat} (hw : w < 32) : Lo ((1 : Int64) <<< ((nI w).toInt64 &&& 63)) := fun i hi => by
  by_cases h : i < 64
  · exact sh_lo ⟨w, hw⟩ ⟨i, h⟩ hi
  · exact BitVec.getLsbD_of_ge _ _ (by omega)
theorem soF_lo (p t : Nat) (who : Int32) : ∀ n, n ≤ 32 → Lo (soF M p t who n)
  | 0, _ => Lo.zero
  | n + 1, h => by
    rw [soF]
    refine Lo.or (soF_lo p t who n (by omega)) ?_
    split
    · exact Lo.one (by omega)
    · exact Lo.zero
theorem woT_lo : ∀ n, Lo (woT M n)
  | 0 => soF_lo _ _ _ 32 (by decide)
  | n + 1 => Lo.and (woT_lo n)
theorem lo_some {s : Int64} (h : Lo s) (hn : ¬ s = 0) : ∃ w, w < 32 ∧ hsP s (nI w) := by
  by_cases e : ∃ w, w < 32 ∧ hsP s (nI w)
  · exact e
  · exfalso
    apply hn
    rw [← Int64.toBitVec_inj]
    apply BitVec.eq_of_getLsbD_eq
    intro i _
    show s.toBitVec.getLsbD i = (0#64).getLsbD i
    by_cases hi : i < 32
    · have : ¬ s.toBitVec.getLsbD i = true := fun z => e ⟨i, hi, (hs_bit hi).mpr z⟩
      simpa using this
    · rw [h i (by omega)]
      simp
def cnN (s : Int64) : Nat → Nat
  | 0 => 0
  | w + 1 => cnN s w + if hsP s (nI w) then 1 else 0
theorem cnN_le (s : Int64) : ∀ n, cnN s n ≤ n
  | 0 => Nat.le_refl _
  | n + 1 => by
    have := cnN_le s n
    rw [cnN]
    split <;> omega
theorem cnt_N (s : Int64) : ∀ n, cntF s n = nI (cnN s n)
  | 0 => rfl
  | n + 1 => by
    rw [cntF, cnN, cnt_N s n, ← nI_add]
    congr 1
    by_cases h : hsP s (nI n)
    · rw [if_pos h]; exact bI_t h
    · rw [if_neg h]; exact bI_f h
theorem cnN_pos {s : Int64} {w : Nat} (h : hsP s (nI w)) : ∀ n, w < n → 0 < cnN s n := by
  intro n
  induction n with
  | zero => intro h0; omega
  | succ n ih =>
    intro h0
    rw [cnN]
    by_cases e : w = n
    · subst e; rw [if_pos h]; omega
    · have := ih (by omega); omega
theorem cnt_ne {s : Int64} (h : Lo s) (hn : ¬ s = 0) : ¬ (cntF s 32).toInt64 = 0 := by
  obtain ⟨w, hw, hb⟩ := lo_some h hn
  have h1 := cnN_pos hb 32 hw
  have h2 := cnN_le s 32
  rw [cnt_N]
  have a : ∀ n : Fin 33, 0 < n.val → ¬ (nI n.val).toInt64 = 0 := by decide
  exact a ⟨cnN s 32, by omega⟩ h1
/-- the best question is one -/
theorem qsT_some (left : Int64) (n : Int32) (hnt : 0 < nt) : ∀ k, 0 < k → ∃ j, j < k ∧ (qsT M left n nt k).1 = Int32.ofInt 10 * nI (j / nt) + nI (j % nt) := by
  intro k
  induction k with
  | zero => intro h; omega
  | succ k ih =>
    intro _
    rw [qsT]
    unfold qsS
    by_cases e : k = 0
    · subst e
      rw [if_pos (show (qsT M left n nt 0).1 = -1 ∨ _ from Or.inl rfl), if_pos (show (qsT M left n nt 0).1 = -1 ∨ _ from Or.inl rfl)]
      exact ⟨0, by omega, rfl⟩
    · obtain ⟨j, hj, ej⟩ := ih (by omega)
      split
      · split
        · exact ⟨k, by omega, rfl⟩
        · exact ⟨j, by omega, ej⟩
      · exact ⟨j, by omega, ej⟩
theorem ten : ∀ s : Fin 5, ∀ t : Fin 6, (Int32.ofInt 10 * nI s.val + nI t.val) / Int32.ofInt 10 = nI s.val ∧ (Int32.ofInt 10 * nI s.val + nI t.val) - (Int32.ofInt 10 * nI s.val + nI t.val) / Int32.ofInt 10 * Int32.ofInt 10 = nI t.val := by decide +kernel
def loN (x : Int64) : Int64 := x * 48271 - x * 48271 / 2147483647 * 2147483647
def agF (M : MS) (nt ns nk : Nat) (right : Int32) : Nat → Nat → Int64 → Int64 → Nat
  | 0, i, _, _ => i
  | m + 1, i, left, lot =>
    if cntF left 32 ≤ 1 then i else if ns = 0 then i else
    let q := (qsT M left (nI nk + nI i) nt (ns * nt)).1
    let a := fitT M (q / 10).toNatClampNeg (q - q / 10 * 10).toNatClampNeg 0 (nI nk + nI i)
    let b := fitT M (q / 10).toNatClampNeg (q - q / 10 * 10).toNatClampNeg 1 (nI nk + nI i)
    agF M nt ns nk right m (i + 1) (left &&& (if hsP a right ∧ (¬ hsP b right ∨ loN lot - loN lot / 2 * 2 = 0) then a else if hsP b right then b else ALLW)) (loN lot)
def agA (M : MS) (nt ns nk : Nat) (all : Int64) (seed : Int32) : Nat := agF M nt ns nk (waF all 32 0 (loN (seed.toInt64 + 1) - loN (seed.toInt64 + 1) / (cntF all 32).toInt64 * (cntF all 32).toInt64).toInt32) 6 0 all (loN (seed.toInt64 + 1))
theorem agF_le (right : Int32) : ∀ m i left lot, agF M nt ns nk right m i left lot ≤ i + m
  | 0, i, _, _ => Nat.le_refl _
  | m + 1, i, left, lot => by
    rw [agF]
    split
    · omega
    · split
      · omega
      · refine Nat.le_trans (agF_le right m (i + 1) _ _) ?_
        omega
def cNag (i : Nat) : Bool := Nat.beq i 22 || Nat.beq i 94 || Nat.beq i 107
set_option maxRecDepth 100000 in
set_option maxHeartbeats 4000000 in
theorem g_asksBy (h : MInv M nt ns nk) {z : SZ} (hz : ScOk z) (hzm : Mt (sc M z) nt) {all : Int64} (hal : ¬ (cntF all 32).toInt64 = 0) (seed : Int32) : Ctr l 4 X sgX8_asksBy [.ref 27, .long all, .int seed] (mk S (sc M z)) (nowQ S M nt (some (.int (nI (agA M nt ns nk all seed))))) := by
  obtain ⟨h3, h12⟩ := h.2.2.2.2.1
  obtain ⟨h0, h5⟩ := h.2.2.2.1
  obtain ⟨h9, h1, h6⟩ := h.2.2.1
  refine Ctr.of okX8_asksBy rfl (Nat.le_of_ble_eq_true rfl) (run_sound okX8_asksBy cNag 300 ?_)
  obtain ⟨cb, hcb⟩ : ∃ cb, cntF all 32 = cb := ⟨_, rfl⟩
  have hbc : Ans l 1 X sgX8_bitsOf [.long all] (mk S (sc M z)) cb := by rw [← hcb]; exact m_bitsOf _
  unfold agA
  rw [hcb] at hal ⊢
  obtain ⟨right, hri⟩ : ∃ right, waF all 32 0 (loN (seed.toInt64 + 1) - loN (seed.toInt64 + 1) / cb.toInt64 * cb.toInt64).toInt32 = right := ⟨_, rfl⟩
  rw [hri]
  have hwa : Ans l 1 X sgX8_worldAt [.long all, .int (loN (seed.toInt64 + 1) - loN (seed.toInt64 + 1) / cb.toInt64 * cb.toInt64).toInt32] (mk S (sc M z)) right := by rw [← hri]; exact m_worldAt _ _
  obtain ⟨V, hV⟩ : ∃ V, agF M nt ns nk right 6 0 all (loN (seed.toInt64 + 1)) = V := ⟨_, rfl⟩
  rw [hV]
  have key : ∀ i, i ≤ 6 → ∀ (z : SZ), ScOk z → Mt (sc M z) nt → ∀ left lot, agF M nt ns nk right (6 - i) i left lot = V → ∀ x10 x11 x12 x13 x14, (x11 = none ∧ x13 = none) → WP l (rmD 4 0 0) X sgX8_asksBy kX8_asksBy (nowQ S M nt (some (.int (nI V)))) 22 [some (.ref 27), some (.long all), none, some (.int seed), some (.long lot), none, some (.int right), some (.long left), none, some (.int (nI i)), x10, x11, x12, x13, x14] [] (mk S (sc M z)) 0 0 := by
    refine down (fun z hz hzm left lot e x10 x11 x12 x13 x14 hx => ?_) (fun i hi ih z hz hzm left lot e x10 x11 x12 x13 x14 hx => ?_)
    · rw [Nat.sub_self] at e
      have e : 6 = V := e
      exact run_sound okX8_asksBy cNag 300 (kH (m_bitsOf _) (by decide) (br (fun _ => ⟨⟨z, hz, hzm, rfl⟩, some_int (by rw [e])⟩) (fun _ => brT (Int32.le_refl _) ⟨⟨z, hz, hzm, rfl⟩, some_int (by rw [e])⟩)))
    · rw [show 6 - i = (6 - (i + 1)) + 1 by omega, agF] at e
      refine run_sound okX8_asksBy cNag 300 (kH (m_bitsOf _) (by decide) (br (fun p => ⟨⟨z, hz, hzm, rfl⟩, some_int ?_⟩) (fun p => brF (nI_ge (b := 6) hi (by decide)) (br (fun p2 => ⟨⟨z, hz, hzm, rfl⟩, some_int ?_⟩) (fun p2 => ?_)))))
      · rw [if_pos (show cntF left 32 ≤ 1 from p)] at e
        rw [e]
      · rw [if_neg (show ¬ cntF left 32 ≤ 1 from p)] at e
        have p2 : M.1 0 ≤ 0 := p2
        rw [h0] at p2
        have hns : ns = 0 := by
          by_cases y : ns = 0
          · exact y
          · exact absurd p2 (nI_nle (by omega) (by omega))
        rw [if_pos hns] at e
        rw [e]
      · rw [if_neg (show ¬ cntF left 32 ≤ 1 from p)] at e
        have p2 : ¬ M.1 0 ≤ 0 := p2
        rw [h0] at p2
        have hns : ¬ ns = 0 := fun y => p2 (by rw [y]; exact Int32.le_refl _)
        rw [if_neg hns] at e
        have hnn : 0 < ns * nt := Nat.mul_pos (by omega) (by omega)
        have hfq : Ctr l 3 X sgX8_findsQuestion [.ref 27, .long left, .int (M.1 3 + nI i)] (mk S (sc M z)) (qsQ S (sc M z) nt (qsT M left (nI nk + nI i) nt (ns * nt))) := by
          rw [h3, ← qsT_sc z]
          exact g_findsQuestion (h.sc hz) hzm _ _
        obtain ⟨j, hj, ej⟩ := qsT_some (M := M) left (nI nk + nI i) (show 0 < nt by omega) (ns * nt) hnn
        have hjt : j % nt < nt := Nat.mod_lt _ (by omega)
        have hjs : j / nt < ns := Nat.div_lt_of_lt_mul (by rw [Nat.mul_comm]; exact hj)
        have t10 := ten ⟨j / nt, by omega⟩ ⟨j % nt, by omega⟩
        obtain ⟨Q, hQ⟩ : ∃ Q, qsT M left (nI nk + nI i) nt (ns * nt) = Q := ⟨_, rfl⟩
        rw [hQ] at hfq ej e
        have d1 : Q.1 / Int32.ofInt 10 = nI (j / nt) := by rw [ej]; exact t10.1
        have d2 : Q.1 - Q.1 / Int32.ofInt 10 * Int32.ofInt 10 = nI (j % nt) := by rw [ej]; exact t10.2
        have n1 : (Q.1 / 10).toNatClampNeg = j / nt := by rw [show Q.1 / 10 = nI (j / nt) from d1, nI_clamp (by omega)]
        have n2 : (Q.1 - Q.1 / 10 * 10).toNatClampNeg = j % nt := by rw [show Q.1 - Q.1 / 10 * 10 = nI (j % nt) from d2, nI_clamp (by omega)]
        dsimp only at e
        rw [n1, n2] at e
        refine ⟨3, _, by decide, hfq, ?_⟩
        rintro hp' w ⟨⟨z', hz', hzm', hq', rfl⟩, rfl⟩
        have hzm' := mt_sc (M := M) hzm'
        obtain ⟨z1, z2, z3, z4, b1, b2, b3⟩ := z'
        have hq' : (b1, b2, b3) = Q := hq'
        subst hq'
        have cf : ∀ u : Nat, u < 2 → AnsL l 1 X sgX8_fits [.ref 27, .int (b1 / Int32.ofInt 10), .int (b1 - b1 / Int32.ofInt 10 * Int32.ofInt 10), .int (nI u), .int (M.1 3 + nI i)] (mk S (sc M (z1, z2, z3, z4, b1, b2, b3))) (fitT M (j / nt) (j % nt) u (nI nk + nI i)) := by
          intro u hu
          have d1 : b1 / Int32.ofInt 10 = nI (j / nt) := d1
          have d2 : b1 - b1 / Int32.ofInt 10 * Int32.ofInt 10 = nI (j % nt) := d2
          rw [d2, d1, h3, ← fitT_sc (z1, z2, z3, z4, b1, b2, b3)]
          exact g_fits (h.sc hz') hzm' (by omega) hjt hu _
        have c0 := cf 0 (by decide)
        have c1 := cf 1 (by decide)
        clear cf
        generalize fitT M (j / nt) (j % nt) 0 (nI nk + nI i) = fa at c0 e
        generalize fitT M (j / nt) (j % nt) 1 (nI nk + nI i) = fb at c1 e
        have t107 : ∀ x : Int64, x = (if hsP fa right ∧ (¬ hsP fb right ∨ loN lot - loN lot / 2 * 2 = 0) then fa else if hsP fb right then fb else ALLW) → ∀ x14, WP l (rmD 4 0 0) X sgX8_asksBy kX8_asksBy (nowQ S M nt (some (.int (nI V)))) 107 [some (.ref 27), some (.long all), none, some (.int seed), some (.long (loN lot)), none, some (.int right), some (.long left), none, some (.int (nI i)), some (.long fa), none, some (.long fb), none, x14] [.long x, .long left] (mk S (sc M (z1, z2, z3, z4, b1, b2, b3))) 0 0 := by
          intro x hx x14
          rw [← hx] at e
          have ih := ih (z1, z2, z3, z4, b1, b2, b3) hz' hzm' _ _ e (some (.long fa)) none (some (.long fb)) none x14 ⟨rfl, rfl⟩
          rw [← nI_1 i] at ih
          exact run_sound okX8_asksBy (fun i => Nat.beq i 22) 300 ih
        have t94 : ∀ v : Int32, (v = 1 ∧ (hsP fa right ∧ (¬ hsP fb right ∨ loN lot - loN lot / 2 * 2 = 0))) ∨ (v = 0 ∧ ¬ (hsP fa right ∧ (¬ hsP fb right ∨ loN lot - loN lot / 2 * 2 = 0))) → WP l (rmD 4 0 0) X sgX8_asksBy kX8_asksBy (nowQ S M nt (some (.int (nI V)))) 94 [some (.ref 27), some (.long all), none, some (.int seed), some (.long (loN lot)), none, some (.int right), some (.long left), none, some (.int (nI i)), some (.long fa), none, some (.long fb), none, x14] [.int v] (mk S (sc M (z1, z2, z3, z4, b1, b2, b3))) 0 0 := by
          intro v hv
          rcases hv with ⟨rfl, hf⟩ | ⟨rfl, hf⟩
          · exact run_sound okX8_asksBy (fun i => Nat.beq i 107) 300 (brF (by decide) (t107 _ (if_pos hf).symm _))
          · exact run_sound okX8_asksBy (fun i => Nat.beq i 107) 300 (brT rfl (kH (m_has _ _) (by decide) (brB' (fun y => t107 _ ((if_neg hf).trans (if_neg y)).symm _) (fun y => t107 _ ((if_neg hf).trans (if_pos y)).symm _))))
        obtain ⟨hx1, hx2⟩ := hx
        subst hx1
        subst hx2
        refine And.intro (by decide) (And.intro (by decide) (kH c0 (by decide) (And.intro (by decide) (And.intro (by decide) (kH c1 (by decide) (And.intro (by decide) ?_))))))
        refine kH (m_has _ _) (by decide) (brB' (fun y => t94 0 (Or.inr ⟨rfl, fun q => y q.1⟩)) (fun y => kH (m_has _ _) (by decide) (brB' (fun y2 => t94 1 (Or.inl ⟨rfl, y, Or.inl y2⟩)) (fun y2 => And.intro (by decide) (brC (fun y3 => t94 1 (Or.inl ⟨rfl, y, Or.inr y3⟩)) (fun y3 => t94 0 (Or.inr ⟨rfl, fun q => q.2.elim (fun q => q y2) (fun q => y3 q)⟩)))))))
  exact And.intro (by decide) (kH hbc (by decide) (And.intro hal (kH hwa (by decide) (key 0 (Nat.zero_le _) z hz hzm all _ hV none none none none none ⟨rfl, rfl⟩))))
end MSTR
