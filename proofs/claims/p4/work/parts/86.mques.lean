/-! THE REFERENCE in general: questions -/
section MQUES
variable {l : Launch} {X : List (List Int32)} {S : CS} {M : MS} {hp : AH} {nt ns nk : Nat}
def maxR (a b : Int32) : Int32 := if a ≤ b then b else a
def wsT (M : MS) (left : Int64) (s t : Nat) (n : Int32) : Int32 := maxR (cntF (left &&& fitT M s t 0 n) 32) (cntF (left &&& fitT M s t 1 n) 32)
theorem wsT_sc (z : SZ) (left : Int64) (s t : Nat) (n : Int32) : wsT (sc M z) left s t n = wsT M left s t n := by
  unfold wsT
  rw [fitT_sc, fitT_sc]
set_option maxRecDepth 100000 in
theorem g_worstOf (h : MInv M nt ns nk) (hm : Mt M nt) (left : Int64) {s t : Nat} (hs : s < 5) (ht : t < nt) (n : Int32) : Ans l 2 X sgX8_worstOf [.ref 27, .long left, .int (nI s), .int (nI t), .int n] (mk S M) (wsT M left s t n) := by
  have c0 : AnsL l 1 X sgX8_fits [.ref 27, .int (nI s), .int (nI t), .int 0, .int n] (mk S M) (fitT M s t 0 n) := g_fits h hm hs ht (u := 0) (by decide) n
  have c1 : AnsL l 1 X sgX8_fits [.ref 27, .int (nI s), .int (nI t), .int 1, .int n] (mk S M) (fitT M s t 1 n) := g_fits h hm hs ht (u := 1) (by decide) n
  obtain ⟨a, ha⟩ : ∃ a, cntF (left &&& fitT M s t 0 n) 32 = a := ⟨_, rfl⟩
  obtain ⟨b, hb⟩ : ∃ b, cntF (left &&& fitT M s t 1 n) 32 = b := ⟨_, rfl⟩
  have b0 : Ans l 1 X sgX8_bitsOf [.long (left &&& fitT M s t 0 n)] (mk S M) a := by rw [← ha]; exact m_bitsOf _
  have b1 : Ans l 1 X sgX8_bitsOf [.long (left &&& fitT M s t 1 n)] (mk S M) b := by rw [← hb]; exact m_bitsOf _
  rw [show wsT M left s t n = maxR a b by unfold wsT; rw [ha, hb]]
  refine Ctr.of okX8_worstOf rfl (Nat.le_of_ble_eq_true rfl) (run_sound okX8_worstOf noCut 100 ?_)
  exact kH c0 (by decide) (kH b0 (by decide) (kH c1 (by decide) (kH b1 (by decide) (br (fun p => ⟨rfl, some_int (if_pos p).symm⟩) (fun p => ⟨rfl, some_int (if_neg p).symm⟩)))))
abbrev QT : Type := Int32 × Int32 × Int32
def qsS (M : MS) (left : Int64) (n : Int32) (nt k : Nat) (Q : QT) : QT :=
  if Q.1 = -1 ∨ wsT M left (k / nt) (k % nt) n ≤ Q.2.1 then
    (if Q.1 = -1 ∨ wsT M left (k / nt) (k % nt) n < Q.2.1 ∨ saysF M 2 (k % nt) 0 (nI (k / nt)) < Q.2.2 then (Int32.ofInt 10 * nI (k / nt) + nI (k % nt), wsT M left (k / nt) (k % nt) n, saysF M 2 (k % nt) 0 (nI (k / nt))) else Q)
  else Q
def qsT (M : MS) (left : Int64) (n : Int32) (nt : Nat) : Nat → QT
  | 0 => (-1, -1, -1)
  | k + 1 => qsS M left n nt k (qsT M left n nt k)
abbrev qsQ (S : CS) (M : MS) (nt : Nat) (Q : QT) : AH → Option Value → Prop := fun h w => (∃ z, ScOk z ∧ Mt (sc M z) nt ∧ z.2.2.2.2 = Q ∧ h = mk S (sc M z)) ∧ w = none
theorem saysF_sc (z : SZ) (p t : Nat) (w who : Int32) : saysF (sc M z) p t w who = saysF M p t w who := rfl
def cNq (i : Nat) : Bool := Nat.beq i 11 || Nat.beq i 43 || Nat.beq i 65
set_option maxRecDepth 100000 in
set_option maxHeartbeats 4000000 in
theorem g_findsQuestion (h : MInv M nt ns nk) (hm : Mt M nt) (left : Int64) (n : Int32) : Ctr l 3 X sgX8_findsQuestion [.ref 27, .long left, .int n] (mk S M) (qsQ S M nt (qsT M left n nt (ns * nt))) := by
  obtain ⟨h0, h5⟩ := h.2.2.2.1
  obtain ⟨h9, h1, h6⟩ := h.2.2.1
  have hle : ns * nt ≤ 30 := Nat.le_trans (Nat.mul_le_mul h5 h6) (by decide)
  have hend : M.1 0 * M.1 9 = nI (ns * nt) := by rw [h0, h9, nI_mul]
  refine Ctr.of okX8_findsQuestion rfl (Nat.le_of_ble_eq_true rfl) (run_sound okX8_findsQuestion cNq 200 ?_)
  obtain ⟨W, hW⟩ : ∃ W, qsT M left n nt (ns * nt) = W := ⟨_, rfl⟩
  rw [hW]
  have key : ∀ k, k ≤ ns * nt → ∀ (z : SZ), ScOk z → Mt (sc M z) nt → z.2.2.2.2 = qsT M left n nt k → ∀ x5 x6 x7 x8 x9, WP l (rmD 3 0 0) X sgX8_findsQuestion kX8_findsQuestion (qsQ S M nt W) 11 [some (.ref 27), some (.long left), none, some (.int n), some (.int (nI k)), x5, x6, x7, x8, x9] [] (mk S (sc M z)) 0 0 := by
    refine down (fun z hz hzm hzq x5 x6 x7 x8 x9 => ?_) (fun k hk ih z hz hzm hzq x5 x6 x7 x8 x9 => ?_)
    · refine run_sound okX8_findsQuestion cNq 200 (brT ?_ ⟨rfl, ⟨z, hz, hzm, hzq.trans hW, rfl⟩, rfl⟩)
      show M.1 0 * M.1 9 ≤ nI (ns * nt)
      rw [hend]; exact Int32.le_refl _
    · have hkt : k % nt < nt := Nat.mod_lt _ (by omega)
      have hks : k / nt < ns := Nat.div_lt_of_lt_mul (by rw [Nat.mul_comm]; exact hk)
      have e1 : nI k / M.1 9 = nI (k / nt) := by rw [h9]; exact nI_div (by omega) (by omega) (by omega)
      have e2 : nI k - nI k / M.1 9 * M.1 9 = nI (k % nt) := by rw [h9]; exact nI_rem (by omega) (by omega) (by omega)
      have h90 : ¬ M.1 9 = 0 := by rw [h9]; exact nI_ne0 (by omega) (by omega)
      obtain ⟨w, hw⟩ : ∃ w, wsT M left (k / nt) (k % nt) n = w := ⟨_, rfl⟩
      obtain ⟨c, hc⟩ : ∃ c, saysF M 2 (k % nt) 0 (nI (k / nt)) = c := ⟨_, rfl⟩
      obtain ⟨Q, hQ⟩ : ∃ Q, qsT M left n nt k = Q := ⟨_, rfl⟩
      have hstep : qsT M left n nt (k + 1) = if Q.1 = -1 ∨ w ≤ Q.2.1 then (if Q.1 = -1 ∨ w < Q.2.1 ∨ c < Q.2.2 then (Int32.ofInt 10 * nI (k / nt) + nI (k % nt), w, c) else Q) else Q := by
        rw [qsT, hQ]
        unfold qsS
        rw [hw, hc]
      rw [hQ] at hzq
      obtain ⟨z1, z2, z3, z4, b1, b2, b3⟩ := z
      have hzq : (b1, b2, b3) = Q := hzq
      subst hzq
      have c1 : Ans l 2 X sgX8_worstOf [.ref 27, .long left, .int (nI k / M.1 9), .int (nI k - nI k / M.1 9 * M.1 9), .int n] (mk S (sc M (z1, z2, z3, z4, b1, b2, b3))) w := by
        rw [e2, e1, ← hw, ← wsT_sc (z1, z2, z3, z4, b1, b2, b3)]
        exact g_worstOf (h.sc hz) hzm left (by omega) hkt n
      have c2 : Ctr l 2 X sgX8_saysOf [.ref 27, .int 2, .int (nI k - nI k / M.1 9 * M.1 9), .int 0, .int (nI k / M.1 9)] (mk S (sc M (z1, z2, z3, z4, b1, b2, b3))) (zR S (sc M (z1, z2, z3, z4, b1, b2, b3)) c) := by
        rw [e2, e1, ← hc, ← saysF_sc (z1, z2, z3, z4, b1, b2, b3)]
        exact m_saysOf (M := sc M (z1, z2, z3, z4, b1, b2, b3)) (h.sc hz).1 (p := 2) (t := k % nt) (by omega) (by decide) (h.2.1 _ hkt 2 (by decide)) 0 (nI (k / nt))
      have skip : ∀ x8 x9, qsT M left n nt (k + 1) = (b1, b2, b3) → ∀ z1 z2, ScOk (z1, z2, z3, z4, b1, b2, b3) → WP l (rmD 3 0 0) X sgX8_findsQuestion kX8_findsQuestion (qsQ S M nt W) 11 [some (.ref 27), some (.long left), none, some (.int n), some (.int (nI k + 1)), some (.int (nI k / M.1 9)), some (.int (nI k - nI k / M.1 9 * M.1 9)), some (.int w), x8, x9] [] (mk S (sc M (z1, z2, z3, z4, b1, b2, b3))) 0 0 := by
        intro x8 x9 e z1 z2 hz
        have ih := ih (z1, z2, z3, z4, b1, b2, b3) hz (fun k hk => (hzm k hk).trans ((mtF_sc _ k).trans (mtF_sc _ k).symm)) e.symm (some (.int (nI k / M.1 9))) (some (.int (nI k - nI k / M.1 9 * M.1 9))) (some (.int w)) x8 x9
        rw [← nI_1 k] at ih
        exact ih
      have t43 : (b1 = -1 ∨ w ≤ b2) → WP l (rmD 3 0 0) X sgX8_findsQuestion kX8_findsQuestion (qsQ S M nt W) 43 [some (.ref 27), some (.long left), none, some (.int n), some (.int (nI k)), some (.int (nI k / M.1 9)), some (.int (nI k - nI k / M.1 9 * M.1 9)), some (.int w), x8, x9] [] (mk S (sc M (z1, z2, z3, z4, b1, b2, b3))) 0 0 := by
        intro ho
        have hst2 : qsT M left n nt (k + 1) = if b1 = -1 ∨ w < b2 ∨ c < b3 then (Int32.ofInt 10 * nI (k / nt) + nI (k % nt), w, c) else (b1, b2, b3) := hstep.trans (if_pos ho)
        refine run_sound okX8_findsQuestion cNq 200 ⟨2, _, by decide, c2, ?_⟩
        rintro hp' v ⟨⟨z', hz', hzz', rfl⟩, rfl⟩
        obtain ⟨y1, y2, y3, y4, d1, d2, d3⟩ := z'
        have hzz' : (y3, y4, d1, d2, d3) = (z3, z4, b1, b2, b3) := hzz'
        cases hzz'
        have t65 : ∀ v : Int32, (v = 1 ∧ (b1 = -1 ∨ w < b2 ∨ c < b3)) ∨ (v = 0 ∧ ¬ (b1 = -1 ∨ w < b2 ∨ c < b3)) → WP l (rmD 3 0 0) X sgX8_findsQuestion kX8_findsQuestion (qsQ S M nt W) 65 [some (.ref 27), some (.long left), none, some (.int n), some (.int (nI k)), some (.int (nI k / M.1 9)), some (.int (nI k - nI k / M.1 9 * M.1 9)), some (.int w), some (.int c), x9] [.int v] (mk S (sc M (y1, y2, z3, z4, b1, b2, b3))) 0 0 := by
          intro v hv
          rcases hv with ⟨rfl, hp⟩ | ⟨rfl, hp⟩
          · have ih := ih (y1, y2, z3, z4, Int32.ofInt 10 * nI (k / nt) + nI (k % nt), w, c) hz' (fun k hk => (hzm k hk).trans ((mtF_sc _ k).trans (mtF_sc _ k).symm)) (hst2.trans (if_pos hp)).symm (some (.int (nI k / M.1 9))) (some (.int (nI k - nI k / M.1 9 * M.1 9))) (some (.int w)) (some (.int c)) (some (.int 1))
            rw [← e1, ← e2, ← nI_1 k] at ih
            exact run_sound okX8_findsQuestion (fun i => Nat.beq i 11) 200 (brF (by decide) (And.intro trivial (brF (by decide) (And.intro trivial (brF (by decide) (And.intro trivial ih))))))
          · exact run_sound okX8_findsQuestion (fun i => Nat.beq i 11) 200 (brT rfl (And.intro trivial (brT rfl (And.intro trivial (brT rfl (And.intro trivial (skip _ _ (hst2.trans (if_neg hp)) y1 y2 hz')))))))
        exact br (fun p => t65 1 (Or.inl ⟨rfl, Or.inl p⟩)) (fun p => br (fun p2 => t65 1 (Or.inl ⟨rfl, Or.inr (Or.inl p2)⟩)) (fun p2 => br (fun p3 => t65 0 (Or.inr ⟨rfl, fun y => y.elim p (fun y => y.elim p2 (fun y => absurd y (Int32.not_lt.mpr p3)))⟩)) (fun p3 => t65 1 (Or.inl ⟨rfl, Or.inr (Or.inr (Int32.not_le.mp p3))⟩))))
      refine run_sound okX8_findsQuestion cNq 200 (brF ?_ (And.intro h90 (And.intro h90 (kH c1 (by decide) (br (fun p => t43 (Or.inl p)) (fun p => br (fun p2 => ?_) (fun p2 => t43 (Or.inr (Int32.not_lt.mp p2)))))))))
      · show ¬ M.1 0 * M.1 9 ≤ nI k
        rw [hend]; exact nI_ge hk (by omega)
      · exact skip _ _ (hstep.trans (if_neg (fun y => y.elim p (fun y => absurd p2 (Int32.not_lt.mpr y))))) z1 z2 hz
  have hz := h.1.z
  exact And.intro trivial (And.intro trivial (And.intro trivial (key 0 (Nat.zero_le _) ((getZ M).1, (getZ M).2.1, (getZ M).2.2.1, (getZ M).2.2.2.1, -1, -1, -1) hz (fun k hk => (hm k hk).trans (mtF_sc _ k).symm) rfl none none none none none)))
end MQUES
