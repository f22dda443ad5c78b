/-! THE REFERENCE in general: what is asked, parts, what a hider may say -/
section MASK
variable {l : Launch} {X : List (List Int32)} {S : CS} {M : MS} {hp : AH} {nt ns nk : Nat}
theorem qsT_sc (z : SZ) (left : Int64) (n : Int32) : ∀ k, qsT (sc M z) left n nt k = qsT M left n nt k
  | 0 => rfl
  | k + 1 => by
    rw [qsT, qsT, qsT_sc z left n k]
    unfold qsS
    rw [wsT_sc]
    rfl
abbrev mtS (M : MS) (nt : Nat) (z : SZ) : Prop := ScOk z ∧ Mt (sc M z) nt
theorem mt_sc {z z' : SZ} (h : Mt (sc (sc M z) z') nt) : Mt (sc M z') nt := fun k hk => (h k hk).trans ((mtF_sc _ k).trans ((mtF_sc _ k).trans (mtF_sc _ k).symm))
def askG (M : MS) (nt ns nk : Nat) (what : Int32) : Int32 := if p2P what then (if what = 0 then (qsT M (woT M nk) (nI nk) nt (ns * nt)).1 else if what = 1 then (qsT M (woT M nk) (nI nk) nt (ns * nt)).2.1 else (qsT M (woT M nk) (nI nk) nt (ns * nt)).2.2) else -2
set_option maxRecDepth 100000 in
theorem g_ask (h : MInv M nt ns nk) (what : Int32) : Ctr l 7 X sgX8_ask [.ref 27, .int what] (mk S M) (zA S M (.int (askG M nt ns nk what))) := by
  obtain ⟨h3, h12⟩ := h.2.2.2.2.1
  refine Ctr.of okX8_ask rfl (Nat.le_of_ble_eq_true rfl) (run_sound okX8_ask noCut 100 ?_)
  refine kH (m_in _ _ _) (by decide) (brB' (fun q => zI h.1 (if_neg q).symm) (fun q => ⟨5, _, by decide, g_worldsNow h, ?_⟩))
  have e : askG M nt ns nk what = if what = 0 then (qsT M (woT M nk) (nI nk) nt (ns * nt)).1 else if what = 1 then (qsT M (woT M nk) (nI nk) nt (ns * nt)).2.1 else (qsT M (woT M nk) (nI nk) nt (ns * nt)).2.2 := if_pos q
  rw [e]
  rintro hp' w ⟨⟨z, hz, hzm, rfl⟩, rfl⟩
  have hc : Ctr l 3 X sgX8_findsQuestion [.ref 27, .long (woT M nk), .int (M.1 3)] (mk S (sc M z)) (qsQ S (sc M z) nt (qsT M (woT M nk) (nI nk) nt (ns * nt))) := by
    rw [h3, ← qsT_sc z]
    exact g_findsQuestion (h.sc hz) hzm _ _
  obtain ⟨Q, hQ⟩ : ∃ Q, qsT M (woT M nk) (nI nk) nt (ns * nt) = Q := ⟨_, rfl⟩
  rw [hQ] at hc ⊢
  refine ⟨3, _, by decide, hc, ?_⟩
  rintro hp' w ⟨⟨z', hz', hzm', hq, rfl⟩, rfl⟩
  subst hq
  exact br (fun p => ⟨⟨z', hz', rfl⟩, some_int (if_pos p).symm⟩) (fun p => br (fun p2 => ⟨⟨z', hz', rfl⟩, some_int ((if_neg p).trans (if_pos p2)).symm⟩) (fun p2 => ⟨⟨z', hz', rfl⟩, some_int ((if_neg p).trans (if_neg p2)).symm⟩))
def wbT (M : MS) (nt ns nk : Nat) (left : Int64) : Int32 := (qsT M left (nI nk + 1) nt (ns * nt)).2.1
theorem wbT_sc (z : SZ) (left : Int64) : wbT (sc M z) nt ns nk left = wbT M nt ns nk left := by unfold wbT; rw [qsT_sc]
set_option maxRecDepth 100000 in
theorem g_worstBehind (h : MInv M nt ns nk) (hm : Mt M nt) (left : Int64) : Ctr l 4 X sgX8_worstBehind [.ref 27, .long left] (mk S M) (nowQ S M nt (some (.int (wbT M nt ns nk left)))) := by
  obtain ⟨h3, h12⟩ := h.2.2.2.2.1
  have hc : Ctr l 3 X sgX8_findsQuestion [.ref 27, .long left, .int (M.1 3 + Int32.ofInt 1)] (mk S M) (qsQ S M nt (qsT M left (nI nk + 1) nt (ns * nt))) := by
    rw [h3]
    exact g_findsQuestion h hm _ _
  refine Ctr.of okX8_worstBehind rfl (Nat.le_of_ble_eq_true rfl) (run_sound okX8_worstBehind noCut 100 ⟨3, _, by decide, hc, ?_⟩)
  rintro hp' w ⟨⟨z', hz', hzm', hq, rfl⟩, rfl⟩
  refine ⟨⟨z', hz', hzm', rfl⟩, some_int ?_⟩
  unfold wbT
  rw [← hq]
  rfl
def twS (M : MS) (nt ns nk k : Nat) (P : Int32 × Int32) : Int32 × Int32 :=
  (if P.1 = -1 ∨ maxR (wbT M nt ns nk (woT M nk &&& fitT M (k / nt) (k % nt) 0 (nI nk))) (wbT M nt ns nk (woT M nk &&& fitT M (k / nt) (k % nt) 1 (nI nk))) < P.2 then Int32.ofInt 10 * nI (k / nt) + nI (k % nt) else P.1,
   if P.2 = -1 ∨ maxR (wbT M nt ns nk (woT M nk &&& fitT M (k / nt) (k % nt) 0 (nI nk))) (wbT M nt ns nk (woT M nk &&& fitT M (k / nt) (k % nt) 1 (nI nk))) < P.2 then maxR (wbT M nt ns nk (woT M nk &&& fitT M (k / nt) (k % nt) 0 (nI nk))) (wbT M nt ns nk (woT M nk &&& fitT M (k / nt) (k % nt) 1 (nI nk))) else P.2)
def paT (M : MS) (nt ns nk : Nat) (s t what : Int32) : Int64 := if tP ns s ∧ tP nt t ∧ p3P what then
    woT M nk &&& (if what = 0 then fitT M s.toNatClampNeg t.toNatClampNeg 0 (nI nk) else if what = 1 then fitT M s.toNatClampNeg t.toNatClampNeg 1 (nI nk) else if what = 2 then (fitT M s.toNatClampNeg t.toNatClampNeg 0 (nI nk) ^^^ -1) &&& (fitT M s.toNatClampNeg t.toNatClampNeg 1 (nI nk) ^^^ -1) else fitT M s.toNatClampNeg t.toNatClampNeg 0 (nI nk) &&& fitT M s.toNatClampNeg t.toNatClampNeg 1 (nI nk))
  else NOL
set_option maxRecDepth 100000 in
set_option maxHeartbeats 1000000 in
theorem g_parts (h : MInv M nt ns nk) (s t what : Int32) : Ctr l 6 X sgX8_parts [.ref 27, .int s, .int t, .int what] (mk S M) (zA S M (.long (paT M nt ns nk s t what))) := by
  obtain ⟨h3, h12⟩ := h.2.2.2.2.1
  obtain ⟨h0, h5⟩ := h.2.2.2.1
  have h6 := h.2.2.1.2.2
  refine Ctr.of okX8_parts rfl (Nat.le_of_ble_eq_true rfl) (run_sound okX8_parts noCut 200 ?_)
  refine kH (g_S h s) (by decide) (brB' (fun q => ⟨rfl, zJ h.1 (if_neg (fun z => q z.1)).symm⟩) (fun q => kH (g_T h t) (by decide) (brB' (fun q2 => ⟨rfl, zJ h.1 (if_neg (fun z => q2 z.2.1)).symm⟩) (fun q2 => kH (m_in _ _ _) (by decide) (brB' (fun q3 => ⟨rfl, zJ h.1 (if_neg (fun z => q3 z.2.2)).symm⟩) (fun q3 => ⟨5, _, by decide, g_worldsNow h, ?_⟩))))))
  rintro hp' w ⟨⟨z, hz, hzm, rfl⟩, rfl⟩
  rw [show paT M nt ns nk s t what = woT M nk &&& (if what = 0 then fitT M s.toNatClampNeg t.toNatClampNeg 0 (nI nk) else if what = 1 then fitT M s.toNatClampNeg t.toNatClampNeg 1 (nI nk) else if what = 2 then (fitT M s.toNatClampNeg t.toNatClampNeg 0 (nI nk) ^^^ -1) &&& (fitT M s.toNatClampNeg t.toNatClampNeg 1 (nI nk) ^^^ -1) else fitT M s.toNatClampNeg t.toNatClampNeg 0 (nI nk) &&& fitT M s.toNatClampNeg t.toNatClampNeg 1 (nI nk)) from if_pos ⟨q, q2, q3⟩]
  obtain ⟨i, hi, rfl⟩ := inN (by omega) q
  obtain ⟨j, hj, rfl⟩ := inN (by omega) q2
  rw [nI_clamp (show i < 2 ^ 31 by omega), nI_clamp (show j < 2 ^ 31 by omega)]
  have c0 : AnsL l 1 X sgX8_fits [.ref 27, .int (nI i), .int (nI j), .int 0, .int (M.1 3)] (mk S (sc M z)) (fitT M i j 0 (nI nk)) := by
    rw [h3, ← fitT_sc z]; exact g_fits (h.sc hz) hzm (show i < 5 by omega) hj (u := 0) (by decide) (nI nk)
  have c1 : AnsL l 1 X sgX8_fits [.ref 27, .int (nI i), .int (nI j), .int 1, .int (M.1 3)] (mk S (sc M z)) (fitT M i j 1 (nI nk)) := by
    rw [h3, ← fitT_sc z]; exact g_fits (h.sc hz) hzm (show i < 5 by omega) hj (u := 1) (by decide) (nI nk)
  generalize fitT M i j 0 (nI nk) = a at c0 ⊢
  generalize fitT M i j 1 (nI nk) = b at c1 ⊢
  generalize woT M nk = v
  refine kH c0 (by decide) (kH c1 (by decide) ?_)
  rcases in03 q3 with rfl | rfl | rfl | rfl
  · exact brT rfl ⟨rfl, ⟨z, hz, rfl⟩, rfl⟩
  · exact brF (by decide) (brT rfl ⟨rfl, ⟨z, hz, rfl⟩, rfl⟩)
  · exact brF (by decide) (brF (by decide) (brT rfl ⟨rfl, ⟨z, hz, rfl⟩, rfl⟩))
  · exact brF (by decide) (brF (by decide) (brF (by decide) ⟨rfl, ⟨z, hz, rfl⟩, rfl⟩))
abbrev suP (s : Int64) (x : Int32) : Prop := alF s 32 >>> (x &&& 31) &&& 1 = 1 ∨ noF s 32 >>> (x &&& 31) &&& 1 = 1
set_option maxRecDepth 100000 in
theorem m_isSure (s : Int64) (x : Int32) : Ans l 2 X sgX8_isSure [.long s, .int x] hp (bI (suP s x)) := by
  have c0 : Ans l 1 X sgX8_allIn [.long s] hp (alF s 32) := m_allIn s
  have c1 : Ans l 1 X sgX8_noneIn [.long s] hp (noF s 32) := m_noneIn s
  unfold suP
  generalize alF s 32 = a at c0 ⊢
  generalize noF s 32 = b at c1 ⊢
  refine Ctr.of okX8_isSure rfl (Nat.le_of_ble_eq_true rfl) (run_sound okX8_isSure noCut 200 ?_)
  exact kH c0 (by decide) (br (fun p => ⟨rfl, rfl, some_int (bIe1 (Or.inl p))⟩) (fun p => kH c1 (by decide) (br (fun p2 => ⟨rfl, rfl, some_int (bIe1 (Or.inr p2))⟩) (fun p2 => ⟨rfl, rfl, some_int (bIe0 (fun y => y.elim p p2))⟩))))
abbrev hiP (M : MS) (nk s : Nat) (w x : Int32) (k : Nat) : Prop := hsP (fitT M s (k / 2) (k % 2) (nI nk)) w ∧ ¬ suP (woT M nk &&& fitT M s (k / 2) (k % 2) (nI nk)) x
def hiT (M : MS) (nk s : Nat) (w x : Int32) : Nat → Int32
  | 0 => 0
  | k + 1 => hiT M nk s w x k ||| (if hiP M nk s w x k then (1 : Int32) <<< (nI k &&& 31) else 0)
def hiG (M : MS) (nt ns nk : Nat) (s w x : Int32) : Int32 := if tP ns s ∧ wdP w ∧ whP x then hiT M nk s.toNatClampNeg w x (2 * nt) else -5
def cNhi (i : Nat) : Bool := Nat.beq i 21
set_option maxRecDepth 100000 in
set_option maxHeartbeats 1000000 in
theorem g_hide (h : MInv M nt ns nk) (s w x : Int32) : Ctr l 6 X sgX8_hide [.ref 27, .int s, .int w, .int x] (mk S M) (zA S M (.int (hiG M nt ns nk s w x))) := by
  obtain ⟨h3, h12⟩ := h.2.2.2.2.1
  obtain ⟨h0, h5⟩ := h.2.2.2.1
  obtain ⟨h9, h1, h6⟩ := h.2.2.1
  refine Ctr.of okX8_hide rfl (Nat.le_of_ble_eq_true rfl) (run_sound okX8_hide cNhi 200 ?_)
  refine kH (g_S h s) (by decide) (brB' (fun q => zI h.1 (if_neg (fun z => q z.1)).symm) (fun q => kH (m_isWorld w) (by decide) (brB' (fun q2 => zI h.1 (if_neg (fun z => q2 z.2.1)).symm) (fun q2 => kH (m_in _ _ _) (by decide) (brB' (fun q3 => zI h.1 (if_neg (fun z => q3 z.2.2)).symm) (fun q3 => ⟨5, _, by decide, g_worldsNow h, ?_⟩))))))
  rintro hp' w' ⟨⟨z, hz, hzm, rfl⟩, rfl⟩
  rw [show hiG M nt ns nk s w x = hiT M nk s.toNatClampNeg w x (2 * nt) from if_pos ⟨q, q2, q3⟩]
  obtain ⟨i, hi, rfl⟩ := inN (by omega) q
  rw [nI_clamp (show i < 2 ^ 31 by omega)]
  obtain ⟨V, hV⟩ : ∃ V, hiT M nk i w x (2 * nt) = V := ⟨_, rfl⟩
  rw [hV]
  have hend : Int32.ofInt 2 * M.1 9 = nI (2 * nt) := by rw [h9]; exact nI_mul 2 nt
  have key : ∀ k, k ≤ 2 * nt → ∀ x8, WP l (rmD 6 0 0) X sgX8_hide kX8_hide (zA S M (.int V)) 21 [some (.ref 27), some (.int (nI i)), some (.int w), some (.int x), some (.long (woT M nk)), none, some (.int (hiT M nk i w x k)), some (.int (nI k)), x8, none] [] (mk S (sc M z)) 0 0 := by
    refine down (fun x8 => ?_) (fun k hk ih x8 => ?_)
    · refine run_sound okX8_hide cNhi 200 (brT ?_ ⟨⟨z, hz, rfl⟩, some_int hV⟩)
      show Int32.ofInt 2 * M.1 9 ≤ nI (2 * nt)
      rw [hend]; exact Int32.le_refl _
    · have e1 : nI k / Int32.ofInt 2 = nI (k / 2) := nI_div (b := 2) (by omega) (by decide) (by decide)
      have e2 : nI k - nI k / Int32.ofInt 2 * Int32.ofInt 2 = nI (k % 2) := nI_rem (b := 2) (by omega) (by decide) (by decide)
      have c0 : AnsL l 1 X sgX8_fits [.ref 27, .int (nI i), .int (nI k / Int32.ofInt 2), .int (nI k - nI k / Int32.ofInt 2 * Int32.ofInt 2), .int (M.1 3)] (mk S (sc M z)) (fitT M i (k / 2) (k % 2) (nI nk)) := by
        rw [e2, e1, h3, ← fitT_sc z]; exact g_fits (h.sc hz) hzm (show i < 5 by omega) (show k / 2 < nt by omega) (show k % 2 < 2 by omega) (nI nk)
      have hy : hiP M nk i w x k → hiT M nk i w x (k + 1) = hiT M nk i w x k ||| ((1 : Int32) <<< (nI k &&& 31)) := fun y => by rw [hiT, if_pos y]
      have hn : ¬ hiP M nk i w x k → hiT M nk i w x (k + 1) = hiT M nk i w x k ||| 0 := fun y => by rw [hiT, if_neg y]
      unfold hiP at hy hn
      generalize fitT M i (k / 2) (k % 2) (nI nk) = f at c0 hy hn
      have ih := ih (some (.long f))
      rw [← nI_1 k] at ih
      refine run_sound okX8_hide cNhi 200 (brF ?_ (And.intro (by decide) (And.intro (by decide) (kH c0 (by decide) (kH (m_has _ _) (by decide) (brB' (fun p => ?_) (fun p => kH (m_isSure _ _) (by decide) (brB' (fun p2 => ?_) (fun p2 => ?_)))))))))
      · show ¬ Int32.ofInt 2 * M.1 9 ≤ nI k
        rw [hend]; exact nI_ge hk (by omega)
      · rw [hn (fun y => p y.1)] at ih
        exact ih
      · rw [hy ⟨p, p2⟩] at ih
        exact ih
      · rw [hn (fun y => y.2 p2)] at ih
        exact ih
  exact key 0 (Nat.zero_le _) none
end MASK
