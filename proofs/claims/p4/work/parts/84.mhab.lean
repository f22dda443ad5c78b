/-! THE REFERENCE in general: habits in lowest terms, kinds -/
section MHAB
variable {l : Launch} {X : List (List Int32)} {S : CS} {M : MS} {hp : AH} {nt ns nk : Nat}
/-- the greatest number that divides both, by rests -/
def lgE : Nat → Int64 → Int64 → Bool
  | 0, _, b => if b = 0 then true else false
  | m + 1, a, b => if b = 0 then true else lgE m b (a - a / b * b)
def lgF : Nat → Int64 → Int64 → Int64
  | 0, a, _ => a
  | m + 1, a, b => if b = 0 then a else lgF m b (a - a / b * b)
def loG (a b : Int64) (part : Int32) : Int64 := if a = 0 then part.toInt64 else (if part = 0 then a else b) / lgF 12 a b
set_option maxRecDepth 100000 in
theorem m_lowest (a b : Int64) (part : Int32) (he : ¬ a = 0 → lgE 12 a b = true) (hn : ¬ a = 0 → ¬ lgF 12 a b = 0) : AnsL l 0 X sgX8_lowest [.long a, .long b, .int part] hp (loG a b part) := by
  refine Ctr.of okX8_lowest rfl (Nat.le_of_ble_eq_true rfl) (run_sound okX8_lowest (fun i => Nat.beq i 11) 200 ?_)
  refine brC (fun z => ⟨rfl, rfl, some_long (if_pos z).symm⟩) (fun z => ?_)
  have he := he z
  have hn := hn z
  rw [show loG a b part = (if part = 0 then a else b) / lgF 12 a b from if_neg z]
  obtain ⟨g, hg⟩ : ∃ g, lgF 12 a b = g := ⟨_, rfl⟩
  rw [hg] at hn ⊢
  have fin : ∀ (x y : Int64) x9, y = 0 → x = g → WP l (rmD 0 0 0) X sgX8_lowest kX8_lowest (fun h w => h = hp ∧ w = some (.long ((if part = 0 then a else b) / g))) 11 [some (.long a), none, some (.long b), none, some (.int part), some (.long x), none, some (.long y), none, x9, none] [] hp 0 0 := by
    intro x y x9 hy hx
    subst hx
    subst hy
    refine run_sound okX8_lowest (fun i => Nat.beq i 11) 200 (brC (fun _ => br (fun p => And.intro hn ⟨rfl, rfl, some_long ?_⟩) (fun p => And.intro hn ⟨rfl, rfl, some_long ?_⟩)) (fun z => absurd rfl z))
    · rw [if_pos (show part = 0 from p)]
    · rw [if_neg (show ¬ part = 0 from p)]
  have key : ∀ (m : Nat) (x y : Int64) x9, lgE m x y = true → lgF m x y = g → WP l (rmD 0 0 0) X sgX8_lowest kX8_lowest (fun h w => h = hp ∧ w = some (.long ((if part = 0 then a else b) / g))) 11 [some (.long a), none, some (.long b), none, some (.int part), some (.long x), none, some (.long y), none, x9, none] [] hp 0 0 := by
    intro m
    induction m with
    | zero =>
      intro x y x9 e1 e2
      by_cases hy : y = 0
      · exact fin x y x9 hy e2
      · rw [lgE, if_neg hy] at e1
        cases e1
    | succ m ih =>
      intro x y x9 e1 e2
      by_cases hy : y = 0
      · rw [lgF, if_pos hy] at e2
        exact fin x y x9 hy e2
      · rw [lgE, if_neg hy] at e1
        rw [lgF, if_neg hy] at e2
        exact run_sound okX8_lowest (fun i => Nat.beq i 11) 200 (brC (fun z => absurd z hy) (fun _ => And.intro hy (ih _ _ _ e1 e2)))
  exact key 12 a b none he hg
theorem lo_small : ∀ a : Fin 61, ∀ b : Fin 13, lgE 12 (Int64.ofNat a.val) (Int64.ofNat b.val) = true ∧ (¬ a.val = 0 → ¬ lgF 12 (Int64.ofNat a.val) (Int64.ofNat b.val) = 0) := by decide +kernel
theorem lo_ok {a b : Nat} (ha : a ≤ 60) (hb : b ≤ 12) : (¬ Int64.ofNat a = 0 → lgE 12 (Int64.ofNat a) (Int64.ofNat b) = true) ∧ (¬ Int64.ofNat a = 0 → ¬ lgF 12 (Int64.ofNat a) (Int64.ofNat b) = 0) := by
  have h := lo_small ⟨a, by omega⟩ ⟨b, by omega⟩
  refine ⟨fun _ => h.1, fun z => h.2 (fun y => z ?_)⟩
  have y : a = 0 := y
  rw [y]
  rfl
abbrev hsP (x : Int64) (w : Int32) : Prop := (x >>> (w.toInt64 &&& 63)) &&& 1 = 1
/-- whether a saying of one's is so first, second, in a world -/
abbrev hpP (M : MS) (s : Nat) (w : Int32) (k : Nat) : Prop := hsP (mtF M (10 * tk M k 1 + 2 * s + tk M k 2)) w
abbrev hqP (M : MS) (s : Nat) (w : Int32) (k : Nat) : Prop := hsP (mtF M (10 * tk M k 1 + 2 * s + 1 - tk M k 2)) w
abbrev hcP (M : MS) (s : Nat) (w : Int32) (k : Nat) : Prop := tk M k 0 = s ∧ ¬ bI (hpP M s w k) = bI (hqP M s w k)
def haT (M : MS) (s : Nat) (w : Int32) : Nat → Nat × Nat
  | 0 => (0, 0)
  | k + 1 => ((haT M s w k).1 + (if hcP M s w k ∧ hpP M s w k then 1 else 0), (haT M s w k).2 + (if hcP M s w k then 1 else 0))
theorem haT_le (s : Nat) (w : Int32) : ∀ k, (haT M s w k).1 ≤ k ∧ (haT M s w k).2 ≤ k
  | 0 => ⟨Nat.le_refl _, Nat.le_refl _⟩
  | k + 1 => by
    have h := haT_le s w k
    rw [haT]
    constructor
    · show (haT M s w k).1 + _ ≤ k + 1
      split <;> omega
    · show (haT M s w k).2 + _ ≤ k + 1
      split <;> omega
theorem oN_add (a b : Nat) : Int64.ofNat a + Int64.ofNat b = Int64.ofNat (a + b) := (Int64.ofNat_add a b).symm
def hbG (M : MS) (ns nk : Nat) (s w part : Int32) : Int64 := if tP ns s ∧ wdP w ∧ p1P part then (if Int64.ofNat (haT M s.toNatClampNeg w nk).2 = 0 then NOL else loG (Int64.ofNat (haT M s.toNatClampNeg w nk).1) (Int64.ofNat (haT M s.toNatClampNeg w nk).2) part) else NOL
def cNh (i : Nat) : Bool := Nat.beq i 22 || Nat.beq i 95
set_option maxRecDepth 100000 in
set_option maxHeartbeats 2000000 in
theorem g_habit (h : MInv M nt ns nk) (s w part : Int32) : Ctr l 5 X sgX8_habit [.ref 27, .int s, .int w, .int part] (mk S M) (zA S M (.long (hbG M ns nk s w part))) := by
  obtain ⟨h3, h12⟩ := h.2.2.2.2.1
  obtain ⟨h0, h5⟩ := h.2.2.2.1
  have h6 := h.2.2.1.2.2
  refine Ctr.of okX8_habit rfl (Nat.le_of_ble_eq_true rfl) (run_sound okX8_habit cNh 200 ?_)
  refine kH (g_S h s) (by decide) (brB' (fun q => ⟨rfl, zJ h.1 (if_neg (fun z => q z.1)).symm⟩) (fun q => kH (m_isWorld w) (by decide) (brB' (fun q2 => ⟨rfl, zJ h.1 (if_neg (fun z => q2 z.2.1)).symm⟩) (fun q2 => kH (m_in _ _ _) (by decide) (brB' (fun q3 => ⟨rfl, zJ h.1 (if_neg (fun z => q3 z.2.2)).symm⟩) (fun q3 => ⟨4, _, by decide, g_reads h, ?_⟩))))))
  rintro hp' w' ⟨⟨z, hz, hzm, rfl⟩, rfl⟩
  have e : hbG M ns nk s w part = if Int64.ofNat (haT M s.toNatClampNeg w nk).2 = 0 then NOL else loG (Int64.ofNat (haT M s.toNatClampNeg w nk).1) (Int64.ofNat (haT M s.toNatClampNeg w nk).2) part := if_pos ⟨q, q2, q3⟩
  rw [e]
  obtain ⟨j, hj, rfl⟩ := inN (by omega) q
  rw [nI_clamp (show j < 2 ^ 31 by omega)]
  obtain ⟨V, hV⟩ : ∃ V, (if Int64.ofNat (haT M j w nk).2 = 0 then NOL else loG (Int64.ofNat (haT M j w nk).1) (Int64.ofNat (haT M j w nk).2) part) = V := ⟨_, rfl⟩
  rw [hV]
  have key : ∀ k, k ≤ nk → ∀ x9 x10 x11 x12, WP l (rmD 5 0 0) X sgX8_habit kX8_habit (zA S M (.long V)) 22 [some (.ref 27), some (.int (nI j)), some (.int w), some (.int part), some (.long (Int64.ofNat (haT M j w k).1)), none, some (.long (Int64.ofNat (haT M j w k).2)), none, some (.int (nI k)), x9, x10, x11, x12] [] (mk S (sc M z)) 0 0 := by
    refine down (fun x9 x10 x11 x12 => ?_) (fun k hk ih x9 x10 x11 x12 => ?_)
    · have hle := haT_le (M := M) j w nk
      have lo := lo_ok (a := (haT M j w nk).1) (b := (haT M j w nk).2) (by omega) (by omega)
      refine run_sound okX8_habit cNh 200 (brT ?_ (brC (fun y => ⟨rfl, ⟨z, hz, rfl⟩, some_long ?_⟩) (fun y => kH (m_lowest _ _ _ lo.1 lo.2) (by decide) ⟨rfl, ⟨z, hz, rfl⟩, some_long ?_⟩)))
      · show M.1 3 ≤ nI nk
        rw [h3]; exact Int32.le_refl _
      · rw [← hV]; exact (if_pos y).symm
      · rw [← hV]; exact (if_neg y).symm
    · obtain ⟨e1, e2, e3, t1, t2, t3⟩ := tk_ok h hk
      have i0 : Int32.ofInt 3 * nI k = nI (3 * k + 0) := nI_mul 3 k
      have i1 : Int32.ofInt 3 * nI k + Int32.ofInt 1 = nI (3 * k + 1) := by rw [i0]; exact nI_1 _
      have i2 : Int32.ofInt 3 * nI k + Int32.ofInt 2 = nI (3 * k + 2) := by rw [i0]; exact nI_add _ 2
      have v0 : vp_in (Int32.ofInt 3 * nI k) (M.2.1 4).length := by rw [i0]; exact (ix_tk h hk (by decide)).1
      have v1 : vp_in (Int32.ofInt 3 * nI k + Int32.ofInt 1) (M.2.1 4).length := by rw [i1]; exact (ix_tk h hk (by decide)).1
      have v2 : vp_in (Int32.ofInt 3 * nI k + Int32.ofInt 2) (M.2.1 4).length := by rw [i2]; exact (ix_tk h hk (by decide)).1
      have g0 : (M.2.1 4).getD (Int32.ofInt 3 * nI k).toNatClampNeg 0 = nI (tk M k 0) := by rw [i0, (ix_tk h hk (show 0 < 3 by decide)).2, Nat.add_zero]; exact e1
      have g1 : (M.2.1 4).getD (Int32.ofInt 3 * nI k + Int32.ofInt 1).toNatClampNeg 0 = nI (tk M k 1) := by rw [i1, (ix_tk h hk (show 1 < 3 by decide)).2]; exact e2
      have g2 : (M.2.1 4).getD (Int32.ofInt 3 * nI k + Int32.ofInt 2).toNatClampNeg 0 = nI (tk M k 2) := by rw [i2, (ix_tk h hk (show 2 < 3 by decide)).2]; exact e3
      obtain ⟨a0, ha0⟩ : ∃ a0, (M.2.1 4).getD (Int32.ofInt 3 * nI k).toNatClampNeg 0 = a0 := ⟨_, rfl⟩
      obtain ⟨a1, ha1⟩ : ∃ a1, (M.2.1 4).getD (Int32.ofInt 3 * nI k + Int32.ofInt 1).toNatClampNeg 0 = a1 := ⟨_, rfl⟩
      obtain ⟨a2, ha2⟩ : ∃ a2, (M.2.1 4).getD (Int32.ofInt 3 * nI k + Int32.ofInt 2).toNatClampNeg 0 = a2 := ⟨_, rfl⟩
      have n0 : a0 = nI (tk M k 0) := ha0.symm.trans g0
      have n1 : a1 = nI (tk M k 1) := ha1.symm.trans g1
      have n2 : a2 = nI (tk M k 2) := ha2.symm.trans g2
      have l60 : z.2.2.1.length = 60 := hz.2.2.1
      have x1 : Int32.ofInt 10 * a1 + Int32.ofInt 2 * nI j + a2 = nI (10 * tk M k 1 + 2 * j + tk M k 2) := by
        rw [n1, n2, show Int32.ofInt 10 * nI (tk M k 1) = nI (10 * tk M k 1) from nI_mul 10 _, show Int32.ofInt 2 * nI j = nI (2 * j) from nI_mul 2 _, nI_add, nI_add]
      have x2 : Int32.ofInt 10 * a1 + Int32.ofInt 2 * nI j + Int32.ofInt 1 - a2 = nI (10 * tk M k 1 + 2 * j + 1 - tk M k 2) := by
        rw [n1, n2, show Int32.ofInt 10 * nI (tk M k 1) = nI (10 * tk M k 1) from nI_mul 10 _, show Int32.ofInt 2 * nI j = nI (2 * j) from nI_mul 2 _, nI_add, show nI (10 * tk M k 1 + 2 * j) + Int32.ofInt 1 = nI (10 * tk M k 1 + 2 * j + 1) from nI_1 _]
        rcases (show tk M k 2 = 0 ∨ tk M k 2 = 1 by omega) with y | y
        · rw [y]; simp [nI]
        · rw [y]; exact nI_pred _
      have w1 : vp_in (Int32.ofInt 10 * a1 + Int32.ofInt 2 * nI j + a2) z.2.2.1.length := by rw [x1, l60]; exact vp_nI (by omega) (by decide)
      have w2 : vp_in (Int32.ofInt 10 * a1 + Int32.ofInt 2 * nI j + Int32.ofInt 1 - a2) z.2.2.1.length := by rw [x2, l60]; exact vp_nI (by omega) (by decide)
      have m1 : z.2.2.1.getD (Int32.ofInt 10 * a1 + Int32.ofInt 2 * nI j + a2).toNatClampNeg 0 = mtF M (10 * tk M k 1 + 2 * j + tk M k 2) := by
        rw [x1, nI_clamp (by omega), ← mtF_sc z]; exact hzm _ (by omega)
      have m2 : z.2.2.1.getD (Int32.ofInt 10 * a1 + Int32.ofInt 2 * nI j + Int32.ofInt 1 - a2).toNatClampNeg 0 = mtF M (10 * tk M k 1 + 2 * j + 1 - tk M k 2) := by
        rw [x2, nI_clamp (by omega), ← mtF_sc z]; exact hzm _ (by omega)
      obtain ⟨y1, hy1⟩ : ∃ y1, z.2.2.1.getD (Int32.ofInt 10 * a1 + Int32.ofInt 2 * nI j + a2).toNatClampNeg 0 = y1 := ⟨_, rfl⟩
      obtain ⟨y2, hy2⟩ : ∃ y2, z.2.2.1.getD (Int32.ofInt 10 * a1 + Int32.ofInt 2 * nI j + Int32.ofInt 1 - a2).toNatClampNeg 0 = y2 := ⟨_, rfl⟩
      have hh1 : Ans l 0 X sgX8_has [.long y1, .int w] (mk S (sc M z)) (bI (hpP M j w k)) := by
        rw [← hy1, m1]; exact m_has _ _
      have hh2 : Ans l 0 X sgX8_has [.long y2, .int w] (mk S (sc M z)) (bI (hqP M j w k)) := by
        rw [← hy2, m2]; exact m_has _ _
      have t95 : ∀ v : Int32, (v = 1 ∧ hcP M j w k) ∨ (v = 0 ∧ ¬ hcP M j w k) → ∀ x12, WP l (rmD 5 0 0) X sgX8_habit kX8_habit (zA S M (.long V)) 95 [some (.ref 27), some (.int (nI j)), some (.int w), some (.int part), some (.long (Int64.ofNat (haT M j w k).1)), none, some (.long (Int64.ofNat (haT M j w k).2)), none, some (.int (nI k)), some (.int a1), some (.int (bI (hpP M j w k))), some (.int (bI (hqP M j w k))), x12] [.int v] (mk S (sc M z)) 0 0 := by
        intro v hv x12
        rcases hv with ⟨rfl, hf⟩ | ⟨rfl, hf⟩
        · have ih := ih (some (.int a1)) (some (.int (bI (hpP M j w k)))) (some (.int (bI (hqP M j w k)))) (some (.int 1))
          refine run_sound okX8_habit (fun i => Nat.beq i 22) 200 (brF (by decide) (brF (by decide) (brB' (fun p => ?_) (fun p => ?_))))
          · rw [show haT M j w (k + 1) = ((haT M j w k).1 + 0, (haT M j w k).2 + 1) by rw [haT, if_pos hf, if_neg (fun y => p y.2)], ← nI_1 k, ← oN_add, ← oN_add] at ih
            exact ih
          · rw [show haT M j w (k + 1) = ((haT M j w k).1 + 1, (haT M j w k).2 + 1) by rw [haT, if_pos hf, if_pos ⟨hf, p⟩], ← nI_1 k, ← oN_add, ← oN_add] at ih
            exact ih
        · have ih := ih (some (.int a1)) (some (.int (bI (hpP M j w k)))) (some (.int (bI (hqP M j w k)))) (some (.int 0))
          rw [show haT M j w (k + 1) = ((haT M j w k).1 + 0, (haT M j w k).2 + 0) by rw [haT, if_neg hf, if_neg (fun y => hf y.1)], ← nI_1 k, ← oN_add, ← oN_add] at ih
          exact run_sound okX8_habit (fun i => Nat.beq i 22) 200 (brT rfl (brT rfl ih))
      have go : WP l (rmD 5 0 0) X sgX8_habit kX8_habit (zA S M (.long V)) 22 [some (.ref 27), some (.int (nI j)), some (.int w), some (.int part), some (.long (Int64.ofNat (haT M j w k).1)), none, some (.long (Int64.ofNat (haT M j w k).2)), none, some (.int (nI k)), x9, x10, x11, x12] [] (mk S (sc M z)) 0 0 := by
        refine run_sound okX8_habit cNh 200 (brF ?_ (Exists.intro _ (And.intro rfl (And.intro v1 ?_))))
        · show ¬ M.1 3 ≤ nI k
          rw [h3]; exact nI_ge hk (by omega)
        · rw [← ha1] at hy1 hy2 w1 w2 t95
          rw [← ha2] at hy1 hy2 w1 w2
          rw [← hy1] at hh1
          rw [← hy2] at hh2
          refine Exists.intro _ (And.intro rfl (And.intro v2 (Exists.intro _ (And.intro rfl (And.intro w1 (kH hh1 (by decide) (Exists.intro _ (And.intro rfl (And.intro v2 (Exists.intro _ (And.intro rfl (And.intro w2 (kH hh2 (by decide) (Exists.intro _ (And.intro rfl (And.intro v0 ?_))))))))))))))))
          refine br (fun p => br (fun p2 => t95 0 (Or.inr ⟨rfl, fun y => y.2 p2⟩) _) (fun p2 => t95 1 (Or.inl ⟨rfl, ?_, p2⟩) _)) (fun p => t95 0 (Or.inr ⟨rfl, fun y => p ?_⟩) _)
          · have p : (M.2.1 4).getD (Int32.ofInt 3 * nI k).toNatClampNeg 0 = nI j := p
            rw [g0] at p
            exact (nI_eq (by omega) (by omega)).mp p
          · show (M.2.1 4).getD (Int32.ofInt 3 * nI k).toNatClampNeg 0 = nI j
            rw [g0, y.1]
      exact go
  exact key 0 (Nat.zero_le _) none none none none
end MHAB
