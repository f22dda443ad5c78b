/-! WHAT TEXTS MEAN, ALIKE: codes run, worlds as bits -/
section EVALAL
variable {S : CS} {M M' : MS}
theorem nm_bit : ∀ w : Fin 32, ∀ v : Fin 5, ∀ who : Int32, (nmF (nI w.val) who).getD v.val 0 = bitF (nI w.val) (nI v.val) := by
  intro w v who
  have e : ∀ w : Fin 32, ∀ v : Fin 5, (nmF (nI w.val) 0).getD v.val 0 = bitF (nI w.val) (nI v.val) := by decide +kernel
  rw [← e w v]
  rcases v with ⟨v, hv⟩
  rcases (show v = 0 ∨ v = 1 ∨ v = 2 ∨ v = 3 ∨ v = 4 by omega) with rfl | rfl | rfl | rfl | rfl <;> rfl
theorem six_nat {v : Int32} (h0 : Int32.ofInt 0 ≤ v) (h6 : v < Int32.ofInt 6) : ∃ n, n < 6 ∧ v = nI n := by
  have h1 := Int32.le_iff_toInt_le.mp h0
  have h2 := Int32.lt_iff_toInt_lt.mp h6
  rw [show (Int32.ofInt 0).toInt = 0 from by decide] at h1
  rw [show (Int32.ofInt 6).toInt = 6 from by decide] at h2
  refine ⟨v.toInt.toNat, by omega, Int32.toInt_inj.mp ?_⟩
  rw [nI_toInt (by omega)]
  omega
theorem push_lt {v : Int32} {st : List Int32} (h : st.length < 160) : pushS v st = v :: st := if_pos h
theorem six_rng : ∀ n : Fin 6, (0 : Int32) ≤ nI n.val ∧ nI n.val < 6 ∧ nI n.val < 11 ∧ ¬ (100000 : Int32) ≤ nI n.val := by decide +kernel
theorem stp_op {nm : List Int32} {c a b : Int32} {r : List Int32} (h1 : ¬ (100000 : Int32) ≤ c) (h2 : ¬ c < 11) (h3 : ¬ c = 13) (h4 : ¬ c = 19) : stpR nm c (b :: a :: r) = some (twoF c a b :: r) := by
  unfold stpR
  rw [if_neg h1, if_neg h2, if_neg h3, if_neg h4]
theorem stp_op0 {nm : List Int32} {c : Int32} {st st' : List Int32} (h1 : ¬ (100000 : Int32) ≤ c) (h2 : ¬ c < 11) (h3 : ¬ c = 13) (h4 : ¬ c = 19) (h : stpR nm c st = some st') : ∃ b a r, st = b :: a :: r ∧ st' = twoF c a b :: r := by
  match st with
  | [] =>
    unfold stpR at h
    rw [if_neg h1, if_neg h2, if_neg h3, if_neg h4] at h
    cases h
  | [_] =>
    unfold stpR at h
    rw [if_neg h1, if_neg h2, if_neg h3, if_neg h4] at h
    cases h
  | b :: a :: r =>
    rw [stp_op h1 h2 h3 h4] at h
    exact ⟨b, a, r, rfl, (Option.some.inj h).symm⟩
theorem step_op {w who s v a b : Int32} {r : List Int32} (h2 : ¬ s = 2) (h3 : ¬ s = 3) (h9 : ¬ s = 9) (h10 : ¬ s = 10) : stepC w who (b :: a :: r) (s, v) = pushS (jnF s a b) r :=
  (if_neg h2).trans ((if_neg h3).trans ((if_neg h9).trans (if_neg h10)))
/-- one code, on both sides -/
theorem ev_one {w : Nat} (hw : w < 32) (who : Int32) {x : Int32 × Int32} (hx : CodeOk x) {st st' : List Int32} (hl : st.length < 160) (h : stpR (nmF (nI w) who) (gm x) st = some st') : stepC (nI w) who st x = st' ∧ st'.length ≤ st.length + 1 := by
  obtain ⟨s, v⟩ := x
  rcases hx with ⟨h2, hv⟩ | ⟨h3, hv0, hv6⟩ | h9 | h10 | hop
  · have h2 : s = 2 := h2
    subst h2
    have e : gm (2, v) = Int32.ofInt 100000 + v := rfl
    rw [e] at h
    have e2 : stpR (nmF (nI w) who) (Int32.ofInt 100000 + v) st = some ((Int32.ofInt 100000 + v - 100000) :: st) := if_pos hv
    rw [e2] at h
    have h := Option.some.inj h
    rw [← h]
    refine ⟨?_, Nat.le_refl _⟩
    rw [show stepC (nI w) who st (2, v) = pushS v st from rfl, push_lt hl, Int32.add_comm]
    rw [show v + Int32.ofInt 100000 - 100000 = v from Int32.add_sub_cancel v 100000]
  · have h3 : s = 3 := h3
    subst h3
    obtain ⟨n, hn, rfl⟩ := six_nat hv0 hv6
    obtain ⟨r1, r2, r3, r4⟩ := six_rng ⟨n, hn⟩
    have e : gm (3, nI n) = nI n := rfl
    rw [e] at h
    have e2 : stpR (nmF (nI w) who) (nI n) st = some ((nmF (nI w) who).getD (nI n).toNatClampNeg 0 :: st) := (if_neg r4).trans ((if_pos r3).trans (if_pos ⟨r1, r2⟩))
    rw [e2, nI_clamp (by omega)] at h
    have h := Option.some.inj h
    rw [← h]
    refine ⟨?_, Nat.le_refl _⟩
    rw [stepC_3, push_lt hl]
    congr 1
    by_cases q : n = 5
    · subst q
      rfl
    · rw [if_neg (show ¬ nI n = (5 : Int32) from fun z => q (nI_inj (b := 5) (by omega) (by decide) z))]
      exact (nm_bit ⟨w, hw⟩ ⟨n, by omega⟩ who).symm
  · have h9 : s = 9 := h9
    subst h9
    have e : gm (9, v) = 13 := rfl
    rw [e] at h
    match st, hl with
    | [], _ => cases h
    | a :: r, hl =>
      have h := Option.some.inj (show some ((if a = 0 then (1 : Int32) else 0) :: r) = some st' from h)
      rw [← h, stepC_9]
      refine ⟨?_, Nat.le_succ _⟩
      exact push_lt (by have : r.length + 1 < 160 := hl; show r.length < 160; omega)
  · have h10 : s = 10 := h10
    subst h10
    have e : gm (10, v) = 19 := rfl
    rw [e] at h
    match st, hl with
    | [], _ => cases h
    | a :: r, hl =>
      have h := Option.some.inj (show some ((-a) :: r) = some st' from h)
      rw [← h, stepC_10]
      refine ⟨?_, Nat.le_succ _⟩
      exact push_lt (by have : r.length + 1 < 160 := hl; show r.length < 160; omega)
  · have fin : ∀ (g : Int32), gm (s, v) = g → ¬ (100000 : Int32) ≤ g → ¬ g < 11 → ¬ g = 13 → ¬ g = 19 → ¬ s = 2 → ¬ s = 3 → ¬ s = 9 → ¬ s = 10 → (∀ a b, jnF s a b = twoF g a b) → stepC (nI w) who st (s, v) = st' ∧ st'.length ≤ st.length + 1 := by
      intro g hg g1 g2 g3 g4 s2 s3 s9 s10 hj
      rw [hg] at h
      obtain ⟨b, a, r, rfl, rfl⟩ := stp_op0 g1 g2 g3 g4 h
      have hl : r.length + 1 + 1 < 160 := hl
      rw [step_op s2 s3 s9 s10, push_lt (by omega), hj]
      exact ⟨rfl, by show r.length + 1 ≤ r.length + 1 + 1 + 1; omega⟩
    rcases opk_sgn hop with q | q | q | q | q | q | q
    all_goals
      have q : s = _ := q
      subst q
    · exact fin 11 rfl (by decide) (by decide) (by decide) (by decide) (by decide) (by decide) (by decide) (by decide) (fun a b => rfl)
    · exact fin 12 rfl (by decide) (by decide) (by decide) (by decide) (by decide) (by decide) (by decide) (by decide) (fun a b => rfl)
    · exact fin 14 rfl (by decide) (by decide) (by decide) (by decide) (by decide) (by decide) (by decide) (by decide) (fun a b => rfl)
    · exact fin 15 rfl (by decide) (by decide) (by decide) (by decide) (by decide) (by decide) (by decide) (by decide) (fun a b => rfl)
    · exact fin 16 rfl (by decide) (by decide) (by decide) (by decide) (by decide) (by decide) (by decide) (by decide) (fun a b => rfl)
    · exact fin 17 rfl (by decide) (by decide) (by decide) (by decide) (by decide) (by decide) (by decide) (by decide) (fun a b => rfl)
    · exact fin 18 rfl (by decide) (by decide) (by decide) (by decide) (by decide) (by decide) (by decide) (by decide) (fun a b => rfl)
theorem ev_all {w : Nat} (hw : w < 32) (who : Int32) : ∀ (c : List (Int32 × Int32)) (st st' : List Int32), Vd c → st.length + c.length ≤ 160 → evR (nmF (nI w) who) (c.map gm) st = some st' → runC (nI w) who c st = st'
  | [], st, st', _, _, h => Option.some.inj h
  | x :: c, st, st', hv, hl, h => by
    have hl : st.length + (c.length + 1) ≤ 160 := hl
    have h : (stpR (nmF (nI w) who) (gm x) st).bind (evR (nmF (nI w) who) (c.map gm)) = some st' := h
    cases q : stpR (nmF (nI w) who) (gm x) st with
    | none => rw [q] at h; cases h
    | some st1 =>
      rw [q] at h
      obtain ⟨e1, e2⟩ := ev_one hw who (hv x List.mem_cons_self) (by omega) q
      show runC (nI w) who c (stepC (nI w) who st x) = st'
      rw [e1]
      exact ev_all hw who c st1 st' (fun y hy => hv y (List.mem_cons_of_mem _ hy)) (by omega) h
theorem val_al {w : Nat} (hw : w < 32) (who : Int32) {c : List (Int32 × Int32)} (hv : Vd c) (hl : c.length ≤ 160) (h : ∃ v, evR (nmF (nI w) who) (c.map gm) [] = some [v]) : valC (nI w) who c = valR (nmF (nI w) who) (c.map gm) := by
  obtain ⟨v, h⟩ := h
  unfold valC valR
  rw [h, ev_all hw who c [] [v] hv (by show 0 + c.length ≤ 160; omega) h]
  rfl
/-! worlds as bits -/
def Zx (a : Int32) (b : Int64) : Prop := b.toBitVec = a.toBitVec.setWidth 64
theorem Zx.ext {a : Int32} {b : Int64} (h : ∀ i, i < 64 → b.toBitVec.getLsbD i = (decide (i < 64) && a.toBitVec.getLsbD i)) : Zx a b := by
  apply BitVec.eq_of_getLsbD_eq
  intro i hi
  rw [BitVec.getLsbD_setWidth]
  exact h i hi
theorem Zx.bit {a : Int32} {b : Int64} (h : Zx a b) (i : Nat) : b.toBitVec.getLsbD i = (decide (i < 64) && a.toBitVec.getLsbD i) := by
  rw [h, BitVec.getLsbD_setWidth]
theorem Zx.z : Zx 0 0 := rfl
theorem Zx.or {a c : Int32} {b d : Int64} (h1 : Zx a b) (h2 : Zx c d) : Zx (a ||| c) (b ||| d) := by
  unfold Zx
  rw [Int64.toBitVec_or, Int32.toBitVec_or, h1, h2, BitVec.setWidth_or]
theorem Zx.and {a c : Int32} {b d : Int64} (h1 : Zx a b) (h2 : Zx c d) : Zx (a &&& c) (b &&& d) := by
  unfold Zx
  rw [Int64.toBitVec_and, Int32.toBitVec_and, h1, h2, BitVec.setWidth_and]
theorem Zx.xor {a c : Int32} {b d : Int64} (h1 : Zx a b) (h2 : Zx c d) : Zx (a ^^^ c) (b ^^^ d) := by
  unfold Zx
  rw [Int64.toBitVec_xor, Int32.toBitVec_xor, h1, h2, BitVec.setWidth_xor]
theorem one_zx : ∀ w : Fin 32, ((1 : Int64) <<< ((nI w.val).toInt64 &&& 63)).toBitVec = ((1 : Int32) <<< (nI w.val &&& 31)).toBitVec.setWidth 64 := by decide +kernel
theorem Zx.one {w : Nat} (hw : w < 32) : Zx ((1 : Int32) <<< (nI w &&& 31)) ((1 : Int64) <<< ((nI w).toInt64 &&& 63)) := one_zx ⟨w, hw⟩
theorem saysF_01 {p t : Nat} {w who : Int32} (hp : ¬ p = 2) : saysF M p t w who = 0 ∨ saysF M p t w who = 1 := by
  unfold saysF
  rw [if_neg hp]
  split
  · exact Or.inl rfl
  · exact Or.inr rfl
/-- what a part means, by bits -/
theorem tr_al {p t : Nat} (hp : p < 2) {who : Nat} {c : List (Int32 × Int32)} (hv : Vd c) (hl : c.length ≤ 160) (hs : segM M t p = c.map gm) (hO : ∀ nm, ∃ v, evR nm (segM M t p) [] = some [v]) : ∀ w, w ≤ 32 → Zx (trC (nI who) c w) (soF M p t (nI who) w)
  | 0, _ => Zx.z
  | w + 1, hw => by
    have ih := tr_al hp (who := who) hv hl hs hO w (by omega)
    rw [trC, soF]
    have e := val_al (w := w) (by omega) (nI who) hv hl (by rw [← hs]; exact hO _)
    have e2 : saysF M p t (nI w) (nI who) = if valC (nI w) (nI who) c = 0 then 0 else 1 := by
      unfold saysF
      rw [if_neg (by omega), hs, e]
    rw [e2]
    by_cases q : valC (nI w) (nI who) c = 0
    · rw [if_pos q, if_pos q, if_neg (by decide)]
      rw [show soF M p t (nI who) w ||| 0 = soF M p t (nI who) w from Int64.or_zero]
      exact ih
    · rw [if_neg q, if_neg q, if_pos rfl]
      exact ih.or (Zx.one (by omega))
theorem says_2 {t : Nat} {who : Nat} {c : List (Int32 × Int32)} (hv : Vd c) (hl : c.length ≤ 160) (hs : segM M t 2 = c.map gm) (hO : ∀ nm, ∃ v, evR nm (segM M t 2) [] = some [v]) : maxF 0 (minF 99 (valC 0 (nI who) c)) = saysF M 2 t 0 (nI who) := by
  have e := val_al (w := 0) (by decide) (nI who) hv hl (by rw [← hs]; exact hO _)
  have e : valC 0 (nI who) c = valR (nmF 0 (nI who)) (c.map gm) := e
  unfold saysF
  rw [if_pos rfl, hs, ← e]
  unfold maxF minF withinF
  generalize valC 0 (nI who) c = v
  by_cases h1 : v < 99
  · rw [if_pos h1]
    by_cases h2 : v < 0
    · rw [if_neg (fun z => absurd (Int32.lt_trans z h2) Int32.lt_irrefl), if_pos h2]
    · rw [if_neg h2, if_neg (fun z => absurd (Int32.lt_trans z h1) Int32.lt_irrefl)]
      by_cases h3 : 0 < v
      · rw [if_pos h3]
      · rw [if_neg h3]
        exact Int32.le_antisymm (Int32.not_lt.mp h2) (Int32.not_lt.mp h3)
  · rw [if_neg h1, if_pos (by decide)]
    have h2 : ¬ v < 0 := fun z => h1 (Int32.lt_trans z (by decide))
    rw [if_neg h2]
    by_cases h3 : 99 < v
    · rw [if_pos h3]
    · rw [if_neg h3]
      exact Int32.le_antisymm (Int32.not_lt.mp h1) (Int32.not_lt.mp h3)
theorem saysF_seg {p t : Nat} (h : segM M' t p = segM M t p) (w who : Int32) : saysF M' p t w who = saysF M p t w who := by
  unfold saysF
  rw [h]
theorem soF_seg {p t : Nat} (h : segM M' t p = segM M t p) (who : Int32) : ∀ n, soF M' p t who n = soF M p t who n
  | 0 => rfl
  | n + 1 => by rw [soF, soF, soF_seg h who n, saysF_seg h]
end EVALAL
