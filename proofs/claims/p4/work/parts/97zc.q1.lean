/-! QUESTIONS ALIKE: worlds, cannot, lies, mad, kinds -/
section Q1
variable {l : Launch} {X : List (List Int32)} {S : CS} {M : MS} {nt ns nk ta : Nat}
theorem S_worlds (r : REL S M) : StEL l X S M 7 sgX7_worlds [.ref 0] 6 sgX8_worlds [.ref 27] := by
  obtain ⟨nt, ns, nk, ta, h⟩ := id r.1
  have c := c_worlds (l := l) (X := X) (T := encM M) (KR.ki h r.2).1
  rw [(fit_al h r.2 nk (Nat.le_refl _)).bits] at c
  exact steL r (an_BL c) (fun B => g_worlds h.1)
theorem cannot_al (h : RInv M nt ns nk ta) (k : KR S M) : ∀ m j, j + m ≤ nk → cannotF S m j = cnG M m j
  | 0, _, _ => rfl
  | m + 1, j, hj => by
    rw [cannotF, cnG, cannot_al h k m (j + 1) (by omega)]
    by_cases q : fitF S (j + 1) = 0
    · rw [if_pos q, if_pos ((fit_al h k (j + 1) (by omega)).zero.mp q)]
    · rw [if_neg q, if_neg (fun z => q ((fit_al h k (j + 1) (by omega)).zero.mpr z))]
theorem S_cannot (r : REL S M) : StE l X S M 5 sgX7_cannot [.ref 0] 5 sgX8_cannot [.ref 27] := by
  obtain ⟨nt, ns, nk, ta, h⟩ := id r.1
  have c := c_cannot (l := l) (X := X) (T := encM M) (KR.ki h r.2).1
  rw [cannot_al h r.2 nk 0 (by omega)] at c
  exact ste r (an_B c) (fun B => g_cannot h.1)
theorem shl_get : ∀ j : Fin 12, ∀ i : Fin 12, ((1 : Int32) <<< (nI j.val &&& 31)) >>> (nI i.val &&& 31) &&& 1 = 1 ↔ i.val = j.val := by decide +kernel
theorem zero_get : ∀ i : Fin 32, ¬ ((0 : Int32) >>> (nI i.val &&& 31) &&& 1 = 1) := by decide +kernel
theorem zz_all {p : Int32} {P : Int64} (hp : Zx p P) : Zx p (P &&& ALLW) := Zx.mk (fun i hi => by
  rw [Int64.toBitVec_and, BitVec.getLsbD_and, hp.get, show (ALLW : Int64) = 4294967295 from rfl, bl_all]
  by_cases h : i < 32
  · rw [decide_eq_true h, Bool.and_true]
  · rw [BitVec.getLsbD_of_ge p.toBitVec i (by omega)]; rfl)
theorem wi0_al (h : RInv M nt ns nk ta) (k : KR S M) : ∀ m, m ≤ nk → Zx (fitF S m) (wiT M 0 m)
  | 0, _ => law_al h k
  | m + 1, hm => by
    have h12 := h.1.2.2.2.2.1.2
    rw [wiT, if_neg (zero_get ⟨m, by omega⟩)]
    exact (wi0_al h k m (by omega)).and (say_al h k (by omega))
theorem wi1_al (h : RInv M nt ns nk ta) (k : KR S M) {j : Nat} (hj : j < nk) : ∀ m, m ≤ nk → Zx (woF S (nI j) m) (wiT M ((1 : Int32) <<< (nI j &&& 31)) m)
  | 0, _ => law_al h k
  | m + 1, hm => by
    have h12 := h.1.2.2.2.2.1.2
    have ih := wi1_al h k hj m (by omega)
    rw [wiT, woF]
    have e := shl_get ⟨j, by omega⟩ ⟨m, by omega⟩
    by_cases q : m = j
    · rw [if_pos (by rw [q]), if_pos (e.mpr q)]
      exact zz_all ih
    · rw [if_neg (fun z => q (nI_inj (by omega) (by omega) z)), if_neg (fun z => q (e.mp z))]
      exact ih.and (say_al h k (by omega))
theorem lies_al (h : RInv M nt ns nk ta) (k : KR S M) (hz : wiT M 0 nk = 0) : ∀ m, m ≤ nk → liesF S nk m = liG M nk m
  | 0, _ => rfl
  | m + 1, hm => by
    rw [liesF, liG, if_pos hz, lies_al h k hz m (by omega)]
    have w := wi1_al h k (show m < nk by omega) nk (Nat.le_refl _)
    by_cases q : woF S (nI m) nk = 0
    · rw [if_pos q, if_neg (fun z => z (w.zero.mp q))]
      exact (Int32.or_zero).symm
    · rw [if_neg q, if_pos (fun z => q (w.zero.mpr z))]
theorem S_lies (r : REL S M) : StE l X S M 7 sgX7_lies [.ref 0] 6 sgX8_lies [.ref 27] := by
  obtain ⟨nt, ns, nk, ta, h⟩ := id r.1
  have c := c_lies (l := l) (X := X) (T := encM M) (KR.ki h r.2).1
  have w := wi0_al h r.2 nk (Nat.le_refl _)
  have e : (if fitF S nk = 0 then liesF S nk nk else 0) = liG M nk nk := by
    by_cases q : fitF S nk = 0
    · rw [if_pos q, lies_al h r.2 (w.zero.mp q) nk (Nat.le_refl _)]
    · rw [if_neg q, liG_no (fun z => q (w.zero.mpr z))]
  rw [e] at c
  exact ste r (an_B c) (fun B => g_lies h.1)
/-! the fewest bits of those that can be, the least as a number -/
def clB (C : Nat → Bool) : Nat → Int32
  | 0 => -1
  | n + 1 => if C n = true then (if clB C n = -1 then nI n else fewerF (nI n) (clB C n)) else clB C n
theorem zx_nat {n : Nat} (hn : n < 2 ^ 31) : Zx (nI n) (nI n).toInt64 := Zx.mk (fun i hi => by
  rw [Int32.toBitVec_toInt64, BitVec.getLsbD_signExtend]
  have e : (nI n).toBitVec = BitVec.ofNat 32 n := rfl
  by_cases q : i < 32
  · rw [if_pos q, decide_eq_true hi, Bool.true_and]
  · rw [if_neg q, BitVec.getLsbD_of_ge _ i (by omega), BitVec.msb_eq_decide, e, BitVec.toNat_ofNat, Nat.mod_eq_of_lt (by omega)]
    rw [decide_eq_false (show ¬ 2 ^ (32 - 1) ≤ n from Nat.not_le.mpr hn), Bool.and_false])
theorem bc_nat {n : Nat} (hn : n < 2 ^ 31) : bcF (nI n) = cntF (nI n).toInt64 32 := (zx_nat hn).cnt
theorem nI_m1_ne {n : Nat} (hn : n < 2 ^ 31) : ¬ nI n = -1 := fun z => by
  have h := congrArg Int32.toInt z
  rw [nI_toInt hn] at h
  have e : (-1 : Int32).toInt = -1 := by decide
  omega
theorem cnt_lt (a b : Nat) (ha : a ≤ 32) (hb : b ≤ 32) : (nI a - nI b < 0 ↔ nI a < nI b) ∧ (nI a - nI b = 0 ↔ a = b) := by
  have e : (nI a - nI b).toInt = (a : Int) - b := by
    rw [Int32.toInt_sub, nI_toInt (by omega), nI_toInt (by omega)]
    apply Int.bmod_eq_of_le <;> omega
  have e0 : (0 : Int32).toInt = 0 := by decide
  constructor
  · rw [Int32.lt_iff_toInt_lt, Int32.lt_iff_toInt_lt, e, nI_toInt (by omega), nI_toInt (by omega)]
    omega
  · rw [← Int32.toInt_inj, e, e0]
    omega
theorem fewer_asc {a b : Nat} (h : b < a) (ha : a < 2 ^ 31) : fewerF (nI a) (nI b) = if cntF (nI a).toInt64 32 < cntF (nI b).toInt64 32 then nI a else nI b := by
  unfold fewerF
  rw [bc_nat ha, bc_nat (by omega), cnt_N, cnt_N]
  obtain ⟨c1, c2⟩ := cnt_lt (cnN (nI a).toInt64 32) (cnN (nI b).toInt64 32) (cnN_le _ 32) (cnN_le _ 32)
  have n2 : ¬ nI a < nI b := fun z => by
    have := Int32.lt_iff_toInt_lt.mp z
    rw [nI_toInt ha, nI_toInt (by omega)] at this
    omega
  by_cases q : nI (cnN (nI a).toInt64 32) < nI (cnN (nI b).toInt64 32)
  · rw [if_pos (Or.inl (c1.mpr q)), if_pos q]
  · rw [if_neg (fun z => z.elim (fun y => q (c1.mp y)) (fun y => n2 y.2)), if_neg q]
theorem clB_some (C : Nat → Bool) : ∀ n, n < 2 ^ 31 → clB C n = -1 ∨ ∃ m, m < n ∧ clB C n = nI m
  | 0, _ => Or.inl rfl
  | n + 1, hn => by
    rw [clB]
    by_cases q : C n = true
    · rw [if_pos q]
      by_cases q2 : clB C n = -1
      · rw [if_pos q2]
        exact Or.inr ⟨n, by omega, rfl⟩
      · rw [if_neg q2]
        rcases clB_some C n (by omega) with e | ⟨m, hm, e⟩
        · exact absurd e q2
        · rw [e, fewer_asc hm (by omega)]
          split
          · exact Or.inr ⟨n, by omega, rfl⟩
          · exact Or.inr ⟨m, by omega, rfl⟩
    · rw [if_neg q]
      rcases clB_some C n (by omega) with e | ⟨m, hm, e⟩
      · exact Or.inl e
      · exact Or.inr ⟨m, by omega, e⟩
theorem clB_al {C : Nat → Bool} {P : Int32 → Bool} : ∀ n, n < 2 ^ 31 → (∀ m, m < n → C m = P (nI m)) → clB C n = beB P n
  | 0, _, _ => rfl
  | n + 1, hn, h => by
    have ih := clB_al n (by omega) (fun m hm => h m (by omega))
    rw [clB, beB, ← ih, h n (Nat.lt_succ_self n)]
    by_cases q : P (nI n) = true
    · rw [if_pos q]
      by_cases q2 : clB C n = -1
      · rw [if_pos q2, if_pos ⟨Or.inl q2, q⟩]
      · rw [if_neg q2]
        rcases clB_some C n (by omega) with e | ⟨m, hm, e⟩
        · exact absurd e q2
        · rw [e, fewer_asc hm (by omega)]
          by_cases q3 : cntF (nI n).toInt64 32 < cntF (nI m).toInt64 32
          · rw [if_pos q3, if_pos ⟨Or.inr q3, q⟩]
          · rw [if_neg q3, if_neg (fun z => z.1.elim (fun y => nI_m1_ne (by omega) y) q3)]
    · rw [if_neg q, if_neg (fun z => q z.2)]
/-- what both answer of it -/
theorem clO_al {C : Nat → Bool} {P : Int32 → Bool} {n : Nat} (hn : n < 2 ^ 31) (h : ∀ m, m < n → C m = P (nI m)) (what : Int32) : (if what = 1 ∨ clB C n = -1 then clB C n else bcF (clB C n)) = beO P n what := by
  unfold beO
  rw [clB_al n hn h]
  by_cases q : what = 1 ∨ beB P n = -1
  · rw [if_pos q, if_pos q]
  · rw [if_neg q, if_neg q]
    rcases clB_some C n hn with e | ⟨m, hm, e⟩
    · rw [clB_al n hn h] at e
      exact absurd (Or.inr e) q
    · rw [clB_al n hn h] at e
      rw [e]
      exact bc_nat (by omega)
theorem mad_al (h : RInv M nt ns nk ta) (k : KR S M) (a : Int32) : ∀ m, m ≤ nk → Zx (madF S a m) (mdT M a m)
  | 0, _ => law_al h k
  | m + 1, hm => by
    have ih := mad_al h k a m (by omega)
    obtain ⟨p0, -, -⟩ := part_al h k (show m < nk by omega)
    obtain ⟨-, -, -, b0, -, -⟩ := tk_ok h.1 (show m < nk by omega)
    rw [madF, mdT, p0]
    have e : mdP M a m ↔ bitF a (nI (tk M m 0)) = 1 := sshr_bit a (by omega)
    by_cases q : bitF a (nI (tk M m 0)) = 1
    · rw [if_pos q, if_pos (e.mpr q)]
      exact ih.and (as_al h k (by omega) (by decide))
    · rw [if_neg q, if_neg (fun z => q (e.mp z))]
      exact ih.and (say_al h k (by omega))
theorem madL_cl (S : CS) (nk : Nat) : ∀ n, madL S nk n = clB (fun m => decide (¬ madF S (nI m) nk = 0)) n
  | 0 => rfl
  | n + 1 => by
    rw [madL, clB, madL_cl S nk n]
    by_cases q : madF S (nI n) nk = 0
    · rw [if_pos q, if_neg (by rw [decide_eq_true_iff]; exact fun z => z q)]
    · rw [if_neg q, if_pos (decide_eq_true q)]
theorem w2_iff {what : Int32} : (0 ≤ what ∧ what < 2) ↔ p1P what := x2_iff
theorem pow_le {n b : Nat} (h : n ≤ b) (hb : 2 ^ b < 2 ^ 31) : 2 ^ n < 2 ^ 31 := Nat.lt_of_le_of_lt (Nat.pow_le_pow_right (by decide) h) hb
theorem S_mad (r : REL S M) (what : Int32) : StE l X S M 6 sgX7_mad [.ref 0, .int what] 5 sgX8_mad [.ref 27, .int what] := by
  obtain ⟨nt, ns, nk, ta, h⟩ := id r.1
  have c := c_mad (l := l) (X := X) (T := encM M) (KR.ki h r.2).1 what
  have e : madA S ns nk what = mdG M ns nk what := by
    unfold madA mdG
    by_cases q : p1P what
    · rw [if_neg (fun z => z (w2_iff.mpr q)), if_pos q, madL_cl]
      refine clO_al (pow_le h.1.2.2.2.1.2 (by decide)) (fun m _ => ?_) what
      have w := mad_al h r.2 (nI m) nk (Nat.le_refl _)
      show decide (¬ madF S (nI m) nk = 0) = decide (¬ mdT M (nI m) nk = 0)
      rw [decide_eq_decide]
      exact not_congr w.zero
    · rw [if_pos (fun z => q (w2_iff.mp z)), if_neg q]
  rw [e] at c
  exact ste r (an_B c) (fun B => g_mad h.1 what)
/-! kinds -/
theorem all_al (h : RInv M nt ns nk ta) (k : KR S M) {s of w : Nat} (hs : s < 5) (ho : of < 6) (hw : w < 32) : ∀ m, m ≤ nk → (bitF (allF S (nI s) (nI of) m) (nI w) = 1 ↔ kiI M s (nI w) of m = true)
  | 0, _ => by
    rw [allF, kiI, bitF_get _ hw, bv_m1, decide_eq_true hw]
  | m + 1, hm => by
    have ih := all_al h k hs ho hw m (by omega)
    obtain ⟨p0, -, -⟩ := part_al h k (show m < nk by omega)
    obtain ⟨-, -, -, b0, -, -⟩ := tk_ok h.1 (show m < nk by omega)
    have ofk : (0 : Int32) ≤ nI of ∧ nI of ≤ 5 := by
      have a : ∀ j : Fin 6, (0 : Int32) ≤ nI j.val ∧ nI j.val ≤ 5 := by decide
      exact a ⟨of, ho⟩
    have za := as_al h k (show m < nk by omega) ofk
    rw [allF, kiI, p0]
    by_cases q : tk M m 0 = s
    · rw [if_pos (by rw [q])]
      rw [bitF_get _ hw, Int32.toBitVec_and, BitVec.getLsbD_and, Bool.and_eq_true, ← bitF_get _ hw, ← bitF_get _ hw, ih, za.has hw]
      by_cases q2 : kiI M s (nI w) of m = true
      · rw [if_pos q2]
        by_cases q3 : hsP (asT M m (nI of)) (nI w)
        · rw [if_pos (Or.inr q3)]
          exact ⟨fun _ => rfl, fun _ => ⟨q2, q3⟩⟩
        · rw [if_neg (fun z => z.elim (fun y => y q) q3)]
          exact ⟨fun z => absurd z.2 q3, fun z => by cases z⟩
      · rw [if_neg q2]
        exact ⟨fun z => absurd z.1 q2, fun z => by cases z⟩
    · rw [if_neg (fun z => q (nI_inj (by omega) (by omega) z)), ih]
      by_cases q2 : kiI M s (nI w) of m = true
      · rw [if_pos q2, if_pos (Or.inl q)]
        exact ⟨fun _ => rfl, fun _ => q2⟩
      · rw [if_neg q2]
        exact ⟨fun z => absurd z q2, fun z => by cases z⟩
theorem kinds_al (h : RInv M nt ns nk ta) (k : KR S M) {s w : Nat} (hs : s < 5) (hw : w < 32) : ∀ m, m ≤ 6 → kindsF S nk (nI s) (nI w) m = kiT M nk s (nI w) m
  | 0, _ => rfl
  | m + 1, hm => by
    rw [kindsF, kiT, kinds_al h k hs hw m (by omega)]
    have e := all_al h k hs (show m < 6 by omega) hw nk (Nat.le_refl _)
    by_cases q : kiI M s (nI w) m nk = true
    · rw [if_pos (e.mpr q), if_pos q]
    · rw [if_neg (fun z => q (e.mp z)), if_neg q]
      exact (Int32.or_zero).symm
theorem x32_iff {w : Int32} : kxP 32 w ↔ wdP w := and_congr_right (fun _ => ltle (by decide))
theorem S_kinds (r : REL S M) (s w : Int32) : StE l X S M 5 sgX7_kinds [.ref 0, .int s, .int w] 5 sgX8_kinds [.ref 27, .int s, .int w] := by
  obtain ⟨nt, ns, nk, ta, h⟩ := id r.1
  have ki := KR.ki h r.2
  have c := c_kinds (l := l) (X := X) (T := encM M) ki.1 s w
  have h5 := h.1.2.2.2.1.2
  have e : kindsA S nk s w = kiG M ns nk s w := by
    unfold kindsA kiG
    rw [ki.1.2.2.2.1]
    by_cases q : tP ns s ∧ wdP w
    · rw [if_pos ⟨(xp_iff (by omega)).mpr q.1, x32_iff.mpr q.2⟩, if_pos q]
      obtain ⟨a, ha, rfl⟩ := inN (by omega) q.1
      obtain ⟨b, hb, rfl⟩ := inC (c := 31) (n := 31) (by decide) (by decide) q.2
      rw [nI_clamp (by omega)]
      exact kinds_al h r.2 (by omega) (by omega) 6 (Nat.le_refl _)
    · rw [if_neg (fun z => q ⟨(xp_iff (by omega)).mp z.1, x32_iff.mp z.2⟩), if_neg q]
  rw [e] at c
  exact ste r (an_B c) (fun B => g_kinds h.1 s w)
end Q1
