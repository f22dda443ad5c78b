/-! WORLDS ALIKE: what is said, what fits -/
section FITAL
variable {S : CS} {M : MS} {nt ns nk ta : Nat}
theorem one_sub {u : Nat} (hu : u < 2) : (1 : Int32) - nI u = nI (1 - u) := by
  rcases (show u = 0 ∨ u = 1 by omega) with rfl | rfl <;> decide
theorem mtF_ix {t who u : Nat} (hw : who < 5) (hu : u < 2) : mtF M (10 * t + 2 * who + u) = soF M u t (nI who) 32 := by
  unfold mtF
  rw [show (10 * t + 2 * who + u) % 2 = u by omega, show (10 * t + 2 * who + u) / 10 = t by omega, show (10 * t + 2 * who + u) / 2 % 5 = who by omega]
theorem side_al (h : RInv M nt ns nk ta) (k : KR S M) {t who u : Nat} (ht : t < nt) (hw : who < 5) (hu : u < 2) : Zx (sideF S (nI t) (nI who) (nI u)) (mtF M (10 * t + 2 * who + u)) := by
  have h96 := h.1.2.2.1.2.2
  have tx := k.tx.2.2
  rw [h.1.2.2.1.1, nI_clamp (by omega)] at tx
  obtain ⟨z0, z1, -⟩ := tx t ht who hw
  rw [mtF_ix hw hu]
  unfold sideF
  rw [show nI t * 5 = nI (t * 5) from nI_mul t 5, nI_add, atF_n (by omega), Nat.mul_comm t 5]
  rcases (show u = 0 ∨ u = 1 by omega) with rfl | rfl
  · exact z0
  · exact z1
theorem cost_al (h : RInv M nt ns nk ta) (k : KR S M) {t who : Nat} (ht : t < nt) (hw : who < 5) : costF S (nI t) (nI who) = saysF M 2 t 0 (nI who) := by
  have h96 := h.1.2.2.1.2.2
  have tx := k.tx.2.2
  rw [h.1.2.2.1.1, nI_clamp (by omega)] at tx
  unfold costF
  rw [show nI t * 5 = nI (t * 5) from nI_mul t 5, nI_add, atF_n (by omega), Nat.mul_comm t 5]
  exact (tx t ht who hw).2.2
theorem once_al (h : RInv M nt ns nk ta) (k : KR S M) {t : Nat} (ht : t < nt) : Zx (onceF S (nI t)) (mtF M (10 * t)) := side_al h k ht (who := 0) (u := 0) (by decide) (by decide)
/-! who can say what -/
theorem zz_m1 {p : Int32} {P : Int64} (hp : Zx p P) : Zx (p ^^^ -1) (4294967295 &&& (P ^^^ -1)) := Zx.mk (fun i hi => by
  rw [Int64.toBitVec_and, Int64.toBitVec_xor, Int32.toBitVec_xor, BitVec.getLsbD_and, BitVec.getLsbD_xor, BitVec.getLsbD_xor, hp.get, bl_all, bl_m1, bv_m1, decide_eq_true hi]
  by_cases q : i < 32
  · rw [decide_eq_true q, Bool.true_and]
  · rw [decide_eq_false q, Bool.false_and, BitVec.getLsbD_of_ge _ _ (by omega)]; rfl)
theorem zz_pq {p q : Int32} {P Q : Int64} (hp : Zx p P) (hq : Zx q Q) : Zx (p &&& (q ^^^ -1)) ((P ^^^ Q) &&& P) := Zx.mk (fun i hi => by
  rw [Int64.toBitVec_and, Int64.toBitVec_xor, Int32.toBitVec_and, Int32.toBitVec_xor, BitVec.getLsbD_and, BitVec.getLsbD_xor, BitVec.getLsbD_and, BitVec.getLsbD_xor, hp.get, hq.get, bv_m1]
  by_cases h : i < 32
  · rw [decide_eq_true h]
    cases p.toBitVec.getLsbD i <;> cases q.toBitVec.getLsbD i <;> rfl
  · rw [BitVec.getLsbD_of_ge p.toBitVec i (by omega)]
    cases q.toBitVec.getLsbD i <;> rfl)
theorem zz_qp {p q : Int32} {P Q : Int64} (hp : Zx p P) (hq : Zx q Q) : Zx (q &&& (p ^^^ -1)) ((P ^^^ Q) &&& Q) := Zx.mk (fun i hi => by
  rw [Int64.toBitVec_and, Int64.toBitVec_xor, Int32.toBitVec_and, Int32.toBitVec_xor, BitVec.getLsbD_and, BitVec.getLsbD_xor, BitVec.getLsbD_and, BitVec.getLsbD_xor, hp.get, hq.get, bv_m1]
  by_cases h : i < 32
  · rw [decide_eq_true h]
    cases p.toBitVec.getLsbD i <;> cases q.toBitVec.getLsbD i <;> rfl
  · rw [BitVec.getLsbD_of_ge p.toBitVec i (by omega), BitVec.getLsbD_of_ge q.toBitVec i (by omega)]; rfl)
theorem zz_qn {p q : Int32} {P Q : Int64} (hp : Zx p P) (hq : Zx q Q) : Zx (p ^^^ -1) (((P ^^^ Q) &&& Q) ||| (4294967295 &&& (P ^^^ -1) &&& (Q ^^^ -1))) := Zx.mk (fun i hi => by
  rw [Int64.toBitVec_or, Int64.toBitVec_and, Int64.toBitVec_and, Int64.toBitVec_and, Int64.toBitVec_xor, Int64.toBitVec_xor, Int64.toBitVec_xor, Int32.toBitVec_xor, BitVec.getLsbD_or, BitVec.getLsbD_and, BitVec.getLsbD_and, BitVec.getLsbD_and, BitVec.getLsbD_xor, BitVec.getLsbD_xor, BitVec.getLsbD_xor, BitVec.getLsbD_xor, hp.get, hq.get, bv_m1, bl_m1, bl_all, decide_eq_true hi]
  by_cases h : i < 32
  · rw [decide_eq_true h]
    cases p.toBitVec.getLsbD i <;> cases q.toBitVec.getLsbD i <;> rfl
  · rw [decide_eq_false h, BitVec.getLsbD_of_ge p.toBitVec i (by omega), BitVec.getLsbD_of_ge q.toBitVec i (by omega)]; rfl)
theorem zz_or0 {p : Int32} {P : Int64} (hp : Zx p P) : Zx p (P ||| 0) := by
  rw [show P ||| 0 = P from Int64.or_zero]
  exact hp
def canX (k much n : Int32) (p q one : Int64) : Int64 := if k = 1 ∨ k = 3 then one &&& (if k = 3 ∧ n - n / (much + 2) * (much + 2) = 0 then q else p)
  else if k = 2 ∨ k = 5 then (one &&& q) ||| (if k = 5 ∧ ¬ n < much then 4294967295 &&& (p ^^^ -1) &&& (q ^^^ -1) else 0)
  else if k = 4 then 4294967295 &&& (one ^^^ -1) else one
theorem canX_eq (k much n : Int32) (p q : Int64) : canL k much n p q = canX k much n p q (p ^^^ q) := rfl
theorem can_al {kind more n p q : Int32} {P Q : Int64} (hk : Kd kind more) (hp : Zx p P) (hq : Zx q Q) : Zx (canF kind more n p q) (canL kind more n P Q) := by
  obtain ⟨⟨k0, k5⟩, m0, m9⟩ := hk
  obtain ⟨j, hj, rfl⟩ := inC (c := 5) (n := 5) (by decide) (by decide) ⟨k0, k5⟩
  have hm : ¬ more + 2 ≤ 0 := by
    obtain ⟨m, hm, rfl⟩ := inC (c := 9) (n := 9) (by decide) (by decide) ⟨m0, m9⟩
    have : ∀ m : Fin 10, ¬ nI m.val + 2 ≤ 0 := by decide
    exact this ⟨m, by omega⟩
  rcases (show j = 0 ∨ j = 1 ∨ j = 2 ∨ j = 3 ∨ j = 4 ∨ j = 5 by omega) with rfl | rfl | rfl | rfl | rfl | rfl
  · exact hp.xor hq
  · have e : canL (nI 1) more n P Q = (P ^^^ Q) &&& P := by
      rw [canX_eq]
      unfold canX
      rw [if_pos (show nI 1 = 1 ∨ nI 1 = 3 from Or.inl rfl), if_neg (show ¬ (nI 1 = 3 ∧ n - n / (more + 2) * (more + 2) = 0) from fun z => absurd z.1 (by decide))]
    rw [e]
    exact zz_pq hp hq
  · have e : canL (nI 2) more n P Q = ((P ^^^ Q) &&& Q) ||| 0 := by
      rw [canX_eq]
      unfold canX
      rw [if_neg (by decide), if_pos (show nI 2 = 2 ∨ nI 2 = 5 from Or.inl rfl), if_neg (show ¬ (nI 2 = 5 ∧ ¬ n < more) from fun z => absurd z.1 (by decide))]
    rw [e]
    exact zz_or0 (zz_qp hp hq)
  · have e : canL (nI 3) more n P Q = (P ^^^ Q) &&& (if n - n / (more + 2) * (more + 2) = 0 then Q else P) := by
      rw [canX_eq]
      unfold canX
      rw [if_pos (show nI 3 = 1 ∨ nI 3 = 3 from Or.inr rfl)]
      by_cases t : n - n / (more + 2) * (more + 2) = 0
      · rw [if_pos ⟨rfl, t⟩, if_pos t]
      · rw [if_neg (fun z => t z.2), if_neg t]
    have e2 : canF (nI 3) more n p q = if turnsF n more = 0 then p &&& (q ^^^ -1) else q &&& (p ^^^ -1) := (if_neg (by decide)).trans ((if_neg (by decide)).trans (if_pos rfl))
    rw [e, e2]
    unfold turnsF
    rw [if_neg hm]
    by_cases t : n - n / (more + 2) * (more + 2) = 0
    · rw [if_pos t, if_pos t, if_neg (by decide)]
      exact zz_qp hp hq
    · rw [if_neg t, if_neg t, if_pos rfl]
      exact zz_pq hp hq
  · have e : canL (nI 4) more n P Q = 4294967295 &&& ((P ^^^ Q) ^^^ -1) := by
      rw [canX_eq]
      unfold canX
      rw [if_neg (by decide), if_neg (by decide), if_pos (show nI 4 = 4 from rfl)]
    rw [e]
    exact zz_m1 (hp.xor hq)
  · have e : canL (nI 5) more n P Q = ((P ^^^ Q) &&& Q) ||| (if ¬ n < more then 4294967295 &&& (P ^^^ -1) &&& (Q ^^^ -1) else 0) := by
      rw [canX_eq]
      unfold canX
      rw [if_neg (by decide), if_pos (show nI 5 = 2 ∨ nI 5 = 5 from Or.inr rfl)]
      by_cases t : n < more
      · rw [if_neg (fun z => z.2 t), if_neg (fun z => z t)]
      · rw [if_pos ⟨rfl, t⟩, if_pos t]
    have e2 : canF (nI 5) more n p q = if n < more then q &&& (p ^^^ -1) else p ^^^ -1 := (if_neg (by decide)).trans ((if_neg (by decide)).trans ((if_neg (by decide)).trans ((if_neg (by decide)).trans (if_pos rfl))))
    rw [e, e2]
    by_cases t : n < more
    · rw [if_pos t, if_neg (fun z => z t)]
      exact zz_or0 (zz_qp hp hq)
    · rw [if_neg t, if_pos t]
      exact zz_qn hp hq
theorem kd_al (h : RInv M nt ns nk ta) {s : Nat} (hs : s < 5) : Kd ((M.2.1 1).getD s 0) ((M.2.1 2).getD s 0) := h.1.2.2.2.2.2.2.1 s hs
theorem kind_al (k : KR S M) {s : Nat} (hs : s < 5) : atF (S.2 14) (nI s) = (M.2.1 1).getD s 0 ∧ atF (S.2 15) (nI s) = (M.2.1 2).getD s 0 := by
  obtain ⟨-, -, -, r1, r2, -⟩ := k.rt
  rw [r1, r2, atF_n (by omega), atF_n (by omega)]
  exact ⟨rfl, rfl⟩
theorem next_al (h : RInv M nt ns nk ta) (k : KR S M) {s t u : Nat} (hs : s < 5) (ht : t < nt) (hu : u < 2) (n : Int32) : Zx (nextF S (nI s) (nI t) (nI u) n) (fitT M s t u n) := by
  unfold nextF fitT
  rw [(kind_al k hs).1, (kind_al k hs).2, one_sub hu, show 10 * t + 2 * s + 1 - u = 10 * t + 2 * s + (1 - u) by omega]
  exact can_al (kd_al h hs) (side_al h k ht hs hu) (side_al h k ht hs (by omega))
theorem part_al (h : RInv M nt ns nk ta) (k : KR S M) {i : Nat} (hi : i < nk) : partF S (nI i) 0 = nI (tk M i 0) ∧ partF S (nI i) 1 = nI (tk M i 1) ∧ partF S (nI i) 2 = nI (tk M i 2) := by
  obtain ⟨-, -, -, -, -, r4⟩ := k.rt
  have h12 := h.1.2.2.2.2.1.2
  obtain ⟨e0, e1, e2, -⟩ := tk_ok h.1 hi
  unfold partF
  rw [r4, show (3 : Int32) * nI i = nI (3 * i) from nI_mul 3 i]
  refine ⟨?_, ?_, ?_⟩
  · rw [show nI (3 * i) + 0 = nI (3 * i) from Int32.add_zero _, atF_n (by omega)]; exact e0
  · rw [show nI (3 * i) + 1 = nI (3 * i + 1) from nI_add _ 1, atF_n (by omega)]; exact e1
  · rw [show nI (3 * i) + 2 = nI (3 * i + 2) from nI_add _ 2, atF_n (by omega)]; exact e2
theorem pq_al (h : RInv M nt ns nk ta) (k : KR S M) {i : Nat} (hi : i < nk) : Zx (firstF S (nI i)) (mtF M (10 * tk M i 1 + 2 * tk M i 0 + tk M i 2)) ∧ Zx (secondF S (nI i)) (mtF M (10 * tk M i 1 + 2 * tk M i 0 + 1 - tk M i 2)) := by
  obtain ⟨p0, p1, p2⟩ := part_al h k hi
  obtain ⟨-, -, -, b0, b1, b2⟩ := tk_ok h.1 hi
  unfold firstF secondF
  rw [p0, p1, p2, one_sub b2, show 10 * tk M i 1 + 2 * tk M i 0 + 1 - tk M i 2 = 10 * tk M i 1 + 2 * tk M i 0 + (1 - tk M i 2) by omega]
  exact ⟨side_al h k b1 b0 b2, side_al h k b1 b0 (by omega)⟩
theorem as_al (h : RInv M nt ns nk ta) (k : KR S M) {i : Nat} (hi : i < nk) {kind : Int32} (hk : (0 : Int32) ≤ kind ∧ kind ≤ 5) : Zx (asF S (nI i) kind) (asT M i kind) := by
  obtain ⟨p0, p1, p2⟩ := part_al h k hi
  obtain ⟨-, -, -, b0, b1, b2⟩ := tk_ok h.1 hi
  obtain ⟨z1, z2⟩ := pq_al h k hi
  unfold asF asT
  rw [p0, (kind_al k b0).2]
  exact can_al ⟨hk, (kd_al h b0).2⟩ z1 z2
theorem say_al (h : RInv M nt ns nk ta) (k : KR S M) {i : Nat} (hi : i < nk) : Zx (sayF S (nI i)) (fsT M i) := by
  obtain ⟨p0, p1, p2⟩ := part_al h k hi
  obtain ⟨-, -, -, b0, b1, b2⟩ := tk_ok h.1 hi
  unfold sayF
  rw [p0, (kind_al k b0).1]
  exact as_al h k hi (kd_al h b0).1
theorem law_al (h : RInv M nt ns nk ta) (k : KR S M) : Zx (lawF S) (woT M 0) := by
  obtain ⟨r, hr, er, ec⟩ := rl_ok h.1
  obtain ⟨-, -, r10, -⟩ := k.rt
  unfold lawF woT
  rw [ec, r10, er]
  exact once_al h k hr
theorem fit_al (h : RInv M nt ns nk ta) (k : KR S M) : ∀ m, m ≤ nk → Zx (fitF S m) (woT M m)
  | 0, _ => law_al h k
  | m + 1, hm => (fit_al h k m (by omega)).and (say_al h k (by omega))
/-- a bit of a number, shifted with its sign -/
theorem sshr_get (a : Int32) {w : Nat} (hw : w < 32) : a >>> (nI w &&& 31) &&& 1 = 1 ↔ a.toBitVec.getLsbD w = true := by
  have e : (a >>> (nI w &&& 31) &&& 1) = bitF a (nI w) := by
    apply b_ext
    intro i hi
    unfold bitF
    rw [b_and, b_and]
    by_cases q : i = 0
    · subst q
      rw [b_sshr w hw a (by decide), b_ushr w hw a, if_pos (by omega)]
    · have : btx 1 i = false := by
        have a : ∀ j : Fin 32, ¬ j.val = 0 → btx 1 j.val = false := by decide +kernel
        exact a ⟨i, hi⟩ q
      rw [this, Bool.and_false, Bool.and_false]
  rw [e]
  exact bitF_get a hw
theorem sshr_bit (a : Int32) {w : Nat} (hw : w < 32) : a >>> (nI w &&& 31) &&& 1 = 1 ↔ bitF a (nI w) = 1 := (sshr_get a hw).trans (bitF_get a hw).symm
end FITAL
