/-! QUESTIONS ALIKE: drawn, mean -/
section Q7
variable {l : Launch} {X : List (List Int32)} {S : CS} {T : AH} {M : MS} {nt ns nk ta : Nat}
theorem sub_1 (i a : Int32) : i - (a + 1) = i - a + Int32.ofInt (-1) := by
  apply Int32.toBitVec_inj.mp
  rw [Int32.toBitVec_sub, Int32.toBitVec_add, Int32.toBitVec_add, Int32.toBitVec_sub, show (1 : Int32).toBitVec = 1#32 from rfl, show (Int32.ofInt (-1)).toBitVec = 4294967295#32 from rfl]
  generalize i.toBitVec = x
  generalize a.toBitVec = y
  bv_omega
theorem sub_0 {i a : Int32} : a = i ↔ i - a = 0 := by
  rw [← Int32.toBitVec_inj, ← Int32.toBitVec_inj (a := i - a), Int32.toBitVec_sub, show (0 : Int32).toBitVec = 0#32 from rfl]
  generalize i.toBitVec = x
  generalize a.toBitVec = y
  constructor
  · rintro rfl
    exact BitVec.sub_self _
  · intro h
    bv_omega
theorem wn_al {a : Int32} {A : Int64} (hz : Zx a A) (i : Int32) : ∀ m w ahead, w + m ≤ 32 → wnF a i m w ahead = waF A m w (i - ahead)
  | 0, _, _, _ => rfl
  | m + 1, w, ahead, h => by
    have e := hz.has (show w < 32 by omega)
    rw [wnF, waF]
    by_cases q : hsP A (nI w)
    · rw [if_pos (e.mpr q), if_pos (show (A >>> ((nI w).toInt64 &&& 63)) &&& 1 = 1 from q)]
      by_cases y : ahead = i
      · rw [if_pos y, if_pos (sub_0.mp y)]
      · rw [if_neg y, if_neg (fun z => y (sub_0.mpr z)), wn_al hz i m (w + 1) (ahead + 1) (by omega), sub_1]
    · rw [if_neg (fun z => q (e.mp z)), if_neg (show ¬ (A >>> ((nI w).toInt64 &&& 63)) &&& 1 = 1 from q)]
      exact wn_al hz i m (w + 1) ahead (by omega)
/-- bits from one on -/
def cnR (A : Int64) : Nat → Nat → Nat
  | 0, _ => 0
  | m + 1, w => (if hsP A (nI w) then 1 else 0) + cnR A m (w + 1)
theorem cnR_N (A : Int64) : ∀ m w, cnN A (w + m) = cnN A w + cnR A m w
  | 0, w => rfl
  | m + 1, w => by
    rw [show w + (m + 1) = (w + 1) + m by omega, cnR_N A m (w + 1), cnN, cnR]
    omega
theorem wa_in (A : Int64) : ∀ m w i, i < cnR A m w → ∃ v, v < w + m ∧ waF A m w (nI i) = nI v
  | 0, w, i, h => absurd h (Nat.not_lt_zero _)
  | m + 1, w, i, h => by
    rw [cnR] at h
    rw [waF]
    by_cases q : hsP A (nI w)
    · rw [if_pos (show (A >>> ((nI w).toInt64 &&& 63)) &&& 1 = 1 from q)]
      rw [if_pos q] at h
      by_cases y : i = 0
      · subst y
        rw [if_pos (show nI 0 = 0 from rfl)]
        exact ⟨w, by omega, rfl⟩
      · by_cases y2 : nI i = 0
        · rw [if_pos y2]
          exact ⟨w, by omega, rfl⟩
        · rw [if_neg y2, nI_dec (by omega)]
          obtain ⟨v, hv, e⟩ := wa_in A m (w + 1) (i - 1) (by omega)
          exact ⟨v, by omega, e⟩
    · rw [if_neg (show ¬ (A >>> ((nI w).toInt64 &&& 63)) &&& 1 = 1 from q)]
      rw [if_neg q] at h
      obtain ⟨v, hv, e⟩ := wa_in A m (w + 1) i (by omega)
      exact ⟨v, by omega, e⟩
theorem oN_mul (a b : Nat) : Int64.ofNat a * Int64.ofNat b = Int64.ofNat (a * b) := (Int64.ofNat_mul a b).symm
theorem oN_div {a b : Nat} (ha : a < 2 ^ 63) (hb : b < 2 ^ 63) : Int64.ofNat a / Int64.ofNat b = Int64.ofNat (a / b) := by
  apply Int64.toInt_inj.mp
  have hd : a / b ≤ a := Nat.div_le_self a b
  rw [Int64.toInt_div, Int64.toInt_ofNat_of_lt ha, Int64.toInt_ofNat_of_lt hb, Int64.toInt_ofNat_of_lt (by omega)]
  rw [show Int.tdiv (a : Int) (b : Int) = ((a / b : Nat) : Int) from rfl]
  generalize a / b = c at hd ⊢
  apply Int.bmod_eq_of_le <;> omega
theorem oN_rem {a b : Nat} (ha : a < 2 ^ 63) (hb : b < 2 ^ 63) : Int64.ofNat a - Int64.ofNat a / Int64.ofNat b * Int64.ofNat b = Int64.ofNat (a % b) := by
  rw [oN_div ha hb, oN_mul]
  have h2 : a = a % b + a / b * b := by rw [Nat.mul_comm, Nat.mod_add_div]
  have : Int64.ofNat a = Int64.ofNat (a % b) + Int64.ofNat (a / b * b) := by rw [oN_add, ← h2]
  rw [this]
  exact Int64.add_sub_cancel _ _
theorem lo_N {s : Nat} (hs : s < 2 ^ 20) : loN ((nI s).toInt64 + 1) = Int64.ofNat ((s + 1) * 48271 % 2147483647) := by
  have e : (nI s).toInt64 + 1 = Int64.ofNat (s + 1) := by
    rw [nI_64 (by omega), show (1 : Int64) = Int64.ofNat 1 from rfl, oN_add]
  have e2 : Int64.ofNat (s + 1) * 48271 = Int64.ofNat ((s + 1) * 48271) := oN_mul (s + 1) 48271
  rw [e]
  unfold loN
  rw [e2]
  exact oN_rem (b := 2147483647) (by omega) (by omega)
theorem small_32 : ∀ m : Fin 33, (Int64.ofNat m.val).toInt32 = nI m.val := by decide +kernel
/-- the stranger's world is one -/
theorem truth_in {A : Int64} (hA : Lo A) (hn : ¬ A = 0) {s : Nat} (hs : s < 2 ^ 20) : ∃ w, w < 32 ∧ waF A 32 0 (loN ((nI s).toInt64 + 1) - loN ((nI s).toInt64 + 1) / (cntF A 32).toInt64 * (cntF A 32).toInt64).toInt32 = nI w := by
  obtain ⟨w, hw, hb⟩ := lo_some hA hn
  have h1 := cnN_pos hb 32 hw
  have h2 := cnN_le A 32
  have h3 := cnR_N A 32 0
  rw [show cnN A (0 + 32) = cnN A 32 from rfl, show cnN A 0 = 0 from rfl, Nat.zero_add] at h3
  have hm : (s + 1) * 48271 % 2147483647 < 2147483647 := Nat.mod_lt _ (by omega)
  rw [lo_N hs, cnt_N, nI_64 (by omega)]
  generalize (s + 1) * 48271 % 2147483647 = z at hm ⊢
  generalize cnN A 32 = c at h1 h2 h3 ⊢
  have hr : z % c < c := Nat.mod_lt _ h1
  rw [oN_rem (by omega) (by omega), small_32 ⟨z % c, by omega⟩]
  obtain ⟨v, hv, e⟩ := wa_in A 32 0 (z % c) (by omega)
  exact ⟨v, by omega, e⟩
theorem ans_al (h : RInv M nt ns nk ta) (k : KR S M) {B : BQ} {s t w : Nat} (hs : s < 5) (ht : t < nt) (hw : w < 32) (b1 : B.1 = nI s) (b2 : B.2.1 = nI t) {n : Int32} {p : Prop} [Decidable p] {left : Int32} {L : Int64} (hz : Zx left L) :
    Zx (left &&& ansF S B (nI w) n (bI p)) (L &&& (if hsP (fitT M s t 0 n) (nI w) ∧ (¬ hsP (fitT M s t 1 n) (nI w) ∨ p) then fitT M s t 0 n else if hsP (fitT M s t 1 n) (nI w) then fitT M s t 1 n else ALLW)) := by
  have z0 : Zx (nextF S (nI s) (nI t) 0 n) (fitT M s t 0 n) := next_al h k hs ht (u := 0) (by decide) n
  have z1 : Zx (nextF S (nI s) (nI t) 1 n) (fitT M s t 1 n) := next_al h k hs ht (u := 1) (by decide) n
  have f0 := z0.has hw
  have f1 := z1.has hw
  unfold ansF
  rw [b1, b2]
  by_cases q : hsP (fitT M s t 0 n) (nI w) ∧ (¬ hsP (fitT M s t 1 n) (nI w) ∨ p)
  · rw [if_pos q, if_pos ⟨f0.mpr q.1, q.2.elim (fun y => Or.inl (fun z => y (f1.mp z))) (fun y => Or.inr (bI_n0.mpr y))⟩]
    exact hz.and z0
  · rw [if_neg q, if_neg (fun z => q ⟨f0.mp z.1, z.2.elim (fun y => Or.inl (fun y2 => y (f1.mpr y2))) (fun y => Or.inr (bI_n0.mp y))⟩)]
    by_cases q2 : hsP (fitT M s t 1 n) (nI w)
    · rw [if_pos q2, if_pos (f1.mpr q2)]
      exact hz.and z1
    · rw [if_neg q2, if_neg (fun z => q2 (f1.mp z))]
      rw [show left &&& (-1 : Int32) = left from Int32.and_neg_one]
      exact zz_all hz
theorem sal_al (h : RInv M nt ns nk ta) (k : KR S M) {w : Nat} (hw : w < 32) : ∀ m i (B : BQ) {left : Int32} {L : Int64} (lot : Int64), Zx left L → (saL S nt ns nk (nI w) m i B left lot).2 = agF M nt ns nk (nI w) m i L lot
  | 0, _, _, _, _, _, _ => rfl
  | m + 1, i, B, left, L, lot, hz => by
    have h5 := h.1.2.2.2.1.2
    have h6 := h.1.2.2.1.2.2
    have n1 := h.1.2.2.1.2.1
    rw [saL, agF]
    rw [hz.cnt]
    by_cases q : cntF L 32 ≤ 1
    · rw [if_pos q, if_pos q]
    · rw [if_neg q, if_neg q]
      by_cases q2 : ns = 0
      · rw [if_pos q2, if_pos q2]
      · rw [if_neg q2, if_neg q2]
        have e134 : S.1 134 = nI nk := (KR.ki h k).1.2.2.2.2.2.1
        rw [e134]
        have kk : 0 < ns * nt := Nat.mul_pos (by omega) (by omega)
        have f := fb_al (S := setB S B) h (k.setB B) hz (nI nk + nI i) ns (Nat.le_refl _)
        rcases f with ⟨h0, -, -⟩ | ⟨-, s, t, hs, ht, b1, b2, q1, -, -, -⟩
        · omega
        · have t10 := ten ⟨s, hs⟩ ⟨t, by omega⟩
          have d1 : (qsT M L (nI nk + nI i) nt (ns * nt)).1 / 10 = nI s := by rw [q1]; exact t10.1
          have d2 : (qsT M L (nI nk + nI i) nt (ns * nt)).1 - (qsT M L (nI nk + nI i) nt (ns * nt)).1 / 10 * 10 = nI t := by rw [q1]; exact t10.2
          dsimp only
          rw [d2, d1, nI_clamp (by omega), nI_clamp (by omega)]
          exact sal_al h k hw m (i + 1) _ (loN lot) (ans_al h k hs ht hw b1 b2 hz)
theorem sa_al (h : RInv M nt ns nk ta) (k : KR S M) (hne : ¬ woT M nk = 0) {s : Nat} (hs : s < 2 ^ 20) {fit : Int32} (hz : Zx fit (woT M nk)) : (saA S nt ns nk (nI s) fit).2 = agA M nt ns nk (woT M nk) (nI s) := by
  unfold saA agA
  rw [hz.cnt, wn_al hz _ 32 0 0 (by omega), Int32.sub_zero]
  obtain ⟨w, hw, e⟩ := truth_in (woT_lo nk) hne hs
  rw [show lotF ((nI s).toInt64 + 1) = loN ((nI s).toInt64 + 1) from rfl, e]
  exact sal_al h k hw 6 0 _ _ hz
theorem inS {v : Int32} (h : (0 : Int32) ≤ v ∧ v ≤ 99999) : ∃ k : Nat, k ≤ 99999 ∧ v = nI k := inC (c := 99999) (n := 99999) (by decide) (by decide) h
set_option maxRecDepth 100000 in
theorem P_drawn (h : RInv M nt ns nk ta) (k : KR S M) (seed : Int32) : Ctr l 7 X sgX7_drawn [.ref 0, .int seed] (mk S M) (bvQ S M (drG M nt ns nk seed)) := by
  have q := KR.ki h k
  have hz := fit_al h k nk (Nat.le_refl _)
  refine Ctr.of okX7_drawn rfl (Nat.le_of_ble_eq_true rfl) (run_sound okX7_drawn noCut 200 ?_)
  refine br (fun y => ⟨⟨getB S, rfl⟩, some_int (if_neg (fun z => absurd y (Int32.not_lt.mpr z.1))).symm⟩) (fun y => br (fun y2 => kH (c_fitting q.1) (by decide) ?_) (fun y2 => ⟨⟨getB S, rfl⟩, some_int (if_neg (fun z => y2 z.2)).symm⟩))
  have hs : (0 : Int32) ≤ seed ∧ seed ≤ 99999 := ⟨Int32.not_lt.mp y, y2⟩
  have e : drG M nt ns nk seed = if woT M nk = 0 then -1 else nI (agA M nt ns nk (woT M nk) seed) := if_pos hs
  rw [e]
  refine br (fun f => ⟨⟨getB S, rfl⟩, some_int (if_pos (hz.zero.mp f)).symm⟩) (fun f => ?_)
  have hne : ¬ woT M nk = 0 := fun z => f (hz.zero.mpr z)
  have hbc : ¬ bcF (fitF S nk) = 0 := by
    rw [hz.cnt]
    intro z
    exact cnt_ne (woT_lo nk) hne (by rw [z]; rfl)
  rw [if_neg hne]
  refine ⟨5, _, by decide, c_strangerAsks (T := encM M) q.1 seed (fitF S nk) hbc, ?_⟩
  obtain ⟨s, hs, rfl⟩ := inS hs
  rw [← sa_al h k hne (by omega) hz]
  rintro hp' w ⟨rfl, rfl⟩
  exact ⟨⟨_, rfl⟩, rfl⟩
theorem S_drawn (r : REL S M) (seed : Int32) : StE l X S M 7 sgX7_drawn [.ref 0, .int seed] 6 sgX8_drawn [.ref 27, .int seed] := by
  obtain ⟨nt, ns, nk, ta, h⟩ := id r.1
  exact ste r (P_drawn h r.2 seed) (fun B => g_drawn h.1 seed)
abbrev bvL (S : CS) (M : MS) (v : Int64) : AH → Option Value → Prop := fun h w => (∃ B, h = mk (setB S B) M) ∧ w = some (.long v)
set_option maxRecDepth 100000 in
theorem P_mean (h : RInv M nt ns nk ta) (k : KR S M) (seed seeds part : Int32) : Ctr l 7 X sgX7_mean [.ref 0, .int seed, .int seeds, .int part] (mk S M) (bvL S M (meG2 M nt ns nk seed seeds part)) := by
  have q := KR.ki h k
  have hz := fit_al h k nk (Nat.le_refl _)
  refine Ctr.of okX7_mean rfl (Nat.le_of_ble_eq_true rfl) (run_sound okX7_mean kNme 200 ?_)
  have no : ¬ (((0 : Int32) ≤ seed ∧ seed ≤ 99999) ∧ ((1 : Int32) ≤ seeds ∧ seeds ≤ 10) ∧ p1P part) → (some (Value.long (-4611686018427387904))) = some (.long (meG2 M nt ns nk seed seeds part)) := fun z => some_long (if_neg z).symm
  have t17 : ¬ (((0 : Int32) ≤ seed ∧ seed ≤ 99999) ∧ ((1 : Int32) ≤ seeds ∧ seeds ≤ 10) ∧ p1P part) → WP l (rmD 7 0 0) X sgX7_mean kX7_mean (bvL S M (meG2 M nt ns nk seed seeds part)) 17 [some (.ref 0), some (.int seed), some (.int seeds), some (.int part), none, none, none] [] (mk S M) 0 0 := fun z => run_sound okX7_mean noCut 200 ⟨rfl, ⟨getB S, rfl⟩, no z⟩
  refine br (fun y => ⟨rfl, ⟨getB S, rfl⟩, no (fun z => absurd y (Int32.not_lt.mpr z.1.1))⟩) (fun h1 => br (fun h2 => ?_) (fun y => ⟨rfl, ⟨getB S, rfl⟩, no (fun z => y z.1.2)⟩))
  refine br (fun y => t17 (fun z => absurd y (Int32.not_lt.mpr z.2.1.1))) (fun h3 => br (fun y => t17 (fun z => absurd y (Int32.not_lt.mpr z.2.1.2))) (fun h4 => kH (c_isBelow part 2) (by decide) (brB' (fun y => t17 (fun z => y (x2_iff.mpr z.2.2))) (fun h5 => kH (c_fitting q.1) (by decide) ?_))))
  have hs : (0 : Int32) ≤ seed ∧ seed ≤ 99999 := ⟨Int32.not_lt.mp h1, h2⟩
  have hd : (1 : Int32) ≤ seeds ∧ seeds ≤ 10 := ⟨Int32.not_lt.mp h3, Int32.not_lt.mp h4⟩
  have hp : p1P part := x2_iff.mp h5
  have e : meG2 M nt ns nk seed seeds part = if woT M nk = 0 then NOL else loG (Int64.ofNat (meS M nt ns nk seed seeds.toNatClampNeg)) (Int64.ofNat seeds.toNatClampNeg) part := if_pos ⟨hs, hd, hp⟩
  rw [e]
  refine br (fun f => ⟨rfl, ⟨getB S, rfl⟩, some_long (if_pos (hz.zero.mp f)).symm⟩) (fun f => ?_)
  have hne : ¬ woT M nk = 0 := fun z => f (hz.zero.mpr z)
  have hbc : ¬ bcF (fitF S nk) = 0 := by
    rw [hz.cnt]
    intro z
    exact cnt_ne (woT_lo nk) hne (by rw [z]; rfl)
  rw [if_neg hne]
  obtain ⟨s, hs, rfl⟩ := inS hs
  have hd0 := hd
  obtain ⟨n, hn, rfl⟩ := in110 hd
  obtain ⟨d, hd', rfl⟩ := inC (c := 1) (n := 1) (by decide) (by decide) hp
  rw [nI_clamp (show n < 2 ^ 31 by omega)]
  have n0 : ¬ n = 0 := fun z => by
    subst z
    exact absurd hd0.1 (by decide)
  have key : ∀ j, j ≤ n → ∀ B : BQ, WP l (rmD 7 0 0) X sgX7_mean kX7_mean (bvL S M (loG (Int64.ofNat (meS M nt ns nk (nI s) n)) (Int64.ofNat n) (nI d))) 30 [some (.ref 0), some (.int (nI s)), some (.int (nI n)), some (.int (nI d)), some (.int (fitF S nk)), some (.int (nI (meS M nt ns nk (nI s) j))), some (.int (nI j))] [] (mk (setB S B) M) 0 0 := by
    refine down (fun B => ?_) (fun j hj ih B => ?_)
    · have hle := meS_le (M := M) (nt := nt) (ns := ns) (nk := nk) (nI s) n
      have lo : lowF (nI (meS M nt ns nk (nI s) n)) (nI n) (nI d) = loG (Int64.ofNat (meS M nt ns nk (nI s) n)) (Int64.ofNat n) (nI d) := low_al ⟨meS M nt ns nk (nI s) n, by omega⟩ ⟨n, by omega⟩ n0 ⟨d, by omega⟩
      exact run_sound okX7_mean kNme 200 (brT (Int32.le_refl _) (kH (c_inLowestTerms _ _ _) (by decide) ⟨rfl, ⟨B, rfl⟩, some_long lo⟩))
    · have sa := sa_al (S := setB S B) h (k.setB B) hne (show s + j < 2 ^ 20 by omega) hz
      have e1 : meS M nt ns nk (nI s) (j + 1) = meS M nt ns nk (nI s) j + (saA (setB S B) nt ns nk (nI s + nI j) (fitF S nk)).2 := by
        rw [nI_add, sa, ← nI_add]
        rfl
      refine run_sound okX7_mean kNme 200 (brF (ge_no (n := n) rfl hj (by omega)) ⟨5, _, by decide, c_strangerAsks (S := setB S B) (T := encM M) (q.1.setB B) (nI s + nI j) (fitF S nk) hbc, ?_⟩)
      rintro hp' w ⟨rfl, rfl⟩
      have ih := ih (saA (setB S B) nt ns nk (nI s + nI j) (fitF S nk)).1
      rw [e1, ← nI_add, ← nI_1 j] at ih
      exact ih
  exact key 0 (Nat.zero_le _) (getB S)
theorem S_mean (r : REL S M) (seed seeds part : Int32) : StEL l X S M 7 sgX7_mean [.ref 0, .int seed, .int seeds, .int part] 6 sgX8_mean [.ref 27, .int seed, .int seeds, .int part] := by
  obtain ⟨nt, ns, nk, ta, h⟩ := id r.1
  exact steL r (P_mean h r.2 seed seeds part) (fun B => g_mean h.1 seed seeds part)
end Q7
