/-! QUESTIONS ALIKE: asks, means, pairs, parts, same, claims, thrice -/
section Q2
variable {l : Launch} {X : List (List Int32)} {S : CS} {T : AH} {M : MS} {nt ns nk ta : Nat}
theorem x3t_iff {u : Int32} : kxP 3 u ↔ p2P u := x3_iff
theorem x5_iff {u : Int32} : kxP 5 u ↔ whP u := and_congr_right (fun _ => ltle (by decide))
def kasG (S : CS) (t w who part : Int32) : Int32 := if kxP (S.1 93) t ∧ kxP 32 w then (if kxP 5 who ∧ kxP 3 part then (if part = 2 then costF S t who else bitF (sideF S t who part) w) else -7) else -5
set_option maxRecDepth 100000 in
theorem P_asks (hL : CLen S) (t w who part : Int32) : Ans l 2 X sgX7_asks [.ref 0, .int t, .int w, .int who, .int part] (encC S ++ T) (kasG S t w who part) := by
  refine Ctr.of okX7_asks rfl (Nat.le_of_ble_eq_true rfl) (run_sound okX7_asks noCut 100 ?_)
  exact kH (c_isText t) (by decide) (brB' (fun q => ⟨rfl, some_int (if_neg (fun z => q z.1)).symm⟩) (fun q => kH (c_isWorld w) (by decide) (brB' (fun q2 => ⟨rfl, some_int (if_neg (fun z => q2 z.2)).symm⟩) (fun q2 => kH (c_isBelow who 5) (by decide) (brB' (fun q3 => ⟨rfl, some_int ((if_pos ⟨q, q2⟩).trans (if_neg (fun z => q3 z.1))).symm⟩) (fun q3 => kH (c_isBelow part 3) (by decide) (brB' (fun q4 => ⟨rfl, some_int ((if_pos ⟨q, q2⟩).trans (if_neg (fun z => q4 z.2))).symm⟩) (fun q4 => br (fun y => kH (c_costOf hL t who) (by decide) ⟨rfl, some_int ((if_pos ⟨q, q2⟩).trans ((if_pos ⟨q3, q4⟩).trans (if_pos y))).symm⟩) (fun y => kH (c_side hL t who part) (by decide) (kH (c_bit _ _) (by decide) ⟨rfl, some_int ((if_pos ⟨q, q2⟩).trans ((if_pos ⟨q3, q4⟩).trans (if_neg y))).symm⟩))))))))))
theorem lo_one (w : Fin 32) : ∀ i : Fin 32, ((1 : Int64) <<< ((nI w.val).toInt64 &&& 63)).toBitVec.getLsbD i.val = decide (i = w) := by
  have a : ∀ w i : Fin 32, ((1 : Int64) <<< ((nI w.val).toInt64 &&& 63)).toBitVec.getLsbD i.val = decide (i = w) := by decide +kernel
  exact a w
/-- a world's bit of what a part means -/
theorem soF_bit (p t : Nat) (who : Int32) {w : Nat} (hw : w < 32) : ∀ n, n ≤ 32 → ((soF M p t who n).toBitVec.getLsbD w = true ↔ w < n ∧ saysF M p t (nI w) who = 1)
  | 0, _ => by
    constructor
    · intro h
      have e : (soF M p t who 0).toBitVec.getLsbD w = false := by
        show (0#64).getLsbD w = false
        simp
      rw [e] at h
      cases h
    · rintro ⟨h, -⟩
      omega
  | n + 1, hn => by
    have ih := soF_bit p t who hw n (by omega)
    rw [soF, Int64.toBitVec_or, BitVec.getLsbD_or, Bool.or_eq_true, ih]
    by_cases q : saysF M p t (nI n) who = 1
    · rw [if_pos q, lo_one ⟨n, by omega⟩ ⟨w, hw⟩, decide_eq_true_iff]
      constructor
      · rintro (⟨h1, h2⟩ | h)
        · exact ⟨by omega, h2⟩
        · have : w = n := congrArg Fin.val h
          subst this
          exact ⟨by omega, q⟩
      · rintro ⟨h1, h2⟩
        by_cases e : w = n
        · subst e; exact Or.inr rfl
        · exact Or.inl ⟨by omega, h2⟩
    · rw [if_neg q]
      have e : (0 : Int64).toBitVec.getLsbD w = false := by
        show (0#64).getLsbD w = false
        simp
      rw [e]
      constructor
      · rintro (⟨h1, h2⟩ | h)
        · exact ⟨by omega, h2⟩
        · cases h
      · rintro ⟨h1, h2⟩
        by_cases e : w = n
        · subst e; exact absurd h2 q
        · exact Or.inl ⟨by omega, h2⟩
theorem says_bit (h : RInv M nt ns nk ta) (k : KR S M) {t who u w : Nat} (ht : t < nt) (hwho : who < 5) (hu : u < 2) (hw : w < 32) : bitF (sideF S (nI t) (nI who) (nI u)) (nI w) = saysF M u t (nI w) (nI who) := by
  have z := side_al h k ht hwho hu
  rw [mtF_ix hwho hu] at z
  have e := (bitF_get _ hw).trans ((by rw [z.get]) : (sideF S (nI t) (nI who) (nI u)).toBitVec.getLsbD w = true ↔ (soF M u t (nI who) 32).toBitVec.getLsbD w = true)
  have e2 := e.trans (soF_bit u t (nI who) hw 32 (Nat.le_refl _))
  rcases saysF_01 (M := M) (p := u) (t := t) (w := nI w) (who := nI who) (by omega) with q | q
  · rw [q]
    refine (bitF_z _ _).mpr (fun y => ?_)
    have := (e2.mp y).2
    rw [q] at this
    exact absurd this (by decide)
  · rw [q]
    exact e2.mpr ⟨hw, q⟩
theorem asks_al (h : RInv M nt ns nk ta) (k : KR S M) (t w who part : Int32) : kasG S t w who part = asG M nt t w who part := by
  have ki := KR.ki h k
  have h6 := h.1.2.2.1.2.2
  unfold kasG asG
  rw [ki.1.2.1]
  by_cases q : tP nt t ∧ wdP w
  · rw [if_pos ⟨(xp_iff (by omega)).mpr q.1, x32_iff.mpr q.2⟩, if_pos q]
    by_cases q2 : whP who ∧ p2P part
    · rw [if_pos ⟨x5_iff.mpr q2.1, x3_iff.mpr q2.2⟩, if_pos q2]
      obtain ⟨a, ha, rfl⟩ := inN (by omega) q.1
      obtain ⟨b, hb, rfl⟩ := inC (c := 31) (n := 31) (by decide) (by decide) q.2
      obtain ⟨c, hc, rfl⟩ := inC (c := 4) (n := 4) (by decide) (by decide) q2.1
      obtain ⟨d, hd, rfl⟩ := inC (c := 2) (n := 2) (by decide) (by decide) q2.2
      rw [nI_clamp (by omega), nI_clamp (by omega)]
      by_cases q3 : d = 2
      · subst q3
        rw [if_pos (show nI 2 = (2 : Int32) from rfl), if_pos (show nI 2 = (2 : Int32) from rfl)]
        exact cost_al h k ha (by omega)
      · have q4 : ¬ nI d = (2 : Int32) := fun z => q3 (nI_inj (b := 2) (by omega) (by decide) z)
        rw [if_neg q4, if_neg q4]
        exact says_bit h k ha (by omega) (by omega) (by omega)
    · rw [if_neg (fun z => q2 ⟨x5_iff.mp z.1, x3_iff.mp z.2⟩), if_neg q2]
  · rw [if_neg (fun z => q ⟨(xp_iff (by omega)).mp z.1, x32_iff.mp z.2⟩), if_neg q]
theorem S_asks (r : REL S M) (t w who part : Int32) : StE l X S M 2 sgX7_asks [.ref 0, .int t, .int w, .int who, .int part] 3 sgX8_asks [.ref 27, .int t, .int w, .int who, .int part] := by
  obtain ⟨nt, ns, nk, ta, h⟩ := id r.1
  have c := P_asks (l := l) (X := X) (T := encM M) r.2.cl t w who part
  rw [asks_al h r.2] at c
  exact ste r (an_B c) (fun B => g_asks h.1 t w who part)
def kmeG (S : CS) (t part : Int32) : Int64 := if kxP (S.1 93) t ∧ kxP 2 part then bitsF (sideF S t 0 part) else -4611686018427387904
set_option maxRecDepth 100000 in
theorem P_means (hL : CLen S) (t part : Int32) : AnsL l 2 X sgX7_means [.ref 0, .int t, .int part] (encC S ++ T) (kmeG S t part) := by
  refine Ctr.of okX7_means rfl (Nat.le_of_ble_eq_true rfl) (run_sound okX7_means noCut 100 ?_)
  exact kH (c_isText t) (by decide) (brB' (fun q => ⟨rfl, rfl, some_long (if_neg (fun z => q z.1)).symm⟩) (fun q => kH (c_isBelow part 2) (by decide) (brB' (fun q2 => ⟨rfl, rfl, some_long (if_neg (fun z => q2 z.2)).symm⟩) (fun q2 => kH (c_side hL t 0 part) (by decide) (kH (c_bits _) (by decide) ⟨rfl, rfl, some_long (if_pos ⟨q, q2⟩).symm⟩)))))
theorem means_al (h : RInv M nt ns nk ta) (k : KR S M) (t part : Int32) : kmeG S t part = meG M nt t part := by
  have ki := KR.ki h k
  have h6 := h.1.2.2.1.2.2
  unfold kmeG meG
  rw [ki.1.2.1]
  by_cases q : tP nt t ∧ p1P part
  · rw [if_pos ⟨(xp_iff (by omega)).mpr q.1, x2_iff.mpr q.2⟩, if_pos q]
    obtain ⟨a, ha, rfl⟩ := inN (by omega) q.1
    obtain ⟨d, hd, rfl⟩ := inC (c := 1) (n := 1) (by decide) (by decide) q.2
    rw [nI_clamp (by omega), nI_clamp (by omega)]
    have z := side_al h k ha (who := 0) (u := d) (by decide) (by omega)
    rw [mtF_ix (by decide) (by omega)] at z
    exact z.bits
  · rw [if_neg (fun z => q ⟨(xp_iff (by omega)).mp z.1, x2_iff.mp z.2⟩), if_neg q]
theorem S_means (r : REL S M) (t part : Int32) : StEL l X S M 2 sgX7_means [.ref 0, .int t, .int part] 4 sgX8_means [.ref 27, .int t, .int part] := by
  obtain ⟨nt, ns, nk, ta, h⟩ := id r.1
  have c := P_means (l := l) (X := X) (T := encM M) r.2.cl t part
  rw [means_al h r.2] at c
  exact steL r (an_BL c) (fun B => g_means h.1 t part)
def kpaF (S : CS) (who : Int32) : Nat → Int32
  | 0 => 0
  | t + 1 => if sideF S (nI t) who 0 ^^^ sideF S (nI t) who 1 = -1 then kpaF S who t ||| ((1 : Int32) <<< (nI t &&& 31)) else kpaF S who t
def kpaG (S : CS) (nt : Nat) (who : Int32) : Int32 := if kxP 5 who then kpaF S who nt else -2
set_option maxRecDepth 100000 in
theorem P_pairs (hI : CInv S nt ns nk) (who : Int32) : Ans l 2 X sgX7_pairs [.ref 0, .int who] (encC S ++ T) (kpaG S nt who) := by
  have hL := hI.1
  have h93 : S.1 93 = nI nt := hI.2.1
  have h6 := hI.2.2.1.2
  refine Ctr.of okX7_pairs rfl (Nat.le_of_ble_eq_true rfl) (run_sound okX7_pairs cNpa 200 ?_)
  refine kH (c_isBelow who 5) (by decide) (brB' (fun q => ⟨rfl, some_int (if_neg q).symm⟩) (fun q => ?_))
  have e : kpaG S nt who = kpaF S who nt := if_pos q
  rw [e]
  have key : ∀ k, k ≤ nt → ∀ y, WP l (rmD 2 0 0) X sgX7_pairs kX7_pairs (kR S T (kpaF S who nt)) 10 [some (.ref 0), some (.int who), some (.int (kpaF S who k)), some (.int (nI k)), y] [] (encC S ++ T) 0 0 := by
    refine down (fun y => ?_) (fun k hk ih y => ?_)
    · exact run_sound okX7_pairs cNpa 200 (brT (nle h93) ⟨rfl, rfl⟩)
    · have t42 : ∀ (x : Int32) y, x = kpaF S who (k + 1) → WP l (rmD 2 0 0) X sgX7_pairs kX7_pairs (kR S T (kpaF S who nt)) 42 [some (.ref 0), some (.int who), some (.int x), some (.int (nI k)), y] [] (encC S ++ T) 0 0 := by
        intro x y hx
        subst hx
        have ih := ih y
        rw [← nI_1 k] at ih
        exact run_sound okX7_pairs cNpa 200 ih
      exact run_sound okX7_pairs cNpa 200 (brF (nge h93 hk (by omega)) (kH (c_side hL _ _ _) (by decide) (kH (c_side hL _ _ _) (by decide) (br (fun z => brF (by decide) (t42 _ _ (if_pos z).symm)) (fun z => brT rfl (t42 _ _ (if_neg z).symm))))))
  exact key 0 (Nat.zero_le _) _
theorem zx_all : Zx (-1) ALLW := by unfold Zx; decide
theorem pairs_al (h : RInv M nt ns nk ta) (k : KR S M) {who : Nat} (hw : who < 5) : ∀ m, m ≤ nt → kpaF S (nI who) m = paF M (nI who) m
  | 0, _ => rfl
  | m + 1, hm => by
    rw [kpaF, paF, pairs_al h k hw m (by omega)]
    have z0 := side_al h k (show m < nt by omega) hw (u := 0) (by decide)
    have z1 := side_al h k (show m < nt by omega) hw (u := 1) (by decide)
    rw [mtF_ix hw (by decide)] at z0 z1
    have z : sideF S (nI m) (nI who) 0 ^^^ sideF S (nI m) (nI who) 1 = -1 ↔ soF M 0 m (nI who) 32 ^^^ soF M 1 m (nI who) 32 = ALLW := (z0.xor z1).eq zx_all
    by_cases q : sideF S (nI m) (nI who) 0 ^^^ sideF S (nI m) (nI who) 1 = -1
    · rw [if_pos q, if_pos (z.mp q)]
    · rw [if_neg q, if_neg (fun y => q (z.mpr y))]
      exact (Int32.or_zero).symm
theorem S_pairs (r : REL S M) (who : Int32) : StE l X S M 2 sgX7_pairs [.ref 0, .int who] 4 sgX8_pairs [.ref 27, .int who] := by
  obtain ⟨nt, ns, nk, ta, h⟩ := id r.1
  have c := P_pairs (l := l) (X := X) (T := encM M) (KR.ki h r.2).1 who
  have e : kpaG S nt who = paG M nt who := by
    unfold kpaG paG
    by_cases q : whP who
    · rw [if_pos (x5_iff.mpr q), if_pos q]
      obtain ⟨b, hb, rfl⟩ := inC (c := 4) (n := 4) (by decide) (by decide) q
      exact pairs_al h r.2 (by omega) nt (Nat.le_refl _)
    · rw [if_neg (fun z => q (x5_iff.mp z)), if_neg q]
  rw [e] at c
  exact ste r (an_B c) (fun B => g_pairs h.1 who)
/-! parts -/
def kptX (S : CS) (nk : Nat) (s t what : Int32) : Int64 := if what = 0 then bitsF (fitF S nk &&& nextF S s t 0 (nI nk)) else if what = 1 then bitsF (fitF S nk &&& nextF S s t 1 (nI nk))
     else if what = 2 then bitsF (fitF S nk &&& ((fitF S nk &&& nextF S s t 0 (nI nk)) ^^^ -1) &&& ((fitF S nk &&& nextF S s t 1 (nI nk)) ^^^ -1))
     else if what = 3 then bitsF ((fitF S nk &&& nextF S s t 0 (nI nk)) &&& (fitF S nk &&& nextF S s t 1 (nI nk))) else -4611686018427387904
def kptG (S : CS) (nk : Nat) (s t what : Int32) : Int64 := if kxP (S.1 133) s ∧ kxP (S.1 93) t then kptX S nk s t what else -4611686018427387904
set_option maxRecDepth 100000 in
theorem P_parts (hI : CInv S nt ns nk) (s t what : Int32) : AnsL l 7 X sgX7_parts [.ref 0, .int s, .int t, .int what] (encC S ++ T) (kptG S nk s t what) := by
  have hL := hI.1
  have h134 : S.1 134 = nI nk := hI.2.2.2.2.2.1
  refine Ctr.of okX7_parts rfl (Nat.le_of_ble_eq_true rfl) (run_sound okX7_parts noCut 200 ?_)
  refine kH (c_isSpeaker s) (by decide) (brB' (fun q => ⟨rfl, rfl, some_long (if_neg (fun z => q z.1)).symm⟩) (fun q => kH (c_isText t) (by decide) (brB' (fun q2 => ⟨rfl, rfl, some_long (if_neg (fun z => q2 z.2)).symm⟩) (fun q2 => kH (c_fitting hI) (by decide) (kH (c_sayableNext hL s t 0 (S.1 134)) (by decide) (kH (c_sayableNext hL s t 1 (S.1 134)) (by decide) ?_))))))
  rw [h134]
  have e : kptG S nk s t what = kptX S nk s t what := if_pos ⟨q, q2⟩
  rw [e]
  refine And.intro (fun hn => ⟨rfl, rfl, some_long ?_⟩) (And.intro (fun hh => ?_) (And.intro (fun hh => ?_) (And.intro (fun hh => ?_) (And.intro (fun hh => ?_) trivial))))
  · have n0 : ¬ what = 0 := fun z => by subst z; revert hn; decide
    have n1 : ¬ what = 1 := fun z => by subst z; revert hn; decide
    have n2 : ¬ what = 2 := fun z => by subst z; revert hn; decide
    have n3 : ¬ what = 3 := fun z => by subst z; revert hn; decide
    unfold kptX
    rw [if_neg n0, if_neg n1, if_neg n2, if_neg n3]
    rfl
  all_goals
    subst hh
    exact kH (c_bits _) (by decide) ⟨rfl, rfl, rfl⟩
theorem zz_22 {f a b : Int32} {F A B : Int64} (hf : Zx f F) (ha : Zx a A) (hb : Zx b B) : Zx (f &&& ((f &&& a) ^^^ -1) &&& ((f &&& b) ^^^ -1)) (F &&& ((A ^^^ -1) &&& (B ^^^ -1))) := Zx.mk (fun i hi => by
  rw [Int64.toBitVec_and, Int64.toBitVec_and, Int64.toBitVec_xor, Int64.toBitVec_xor, Int32.toBitVec_and, Int32.toBitVec_and, Int32.toBitVec_xor, Int32.toBitVec_xor, Int32.toBitVec_and, Int32.toBitVec_and, BitVec.getLsbD_and, BitVec.getLsbD_and, BitVec.getLsbD_xor, BitVec.getLsbD_xor, BitVec.getLsbD_and, BitVec.getLsbD_and, BitVec.getLsbD_xor, BitVec.getLsbD_xor, BitVec.getLsbD_and, BitVec.getLsbD_and, hf.get, ha.get, hb.get, bv_m1, bl_m1, decide_eq_true hi]
  by_cases h : i < 32
  · rw [decide_eq_true h]
    cases f.toBitVec.getLsbD i <;> cases a.toBitVec.getLsbD i <;> cases b.toBitVec.getLsbD i <;> rfl
  · rw [BitVec.getLsbD_of_ge f.toBitVec i (by omega)]; rfl)
theorem zz_33 {f a b : Int32} {F A B : Int64} (hf : Zx f F) (ha : Zx a A) (hb : Zx b B) : Zx ((f &&& a) &&& (f &&& b)) (F &&& (A &&& B)) := Zx.mk (fun i hi => by
  rw [Int64.toBitVec_and, Int64.toBitVec_and, Int32.toBitVec_and, Int32.toBitVec_and, Int32.toBitVec_and, BitVec.getLsbD_and, BitVec.getLsbD_and, BitVec.getLsbD_and, BitVec.getLsbD_and, BitVec.getLsbD_and, hf.get, ha.get, hb.get]
  cases f.toBitVec.getLsbD i <;> cases a.toBitVec.getLsbD i <;> cases b.toBitVec.getLsbD i <;> rfl)
theorem S_parts (r : REL S M) (s t what : Int32) : StEL l X S M 7 sgX7_parts [.ref 0, .int s, .int t, .int what] 6 sgX8_parts [.ref 27, .int s, .int t, .int what] := by
  obtain ⟨nt, ns, nk, ta, h⟩ := id r.1
  have ki := KR.ki h r.2
  have c := P_parts (l := l) (X := X) (T := encM M) ki.1 s t what
  have h5 := h.1.2.2.2.1.2
  have h6 := h.1.2.2.1.2.2
  have e : kptG S nk s t what = paT M nt ns nk s t what := by
    unfold kptG kptX paT
    rw [ki.1.2.2.2.1, ki.1.2.1]
    by_cases q : tP ns s ∧ tP nt t
    · rw [if_pos ⟨(xp_iff (by omega)).mpr q.1, (xp_iff (by omega)).mpr q.2⟩]
      obtain ⟨a, ha, rfl⟩ := inN (by omega) q.1
      obtain ⟨b, hb, rfl⟩ := inN (by omega) q.2
      have zf := fit_al h r.2 nk (Nat.le_refl _)
      have z0 := next_al h r.2 (s := a) (t := b) (u := 0) (by omega) hb (by decide) (nI nk)
      have z1 := next_al h r.2 (s := a) (t := b) (u := 1) (by omega) hb (by decide) (nI nk)
      have z0 : Zx (nextF S (nI a) (nI b) 0 (nI nk)) (fitT M a b 0 (nI nk)) := z0
      have z1 : Zx (nextF S (nI a) (nI b) 1 (nI nk)) (fitT M a b 1 (nI nk)) := z1
      rw [nI_clamp (by omega), nI_clamp (by omega)]
      by_cases w0 : what = 0
      · subst w0
        rw [if_pos rfl, if_pos ⟨q.1, q.2, by decide⟩, if_pos rfl]
        exact (zf.and z0).bits
      rw [if_neg w0]
      by_cases w1 : what = 1
      · subst w1
        rw [if_pos rfl, if_pos ⟨q.1, q.2, by decide⟩, if_neg w0, if_pos rfl]
        exact (zf.and z1).bits
      rw [if_neg w1]
      by_cases w2 : what = 2
      · subst w2
        rw [if_pos rfl, if_pos ⟨q.1, q.2, by decide⟩, if_neg w0, if_neg w1, if_pos rfl]
        exact (zz_22 zf z0 z1).bits
      rw [if_neg w2]
      by_cases w3 : what = 3
      · subst w3
        rw [if_pos rfl, if_pos ⟨q.1, q.2, by decide⟩, if_neg w0, if_neg w1, if_neg w2]
        exact (zz_33 zf z0 z1).bits
      · rw [if_neg w3, if_neg (fun z => by
          obtain ⟨d, hd, rfl⟩ := in03n z.2.2
          rcases (show d = 0 ∨ d = 1 ∨ d = 2 ∨ d = 3 by omega) with rfl | rfl | rfl | rfl
          · exact w0 rfl
          · exact w1 rfl
          · exact w2 rfl
          · exact w3 rfl)]
    · rw [if_neg (fun z => q ⟨(xp_iff (by omega)).mp z.1, (xp_iff (by omega)).mp z.2⟩), if_neg (fun z => q ⟨z.1, z.2.1⟩)]
  rw [e] at c
  exact steL r (an_BL c) (fun B => g_parts h.1 s t what)
/-! same -/
def ksmG (S : CS) (nk : Nat) (t u what : Int32) : Int32 := if kxP (S.1 93) t ∧ kxP (S.1 93) u then (if kxP 2 what then bI ((onceF S t ^^^ onceF S u) &&& (if what = 0 then fitF S nk else -1) = 0) else -7) else -5
set_option maxRecDepth 100000 in
theorem P_same (hI : CInv S nt ns nk) (t u what : Int32) : Ans l 7 X sgX7_same [.ref 0, .int t, .int u, .int what] (encC S ++ T) (ksmG S nk t u what) := by
  have hL := hI.1
  refine Ctr.of okX7_same rfl (Nat.le_of_ble_eq_true rfl) (run_sound okX7_same noCut 100 ?_)
  refine kH (c_isText t) (by decide) (brB' (fun q => ⟨rfl, some_int (if_neg (fun z => q z.1)).symm⟩) (fun q => kH (c_isText u) (by decide) (brB' (fun q2 => ⟨rfl, some_int (if_neg (fun z => q2 z.2)).symm⟩) (fun q2 => kH (c_isBelow what 2) (by decide) (brB' (fun q3 => ⟨rfl, some_int ((if_pos ⟨q, q2⟩).trans (if_neg q3)).symm⟩) (fun q3 => ?_))))))
  have e : ksmG S nk t u what = bI ((onceF S t ^^^ onceF S u) &&& (if what = 0 then fitF S nk else -1) = 0) := (if_pos ⟨q, q2⟩).trans (if_pos q3)
  rw [e]
  refine br (fun y => ?_) (fun y => ?_)
  · have y : what = 0 := y
    rw [if_pos y]
    exact kH (c_fitting hI) (by decide) (kH (c_onceOf hL t) (by decide) (kH (c_onceOf hL u) (by decide) (br (fun z => ⟨rfl, some_int (bIe1 z)⟩) (fun z => ⟨rfl, some_int (bIe0 z)⟩))))
  · have y : ¬ what = 0 := y
    rw [if_neg y]
    exact kH (c_onceOf hL t) (by decide) (kH (c_onceOf hL u) (by decide) (br (fun z => ⟨rfl, some_int (bIe1 z)⟩) (fun z => ⟨rfl, some_int (bIe0 z)⟩)))
theorem bI_ifx {p q : Prop} [Decidable p] [Decidable q] (h : p ↔ q) : bI p = bI q := by
  by_cases y : p
  · rw [bI_t y, bI_t (h.mp y)]
  · rw [bI_f y, bI_f (fun z => y (h.mpr z))]
theorem S_same (r : REL S M) (t u what : Int32) : StE l X S M 7 sgX7_same [.ref 0, .int t, .int u, .int what] 6 sgX8_same [.ref 27, .int t, .int u, .int what] := by
  obtain ⟨nt, ns, nk, ta, h⟩ := id r.1
  have ki := KR.ki h r.2
  have c := P_same (l := l) (X := X) (T := encM M) ki.1 t u what
  have h6 := h.1.2.2.1.2.2
  have e : ksmG S nk t u what = saG M nt nk t u what := by
    unfold ksmG saG
    rw [ki.1.2.1]
    by_cases q : tP nt t ∧ tP nt u
    · rw [if_pos ⟨(xp_iff (by omega)).mpr q.1, (xp_iff (by omega)).mpr q.2⟩, if_pos q]
      by_cases q2 : p1P what
      · rw [if_pos (x2_iff.mpr q2), if_pos q2]
        obtain ⟨a, ha, rfl⟩ := inN (by omega) q.1
        obtain ⟨b, hb, rfl⟩ := inN (by omega) q.2
        rw [nI_clamp (by omega), nI_clamp (by omega)]
        have zx := (once_al h r.2 ha).xor (once_al h r.2 hb)
        apply bI_ifx
        by_cases w0 : what = 0
        · rw [if_pos w0, if_pos w0]
          exact (zx.and (fit_al h r.2 nk (Nat.le_refl _))).zero
        · rw [if_neg w0, if_neg w0, show (onceF S (nI a) ^^^ onceF S (nI b)) &&& -1 = onceF S (nI a) ^^^ onceF S (nI b) from Int32.and_neg_one]
          exact zx.zero
      · rw [if_neg (fun z => q2 (x2_iff.mp z)), if_neg q2]
    · rw [if_neg (fun z => q ⟨(xp_iff (by omega)).mp z.1, (xp_iff (by omega)).mp z.2⟩), if_neg q]
  rw [e] at c
  exact ste r (an_B c) (fun B => g_same h.1 t u what)
/-! claims -/
def kclF (S : CS) (so : Int32) : Nat → Int32
  | 0 => 0
  | u + 1 => if so &&& (onceF S (nI u) ^^^ -1) = 0 then kclF S so u ||| ((1 : Int32) <<< (nI u &&& 31)) else kclF S so u
def kclG (S : CS) (nt nk : Nat) (t : Int32) : Int32 := if kxP (S.1 93) t then kclF S (fitF S nk &&& onceF S t) nt else -5
def kNcl (i : Nat) : Bool := Nat.beq i 17 || Nat.beq i 36
set_option maxRecDepth 100000 in
theorem P_claims (hI : CInv S nt ns nk) (t : Int32) : Ans l 7 X sgX7_claims [.ref 0, .int t] (encC S ++ T) (kclG S nt nk t) := by
  have hL := hI.1
  have h93 : S.1 93 = nI nt := hI.2.1
  have h6 := hI.2.2.1.2
  refine Ctr.of okX7_claims rfl (Nat.le_of_ble_eq_true rfl) (run_sound okX7_claims kNcl 200 ?_)
  refine kH (c_isText t) (by decide) (brB' (fun q => ⟨rfl, some_int (if_neg q).symm⟩) (fun q => kH (c_fitting hI) (by decide) (kH (c_onceOf hL t) (by decide) ?_)))
  have e : kclG S nt nk t = kclF S (fitF S nk &&& onceF S t) nt := if_pos q
  rw [e]
  have key : ∀ so, ∀ k, k ≤ nt → WP l (rmD 7 0 0) X sgX7_claims kX7_claims (kR S T (kclF S so nt)) 17 [some (.ref 0), some (.int t), some (.int so), some (.int (kclF S so k)), some (.int (nI k))] [] (encC S ++ T) 0 0 := by
    intro so
    refine down ?_ (fun k hk ih => ?_)
    · exact run_sound okX7_claims kNcl 200 (brT (nle h93) ⟨rfl, rfl⟩)
    · have t36 : ∀ x : Int32, x = kclF S so (k + 1) → WP l (rmD 7 0 0) X sgX7_claims kX7_claims (kR S T (kclF S so nt)) 36 [some (.ref 0), some (.int t), some (.int so), some (.int x), some (.int (nI k))] [] (encC S ++ T) 0 0 := by
        intro x hx
        subst hx
        have ih := ih
        rw [← nI_1 k] at ih
        exact run_sound okX7_claims kNcl 200 ih
      exact run_sound okX7_claims kNcl 200 (brF (nge h93 hk (by omega)) (kH (c_onceOf hL _) (by decide) (br (fun z => t36 _ (if_pos z).symm) (fun z => t36 _ (if_neg z).symm))))
  exact key _ 0 (Nat.zero_le _)
theorem zz_cl {s a : Int32} {F A : Int64} (hf : Zx s F) (ha : Zx a A) : Zx (s &&& (a ^^^ -1)) (F &&& (A ^^^ -1)) := Zx.mk (fun i hi => by
  rw [Int64.toBitVec_and, Int64.toBitVec_xor, Int32.toBitVec_and, Int32.toBitVec_xor, BitVec.getLsbD_and, BitVec.getLsbD_xor, BitVec.getLsbD_and, BitVec.getLsbD_xor, hf.get, ha.get, bv_m1, bl_m1, decide_eq_true hi]
  by_cases h : i < 32
  · rw [decide_eq_true h]
  · rw [BitVec.getLsbD_of_ge s.toBitVec i (by omega), Bool.false_and, Bool.false_and])
theorem claims_al (h : RInv M nt ns nk ta) (k : KR S M) {so : Int32} {F : Int64} (hz : Zx so F) : ∀ m, m ≤ nt → kclF S so m = clT2 M F m
  | 0, _ => rfl
  | m + 1, hm => by
    rw [kclF, clT2, claims_al h k hz m (by omega)]
    have z := (zz_cl hz (once_al h k (show m < nt by omega))).zero
    by_cases q : so &&& (onceF S (nI m) ^^^ -1) = 0
    · rw [if_pos q, if_pos (z.mp q)]
    · rw [if_neg q, if_neg (fun y => q (z.mpr y))]
      exact (Int32.or_zero).symm
theorem S_claims (r : REL S M) (t : Int32) : StE l X S M 7 sgX7_claims [.ref 0, .int t] 6 sgX8_claims [.ref 27, .int t] := by
  obtain ⟨nt, ns, nk, ta, h⟩ := id r.1
  have ki := KR.ki h r.2
  have c := P_claims (l := l) (X := X) (T := encM M) ki.1 t
  have h6 := h.1.2.2.1.2.2
  have e : kclG S nt nk t = clG M nt nk t := by
    unfold kclG clG
    rw [ki.1.2.1]
    by_cases q : tP nt t
    · rw [if_pos ((xp_iff (by omega)).mpr q), if_pos q]
      obtain ⟨a, ha, rfl⟩ := inN (by omega) q
      rw [nI_clamp (by omega)]
      exact claims_al h r.2 ((fit_al h r.2 nk (Nat.le_refl _)).and (once_al h r.2 ha)) nt (Nat.le_refl _)
    · rw [if_neg (fun z => q ((xp_iff (by omega)).mp z)), if_neg q]
  rw [e] at c
  exact ste r (an_B c) (fun B => g_claims h.1 t)
/-! thrice -/
def kthG (S : CS) (nk : Nat) (t u v : Int32) : Int64 := if kxP (S.1 93) t ∧ kxP (S.1 93) u ∧ kxP (S.1 93) v then bitsF (fitF S nk &&& (onceF S t ^^^ onceF S u ^^^ onceF S v) &&& ((onceF S t &&& onceF S u &&& onceF S v) ^^^ -1)) else -4611686018427387904
set_option maxRecDepth 100000 in
theorem P_thrice (hI : CInv S nt ns nk) (t u v : Int32) : AnsL l 7 X sgX7_thrice [.ref 0, .int t, .int u, .int v] (encC S ++ T) (kthG S nk t u v) := by
  have hL := hI.1
  refine Ctr.of okX7_thrice rfl (Nat.le_of_ble_eq_true rfl) (run_sound okX7_thrice noCut 200 ?_)
  exact kH (c_isText t) (by decide) (brB' (fun q => ⟨rfl, rfl, some_long (if_neg (fun z => q z.1)).symm⟩) (fun q => kH (c_isText u) (by decide) (brB' (fun q2 => ⟨rfl, rfl, some_long (if_neg (fun z => q2 z.2.1)).symm⟩) (fun q2 => kH (c_isText v) (by decide) (brB' (fun q3 => ⟨rfl, rfl, some_long (if_neg (fun z => q3 z.2.2)).symm⟩) (fun q3 => kH (c_onceOf hL t) (by decide) (kH (c_onceOf hL u) (by decide) (kH (c_onceOf hL v) (by decide) (kH (c_onceOf hL t) (by decide) (kH (c_onceOf hL u) (by decide) (kH (c_onceOf hL v) (by decide) (kH (c_fitting hI) (by decide) (kH (c_bits _) (by decide) ⟨rfl, rfl, some_long (if_pos ⟨q, q2, q3⟩).symm⟩)))))))))))))
theorem zz_th {f a b c : Int32} {F A B C : Int64} (hf : Zx f F) (ha : Zx a A) (hb : Zx b B) (hc : Zx c C) : Zx (f &&& (a ^^^ b ^^^ c) &&& ((a &&& b &&& c) ^^^ -1)) (F &&& (A &&& (B ^^^ -1) &&& (C ^^^ -1) ||| B &&& (A ^^^ -1) &&& (C ^^^ -1) ||| C &&& (A ^^^ -1) &&& (B ^^^ -1))) := Zx.mk (fun i hi => by
  simp only [Int64.toBitVec_and, Int64.toBitVec_xor, Int64.toBitVec_or, Int32.toBitVec_and, Int32.toBitVec_xor, BitVec.getLsbD_and, BitVec.getLsbD_xor, BitVec.getLsbD_or, hf.get, ha.get, hb.get, hc.get, bv_m1, bl_m1, decide_eq_true hi]
  by_cases h : i < 32
  · rw [decide_eq_true h]
    cases f.toBitVec.getLsbD i <;> cases a.toBitVec.getLsbD i <;> cases b.toBitVec.getLsbD i <;> cases c.toBitVec.getLsbD i <;> rfl
  · rw [BitVec.getLsbD_of_ge f.toBitVec i (by omega), Bool.false_and, Bool.false_and, Bool.false_and])
theorem S_thrice (r : REL S M) (t u v : Int32) : StEL l X S M 7 sgX7_thrice [.ref 0, .int t, .int u, .int v] 6 sgX8_thrice [.ref 27, .int t, .int u, .int v] := by
  obtain ⟨nt, ns, nk, ta, h⟩ := id r.1
  have ki := KR.ki h r.2
  have c := P_thrice (l := l) (X := X) (T := encM M) ki.1 t u v
  have h6 := h.1.2.2.1.2.2
  have e : kthG S nk t u v = thG M nt nk t u v := by
    unfold kthG thG
    rw [ki.1.2.1]
    by_cases q : tP nt t ∧ tP nt u ∧ tP nt v
    · rw [if_pos ⟨(xp_iff (by omega)).mpr q.1, (xp_iff (by omega)).mpr q.2.1, (xp_iff (by omega)).mpr q.2.2⟩, if_pos q]
      obtain ⟨a, ha, rfl⟩ := inN (by omega) q.1
      obtain ⟨b, hb, rfl⟩ := inN (by omega) q.2.1
      obtain ⟨c, hc, rfl⟩ := inN (by omega) q.2.2
      rw [nI_clamp (by omega), nI_clamp (by omega), nI_clamp (by omega)]
      exact (zz_th (fit_al h r.2 nk (Nat.le_refl _)) (once_al h r.2 ha) (once_al h r.2 hb) (once_al h r.2 hc)).bits
    · rw [if_neg (fun z => q ⟨(xp_iff (by omega)).mp z.1, (xp_iff (by omega)).mp z.2.1, (xp_iff (by omega)).mp z.2.2⟩), if_neg q]
  rw [e] at c
  exact steL r (an_BL c) (fun B => g_thrice h.1 t u v)
end Q2
