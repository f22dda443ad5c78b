/-! BOTH SIDES ALIKE: all of it; what each call that changes the talk keeps -/
section KRS
variable {S S' S2 : CS} {M M' M2 : MS} {nt ns nk ta : Nat}
def RTp (S : CS) (M : MS) : Prop := S.1 11 = M.1 6 ∧ (S.2 2).length = 160 ∧ ∀ j, j < (M.1 6).toNatClampNeg → (S.2 2).getD j 0 = (M.2.1 5).getD j 0
def RTx (S : CS) (M : MS) : Prop := ((S.2 10).length = 30 ∧ (S.2 11).length = 30 ∧ (S.2 12).length = 30) ∧ S.1 93 = M.1 9 ∧ ∀ t, t < (M.1 9).toNatClampNeg → ∀ who, who < 5 →
  Zx ((S.2 10).getD (5 * t + who) 0) (soF M 0 t (nI who) 32) ∧ Zx ((S.2 11).getD (5 * t + who) 0) (soF M 1 t (nI who) 32) ∧ (S.2 12).getD (5 * t + who) 0 = saysF M 2 t 0 (nI who)
def ImC (S : CS) : Prop := ∃ a b : Nat, S.1 173 = nI a ∧ a ≤ 5 ∧ S.1 174 = nI b ∧ b ≤ 12
/-- all that is alike, and the class's rows -/
def KR (S : CS) (M : MS) : Prop := CLen S ∧ TxInv S ∧ ImC S ∧ TkL S ∧ (S.2 25).length = 40 ∧ RTk S M ∧ RIm S M ∧ RSh S M ∧ ShV M ∧ RTp S M ∧ RTx S M ∧ M.2.1 25 = WS
theorem KR.ki (h : RInv M nt ns nk ta) (k : KR S M) : KI S nt ns nk ta := by
  obtain ⟨c1, c2, c3, c4, c5, ⟨k0, k3, -, -⟩, k7, k8, k9, ⟨k10, -⟩, ⟨-, k11, -⟩, k12⟩ := k
  obtain ⟨⟨-, -, ⟨h9, h91, h96⟩, ⟨h0, h5⟩, ⟨h3, h12⟩, -⟩, ⟨h6, h160⟩, -⟩ := h
  exact ⟨⟨c1, k11.trans h9, ⟨h91, h96⟩, k0.trans h0, h5, k3.trans h3, h12⟩, c2, ⟨k10.trans h6, h160⟩, c3⟩
/-- a call of the talk: what it leaves of the class -/
def FrT (S S' : CS) : Prop := S'.2 2 = S.2 2 ∧ S'.2 4 = S.2 4 ∧ S'.2 5 = S.2 5 ∧ S'.2 6 = S.2 6 ∧ S'.2 7 = S.2 7 ∧ S'.2 10 = S.2 10 ∧ S'.2 11 = S.2 11 ∧ S'.2 12 = S.2 12 ∧ S'.2 22 = S.2 22 ∧ S'.2 23 = S.2 23 ∧ S'.2 24 = S.2 24 ∧ S'.2 25 = S.2 25 ∧ S'.1 11 = S.1 11 ∧ S'.1 93 = S.1 93
/-- and of the reference -/
def FmT (M M' : MS) : Prop := M'.2.1 5 = M.2.1 5 ∧ M'.2.1 7 = M.2.1 7 ∧ M'.2.1 8 = M.2.1 8 ∧ M'.2.1 17 = M.2.1 17 ∧ M'.2.1 18 = M.2.1 18 ∧ M'.2.1 19 = M.2.1 19 ∧ M'.2.1 25 = M.2.1 25 ∧ M'.1 6 = M.1 6 ∧ M'.1 9 = M.1 9
theorem FrT.rf : FrT S S := ⟨rfl, rfl, rfl, rfl, rfl, rfl, rfl, rfl, rfl, rfl, rfl, rfl, rfl, rfl⟩
theorem FmT.rf : FmT M M := ⟨rfl, rfl, rfl, rfl, rfl, rfl, rfl, rfl, rfl⟩
theorem FrT.tr (h : FrT S S') (g : FrT S' S2) : FrT S S2 := by
  obtain ⟨a1, a2, a3, a4, a5, a6, a7, a8, a9, a10, a11, a12, a13, a14⟩ := h
  obtain ⟨b1, b2, b3, b4, b5, b6, b7, b8, b9, b10, b11, b12, b13, b14⟩ := g
  exact ⟨b1.trans a1, b2.trans a2, b3.trans a3, b4.trans a4, b5.trans a5, b6.trans a6, b7.trans a7, b8.trans a8, b9.trans a9, b10.trans a10, b11.trans a11, b12.trans a12, b13.trans a13, b14.trans a14⟩
theorem FmT.tr (h : FmT M M') (g : FmT M' M2) : FmT M M2 := by
  obtain ⟨a1, a2, a3, a4, a5, a6, a7, a8, a9⟩ := h
  obtain ⟨b1, b2, b3, b4, b5, b6, b7, b8, b9⟩ := g
  exact ⟨b1.trans a1, b2.trans a2, b3.trans a3, b4.trans a4, b5.trans a5, b6.trans a6, b7.trans a7, b8.trans a8, b9.trans a9⟩
theorem segM_of (h7 : M'.2.1 7 = M.2.1 7) (h8 : M'.2.1 8 = M.2.1 8) (t p : Nat) : segM M' t p = segM M t p := by
  unfold segM
  rw [h7, h8]
theorem RTx.fr (h : RTx S M) (e10 : S'.2 10 = S.2 10) (e11 : S'.2 11 = S.2 11) (e12 : S'.2 12 = S.2 12) (e93 : S'.1 93 = S.1 93) (h7 : M'.2.1 7 = M.2.1 7) (h8 : M'.2.1 8 = M.2.1 8) (h9 : M'.1 9 = M.1 9) : RTx S' M' := by
  unfold RTx
  rw [e10, e11, e12, e93, h9]
  refine ⟨h.1, h.2.1, fun t ht who hw => ?_⟩
  rw [soF_seg (segM_of h7 h8 t 0), soF_seg (segM_of h7 h8 t 1), saysF_seg (segM_of h7 h8 t 2)]
  exact h.2.2 t ht who hw
theorem KR.talk (k : KR S M) (f : FrT S S') (g : FmT M M') (hc : CLen S') (hi : ImC S') (hl : TkL S') (r : RTk S' M') (ri : RIm S' M') : KR S' M' := by
  obtain ⟨c1, c2, c3, c4, c5, k6, k7, k8, k9, k10, k11, k12⟩ := k
  obtain ⟨a1, a2, a3, a4, a5, a6, a7, a8, a9, a10, a11, a12, a13, a14⟩ := f
  obtain ⟨b1, b2, b3, b4, b5, b6, b7, b8, b9⟩ := g
  refine ⟨hc, ?_, hi, hl, ?_, r, ri, ?_, ?_, ?_, k11.fr a6 a7 a8 a14 b2 b3 b9, ?_⟩
  · unfold TxInv
    rw [a2, a3, a4, a5]
    exact c2
  · rw [a12]; exact c5
  · unfold RSh
    rw [a9, a10, a11, b4, b5, b6]
    exact k8
  · unfold ShV
    rw [b4, b6]
    exact k9
  · unfold RTp
    rw [a1, a13, b1, b8]
    exact k10
  · rw [b7]; exact k12
theorem KR.cl (k : KR S M) : CLen S := k.1
theorem KR.tl (k : KR S M) : TkL S := k.2.2.2.1
theorem KR.rt (k : KR S M) : RTk S M := k.2.2.2.2.2.1
theorem KR.ri (k : KR S M) : RIm S M := k.2.2.2.2.2.2.1
theorem KR.rs (k : KR S M) : RSh S M := k.2.2.2.2.2.2.2.1
theorem KR.sv (k : KR S M) : ShV M := k.2.2.2.2.2.2.2.2.1
theorem KR.tp (k : KR S M) : RTp S M := k.2.2.2.2.2.2.2.2.2.1
theorem KR.tx (k : KR S M) : RTx S M := k.2.2.2.2.2.2.2.2.2.2.1
theorem KR.e93 (k : KR S M) : S.1 93 = M.1 9 := k.tx.2.1
theorem TkL.r14 {S : CS} (h : TkL S) {a b : List Int32} (ha : a.length = 5) (hb : b.length = 5) : TkL (cR (cR S 14 a) 15 b) := ⟨ha, hb, h.2.2.1, h.2.2.2.1, h.2.2.2.2.1, h.2.2.2.2.2⟩
theorem speaker_KR (h : RInv M nt ns nk ta) (k : KR S M) (a b : Int32) : KR (kspG S a b).1 (spG M ns a b).1 ∧ (kspG S a b).2 = (spG M ns a b).2 := by
  obtain ⟨r1, r2, r3⟩ := speaker_rel h.1 k.rt k.ri a b
  refine ⟨k.talk ?_ ?_ ?_ ?_ ?_ r1 r2, r3⟩
  · unfold kspG
    split
    · split
      · exact FrT.rf (S := S)
      · exact FrT.rf
    · exact FrT.rf
  · unfold spG
    split
    · split
      · exact FmT.rf
      · exact FmT.rf (M := M)
    · exact FmT.rf
  · unfold kspG
    split
    · split
      · exact ((k.cl.row 14 _ (by rw [putF_len]; exact k.cl 14)).row 15 _ (by rw [putF_len]; exact k.cl 15)).num 133 _
      · exact k.cl
    · exact k.cl
  · unfold kspG
    split
    · split
      · exact k.2.2.1
      · exact k.2.2.1
    · exact k.2.2.1
  · unfold kspG
    split
    · split
      · have e : TkL (cR (cR S 14 (putF (S.2 14) (S.1 133) a)) 15 (putF (S.2 15) (S.1 133) b)) := k.tl.r14 (putF_len.trans k.tl.1) (putF_len.trans k.tl.2.1)
        exact e
      · exact k.tl
    · exact k.tl
theorem turn_KR (h : RInv M nt ns nk ta) (k : KR S M) (s a b : Int32) : KR (ktrG S s a b).1 (trG M ns s a b).1 ∧ (ktrG S s a b).2 = (trG M ns s a b).2 := by
  obtain ⟨r1, r2, r3⟩ := turn_rel h.1 k.rt k.ri s a b
  refine ⟨k.talk ?_ ?_ ?_ ?_ ?_ r1 r2, r3⟩
  · unfold ktrG
    split
    · split
      · exact FrT.rf (S := S)
      · exact FrT.rf
    · exact FrT.rf
  · unfold trG
    split
    · split
      · exact FmT.rf (M := M)
      · exact FmT.rf
    · exact FmT.rf
  · unfold ktrG
    split
    · split
      · exact (k.cl.row 14 _ (by rw [putF_len]; exact k.cl 14)).row 15 _ (by rw [putF_len]; exact k.cl 15)
      · exact k.cl
    · exact k.cl
  · unfold ktrG
    split
    · split
      · exact k.2.2.1
      · exact k.2.2.1
    · exact k.2.2.1
  · unfold ktrG
    split
    · split
      · exact k.tl.r14 (putF_len.trans k.tl.1) (putF_len.trans k.tl.2.1)
      · exact k.tl
    · exact k.tl
theorem ksyG_fr (s t u : Int32) : FrT S (ksyG S s t u).1 := by
  unfold ksyG
  split
  · split
    · split
      · exact FrT.rf (S := S)
      · exact FrT.rf
    · exact FrT.rf
  · exact FrT.rf
theorem syG_fr (s t u : Int32) : FmT M (syG M nt ns nk s t u).1 := by
  unfold syG
  split
  · split
    · split
      · exact FmT.rf
      · exact FmT.rf (M := M)
    · exact FmT.rf
  · exact FmT.rf
theorem ksyG_im (h : ImC S) (s t u : Int32) : ImC (ksyG S s t u).1 := by
  unfold ksyG
  split
  · split
    · split
      · exact h
      · exact h
    · exact h
  · exact h
theorem ksyG_tl (h : TkL S) (s t u : Int32) : TkL (ksyG S s t u).1 := by
  unfold ksyG
  split
  · split
    · split
      · exact ⟨h.1, h.2.1, (by rw [← h.2.2.1]; show (putF (putF (putF (S.2 16) _ s) _ t) _ u).length = _; rw [putF_len, putF_len, putF_len]), h.2.2.2⟩
      · exact h
    · exact h
  · exact h
theorem say_KR (h : RInv M nt ns nk ta) (k : KR S M) (s t u : Int32) : KR (ksyG S s t u).1 (syG M nt ns nk s t u).1 ∧ (ksyG S s t u).2 = (syG M nt ns nk s t u).2 := by
  obtain ⟨r1, r2, r3⟩ := say_rel h.1 k.rt k.ri k.e93 s t u
  exact ⟨k.talk (ksyG_fr s t u) (syG_fr s t u) (ksyG_len k.cl s t u) (ksyG_im k.2.2.1 s t u) (ksyG_tl k.tl s t u) r1 r2, r3⟩
abbrev unM (M : MS) : MS := if M.1 3 = Int32.ofInt 0 then M else mN M 3 (M.1 3 - Int32.ofInt 1)
theorem unsay_KR (h : RInv M nt ns nk ta) (k : KR S M) : KR (kunG S).1 (unM M) ∧ (kunG S).2 = (if M.1 3 = Int32.ofInt 0 then Int32.ofInt (-3) else M.1 3 - Int32.ofInt 1) := by
  obtain ⟨r1, r2, r3⟩ := unsay_rel h.1 k.rt k.ri
  refine ⟨k.talk ?_ ?_ ?_ ?_ ?_ r1 r2, r3⟩
  · unfold kunG
    split
    · exact FrT.rf (S := S)
    · exact FrT.rf
  · unfold unM
    split
    · exact FmT.rf
    · exact FmT.rf (M := M)
  · unfold kunG
    split
    · exact k.cl.num 134 _
    · exact k.cl
  · unfold kunG
    split
    · exact k.2.2.1
    · exact k.2.2.1
  · unfold kunG
    split
    · exact k.tl
    · exact k.tl
abbrev foM (M : MS) (v : Int32) : MS := if frP M v then mN M 10 v else M
theorem force_KR (h : RInv M nt ns nk ta) (k : KR S M) (v : Int32) : KR (kfoG S v).1 (foM M v) ∧ (kfoG S v).2 = (if frP M v then M.1 10 else Int32.ofInt (-2)) := by
  obtain ⟨r1, r2, r3⟩ := force_rel k.rt k.ri h.1 k.e93 v
  refine ⟨k.talk ?_ ?_ ?_ ?_ ?_ r1 r2, r3⟩
  · unfold kfoG
    split
    · exact FrT.rf (S := S)
    · exact FrT.rf
  · unfold foM
    split
    · exact FmT.rf (M := M)
    · exact FmT.rf
  · unfold kfoG
    split
    · exact k.cl.num 135 _
    · exact k.cl
  · unfold kfoG
    split
    · exact k.2.2.1
    · exact k.2.2.1
  · unfold kfoG
    split
    · exact k.tl
    · exact k.tl
theorem image_KR (h : RInv M nt ns nk ta) (k : KR S M) : KR (cN (kepS S (S.2 14) (S.2 15) (S.2 16)) 8 1) (imM M) ∧ S.1 134 = M.1 3 := by
  obtain ⟨r1, r2, r3⟩ := image_rel k.rt
  have q := KR.ki h k
  refine ⟨k.talk (FrT.rf (S := S)) (FmT.rf (M := M)) ?_ ?_ ?_ r1 r2, r3⟩
  · exact ((k.cl.row 18 _ (k.cl 14)).row 19 _ (k.cl 15)).row 20 _ (k.cl 16)
  · exact ⟨ns, nk, q.1.2.2.2.1, q.1.2.2.2.2.1, q.1.2.2.2.2.2.1, q.1.2.2.2.2.2.2⟩
  · exact ⟨k.tl.1, k.tl.2.1, k.tl.2.2.1, k.tl.1, k.tl.2.1, k.tl.2.2.1⟩
theorem back_KR (k : KR S M) : KR (kbkG S).1 (bkG M).1 ∧ (kbkG S).2 = (bkG M).2 := by
  obtain ⟨r1, r2, r3⟩ := back_rel k.rt k.ri k.tl
  obtain ⟨t1, t2, t3, t4, t5, t6⟩ := k.tl
  refine ⟨k.talk ?_ ?_ ?_ ?_ ?_ r1 r2, r3⟩
  · unfold kbkG
    split
    · exact FrT.rf
    · exact FrT.rf (S := S)
  · unfold bkG
    split
    · exact FmT.rf
    · exact FmT.rf (M := M)
  · unfold kbkG
    split
    · exact k.cl
    · exact ((k.cl.row 14 _ (k.cl 18)).row 15 _ (k.cl 19)).row 16 _ (k.cl 20)
  · unfold kbkG
    split
    · exact k.2.2.1
    · exact k.2.2.1
  · unfold kbkG
    split
    · exact k.tl
    · exact ⟨t4, t5, t6, t4, t5, t6⟩
theorem one_un (a b : Int32) : oneOf a b = unF a b := by
  unfold oneOf unF
  by_cases h0 : b = 0
  · rw [if_pos h0, if_pos h0]
    by_cases h1 : a = b
    · rw [if_pos h1]
    · rw [if_neg h1]
  · rw [if_neg h0, if_neg h0]
    by_cases h1 : a = b
    · rw [if_pos h1, if_pos h1]
    · rw [if_neg h1, if_neg h1]
      simp only [and_comm]
theorem taken_rel (h : RInv M nt ns nk ta) (k : KR S M) (i c : Int32) : ktkG S i c = tkG M ns nk i c := by
  obtain ⟨r0, r3, r10, r1, r2, r4⟩ := k.rt
  have h0 := h.1.2.2.2.1
  have h3 := h.1.2.2.2.2.1
  unfold ktkG tkG
  have x7 : kxP 7 c ↔ ((0 : Int32) ≤ c ∧ c ≤ 6) := and_congr_right (fun _ => ltle (by decide))
  have x17 : kxP 17 i ↔ ((0 : Int32) ≤ i ∧ i ≤ 16) := and_congr_right (fun _ => ltle (by decide))
  by_cases q : (0 : Int32) ≤ c ∧ c ≤ 6
  · rw [if_pos (x7.mpr q), if_pos q]
    by_cases q2 : (0 : Int32) ≤ i ∧ i ≤ 16
    · rw [if_pos (x17.mpr q2), if_pos q2]
      obtain ⟨a, ha, rfl⟩ := inC (c := 16) (n := 16) (by decide) (by decide) q2
      by_cases q3 : (12 : Int32) ≤ nI a
      · have a12 : 12 ≤ a := (nI_leI (a := 12) (by decide) (by omega)).mp q3
        have e12 : nI a - 12 = nI (a - 12) := nI_sub (b := 12) a12
        rw [if_neg (Int32.not_lt.mpr q3), if_pos q3, e12]
        unfold kspT
        rw [r0.trans h0.1]
        by_cases q4 : nI (a - 12) < nI ns
        · rw [if_pos q4, if_pos q4, nI_clamp (by omega), r1, atF_n (by omega), one_un]
          by_cases q5 : (6 : Int32) ≤ c
          · have e6 : c = 6 := Int32.le_antisymm q.2 q5
            have h5 := h0.2
            have a5 : a - 12 < 5 := by
              have := Int32.lt_iff_toInt_lt.mp q4
              rw [nI_toInt (by omega), nI_toInt (by omega)] at this
              omega
            have hk := h.1.2.2.2.2.2.2.1 (a - 12) a5
            subst e6
            have ne : ¬ (M.2.1 1).getD (a - 12) 0 = 6 := fun z => by
              rw [z] at hk
              exact absurd hk.1.2 (by decide)
            have e0 : unF ((M.2.1 1).getD (a - 12) 0) 6 = 0 := by
              unfold unF
              rw [if_neg (by decide), if_neg ne, if_neg (fun z => absurd z.1 (by decide)), if_neg (fun z => absurd z.1 (by decide))]
            rw [if_pos e0, if_pos (by decide)]
          · rw [if_neg q5]
        · rw [if_neg q4, if_neg q4]
      · have a12 : a < 12 := Nat.lt_of_not_le (fun z => q3 ((nI_leI (a := 12) (by decide) (by omega)).mpr z))
        rw [if_pos (Int32.not_le.mp q3), if_neg q3]
        unfold ksaT partF
        rw [r3.trans h3.1, r4, show (3 : Int32) * nI a + 2 = nI (3 * a + 2) from by rw [show (3 : Int32) * nI a = nI (3 * a) from nI_mul 3 a]; exact nI_add _ 2, atF_n (by omega), nI_clamp (by omega)]
    · rw [if_neg (fun z => q2 (x17.mp z)), if_neg q2]
  · rw [if_neg (fun z => q (x7.mp z)), if_neg q]
end KRS
