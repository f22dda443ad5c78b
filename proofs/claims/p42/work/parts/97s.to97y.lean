/-! parts 97s .. 97y, joined -/
section
-- 97s.kr
/-! BOTH SIDES ALIKE: all of it; what each call that changes the talk keeps -/
section KRS
variable {S S' S2 : CS} {M M' M2 : MS} {nt ns nk ta : Nat}
def RTp (S : CS) (M : MS) : Prop := S.1 11 = M.1 6 ∧ (S.2 2).length = 160 ∧ ∀ j, j < (M.1 6).toNatClampNeg → (S.2 2).getD j 0 = (M.2.1 5).getD j 0
def RTx (S : CS) (M : MS) : Prop := ((S.2 10).length = 30 ∧ (S.2 11).length = 30 ∧ (S.2 12).length = 30) ∧ S.1 93 = M.1 9 ∧ ∀ t, t < (M.1 9).toNatClampNeg → ∀ who, who < 5 →
  Zx ((S.2 10).getD (5 * t + who) 0) (soF M 0 t (nI who) 32) ∧ Zx ((S.2 11).getD (5 * t + who) 0) (soF M 1 t (nI who) 32) ∧ (S.2 12).getD (5 * t + who) 0 = saysF M 2 t 0 (nI who)
def ImC (S : CS) : Prop := ∃ a b : Nat, S.1 173 = nI a ∧ a ≤ 5 ∧ S.1 174 = nI b ∧ b ≤ 12
/-- all that is alike, and the class's rows -/
def KR (S : CS) (M : MS) : Prop := CLen S ∧ TxInv S ∧ ImC S ∧ TkL S ∧ (S.2 25).length = 40 ∧ RTk S M ∧ RIm S M ∧ RSh S M ∧ ShV M ∧ RTp S M ∧ RTx S M ∧ M.2.1 25 = WS
theorem KR.ki (h : RInv M nt ns nk ta) (k : KR S M) : KI S nt ns nk ta := by
  obtain ⟨c1, c2, c3, c4, c5, ⟨k0, k3, -, -⟩, k7, k8, k9, ⟨k10, -⟩, ⟨-, k11, -⟩, k12⟩ := k
  obtain ⟨⟨-, -, ⟨h9, h91, h96⟩, ⟨h0, h5⟩, ⟨h3, h12⟩, -⟩, ⟨h6, h160⟩, -⟩ := h
  exact ⟨⟨c1, k11.trans h9, ⟨h91, h96⟩, k0.trans h0, h5, k3.trans h3, h12⟩, c2, ⟨k10.trans h6, h160⟩, c3⟩
/-- a call of the talk: what it leaves of the class -/
def FrT (S S' : CS) : Prop := S'.2 2 = S.2 2 ∧ S'.2 4 = S.2 4 ∧ S'.2 5 = S.2 5 ∧ S'.2 6 = S.2 6 ∧ S'.2 7 = S.2 7 ∧ S'.2 10 = S.2 10 ∧ S'.2 11 = S.2 11 ∧ S'.2 12 = S.2 12 ∧ S'.2 22 = S.2 22 ∧ S'.2 23 = S.2 23 ∧ S'.2 24 = S.2 24 ∧ S'.2 25 = S.2 25 ∧ S'.1 11 = S.1 11 ∧ S'.1 93 = S.1 93
/-- and of the reference -/
def FmT (M M' : MS) : Prop := M'.2.1 5 = M.2.1 5 ∧ M'.2.1 7 = M.2.1 7 ∧ M'.2.1 8 = M.2.1 8 ∧ M'.2.1 17 = M.2.1 17 ∧ M'.2.1 18 = M.2.1 18 ∧ M'.2.1 19 = M.2.1 19 ∧ M'.2.1 25 = M.2.1 25 ∧ M'.1 6 = M.1 6 ∧ M'.1 9 = M.1 9
theorem FrT.rf : FrT S S := ⟨rfl, rfl, rfl, rfl, rfl, rfl, rfl, rfl, rfl, rfl, rfl, rfl, rfl, rfl⟩
theorem FmT.rf : FmT M M := ⟨rfl, rfl, rfl, rfl, rfl, rfl, rfl, rfl, rfl⟩
theorem segM_of (h7 : M'.2.1 7 = M.2.1 7) (h8 : M'.2.1 8 = M.2.1 8) (t p : Nat) : segM M' t p = segM M t p := by
  unfold segM
  rw [h7, h8]
theorem RTx.fr (h : RTx S M) (e10 : S'.2 10 = S.2 10) (e11 : S'.2 11 = S.2 11) (e12 : S'.2 12 = S.2 12) (e93 : S'.1 93 = S.1 93) (h7 : M'.2.1 7 = M.2.1 7) (h8 : M'.2.1 8 = M.2.1 8) (h9 : M'.1 9 = M.1 9) : RTx S' M' := by
  unfold RTx
  rw [e10, e11, e12, e93, h9]
  refine ⟨h.1, h.2.1, fun t ht who hw => ?_⟩
  rw [soF_seg (segM_of h7 h8 t 0), soF_seg (segM_of h7 h8 t 1), saysF_seg (segM_of h7 h8 t 2)]
  exact h.2.2 t ht who hw
theorem KR.talk (k : KR S M) (f : FrT S S') (g : FmT M M') (hc : CLen S') (hi : ImC S') (hl : TkL S') (r : RTk S' M') (ri : RIm S' M') : KR S' M' := by
  obtain ⟨c1, c2, c3, c4, c5, k6, k7, k8, k9, k10, k11, k12⟩ := k
  obtain ⟨a1, a2, a3, a4, a5, a6, a7, a8, a9, a10, a11, a12, a13, a14⟩ := f
  obtain ⟨b1, b2, b3, b4, b5, b6, b7, b8, b9⟩ := g
  refine ⟨hc, ?_, hi, hl, ?_, r, ri, ?_, ?_, ?_, k11.fr a6 a7 a8 a14 b2 b3 b9, ?_⟩
  · unfold TxInv
    rw [a2, a3, a4, a5]
    exact c2
  · rw [a12]; exact c5
  · unfold RSh
    rw [a9, a10, a11, b4, b5, b6]
    exact k8
  · unfold ShV
    rw [b4, b6]
    exact k9
  · unfold RTp
    rw [a1, a13, b1, b8]
    exact k10
  · rw [b7]; exact k12
theorem KR.cl (k : KR S M) : CLen S := k.1
theorem KR.tl (k : KR S M) : TkL S := k.2.2.2.1
theorem KR.rt (k : KR S M) : RTk S M := k.2.2.2.2.2.1
theorem KR.ri (k : KR S M) : RIm S M := k.2.2.2.2.2.2.1
theorem KR.rs (k : KR S M) : RSh S M := k.2.2.2.2.2.2.2.1
theorem KR.sv (k : KR S M) : ShV M := k.2.2.2.2.2.2.2.2.1
theorem KR.tp (k : KR S M) : RTp S M := k.2.2.2.2.2.2.2.2.2.1
theorem KR.tx (k : KR S M) : RTx S M := k.2.2.2.2.2.2.2.2.2.2.1
theorem KR.e93 (k : KR S M) : S.1 93 = M.1 9 := k.tx.2.1
theorem TkL.r14 {S : CS} (h : TkL S) {a b : List Int32} (ha : a.length = 5) (hb : b.length = 5) : TkL (cR (cR S 14 a) 15 b) := ⟨ha, hb, h.2.2.1, h.2.2.2.1, h.2.2.2.2.1, h.2.2.2.2.2⟩
theorem speaker_KR (h : RInv M nt ns nk ta) (k : KR S M) (a b : Int32) : KR (kspG S a b).1 (spG M ns a b).1 ∧ (kspG S a b).2 = (spG M ns a b).2 := by
  obtain ⟨r1, r2, r3⟩ := speaker_rel h.1 k.rt k.ri a b
  refine ⟨k.talk ?_ ?_ ?_ ?_ ?_ r1 r2, r3⟩
  · unfold kspG
    split
    · split
      · exact FrT.rf (S := S)
      · exact FrT.rf
    · exact FrT.rf
  · unfold spG
    split
    · split
      · exact FmT.rf
      · exact FmT.rf (M := M)
    · exact FmT.rf
  · unfold kspG
    split
    · split
      · exact ((k.cl.row 14 _ (by rw [putF_len]; exact k.cl 14)).row 15 _ (by rw [putF_len]; exact k.cl 15)).num 133 _
      · exact k.cl
    · exact k.cl
  · unfold kspG
    split
    · split
      · exact k.2.2.1
      · exact k.2.2.1
    · exact k.2.2.1
  · unfold kspG
    split
    · split
      · have e : TkL (cR (cR S 14 (putF (S.2 14) (S.1 133) a)) 15 (putF (S.2 15) (S.1 133) b)) := k.tl.r14 (putF_len.trans k.tl.1) (putF_len.trans k.tl.2.1)
        exact e
      · exact k.tl
    · exact k.tl
theorem turn_KR (h : RInv M nt ns nk ta) (k : KR S M) (s a b : Int32) : KR (ktrG S s a b).1 (trG M ns s a b).1 ∧ (ktrG S s a b).2 = (trG M ns s a b).2 := by
  obtain ⟨r1, r2, r3⟩ := turn_rel h.1 k.rt k.ri s a b
  refine ⟨k.talk ?_ ?_ ?_ ?_ ?_ r1 r2, r3⟩
  · unfold ktrG
    split
    · split
      · exact FrT.rf (S := S)
      · exact FrT.rf
    · exact FrT.rf
  · unfold trG
    split
    · split
      · exact FmT.rf (M := M)
      · exact FmT.rf
    · exact FmT.rf
  · unfold ktrG
    split
    · split
      · exact (k.cl.row 14 _ (by rw [putF_len]; exact k.cl 14)).row 15 _ (by rw [putF_len]; exact k.cl 15)
      · exact k.cl
    · exact k.cl
  · unfold ktrG
    split
    · split
      · exact k.2.2.1
      · exact k.2.2.1
    · exact k.2.2.1
  · unfold ktrG
    split
    · split
      · exact k.tl.r14 (putF_len.trans k.tl.1) (putF_len.trans k.tl.2.1)
      · exact k.tl
    · exact k.tl
theorem ksyG_fr (s t u : Int32) : FrT S (ksyG S s t u).1 := by
  unfold ksyG
  split
  · split
    · split
      · exact FrT.rf (S := S)
      · exact FrT.rf
    · exact FrT.rf
  · exact FrT.rf
theorem syG_fr (s t u : Int32) : FmT M (syG M nt ns nk s t u).1 := by
  unfold syG
  split
  · split
    · split
      · exact FmT.rf
      · exact FmT.rf (M := M)
    · exact FmT.rf
  · exact FmT.rf
theorem ksyG_im (h : ImC S) (s t u : Int32) : ImC (ksyG S s t u).1 := by
  unfold ksyG
  split
  · split
    · split
      · exact h
      · exact h
    · exact h
  · exact h
theorem ksyG_tl (h : TkL S) (s t u : Int32) : TkL (ksyG S s t u).1 := by
  unfold ksyG
  split
  · split
    · split
      · exact ⟨h.1, h.2.1, (by rw [← h.2.2.1]; show (putF (putF (putF (S.2 16) _ s) _ t) _ u).length = _; rw [putF_len, putF_len, putF_len]), h.2.2.2⟩
      · exact h
    · exact h
  · exact h
theorem say_KR (h : RInv M nt ns nk ta) (k : KR S M) (s t u : Int32) : KR (ksyG S s t u).1 (syG M nt ns nk s t u).1 ∧ (ksyG S s t u).2 = (syG M nt ns nk s t u).2 := by
  obtain ⟨r1, r2, r3⟩ := say_rel h.1 k.rt k.ri k.e93 s t u
  exact ⟨k.talk (ksyG_fr s t u) (syG_fr s t u) (ksyG_len k.cl s t u) (ksyG_im k.2.2.1 s t u) (ksyG_tl k.tl s t u) r1 r2, r3⟩
abbrev unM (M : MS) : MS := if M.1 3 = Int32.ofInt 0 then M else mN M 3 (M.1 3 - Int32.ofInt 1)
theorem unsay_KR (h : RInv M nt ns nk ta) (k : KR S M) : KR (kunG S).1 (unM M) ∧ (kunG S).2 = (if M.1 3 = Int32.ofInt 0 then Int32.ofInt (-3) else M.1 3 - Int32.ofInt 1) := by
  obtain ⟨r1, r2, r3⟩ := unsay_rel h.1 k.rt k.ri
  refine ⟨k.talk ?_ ?_ ?_ ?_ ?_ r1 r2, r3⟩
  · unfold kunG
    split
    · exact FrT.rf (S := S)
    · exact FrT.rf
  · unfold unM
    split
    · exact FmT.rf
    · exact FmT.rf (M := M)
  · unfold kunG
    split
    · exact k.cl.num 134 _
    · exact k.cl
  · unfold kunG
    split
    · exact k.2.2.1
    · exact k.2.2.1
  · unfold kunG
    split
    · exact k.tl
    · exact k.tl
abbrev foM (M : MS) (v : Int32) : MS := if frP M v then mN M 10 v else M
theorem force_KR (h : RInv M nt ns nk ta) (k : KR S M) (v : Int32) : KR (kfoG S v).1 (foM M v) ∧ (kfoG S v).2 = (if frP M v then M.1 10 else Int32.ofInt (-2)) := by
  obtain ⟨r1, r2, r3⟩ := force_rel k.rt k.ri h.1 k.e93 v
  refine ⟨k.talk ?_ ?_ ?_ ?_ ?_ r1 r2, r3⟩
  · unfold kfoG
    split
    · exact FrT.rf (S := S)
    · exact FrT.rf
  · unfold foM
    split
    · exact FmT.rf (M := M)
    · exact FmT.rf
  · unfold kfoG
    split
    · exact k.cl.num 135 _
    · exact k.cl
  · unfold kfoG
    split
    · exact k.2.2.1
    · exact k.2.2.1
  · unfold kfoG
    split
    · exact k.tl
    · exact k.tl
theorem image_KR (h : RInv M nt ns nk ta) (k : KR S M) : KR (cN (kepS S (S.2 14) (S.2 15) (S.2 16)) 8 1) (imM M) ∧ S.1 134 = M.1 3 := by
  obtain ⟨r1, r2, r3⟩ := image_rel k.rt
  have q := KR.ki h k
  refine ⟨k.talk (FrT.rf (S := S)) (FmT.rf (M := M)) ?_ ?_ ?_ r1 r2, r3⟩
  · exact ((k.cl.row 18 _ (k.cl 14)).row 19 _ (k.cl 15)).row 20 _ (k.cl 16)
  · exact ⟨ns, nk, q.1.2.2.2.1, q.1.2.2.2.2.1, q.1.2.2.2.2.2.1, q.1.2.2.2.2.2.2⟩
  · exact ⟨k.tl.1, k.tl.2.1, k.tl.2.2.1, k.tl.1, k.tl.2.1, k.tl.2.2.1⟩
theorem back_KR (k : KR S M) : KR (kbkG S).1 (bkG M).1 ∧ (kbkG S).2 = (bkG M).2 := by
  obtain ⟨r1, r2, r3⟩ := back_rel k.rt k.ri k.tl
  obtain ⟨t1, t2, t3, t4, t5, t6⟩ := k.tl
  refine ⟨k.talk ?_ ?_ ?_ ?_ ?_ r1 r2, r3⟩
  · unfold kbkG
    split
    · exact FrT.rf
    · exact FrT.rf (S := S)
  · unfold bkG
    split
    · exact FmT.rf
    · exact FmT.rf (M := M)
  · unfold kbkG
    split
    · exact k.cl
    · exact ((k.cl.row 14 _ (k.cl 18)).row 15 _ (k.cl 19)).row 16 _ (k.cl 20)
  · unfold kbkG
    split
    · exact k.2.2.1
    · exact k.2.2.1
  · unfold kbkG
    split
    · exact k.tl
    · exact ⟨t4, t5, t6, t4, t5, t6⟩
theorem one_un (a b : Int32) : oneOf a b = unF a b := by
  unfold oneOf unF
  by_cases h0 : b = 0
  · rw [if_pos h0, if_pos h0]
    by_cases h1 : a = b
    · rw [if_pos h1]
    · rw [if_neg h1]
  · rw [if_neg h0, if_neg h0]
    by_cases h1 : a = b
    · rw [if_pos h1, if_pos h1]
    · rw [if_neg h1, if_neg h1]
      simp only [and_comm]
theorem taken_rel (h : RInv M nt ns nk ta) (k : KR S M) (i c : Int32) : ktkG S i c = tkG M ns nk i c := by
  obtain ⟨r0, r3, r10, r1, r2, r4⟩ := k.rt
  have h0 := h.1.2.2.2.1
  have h3 := h.1.2.2.2.2.1
  unfold ktkG tkG
  have x7 : kxP 7 c ↔ ((0 : Int32) ≤ c ∧ c ≤ 6) := and_congr_right (fun _ => ltle (by decide))
  have x17 : kxP 17 i ↔ ((0 : Int32) ≤ i ∧ i ≤ 16) := and_congr_right (fun _ => ltle (by decide))
  by_cases q : (0 : Int32) ≤ c ∧ c ≤ 6
  · rw [if_pos (x7.mpr q), if_pos q]
    by_cases q2 : (0 : Int32) ≤ i ∧ i ≤ 16
    · rw [if_pos (x17.mpr q2), if_pos q2]
      obtain ⟨a, ha, rfl⟩ := inC (c := 16) (n := 16) (by decide) (by decide) q2
      by_cases q3 : (12 : Int32) ≤ nI a
      · have a12 : 12 ≤ a := (nI_leI (a := 12) (by decide) (by omega)).mp q3
        have e12 : nI a - 12 = nI (a - 12) := nI_sub (b := 12) a12
        rw [if_neg (Int32.not_lt.mpr q3), if_pos q3, e12]
        unfold kspT
        rw [r0.trans h0.1]
        by_cases q4 : nI (a - 12) < nI ns
        · rw [if_pos q4, if_pos q4, nI_clamp (by omega), r1, atF_n (by omega), one_un]
          by_cases q5 : (6 : Int32) ≤ c
          · have e6 : c = 6 := Int32.le_antisymm q.2 q5
            have h5 := h0.2
            have a5 : a - 12 < 5 := by
              have := Int32.lt_iff_toInt_lt.mp q4
              rw [nI_toInt (by omega), nI_toInt (by omega)] at this
              omega
            have hk := h.1.2.2.2.2.2.2.1 (a - 12) a5
            subst e6
            have ne : ¬ (M.2.1 1).getD (a - 12) 0 = 6 := fun z => by
              rw [z] at hk
              exact absurd hk.1.2 (by decide)
            have e0 : unF ((M.2.1 1).getD (a - 12) 0) 6 = 0 := by
              unfold unF
              rw [if_neg (by decide), if_neg ne, if_neg (fun z => absurd z.1 (by decide)), if_neg (fun z => absurd z.1 (by decide))]
            rw [if_pos e0, if_pos (by decide)]
          · rw [if_neg q5]
        · rw [if_neg q4, if_neg q4]
      · have a12 : a < 12 := Nat.lt_of_not_le (fun z => q3 ((nI_leI (a := 12) (by decide) (by omega)).mpr z))
        rw [if_pos (Int32.not_le.mp q3), if_neg q3]
        unfold ksaT partF
        rw [r3.trans h3.1, r4, show (3 : Int32) * nI a + 2 = nI (3 * a + 2) from by rw [show (3 : Int32) * nI a = nI (3 * a) from nI_mul 3 a]; exact nI_add _ 2, atF_n (by omega), nI_clamp (by omega)]
    · rw [if_neg (fun z => q2 (x17.mp z)), if_neg q2]
  · rw [if_neg (fun z => q (x7.mp z)), if_neg q]
end KRS
end
section
-- 97t.kr2
/-! BOTH SIDES ALIKE: sheets, bytes fed, sayings by a sheet -/
section KRT
variable {S S' S2 : CS} {M M' M2 : MS} {nt ns nk ta : Nat}
def FrS (S S' : CS) : Prop := S'.2 2 = S.2 2 ∧ S'.2 4 = S.2 4 ∧ S'.2 5 = S.2 5 ∧ S'.2 6 = S.2 6 ∧ S'.2 7 = S.2 7 ∧ S'.2 10 = S.2 10 ∧ S'.2 11 = S.2 11 ∧ S'.2 12 = S.2 12 ∧ S'.2 14 = S.2 14 ∧ S'.2 15 = S.2 15 ∧ S'.2 16 = S.2 16 ∧ S'.2 18 = S.2 18 ∧ S'.2 19 = S.2 19 ∧ S'.2 20 = S.2 20 ∧ S'.1 = S.1
def FmS (M M' : MS) : Prop := M'.2.1 1 = M.2.1 1 ∧ M'.2.1 2 = M.2.1 2 ∧ M'.2.1 4 = M.2.1 4 ∧ M'.2.1 5 = M.2.1 5 ∧ M'.2.1 7 = M.2.1 7 ∧ M'.2.1 8 = M.2.1 8 ∧ M'.2.1 15 = M.2.1 15 ∧ M'.2.1 16 = M.2.1 16 ∧ M'.2.1 25 = M.2.1 25 ∧ M'.1 = M.1
theorem FrS.rf : FrS S S := ⟨rfl, rfl, rfl, rfl, rfl, rfl, rfl, rfl, rfl, rfl, rfl, rfl, rfl, rfl, rfl⟩
theorem FmS.rf : FmS M M := ⟨rfl, rfl, rfl, rfl, rfl, rfl, rfl, rfl, rfl, rfl⟩
theorem KR.sheets (k : KR S M) (f : FrS S S') (g : FmS M M') (hc : CLen S') (h25 : (S'.2 25).length = 40) (rs : RSh S' M') (sv : ShV M') : KR S' M' := by
  obtain ⟨c1, c2, c3, c4, c5, k6, k7, k8, k9, k10, k11, k12⟩ := k
  obtain ⟨a1, a2, a3, a4, a5, a6, a7, a8, a9, a10, a11, a12, a13, a14, a15⟩ := f
  obtain ⟨b1, b2, b3, b4, b5, b6, b7, b8, b9, b10⟩ := g
  refine ⟨hc, ?_, ?_, ?_, h25, ?_, ?_, rs, sv, ?_, k11.fr a6 a7 a8 (by rw [a15]) b5 b6 (by rw [b10]), ?_⟩
  · unfold TxInv
    rw [a2, a3, a4, a5]
    exact c2
  · unfold ImC
    rw [a15]
    exact c3
  · unfold TkL
    rw [a9, a10, a11, a12, a13, a14]
    exact c4
  · unfold RTk
    rw [a15, a9, a10, a11, b1, b2, b3, b10]
    exact k6
  · unfold RIm
    rw [a15, a12, a13, a14, b7, b8, b10]
    exact k7
  · unfold RTp
    rw [a1, a15, b4, b10]
    exact k10
  · rw [b9]; exact k12
theorem zeC_get {f : Nat → Int32} {xs : List Int32} {s : Nat} : ∀ n, 40 * s + n ≤ xs.length → ∀ y, (zeC f xs s n).getD y 0 = if 40 * s ≤ y ∧ y < 40 * s + n then f (y - 40 * s) else xs.getD y 0
  | 0, _, y => by rw [zeC, if_neg (by omega)]
  | n + 1, h, y => by
    rw [zeC, getD_set, zeC_len, zeC_get n (by omega)]
    by_cases e : 40 * s + n = y
    · subst e
      rw [if_pos ⟨rfl, by omega⟩, if_pos ⟨by omega, by omega⟩, Nat.add_sub_cancel_left]
    · rw [if_neg (fun z => e z.1)]
      by_cases q : 40 * s ≤ y ∧ y < 40 * s + n
      · rw [if_pos q, if_pos ⟨q.1, by omega⟩]
      · rw [if_neg q, if_neg (fun z => q ⟨z.1, by omega⟩)]
/-- a sheet made anew -/
theorem ShV.made {xs ys : List Int32} {f : Nat → Int32} {a : Nat} {v : Int32} (h : ShV M) (l17 : (M.2.1 17).length = 4) (l19 : (M.2.1 19).length = 160) (ha : a < 4) (hf : ∀ x, x < 40 → ceV v (f x) = f x) {c : List Int32} (hc : c = zeC f (M.2.1 19) a 40) : ShV (mR (mR (mR M 17 ((M.2.1 17).set a v)) 18 ys) 19 c) := by
  intro s hs i hi
  show ceV (((M.2.1 17).set a v).getD s 0) (c.getD (40 * s + i) 0) = c.getD (40 * s + i) 0
  rw [hc, zeC_get 40 (by omega)]
  by_cases e : a = s
  · subst e
    rw [getD_set_eq (by omega), if_pos ⟨by omega, by omega⟩]
    exact hf _ (by omega)
  · rw [getD_set_ne e, if_neg (by omega)]
    exact h s hs i hi
theorem ceV_0 (v : Int32) : ceV v 0 = 0 := by
  unfold ceV
  by_cases h0 : v = 0
  · rw [if_pos h0]; rfl
  · rw [if_neg h0]
    by_cases h1 : v = 1
    · rw [if_pos h1]; rfl
    · rw [if_neg h1]
theorem ceV_id (v x : Int32) : ceV v (ceV v x) = ceV v x := by
  unfold ceV
  by_cases h0 : v = 0
  · rw [if_pos h0, if_pos h0]
    simp
  · rw [if_neg h0, if_neg h0]
    by_cases h1 : v = 1
    · rw [if_pos h1, if_pos h1]
      simp
    · rw [if_neg h1, if_neg h1]
theorem sheet_KR (h : RInv M nt ns nk ta) (k : KR S M) (s sort n : Int32) : KR (kshG S s sort n).1 (shG M s sort n).1 ∧ (kshG S s sort n).2 = (shG M s sort n).2 := by
  obtain ⟨r1, r2⟩ := sheet_rel k.rs s sort n
  have l17 : (M.2.1 17).length = 4 := h.1.1.2.2.2.2.2.2.2.2.1
  have l19 : (M.2.1 19).length = 160 := h.1.1.2.2.2.2.2.2.2.2.2.2.1
  refine ⟨?_, r2⟩
  unfold kshG shG at r1 ⊢
  by_cases q : p3P s ∧ m2P sort ∧ (sort = -1 ∨ n ≤ 40)
  · rw [if_pos q, if_pos q] at r1 ⊢
    by_cases q2 : ¬ sort = -1 ∧ n < 0
    · rw [if_pos q2, if_pos q2] at r1 ⊢
      exact k
    · rw [if_neg q2, if_neg q2] at r1 ⊢
      obtain ⟨a, ha, rfl⟩ := in03n q.1
      rw [nI_clamp (by omega)] at r1 ⊢
      revert r1
      unfold kmkS shM
      obtain ⟨c, hc⟩ : ∃ c, c = zeC (fun _ => 0) (S.2 24) a 40 := ⟨_, rfl⟩
      obtain ⟨d, hd⟩ : ∃ d, d = zeC (fun _ => 0) (M.2.1 19) a 40 := ⟨_, rfl⟩
      rw [← hc, ← hd]
      intro r1
      refine k.sheets FrS.rf FmS.rf ?_ k.2.2.2.2.1 r1 ?_
      · exact ((k.cl.row 22 _ (by rw [List.length_set]; exact k.cl 22)).row 23 _ (by rw [List.length_set]; exact k.cl 23)).row 24 _ (by rw [hc, zeC_len]; exact k.cl 24)
      · exact k.sv.made (xs := []) l17 l19 ha (fun x _ => ceV_0 sort) hd
  · rw [if_neg q, if_neg q] at r1 ⊢
    exact k
theorem cell_KR (h : RInv M nt ns nk ta) (k : KR S M) (s i v : Int32) : KR (kceG S s i v).1 (ceG M s i v).1 ∧ (kceG S s i v).2 = (ceG M s i v).2 := by
  obtain ⟨r1, r2⟩ := cell_rel h.2.2.1 k.rs s i v
  have l19 : (M.2.1 19).length = 160 := h.1.1.2.2.2.2.2.2.2.2.2.2.1
  have hs := h.2.2.1
  refine ⟨?_, r2⟩
  have f1 : FrS S (kceG S s i v).1 := by
    unfold kceG
    split
    · split
      · exact FrS.rf
      · split
        · exact FrS.rf (S := S)
        · exact FrS.rf
    · exact FrS.rf
  have f2 : FmS M (ceG M s i v).1 := by
    unfold ceG
    split
    · split
      · exact FmS.rf
      · split
        · exact FmS.rf (M := M)
        · exact FmS.rf
    · exact FmS.rf
  have f3 : CLen (kceG S s i v).1 ∧ ((kceG S s i v).1.2 25).length = 40 := by
    unfold kceG
    split
    · split
      · exact ⟨k.cl, k.2.2.2.2.1⟩
      · split
        · exact ⟨k.cl.row 24 _ (by rw [putF_len]; exact k.cl 24), k.2.2.2.2.1⟩
        · exact ⟨k.cl, k.2.2.2.2.1⟩
    · exact ⟨k.cl, k.2.2.2.2.1⟩
  refine k.sheets f1 f2 f3.1 f3.2 r1 ?_
  unfold ceG
  by_cases q : p3P s
  · rw [if_pos q]
    obtain ⟨a, ha, rfl⟩ := in03n q
    obtain ⟨hm, z, hz, ez⟩ := hs a ha
    rw [nI_clamp (by omega), ez]
    by_cases q2 : (M.2.1 17).getD a 0 = -1
    · rw [if_pos q2]; exact k.sv
    · rw [if_neg q2]
      by_cases q3 : tP z i
      · rw [if_pos (show (0 : Int32) ≤ i ∧ i ≤ nI z - 1 from q3)]
        obtain ⟨b, hb, rfl⟩ := inN (by omega) q3
        rw [nI_clamp (by omega)]
        intro s' hs' i' hi'
        show ceV ((M.2.1 17).getD s' 0) (((M.2.1 19).set (40 * a + b) (ceV ((M.2.1 17).getD a 0) v)).getD (40 * s' + i') 0) = ((M.2.1 19).set (40 * a + b) (ceV ((M.2.1 17).getD a 0) v)).getD (40 * s' + i') 0
        by_cases e : 40 * a + b = 40 * s' + i'
        · have ea : a = s' := by omega
          subst ea
          rw [← e, getD_set_eq (by omega)]
          exact ceV_id _ _
        · rw [getD_set_ne e]
          exact k.sv s' hs' i' hi'
      · rw [if_neg (show ¬ ((0 : Int32) ≤ i ∧ i ≤ nI z - 1) from q3)]; exact k.sv
  · rw [if_neg q]; exact k.sv
theorem film_KR (h : RInv M nt ns nk ta) (k : KR S M) (s : Int32) : KR (kfiG S nk s).1 (fiG M nk s).1 ∧ (kfiG S nk s).2 = (fiG M nk s).2 := by
  have l17 : (M.2.1 17).length = 4 := h.1.1.2.2.2.2.2.2.2.2.1
  have l19 : (M.2.1 19).length = 160 := h.1.1.2.2.2.2.2.2.2.2.2.2.1
  obtain ⟨s1, s2, s3⟩ := k.rs
  have t4 := k.rt.2.2.2.2.2
  unfold kfiG fiG
  by_cases q : p3P s
  · rw [if_pos q, if_pos q]
    obtain ⟨a, ha, rfl⟩ := in03n q
    rw [nI_clamp (by omega)]
    refine ⟨?_, rfl⟩
    show KR (kfiS S nk a) (fiM M nk a)
    unfold kfiS fiM
    have ecd : zeC (fiC S (3 * nk)) (S.2 24) a 40 = zeC (fiV M nk) (M.2.1 19) a 40 := by
      rw [s3]
      refine zeC_congr 40 (fun x _ => ?_)
      unfold fiC fiV
      rw [t4]
    rw [ecd]
    obtain ⟨d, hd⟩ : ∃ d, d = zeC (fiV M nk) (M.2.1 19) a 40 := ⟨_, rfl⟩
    rw [← hd]
    refine k.sheets FrS.rf FmS.rf ?_ k.2.2.2.2.1 ⟨?_, ?_, rfl⟩ ?_
    · exact ((k.cl.row 22 _ (by rw [List.length_set]; exact k.cl 22)).row 23 _ (by rw [List.length_set]; exact k.cl 23)).row 24 _ (by rw [hd, zeC_len, l19]; decide)
    · show (S.2 22).set a 2 = (M.2.1 17).set a 2
      rw [s1]
    · show (S.2 23).set a (nI (3 * nk)) = (M.2.1 18).set a (nI (3 * nk))
      rw [s2]
    · exact k.sv.made (xs := []) (v := 2) l17 l19 ha (fun x _ => rfl) hd
  · rw [if_neg q, if_neg q]
    exact ⟨k, rfl⟩
theorem coC_get {xs : List Int32} {a b n : Nat} (hb : b + n ≤ xs.length) : ∀ k, k ≤ n → ∀ y, (coC xs a b n k).getD y 0 = if b + (if a < b then n - k else 0) ≤ y ∧ y < b + (if a < b then n else k) then xs.getD (a + (y - b)) 0 else xs.getD y 0
  | 0, _, y => by
    rw [coC]
    by_cases q : a < b
    · rw [if_pos q, if_pos q, if_neg (by omega)]
    · rw [if_neg q, if_neg q, if_neg (by omega)]
  | k + 1, hk, y => by
    rw [coC, getD_set, coC_len, coC_get hb k (by omega), coC_get hb k (by omega)]
    unfold coX
    by_cases q : a < b
    · simp only [if_pos q]
      by_cases e : b + (n - 1 - k) = y
      · subst e
        rw [if_pos ⟨rfl, by omega⟩, if_neg (by omega), if_pos (by omega)]
        congr 1
        omega
      · rw [if_neg (fun z => e z.1)]
        by_cases q2 : b + (n - k) ≤ y ∧ y < b + n
        · rw [if_pos q2, if_pos (by omega)]
        · rw [if_neg q2, if_neg (by omega)]
    · simp only [if_neg q]
      by_cases e : b + k = y
      · subst e
        rw [if_pos ⟨rfl, by omega⟩, if_neg (by omega), if_pos (by omega)]
        congr 1
        omega
      · rw [if_neg (fun z => e z.1)]
        by_cases q2 : b + 0 ≤ y ∧ y < b + k
        · rw [if_pos q2, if_pos (by omega)]
        · rw [if_neg q2, if_neg (by omega)]
theorem cp_co {xs : List Int32} {a b n : Nat} (hb : b + n ≤ xs.length) : cpC xs xs a b n = coC xs a b n n := by
  refine ext_getD ((cpC_len n).trans (coC_len n).symm) (fun y _ => ?_)
  rw [cpC_get n hb, coC_get hb n (Nat.le_refl _)]
  by_cases q : a < b
  · simp only [if_pos q, Nat.sub_self, Nat.add_zero]
  · simp only [if_neg q, Nat.add_zero]
theorem le_sub_i {n i : Int32} {z : Nat} (hz : z ≤ 40) (hi : ¬ i < 0) : n ≤ nI z - i ↔ n.toInt ≤ z - i.toInt := by
  have g1 := Int32.le_iff_toInt_le.mp (Int32.not_lt.mp hi)
  have e0 : (0 : Int32).toInt = 0 := by decide
  have e5 : (nI z - i).toInt = z - i.toInt := by
    rw [Int32.toInt_sub, nI_toInt (by omega)]
    have := Int32.toInt_lt i
    apply Int.bmod_eq_of_le <;> omega
  rw [Int32.le_iff_toInt_le, e5]
theorem co_iff (hs : ShOk M) (r : RSh S M) {a b : Nat} (ha : a < 4) (hb : b < 4) (i j n : Int32) : coiP S (nI a) i (nI b) j n ↔ coP M (nI a) i (nI b) j n := by
  obtain ⟨-, z, hz, ez⟩ := hs a ha
  obtain ⟨-, y, hy, ey⟩ := hs b hb
  unfold coiP coP hrP
  rw [r.2.1, atF_n (by omega), atF_n (by omega), nI_clamp (by omega), nI_clamp (by omega), ez, ey]
  have e0 : (0 : Int32).toInt = 0 := by decide
  by_cases hn : n < 0
  · exact ⟨fun h => absurd hn h.1.1, fun h => absurd hn h.1⟩
  by_cases hi : i < 0
  · exact ⟨fun h => absurd hi h.1.2.1, fun h => absurd hi h.2.1⟩
  by_cases hj : j < 0
  · exact ⟨fun h => absurd hj h.2.2.1, fun h => absurd hj h.2.2.1⟩
  rw [le_sub_i hz hn, le_sub_i hy hn, le_sub_i hz hi, le_sub_i hy hj, Int32.le_iff_toInt_le, Int32.le_iff_toInt_le, Int32.le_iff_toInt_le, Int32.le_iff_toInt_le, nI_toInt (by omega), nI_toInt (by omega)]
  have g1 := Int32.le_iff_toInt_le.mp (Int32.not_lt.mp hn)
  have g2 := Int32.le_iff_toInt_le.mp (Int32.not_lt.mp hi)
  have g3 := Int32.le_iff_toInt_le.mp (Int32.not_lt.mp hj)
  constructor
  · rintro ⟨⟨-, -, h3, h4⟩, -, -, h5, h6⟩
    exact ⟨hn, hi, hj, by omega, by omega, by omega, by omega⟩
  · rintro ⟨-, -, -, h3, h4, h5, h6⟩
    exact ⟨⟨hn, hi, by omega, by omega⟩, hn, hj, by omega, by omega⟩
theorem ShV.shc (h : ShV M) (r : RSh S M) : ShC S := by
  intro s hs i hi
  have := h s hs i hi
  unfold wrV
  rw [r.1, r.2.2, atF_n (by omega)]
  exact this
theorem copy_KR (h : RInv M nt ns nk ta) (k : KR S M) (s i o j n : Int32) : kcoA S s i o j n = (coG M s i o j n).2 ∧ ∀ S', kcoP S s i o j n S' → KR S' (coG M s i o j n).1 := by
  have l19 : (M.2.1 19).length = 160 := h.1.1.2.2.2.2.2.2.2.2.2.2.1
  have hs := h.2.2.1
  have rs := k.rs
  unfold kcoA coG kcoP coyP
  by_cases q : p3P s ∧ p3P o
  · have qc : cobP S s o := ⟨x4_iff.mpr q.1, x4_iff.mpr q.2⟩
    rw [if_pos qc, if_pos q]
    obtain ⟨a, ha, rfl⟩ := in03n q.1
    obtain ⟨b, hb, rfl⟩ := in03n q.2
    have em : comP S (nI a) (nI b) ↔ ((M.2.1 17).getD (nI a).toNatClampNeg 0 = -1 ∨ (M.2.1 17).getD (nI b).toNatClampNeg 0 = -1) := by
      unfold comP
      rw [rs.1, atF_n (by omega), atF_n (by omega), nI_clamp (by omega), nI_clamp (by omega)]
    by_cases q2 : comP S (nI a) (nI b)
    · rw [if_pos q2, if_pos (em.mp q2)]
      exact ⟨rfl, fun S' hS' => by rw [hS'.2 (fun z => z.2.1 q2)]; exact k⟩
    · rw [if_neg q2, if_neg (fun z => q2 (em.mpr z))]
      have ee : atF (S.2 22) (nI a) = atF (S.2 22) (nI b) ↔ (M.2.1 17).getD (nI a).toNatClampNeg 0 = (M.2.1 17).getD (nI b).toNatClampNeg 0 := by
        rw [rs.1, atF_n (by omega), atF_n (by omega), nI_clamp (by omega), nI_clamp (by omega)]
      by_cases q3 : atF (S.2 22) (nI a) = atF (S.2 22) (nI b)
      · rw [if_pos q3, if_pos (ee.mp q3)]
        have ei := co_iff hs rs ha hb i j n
        by_cases q4 : coiP S (nI a) i (nI b) j n
        · rw [if_pos q4, if_pos (ei.mp q4)]
          refine ⟨rfl, fun S' hS' => ?_⟩
          obtain ⟨r25, lr, rfl⟩ := hS'.1 ⟨qc, q2, q3, q4⟩
          obtain ⟨-, z, hz, ez⟩ := hs a ha
          obtain ⟨-, y, hy, ey⟩ := hs b hb
          obtain ⟨i', n', rfl, rfl, hin⟩ := hr_nat (S := S) (s := nI a) (a := a) hz (by rw [rs.2.1, atF_n (by omega)]; exact ez) q4.1
          obtain ⟨j', n2, rfl, en, hjn⟩ := hr_nat (S := S) (s := nI b) (a := b) hy (by rw [rs.2.1, atF_n (by omega)]; exact ey) q4.2
          have en := nI_inj (by omega) (by omega) en
          subst en
          have eso : (M.2.1 17).getD a 0 = (M.2.1 17).getD b 0 := by
            have := ee.mp q3
            rw [nI_clamp (by omega), nI_clamp (by omega)] at this
            exact this
          rw [nI_clamp (by omega), nI_clamp (by omega), nI_clamp (by omega), nI_clamp (by omega), nI_clamp (by omega)]
          have ecp : cpC (S.2 24) (S.2 24) (40 * a + i') (40 * b + j') n' = coC (M.2.1 19) (40 * a + i') (40 * b + j') n' n' := by
            rw [rs.2.2]
            exact cp_co (by omega)
          have eget := coC_get (xs := M.2.1 19) (a := 40 * a + i') (b := 40 * b + j') (n := n') (by omega) n' (Nat.le_refl _)
          rw [ecp]
          have lc : (coC (M.2.1 19) (40 * a + i') (40 * b + j') n' n').length = 160 := (coC_len n').trans l19
          generalize coC (M.2.1 19) (40 * a + i') (40 * b + j') n' n' = c at eget lc
          refine k.sheets FrS.rf FmS.rf ?_ lr ⟨rs.1, rs.2.1, rfl⟩ ?_
          · exact (k.cl.row 25 _ (by rw [lr]; decide)).row 24 _ (by rw [lc]; decide)
          · intro s' hs' x hx
            show ceV ((M.2.1 17).getD s' 0) (c.getD (40 * s' + x) 0) = c.getD (40 * s' + x) 0
            rw [eget]
            by_cases q5 : 40 * b + j' + (if 40 * a + i' < 40 * b + j' then n' - n' else 0) ≤ 40 * s' + x ∧ 40 * s' + x < 40 * b + j' + (if 40 * a + i' < 40 * b + j' then n' else n')
            · rw [if_pos q5]
              have q6 : 40 * b + j' ≤ 40 * s' + x ∧ 40 * s' + x < 40 * b + j' + n' := by
                revert q5
                by_cases q7 : 40 * a + i' < 40 * b + j'
                · rw [if_pos q7, if_pos q7, Nat.sub_self]; exact fun z => ⟨by omega, by omega⟩
                · rw [if_neg q7, if_neg q7]; exact fun z => ⟨by omega, by omega⟩
              have eb : s' = b := by omega
              subst eb
              have := k.sv a ha (i' + (x - j')) (by omega)
              rw [eso] at this
              rw [show 40 * a + i' + (40 * s' + x - (40 * s' + j')) = 40 * a + (i' + (x - j')) by omega]
              exact this
            · rw [if_neg q5]
              exact k.sv s' hs' x hx
        · rw [if_neg q4, if_neg (fun z => q4 (ei.mpr z))]
          exact ⟨rfl, fun S' hS' => by rw [hS'.2 (fun z => q4 z.2.2.2)]; exact k⟩
      · rw [if_neg q3, if_neg (fun z => q3 (ee.mpr z))]
        exact ⟨rfl, fun S' hS' => by rw [hS'.2 (fun z => q3 z.2.2.1)]; exact k⟩
  · rw [if_neg (fun z => q ⟨x4_iff.mp z.1, x4_iff.mp z.2⟩), if_neg q]
    exact ⟨rfl, fun S' hS' => by rw [hS'.2 (fun z => q ⟨x4_iff.mp z.1.1, x4_iff.mp z.1.2⟩)]; exact k⟩
end KRT
end
section
-- 97u.kr3
/-! BOTH SIDES ALIKE: bytes fed, sayings by a sheet, texts -/
section KRU
variable {S S' S2 : CS} {M M' M2 : MS} {nt ns nk ta : Nat}
theorem fd_al {xs ys : List Int32} {ta : Nat} {f : Nat → Int32} (l1 : xs.length = 160) (l2 : ys.length = 160) (h : ∀ j, j < ta → xs.getD j 0 = ys.getD j 0) (M : MS) (hM : M.2.1 5 = ys) : ∀ n, ta + n ≤ 160 → ∀ j, j < ta + n → (fdC xs ta f n).getD j 0 = (fdM M ta f n).getD j 0
  | 0, _, j, hj => by
    rw [fdC, fdM, hM]
    exact h j hj
  | n + 1, hn, j, hj => by
    rw [fdC, fdM]
    by_cases e : ta + n = j
    · subst e
      rw [getD_set_eq (by rw [fdC_len, l1]; omega), getD_set_eq (by rw [fdM_len, hM, l2]; omega)]
    · rw [getD_set_ne e, getD_set_ne e]
      exact fd_al l1 l2 h M hM n (by omega) j (by omega)
theorem feed_KR (h : RInv M nt ns nk ta) (k : KR S M) (n a b c d e : Int32) : KR (kfeG S ta n a b c d e).1 (fdG M ta n a b c d e).1 ∧ (kfeG S ta n a b c d e).2 = (fdG M ta n a b c d e).2 := by
  have l5 : (M.2.1 5).length = 160 := h.1.1.2.2.2.1
  obtain ⟨p1, p2, p3⟩ := k.tp
  have e6 := h.2.1.1
  have ht := h.2.1.2
  rw [e6, nI_clamp (by omega)] at p3
  unfold kfeG fdG
  by_cases q : feQ n a b c d e
  · rw [if_pos q, if_pos q]
    by_cases q2 : 160 < ta + n.toNatClampNeg
    · rw [if_pos q2, if_pos q2]
      exact ⟨k, rfl⟩
    · rw [if_neg q2, if_neg q2]
      refine ⟨?_, rfl⟩
      have hal := fd_al (f := fdV a b c d e) p2 l5 p3 M rfl n.toNatClampNeg (by omega)
      have lc : (fdC (S.2 2) ta (fdV a b c d e) n.toNatClampNeg).length = 160 := (fdC_len _).trans p2
      generalize fdC (S.2 2) ta (fdV a b c d e) n.toNatClampNeg = u at hal lc
      generalize fdM M ta (fdV a b c d e) n.toNatClampNeg = v at hal
      obtain ⟨c1, c2, c3, c4, c5, k6, k7, k8, k9, k10, k11, k12⟩ := k
      refine ⟨c1.row 2 _ (by rw [lc]; decide), c2, c3, c4, c5, k6, k7, k8, k9, ⟨rfl, lc, ?_⟩, k11.fr rfl rfl rfl rfl rfl rfl rfl, k12⟩
      intro j hj
      have hj : j < (nI (ta + n.toNatClampNeg)).toNatClampNeg := hj
      rw [nI_clamp (by omega)] at hj
      exact hal j hj
  · rw [if_neg q, if_neg q]
    exact ⟨k, rfl⟩
/-! sayings by a sheet -/
theorem hr_sb {s z k : Nat} {fr : Int32} (hz : z ≤ 40) (e : atF (S.2 23) (nI s) = nI z) (hk : k < 12) (hf : k = 0 ∨ ((0 : Int32) ≤ fr ∧ fr ≤ 37)) : hrP S (nI s) (fr + Int32.ofInt 3 * nI k) 3 ↔ ¬ sbP (nI z) fr k := by
  have e0 : (0 : Int32).toInt = 0 := by decide
  have e3 : (3 : Int32).toInt = 3 := by decide
  have e37 : (37 : Int32).toInt = 37 := by decide
  have ez3 : ∀ x : Int32, x = 3 → (nI z - x).toInt = (z : Int) - 3 := by
    rintro x rfl
    rw [Int32.toInt_sub, nI_toInt (by omega), e3]
    apply Int.bmod_eq_of_le <;> omega
  unfold hrP sbP
  rw [e]
  have ek : Int32.ofInt 3 * nI k = nI (3 * k) := nI_mul 3 k
  rw [ek]
  have hz3 := ez3 3 rfl
  have hz3' := ez3 (Int32.ofInt 3) rfl
  rcases hf with rfl | ⟨f0, f1⟩
  · rw [show fr + nI (3 * 0) = fr from Int32.add_zero fr]
    constructor
    · rintro ⟨-, h1, h2, h3⟩
      rintro (g | g | g)
      · exact h1 g
      · exact absurd g Int32.lt_irrefl
      · have g := Int32.lt_iff_toInt_lt.mp g
        have h3 := Int32.le_iff_toInt_le.mp h3
        omega
    · intro h
      have g0 : ¬ fr < 0 := fun z => h (Or.inl z)
      have g1 : fr ≤ nI z - Int32.ofInt 3 := Int32.not_lt.mp (fun y => h (Or.inr (Or.inr y)))
      have i0 := Int32.le_iff_toInt_le.mp (Int32.not_lt.mp g0)
      have i1 := Int32.le_iff_toInt_le.mp g1
      refine ⟨by decide, g0, ?_, ?_⟩
      · rw [Int32.le_iff_toInt_le, nI_toInt (by omega)]; omega
      · rw [Int32.le_iff_toInt_le]; omega
  · have i0 := Int32.le_iff_toInt_le.mp f0
    have i1 := Int32.le_iff_toInt_le.mp f1
    have es : (fr + nI (3 * k)).toInt = fr.toInt + 3 * k := by
      rw [Int32.toInt_add, nI_toInt (by omega)]
      rw [Int.bmod_eq_of_le (by omega) (by omega)]
      omega
    have n0 : ¬ fr + nI (3 * k) < 0 := fun g => by
      have g := Int32.lt_iff_toInt_lt.mp g
      omega
    have n1 : ¬ fr + nI (3 * k) < fr := fun g => by
      have g := Int32.lt_iff_toInt_lt.mp g
      omega
    constructor
    · rintro ⟨-, h1, h2, h3⟩
      rintro (g | g | g)
      · exact absurd f0 (Int32.not_le.mpr g)
      · exact n1 g
      · have g := Int32.lt_iff_toInt_lt.mp g
        have h3 := Int32.le_iff_toInt_le.mp h3
        omega
    · intro h
      have g1 : fr + nI (3 * k) ≤ nI z - Int32.ofInt 3 := Int32.not_lt.mp (fun y => h (Or.inr (Or.inr y)))
      have i2 := Int32.le_iff_toInt_le.mp g1
      refine ⟨by decide, n0, ?_, ?_⟩
      · rw [Int32.le_iff_toInt_le, nI_toInt (by omega)]; omega
      · rw [Int32.le_iff_toInt_le]; omega
theorem sb_al {s z : Nat} {fr : Int32} (hs : s < 4) (hz : z ≤ 40) : ∀ (m k : Nat) (Q : CS) (R : MS) (nk came : Nat), k + m ≤ 12 → RInv R nt ns nk ta → KR Q R → (R.2.1 18).getD s 0 = nI z → (k = 0 ∨ ((0 : Int32) ≤ fr ∧ fr ≤ 37)) →
    KR (ksbF s fr m k Q came).1 (sbF nt ns s (nI z) fr m k (R, nk, came)).1 ∧ (ksbF s fr m k Q came).2 = (sbF nt ns s (nI z) fr m k (R, nk, came)).2
  | 0, k, Q, R, nk, came, _, _, hk, _, _ => ⟨hk, rfl⟩
  | m + 1, k, Q, R, nk, came, hkm, hR, hk, ez, hf => by
    have rs := hk.rs
    have es : atF (Q.2 23) (nI s) = nI z := by rw [rs.2.1, atF_n (by omega)]; exact ez
    have hh := hr_sb (S := Q) hz es (show k < 12 by omega) hf
    rw [ksbF, sbF]
    by_cases q : sbP (nI z) fr k
    · rw [if_pos q, if_neg (fun z => hh.mp z q)]
      exact ⟨hk, rfl⟩
    · rw [if_neg q, if_pos (hh.mpr q)]
      obtain ⟨i, hi, ei⟩ := sb_in hz q
      have hfr : (0 : Int32) ≤ fr ∧ fr ≤ 37 := by
        have g0 : (0 : Int32) ≤ fr := Int32.not_lt.mp (fun z => q (Or.inl z))
        refine ⟨g0, ?_⟩
        rcases hf with rfl | h
        · have ei : fr + Int32.ofInt 3 * nI 0 = nI i := ei
          rw [show fr + Int32.ofInt 3 * nI 0 = fr from Int32.add_zero fr] at ei
          rw [ei]
          exact (nI_leI (b := 37) (by omega) (by decide)).mpr (by omega)
        · exact h.2
      rw [ei]
      have r0 : rdC Q s (nI i) = ceA R (40 * s + i) := by
        unfold rdC ceA
        rw [show nI s * Int32.ofInt 40 = nI (s * 40) from nI_mul s 40, nI_add, atF_n (by omega), rs.2.2, Nat.mul_comm s 40]
      have r1 : rdC Q s (nI i + Int32.ofInt 1) = ceA R (40 * s + i + 1) := by
        unfold rdC ceA
        rw [show nI i + Int32.ofInt 1 = nI (i + 1) from nI_add i 1, show nI s * Int32.ofInt 40 = nI (s * 40) from nI_mul s 40, nI_add, atF_n (by omega), rs.2.2, Nat.mul_comm s 40, Nat.add_assoc]
      have r2 : rdC Q s (nI i + Int32.ofInt 2) = ceA R (40 * s + i + 2) := by
        unfold rdC ceA
        rw [show nI i + Int32.ofInt 2 = nI (i + 2) from nI_add i 2, show nI s * Int32.ofInt 40 = nI (s * 40) from nI_mul s 40, nI_add, atF_n (by omega), rs.2.2, Nat.mul_comm s 40, Nat.add_assoc]
      have eY : ksbY Q s (nI i) = ksyG Q (ceA R (40 * s + i)) (ceA R (40 * s + i + 1)) (ceA R (40 * s + i + 2)) := by
        unfold ksbY
        rw [r0, r1, r2]
      rw [eY, nI_clamp (by omega)]
      unfold sbS
      show KR (ksbF s fr m (k + 1) (ksyG Q (ceA R (40 * s + i)) (ceA R (40 * s + i + 1)) (ceA R (40 * s + i + 2))).1 _).1 _ ∧ _
      obtain ⟨s1, s2⟩ := say_KR hR hk (ceA R (40 * s + i)) (ceA R (40 * s + i + 1)) (ceA R (40 * s + i + 2))
      obtain ⟨nk', g1, g2⟩ := syG_R hR (ceA R (40 * s + i)) (ceA R (40 * s + i + 1)) (ceA R (40 * s + i + 2))
      have f2 := syG_fr (M := R) (nt := nt) (ns := ns) (nk := nk) (ceA R (40 * s + i)) (ceA R (40 * s + i + 1)) (ceA R (40 * s + i + 2))
      have ew : (if (ksyG Q (ceA R (40 * s + i)) (ceA R (40 * s + i + 1)) (ceA R (40 * s + i + 2))).2 < 0 then came else came + 1) = (if 0 ≤ (syG R nt ns nk (ceA R (40 * s + i)) (ceA R (40 * s + i + 1)) (ceA R (40 * s + i + 2))).2 then came + 1 else came) := by
        rw [s2]
        by_cases w : (syG R nt ns nk (ceA R (40 * s + i)) (ceA R (40 * s + i + 1)) (ceA R (40 * s + i + 2))).2 < 0
        · rw [if_pos w, if_neg (fun z => absurd z (Int32.not_le.mpr w))]
        · rw [if_neg w, if_pos (Int32.not_lt.mp w)]
      rw [ew]
      rw [g2] at g1
      exact sb_al hs hz m (k + 1) _ _ _ _ (by omega) g1 s1 (by rw [f2.2.2.2.2.1]; exact ez) (Or.inr hfr)
theorem sayingsBy_KR (h : RInv M nt ns nk ta) (k : KR S M) (s sort fr n : Int32) : KR (ksbG S s sort fr n).1 (sbG M nt ns nk s sort fr n).1 ∧ (ksbG S s sort fr n).2 = (sbG M nt ns nk s sort fr n).2 := by
  have rs := k.rs
  unfold ksbG sbG
  by_cases q : p3P s ∧ p2P sort ∧ ((0 : Int32) ≤ n ∧ n ≤ 12)
  · rw [if_pos q, if_pos q]
    obtain ⟨a, ha, rfl⟩ := in03n q.1
    obtain ⟨m, hm, rfl⟩ := inC (c := 12) (n := 12) (by decide) (by decide) q.2.2
    rw [rs.1, atF_n (by omega), nI_clamp (by omega), nI_clamp (by omega)]
    by_cases q2 : (M.2.1 17).getD a 0 = -1
    · rw [if_pos q2, if_pos q2]
      exact ⟨k, rfl⟩
    · rw [if_neg q2, if_neg q2]
      by_cases q3 : (M.2.1 17).getD a 0 = sort
      · rw [if_pos q3, if_pos q3]
        obtain ⟨-, z, hz, ez⟩ := h.2.2.1 a ha
        rw [ez]
        exact sb_al ha hz m 0 S M nk 0 (by omega) h k ez (Or.inl rfl)
      · rw [if_neg q3, if_neg q3]
        exact ⟨k, rfl⟩
  · rw [if_neg q, if_neg q]
    exact ⟨k, rfl⟩
end KRU
end
section
-- 97v.kr4
/-! BOTH SIDES ALIKE: a text more -/
section KRV
variable {l : Launch} {X : List (List Int32)} {S S' : CS} {T : AH} {M M' : MS} {nt ns nk ta : Nat}
def txA (S : CS) (t n : Nat) : Int32 := if n = 6 then -4 else if (RT S t).1 = true then nI n else -100 - nI (RT S t).2.1.1.1
def TxC (S : CS) (t n : Nat) (S' : CS) : Prop := (n = 6 → S' = S) ∧ (n < 6 → ∃ r4 r5, CR r4 r5 (RT S t).2.1.2 ∧ ((RT S t).1 = false → S' = txS S t r4 r5) ∧ ((RT S t).1 = true → ∃ r7 m, r7.length = 160 ∧ S' = okS S t r4 r5 r7 m))
theorem P_text (h : KI S nt ns nk ta) : Ctr l 55 X sgX7_text [.ref 0] (encC S ++ T) (keQ T (TxC S ta nt) (txA S ta nt)) := by
  refine (c_text h.1.1 h.2.1 h.2.2.1.1 h.2.2.1.2 h.1.2.1 h.1.2.2.1.2).weak ?_
  rintro hp w ⟨h6, hlt⟩
  have hn6 := h.1.2.2.1.2
  by_cases e : nt = 6
  · obtain ⟨rfl, rfl⟩ := h6 e
    exact ke ⟨fun _ => rfl, fun z => absurd e (by omega)⟩ (if_pos e).symm
  · obtain ⟨r4, r5, hcr, hf, ht⟩ := hlt (by omega)
    cases hb : (RT S ta).1 with
    | false =>
      obtain ⟨rfl, rfl⟩ := hf hb
      refine ke ⟨fun z => absurd z e, fun _ => ⟨r4, r5, hcr, fun _ => rfl, fun z => by rw [hb] at z; cases z⟩⟩ ?_
      unfold txA
      rw [if_neg e, if_neg (by rw [hb]; decide)]
    | true =>
      obtain ⟨-, r7, m, h7, rfl, rfl⟩ := ht hb
      refine ke ⟨fun z => absurd z e, fun _ => ⟨r4, r5, hcr, fun z => (by rw [hb] at z; cases z), fun _ => ⟨r7, m, h7, rfl⟩⟩⟩ ?_
      unfold txA
      rw [if_neg e, if_pos hb]
abbrev WT (M : MS) (ta nt : Nat) : TS := txL (M.2.1 25) (M.2.1 5) ta nt 3 0 (true, 0, M.1 22, [], M.2.1 8)
abbrev ET (M : MS) (ta nt : Nat) : Bool × Int32 := txE (M.2.1 25) (M.2.1 5) ta (WT M ta nt)
def txB (M : MS) (ta nt : Nat) : Int32 := if nt = 6 then -4 else if (ET M ta nt).1 = true then nI nt else -100 - (ET M ta nt).2
def txN (M : MS) (nt : Nat) (W : TS) (e : Bool × Int32) (a tk v hm op : Int32) (cd hd : List Int32) : MS := mR (pM (xM (mN (mN M 6 (Int32.ofInt 0)) 9 (if e.1 = true then nI (nt + 1) else nI nt)) a e.2 tk v) cd hd hm op (nI W.2.2.2.1.length)) 8 (W.2.2.2.2.set (4 * nt + 3) (nI W.2.2.2.1.length))
def TxM (M : MS) (ta nt : Nat) (M' : MS) : Prop := (nt = 6 → M' = M) ∧ (nt < 6 → ∃ a tk v hm op cd hd, OutR (M.2.1 7) cd nt (WT M ta nt).2.2.2.1 ∧ hd.length = 200 ∧ M' = txN M nt (WT M ta nt) (ET M ta nt) a tk v hm op cd hd)
abbrev reQ (S : CS) (P : MS → Prop) (v : Int32) : AH → Option Value → Prop := fun h w => (∃ M', P M' ∧ h = mk S M') ∧ w = some (.int v)
set_option maxRecDepth 100000 in
theorem G_text (h : RInv M nt ns nk ta) : Ctr l 4 X sgX8_text [.ref 27] (mk S M) (reQ S (TxM M ta nt) (txB M ta nt)) := by
  obtain ⟨⟨hM, hO, ⟨h9, h91, h96⟩, h0, h3, -⟩, ⟨hta, hta2⟩, hs, hi⟩ := h
  by_cases e : nt = 6
  · refine Ctr.of okX8_text rfl (Nat.le_of_ble_eq_true rfl) (run_sound okX8_text noCut 40 (brT (show M.1 9 = 6 by rw [h9, e]; rfl) ⟨⟨M, ⟨fun _ => rfl, fun z => absurd e (by omega)⟩, rfl⟩, some_int ?_⟩))
    exact (if_pos e).symm
  · refine (m_text hM hta hta2 h9 (by omega)).weak ?_
    rintro hp w ⟨⟨a, cd, hd, hm, op, tk, v, ho, hhd, rfl⟩, rfl⟩
    refine ⟨⟨_, ⟨fun z => absurd z e, fun _ => ⟨a, tk, v, hm, op, cd, hd, ho, hhd, rfl⟩⟩, rfl⟩, some_int ?_⟩
    unfold txB
    rw [if_neg e]
    rfl
set_option maxRecDepth 100000 in
set_option maxHeartbeats 1000000 in
theorem txN_R (h : RInv M nt ns nk ta) (h6 : nt < 6) {a tk v hm op : Int32} {cd hd : List Int32} (ho : OutR (M.2.1 7) cd nt (WT M ta nt).2.2.2.1) (hhd : hd.length = 200) {M' : MS} (eM : M' = txN M nt (WT M ta nt) (ET M ta nt) a tk v hm op cd hd) :
    RInv M' (if (ET M ta nt).1 = true then nt + 1 else nt) ns nk 0 ∧ ∀ t, t < nt → ∀ p, p < 3 → segM M' t p = segM M t p := by
  obtain ⟨hm', ⟨hta, hta2⟩, hs, hi⟩ := h
  obtain ⟨hM, hO, ⟨h9, h91, h96⟩, h0, h3, ⟨r, hr, er⟩, hk5, htk⟩ := hm'
  have hle := txL_le (ws := M.2.1 25) (tp := M.2.1 5) (tx := nt) 3 0 (true, 0, M.1 22, [], M.2.1 8) (Nat.zero_le ta) (Nat.zero_le 0)
  have h24 : (M.2.1 8).length = 24 := hM.2.2.2.2.2.1
  have h7 : (M.2.1 7).length = 1200 := hM.2.2.2.2.1
  have more := fun (M' : MS) (h : AllOk M nt) (hT : (txL (M.2.1 25) (M.2.1 5) ta nt 3 0 (true, 0, M.1 22, [], M.2.1 8)).1 = true) => h.more (M' := M') (tx := nt) (t := ta) h6 hta2 h7 h24 hT
  unfold ET at eM ⊢
  unfold WT at ho eM ⊢
  unfold txN at eM
  have hE : (txE (M.2.1 25) (M.2.1 5) ta (txL (M.2.1 25) (M.2.1 5) ta nt 3 0 (true, 0, M.1 22, [], M.2.1 8))).1 = true → (txL (M.2.1 25) (M.2.1 5) ta nt 3 0 (true, 0, M.1 22, [], M.2.1 8)).1 = true := by
    intro q
    cases q2 : (txL (M.2.1 25) (M.2.1 5) ta nt 3 0 (true, 0, M.1 22, [], M.2.1 8)).1 with
    | true => rfl
    | false =>
      rw [txE, if_neg (by rw [q2]; decide)] at q
      exact absurd q Bool.false_ne_true
  generalize txL (M.2.1 25) (M.2.1 5) ta nt 3 0 (true, 0, M.1 22, [], M.2.1 8) = W at hle more ho hE eM ⊢
  generalize txE (M.2.1 25) (M.2.1 5) ta W = e at hE eM ⊢
  obtain ⟨i1, i2, i3, i4⟩ := hle
  have i3 : W.2.2.2.2.length = 24 := i3.trans h24
  have i4 : ∀ j, j < 4 * nt → W.2.2.2.2.getD j 0 = (M.2.1 8).getD j 0 := i4
  have hML : MLen M' := by
    subst eM
    obtain ⟨a1, a2, a3, a4, a5, a6, a7, a8, a9, a10, a11, a12, a13, a14, a15, a16, a17, a18⟩ := hM
    exact ⟨a1, a2, a3, a4, ho.1, (show (W.2.2.2.2.set (4 * nt + 3) (nI W.2.2.2.1.length)).length = 24 by rw [List.length_set]; exact i3), a7, a8, a9, a10, a11, a12, a13, hhd, a15, a16, a17, a18⟩
  have g8 : ∀ j, j < 4 * nt → (M'.2.1 8).getD j 0 = (M.2.1 8).getD j 0 := fun j hj => by
    subst eM
    show (W.2.2.2.2.set (4 * nt + 3) (nI W.2.2.2.1.length)).getD j 0 = _
    rw [getD_set_ne (by omega)]
    exact i4 j hj
  have g7 : ∀ j, j < 200 * nt → (M'.2.1 7).getD j 0 = (M.2.1 7).getD j 0 := fun j hj => by
    subst eM
    exact ho.2.1 j hj
  have l7 : (M'.2.1 7).length = (M.2.1 7).length := by
    subst eM
    exact ho.1.trans h7.symm
  have keep : AllOk M' nt := fun t ht p hp => (hO t ht p hp).of_eq (fun j hj => g8 j (by omega)) hp l7 (by rw [h7]; omega) (fun j hj => g7 j (by omega))
  have segs : ∀ t, t < nt → ∀ p, p < 3 → segM M' t p = segM M t p := fun t ht p hp => by
    obtain ⟨a, b, e1, e2, hab, hb, -⟩ := hO t ht p hp
    unfold segM
    rw [g8 (4 * t + p) (by omega), g8 (4 * t + p + 1) (by omega), e1, e2, nI_clamp (by omega), nI_clamp (by omega)]
    exact seg_eq (K := 200 * nt) l7 g7 (by omega) (by rw [h7]; omega)
  refine ⟨?_, segs⟩
  cases he : e.1 with
  | true =>
    rw [if_pos rfl]
    refine ⟨⟨hML, ?_, ?_, ?_, ?_, ?_, ?_, ?_⟩, ?_, ?_, ?_⟩
    · subst eM
      exact more _ hO (hE he) (by omega) ho rfl
    · subst eM
      exact ⟨if_pos he, by omega, by omega⟩
    · subst eM; exact h0
    · subst eM; exact h3
    · subst eM; exact ⟨r, by omega, er⟩
    · subst eM; exact hk5
    · subst eM; exact htk.mono (by omega)
    · subst eM; exact ⟨rfl, Nat.zero_le _⟩
    · subst eM; exact hs
    · subst eM; exact hi.mono (by omega)
  | false =>
    rw [if_neg Bool.false_ne_true]
    refine ⟨⟨hML, keep, ?_, ?_, ?_, ?_, ?_, ?_⟩, ?_, ?_, ?_⟩
    · subst eM
      exact ⟨if_neg (by rw [he]; decide), by omega, by omega⟩
    · subst eM; exact h0
    · subst eM; exact h3
    · subst eM; exact ⟨r, by omega, er⟩
    · subst eM; exact hk5
    · subst eM; exact htk
    · subst eM; exact ⟨rfl, Nat.zero_le _⟩
    · subst eM; exact hs
    · subst eM; exact hi
end KRV
end
section
-- 97w.kr5
/-! BOTH SIDES ALIKE: a text more, joined -/
section KRW
variable {S S' : CS} {M M' : MS} {nt ns nk ta : Nat}
theorem adR_get {f : Int32 → Int32} {xs : List Int32} {n : Nat} (hn : n ≤ 6) : ∀ k, 5 * n + k ≤ xs.length → k ≤ 5 → ∀ y, (adR f xs (nI n) k).getD y 0 = if 5 * n ≤ y ∧ y < 5 * n + k then f (nI (y - 5 * n)) else xs.getD y 0
  | 0, _, _, y => by rw [adR, if_neg (by omega)]
  | k + 1, h, h5, y => by
    have ei : nI n * 5 + nI k = nI (5 * n + k) := by
      rw [show nI n * 5 = nI (n * 5) from nI_mul n 5, nI_add, Nat.mul_comm n 5]
    rw [adR, ei, putF_n (by omega), getD_set, adR_len, adR_get hn k (by omega) (by omega)]
    by_cases e : 5 * n + k = y
    · subst e
      rw [if_pos ⟨rfl, by omega⟩, if_pos ⟨by omega, by omega⟩, Nat.add_sub_cancel_left]
    · rw [if_neg (fun z => e z.1)]
      by_cases q : 5 * n ≤ y ∧ y < 5 * n + k
      · rw [if_pos q, if_pos ⟨q.1, by omega⟩]
      · rw [if_neg q, if_neg (fun z => q ⟨z.1, by omega⟩)]
theorem cut3 {α : Type} (a b c : List α) : ((a ++ b ++ c).drop 0).take (a.length - 0) = a ∧ ((a ++ b ++ c).drop a.length).take ((a ++ b).length - a.length) = b ∧ ((a ++ b ++ c).drop (a ++ b).length).take ((a ++ b ++ c).length - (a ++ b).length) = c := by
  refine ⟨?_, ?_, ?_⟩
  · simp
  · rw [List.append_assoc, List.drop_left, List.length_append, Nat.add_sub_cancel_left, List.take_left]
  · rw [List.drop_left, List.length_append (bs := c), Nat.add_sub_cancel_left, List.take_length]
theorem prts_3 {c1 c2 c3 : List (Int32 × Int32)} (hl : (c1 ++ c2 ++ c3).length ≤ 160) : prts (c1 ++ c2 ++ c3) [0, nI c1.length, nI (c1 ++ c2).length, nI (c1 ++ c2 ++ c3).length] 0 = c1 ∧ prts (c1 ++ c2 ++ c3) [0, nI c1.length, nI (c1 ++ c2).length, nI (c1 ++ c2 ++ c3).length] 1 = c2 ∧ prts (c1 ++ c2 ++ c3) [0, nI c1.length, nI (c1 ++ c2).length, nI (c1 ++ c2 ++ c3).length] 2 = c3 := by
  have h12 : (c1 ++ c2).length ≤ (c1 ++ c2 ++ c3).length := by rw [List.length_append (bs := c3)]; omega
  have h1 : c1.length ≤ (c1 ++ c2).length := by rw [List.length_append]; omega
  obtain ⟨k1, k2, k3⟩ := cut3 c1 c2 c3
  have n1 : (nI c1.length).toNatClampNeg = c1.length := nI_clamp (by omega)
  have n2 : (nI (c1 ++ c2).length).toNatClampNeg = (c1 ++ c2).length := nI_clamp (by omega)
  have n3 : (nI (c1 ++ c2 ++ c3).length).toNatClampNeg = (c1 ++ c2 ++ c3).length := nI_clamp (by omega)
  refine ⟨?_, ?_, ?_⟩
  · show ((c1 ++ c2 ++ c3).drop 0).take ((nI c1.length).toNatClampNeg - 0) = c1
    rw [n1]; exact k1
  · show ((c1 ++ c2 ++ c3).drop (nI c1.length).toNatClampNeg).take ((nI (c1 ++ c2).length).toNatClampNeg - (nI c1.length).toNatClampNeg) = c2
    rw [n1, n2]; exact k2
  · show ((c1 ++ c2 ++ c3).drop (nI (c1 ++ c2).length).toNatClampNeg).take ((nI (c1 ++ c2 ++ c3).length).toNatClampNeg - (nI (c1 ++ c2).length).toNatClampNeg) = c3
    rw [n2, n3]; exact k3
theorem seg_3 {c1 c2 c3 : List (Int32 × Int32)} (hl : (c1 ++ c2 ++ c3).length ≤ 160) {cd starts st : List Int32} {n : Nat} (hn : n < 6) (l24 : starts.length = 24) (hcd : (cd.drop (200 * n)).take ((c1 ++ c2 ++ c3).map gm).length = (c1 ++ c2 ++ c3).map gm)
    (hst : st = (((starts.set (4 * n) 0).set (4 * n + 1) (nI c1.length)).set (4 * n + 2) (nI (c1 ++ c2).length)).set (4 * n + 3) (nI ((c1 ++ c2 ++ c3).map gm).length)) (h7 : M.2.1 7 = cd) (h8 : M.2.1 8 = st) :
    segM M n 0 = c1.map gm ∧ segM M n 1 = c2.map gm ∧ segM M n 2 = c3.map gm := by
  have h12 : (c1 ++ c2).length ≤ (c1 ++ c2 ++ c3).length := by rw [List.length_append (bs := c3)]; omega
  have h1 : c1.length ≤ (c1 ++ c2).length := by rw [List.length_append]; omega
  have g0 : st.getD (4 * n) 0 = nI 0 := by
    rw [hst, getD_set_ne (by omega), getD_set_ne (by omega), getD_set_ne (by omega), getD_set_eq (by omega)]; rfl
  have g1 : st.getD (4 * n + 1) 0 = nI c1.length := by
    rw [hst, getD_set_ne (by omega), getD_set_ne (by omega), getD_set_eq (by rw [List.length_set]; omega)]
  have g2 : st.getD (4 * n + 2) 0 = nI (c1 ++ c2).length := by
    rw [hst, getD_set_ne (by omega), getD_set_eq (by rw [List.length_set, List.length_set]; omega)]
  have g3 : st.getD (4 * n + 3) 0 = nI (c1 ++ c2 ++ c3).length := by
    rw [hst, getD_set_eq (by rw [List.length_set, List.length_set, List.length_set]; omega), List.length_map]
  have cut := fun (a b : Nat) (hab : a ≤ b) (hb : b ≤ (c1 ++ c2 ++ c3).length) => seg_cut (cd := cd) (K := 200 * n) (a := a) (b := b) hcd hab (by rw [List.length_map]; exact hb)
  obtain ⟨k1, k2, k3⟩ := cut3 (c1.map gm) (c2.map gm) (c3.map gm)
  have e12 : (c1.map gm ++ c2.map gm).length = (c1 ++ c2).length := by rw [← List.map_append, List.length_map]
  have e123 : (c1.map gm ++ c2.map gm ++ c3.map gm) = (c1 ++ c2 ++ c3).map gm := by rw [List.map_append, List.map_append]
  rw [e123] at k1 k2 k3
  rw [e12] at k2 k3
  rw [List.length_map] at k1 k2 k3
  unfold segM
  rw [h7, h8]
  refine ⟨?_, ?_, ?_⟩
  · show (cd.drop (200 * n + (st.getD (4 * n + 0) 0).toNatClampNeg)).take ((st.getD (4 * n + 1) 0).toNatClampNeg - (st.getD (4 * n + 0) 0).toNatClampNeg) = _
    rw [show 4 * n + 0 = 4 * n from rfl, g0, g1, nI_clamp (by omega), nI_clamp (by omega), cut 0 _ (Nat.zero_le _) (by omega)]
    exact k1
  · show (cd.drop (200 * n + (st.getD (4 * n + 1) 0).toNatClampNeg)).take ((st.getD (4 * n + 2) 0).toNatClampNeg - (st.getD (4 * n + 1) 0).toNatClampNeg) = _
    rw [g1, g2, nI_clamp (by omega), nI_clamp (by omega), cut _ _ h1 h12]
    exact k2
  · show (cd.drop (200 * n + (st.getD (4 * n + 2) 0).toNatClampNeg)).take ((st.getD (4 * n + 3) 0).toNatClampNeg - (st.getD (4 * n + 2) 0).toNatClampNeg) = _
    rw [g2, g3, nI_clamp (by omega), nI_clamp (by omega), cut _ _ h12 (Nat.le_refl _)]
    exact k3
theorem KR.lex (h : RInv M nt ns nk ta) (k : KR S M) : Lex (S.2 2) (M.2.1 5) ta := by
  have p3 := k.tp.2.2
  rw [h.2.1.1, nI_clamp (by have := h.2.1.2; omega)] at p3
  exact ⟨p3, h.2.1.2⟩
/-- what a text more leaves of the class -/
def FrX (S S' : CS) : Prop := S'.2 2 = S.2 2 ∧ S'.2 14 = S.2 14 ∧ S'.2 15 = S.2 15 ∧ S'.2 16 = S.2 16 ∧ S'.2 18 = S.2 18 ∧ S'.2 19 = S.2 19 ∧ S'.2 20 = S.2 20 ∧ S'.2 22 = S.2 22 ∧ S'.2 23 = S.2 23 ∧ S'.2 24 = S.2 24 ∧ S'.2 25 = S.2 25 ∧ S'.1 8 = S.1 8 ∧ S'.1 133 = S.1 133 ∧ S'.1 134 = S.1 134 ∧ S'.1 135 = S.1 135 ∧ S'.1 173 = S.1 173 ∧ S'.1 174 = S.1 174 ∧ S'.1 175 = S.1 175 ∧ S'.1 11 = 0
/-- what stays, whether a text was read or not -/
theorem KR.text (h : RInv M nt ns nk ta) (k : KR S M) {a b tk v hm op : Int32} {cd hd st : List Int32} {x9 ou : Int32} (eM : M' = mR (pM (xM (mN (mN M 6 (Int32.ofInt 0)) 9 x9) a b tk v) cd hd hm op ou) 8 st)
    (f : FrX S S')
    (hc : CLen S') (ht : TxInv S') (hx : RTx S' M') : KR S' M' := by
  obtain ⟨c1, c2, c3, c4, c5, k6, k7, k8, k9, k10, k11, k12⟩ := k
  obtain ⟨f1, f2, f3, f4, f5, f6, f7, f8, f9, f10, f11, f12, f13, f14, f15, f16, f17, f18, f19⟩ := f
  refine ⟨hc, ht, ?_, ?_, ?_, ?_, ?_, ?_, ?_, ⟨?_, ?_, ?_⟩, hx, ?_⟩
  · unfold ImC
    rw [f16, f17]
    exact c3
  · unfold TkL
    rw [f2, f3, f4, f5, f6, f7]
    exact c4
  · rw [f11]; exact c5
  · unfold RTk
    rw [f13, f14, f15, f2, f3, f4]
    subst eM
    exact k6
  · unfold RIm
    rw [f12, f16, f17, f18, f5, f6, f7]
    subst eM
    exact k7
  · unfold RSh
    rw [f8, f9, f10]
    subst eM
    exact k8
  · subst eM
    exact k9
  · rw [f19]
    subst eM
    rfl
  · rw [f1]; exact k10.2.1
  · intro j hj
    have e6 : M'.1 6 = 0 := by subst eM; rfl
    rw [e6] at hj
    exact absurd hj (Nat.not_lt_zero _)
  · subst eM
    exact k12
theorem txN_7 {W : TS} {e : Bool × Int32} {a tk v hm op : Int32} {cd hd : List Int32} : (txN M nt W e a tk v hm op cd hd).2.1 7 = cd ∧ (txN M nt W e a tk v hm op cd hd).2.1 8 = W.2.2.2.2.set (4 * nt + 3) (nI W.2.2.2.1.length) := ⟨rfl, rfl⟩
theorem addX_rows (Z : CS) (c : List (Int32 × Int32)) (k : Nat) : (addX Z c k).2 10 = adR (onR c (Z.2 6) 0) (Z.2 10) (Z.1 93) k ∧ (addX Z c k).2 11 = adR (onR c (Z.2 6) 1) (Z.2 11) (Z.1 93) k ∧ (addX Z c k).2 12 = adR (coR c (Z.2 6)) (Z.2 12) (Z.1 93) k := by
  unfold addX
  generalize adR (onR c (Z.2 6) 0) (Z.2 10) (Z.1 93) k = A
  generalize adR (onR c (Z.2 6) 1) (Z.2 11) (Z.1 93) k = B
  generalize adR (coR c (Z.2 6)) (Z.2 12) (Z.1 93) k = C
  exact ⟨rfl, rfl, rfl⟩
theorem txS_rows {t : Nat} {r4 r5 : List Int32} : (txS S t r4 r5).2 6 = (RT S t).2.2 ∧ (txS S t r4 r5).2 10 = S.2 10 ∧ (txS S t r4 r5).2 11 = S.2 11 ∧ (txS S t r4 r5).2 12 = S.2 12 ∧ (txS S t r4 r5).1 93 = S.1 93 := by
  unfold txS
  generalize RT S t = W
  exact ⟨rfl, rfl, rfl, rfl, rfl⟩
theorem okW_rows (Y : CS) (r7 : List Int32) (m v : Int32) : (cN (cN (cR Y 7 r7) 35 m) 93 v).2 10 = Y.2 10 ∧ (cN (cN (cR Y 7 r7) 35 m) 93 v).2 11 = Y.2 11 ∧ (cN (cN (cR Y 7 r7) 35 m) 93 v).2 12 = Y.2 12 ∧ (cN (cN (cR Y 7 r7) 35 m) 93 v).1 93 = v := ⟨rfl, rfl, rfl, rfl⟩
theorem okW_fr {S Y : CS} (h : FrX S Y) (r7 : List Int32) (m v : Int32) : FrX S (cN (cN (cR Y 7 r7) 35 m) 93 v) := h
theorem okS_rows {t : Nat} {r4 r5 r7 : List Int32} {m : Int32} : (okS S t r4 r5 r7 m).2 10 = adR (onR (RT S t).2.1.2 (RT S t).2.2 0) (S.2 10) (S.1 93) 5 ∧ (okS S t r4 r5 r7 m).2 11 = adR (onR (RT S t).2.1.2 (RT S t).2.2 1) (S.2 11) (S.1 93) 5 ∧ (okS S t r4 r5 r7 m).2 12 = adR (coR (RT S t).2.1.2 (RT S t).2.2) (S.2 12) (S.1 93) 5 ∧ (okS S t r4 r5 r7 m).1 93 = S.1 93 + 1 := by
  obtain ⟨e6, e10, e11, e12, e93⟩ := txS_rows (S := S) (t := t) (r4 := r4) (r5 := r5)
  obtain ⟨a10, a11, a12⟩ := addX_rows (txS S t r4 r5) (RT S t).2.1.2 5
  rw [e6, e10, e93] at a10
  rw [e6, e11, e93] at a11
  rw [e6, e12, e93] at a12
  unfold okS
  obtain ⟨w10, w11, w12, w93⟩ := okW_rows (addX (txS S t r4 r5) (RT S t).2.1.2 5) r7 m (S.1 93 + 1)
  exact ⟨w10.trans a10, w11.trans a11, w12.trans a12, w93⟩
theorem txS_fr {t : Nat} {r4 r5 : List Int32} : FrX S (txS S t r4 r5) := by
  unfold txS
  generalize RT S t = W
  exact ⟨rfl, rfl, rfl, rfl, rfl, rfl, rfl, rfl, rfl, rfl, rfl, rfl, rfl, rfl, rfl, rfl, rfl, rfl, rfl⟩
theorem addX_fr {S Z : CS} (h : FrX S Z) (c : List (Int32 × Int32)) (k : Nat) : FrX S (addX Z c k) := by
  unfold addX
  generalize adR (onR c (Z.2 6) 0) (Z.2 10) (Z.1 93) k = A
  generalize adR (onR c (Z.2 6) 1) (Z.2 11) (Z.1 93) k = B
  generalize adR (coR c (Z.2 6)) (Z.2 12) (Z.1 93) k = C
  exact h
theorem okS_fr {t : Nat} {r4 r5 r7 : List Int32} {m : Int32} : FrX S (okS S t r4 r5 r7 m) := by
  unfold okS
  exact okW_fr (addX_fr txS_fr _ _) r7 m _
set_option maxRecDepth 100000 in
set_option maxHeartbeats 1000000 in
theorem text_KR (h : RInv M nt ns nk ta) (k : KR S M) : txA S ta nt = txB M ta nt ∧ ∀ S' M', TxC S ta nt S' → TxM M ta nt M' → RI M' ∧ KR S' M' := by
  have h96 := h.1.2.2.1.2.2
  have h9 := h.1.2.2.1.1
  have h24 : (M.2.1 8).length = 24 := h.1.1.2.2.2.2.2.1
  have ki := KR.ki h k
  unfold txA txB TxC TxM
  by_cases e : nt = 6
  · rw [if_pos e, if_pos e]
    refine ⟨rfl, fun S' M' hS hM => ?_⟩
    rw [hS.1 e, hM.1 e]
    exact ⟨⟨nt, ns, nk, ta, h⟩, k⟩
  · have n6 : nt < 6 := by omega
    rw [if_neg e, if_neg e]
    have hx := KR.lex h k
    have hal := text_al hx (lvP_sim hx 5 (Nat.le_refl _)).1 (st := S.2 6) ki.2.1.2.2.1 ki.2.1.2.2.2.1 (tx := nt) (b := M.1 22) (starts := M.2.1 8) h24 n6
    have hWS : M.2.1 25 = WS := k.2.2.2.2.2.2.2.2.2.2.2
    have eW : WT M ta nt = txL WS (M.2.1 5) ta nt 3 0 (true, 0, M.1 22, [], M.2.1 8) := by unfold WT; rw [hWS]
    have eE : ET M ta nt = txE WS (M.2.1 5) ta (txL WS (M.2.1 5) ta nt 3 0 (true, 0, M.1 22, [], M.2.1 8)) := by unfold ET; rw [eW, hWS]
    have eT : RT S ta = rtP (lvP (S.2 2) ta 5).1 (S.2 2) ta 3 0 (lexF (S.2 2) ta 0, []) (S.2 6) := rfl
    rw [← eE, ← eW, ← eT] at hal
    obtain ⟨t1, t2, t3⟩ := hal
    refine ⟨?_, fun S' M' hS hM => ?_⟩
    · cases hb : (RT S ta).1 with
      | true => rw [t1, hb, if_pos rfl, if_pos rfl]
      | false => rw [t1, hb, if_neg Bool.false_ne_true, if_neg Bool.false_ne_true, t2 hb]
    · obtain ⟨r4, r5, hcr, hf, ht⟩ := hS.2 n6
      obtain ⟨a, tk, v, hm, op, cd, hd, ho, hhd, eM⟩ := hM.2 n6
      obtain ⟨hR, hseg⟩ := txN_R h n6 ho hhd eM
      refine ⟨⟨_, ns, nk, 0, hR⟩, ?_⟩
      have tx := k.tx
      rw [RTx, h9, nI_clamp (by omega)] at tx
      obtain ⟨⟨l10, l11, l12⟩, e93, tx⟩ := tx
      cases hb : (RT S ta).1 with
      | false =>
        have eS := hf hb
        have kk := txS_K ki (t := ta) hcr
        rw [← eS] at kk
        rw [t1, hb, if_neg Bool.false_ne_true] at hR
        have n9 := hR.1.2.2.1.1
        refine KR.text (M := M) h k eM ?_ kk.1.1 kk.2.1 ?_
        · rw [eS]
          exact txS_fr
        · obtain ⟨-, u10, u11, u12, u93⟩ := txS_rows (S := S) (t := ta) (r4 := r4) (r5 := r5)
          rw [← eS] at u10 u11 u12 u93
          unfold RTx
          rw [u10, u11, u12, u93, n9, nI_clamp (by omega)]
          refine ⟨⟨l10, l11, l12⟩, e93, fun t ht who hw => ?_⟩
          rw [soF_seg (hseg t ht 0 (by decide)), soF_seg (hseg t ht 1 (by decide)), saysF_seg (hseg t ht 2 (by decide))]
          exact tx t ht who hw
      | true =>
        obtain ⟨r7, m, h7, eS⟩ := ht hb
        have kk := okS_K ki n6 (t := ta) (m := m) hcr h7
        rw [← eS] at kk
        rw [t1, hb, if_pos rfl] at hR
        have n9 := hR.1.2.2.1.1
        obtain ⟨c1, c2, c3, ec, ⟨v1, v2, v3⟩, hl, est, ecd, ests⟩ := t3 hb
        refine KR.text (M := M) h k eM ?_ kk.1.1 kk.2.1 ?_
        · rw [eS]
          exact okS_fr
        · obtain ⟨u10, u11, u12, u93⟩ := okS_rows (S := S) (t := ta) (r4 := r4) (r5 := r5) (r7 := r7) (m := m)
          rw [← eS] at u10 u11 u12 u93
          rw [ec, est, e93] at u10 u11 u12
          rw [e93, nI_1] at u93
          have segs : segM M' nt 0 = c1.map gm ∧ segM M' nt 1 = c2.map gm ∧ segM M' nt 2 = c3.map gm := by
            have ho3 := ho.2.2
            rw [ecd] at ho3
            refine seg_3 hl (starts := M.2.1 8) n6 h24 ho3 (st := (WT M ta nt).2.2.2.2.set (4 * nt + 3) (nI (WT M ta nt).2.2.2.1.length)) ?_ (by rw [eM]; exact txN_7.1) (by rw [eM]; exact txN_7.2)
            rw [ests, ecd]
          obtain ⟨p1, p2, p3⟩ := prts_3 hl
          have hAO := hR.1.2.1 nt (Nat.lt_succ_self nt)
          have l1 : c1.length ≤ 160 := by rw [List.length_append, List.length_append] at hl; omega
          have l2 : c2.length ≤ 160 := by rw [List.length_append, List.length_append] at hl; omega
          have l3 : c3.length ≤ 160 := by rw [List.length_append, List.length_append] at hl; omega
          have ao : ∀ p, p < 3 → ∀ nm, ∃ v, evR nm (segM M' nt p) [] = some [v] := fun p hp => by
            obtain ⟨_, _, _, _, _, _, q⟩ := hAO p hp
            exact q
          unfold RTx
          rw [u93, n9, nI_clamp (by omega)]
          refine ⟨⟨by rw [u10, adR_len]; exact l10, by rw [u11, adR_len]; exact l11, by rw [u12, adR_len]; exact l12⟩, rfl, fun t ht who hw => ?_⟩
          rw [u10, u11, u12, adR_get (by omega) 5 (by omega) (Nat.le_refl _), adR_get (by omega) 5 (by omega) (Nat.le_refl _), adR_get (by omega) 5 (by omega) (Nat.le_refl _)]
          by_cases et : t = nt
          · subst et
            rw [if_pos (by omega), if_pos (by omega), if_pos (by omega), Nat.add_sub_cancel_left]
            unfold onR coR
            rw [p1, p2, p3]
            exact ⟨tr_al (p := 0) (by decide) v1 l1 segs.1 (ao 0 (by decide)) 32 (Nat.le_refl _), tr_al (p := 1) (by decide) v2 l2 segs.2.1 (ao 1 (by decide)) 32 (Nat.le_refl _), says_2 v3 l3 segs.2.2 (ao 2 (by decide))⟩
          · have ht : t < nt := by omega
            rw [if_neg (by omega), if_neg (by omega), if_neg (by omega)]
            rw [soF_seg (hseg t ht 0 (by decide)), soF_seg (hseg t ht 1 (by decide)), saysF_seg (hseg t ht 2 (by decide))]
            exact tx t ht who hw
end KRW
end
section
-- 97x.steps
/-! EACH CALL, on both sides, one behind the other -/
section STEPS
variable {l : Launch} {X : List (List Int32)} {S : CS} {M : MS} {dc dm : Nat} {gc gm' : Sig} {ac am : List Value}
abbrev REL (S : CS) (M : MS) : Prop := RI M ∧ KR S M
/-- both return numbers, and all stays alike -/
def StN (l : Launch) (X : List (List Int32)) (S : CS) (M : MS) (dc : Nat) (gc : Sig) (ac : List Value) (dm : Nat) (gm' : Sig) (am : List Value) : Prop :=
  ∃ P : CS → Prop, Ctr l dc X gc ac (mk S M) (fun h w => (∃ S', P S' ∧ h = mk S' M) ∧ ∃ v : Int32, w = some (.int v)) ∧ ∀ S', P S' → Ctr l dm X gm' am (mk S' M) (fun h w => (∃ M', REL S' M' ∧ h = mk S' M') ∧ ∃ v : Int32, w = some (.int v))
/-- the same number -/
def StE (l : Launch) (X : List (List Int32)) (S : CS) (M : MS) (dc : Nat) (gc : Sig) (ac : List Value) (dm : Nat) (gm' : Sig) (am : List Value) : Prop :=
  ∃ (P : CS → Prop) (v : Int32), Ctr l dc X gc ac (mk S M) (fun h w => (∃ S', P S' ∧ h = mk S' M) ∧ w = some (.int v)) ∧ ∀ S', P S' → Ctr l dm X gm' am (mk S' M) (fun h w => (∃ M', REL S' M' ∧ h = mk S' M') ∧ w = some (.int v))
def StNL (l : Launch) (X : List (List Int32)) (S : CS) (M : MS) (dc : Nat) (gc : Sig) (ac : List Value) (dm : Nat) (gm' : Sig) (am : List Value) : Prop :=
  ∃ P : CS → Prop, Ctr l dc X gc ac (mk S M) (fun h w => (∃ S', P S' ∧ h = mk S' M) ∧ ∃ v : Int64, w = some (.long v)) ∧ ∀ S', P S' → Ctr l dm X gm' am (mk S' M) (fun h w => (∃ M', REL S' M' ∧ h = mk S' M') ∧ ∃ v : Int64, w = some (.long v))
def StEL (l : Launch) (X : List (List Int32)) (S : CS) (M : MS) (dc : Nat) (gc : Sig) (ac : List Value) (dm : Nat) (gm' : Sig) (am : List Value) : Prop :=
  ∃ (P : CS → Prop) (v : Int64), Ctr l dc X gc ac (mk S M) (fun h w => (∃ S', P S' ∧ h = mk S' M) ∧ w = some (.long v)) ∧ ∀ S', P S' → Ctr l dm X gm' am (mk S' M) (fun h w => (∃ M', REL S' M' ∧ h = mk S' M') ∧ w = some (.long v))
theorem StE.n (h : StE l X S M dc gc ac dm gm' am) : StN l X S M dc gc ac dm gm' am := by
  obtain ⟨P, v, h1, h2⟩ := h
  exact ⟨P, h1.weak (fun hp w hw => ⟨hw.1, v, hw.2⟩), fun S' hS => (h2 S' hS).weak (fun hp w hw => ⟨hw.1, v, hw.2⟩)⟩
theorem StEL.n (h : StEL l X S M dc gc ac dm gm' am) : StNL l X S M dc gc ac dm gm' am := by
  obtain ⟨P, v, h1, h2⟩ := h
  exact ⟨P, h1.weak (fun hp w hw => ⟨hw.1, v, hw.2⟩), fun S' hS => (h2 S' hS).weak (fun hp w hw => ⟨hw.1, v, hw.2⟩)⟩
theorem KR.setB (k : KR S M) (B : BQ) : KR (setB S B) M := by
  obtain ⟨c1, c2, c3, c4, c5, k6, k7, k8, k9, k10, k11, k12⟩ := k
  exact ⟨c1, c2, c3, c4, c5, k6, k7, k8, k9, k10, k11, k12⟩
theorem KR.sc (k : KR S M) (z : SZ) : KR S (sc M z) := by
  obtain ⟨c1, c2, c3, c4, c5, k6, k7, k8, k9, k10, k11, k12⟩ := k
  exact ⟨c1, c2, c3, c4, c5, k6, k7, k8, k9, k10, k11.fr rfl rfl rfl rfl rfl rfl rfl, k12⟩
theorem REL.q (r : REL S M) (B : BQ) {z : SZ} (hz : ScOk z) : REL (setB S B) (sc M z) := by
  obtain ⟨⟨nt, ns, nk, ta, h⟩, k⟩ := r
  exact ⟨⟨nt, ns, nk, ta, h.sc hz⟩, (k.setB B).sc z⟩
theorem REL.b (r : REL S M) (B : BQ) : REL (setB S B) M := ⟨r.1, r.2.setB B⟩
theorem REL.kc (r : REL S M) : KC S := by
  obtain ⟨⟨nt, ns, nk, ta, h⟩, k⟩ := r
  exact ⟨nt, ns, nk, ta, KR.ki h k⟩
/-- questions, whatever they answer -/
theorem stq (r : REL S M) (h1 : Ctr l dc X gc ac (mk S M) (kqQ S (encM M))) (h2 : ∀ B : BQ, ∃ v : Int32, Ctr l dm X gm' am (mk (setB S B) M) (zA (setB S B) M (.int v))) : StN l X S M dc gc ac dm gm' am := by
  refine ⟨fun S' => ∃ B, S' = setB S B, h1.weak ?_, ?_⟩
  · rintro hp w ⟨⟨B, rfl⟩, v, rfl⟩
    exact ⟨⟨_, ⟨B, rfl⟩, rfl⟩, v, rfl⟩
  · rintro S' ⟨B, rfl⟩
    obtain ⟨v, h2⟩ := h2 B
    refine h2.weak ?_
    rintro hp w ⟨⟨z, hz, rfl⟩, rfl⟩
    exact ⟨⟨_, r.q B hz, rfl⟩, v, rfl⟩
/-- questions that both answer alike -/
theorem ste (r : REL S M) {v : Int32} (h1 : Ctr l dc X gc ac (mk S M) (fun h w => (∃ B, h = mk (setB S B) M) ∧ w = some (.int v))) (h2 : ∀ B : BQ, Ctr l dm X gm' am (mk (setB S B) M) (zA (setB S B) M (.int v))) : StE l X S M dc gc ac dm gm' am := by
  refine ⟨fun S' => ∃ B, S' = setB S B, v, h1.weak ?_, ?_⟩
  · rintro hp w ⟨⟨B, rfl⟩, rfl⟩
    exact ⟨⟨_, ⟨B, rfl⟩, rfl⟩, rfl⟩
  · rintro S' ⟨B, rfl⟩
    refine (h2 B).weak ?_
    rintro hp w ⟨⟨z, hz, rfl⟩, rfl⟩
    exact ⟨⟨_, r.q B hz, rfl⟩, rfl⟩
theorem steL (r : REL S M) {v : Int64} (h1 : Ctr l dc X gc ac (mk S M) (fun h w => (∃ B, h = mk (setB S B) M) ∧ w = some (.long v))) (h2 : ∀ B : BQ, Ctr l dm X gm' am (mk (setB S B) M) (zA (setB S B) M (.long v))) : StEL l X S M dc gc ac dm gm' am := by
  refine ⟨fun S' => ∃ B, S' = setB S B, v, h1.weak ?_, ?_⟩
  · rintro hp w ⟨⟨B, rfl⟩, rfl⟩
    exact ⟨⟨_, ⟨B, rfl⟩, rfl⟩, rfl⟩
  · rintro S' ⟨B, rfl⟩
    refine (h2 B).weak ?_
    rintro hp w ⟨⟨z, hz, rfl⟩, rfl⟩
    exact ⟨⟨_, r.q B hz, rfl⟩, rfl⟩
theorem an_B {v : Int32} (q : Ans l dc X gc ac (mk S M) v) : Ctr l dc X gc ac (mk S M) (fun h w => (∃ B, h = mk (setB S B) M) ∧ w = some (.int v)) := q.weak (by
  rintro hp w ⟨rfl, rfl⟩
  exact ⟨⟨getB S, rfl⟩, rfl⟩)
theorem an_BL {v : Int64} (q : AnsL l dc X gc ac (mk S M) v) : Ctr l dc X gc ac (mk S M) (fun h w => (∃ B, h = mk (setB S B) M) ∧ w = some (.long v)) := q.weak (by
  rintro hp w ⟨rfl, rfl⟩
  exact ⟨⟨getB S, rfl⟩, rfl⟩)
/-- both answer and leave all -/
theorem sta (r : REL S M) {v v' : Int32} (e : v' = v) (h1 : Ans l dc X gc ac (mk S M) v) (h2 : Ans l dm X gm' am (mk S M) v') : StE l X S M dc gc ac dm gm' am := by
  subst e
  refine ⟨fun S' => S' = S, v', h1.weak ?_, ?_⟩
  · rintro hp w ⟨rfl, rfl⟩
    exact ⟨⟨S, rfl, rfl⟩, rfl⟩
  · rintro S' rfl
    refine h2.weak ?_
    rintro hp w ⟨rfl, rfl⟩
    exact ⟨⟨M, r, rfl⟩, rfl⟩
/-- both change as functions say -/
theorem stf {f : CS × Int32} {g : MS × Int32} (hr : RI g.1) (hk : KR f.1 g.1 ∧ f.2 = g.2) (h1 : Ctr l dc X gc ac (mk S M) (kpQ (encM M) f)) (h2 : ∀ S', Ctr l dm X gm' am (mk S' M) (rsQ S' g)) : StE l X S M dc gc ac dm gm' am := by
  refine ⟨fun S' => S' = f.1, f.2, h1.weak ?_, ?_⟩
  · rintro hp w ⟨rfl, rfl⟩
    exact ⟨⟨_, rfl, rfl⟩, rfl⟩
  · rintro S' rfl
    refine (h2 f.1).weak ?_
    rintro hp w ⟨rfl, rfl⟩
    exact ⟨⟨_, ⟨hr, hk.1⟩, rfl⟩, by rw [hk.2]⟩
theorem count_rel (k : KR S M) (v : Int32) : m_cnt M v = kcnG S v := by
  obtain ⟨r0, r3, r10, -⟩ := k.rt
  unfold m_cnt kcnG
  rw [r0, r3, r10, k.e93, k.tp.1]
  rfl
theorem S_count (r : REL S M) (v : Int32) : StE l X S M 0 sgX7_count [.ref 0, .int v] 0 sgX8_count [.ref 27, .int v] := sta r (count_rel r.2 v) (P_count v) (m_count v)
theorem S_told (r : REL S M) (s what : Int32) : StE l X S M 2 sgX7_told [.ref 0, .int s, .int what] 2 sgX8_told [.ref 27, .int s, .int what] := by
  obtain ⟨nt, ns, nk, ta, h⟩ := id r.1
  exact sta r (told_rel h.1 r.2.rt s what).symm (P_told r.2.cl s what) (g_told h.1 s what)
theorem S_said (r : REL S M) (k what : Int32) : StE l X S M 2 sgX7_said [.ref 0, .int k, .int what] 2 sgX8_said [.ref 27, .int k, .int what] := by
  obtain ⟨nt, ns, nk, ta, h⟩ := id r.1
  exact sta r (said_rel h.1 r.2.rt k what).symm (P_said r.2.cl k what) (g_said h.1 k what)
theorem S_taken (r : REL S M) (i c : Int32) : StE l X S M 3 sgX7_taken [.ref 0, .int i, .int c] 1 sgX8_taken [.ref 27, .int i, .int c] := by
  obtain ⟨nt, ns, nk, ta, h⟩ := id r.1
  exact sta r (taken_rel h r.2 i c).symm (P_taken r.2.cl i c) (g_taken h.1 i c)
theorem S_feed (r : REL S M) (n a b c d e : Int32) : StE l X S M 2 sgX7_feed [.ref 0, .int n, .int a, .int b, .int c, .int d, .int e] 2 sgX8_feed [.ref 27, .int n, .int a, .int b, .int c, .int d, .int e] := by
  obtain ⟨nt, ns, nk, ta, h⟩ := id r.1
  have ki := KR.ki h r.2
  exact stf (fdG_R h n a b c d e) (feed_KR h r.2 n a b c d e) (P_feed r.2.cl ki.2.2.1.1 ki.2.2.1.2 n a b c d e) (fun S' => g_feed h.1.1 h.2.1.1 h.2.1.2 n a b c d e)
theorem S_speaker (r : REL S M) (a b : Int32) : StE l X S M 2 sgX7_speaker [.ref 0, .int a, .int b] 2 sgX8_speaker [.ref 27, .int a, .int b] := by
  obtain ⟨nt, ns, nk, ta, h⟩ := id r.1
  exact stf (spG_R h a b) (speaker_KR h r.2 a b) (P_speaker r.2.cl a b) (fun S' => g_speaker h.1 a b)
theorem S_turn (r : REL S M) (s a b : Int32) : StE l X S M 2 sgX7_turn [.ref 0, .int s, .int a, .int b] 2 sgX8_turn [.ref 27, .int s, .int a, .int b] := by
  obtain ⟨nt, ns, nk, ta, h⟩ := id r.1
  exact stf (trG_R h s a b) (turn_KR h r.2 s a b) (P_turn r.2.cl s a b) (fun S' => g_turn h.1 s a b)
theorem S_say (r : REL S M) (s t u : Int32) : StE l X S M 2 sgX7_say [.ref 0, .int s, .int t, .int u] 2 sgX8_say [.ref 27, .int s, .int t, .int u] := by
  obtain ⟨nt, ns, nk, ta, h⟩ := id r.1
  refine stf ?_ (say_KR h r.2 s t u) (P_say r.2.cl s t u) (fun S' => g_say h.1 s t u)
  obtain ⟨k, e, -⟩ := syG_R h s t u
  exact ⟨nt, ns, k, ta, e⟩
theorem S_unsay (r : REL S M) : StE l X S M 2 sgX7_unsay [.ref 0] 0 sgX8_unsay [.ref 27] := by
  obtain ⟨nt, ns, nk, ta, h⟩ := id r.1
  refine stf (g := (unM M, if M.1 3 = Int32.ofInt 0 then Int32.ofInt (-3) else M.1 3 - Int32.ofInt 1)) ?_ (unsay_KR h r.2) P_unsay (fun S' => m_unsay)
  show RI (unM M)
  unfold unM
  by_cases q : M.1 3 = Int32.ofInt 0
  · rw [if_pos q]
    exact r.1
  · rw [if_neg q]
    obtain ⟨⟨hM, hO, h9, h0, h3, hr, hk5, htk⟩, hrest⟩ := h
    have hk : 1 ≤ nk := Nat.pos_of_ne_zero (fun z => q (by rw [h3.1, z]; rfl))
    refine ⟨nt, ns, nk - 1, ta, ⟨hM.n 3 _, hO, h9, h0, ⟨?_, by omega⟩, hr, hk5, fun k hk => htk k (by omega)⟩, hrest⟩
    show M.1 3 - Int32.ofInt 1 = nI (nk - 1)
    rw [h3.1]
    exact nI_m1 hk
theorem S_force (r : REL S M) (v : Int32) : StE l X S M 2 sgX7_force [.ref 0, .int v] 1 sgX8_force [.ref 27, .int v] := by
  obtain ⟨nt, ns, nk, ta, h⟩ := id r.1
  refine stf (g := (foM M v, if frP M v then M.1 10 else Int32.ofInt (-2))) ?_ (force_KR h r.2 v) (P_force v) (fun S' => m_force v)
  show RI (foM M v)
  unfold foM
  by_cases q : frP M v
  · rw [if_pos q]
    obtain ⟨⟨hM, hO, h9, h0, h3, hr, hk5, htk⟩, hrest⟩ := h
    have q : inP v (Int32.ofInt 0) (M.1 9 - Int32.ofInt 1) := q
    rw [h9.1] at q
    obtain ⟨k, hk, rfl⟩ := inN (by omega) q
    exact ⟨nt, ns, nk, ta, ⟨hM.n 10 _, hO, h9, h0, h3, ⟨k, hk, rfl⟩, hk5, htk⟩, hrest⟩
  · rw [if_neg q]
    exact r.1
theorem S_image (r : REL S M) : StE l X S M 3 sgX7_image [.ref 0] 0 sgX8_image [.ref 27] := by
  obtain ⟨nt, ns, nk, ta, h⟩ := id r.1
  exact stf (g := (imM M, M.1 3)) (imM_R h) (image_KR h r.2) (P_image r.2.cl r.2.tl) (fun S' => g_image h.1.1)
theorem S_back (r : REL S M) : StE l X S M 3 sgX7_back [.ref 0] 0 sgX8_back [.ref 27] := by
  obtain ⟨nt, ns, nk, ta, h⟩ := id r.1
  exact stf (bkG_R h) (back_KR r.2) (P_back r.2.cl r.2.tl) (fun S' => g_back h.1.1)
theorem S_sheet (r : REL S M) (s sort n : Int32) : StE l X S M 2 sgX7_sheet [.ref 0, .int s, .int sort, .int n] 1 sgX8_sheet [.ref 27, .int s, .int sort, .int n] := by
  obtain ⟨nt, ns, nk, ta, h⟩ := id r.1
  exact stf (shG_R h s sort n) (sheet_KR h r.2 s sort n) (P_sheet r.2.cl s sort n) (fun S' => g_sheet h.1.1 s sort n)
theorem S_cell (r : REL S M) (s i v : Int32) : StE l X S M 2 sgX7_cell [.ref 0, .int s, .int i, .int v] 2 sgX8_cell [.ref 27, .int s, .int i, .int v] := by
  obtain ⟨nt, ns, nk, ta, h⟩ := id r.1
  exact stf (ceG_R h s i v) (cell_KR h r.2 s i v) (P_cell r.2.cl s i v) (fun S' => g_cell h.1.1 h.2.2.1 s i v)
theorem KR.l22 {nt ns nk ta : Nat} (h : RInv M nt ns nk ta) (k : KR S M) : (S.2 22).length = 4 := by rw [k.rs.1]; exact h.1.1.2.2.2.2.2.2.2.2.1
theorem S_film (r : REL S M) (s : Int32) : StE l X S M 2 sgX7_film [.ref 0, .int s] 1 sgX8_film [.ref 27, .int s] := by
  obtain ⟨nt, ns, nk, ta, h⟩ := id r.1
  have ki := KR.ki h r.2
  exact stf (fiG_R h s) (film_KR h r.2 s) (P_film r.2.cl (KR.l22 h r.2) ki.1.2.2.2.2.2.1 ki.1.2.2.2.2.2.2 s) (fun S' => g_film h.1 s)
theorem S_sayingsBy (r : REL S M) (s sort fr n : Int32) : StE l X S M 3 sgX7_sayingsBy [.ref 0, .int s, .int sort, .int fr, .int n] 3 sgX8_sayingsBy [.ref 27, .int s, .int sort, .int fr, .int n] := by
  obtain ⟨nt, ns, nk, ta, h⟩ := id r.1
  exact stf (sbG_R h s sort fr n) (sayingsBy_KR h r.2 s sort fr n) (P_sayingsBy r.2.cl s sort fr n) (fun S' => g_sayingsBy h.1 h.2.2.1 s sort fr n)
theorem S_copy (r : REL S M) (s i o j n : Int32) : StE l X S M 3 sgX7_copy [.ref 0, .int s, .int i, .int o, .int j, .int n] 2 sgX8_copy [.ref 27, .int s, .int i, .int o, .int j, .int n] := by
  obtain ⟨nt, ns, nk, ta, h⟩ := id r.1
  have rs := r.2.rs
  have l24 : (S.2 24).length = 160 := by rw [rs.2.2]; exact h.1.1.2.2.2.2.2.2.2.2.2.2.1
  have hZ : SzC S := fun s hs => by rw [rs.2.1]; exact (h.2.2.1 s hs).2
  obtain ⟨e, hk⟩ := copy_KR h r.2 s i o j n
  refine ⟨kcoP S s i o j n, kcoA S s i o j n, P_copy r.2.cl l24 r.2.2.2.2.2.1 (r.2.sv.shc rs) hZ s i o j n, fun S' hS' => ?_⟩
  refine (g_copy (S := S') h.1.1 h.2.2.1 s i o j n).weak ?_
  rintro hp w ⟨rfl, rfl⟩
  exact ⟨⟨_, ⟨coG_R h s i o j n, hk S' hS'⟩, rfl⟩, by rw [e]⟩
theorem S_text (r : REL S M) : StE l X S M 55 sgX7_text [.ref 0] 4 sgX8_text [.ref 27] := by
  obtain ⟨nt, ns, nk, ta, h⟩ := id r.1
  obtain ⟨e, hk⟩ := text_KR h r.2
  refine ⟨TxC S ta nt, txA S ta nt, P_text (KR.ki h r.2), fun S' hS' => ?_⟩
  refine (G_text (S := S') h).weak ?_
  rintro hp w ⟨⟨M', hM', rfl⟩, rfl⟩
  exact ⟨⟨M', hk S' M' hS' hM', rfl⟩, by rw [e]⟩
end STEPS
end
section
-- 97y.stepq
/-! EACH CALL, on both sides: questions, whatever they answer; new ones -/
section STEPQ
variable {l : Launch} {X : List (List Int32)} {S : CS} {M : MS}
theorem N_hide (hX : X[0]? = some soInL) (r : REL S M) (a b c : Int32) : StN l X S M 7 sgX7_hide [.ref 0, .int a, .int b, .int c] 6 sgX8_hide [.ref 27, .int a, .int b, .int c] := by
  obtain ⟨nt, ns, nk, ta, h⟩ := id r.1
  exact stq r (K_hide hX r.kc a b c) (fun B => ⟨_, g_hide h.1 a b c⟩)
theorem RI_new {M : MS} (h : NewM M) : RI M := by
  obtain ⟨hM, hO, -, a, b, tk, v, cd, hd, hm, op, ou, st, rfl⟩ := h
  refine ⟨1, 0, 0, 0, ⟨hM, hO, ⟨rfl, by decide, by decide⟩, ⟨rfl, by decide⟩, ⟨rfl, by decide⟩, ⟨0, by decide, rfl⟩, ?_, ?_⟩, ⟨rfl, by decide⟩, ?_, Or.inl rfl⟩
  · intro i hi
    show Kd ((z32 5).getD i 0) ((z32 5).getD i 0)
    have a : ∀ i : Fin 5, (z32 5).getD i.val 0 = 0 := by decide
    rw [a ⟨i, hi⟩]
    exact ⟨⟨by decide, by decide⟩, by decide, by decide⟩
  · intro k hk
    exact absurd hk (Nat.not_lt_zero _)
  · intro s hs
    show m2P (([-1, -1, -1, -1] : List Int32).getD s 0) ∧ ∃ z : Nat, z ≤ 40 ∧ (z32 4).getD s 0 = nI z
    have a : ∀ i : Fin 4, m2P (([-1, -1, -1, -1] : List Int32).getD i.val 0) ∧ (z32 4).getD i.val 0 = nI 0 := by decide
    exact ⟨(a ⟨s, hs⟩).1, 0, by decide, (a ⟨s, hs⟩).2⟩
theorem z32_0 (n i : Nat) : (z32 n).getD i 0 = 0 := by
  unfold z32
  rw [List.getD_eq_getElem?_getD, List.getElem?_replicate]
  split <;> rfl
theorem REL_new (h : NewM M) : REL CS0 M := by
  have hf := h.fm
  refine ⟨RI_new h, ?_⟩
  obtain ⟨-, -, -, a, b, tk, v, cd, hd, hm, op, ou, st, eM⟩ := h
  have e1 : M.2.1 1 = z32 5 := by rw [eM]; rfl
  have e2 : M.2.1 2 = z32 5 := by rw [eM]; rfl
  have e4 : M.2.1 4 = z32 36 := by rw [eM]; rfl
  have e15 : M.2.1 15 = z32 10 := by rw [eM]; rfl
  have e16 : M.2.1 16 = z32 36 := by rw [eM]; rfl
  have e17 : M.2.1 17 = [-1, -1, -1, -1] := by rw [eM]; rfl
  have e18 : M.2.1 18 = z32 4 := by rw [eM]; rfl
  have e19 : M.2.1 19 = z32 160 := by rw [eM]; rfl
  have e25 : M.2.1 25 = WS := by rw [eM]; rfl
  have n0 : M.1 0 = 0 := by rw [eM]; rfl
  have n3 : M.1 3 = 0 := by rw [eM]; rfl
  have n6 : M.1 6 = 0 := by rw [eM]; rfl
  have n9 : M.1 9 = 1 := by rw [eM]; rfl
  have n10 : M.1 10 = 0 := by rw [eM]; rfl
  have n11 : M.1 11 = 0 := by rw [eM]; rfl
  have n12 : M.1 12 = 0 := by rw [eM]; rfl
  have n13 : M.1 13 = 0 := by rw [eM]; rfl
  have n14 : M.1 14 = 0 := by rw [eM]; rfl
  refine ⟨CS0_inv.1, ⟨List.length_replicate, List.length_replicate, List.length_replicate, rfl, List.length_replicate⟩, ⟨0, 0, rfl, by decide, rfl, by decide⟩, ⟨List.length_replicate, List.length_replicate, List.length_replicate, List.length_replicate, List.length_replicate, List.length_replicate⟩, List.length_replicate,
    ⟨n0.symm, n3.symm, n10.symm, e1.symm, e2.symm, e4.symm⟩, ⟨n11.symm, n12.symm, n13.symm, n14.symm, ?_, e16.symm⟩, ⟨e17.symm, e18.symm, e19.symm⟩, ?_, ⟨n6.symm, List.length_replicate, ?_⟩, ⟨⟨?_, List.length_replicate, ?_⟩, n9.symm, ?_⟩, e25⟩
  · rw [e15]; rfl
  · intro s _ i _
    rw [e19, z32_0]
    exact ceV_0 _
  · intro j hj
    rw [n6] at hj
    exact absurd hj (Nat.not_lt_zero _)
  · rfl
  · rfl
  · intro t ht who hw
    rw [n9] at ht
    have t0 : t = 0 := by
      have : t < 1 := ht
      omega
    subst t0
    rw [hf.so0, hf.so1, hf.says2]
    have q : ∀ w : Fin 5, (([-1, -1, -1, -1, -1] : List Int32) ++ z32 25).getD (5 * 0 + w.val) 0 = -1 ∧ (([1, 1, 1, 1, 1] : List Int32) ++ z32 25).getD (5 * 0 + w.val) 0 = 1 := by decide
    have q10 : (CS0.2 10).getD (5 * 0 + who) 0 = -1 := (q ⟨who, hw⟩).1
    have q12 : (CS0.2 12).getD (5 * 0 + who) 0 = 1 := (q ⟨who, hw⟩).2
    have q11 : (CS0.2 11).getD (5 * 0 + who) 0 = 0 := z32_0 30 _
    rw [q10, q11, q12]
    exact ⟨by unfold Zx; decide, Zx.z, rfl⟩
end STEPQ
end
