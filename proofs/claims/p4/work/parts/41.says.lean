section SAYS
variable {l : Launch} {X : List (List Int32)} {S : CS} {M : MS}
/-- one code over a stack (top first); nothing where the row would be left -/
def stpR (nm : List Int32) (c : Int32) (st : List Int32) : Option (List Int32) :=
  if 100000 ≤ c then some ((c - 100000) :: st)
  else if c < 11 then (if 0 ≤ c ∧ c < 6 then some (nm.getD c.toNatClampNeg 0 :: st) else none)
  else if c = 13 then (match st with
    | a :: r => some ((if a = 0 then 1 else 0) :: r)
    | [] => none)
  else if c = 19 then (match st with
    | a :: r => some ((-a) :: r)
    | [] => none)
  else (match st with
    | b :: a :: r => some (twoF c a b :: r)
    | _ => none)
def evR (nm : List Int32) : List Int32 → List Int32 → Option (List Int32)
  | [], st => some st
  | c :: cs, st => (stpR nm c st).bind (evR nm cs)
/-- the row holds the stack -/
def StkR (xs st : List Int32) : Prop := xs.length = 200 ∧ st.length ≤ 200 ∧ xs.take st.length = st.reverse
theorem StkR.get {xs st : List Int32} (h : StkR xs st) {k : Nat} {v : Int32} (hk : st.reverse[k]? = some v) : xs.getD k 0 = v := by
  obtain ⟨h1, h2, h3⟩ := h
  have hl : k < st.length := by
    have := (List.getElem?_eq_some_iff.mp hk).1
    simpa using this
  rw [← h3, List.getElem?_take_of_lt hl] at hk
  rw [List.getD_eq_getElem?_getD, hk]
  rfl
theorem StkR.push {xs st : List Int32} (h : StkR xs st) (v : Int32) (hl : st.length < 200) : StkR (xs.set st.length v) (v :: st) := by
  obtain ⟨h1, h2, h3⟩ := h
  refine ⟨by simpa using h1, by simp; omega, ?_⟩
  rw [List.length_cons, List.reverse_cons, ← h3]
  apply List.ext_getElem?
  intro j
  by_cases hj : j < st.length
  · rw [List.getElem?_take_of_lt (by omega), List.getElem?_set_ne (by omega), List.getElem?_append_left (by simp; omega), List.getElem?_take_of_lt hj]
  · by_cases e : j = st.length
    · subst e
      rw [List.getElem?_take_of_lt (by omega), List.getElem?_set_self (by omega), List.getElem?_append_right (by simp; omega)]
      simp [Nat.min_eq_left (show st.length ≤ xs.length by omega)]
    · rw [List.getElem?_eq_none (by simp; omega), List.getElem?_eq_none (by simp; omega)]
theorem StkR.set {xs : List Int32} {a : Int32} {r : List Int32} (h : StkR xs (a :: r)) (v : Int32) : StkR (xs.set r.length v) (v :: r) := by
  have hr : StkR xs r := by
    obtain ⟨h1, h2, h3⟩ := h
    refine ⟨h1, by simp at h2; omega, ?_⟩
    have := congrArg (List.take r.length) h3
    rw [List.take_take, List.length_cons, List.reverse_cons, List.take_left' (by simp)] at this
    rw [← this]
    congr 1
    omega
  exact hr.push v (by have := h.2.1; simp at this; omega)
theorem StkR.pop {xs : List Int32} {a : Int32} {r : List Int32} (h : StkR xs (a :: r)) : StkR xs r := by
  obtain ⟨h1, h2, h3⟩ := h
  refine ⟨h1, by simp at h2; omega, ?_⟩
  have := congrArg (List.take r.length) h3
  rw [List.take_take, List.length_cons, List.reverse_cons, List.take_left' (by simp)] at this
  rw [← this]
  congr 1
  omega
theorem StkR.top {xs : List Int32} {a : Int32} {r : List Int32} (h : StkR xs (a :: r)) : xs.getD r.length 0 = a := h.get (by simp)
theorem StkR.top2 {xs : List Int32} {a b : Int32} {r : List Int32} (h : StkR xs (b :: a :: r)) : xs.getD r.length 0 = a := h.pop.top
theorem ofI_nI {n : Nat} (h : n < 2 ^ 31) : (nI n).toNatClampNeg = n := nI_clamp h
theorem vp_nI {n N : Nat} (h : n < N) (hN : N < 2 ^ 31) : vp_in (nI n) N := nI_in h hN
theorem nI_mul (a b : Nat) : nI a * nI b = nI (a * b) := (Int32.ofNat_mul a b).symm
theorem nI_m1 {n : Nat} (h : 1 ≤ n) : nI n - Int32.ofInt 1 = nI (n - 1) := by
  obtain ⟨k, rfl⟩ : ∃ k, n = k + 1 := ⟨n - 1, by omega⟩
  exact nI_pred k
theorem nI_dec {n : Nat} (h : 1 ≤ n) : nI n + Int32.ofInt (-1) = nI (n - 1) := by
  obtain ⟨k, rfl⟩ : ∃ k, n = k + 1 := ⟨n - 1, by omega⟩
  rw [show k + 1 - 1 = k by omega, ← nI_1 k, show (Int32.ofInt (-1)) = -1 from rfl, Int32.add_assoc]
  simp
theorem seg_cons {L : List Int32} {i n : Nat} (h : i < L.length) : (L.drop i).take (n + 1) = L.getD i 0 :: (L.drop (i + 1)).take n := by
  rw [List.drop_eq_getElem_cons h, List.take_succ_cons, List.getD_eq_getElem?_getD, List.getElem?_eq_getElem h]
  rfl
def saysK (i : Nat) : Bool := Nat.beq i 12
abbrev saysQ (S : CS) (M : MS) (v : Int32) : AH → Option Value → Prop := fun h w => (∃ st : List Int32, st.length = 200 ∧ h = mk S (mR M 30 st)) ∧ w = some (.int v)
set_option maxRecDepth 100000 in
set_option maxHeartbeats 4000000 in
theorem m_says (hM : MLen M) {t p a b : Nat} (ht : M.1 10 = nI t) (ht6 : t < 6) (hp3 : p < 3) (ha : (M.2.1 8).getD (4 * t + p) 0 = nI a) (hb : (M.2.1 8).getD (4 * t + p + 1) 0 = nI b) (hab : a ≤ b) (hb200 : b ≤ 200) {v : Int32} (hev : evR (M.2.1 31) (((M.2.1 7).drop (200 * t + a)).take (b - a)) [] = some [v]) :
    Ctr l 1 X sgX8_says [.ref 27, .int (nI p)] (mk S M) (saysQ S M v) := by
  obtain ⟨-, -, -, -, h7, h8, -, -, -, -, -, -, -, -, h30, h31, -, -⟩ := hM
  have e1 : Int32.ofInt 4 * M.1 10 + nI p = nI (4 * t + p) := by
    rw [ht, show Int32.ofInt 4 = nI 4 from rfl, nI_mul, nI_add]
  have e2 : Int32.ofInt 4 * M.1 10 + nI p + Int32.ofInt 1 = nI (4 * t + p + 1) := by rw [e1]; exact nI_1 _
  have hin1 : vp_in (Int32.ofInt 4 * M.1 10 + nI p) (M.2.1 8).length := by rw [e1, h8]; exact vp_nI (by omega) (by decide)
  have hin2 : vp_in (Int32.ofInt 4 * M.1 10 + nI p + Int32.ofInt 1) (M.2.1 8).length := by rw [e2, h8]; exact vp_nI (by omega) (by decide)
  have hv1 : (M.2.1 8).getD (Int32.ofInt 4 * M.1 10 + nI p).toNatClampNeg 0 = nI a := by rw [e1, nI_clamp (by omega)]; exact ha
  have hv2 : (M.2.1 8).getD (Int32.ofInt 4 * M.1 10 + nI p + Int32.ofInt 1).toNatClampNeg 0 = nI b := by rw [e2, nI_clamp (by omega)]; exact hb
  refine Ctr.of okX8_says rfl (Nat.le_of_ble_eq_true rfl) (run_sound okX8_says saysK 300 ?_)
  refine Exists.intro _ (And.intro rfl (And.intro hin1 ?_))
  have key : ∀ j, j ≤ b → a ≤ j → ∀ (kv nv : Int32) x4 (xs st : List Int32), kv = nI j → nv = nI st.length → StkR xs st → st.length ≤ j - a → evR (M.2.1 31) (((M.2.1 7).drop (200 * t + j)).take (b - j)) st = some [v] →
      WP l (rmD 1 0 0) X sgX8_says kX8_says (saysQ S M v) 12 [some (.ref 27), some (.int (nI p)), some (.int nv), some (.int kv), x4] [] (mk S (mR M 30 xs)) 0 0 := by
    refine down (fun haj kv nv x4 xs st hkv hnv hst hlen he => ?_) (fun j hj ih haj kv nv x4 xs st hkv hnv hst hlen he => ?_)
    · have hend : (M.2.1 8).getD (Int32.ofInt 4 * M.1 10 + nI p + Int32.ofInt 1).toNatClampNeg 0 ≤ kv := by rw [hv2, hkv]; exact Int32.le_refl _
      refine run_sound okX8_says saysK 300 (Exists.intro _ (And.intro rfl (And.intro hin2 (brT hend ?_))))
      rw [Nat.sub_self, List.take_zero, evR] at he
      have hst1 : st = [v] := Option.some.inj he
      subst hst1
      have h0 : xs.getD (Int32.ofInt 0).toNatClampNeg 0 = v := hst.top
      refine Exists.intro _ (And.intro rfl (And.intro ?_ ⟨⟨xs, hst.1, rfl⟩, some_int h0⟩))
      show vp_in (nI 0) xs.length
      rw [hst.1]
      exact vp_nI (by decide) (by decide)
    · have hnend : ¬ (M.2.1 8).getD (Int32.ofInt 4 * M.1 10 + nI p + Int32.ofInt 1).toNatClampNeg 0 ≤ kv := by rw [hv2, hkv]; exact nI_ge hj (by omega)
      have e3 : Int32.ofInt 200 * M.1 10 + kv = nI (200 * t + j) := by
        rw [ht, hkv, show Int32.ofInt 200 = nI 200 from rfl, nI_mul, nI_add]
      have hin3 : vp_in (Int32.ofInt 200 * M.1 10 + kv) (M.2.1 7).length := by rw [e3, h7]; exact vp_nI (by omega) (by decide)
      have hl7 : 200 * t + j < (M.2.1 7).length := by rw [h7]; omega
      rw [show b - j = (b - (j + 1)) + 1 by omega, seg_cons hl7, evR] at he
      have hcv : (M.2.1 7).getD (Int32.ofInt 200 * M.1 10 + kv).toNatClampNeg 0 = (M.2.1 7).getD (200 * t + j) 0 := by rw [e3, nI_clamp (by omega)]
      have ek : kv + Int32.ofInt 1 = nI (j + 1) := by rw [hkv]; exact nI_1 j
      generalize hcc : (M.2.1 7).getD (200 * t + j) 0 = c at he hcv
      refine run_sound okX8_says saysK 300 (Exists.intro _ (And.intro rfl (And.intro hin2 (brF hnend (Exists.intro _ (And.intro rfl (And.intro hin3 ?_)))))))
      cases hs : stpR (M.2.1 31) c st with
      | none => rw [hs] at he; cases he
      | some st' =>
      rw [hs] at he
      have he : evR (M.2.1 31) (((M.2.1 7).drop (200 * t + (j + 1))).take (b - (j + 1))) st' = some [v] := he
      have hsl : st.length < 200 := by omega
      have hinn : vp_in nv xs.length := by rw [hnv, hst.1]; exact vp_nI hsl (by decide)
      unfold stpR at hs
      by_cases h1 : 100000 ≤ c
      · rw [if_pos h1] at hs
        have hs := Option.some.inj hs
        subst hs
        have b1 : Int32.ofInt 100000 ≤ (M.2.1 7).getD (Int32.ofInt 200 * M.1 10 + kv).toNatClampNeg 0 := by rw [hcv]; exact h1
        have b2 : Int32.ofInt 11 ≤ (M.2.1 7).getD (Int32.ofInt 200 * M.1 10 + kv).toNatClampNeg 0 := Int32.le_trans (by decide) b1
        refine brT b1 (brT b2 (Exists.intro _ (And.intro rfl (And.intro hinn ?_))))
        refine ih (by omega) (kv + Int32.ofInt 1) (nv + Int32.ofInt 1) _ (xs.set nv.toNatClampNeg ((M.2.1 7).getD (Int32.ofInt 200 * M.1 10 + kv).toNatClampNeg 0 - Int32.ofInt 100000)) _ ek ?_ ?_ ?_ he
        · rw [hnv]; exact nI_1 _
        · rw [hcv, hnv, nI_clamp (by omega)]; exact hst.push _ hsl
        · simp only [List.length_cons]; omega
      · rw [if_neg h1] at hs
        have b1 : ¬ Int32.ofInt 100000 ≤ (M.2.1 7).getD (Int32.ofInt 200 * M.1 10 + kv).toNatClampNeg 0 := by rw [hcv]; exact h1
        refine brF b1 ?_
        by_cases h2 : c < 11
        · rw [if_pos h2] at hs
          have b2 : ¬ Int32.ofInt 11 ≤ (M.2.1 7).getD (Int32.ofInt 200 * M.1 10 + kv).toNatClampNeg 0 := by rw [hcv]; exact Int32.not_le.mpr h2
          split at hs
          · rename_i h3
            have hs := Option.some.inj hs
            subst hs
            have hin4 : vp_in ((M.2.1 7).getD (Int32.ofInt 200 * M.1 10 + kv).toNatClampNeg 0) (M.2.1 31).length := by
              rw [hcv, h31]
              refine vp_inI h3.1 ?_
              obtain ⟨q, hq, rfl⟩ := nI_of2 (x := c) (M := 5) (n := 5) rfl (fun z => absurd z (Int32.not_lt.mpr h3.1)) (by have := h3.2; rw [Int32.lt_iff_toInt_lt] at this; rw [Int32.le_iff_toInt_le]; have e6 : (6 : Int32).toInt = 6 := rfl; have e5 : (5 : Int32).toInt = 5 := rfl; omega)
              rw [nI_clamp (by omega)]; omega
            refine brF b2 (brF b2 (Exists.intro _ (And.intro rfl (And.intro hin4 (Exists.intro _ (And.intro rfl (And.intro hinn ?_)))))))
            refine ih (by omega) (kv + Int32.ofInt 1) (nv + Int32.ofInt 1) _ (xs.set nv.toNatClampNeg ((M.2.1 31).getD ((M.2.1 7).getD (Int32.ofInt 200 * M.1 10 + kv).toNatClampNeg 0).toNatClampNeg 0)) _ ek ?_ ?_ ?_ he
            · rw [hnv]; exact nI_1 _
            · rw [hcv, hnv, nI_clamp (by omega)]; exact hst.push _ hsl
            · simp only [List.length_cons]; omega
          · cases hs
        · rw [if_neg h2] at hs
          have b2 : Int32.ofInt 11 ≤ (M.2.1 7).getD (Int32.ofInt 200 * M.1 10 + kv).toNatClampNeg 0 := by rw [hcv]; exact Int32.not_lt.mp h2
          refine brT b2 ?_
          by_cases h3 : c = 13
          · rw [if_pos h3] at hs
            have b3 : (M.2.1 7).getD (Int32.ofInt 200 * M.1 10 + kv).toNatClampNeg 0 = Int32.ofInt 13 := by rw [hcv]; exact h3
            refine brT b3 ?_
            cases st with
            | nil => cases hs
            | cons x r =>
              have hs := Option.some.inj hs
              subst hs
              have en : nv - Int32.ofInt 1 = nI r.length := by rw [hnv, nI_m1 (by simp)]; rfl
              have hr : r.length < 200 := by simp at hsl; omega
              have hin5 : vp_in (nv - Int32.ofInt 1) xs.length := by rw [en, hst.1]; exact vp_nI hr (by decide)
              have hx : xs.getD (nv - Int32.ofInt 1).toNatClampNeg 0 = x := by rw [en, nI_clamp (by omega)]; exact hst.top
              refine Exists.intro _ (And.intro rfl (And.intro hin5 (br (fun q1 => ?_) (fun q1 => ?_))))
              · have q2 : x = 0 := hx.symm.trans q1
                refine Exists.intro _ (And.intro rfl (And.intro hin5 ?_))
                refine ih (by omega) (kv + Int32.ofInt 1) nv _ (xs.set (nv - Int32.ofInt 1).toNatClampNeg (Int32.ofInt 1)) ((if x = 0 then 1 else 0) :: r) ek hnv ?_ (by simp at hlen ⊢; omega) he
                rw [en, nI_clamp (by omega), if_pos q2]; exact hst.set _
              · have q2 : ¬ x = 0 := fun z => q1 (hx.trans z)
                refine Exists.intro _ (And.intro rfl (And.intro hin5 ?_))
                refine ih (by omega) (kv + Int32.ofInt 1) nv _ (xs.set (nv - Int32.ofInt 1).toNatClampNeg (Int32.ofInt 0)) ((if x = 0 then 1 else 0) :: r) ek hnv ?_ (by simp at hlen ⊢; omega) he
                rw [en, nI_clamp (by omega), if_neg q2]; exact hst.set _
          · rw [if_neg h3] at hs
            have b3 : ¬ (M.2.1 7).getD (Int32.ofInt 200 * M.1 10 + kv).toNatClampNeg 0 = Int32.ofInt 13 := by rw [hcv]; exact h3
            by_cases h4 : c = 19
            · rw [if_pos h4] at hs
              have b4 : (M.2.1 7).getD (Int32.ofInt 200 * M.1 10 + kv).toNatClampNeg 0 = Int32.ofInt 19 := by rw [hcv]; exact h4
              refine brF b3 (brT b4 ?_)
              cases st with
              | nil => cases hs
              | cons x r =>
                have hs := Option.some.inj hs
                subst hs
                have en : nv - Int32.ofInt 1 = nI r.length := by rw [hnv, nI_m1 (by simp)]; rfl
                have hr : r.length < 200 := by simp at hsl; omega
                have hin5 : vp_in (nv - Int32.ofInt 1) xs.length := by rw [en, hst.1]; exact vp_nI hr (by decide)
                have hx : xs.getD (nv - Int32.ofInt 1).toNatClampNeg 0 = x := by rw [en, nI_clamp (by omega)]; exact hst.top
                refine Exists.intro _ (And.intro rfl (And.intro hin5 (Exists.intro _ (And.intro rfl (And.intro hin5 ?_)))))
                refine ih (by omega) (kv + Int32.ofInt 1) nv _ (xs.set (nv - Int32.ofInt 1).toNatClampNeg (-(xs.getD (nv - Int32.ofInt 1).toNatClampNeg 0))) ((-x) :: r) ek hnv ?_ (by simp at hlen ⊢; omega) he
                rw [hx, en, nI_clamp (by omega)]; exact hst.set _
            · rw [if_neg h4] at hs
              have b4 : ¬ (M.2.1 7).getD (Int32.ofInt 200 * M.1 10 + kv).toNatClampNeg 0 = Int32.ofInt 19 := by rw [hcv]; exact h4
              refine brF b3 (brF b4 ?_)
              match st, hs with
              | y :: x :: r, hs =>
                have hs := Option.some.inj hs
                subst hs
                have en0 : nv + Int32.ofInt (-1) = nI (r.length + 1) := by rw [hnv, nI_dec (by simp)]; rfl
                have en : nv + Int32.ofInt (-1) - Int32.ofInt 1 = nI r.length := by rw [en0, nI_m1 (by omega)]; rfl
                have hr : r.length + 1 < 200 := by simp at hsl; omega
                have hin5 : vp_in (nv + Int32.ofInt (-1) - Int32.ofInt 1) xs.length := by rw [en, hst.1]; exact vp_nI (by omega) (by decide)
                have hin6 : vp_in (nv + Int32.ofInt (-1)) xs.length := by rw [en0, hst.1]; exact vp_nI hr (by decide)
                have hx : xs.getD (nv + Int32.ofInt (-1) - Int32.ofInt 1).toNatClampNeg 0 = x := by rw [en, nI_clamp (by omega)]; exact hst.top2
                have hy : xs.getD (nv + Int32.ofInt (-1)).toNatClampNeg 0 = y := by rw [en0, nI_clamp (by omega)]; exact hst.top
                refine Exists.intro _ (And.intro rfl (And.intro hin5 (Exists.intro _ (And.intro rfl (And.intro hin6 (kH (m_two _ _ _) (by decide) (Exists.intro _ (And.intro rfl (And.intro hin5 ?_)))))))))
                refine ih (by omega) (kv + Int32.ofInt 1) (nv + Int32.ofInt (-1)) _ (xs.set (nv + Int32.ofInt (-1) - Int32.ofInt 1).toNatClampNeg (twoF ((M.2.1 7).getD (Int32.ofInt 200 * M.1 10 + kv).toNatClampNeg 0) (xs.getD (nv + Int32.ofInt (-1) - Int32.ofInt 1).toNatClampNeg 0) (xs.getD (nv + Int32.ofInt (-1)).toNatClampNeg 0))) (twoF c x y :: r) ek en0 ?_ (by simp at hlen ⊢; omega) he
                rw [hcv, hx, hy, en, nI_clamp (by omega)]
                exact hst.pop.set _
  have h0 := key a (by omega) (Nat.le_refl _) _ (Int32.ofInt 0) none (M.2.1 30) [] hv1 rfl ⟨h30, by decide, rfl⟩ (by simp) hev
  exact h0
end SAYS
