/-! parts 40 .. 56, joined -/
section
-- 40.model
/-! THE REFERENCE's methods -/
theorem brC {x y : Int64} {A B : Prop} (h1 : x = y → A) (h2 : ¬ x = y → B) : (lg_cmp x y = 0 → A) ∧ (¬ lg_cmp x y = 0 → B) := ⟨fun h => h1 (lg_cmp0.mp h), fun h => h2 (fun z => h (lg_cmp0.mpr z))⟩
abbrev mk (S : CS) (M : MS) : AH := encC S ++ encM M
abbrev mkR (S : CS) (M : MS) (v : Int32) : AH → Option Value → Prop := fun h w => h = mk S M ∧ w = some (.int v)
/-- the reference's rows are as long as they were made -/
def MLen (M : MS) : Prop := (M.2.1 1).length = 5 ∧ (M.2.1 2).length = 5 ∧ (M.2.1 4).length = 36 ∧ (M.2.1 5).length = 160 ∧ (M.2.1 7).length = 1200 ∧ (M.2.1 8).length = 24 ∧ (M.2.1 15).length = 10 ∧ (M.2.1 16).length = 36 ∧ (M.2.1 17).length = 4 ∧ (M.2.1 18).length = 4 ∧ (M.2.1 19).length = 160 ∧ (M.2.1 20).length = 28 ∧ (M.2.1 25).length = 96 ∧ (M.2.1 26).length = 200 ∧ (M.2.1 30).length = 200 ∧ (M.2.1 31).length = 6 ∧ M.2.2.1.length = 60 ∧ M.2.2.2.length = 12
section MODEL
variable {l : Launch} {X : List (List Int32)} {S : CS} {M : MS} {hp : AH}
set_option maxRecDepth 100000 in
theorem m_in (v lo hi : Int32) : Ans l 0 X sgX8_in [.int v, .int lo, .int hi] hp (bI (lo ≤ v ∧ v ≤ hi)) := by
  refine Ctr.of okX8_in rfl (Nat.le_of_ble_eq_true rfl) (run_sound okX8_in noCut 100 ?_)
  refine br (fun h1 => ⟨rfl, rfl, some_int (bIe0 (fun z => absurd h1 (Int32.not_lt.mpr z.1)))⟩) (fun h1 => br (fun h2 => ⟨rfl, rfl, some_int (bIe0 (fun z => absurd h2 (Int32.not_lt.mpr z.2)))⟩) (fun h2 => ⟨rfl, rfl, some_int (bIe1 ⟨Int32.not_lt.mp h1, Int32.not_lt.mp h2⟩)⟩))
def withinF (v lo hi : Int32) : Int32 := if v < lo then lo else if hi < v then hi else v
set_option maxRecDepth 100000 in
theorem m_within (v lo hi : Int32) : Ans l 0 X sgX8_within [.int v, .int lo, .int hi] hp (withinF v lo hi) := by
  refine Ctr.of okX8_within rfl (Nat.le_of_ble_eq_true rfl) (run_sound okX8_within noCut 100 ?_)
  refine br (fun h1 => br (fun h2 => ⟨rfl, some_int ?_⟩) (fun h2 => ⟨rfl, some_int ?_⟩)) (fun h1 => ⟨rfl, some_int ?_⟩)
  · exact ((if_neg (Int32.not_lt.mpr h1)).trans (if_neg (Int32.not_lt.mpr h2))).symm
  · exact ((if_neg (Int32.not_lt.mpr h1)).trans (if_pos (Int32.not_le.mp h2))).symm
  · exact (if_pos (Int32.not_le.mp h1)).symm
set_option maxRecDepth 100000 in
theorem m_has (s : Int64) (w : Int32) : Ans l 0 X sgX8_has [.long s, .int w] hp (bI ((s >>> (w.toInt64 &&& 63)) &&& 1 = 1)) := by
  refine Ctr.of okX8_has rfl (Nat.le_of_ble_eq_true rfl) (run_sound okX8_has noCut 100 ?_)
  exact brC (fun h => ⟨rfl, rfl, some_int (bI_t h).symm⟩) (fun h => ⟨rfl, rfl, some_int (bI_f h).symm⟩)
/-- how many bits -/
def cntF (s : Int64) : Nat → Int32
  | 0 => 0
  | w + 1 => cntF s w + bI ((s >>> ((nI w).toInt64 &&& 63)) &&& 1 = 1)
set_option maxRecDepth 100000 in
theorem m_bitsOf (s : Int64) : Ans l 1 X sgX8_bitsOf [.long s] hp (cntF s 32) := by
  refine Ctr.of okX8_bitsOf rfl (Nat.le_of_ble_eq_true rfl) (run_sound okX8_bitsOf (fun i => Nat.beq i 4) 100 ?_)
  have key : ∀ j, j ≤ 32 → WP l (rmD 1 0 0) X sgX8_bitsOf kX8_bitsOf (fun h w => h = hp ∧ w = some (.int (cntF s 32))) 4 [some (.long s), none, some (.int (cntF s j)), some (.int (nI j))] [] hp 0 0 := by
    refine down ?_ (fun j hj ih => ?_)
    · exact run_sound okX8_bitsOf (fun i => Nat.beq i 4) 100 (brT (Int32.le_refl _) ⟨rfl, rfl⟩)
    · refine run_sound okX8_bitsOf (fun i => Nat.beq i 4) 100 (brF (ge_no (n := 32) rfl hj (by decide)) (kH (m_has _ _) (by decide) (brB' (fun h => ?_) (fun h => ?_))))
      · rw [show cntF s (j + 1) = cntF s j + 0 by rw [cntF, bI_f h], ← nI_1 j] at ih
        exact ih
      · rw [show cntF s (j + 1) = cntF s j + 1 by rw [cntF, bI_t h], ← nI_1 j] at ih
        exact ih
  exact key 0 (Nat.zero_le _)
set_option maxRecDepth 100000 in
theorem m_isSpeaker (v : Int32) : Ans l 1 X sgX8_isSpeaker [.ref 27, .int v] (mk S M) (bI (0 ≤ v ∧ v ≤ M.1 0 - 1)) := by
  refine Ctr.of okX8_isSpeaker rfl (Nat.le_of_ble_eq_true rfl) (run_sound okX8_isSpeaker noCut 100 ?_)
  exact kH (m_in _ _ _) (by decide) ⟨nar_bI, rfl, rfl⟩
set_option maxRecDepth 100000 in
theorem m_isOfTexts (v : Int32) : Ans l 1 X sgX8_isOfTexts [.ref 27, .int v] (mk S M) (bI (0 ≤ v ∧ v ≤ M.1 9 - 1)) := by
  refine Ctr.of okX8_isOfTexts rfl (Nat.le_of_ble_eq_true rfl) (run_sound okX8_isOfTexts noCut 100 ?_)
  exact kH (m_in _ _ _) (by decide) ⟨nar_bI, rfl, rfl⟩
set_option maxRecDepth 100000 in
theorem m_isWorld (v : Int32) : Ans l 1 X sgX8_isWorld [.int v] hp (bI (0 ≤ v ∧ v ≤ 31)) := by
  refine Ctr.of okX8_isWorld rfl (Nat.le_of_ble_eq_true rfl) (run_sound okX8_isWorld noCut 100 ?_)
  exact kH (m_in _ _ _) (by decide) ⟨nar_bI, rfl, rfl⟩
/-- a sign between two -/
def twoF (sign a b : Int32) : Int32 :=
  if sign = 11 then bI (¬ a = 0 ∨ ¬ b = 0) else if sign = 12 then bI (¬ a = 0 ∧ ¬ b = 0) else if sign = 14 then bI (a < b) else if sign = 15 then bI (a = b)
  else if sign = 16 then a + b else if sign = 17 then a - b else a * b
set_option maxRecDepth 100000 in
theorem m_two (sign a b : Int32) : Ans l 0 X sgX8_two [.int sign, .int a, .int b] hp (twoF sign a b) := by
  refine Ctr.of okX8_two rfl (Nat.le_of_ble_eq_true rfl) (run_sound okX8_two noCut 100 ?_)
  refine And.intro (fun h => ⟨rfl, some_int ?_⟩) (And.intro (fun h => ?_) (And.intro (fun h => ?_) (And.intro (fun h => ⟨rfl, some_int ?_⟩) (And.intro (fun h => ?_) (And.intro (fun h => ?_) (And.intro (fun h => ⟨rfl, some_int ?_⟩) (And.intro (fun h => ⟨rfl, some_int ?_⟩) trivial)))))))
  · have n1 : ¬ sign = 11 := fun z => by subst z; revert h; decide
    have n2 : ¬ sign = 12 := fun z => by subst z; revert h; decide
    have n4 : ¬ sign = 14 := fun z => by subst z; revert h; decide
    have n5 : ¬ sign = 15 := fun z => by subst z; revert h; decide
    have n6 : ¬ sign = 16 := fun z => by subst z; revert h; decide
    have n7 : ¬ sign = 17 := fun z => by subst z; revert h; decide
    simp only [twoF, if_neg n1, if_neg n2, if_neg n4, if_neg n5, if_neg n6, if_neg n7]
  · subst h
    refine br (fun h1 => br (fun h2 => ⟨rfl, some_int ?_⟩) (fun h2 => ⟨rfl, some_int ?_⟩)) (fun h1 => ⟨rfl, some_int ?_⟩)
    · exact (bI_f (p := ¬ a = 0 ∨ ¬ b = 0) (fun z => z.elim (fun q => q h1) (fun q => q h2))).symm
    · exact (bI_t (p := ¬ a = 0 ∨ ¬ b = 0) (Or.inr h2)).symm
    · exact (bI_t (p := ¬ a = 0 ∨ ¬ b = 0) (Or.inl h1)).symm
  · subst h
    refine br (fun h1 => ⟨rfl, some_int ?_⟩) (fun h1 => br (fun h2 => ⟨rfl, some_int ?_⟩) (fun h2 => ⟨rfl, some_int ?_⟩))
    · exact (bI_f (p := ¬ a = 0 ∧ ¬ b = 0) (fun z => z.1 h1)).symm
    · exact (bI_f (p := ¬ a = 0 ∧ ¬ b = 0) (fun z => z.2 h2)).symm
    · exact (bI_t (p := ¬ a = 0 ∧ ¬ b = 0) ⟨h1, h2⟩).symm
  · subst h; rfl
  · subst h
    refine br (fun h1 => ⟨rfl, some_int ?_⟩) (fun h1 => ⟨rfl, some_int ?_⟩)
    · exact (bI_f (p := a < b) (Int32.not_lt.mpr h1)).symm
    · exact (bI_t (p := a < b) (Int32.not_le.mp h1)).symm
  · subst h
    refine br (fun h1 => ⟨rfl, some_int ?_⟩) (fun h1 => ⟨rfl, some_int ?_⟩)
    · exact (bI_t (p := a = b) h1).symm
    · exact (bI_f (p := a = b) h1).symm
  · subst h; rfl
  · subst h; rfl
end MODEL
end
section
-- 41.says
section SAYS
variable {l : Launch} {X : List (List Int32)} {S : CS} {M : MS}
/-- one code over a stack (top first); nothing where the row would be left -/
def stpR (nm : List Int32) (c : Int32) (st : List Int32) : Option (List Int32) :=
  if 100000 ≤ c then some ((c - 100000) :: st)
  else if c < 11 then (if 0 ≤ c ∧ c < 6 then some (nm.getD c.toNatClampNeg 0 :: st) else none)
  else if c = 13 then (match st with
    | a :: r => some ((if a = 0 then 1 else 0) :: r)
    | [] => none)
  else if c = 19 then (match st with
    | a :: r => some ((-a) :: r)
    | [] => none)
  else (match st with
    | b :: a :: r => some (twoF c a b :: r)
    | _ => none)
def evR (nm : List Int32) : List Int32 → List Int32 → Option (List Int32)
  | [], st => some st
  | c :: cs, st => (stpR nm c st).bind (evR nm cs)
/-- the row holds the stack -/
def StkR (xs st : List Int32) : Prop := xs.length = 200 ∧ st.length ≤ 200 ∧ xs.take st.length = st.reverse
theorem StkR.get {xs st : List Int32} (h : StkR xs st) {k : Nat} {v : Int32} (hk : st.reverse[k]? = some v) : xs.getD k 0 = v := by
  obtain ⟨h1, h2, h3⟩ := h
  have hl : k < st.length := by
    have := (List.getElem?_eq_some_iff.mp hk).1
    simpa using this
  rw [← h3, List.getElem?_take_of_lt hl] at hk
  rw [List.getD_eq_getElem?_getD, hk]
  rfl
theorem StkR.push {xs st : List Int32} (h : StkR xs st) (v : Int32) (hl : st.length < 200) : StkR (xs.set st.length v) (v :: st) := by
  obtain ⟨h1, h2, h3⟩ := h
  refine ⟨by simpa using h1, by simp; omega, ?_⟩
  rw [List.length_cons, List.reverse_cons, ← h3]
  apply List.ext_getElem?
  intro j
  by_cases hj : j < st.length
  · rw [List.getElem?_take_of_lt (by omega), List.getElem?_set_ne (by omega), List.getElem?_append_left (by simp; omega), List.getElem?_take_of_lt hj]
  · by_cases e : j = st.length
    · subst e
      rw [List.getElem?_take_of_lt (by omega), List.getElem?_set_self (by omega), List.getElem?_append_right (by simp; omega)]
      simp [Nat.min_eq_left (show st.length ≤ xs.length by omega)]
    · rw [List.getElem?_eq_none (by simp; omega), List.getElem?_eq_none (by simp; omega)]
theorem StkR.set {xs : List Int32} {a : Int32} {r : List Int32} (h : StkR xs (a :: r)) (v : Int32) : StkR (xs.set r.length v) (v :: r) := by
  have hr : StkR xs r := by
    obtain ⟨h1, h2, h3⟩ := h
    refine ⟨h1, by simp at h2; omega, ?_⟩
    have := congrArg (List.take r.length) h3
    rw [List.take_take, List.length_cons, List.reverse_cons, List.take_left' (by simp)] at this
    rw [← this]
    congr 1
    omega
  exact hr.push v (by have := h.2.1; simp at this; omega)
theorem StkR.pop {xs : List Int32} {a : Int32} {r : List Int32} (h : StkR xs (a :: r)) : StkR xs r := by
  obtain ⟨h1, h2, h3⟩ := h
  refine ⟨h1, by simp at h2; omega, ?_⟩
  have := congrArg (List.take r.length) h3
  rw [List.take_take, List.length_cons, List.reverse_cons, List.take_left' (by simp)] at this
  rw [← this]
  congr 1
  omega
theorem StkR.top {xs : List Int32} {a : Int32} {r : List Int32} (h : StkR xs (a :: r)) : xs.getD r.length 0 = a := h.get (by simp)
theorem StkR.top2 {xs : List Int32} {a b : Int32} {r : List Int32} (h : StkR xs (b :: a :: r)) : xs.getD r.length 0 = a := h.pop.top
theorem vp_nI {n N : Nat} (h : n < N) (hN : N < 2 ^ 31) : vp_in (nI n) N := nI_in h hN
theorem nI_mul (a b : Nat) : nI a * nI b = nI (a * b) := (Int32.ofNat_mul a b).symm
theorem nI_m1 {n : Nat} (h : 1 ≤ n) : nI n - Int32.ofInt 1 = nI (n - 1) := by
  obtain ⟨k, rfl⟩ : ∃ k, n = k + 1 := ⟨n - 1, by omega⟩
  exact nI_pred k
theorem nI_dec {n : Nat} (h : 1 ≤ n) : nI n + Int32.ofInt (-1) = nI (n - 1) := by
  obtain ⟨k, rfl⟩ : ∃ k, n = k + 1 := ⟨n - 1, by omega⟩
  rw [show k + 1 - 1 = k by omega, ← nI_1 k, show (Int32.ofInt (-1)) = -1 from rfl, Int32.add_assoc]
  simp
theorem seg_cons {L : List Int32} {i n : Nat} (h : i < L.length) : (L.drop i).take (n + 1) = L.getD i 0 :: (L.drop (i + 1)).take n := by
  rw [List.drop_eq_getElem_cons h, List.take_succ_cons, List.getD_eq_getElem?_getD, List.getElem?_eq_getElem h]
  rfl
def saysK (i : Nat) : Bool := Nat.beq i 12
abbrev saysQ (S : CS) (M : MS) (v : Int32) : AH → Option Value → Prop := fun h w => (∃ st : List Int32, st.length = 200 ∧ h = mk S (mR M 30 st)) ∧ w = some (.int v)
set_option maxRecDepth 100000 in
set_option maxHeartbeats 4000000 in
theorem m_says (hM : MLen M) {t p a b : Nat} (ht : M.1 10 = nI t) (ht6 : t < 6) (hp3 : p < 3) (ha : (M.2.1 8).getD (4 * t + p) 0 = nI a) (hb : (M.2.1 8).getD (4 * t + p + 1) 0 = nI b) (hab : a ≤ b) (hb200 : b ≤ 200) {v : Int32} (hev : evR (M.2.1 31) (((M.2.1 7).drop (200 * t + a)).take (b - a)) [] = some [v]) :
    Ctr l 1 X sgX8_says [.ref 27, .int (nI p)] (mk S M) (saysQ S M v) := by
  obtain ⟨-, -, -, -, h7, h8, -, -, -, -, -, -, -, -, h30, h31, -, -⟩ := hM
  have e1 : Int32.ofInt 4 * M.1 10 + nI p = nI (4 * t + p) := by
    rw [ht, show Int32.ofInt 4 = nI 4 from rfl, nI_mul, nI_add]
  have e2 : Int32.ofInt 4 * M.1 10 + nI p + Int32.ofInt 1 = nI (4 * t + p + 1) := by rw [e1]; exact nI_1 _
  have hin1 : vp_in (Int32.ofInt 4 * M.1 10 + nI p) (M.2.1 8).length := by rw [e1, h8]; exact vp_nI (by omega) (by decide)
  have hin2 : vp_in (Int32.ofInt 4 * M.1 10 + nI p + Int32.ofInt 1) (M.2.1 8).length := by rw [e2, h8]; exact vp_nI (by omega) (by decide)
  have hv1 : (M.2.1 8).getD (Int32.ofInt 4 * M.1 10 + nI p).toNatClampNeg 0 = nI a := by rw [e1, nI_clamp (by omega)]; exact ha
  have hv2 : (M.2.1 8).getD (Int32.ofInt 4 * M.1 10 + nI p + Int32.ofInt 1).toNatClampNeg 0 = nI b := by rw [e2, nI_clamp (by omega)]; exact hb
  refine Ctr.of okX8_says rfl (Nat.le_of_ble_eq_true rfl) (run_soundF okX8_says lkf_X8_says_ok saysK 300 ?_)
  refine Exists.intro _ (And.intro rfl (And.intro hin1 ?_))
  have key : ∀ j, j ≤ b → a ≤ j → ∀ (kv nv : Int32) x4 (xs st : List Int32), kv = nI j → nv = nI st.length → StkR xs st → st.length ≤ j - a → evR (M.2.1 31) (((M.2.1 7).drop (200 * t + j)).take (b - j)) st = some [v] →
      WP l (rmD 1 0 0) X sgX8_says kX8_says (saysQ S M v) 12 [some (.ref 27), some (.int (nI p)), some (.int nv), some (.int kv), x4] [] (mk S (mR M 30 xs)) 0 0 := by
    refine down (fun haj kv nv x4 xs st hkv hnv hst hlen he => ?_) (fun j hj ih haj kv nv x4 xs st hkv hnv hst hlen he => ?_)
    · have hend : (M.2.1 8).getD (Int32.ofInt 4 * M.1 10 + nI p + Int32.ofInt 1).toNatClampNeg 0 ≤ kv := by rw [hv2, hkv]; exact Int32.le_refl _
      refine run_soundF okX8_says lkf_X8_says_ok saysK 300 (Exists.intro _ (And.intro rfl (And.intro hin2 (brT hend ?_))))
      rw [Nat.sub_self, List.take_zero, evR] at he
      have hst1 : st = [v] := Option.some.inj he
      subst hst1
      have h0 : xs.getD (Int32.ofInt 0).toNatClampNeg 0 = v := hst.top
      refine Exists.intro _ (And.intro rfl (And.intro ?_ ⟨⟨xs, hst.1, rfl⟩, some_int h0⟩))
      show vp_in (nI 0) xs.length
      rw [hst.1]
      exact vp_nI (by decide) (by decide)
    · have hnend : ¬ (M.2.1 8).getD (Int32.ofInt 4 * M.1 10 + nI p + Int32.ofInt 1).toNatClampNeg 0 ≤ kv := by rw [hv2, hkv]; exact nI_ge hj (by omega)
      have e3 : Int32.ofInt 200 * M.1 10 + kv = nI (200 * t + j) := by
        rw [ht, hkv, show Int32.ofInt 200 = nI 200 from rfl, nI_mul, nI_add]
      have hin3 : vp_in (Int32.ofInt 200 * M.1 10 + kv) (M.2.1 7).length := by rw [e3, h7]; exact vp_nI (by omega) (by decide)
      have hl7 : 200 * t + j < (M.2.1 7).length := by rw [h7]; omega
      rw [show b - j = (b - (j + 1)) + 1 by omega, seg_cons hl7, evR] at he
      have hcv : (M.2.1 7).getD (Int32.ofInt 200 * M.1 10 + kv).toNatClampNeg 0 = (M.2.1 7).getD (200 * t + j) 0 := by rw [e3, nI_clamp (by omega)]
      have ek : kv + Int32.ofInt 1 = nI (j + 1) := by rw [hkv]; exact nI_1 j
      generalize hcc : (M.2.1 7).getD (200 * t + j) 0 = c at he hcv
      refine run_soundF okX8_says lkf_X8_says_ok saysK 300 (Exists.intro _ (And.intro rfl (And.intro hin2 (brF hnend (Exists.intro _ (And.intro rfl (And.intro hin3 ?_)))))))
      cases hs : stpR (M.2.1 31) c st with
      | none => rw [hs] at he; cases he
      | some st' =>
      rw [hs] at he
      have he : evR (M.2.1 31) (((M.2.1 7).drop (200 * t + (j + 1))).take (b - (j + 1))) st' = some [v] := he
      have hsl : st.length < 200 := by omega
      have hinn : vp_in nv xs.length := by rw [hnv, hst.1]; exact vp_nI hsl (by decide)
      unfold stpR at hs
      by_cases h1 : 100000 ≤ c
      · rw [if_pos h1] at hs
        have hs := Option.some.inj hs
        subst hs
        have b1 : Int32.ofInt 100000 ≤ (M.2.1 7).getD (Int32.ofInt 200 * M.1 10 + kv).toNatClampNeg 0 := by rw [hcv]; exact h1
        have b2 : Int32.ofInt 11 ≤ (M.2.1 7).getD (Int32.ofInt 200 * M.1 10 + kv).toNatClampNeg 0 := Int32.le_trans (by decide) b1
        refine brT b1 (brT b2 (Exists.intro _ (And.intro rfl (And.intro hinn ?_))))
        refine ih (by omega) (kv + Int32.ofInt 1) (nv + Int32.ofInt 1) _ (xs.set nv.toNatClampNeg ((M.2.1 7).getD (Int32.ofInt 200 * M.1 10 + kv).toNatClampNeg 0 - Int32.ofInt 100000)) _ ek ?_ ?_ ?_ he
        · rw [hnv]; exact nI_1 _
        · rw [hcv, hnv, nI_clamp (by omega)]; exact hst.push _ hsl
        · simp only [List.length_cons]; omega
      · rw [if_neg h1] at hs
        have b1 : ¬ Int32.ofInt 100000 ≤ (M.2.1 7).getD (Int32.ofInt 200 * M.1 10 + kv).toNatClampNeg 0 := by rw [hcv]; exact h1
        refine brF b1 ?_
        by_cases h2 : c < 11
        · rw [if_pos h2] at hs
          have b2 : ¬ Int32.ofInt 11 ≤ (M.2.1 7).getD (Int32.ofInt 200 * M.1 10 + kv).toNatClampNeg 0 := by rw [hcv]; exact Int32.not_le.mpr h2
          split at hs
          · rename_i h3
            have hs := Option.some.inj hs
            subst hs
            have hin4 : vp_in ((M.2.1 7).getD (Int32.ofInt 200 * M.1 10 + kv).toNatClampNeg 0) (M.2.1 31).length := by
              rw [hcv, h31]
              refine vp_inI h3.1 ?_
              obtain ⟨q, hq, rfl⟩ := nI_of2 (x := c) (M := 5) (n := 5) rfl (fun z => absurd z (Int32.not_lt.mpr h3.1)) (by have := h3.2; rw [Int32.lt_iff_toInt_lt] at this; rw [Int32.le_iff_toInt_le]; have e6 : (6 : Int32).toInt = 6 := rfl; have e5 : (5 : Int32).toInt = 5 := rfl; omega)
              rw [nI_clamp (by omega)]; omega
            refine brF b2 (brF b2 (Exists.intro _ (And.intro rfl (And.intro hin4 (Exists.intro _ (And.intro rfl (And.intro hinn ?_)))))))
            refine ih (by omega) (kv + Int32.ofInt 1) (nv + Int32.ofInt 1) _ (xs.set nv.toNatClampNeg ((M.2.1 31).getD ((M.2.1 7).getD (Int32.ofInt 200 * M.1 10 + kv).toNatClampNeg 0).toNatClampNeg 0)) _ ek ?_ ?_ ?_ he
            · rw [hnv]; exact nI_1 _
            · rw [hcv, hnv, nI_clamp (by omega)]; exact hst.push _ hsl
            · simp only [List.length_cons]; omega
          · cases hs
        · rw [if_neg h2] at hs
          have b2 : Int32.ofInt 11 ≤ (M.2.1 7).getD (Int32.ofInt 200 * M.1 10 + kv).toNatClampNeg 0 := by rw [hcv]; exact Int32.not_lt.mp h2
          refine brT b2 ?_
          by_cases h3 : c = 13
          · rw [if_pos h3] at hs
            have b3 : (M.2.1 7).getD (Int32.ofInt 200 * M.1 10 + kv).toNatClampNeg 0 = Int32.ofInt 13 := by rw [hcv]; exact h3
            refine brT b3 ?_
            cases st with
            | nil => cases hs
            | cons x r =>
              have hs := Option.some.inj hs
              subst hs
              have en : nv - Int32.ofInt 1 = nI r.length := by rw [hnv, nI_m1 (by simp)]; rfl
              have hr : r.length < 200 := by simp at hsl; omega
              have hin5 : vp_in (nv - Int32.ofInt 1) xs.length := by rw [en, hst.1]; exact vp_nI hr (by decide)
              have hx : xs.getD (nv - Int32.ofInt 1).toNatClampNeg 0 = x := by rw [en, nI_clamp (by omega)]; exact hst.top
              refine Exists.intro _ (And.intro rfl (And.intro hin5 (br (fun q1 => ?_) (fun q1 => ?_))))
              · have q2 : x = 0 := hx.symm.trans q1
                refine Exists.intro _ (And.intro rfl (And.intro hin5 ?_))
                refine ih (by omega) (kv + Int32.ofInt 1) nv _ (xs.set (nv - Int32.ofInt 1).toNatClampNeg (Int32.ofInt 1)) ((if x = 0 then 1 else 0) :: r) ek hnv ?_ (by simp at hlen ⊢; omega) he
                rw [en, nI_clamp (by omega), if_pos q2]; exact hst.set _
              · have q2 : ¬ x = 0 := fun z => q1 (hx.trans z)
                refine Exists.intro _ (And.intro rfl (And.intro hin5 ?_))
                refine ih (by omega) (kv + Int32.ofInt 1) nv _ (xs.set (nv - Int32.ofInt 1).toNatClampNeg (Int32.ofInt 0)) ((if x = 0 then 1 else 0) :: r) ek hnv ?_ (by simp at hlen ⊢; omega) he
                rw [en, nI_clamp (by omega), if_neg q2]; exact hst.set _
          · rw [if_neg h3] at hs
            have b3 : ¬ (M.2.1 7).getD (Int32.ofInt 200 * M.1 10 + kv).toNatClampNeg 0 = Int32.ofInt 13 := by rw [hcv]; exact h3
            by_cases h4 : c = 19
            · rw [if_pos h4] at hs
              have b4 : (M.2.1 7).getD (Int32.ofInt 200 * M.1 10 + kv).toNatClampNeg 0 = Int32.ofInt 19 := by rw [hcv]; exact h4
              refine brF b3 (brT b4 ?_)
              cases st with
              | nil => cases hs
              | cons x r =>
                have hs := Option.some.inj hs
                subst hs
                have en : nv - Int32.ofInt 1 = nI r.length := by rw [hnv, nI_m1 (by simp)]; rfl
                have hr : r.length < 200 := by simp at hsl; omega
                have hin5 : vp_in (nv - Int32.ofInt 1) xs.length := by rw [en, hst.1]; exact vp_nI hr (by decide)
                have hx : xs.getD (nv - Int32.ofInt 1).toNatClampNeg 0 = x := by rw [en, nI_clamp (by omega)]; exact hst.top
                refine Exists.intro _ (And.intro rfl (And.intro hin5 (Exists.intro _ (And.intro rfl (And.intro hin5 ?_)))))
                refine ih (by omega) (kv + Int32.ofInt 1) nv _ (xs.set (nv - Int32.ofInt 1).toNatClampNeg (-(xs.getD (nv - Int32.ofInt 1).toNatClampNeg 0))) ((-x) :: r) ek hnv ?_ (by simp at hlen ⊢; omega) he
                rw [hx, en, nI_clamp (by omega)]; exact hst.set _
            · rw [if_neg h4] at hs
              have b4 : ¬ (M.2.1 7).getD (Int32.ofInt 200 * M.1 10 + kv).toNatClampNeg 0 = Int32.ofInt 19 := by rw [hcv]; exact h4
              refine brF b3 (brF b4 ?_)
              match st, hs with
              | y :: x :: r, hs =>
                have hs := Option.some.inj hs
                subst hs
                have en0 : nv + Int32.ofInt (-1) = nI (r.length + 1) := by rw [hnv, nI_dec (by simp)]; rfl
                have en : nv + Int32.ofInt (-1) - Int32.ofInt 1 = nI r.length := by rw [en0, nI_m1 (by omega)]; rfl
                have hr : r.length + 1 < 200 := by simp at hsl; omega
                have hin5 : vp_in (nv + Int32.ofInt (-1) - Int32.ofInt 1) xs.length := by rw [en, hst.1]; exact vp_nI (by omega) (by decide)
                have hin6 : vp_in (nv + Int32.ofInt (-1)) xs.length := by rw [en0, hst.1]; exact vp_nI hr (by decide)
                have hx : xs.getD (nv + Int32.ofInt (-1) - Int32.ofInt 1).toNatClampNeg 0 = x := by rw [en, nI_clamp (by omega)]; exact hst.top2
                have hy : xs.getD (nv + Int32.ofInt (-1)).toNatClampNeg 0 = y := by rw [en0, nI_clamp (by omega)]; exact hst.top
                refine Exists.intro _ (And.intro rfl (And.intro hin5 (Exists.intro _ (And.intro rfl (And.intro hin6 (kH (m_two _ _ _) (by decide) (Exists.intro _ (And.intro rfl (And.intro hin5 ?_)))))))))
                refine ih (by omega) (kv + Int32.ofInt 1) (nv + Int32.ofInt (-1)) _ (xs.set (nv + Int32.ofInt (-1) - Int32.ofInt 1).toNatClampNeg (twoF ((M.2.1 7).getD (Int32.ofInt 200 * M.1 10 + kv).toNatClampNeg 0) (xs.getD (nv + Int32.ofInt (-1) - Int32.ofInt 1).toNatClampNeg 0) (xs.getD (nv + Int32.ofInt (-1)).toNatClampNeg 0))) (twoF c x y :: r) ek en0 ?_ (by simp at hlen ⊢; omega) he
                rw [hcv, hx, hy, en, nI_clamp (by omega)]
                exact hst.pop.set _
  have h0 := key a (by omega) (Nat.le_refl _) _ (Int32.ofInt 0) none (M.2.1 30) [] hv1 rfl ⟨h30, by decide, rfl⟩ (by simp) hev
  exact h0
end SAYS
end
section
-- 42.reads
section READS
variable {l : Launch} {X : List (List Int32)} {S : CS} {M : MS}
/-- what a query may leave behind: named, stack, meant, fitting, the best question -/
abbrev SZ : Type := List Int32 × List Int32 × List Int64 × List Int64 × Int32 × Int32 × Int32
def sc (M : MS) (z : SZ) : MS := (uf (uf (uf M.1 34 z.2.2.2.2.1) 35 z.2.2.2.2.2.1) 36 z.2.2.2.2.2.2, uf (uf M.2.1 31 z.1) 30 z.2.1, z.2.2.1, z.2.2.2.1)
def getZ (M : MS) : SZ := (M.2.1 31, M.2.1 30, M.2.2.1, M.2.2.2, M.1 34, M.1 35, M.1 36)
def ScOk (z : SZ) : Prop := z.1.length = 6 ∧ z.2.1.length = 200 ∧ z.2.2.1.length = 60 ∧ z.2.2.2.1.length = 12
theorem MLen.sc {z : SZ} (h : MLen M) (hz : ScOk z) : MLen (sc M z) := by
  obtain ⟨h1, h2, h3, h4, h5, h6, h7, h8, h9, h10, h11, h12, h13, h14, h15, h16, h17, h18⟩ := h
  obtain ⟨z1, z2, z3, z4⟩ := hz
  exact ⟨h1, h2, h3, h4, h5, h6, h7, h8, h9, h10, h11, h12, h13, h14, z2, z1, z3, z4⟩
theorem MLen.z (h : MLen M) : ScOk (getZ M) := by
  obtain ⟨h1, h2, h3, h4, h5, h6, h7, h8, h9, h10, h11, h12, h13, h14, h15, h16, h17, h18⟩ := h
  exact ⟨h16, h15, h17, h18⟩
/-- a part of a text, as codes -/
def segM (M : MS) (t p : Nat) : List Int32 := ((M.2.1 7).drop (200 * t + ((M.2.1 8).getD (4 * t + p) 0).toNatClampNeg)).take (((M.2.1 8).getD (4 * t + p + 1) 0).toNatClampNeg - ((M.2.1 8).getD (4 * t + p) 0).toNatClampNeg)
def valR (nm seg : List Int32) : Int32 := match evR nm seg [] with
  | some (v :: _) => v
  | _ => 0
/-- the part can be run -/
def TOk (M : MS) (t p : Nat) : Prop := ∃ a b : Nat, (M.2.1 8).getD (4 * t + p) 0 = nI a ∧ (M.2.1 8).getD (4 * t + p + 1) 0 = nI b ∧ a ≤ b ∧ b ≤ 200 ∧ ∀ nm, ∃ v, evR nm (segM M t p) [] = some [v]
theorem m_says2 (hM : MLen M) {t p : Nat} (ht : M.1 10 = nI t) (ht6 : t < 6) (hp3 : p < 3) (hO : TOk M t p) : Ctr l 1 X sgX8_says [.ref 27, .int (nI p)] (mk S M) (saysQ S M (valR (M.2.1 31) (segM M t p))) := by
  obtain ⟨a, b, ha, hb, hab, hb2, hv⟩ := hO
  obtain ⟨v, hv⟩ := hv (M.2.1 31)
  have e : valR (M.2.1 31) (segM M t p) = v := by unfold valR; rw [hv]
  rw [e]
  refine m_says hM ht ht6 hp3 ha hb hab hb2 ?_
  unfold segM at hv
  rw [ha, hb, nI_clamp (by omega), nI_clamp (by omega)] at hv
  exact hv
def nmF (w who : Int32) : List Int32 := [w >>> (0 &&& 31) &&& 1, w >>> (1 &&& 31) &&& 1, w >>> (2 &&& 31) &&& 1, w >>> (3 &&& 31) &&& 1, w >>> (4 &&& 31) &&& 1, who]
def saysF (M : MS) (p t : Nat) (w who : Int32) : Int32 := if p = 2 then withinF (valR (nmF w who) (segM M t p)) 0 99 else if valR (nmF w who) (segM M t p) = 0 then 0 else 1
/-- named, filled up to x -/
def nmP (nm : List Int32) (w : Int32) : Nat → List Int32
  | 0 => nm
  | x + 1 => (nmP nm w x).set x (w >>> (nI x &&& 31) &&& 1)
theorem nmP_len {nm : List Int32} {w : Int32} : ∀ x, (nmP nm w x).length = nm.length
  | 0 => rfl
  | x + 1 => by rw [nmP, List.length_set, nmP_len x]
theorem nmP_all {nm : List Int32} (h : nm.length = 6) (w who : Int32) : (nmP nm w 5).set 5 who = nmF w who := by
  match nm, h with
  | [a, b, c, d, e, f], _ => rfl
abbrev zR (S : CS) (M : MS) (v : Int32) : AH → Option Value → Prop := fun h w => (∃ z, ScOk z ∧ z.2.2 = (getZ M).2.2 ∧ h = mk S (sc M z)) ∧ w = some (.int v)
set_option maxRecDepth 100000 in
set_option maxHeartbeats 4000000 in
theorem m_saysOf (hM : MLen M) {t p : Nat} (ht6 : t < 6) (hp3 : p < 3) (hO : TOk M t p) (w who : Int32) : Ctr l 2 X sgX8_saysOf [.ref 27, .int (nI p), .int (nI t), .int w, .int who] (mk S M) (zR S M (saysF M p t w who)) := by
  have h31 : (M.2.1 31).length = 6 := hM.z.1
  refine Ctr.of okX8_saysOf rfl (Nat.le_of_ble_eq_true rfl) (run_sound okX8_saysOf (fun i => Nat.beq i 8) 300 ?_)
  have key : ∀ j, j ≤ 5 → WP l (rmD 2 0 0) X sgX8_saysOf kX8_saysOf (zR S M (saysF M p t w who)) 8 [some (.ref 27), some (.int (nI p)), some (.int (nI t)), some (.int w), some (.int who), some (.int (M.1 10)), some (.int (nI j))] [] (mk S (mR (mN M 10 (nI t)) 31 (nmP (M.2.1 31) w j))) 0 0 := by
    refine down ?_ (fun j hj ih => ?_)
    · refine run_sound okX8_saysOf (fun i => Nat.beq i 8) 300 (brT (Int32.le_refl _) (Exists.intro _ (And.intro rfl (And.intro ?_ ?_))))
      · show vp_in (nI 5) (nmP (M.2.1 31) w 5).length
        rw [nmP_len, h31]; exact vp_nI (by decide) (by decide)
      have hnm : (nmP (M.2.1 31) w 5).set (Int32.ofInt 5).toNatClampNeg who = nmF w who := nmP_all h31 w who
      have hM2 : MLen (mR (mN M 10 (nI t)) 31 (nmF w who)) := by
        obtain ⟨h1, h2, h3, h4, h5, h6, h7, h8, h9, h10, h11, h12, h13, h14, h15, h16, h17, h18⟩ := hM
        exact ⟨h1, h2, h3, h4, h5, h6, h7, h8, h9, h10, h11, h12, h13, h14, h15, rfl, h17, h18⟩
      have hs : Ctr l 1 X sgX8_says [.ref 27, .int (nI p)] (mk S (mR (mN M 10 (nI t)) 31 ((nmP (M.2.1 31) w 5).set (Int32.ofInt 5).toNatClampNeg who))) (saysQ S (mR (mN M 10 (nI t)) 31 (nmF w who)) (valR (nmF w who) (segM M t p))) := by
        rw [hnm]
        exact m_says2 hM2 rfl ht6 hp3 hO
      refine ⟨1, _, by decide, hs, ?_⟩
      rintro hp' v ⟨⟨st, hst, rfl⟩, rfl⟩
      have fin : ∃ z, ScOk z ∧ z.2.2 = (getZ M).2.2 ∧ mk S (mR (mN (mR (mR (mN M 10 (nI t)) 31 (nmF w who)) 30 st) 10 (M.1 10)) 30 st) = mk S (sc M z) := ⟨(nmF w who, st, (getZ M).2.2), ⟨rfl, hst, hM.z.2.2.1, hM.z.2.2.2⟩, rfl, rfl⟩
      refine And.intro trivial (br (fun q1 => kH (m_within _ _ _) (by decide) ⟨fin, some_int ?_⟩) (fun q1 => br (fun q2 => ⟨fin, some_int ?_⟩) (fun q2 => ⟨fin, some_int ?_⟩)))
      · have q3 : p = 2 := (nI_eq (a := p) (b := 2) (by omega) (by decide)).mp q1
        exact (if_pos q3).symm
      · have q3 : ¬ p = 2 := fun z => q1 (by rw [z]; rfl)
        exact ((if_neg q3).trans (if_pos q2)).symm
      · have q3 : ¬ p = 2 := fun z => q1 (by rw [z]; rfl)
        exact ((if_neg q3).trans (if_neg q2)).symm
    · refine run_sound okX8_saysOf (fun i => Nat.beq i 8) 300 (brF (ge_no (n := 5) rfl hj (by decide)) (Exists.intro _ (And.intro rfl (And.intro ?_ ?_))))
      · show vp_in (nI j) (nmP (M.2.1 31) w j).length
        rw [nmP_len, h31]; exact vp_nI (by omega) (by decide)
      · rw [← nI_1 j, nmP, show j = (nI j).toNatClampNeg from (nI_clamp (by omega)).symm, nI_clamp (by omega)] at ih
        have e : (nmP (M.2.1 31) w j).set j (w >>> (nI j &&& 31) &&& 1) = (nmP (M.2.1 31) w j).set (nI j).toNatClampNeg (w >>> (nI j &&& 31) &&& 1) := by rw [nI_clamp (by omega)]
        rw [e] at ih
        exact ih
  exact And.intro trivial (key 0 (Nat.zero_le _))
end READS
end
section
-- 43.reads2
section READS2
variable {l : Launch} {X : List (List Int32)} {S : CS} {M : MS}
abbrev zL (S : CS) (M : MS) (v : Int64) : AH → Option Value → Prop := fun h w => (∃ z, ScOk z ∧ z.2.2 = (getZ M).2.2 ∧ h = mk S (sc M z)) ∧ w = some (.long v)
/-- worlds in which a part of a text is so -/
def soF (M : MS) (p t : Nat) (who : Int32) : Nat → Int64
  | 0 => 0
  | w + 1 => soF M p t who w ||| (if saysF M p t (nI w) who = 1 then (1 : Int64) <<< ((nI w).toInt64 &&& 63) else 0)
set_option maxRecDepth 100000 in
set_option maxHeartbeats 4000000 in
theorem m_soIn (hM : MLen M) {t p : Nat} (ht6 : t < 6) (hp3 : p < 3) (hO : TOk M t p) (who : Int32) : Ctr l 3 X sgX8_soIn [.ref 27, .int (nI t), .int (nI p), .int who] (mk S M) (zL S M (soF M p t who 32)) := by
  refine Ctr.of okX8_soIn rfl (Nat.le_of_ble_eq_true rfl) (run_sound okX8_soIn (fun i => Nat.beq i 4) 300 ?_)
  have key : ∀ j, j ≤ 32 → ∀ z, ScOk z → z.2.2 = (getZ M).2.2 → WP l (rmD 3 0 0) X sgX8_soIn kX8_soIn (zL S M (soF M p t who 32)) 4 [some (.ref 27), some (.int (nI t)), some (.int (nI p)), some (.int who), some (.long (soF M p t who j)), none, some (.int (nI j))] [] (mk S (sc M z)) 0 0 := by
    refine down (fun z hz hzz => ?_) (fun j hj ih z hz hzz => ?_)
    · exact run_sound okX8_soIn (fun i => Nat.beq i 4) 300 (brT (Int32.le_refl _) ⟨rfl, ⟨z, hz, hzz, rfl⟩, rfl⟩)
    · refine run_sound okX8_soIn (fun i => Nat.beq i 4) 300 (brF (ge_no (n := 32) rfl hj (by decide)) ⟨2, _, by decide, m_saysOf (M := sc M z) (hM.sc hz) ht6 hp3 hO _ _, ?_⟩)
      rintro hp' v ⟨⟨z', hz', hzz', rfl⟩, rfl⟩
      refine br (fun q1 => ?_) (fun q1 => ?_)
      · have q2 : saysF M p t (nI j) who = 1 := q1
        have ih := ih z' hz' (hzz'.trans hzz)
        rw [show soF M p t who (j + 1) = soF M p t who j ||| ((1 : Int64) <<< ((nI j).toInt64 &&& 63)) by rw [soF, if_pos q2], ← nI_1 j] at ih
        exact ih
      · have q2 : ¬ saysF M p t (nI j) who = 1 := q1
        have ih := ih z' hz' (hzz'.trans hzz)
        rw [show soF M p t who (j + 1) = soF M p t who j ||| 0 by rw [soF, if_neg q2], ← nI_1 j] at ih
        exact ih
  exact key 0 (Nat.zero_le _) (getZ M) hM.z rfl
/-- what a text means, said by one, by the place in the row -/
def mtF (M : MS) (k : Nat) : Int64 := soF M (k % 2) (k / 10) (nI (k / 2 % 5)) 32
/-- the row meant holds it -/
def MtOk (M : MS) (nt : Nat) (z : SZ) : Prop := ScOk z ∧ z.2.2.2 = (getZ M).2.2.2 ∧ ∀ k, k < 10 * nt → z.2.2.1.getD k 0 = mtF M k
def AllOk (M : MS) (nt : Nat) : Prop := ∀ t, t < nt → ∀ p, p < 3 → TOk M t p
abbrev zV (S : CS) (M : MS) (nt : Nat) : AH → Option Value → Prop := fun h w => (∃ z, MtOk M nt z ∧ h = mk S (sc M z)) ∧ w = none
theorem nI_div {a b : Nat} (ha : a < 2 ^ 31) (hb0 : 0 < b) (hb : b < 2 ^ 31) : nI a / nI b = nI (a / b) := by
  apply Int32.toInt_inj.mp
  rw [Int32.toInt_div, nI_toInt ha, nI_toInt hb]
  exact (Int32.toInt_ofNat (n := a / b)).symm
theorem nI_rem {a b : Nat} (ha : a < 2 ^ 31) (hb0 : 0 < b) (hb : b < 2 ^ 31) : nI a - nI a / nI b * nI b = nI (a % b) := by
  rw [nI_div ha hb0 hb, nI_mul]
  have h := Nat.div_add_mod a b
  have h2 : a = a / b * b + a % b := by rw [Nat.mul_comm]; exact h.symm
  have : nI a = nI (a / b * b) + nI (a % b) := by rw [nI_add, ← h2]
  rw [this]
  rw [Int32.add_comm]
  exact Int32.add_sub_cancel _ _
set_option maxRecDepth 100000 in
set_option maxHeartbeats 4000000 in
theorem m_reads (hM : MLen M) {nt : Nat} (hn : M.1 9 = nI nt) (hn6 : nt ≤ 6) (hO : AllOk M nt) : Ctr l 4 X sgX8_reads [.ref 27] (mk S M) (zV S M nt) := by
  have hend : Int32.ofInt 10 * M.1 9 = nI (10 * nt) := by rw [hn]; exact nI_mul 10 nt
  refine Ctr.of okX8_reads rfl (Nat.le_of_ble_eq_true rfl) (run_sound okX8_reads (fun i => Nat.beq i 2) 300 ?_)
  have key : ∀ j, j ≤ 10 * nt → ∀ z, ScOk z → z.2.2.2 = (getZ M).2.2.2 → (∀ k, k < j → z.2.2.1.getD k 0 = mtF M k) → WP l (rmD 4 0 0) X sgX8_reads kX8_reads (zV S M nt) 2 [some (.ref 27), some (.int (nI j))] [] (mk S (sc M z)) 0 0 := by
    refine down (fun z hz hzz hk => ?_) (fun j hj ih z hz hzz hk => ?_)
    · exact run_sound okX8_reads (fun i => Nat.beq i 2) 300 (brT (ge_end hend) ⟨rfl, ⟨z, ⟨hz, hzz, hk⟩, rfl⟩, rfl⟩)
    · refine run_sound okX8_reads (fun i => Nat.beq i 2) 300 (brF (ge_no hend hj (by omega)) ?_)
      refine And.intro (by decide) (And.intro (by decide) (And.intro (by decide) (And.intro (by decide) ?_)))
      have e1 : nI j / Int32.ofInt 10 = nI (j / 10) := nI_div (b := 10) (by omega) (by decide) (by decide)
      have e2 : nI j - nI j / Int32.ofInt 2 * Int32.ofInt 2 = nI (j % 2) := nI_rem (b := 2) (by omega) (by decide) (by decide)
      have e3 : nI j / Int32.ofInt 2 = nI (j / 2) := nI_div (b := 2) (by omega) (by decide) (by decide)
      have e4 : nI j / Int32.ofInt 2 - nI j / Int32.ofInt 2 / Int32.ofInt 5 * Int32.ofInt 5 = nI (j / 2 % 5) := by rw [e3]; exact nI_rem (b := 5) (by omega) (by decide) (by decide)
      have hc : Ctr l 3 X sgX8_soIn [.ref 27, .int (nI j / Int32.ofInt 10), .int (nI j - nI j / Int32.ofInt 2 * Int32.ofInt 2), .int (nI j / Int32.ofInt 2 - nI j / Int32.ofInt 2 / Int32.ofInt 5 * Int32.ofInt 5)] (mk S (sc M z)) (zL S (sc M z) (mtF M j)) := by
        rw [e1, e2, e4]
        exact m_soIn (M := sc M z) (hM.sc hz) (by omega) (by omega) (hO _ (by omega) _ (by omega)) _
      refine ⟨3, _, by decide, hc, ?_⟩
      rintro hp' v ⟨⟨z', hz', hzz', rfl⟩, rfl⟩
      have hzz2 : z'.2.2 = z.2.2 := hzz'
      have hl : z'.2.2.1.length = 60 := hz'.2.2.1
      refine Exists.intro _ (And.intro rfl (And.intro ?_ ?_))
      · show vp_in (nI j) z'.2.2.1.length
        rw [hl]; exact vp_nI (by omega) (by decide)
      · have ih := ih (z'.1, z'.2.1, z'.2.2.1.set (nI j).toNatClampNeg (mtF M j), z'.2.2.2) ⟨hz'.1, hz'.2.1, by simpa using hl, hz'.2.2.2⟩ (by rw [show z'.2.2.2 = z.2.2.2 from congrArg (fun q => q.2) hzz2]; exact hzz) (fun k hk' => by
          show (z'.2.2.1.set (nI j).toNatClampNeg (mtF M j)).getD k 0 = mtF M k
          rw [nI_clamp (by omega)]
          by_cases e : k = j
          · subst e
            rw [List.getD_eq_getElem?_getD, List.getElem?_set_self (by omega)]
            rfl
          · rw [List.getD_eq_getElem?_getD, List.getElem?_set_ne (fun q => e q.symm), ← List.getD_eq_getElem?_getD, show z'.2.2.1 = z.2.2.1 from congrArg (fun q => q.1) hzz2]
            exact hk k (by omega))
        rw [← nI_1 j] at ih
        exact ih
  exact key 0 (Nat.zero_le _) (getZ M) hM.z rfl (fun k hk => by omega)
end READS2
end
section
-- 44.mfits
section MFITS
variable {l : Launch} {X : List (List Int32)} {S : CS} {M : MS}
set_option maxRecDepth 100000 in
theorem m_once {t : Nat} (h60 : M.2.2.1.length = 60) (ht : t < 6) : AnsL l 0 X sgX8_once [.ref 27, .int (nI t)] (mk S M) (M.2.2.1.getD (10 * t) 0) := by
  refine Ctr.of okX8_once rfl (Nat.le_of_ble_eq_true rfl) (run_sound okX8_once noCut 100 ?_)
  have e1 : Int32.ofInt 10 * nI t = nI (10 * t) := nI_mul 10 t
  refine Exists.intro _ (And.intro rfl (And.intro ?_ ⟨rfl, rfl, some_long ?_⟩))
  · show vp_in (Int32.ofInt 10 * nI t) M.2.2.1.length
    rw [e1, h60]; exact vp_nI (by omega) (by decide)
  · show M.2.2.1.getD (Int32.ofInt 10 * nI t).toNatClampNeg 0 = _
    rw [e1, nI_clamp (by omega)]
/-- worlds in which one of a kind can say a pair, as long numbers -/
def canL (k much n : Int32) (p q : Int64) : Int64 :=
  let one := p ^^^ q
  if k = 1 ∨ k = 3 then one &&& (if k = 3 ∧ n - n / (much + 2) * (much + 2) = 0 then q else p)
  else if k = 2 ∨ k = 5 then (one &&& q) ||| (if k = 5 ∧ ¬ n < much then 4294967295 &&& (p ^^^ -1) &&& (q ^^^ -1) else 0)
  else if k = 4 then 4294967295 &&& (one ^^^ -1) else one
set_option maxRecDepth 100000 in
set_option maxHeartbeats 4000000 in
theorem m_canSay (h60 : M.2.2.1.length = 60) (k much n : Int32) {who t tu : Nat} (hw : who < 5) (ht : t < 6) (htu : tu < 2) (hm : ¬ much + 2 = 0) :
    AnsL l 0 X sgX8_canSay [.ref 27, .int k, .int much, .int (nI who), .int (nI t), .int (nI tu), .int n] (mk S M) (canL k much n (M.2.2.1.getD (10 * t + 2 * who + tu) 0) (M.2.2.1.getD (10 * t + 2 * who + 1 - tu) 0)) := by
  have e1 : Int32.ofInt 10 * nI t + Int32.ofInt 2 * nI who + nI tu = nI (10 * t + 2 * who + tu) := by
    rw [show Int32.ofInt 10 * nI t = nI (10 * t) from nI_mul 10 t, show Int32.ofInt 2 * nI who = nI (2 * who) from nI_mul 2 who, nI_add, nI_add]
  have e2 : Int32.ofInt 10 * nI t + Int32.ofInt 2 * nI who + Int32.ofInt 1 - nI tu = nI (10 * t + 2 * who + 1 - tu) := by
    rw [show Int32.ofInt 10 * nI t = nI (10 * t) from nI_mul 10 t, show Int32.ofInt 2 * nI who = nI (2 * who) from nI_mul 2 who, nI_add, show nI (10 * t + 2 * who) + Int32.ofInt 1 = nI (10 * t + 2 * who + 1) from nI_1 _]
    rcases (show tu = 0 ∨ tu = 1 by omega) with rfl | rfl
    · simp [nI]
    · exact nI_pred _
  have hi1 : vp_in (Int32.ofInt 10 * nI t + Int32.ofInt 2 * nI who + nI tu) M.2.2.1.length := by rw [e1, h60]; exact vp_nI (by omega) (by decide)
  have hi2 : vp_in (Int32.ofInt 10 * nI t + Int32.ofInt 2 * nI who + Int32.ofInt 1 - nI tu) M.2.2.1.length := by rw [e2, h60]; exact vp_nI (by omega) (by decide)
  have v1 : M.2.2.1.getD (Int32.ofInt 10 * nI t + Int32.ofInt 2 * nI who + nI tu).toNatClampNeg 0 = M.2.2.1.getD (10 * t + 2 * who + tu) 0 := by rw [e1, nI_clamp (by omega)]
  have v2 : M.2.2.1.getD (Int32.ofInt 10 * nI t + Int32.ofInt 2 * nI who + Int32.ofInt 1 - nI tu).toNatClampNeg 0 = M.2.2.1.getD (10 * t + 2 * who + 1 - tu) 0 := by rw [e2, nI_clamp (by omega)]
  rw [← v1, ← v2]
  generalize hp : M.2.2.1.getD (Int32.ofInt 10 * nI t + Int32.ofInt 2 * nI who + nI tu).toNatClampNeg 0 = p
  generalize hq : M.2.2.1.getD (Int32.ofInt 10 * nI t + Int32.ofInt 2 * nI who + Int32.ofInt 1 - nI tu).toNatClampNeg 0 = q
  refine Ctr.of okX8_canSay rfl (Nat.le_of_ble_eq_true rfl) (run_sound okX8_canSay (fun i => Nat.beq i 45) 300 ?_)
  refine Exists.intro _ (And.intro rfl (And.intro hi1 (Exists.intro _ (And.intro rfl (And.intro hi2 ?_)))))
  have tail : ∀ pl : Int32, (pl = bI (k = 3 ∧ n - n / (much + 2) * (much + 2) = 0)) → WP l (rmD 0 0 0) X sgX8_canSay kX8_canSay (fun h w => h = mk S M ∧ w = some (.long (canL k much n p q))) 45 [some (.ref 27), some (.int k), some (.int much), some (.int (nI who)), some (.int (nI t)), some (.int (nI tu)), some (.int n), some (.long p), none, some (.long q), none, some (.long (p ^^^ q)), none, some (.int pl)] [] (mk S M) 0 0 := by
    intro pl hpl
    refine run_sound okX8_canSay (fun i => Nat.beq i 45) 300 ?_
    have c13 : ∀ (hk : k = 1 ∨ k = 3), canL k much n p q = (p ^^^ q) &&& (if k = 3 ∧ n - n / (much + 2) * (much + 2) = 0 then q else p) := fun hk => if_pos hk
    have part : (k = 1 ∨ k = 3) → (pl = 0 → (p ^^^ q) &&& p = canL k much n p q) ∧ (¬ pl = 0 → (p ^^^ q) &&& q = canL k much n p q) := by
      intro hk
      rw [c13 hk, hpl]
      exact ⟨fun z => by rw [if_neg (bI_0.mp z)], fun z => by rw [if_pos (bI_n0.mp z)]⟩
    refine br (fun h1 => br (fun h2 => ⟨rfl, rfl, some_long ((part (Or.inl h1)).1 h2)⟩) (fun h2 => ⟨rfl, rfl, some_long ((part (Or.inl h1)).2 h2)⟩)) (fun h1 => ?_)
    refine br (fun h3 => br (fun h2 => ⟨rfl, rfl, some_long ((part (Or.inr h3)).1 h2)⟩) (fun h2 => ⟨rfl, rfl, some_long ((part (Or.inr h3)).2 h2)⟩)) (fun h3 => ?_)
    have n13 : ¬ (k = 1 ∨ k = 3) := fun z => z.elim h1 h3
    have c25 : ∀ (hk : k = 2 ∨ k = 5), canL k much n p q = ((p ^^^ q) &&& q) ||| (if k = 5 ∧ ¬ n < much then 4294967295 &&& (p ^^^ -1) &&& (q ^^^ -1) else 0) := fun hk => (if_neg n13).trans (if_pos hk)
    refine br (fun h2 => ?_) (fun h2 => ?_)
    · have nk5 : ¬ k = 5 := fun z => by rw [z] at h2; revert h2; decide
      refine brF nk5 ⟨rfl, rfl, some_long ?_⟩
      rw [c25 (Or.inl h2), if_neg (fun z => nk5 z.1)]
      rfl
    · refine br (fun h5 => ?_) (fun h5 => ?_)
      · refine brT h5 (br (fun h6 => ⟨rfl, rfl, some_long ?_⟩) (fun h6 => ⟨rfl, rfl, some_long ?_⟩))
        · rw [c25 (Or.inr h5), if_neg (fun z => z.2 h6)]
          rfl
        · rw [c25 (Or.inr h5), if_pos ⟨h5, h6⟩]
          rfl
      · have n25 : ¬ (k = 2 ∨ k = 5) := fun z => z.elim h2 h5
        refine br (fun h4 => ⟨rfl, rfl, some_long ?_⟩) (fun h4 => ⟨rfl, rfl, some_long ?_⟩)
        · exact ((if_neg n13).trans ((if_neg n25).trans (if_pos h4))).symm
        · exact ((if_neg n13).trans ((if_neg n25).trans (if_neg h4))).symm
  rw [hp, hq]
  refine br (fun h3 => And.intro hm (br (fun h4 => ?_) (fun h4 => ?_))) (fun h3 => ?_)
  · exact tail 1 (bI_t ⟨h3, h4⟩).symm
  · exact tail 0 (bI_f (fun z => h4 z.2)).symm
  · exact tail 0 (bI_f (fun z => h3 z.1)).symm
end MFITS
end
section
-- 45.next
/-! THE REFERENCE's words and tokens -/
section NEXT
variable {l : Launch} {X : List (List Int32)} {S : CS} {M : MS}
def lkR (ws tp : List Int32) (k f t : Nat) : Nat → Bool
  | 0 => true
  | m + 1 => if ws.getD (8 * k + (8 - (m + 1))) 0 = (if f + (8 - (m + 1)) < t then tp.getD (f + (8 - (m + 1))) 0 else 32) then lkR ws tp k f t m else false
def lkF (ws tp : List Int32) (f t k : Nat) : Bool := if 8 < t - f then false else lkR ws tp k f t 8
def wfF (ws tp : List Int32) (f t : Nat) : Nat → Nat → Nat
  | 0, _ => 12
  | m + 1, k => if lkF ws tp f t k = true then k else wfF ws tp f t m (k + 1)
theorem wfF_le (ws tp : List Int32) (f t : Nat) : ∀ m k, m + k = 12 → wfF ws tp f t m k ≤ 12
  | 0, _, _ => Nat.le_refl _
  | m + 1, k, h => by
    unfold wfF
    split
    · omega
    · exact wfF_le ws tp f t m (k + 1) (by omega)
def bB (b : Bool) : Int32 := if b = true then 1 else 0
theorem nI_sub {a b : Nat} (h : b ≤ a) : nI a - nI b = nI (a - b) := by
  have : nI a = nI (a - b) + nI b := by rw [nI_add, Nat.sub_add_cancel h]
  rw [this]
  exact Int32.add_sub_cancel _ _
set_option maxRecDepth 100000 in
set_option maxHeartbeats 4000000 in
theorem m_wordFrom (hM : MLen M) {f t : Nat} (hft : f ≤ t) (ht : t ≤ 160) : Ans l 0 X sgX8_wordFrom [.ref 27, .int (nI f), .int (nI t)] (mk S M) (nI (wfF (M.2.1 25) (M.2.1 5) f t 12 0)) := by
  obtain ⟨-, -, -, h5, -, -, -, -, -, -, -, -, h25, -⟩ := hM
  obtain ⟨W, hW⟩ : ∃ W, wfF (M.2.1 25) (M.2.1 5) f t 12 0 = W := ⟨_, rfl⟩
  rw [hW]
  refine Ctr.of okX8_wordFrom rfl (Nat.le_of_ble_eq_true rfl) (run_sound okX8_wordFrom (fun i => Nat.beq i 2 || Nat.beq i 16 || Nat.beq i 49) 300 ?_)
  have key : ∀ k, k ≤ 12 → ∀ x4 x5, W = wfF (M.2.1 25) (M.2.1 5) f t (12 - k) k → WP l (rmD 0 0 0) X sgX8_wordFrom kX8_wordFrom (mkR S M (nI W)) 2 [some (.ref 27), some (.int (nI f)), some (.int (nI t)), some (.int (nI k)), x4, x5] [] (mk S M) 0 0 := by
    refine down (fun x4 x5 h => ?_) (fun k hk ih x4 x5 h => ?_)
    · refine run_sound okX8_wordFrom (fun i => Nat.beq i 2 || Nat.beq i 16 || Nat.beq i 49) 300 (brT (Int32.le_refl _) ⟨rfl, some_int ?_⟩)
      rw [h]; rfl
    · rw [show 12 - k = (12 - (k + 1)) + 1 by omega, wfF] at h
      have fin : ∀ (c : Nat) (b : Bool), lkF (M.2.1 25) (M.2.1 5) f t k = b → WP l (rmD 0 0 0) X sgX8_wordFrom kX8_wordFrom (mkR S M (nI W)) 49 [some (.ref 27), some (.int (nI f)), some (.int (nI t)), some (.int (nI k)), some (.int (bB b)), some (.int (nI c))] [] (mk S M) 0 0 := by
        intro c b hb
        cases b with
        | false =>
          refine run_sound okX8_wordFrom (fun i => Nat.beq i 2 || Nat.beq i 16 || Nat.beq i 49) 300 (brT rfl ?_)
          have ih := ih (some (.int (bB false))) (some (.int (nI c))) (h.trans (if_neg (by rw [hb]; decide)))
          rw [← nI_1 k] at ih
          exact ih
        | true =>
          refine run_sound okX8_wordFrom (fun i => Nat.beq i 2 || Nat.beq i 16 || Nat.beq i 49) 300 (brF (by decide) ⟨rfl, some_int ?_⟩)
          rw [h.trans (if_pos hb)]
      have inner : ∀ c, c ≤ 8 → ∀ b : Bool, lkF (M.2.1 25) (M.2.1 5) f t k = (b && lkR (M.2.1 25) (M.2.1 5) k f t (8 - c)) → WP l (rmD 0 0 0) X sgX8_wordFrom kX8_wordFrom (mkR S M (nI W)) 16 [some (.ref 27), some (.int (nI f)), some (.int (nI t)), some (.int (nI k)), some (.int (bB b)), some (.int (nI c))] [] (mk S M) 0 0 := by
        refine down (fun b hb => ?_) (fun c hc ihc b hb => ?_)
        · exact run_sound okX8_wordFrom (fun i => Nat.beq i 2 || Nat.beq i 16 || Nat.beq i 49) 300 (brT (Int32.le_refl _) (fin 8 b (hb.trans (Bool.and_true b))))
        · cases b with
          | false => exact run_sound okX8_wordFrom (fun i => Nat.beq i 2 || Nat.beq i 16 || Nat.beq i 49) 300 (brF (ge_no (n := 8) rfl hc (by decide)) (brT rfl (fin c false hb)))
          | true =>
            rw [show 8 - c = (8 - (c + 1)) + 1 by omega, lkR, show 8 - (8 - (c + 1) + 1) = c by omega] at hb
            have i1 : (Int32.ofInt 8 * nI k + nI c).toNatClampNeg = 8 * k + c := by
              rw [show Int32.ofInt 8 * nI k = nI (8 * k) from nI_mul 8 k, nI_add, nI_clamp (by omega)]
            have v1 : vp_in (Int32.ofInt 8 * nI k + nI c) (M.2.1 25).length := by
              rw [show Int32.ofInt 8 * nI k = nI (8 * k) from nI_mul 8 k, nI_add, h25]; exact vp_nI (by omega) (by decide)
            have i2 : (nI f + nI c).toNatClampNeg = f + c := by rw [nI_add, nI_clamp (by omega)]
            have go : ∀ w : Int32, (w = if f + c < t then (M.2.1 5).getD (f + c) 0 else 32) → ((M.2.1 25).getD (Int32.ofInt 8 * nI k + nI c).toNatClampNeg 0 = w → WP l (rmD 0 0 0) X sgX8_wordFrom kX8_wordFrom (mkR S M (nI W)) 16 [some (.ref 27), some (.int (nI f)), some (.int (nI t)), some (.int (nI k)), some (.int (Int32.ofInt 1)), some (.int (nI c + 1))] [] (mk S M) 0 0) ∧ (¬ (M.2.1 25).getD (Int32.ofInt 8 * nI k + nI c).toNatClampNeg 0 = w → WP l (rmD 0 0 0) X sgX8_wordFrom kX8_wordFrom (mkR S M (nI W)) 16 [some (.ref 27), some (.int (nI f)), some (.int (nI t)), some (.int (nI k)), some (.int (Int32.ofInt 0)), some (.int (nI c + 1))] [] (mk S M) 0 0) := by
              intro w hw
              subst hw
              rw [i1]
              refine ⟨fun q => ?_, fun q => ?_⟩
              · rw [if_pos q] at hb
                have ihc := ihc true hb
                rw [← nI_1 c] at ihc
                exact ihc
              · rw [if_neg q] at hb
                have ihc := ihc false hb
                rw [← nI_1 c] at ihc
                exact ihc
            refine run_sound okX8_wordFrom (fun i => Nat.beq i 2 || Nat.beq i 16 || Nat.beq i 49) 300 (brF (ge_no (n := 8) rfl hc (by decide)) (brF (by decide) (Exists.intro _ (And.intro rfl (And.intro v1 (br (fun q => ?_) (fun q => ?_)))))))
            · have q2 : nI t ≤ nI f + nI c := q
              rw [nI_add] at q2
              have q3 : ¬ f + c < t := fun z => nI_ge z (by omega) q2
              exact go (Int32.ofInt 32) (if_neg q3).symm
            · have q2 : ¬ nI t ≤ nI f + nI c := q
              rw [nI_add] at q2
              have q3 : f + c < t := Nat.lt_of_not_le (fun z => q2 (nI_le z (by omega)))
              refine Exists.intro _ (And.intro rfl (And.intro (show vp_in (nI f + nI c) (M.2.1 5).length by rw [nI_add, h5]; exact vp_nI (by omega) (by decide)) ?_))
              exact go ((M.2.1 5).getD (nI f + nI c).toNatClampNeg 0) (by rw [i2, if_pos q3])
      refine run_sound okX8_wordFrom (fun i => Nat.beq i 2 || Nat.beq i 16 || Nat.beq i 49) 300 (brF (ge_no (n := 12) rfl hk (by decide)) (br (fun q => ?_) (fun q => ?_)))
      · have q2 : nI 8 < nI t - nI f := q
        rw [nI_sub hft] at q2
        have q3 : 8 < t - f := Nat.lt_of_not_le (fun z => absurd q2 (Int32.not_lt.mpr (nI_le z (by omega))))
        exact inner 0 (Nat.zero_le _) false (by rw [lkF, if_pos q3]; rfl)
      · have q2 : ¬ nI 8 < nI t - nI f := q
        rw [nI_sub hft] at q2
        have q3 : ¬ 8 < t - f := fun z => nI_ge z (by omega) (Int32.not_lt.mp q2)
        exact inner 0 (Nat.zero_le _) true (by rw [lkF, if_neg q3]; rfl)
  exact key 0 (Nat.zero_le _) none none hW.symm
end NEXT
end
section
-- 46.next2
/-! THE REFERENCE's next token -/
section NEXT2
variable {l : Launch} {X : List (List Int32)} {S : CS} {M : MS}
abbrev isLet (c : Int32) : Prop := Int32.ofInt 97 ≤ c ∧ c ≤ Int32.ofInt 122
abbrev isDig (c : Int32) : Prop := Int32.ofInt 48 ≤ c ∧ c ≤ Int32.ofInt 57
def skR (tp : List Int32) : Nat → Nat → Nat
  | 0, a => a
  | m + 1, a => if tp.getD a 0 = Int32.ofInt 32 then skR tp m (a + 1) else if tp.getD a 0 = Int32.ofInt 10 then skR tp m (a + 1) else a
def runW (tp : List Int32) : Nat → Nat → Nat
  | 0, a => a
  | m + 1, a => if isLet (tp.getD a 0) then runW tp m (a + 1) else a
def dgR (tp : List Int32) : Nat → Nat → Nat → Int32 → Nat × Nat × Int32
  | 0, a, n, v => (a, n, v)
  | m + 1, a, n, v => if isDig (tp.getD a 0) then dgR tp m (a + 1) (n + 1) (if Int32.ofInt 4 ≤ nI n then Int32.ofInt 0 else Int32.ofInt 10 * v + tp.getD a 0 - Int32.ofInt 48) else (a, n, v)
def sgR (c : Int32) : Bool :=
  if c = Int32.ofInt 40 then true else if c = Int32.ofInt 41 then true else if c = Int32.ofInt 59 then true else if c = Int32.ofInt 43 then true else if c = Int32.ofInt 45 then true else if c = Int32.ofInt 42 then true else if c = Int32.ofInt 60 then true else if c = Int32.ofInt 61 then true else false
def tkV (x : Int32) : Int32 := if Int32.ofInt 3 ≤ x then (if Int32.ofInt 9 ≤ x then (if x = Int32.ofInt 12 then Int32.ofInt (-1) else Int32.ofInt 4 + x - Int32.ofInt 9) else Int32.ofInt 2) else Int32.ofInt 3
def vaV (x : Int32) : Int32 := if Int32.ofInt 3 ≤ x then x - Int32.ofInt 3 else x
/-- begun, at, token, value: no blank at b -/
def nextT (ws tp : List Int32) (t b : Nat) : Nat × Nat × Int32 × Int32 :=
  if b = t then (b, b, Int32.ofInt 0, Int32.ofInt 0)
  else if isLet (tp.getD b 0) then (b, runW tp (t - b) b, tkV (nI (wfF ws tp b (runW tp (t - b) b) 12 0)), vaV (nI (wfF ws tp b (runW tp (t - b) b) 12 0)))
  else if isDig (tp.getD b 0) then (b, (dgR tp (t - b) b 0 (Int32.ofInt 0)).1, (if nI (dgR tp (t - b) b 0 (Int32.ofInt 0)).2.1 ≤ Int32.ofInt 4 then Int32.ofInt 1 else Int32.ofInt (-1)), (dgR tp (t - b) b 0 (Int32.ofInt 0)).2.2)
  else (b, b + 1, if sgR (tp.getD b 0) = true then tp.getD b 0 else Int32.ofInt (-1), Int32.ofInt 0)
def nxtF (ws tp : List Int32) (t a : Nat) : Nat × Nat × Int32 × Int32 := nextT ws tp t (skR tp (t - a) a)
abbrev nxM (M : MS) (a b : Nat) (tk v : Int32) : MS := mN (mN (mN (mN M 21 (nI a)) 22 (nI b)) 23 tk) 24 v
abbrev nxQ (S : CS) (M : MS) (r : Nat × Nat × Int32 × Int32) : AH → Option Value → Prop := fun h w => h = mk S (nxM M r.2.1 r.1 r.2.2.1 r.2.2.2) ∧ w = none
theorem MLen.nx (h : MLen M) {a b : Nat} {tk v : Int32} : MLen (nxM M a b tk v) := h
theorem runW_ge (tp : List Int32) : ∀ m a, a ≤ runW tp m a
  | 0, _ => Nat.le_refl _
  | m + 1, a => by
    unfold runW
    split
    · exact Nat.le_trans (Nat.le_succ a) (runW_ge tp m (a + 1))
    · exact Nat.le_refl _
theorem runW_le (tp : List Int32) : ∀ m a, runW tp m a ≤ a + m
  | 0, _ => Nat.le_refl _
  | m + 1, a => by
    unfold runW
    split
    · have := runW_le tp m (a + 1); omega
    · omega
theorem nxM_1 {a b : Nat} {tk v : Int32} : nxM M (a + 1) b tk v = mN (mN (mN (mN M 21 (nI a + 1)) 22 (nI b)) 23 tk) 24 v := by rw [nI_1]
def cN8 (i : Nat) : Bool := Nat.beq i 0 || Nat.beq i 26 || Nat.beq i 53 || Nat.beq i 74 || Nat.beq i 121 || Nat.beq i 162 || Nat.beq i 198
set_option maxRecDepth 100000 in
set_option maxHeartbeats 4000000 in
theorem nx_letters (hM : MLen M) {t : Nat} (ht : M.1 6 = nI t) (ht2 : t ≤ 160) (r : Nat × Nat × Int32 × Int32) (b : Nat) (c : Int32)
    (hr : r = (b, runW (M.2.1 5) (t - b) b, tkV (nI (wfF (M.2.1 25) (M.2.1 5) b (runW (M.2.1 5) (t - b) b) 12 0)), vaV (nI (wfF (M.2.1 25) (M.2.1 5) b (runW (M.2.1 5) (t - b) b) 12 0)))) :
    ∀ a, a ≤ t → b ≤ a → runW (M.2.1 5) (t - b) b = runW (M.2.1 5) (t - a) a → WP l (rmD 1 0 0) X sgX8_next kX8_next (nxQ S M r) 53 [some (.ref 27), some (.int c), none] [] (mk S (nxM M a b (Int32.ofInt 0) (Int32.ofInt 0))) 0 0 := by
  have h5 : (M.2.1 5).length = 160 := hM.2.2.2.1
  have fin : ∀ a, a ≤ t → b ≤ a → runW (M.2.1 5) (t - b) b = a → ∀ x, x = nI (wfF (M.2.1 25) (M.2.1 5) b a 12 0) → r = (b, a, tkV x, vaV x) := by
    intro a ha hba he x hx
    rw [hx, ← he]; exact hr
  have put : ∀ a x tk va, r = (b, a, tkV x, vaV x) → tkV x = tk → vaV x = va → mk S (nxM M a b tk va) = mk S (nxM M r.2.1 r.1 r.2.2.1 r.2.2.2) := by
    intro a x tk va h1 h2 h3
    subst h2 h3
    rw [h1]
  have last : ∀ a, a ≤ t → b ≤ a → runW (M.2.1 5) (t - b) b = a → WP l (rmD 1 0 0) X sgX8_next kX8_next (nxQ S M r) 74 [some (.ref 27), some (.int c), none] [] (mk S (nxM M a b (Int32.ofInt 0) (Int32.ofInt 0))) 0 0 := by
    intro a ha hba he
    have hx := fin a ha hba he _ rfl
    have hw : Ans l 0 X sgX8_wordFrom [.ref 27, .int (nI b), .int (nI a)] (mk S (nxM M a b (Int32.ofInt 0) (Int32.ofInt 0))) (nI (wfF (M.2.1 25) (M.2.1 5) b a 12 0)) := m_wordFrom (M := nxM M a b (Int32.ofInt 0) (Int32.ofInt 0)) hM hba (by omega)
    generalize nI (wfF (M.2.1 25) (M.2.1 5) b a 12 0) = x at hx hw
    refine run_soundF okX8_next lkf_X8_next_ok cN8 300 (kH hw (by decide) ?_)
    refine br (fun q1 => br (fun q2 => And.intro (fun q3 => ?_) (fun q3 => ?_)) (fun q2 => ?_)) (fun q1 => ?_)
    · refine And.intro trivial (brT q1 (And.intro trivial ⟨rfl, put a x (Int32.ofInt (-1)) (x - Int32.ofInt 3) hx ?_ ?_, rfl⟩))
      · rw [tkV, if_pos q1, if_pos q2, if_pos q3]
      · rw [vaV, if_pos q1]
    · refine And.intro trivial (brT q1 (And.intro trivial ⟨rfl, put a x (Int32.ofInt 4 + x - Int32.ofInt 9) (x - Int32.ofInt 3) hx ?_ ?_, rfl⟩))
      · rw [tkV, if_pos q1, if_pos q2, if_neg q3]
      · rw [vaV, if_pos q1]
    · refine And.intro trivial (brT q1 (And.intro trivial ⟨rfl, put a x (Int32.ofInt 2) (x - Int32.ofInt 3) hx ?_ ?_, rfl⟩))
      · rw [tkV, if_pos q1, if_neg q2]
      · rw [vaV, if_pos q1]
    · refine And.intro trivial (brF q1 (And.intro trivial ⟨rfl, put a x (Int32.ofInt 3) x hx ?_ ?_, rfl⟩))
      · rw [tkV, if_neg q1]
      · rw [vaV, if_neg q1]
  refine down (fun hb h => ?_) (fun a ha ih hb h => ?_)
  · rw [Nat.sub_self] at h
    exact run_soundF okX8_next lkf_X8_next_ok cN8 300 (brT (ge_end ht) (last t (Nat.le_refl _) hb h))
  · rw [show t - a = (t - (a + 1)) + 1 by omega, runW] at h
    have i1 : (nI a).toNatClampNeg = a := nI_clamp (by omega)
    refine run_soundF okX8_next lkf_X8_next_ok cN8 300 (brF (ge_no ht ha (by omega)) (Exists.intro _ (And.intro rfl (And.intro (show vp_in (nI a) (M.2.1 5).length by rw [h5]; exact vp_nI (by omega) (by decide)) (kH (m_in _ _ _) (by decide) (brB' (fun q => ?_) (fun q => ?_)))))))
    · have q2 : ¬ isLet ((M.2.1 5).getD a 0) := by rw [← i1]; exact q
      exact last a (by omega) hb (h.trans (if_neg q2))
    · have q2 : isLet ((M.2.1 5).getD a 0) := by rw [← i1]; exact q
      have ih := ih (by omega) (h.trans (if_pos q2))
      rw [nxM_1] at ih
      exact And.intro rfl (And.intro trivial ih)
set_option maxRecDepth 100000 in
set_option maxHeartbeats 4000000 in
theorem nx_digits (hM : MLen M) {t : Nat} (ht : M.1 6 = nI t) (ht2 : t ≤ 160) (r : Nat × Nat × Int32 × Int32) (b : Nat) (c : Int32) :
    ∀ a, a ≤ t → ∀ n v, r = (b, (dgR (M.2.1 5) (t - a) a n v).1, (if nI (dgR (M.2.1 5) (t - a) a n v).2.1 ≤ Int32.ofInt 4 then Int32.ofInt 1 else Int32.ofInt (-1)), (dgR (M.2.1 5) (t - a) a n v).2.2) → WP l (rmD 1 0 0) X sgX8_next kX8_next (nxQ S M r) 121 [some (.ref 27), some (.int c), some (.int (nI n))] [] (mk S (nxM M a b (Int32.ofInt 0) v)) 0 0 := by
  have h5 : (M.2.1 5).length = 160 := hM.2.2.2.1
  have last : ∀ a n v, r = (b, a, (if nI n ≤ Int32.ofInt 4 then Int32.ofInt 1 else Int32.ofInt (-1)), v) → WP l (rmD 1 0 0) X sgX8_next kX8_next (nxQ S M r) 162 [some (.ref 27), some (.int c), some (.int (nI n))] [] (mk S (nxM M a b (Int32.ofInt 0) v)) 0 0 := by
    intro a n v hr
    have put : ∀ tk, (if nI n ≤ Int32.ofInt 4 then Int32.ofInt 1 else Int32.ofInt (-1)) = tk → mk S (nxM M a b tk v) = mk S (nxM M r.2.1 r.1 r.2.2.1 r.2.2.2) := by
      intro tk h
      subst h
      rw [hr]
    exact run_soundF okX8_next lkf_X8_next_ok cN8 300 (br (fun q => And.intro trivial ⟨rfl, put (Int32.ofInt 1) (if_pos q), rfl⟩) (fun q => And.intro trivial ⟨rfl, put (Int32.ofInt (-1)) (if_neg q), rfl⟩))
  refine down (fun n v h => ?_) (fun a ha ih n v h => ?_)
  · rw [Nat.sub_self] at h
    exact run_soundF okX8_next lkf_X8_next_ok cN8 300 (brT (ge_end ht) (last t n v h))
  · rw [show t - a = (t - (a + 1)) + 1 by omega, dgR] at h
    have i1 : (nI a).toNatClampNeg = a := nI_clamp (by omega)
    refine run_soundF okX8_next lkf_X8_next_ok cN8 300 (brF (ge_no ht ha (by omega)) (Exists.intro _ (And.intro rfl (And.intro (show vp_in (nI a) (M.2.1 5).length by rw [h5]; exact vp_nI (by omega) (by decide)) (kH (m_in _ _ _) (by decide) (brB' (fun q => ?_) (fun q => ?_)))))))
    · have q2 : ¬ isDig ((M.2.1 5).getD a 0) := by rw [← i1]; exact q
      rw [if_neg q2] at h
      exact last a n v h
    · have q2 : isDig ((M.2.1 5).getD a 0) := by rw [← i1]; exact q
      rw [if_pos q2] at h
      refine br (fun q3 => ?_) (fun q3 => ?_)
      · rw [if_pos q3] at h
        have ih := ih _ _ h
        rw [nxM_1, ← nI_1 n] at ih
        exact And.intro trivial (And.intro rfl (And.intro trivial ih))
      · rw [if_neg q3] at h
        have ih := ih _ _ h
        rw [nxM_1, ← nI_1 n] at ih
        refine Exists.intro _ (And.intro rfl (And.intro (show vp_in (nI a) (M.2.1 5).length by rw [h5]; exact vp_nI (by omega) (by decide)) ?_))
        have e : (M.2.1 5).getD (nI a).toNatClampNeg 0 = (M.2.1 5).getD a 0 := by rw [i1]
        rw [← e] at ih
        exact And.intro trivial (And.intro rfl (And.intro trivial ih))
set_option maxRecDepth 100000 in
set_option maxHeartbeats 4000000 in
theorem nx_begun (hM : MLen M) {t : Nat} (ht : M.1 6 = nI t) (ht2 : t ≤ 160) (r : Nat × Nat × Int32 × Int32) {b : Nat} (hb : b ≤ t) (hr : r = nextT (M.2.1 25) (M.2.1 5) t b) :
    WP l (rmD 1 0 0) X sgX8_next kX8_next (nxQ S M r) 26 [some (.ref 27), none, none] [] (mk S (mN M 21 (nI b))) 0 0 := by
  have h5 : (M.2.1 5).length = 160 := hM.2.2.2.1
  have i1 : (nI b).toNatClampNeg = b := nI_clamp (by omega)
  unfold nextT at hr
  refine run_soundF okX8_next lkf_X8_next_ok cN8 300 (And.intro trivial (And.intro trivial (And.intro trivial (br (fun q => ?_) (fun q => ?_)))))
  · have q2 : nI b = M.1 6 := q
    rw [ht] at q2
    have q3 : b = t := (nI_eq (by omega) (by omega)).mp q2
    rw [if_pos q3] at hr
    subst hr
    exact ⟨rfl, rfl, rfl⟩
  · have q3 : ¬ b = t := fun z => q (show nI b = M.1 6 by rw [ht, z])
    rw [if_neg q3] at hr
    refine Exists.intro _ (And.intro rfl (And.intro (show vp_in (nI b) (M.2.1 5).length by rw [h5]; exact vp_nI (by omega) (by decide)) (kH (m_in _ _ _) (by decide) (brB' (fun q => ?_) (fun q => ?_)))))
    · have q2 : ¬ isLet ((M.2.1 5).getD b 0) := by rw [← i1]; exact q
      rw [if_neg q2] at hr
      refine kH (m_in _ _ _) (by decide) (brB' (fun q => ?_) (fun q => ?_))
      · have q4 : ¬ isDig ((M.2.1 5).getD b 0) := by rw [← i1]; exact q
        rw [if_neg q4] at hr
        have last : ∀ c, c = (M.2.1 5).getD b 0 → ∀ s, sgR c = s → WP l (rmD 1 0 0) X sgX8_next kX8_next (nxQ S M r) 198 [some (.ref 27), some (.int c), none] [.int (bB s)] (mk S (nxM M b b (Int32.ofInt 0) (Int32.ofInt 0))) 0 0 := by
          intro c hc s hs
          rw [← hc, hs] at hr
          subst hr
          cases s with
          | false =>
            refine run_soundF okX8_next lkf_X8_next_ok cN8 300 (brT rfl (And.intro trivial (And.intro rfl (And.intro trivial ⟨rfl, ?_, rfl⟩))))
            show mk S (mN (mN (mN (mN M 21 (nI b + 1)) 22 (nI b)) 23 (Int32.ofInt (-1))) 24 (Int32.ofInt 0)) = mk S (nxM M (b + 1) b (Int32.ofInt (-1)) (Int32.ofInt 0))
            rw [nxM_1]
          | true =>
            refine run_soundF okX8_next lkf_X8_next_ok cN8 300 (brF (by decide) (And.intro trivial (And.intro rfl (And.intro trivial ⟨rfl, ?_, rfl⟩))))
            show mk S (mN (mN (mN (mN M 21 (nI b + 1)) 22 (nI b)) 23 c) 24 (Int32.ofInt 0)) = mk S (nxM M (b + 1) b c (Int32.ofInt 0))
            rw [nxM_1]
        have last := last _ (show (M.2.1 5).getD (nI b).toNatClampNeg 0 = (M.2.1 5).getD b 0 by rw [i1])
        exact br (fun q1 => last true (if_pos q1)) (fun q1 => br (fun q2 => last true ((if_neg q1).trans (if_pos q2))) (fun q2 => br (fun q3 => last true ((if_neg q1).trans ((if_neg q2).trans (if_pos q3)))) (fun q3 => br (fun q4 => last true ((if_neg q1).trans ((if_neg q2).trans ((if_neg q3).trans (if_pos q4))))) (fun q4 => br (fun q5 => last true ((if_neg q1).trans ((if_neg q2).trans ((if_neg q3).trans ((if_neg q4).trans (if_pos q5)))))) (fun q5 => br (fun q6 => last true ((if_neg q1).trans ((if_neg q2).trans ((if_neg q3).trans ((if_neg q4).trans ((if_neg q5).trans (if_pos q6))))))) (fun q6 => br (fun q7 => last true ((if_neg q1).trans ((if_neg q2).trans ((if_neg q3).trans ((if_neg q4).trans ((if_neg q5).trans ((if_neg q6).trans (if_pos q7)))))))) (fun q7 => And.intro (fun q8 => last true ((if_neg q1).trans ((if_neg q2).trans ((if_neg q3).trans ((if_neg q4).trans ((if_neg q5).trans ((if_neg q6).trans ((if_neg q7).trans (if_pos q8))))))))) (fun q8 => last false ((if_neg q1).trans ((if_neg q2).trans ((if_neg q3).trans ((if_neg q4).trans ((if_neg q5).trans ((if_neg q6).trans ((if_neg q7).trans (if_neg q8))))))))))))))))
      · have q4 : isDig ((M.2.1 5).getD b 0) := by rw [← i1]; exact q
        rw [if_pos q4] at hr
        exact nx_digits hM ht ht2 r b _ b hb 0 (Int32.ofInt 0) hr
    · have q2 : isLet ((M.2.1 5).getD b 0) := by rw [← i1]; exact q
      rw [if_pos q2] at hr
      exact nx_letters hM ht ht2 r b _ hr b hb (Nat.le_refl _) rfl
set_option maxRecDepth 100000 in
set_option maxHeartbeats 4000000 in
theorem m_next (hM : MLen M) {t a : Nat} (ht : M.1 6 = nI t) (ht2 : t ≤ 160) (hat : M.1 21 = nI a) (ha : a ≤ t) : Ctr l 1 X sgX8_next [.ref 27] (mk S M) (nxQ S M (nxtF (M.2.1 25) (M.2.1 5) t a)) := by
  have h5 : (M.2.1 5).length = 160 := hM.2.2.2.1
  refine Ctr.of okX8_next rfl (Nat.le_of_ble_eq_true rfl) ?_
  have key : ∀ b, b ≤ t → skR (M.2.1 5) (t - a) a = skR (M.2.1 5) (t - b) b → WP l (rmD 1 0 0) X sgX8_next kX8_next (nxQ S M (nxtF (M.2.1 25) (M.2.1 5) t a)) 0 [some (.ref 27), none, none] [] (mk S (mN M 21 (nI b))) 0 0 := by
    refine down (fun h => ?_) (fun b hb ih h => ?_)
    · rw [Nat.sub_self] at h
      exact run_soundF okX8_next lkf_X8_next_ok cN8 300 (brT (ge_end ht) (nx_begun hM ht ht2 _ (Nat.le_refl _) (by rw [nxtF, h]; rfl)))
    · rw [show t - b = (t - (b + 1)) + 1 by omega, skR] at h
      have i1 : (nI b).toNatClampNeg = b := nI_clamp (by omega)
      have v1 : vp_in (nI b) (M.2.1 5).length := by rw [h5]; exact vp_nI (by omega) (by decide)
      refine run_soundF okX8_next lkf_X8_next_ok cN8 300 (brF (ge_no ht hb (by omega)) (Exists.intro _ (And.intro rfl (And.intro v1 (br (fun q => ?_) (fun q => Exists.intro _ (And.intro rfl (And.intro v1 (And.intro (fun q2 => ?_) (fun q2 => ?_))))))))))
      · have q3 : (M.2.1 5).getD b 0 = Int32.ofInt 32 := by rw [← i1]; exact q
        rw [if_pos q3] at h
        have ih := ih h
        rw [← nI_1 b] at ih
        exact And.intro rfl (And.intro trivial ih)
      · have q3 : ¬ (M.2.1 5).getD b 0 = Int32.ofInt 32 := by rw [← i1]; exact q
        have q4 : (M.2.1 5).getD b 0 = Int32.ofInt 10 := by rw [← i1]; exact q2
        rw [if_neg q3, if_pos q4] at h
        have ih := ih h
        rw [← nI_1 b] at ih
        exact And.intro rfl (And.intro trivial ih)
      · have q3 : ¬ (M.2.1 5).getD b 0 = Int32.ofInt 32 := by rw [← i1]; exact q
        have q4 : ¬ (M.2.1 5).getD b 0 = Int32.ofInt 10 := by rw [← i1]; exact q2
        rw [if_neg q3, if_neg q4] at h
        exact nx_begun hM ht ht2 _ (by omega) (by rw [nxtF, h])
  have k0 := key a ha rfl
  rw [← hat] at k0
  exact k0
end NEXT2
end
section
-- 47.parse
/-! THE REFERENCE's held signs and codes -/
section PARSE
variable {l : Launch} {X : List (List Int32)} {S : CS} {M : MS} {hp : AH}
def rkF (v : Int32) : Int32 :=
  if v = Int32.ofInt 0 then Int32.ofInt 0 else if v = Int32.ofInt 11 then Int32.ofInt 1 else if v = Int32.ofInt 12 then Int32.ofInt 2 else if v = Int32.ofInt 13 then Int32.ofInt 3
  else if Int32.ofInt 15 < v then (if Int32.ofInt 17 < v then (if v = Int32.ofInt 18 then Int32.ofInt 6 else Int32.ofInt 7) else Int32.ofInt 5) else Int32.ofInt 4
set_option maxRecDepth 100000 in
theorem m_rank (v : Int32) : Ans l 0 X sgX8_rank [.int v] hp (rkF v) := by
  refine Ctr.of okX8_rank rfl (Nat.le_of_ble_eq_true rfl) (run_sound okX8_rank noCut 100 ?_)
  refine And.intro (fun q1 => ⟨rfl, some_int ?_⟩) (fun q1 => And.intro (fun q2 => ⟨rfl, some_int ?_⟩) (fun q2 => And.intro (fun q3 => ⟨rfl, some_int ?_⟩) (fun q3 => And.intro (fun q4 => ⟨rfl, some_int ?_⟩) (fun q4 => br (fun q5 => br (fun q6 => And.intro (fun q7 => ⟨rfl, some_int ?_⟩) (fun q7 => ⟨rfl, some_int ?_⟩)) (fun q6 => ⟨rfl, some_int ?_⟩)) (fun q5 => ⟨rfl, some_int ?_⟩)))))
  · exact (if_pos q1).symm
  · exact ((if_neg q1).trans (if_pos q2)).symm
  · exact ((if_neg q1).trans ((if_neg q2).trans (if_pos q3))).symm
  · exact ((if_neg q1).trans ((if_neg q2).trans ((if_neg q3).trans (if_pos q4)))).symm
  · exact ((if_neg q1).trans ((if_neg q2).trans ((if_neg q3).trans ((if_neg q4).trans ((if_pos q5).trans ((if_pos q6).trans (if_pos q7))))))).symm
  · exact ((if_neg q1).trans ((if_neg q2).trans ((if_neg q3).trans ((if_neg q4).trans ((if_pos q5).trans ((if_pos q6).trans (if_neg q7))))))).symm
  · exact ((if_neg q1).trans ((if_neg q2).trans ((if_neg q3).trans ((if_neg q4).trans ((if_pos q5).trans (if_neg q6)))))).symm
  · exact ((if_neg q1).trans ((if_neg q2).trans ((if_neg q3).trans ((if_neg q4).trans (if_neg q5))))).symm
def sgF (v : Int32) : Int32 :=
  if v = Int32.ofInt 4 then Int32.ofInt 11 else if v = Int32.ofInt 5 then Int32.ofInt 12 else if v = Int32.ofInt 60 then Int32.ofInt 14 else if v = Int32.ofInt 61 then Int32.ofInt 15
  else if v = Int32.ofInt 43 then Int32.ofInt 16 else if v = Int32.ofInt 45 then Int32.ofInt 17 else if v = Int32.ofInt 42 then Int32.ofInt 18 else Int32.ofInt (-1)
set_option maxRecDepth 100000 in
theorem m_signOf : Ans l 0 X sgX8_signOf [.ref 27] (mk S M) (sgF (M.1 23)) := by
  refine Ctr.of okX8_signOf rfl (Nat.le_of_ble_eq_true rfl) (run_sound okX8_signOf noCut 100 ?_)
  refine And.intro (fun q1 => ⟨rfl, some_int ?_⟩) (fun q1 => And.intro (fun q2 => ⟨rfl, some_int ?_⟩) (fun q2 => And.intro (fun q3 => ⟨rfl, some_int ?_⟩) (fun q3 => And.intro (fun q4 => ⟨rfl, some_int ?_⟩) (fun q4 => And.intro (fun q5 => ⟨rfl, some_int ?_⟩) (fun q5 => And.intro (fun q6 => ⟨rfl, some_int ?_⟩) (fun q6 => And.intro (fun q7 => ⟨rfl, some_int ?_⟩) (fun q7 => ⟨rfl, some_int ?_⟩)))))))
  · exact (if_pos q1).symm
  · exact ((if_neg q1).trans (if_pos q2)).symm
  · exact ((if_neg q1).trans ((if_neg q2).trans (if_pos q3))).symm
  · exact ((if_neg q1).trans ((if_neg q2).trans ((if_neg q3).trans (if_pos q4)))).symm
  · exact ((if_neg q1).trans ((if_neg q2).trans ((if_neg q3).trans ((if_neg q4).trans (if_pos q5))))).symm
  · exact ((if_neg q1).trans ((if_neg q2).trans ((if_neg q3).trans ((if_neg q4).trans ((if_neg q5).trans (if_pos q6)))))).symm
  · exact ((if_neg q1).trans ((if_neg q2).trans ((if_neg q3).trans ((if_neg q4).trans ((if_neg q5).trans ((if_neg q6).trans (if_pos q7))))))).symm
  · exact ((if_neg q1).trans ((if_neg q2).trans ((if_neg q3).trans ((if_neg q4).trans ((if_neg q5).trans ((if_neg q6).trans (if_neg q7))))))).symm
set_option maxRecDepth 100000 in
theorem m_puts (hM : MLen M) {tx n : Nat} (htx : M.1 9 = nI tx) (htx6 : tx < 6) (hn : M.1 29 = nI n) (hn2 : n < 200) (v : Int32) : Ctr l 0 X sgX8_puts [.ref 27, .int v] (mk S M) (fun h w => h = mk S (mN (mR M 7 ((M.2.1 7).set (200 * tx + n) v)) 29 (nI (n + 1))) ∧ w = none) := by
  have h7 : (M.2.1 7).length = 1200 := hM.2.2.2.2.1
  have e : Int32.ofInt 200 * M.1 9 + M.1 29 = nI (200 * tx + n) := by
    rw [htx, hn, show Int32.ofInt 200 * nI tx = nI (200 * tx) from nI_mul 200 tx, nI_add]
  refine Ctr.of okX8_puts rfl (Nat.le_of_ble_eq_true rfl) (run_sound okX8_puts noCut 100 (Exists.intro _ (And.intro rfl (And.intro (show vp_in (Int32.ofInt 200 * M.1 9 + M.1 29) (M.2.1 7).length by rw [e, h7]; exact vp_nI (by omega) (by decide)) (And.intro rfl (And.intro trivial ⟨rfl, ?_, rfl⟩))))))
  show mk S (mN (mR M 7 ((M.2.1 7).set (Int32.ofInt 200 * M.1 9 + M.1 29).toNatClampNeg v)) 29 (M.1 29 + 1)) = _
  rw [e, nI_clamp (by omega), hn, nI_1]
set_option maxRecDepth 100000 in
theorem m_holds (hM : MLen M) {n : Nat} (hn : M.1 27 = nI n) (hn2 : n < 200) (v : Int32) : Ctr l 0 X sgX8_holds [.ref 27, .int v] (mk S M) (fun h w => h = mk S (mN (mR M 26 ((M.2.1 26).set n v)) 27 (nI (n + 1))) ∧ w = none) := by
  have h26 : (M.2.1 26).length = 200 := hM.2.2.2.2.2.2.2.2.2.2.2.2.2.1
  refine Ctr.of okX8_holds rfl (Nat.le_of_ble_eq_true rfl) (run_sound okX8_holds noCut 100 (Exists.intro _ (And.intro rfl (And.intro (show vp_in (M.1 27) (M.2.1 26).length by rw [hn, h26]; exact vp_nI hn2 (by decide)) (And.intro rfl (And.intro trivial ⟨rfl, ?_, rfl⟩))))))
  show mk S (mN (mR M 26 ((M.2.1 26).set (M.1 27).toNatClampNeg v)) 27 (M.1 27 + 1)) = _
  rw [hn, nI_clamp (by omega), nI_1]
end PARSE
end
section
-- 48.unwind
/-! THE REFERENCE's held signs, unwound -/
section UNWIND
variable {l : Launch} {X : List (List Int32)} {S : CS} {M : MS}
/-- held (top first), opens, codes -/
abbrev PT : Type := List Int32 × Int32 × List Int32
def unwF (r : Int32) : List Int32 → Int32 → List Int32 → PT
  | [], op, oc => ([], op, oc)
  | s :: hs, op, oc => if rkF s < r then (s :: hs, op, oc) else unwF r hs (op - (if s = Int32.ofInt 13 then Int32.ofInt 1 else if s = Int32.ofInt 19 then Int32.ofInt 1 else Int32.ofInt 0)) (oc ++ [s])
theorem unwF_len (r : Int32) : ∀ hs op oc, (unwF r hs op oc).1.length + (unwF r hs op oc).2.2.length = hs.length + oc.length
  | [], _, _ => rfl
  | s :: hs, op, oc => by
    unfold unwF
    split
    · rfl
    · rw [unwF_len r hs]
      simp only [List.length_append, List.length_cons, List.length_nil]
      omega
def OutR (cd0 cd : List Int32) (tx : Nat) (oc : List Int32) : Prop := cd.length = 1200 ∧ (∀ j, j < 200 * tx → cd.getD j 0 = cd0.getD j 0) ∧ (cd.drop (200 * tx)).take oc.length = oc
theorem OutR.push {cd0 cd : List Int32} {tx : Nat} {oc : List Int32} (h : OutR cd0 cd tx oc) (htx : tx < 6) (ho : oc.length < 200) (v : Int32) : OutR cd0 (cd.set (200 * tx + oc.length) v) tx (oc ++ [v]) := by
  obtain ⟨h1, h2, h3⟩ := h
  refine ⟨by simpa using h1, fun j hj => ?_, ?_⟩
  · rw [← h2 j hj, List.getD_eq_getElem?_getD, List.getD_eq_getElem?_getD, List.getElem?_set_ne (by omega)]
  · apply List.ext_getElem?
    intro j
    by_cases hj : j < oc.length
    · have t := congrArg (fun q : List Int32 => q[j]?) h3
      simp only [List.getElem?_take_of_lt hj, List.getElem?_drop] at t
      rw [List.getElem?_append_left hj, ← t, List.getElem?_take_of_lt (by simp; omega), List.getElem?_drop, List.getElem?_set_ne (by omega)]
    · by_cases e : j = oc.length
      · subst e
        rw [List.getElem?_append_right (Nat.le_refl _), List.getElem?_take_of_lt (by simp), List.getElem?_drop, List.getElem?_set_self (by omega)]
        simp
      · rw [List.getElem?_eq_none (by simp; omega), List.getElem?_eq_none (by simp; omega)]
abbrev pM (M : MS) (cd hd : List Int32) (hm op ou : Int32) : MS := mR (mR (mN (mN (mN M 27 hm) 28 op) 29 ou) 7 cd) 26 hd
theorem MLen.p (h : MLen M) {cd hd : List Int32} {hm op ou : Int32} (h1 : cd.length = 1200) (h2 : hd.length = 200) : MLen (pM M cd hd hm op ou) := by
  obtain ⟨a1, a2, a3, a4, a5, a6, a7, a8, a9, a10, a11, a12, a13, a14, a15, a16, a17, a18⟩ := h
  exact ⟨a1, a2, a3, a4, h1, a6, a7, a8, a9, a10, a11, a12, a13, h2, a15, a16, a17, a18⟩
/-- what the state holds of the parse -/
def InP (S : CS) (M : MS) (cd0 : List Int32) (tx : Nat) (p : PT) (h : AH) : Prop := ∃ cd hd, OutR cd0 cd tx p.2.2 ∧ StkR hd p.1 ∧ h = mk S (pM M cd hd (nI p.1.length) p.2.1 (nI p.2.2.length))
set_option maxRecDepth 100000 in
set_option maxHeartbeats 4000000 in
theorem m_unwinds (hM : MLen M) {tx : Nat} (htx : M.1 9 = nI tx) (htx6 : tx < 6) {cd0 : List Int32} {p : PT} (hb : p.1.length + p.2.2.length ≤ 200) {h0 : AH} (hin : InP S M cd0 tx p h0) (r : Int32) :
    Ctr l 1 X sgX8_unwinds [.ref 27, .int r] h0 (fun h w => InP S M cd0 tx (unwF r p.1 p.2.1 p.2.2) h ∧ w = none) := by
  obtain ⟨cd, hd, ho, hs, rfl⟩ := hin
  refine Ctr.of okX8_unwinds rfl (Nat.le_of_ble_eq_true rfl) ?_
  have key : ∀ (hs : List Int32) (op : Int32) (oc cd hd : List Int32) (x : Option Value), hs.length + oc.length ≤ 200 → unwF r p.1 p.2.1 p.2.2 = unwF r hs op oc → OutR cd0 cd tx oc → StkR hd hs →
      WP l (rmD 1 0 0) X sgX8_unwinds kX8_unwinds (fun h w => InP S M cd0 tx (unwF r p.1 p.2.1 p.2.2) h ∧ w = none) 0 [some (.ref 27), some (.int r), x] [] (mk S (pM M cd hd (nI hs.length) op (nI oc.length))) 0 0 := by
    intro hs
    induction hs with
    | nil =>
      intro op oc cd hd x hb he ho hs
      exact run_sound okX8_unwinds (fun i => Nat.beq i 0) 300 (brT (Int32.le_refl _) ⟨rfl, ⟨cd, hd, by rw [he]; exact ho, by rw [he]; exact hs, by rw [he]; rfl⟩, rfl⟩)
    | cons s hs ih =>
      intro op oc cd hd x hb he ho hst
      have hl : hs.length + 1 + oc.length ≤ 200 := hb
      have e1 : nI (s :: hs).length - Int32.ofInt 1 = nI hs.length := nI_m1 (n := hs.length + 1) (by omega)
      have htop : hd.getD (nI (s :: hs).length - Int32.ofInt 1).toNatClampNeg 0 = s := by
        rw [e1, nI_clamp (by omega)]; exact hst.top
      have v1 : vp_in (nI (s :: hs).length - Int32.ofInt 1) hd.length := by
        rw [e1, hst.1]; exact vp_nI (by omega) (by decide)
      have hrk : ∀ hp, Ans l 0 X sgX8_rank [.int (hd.getD (nI (s :: hs).length - Int32.ofInt 1).toNatClampNeg 0)] hp (rkF s) := by
        intro hp
        rw [htop]; exact m_rank s
      rw [unwF] at he
      refine run_sound okX8_unwinds (fun i => Nat.beq i 0) 300 (brF (nI_ge (Nat.succ_pos _) (by show hs.length + 1 < 2 ^ 31; omega)) (Exists.intro _ (And.intro rfl (And.intro v1 (kH (hrk _) (by decide) (br (fun q => ?_) (fun q => ?_)))))))
      · have q2 : rkF s < r := q
        rw [if_pos q2] at he
        exact ⟨rfl, ⟨cd, hd, by rw [he]; exact ho, by rw [he]; exact hst, by rw [he]⟩, rfl⟩
      · have q2 : ¬ rkF s < r := q
        rw [if_neg q2] at he
        refine And.intro rfl (And.intro trivial (Exists.intro _ (And.intro rfl (And.intro v1 ?_))))
        have hpop : StkR hd hs := hst.pop
        have hput : ∀ op' : Int32, Ctr l 0 X sgX8_puts [.ref 27, .int (hd.getD (nI (s :: hs).length - Int32.ofInt 1).toNatClampNeg 0)] (mk S (pM M cd hd (nI (s :: hs).length - Int32.ofInt 1) op' (nI oc.length))) (fun h w => h = mk S (pM M (cd.set (200 * tx + oc.length) s) hd (nI hs.length) op' (nI (oc.length + 1))) ∧ w = none) := by
          intro op'
          rw [htop, e1]
          exact m_puts (M := pM M cd hd (nI hs.length) op' (nI oc.length)) (hM.p ho.1 hst.1) htx htx6 rfl (by omega) s
        have go : ∀ op' : Int32, op - (if s = Int32.ofInt 13 then Int32.ofInt 1 else if s = Int32.ofInt 19 then Int32.ofInt 1 else Int32.ofInt 0) = op' → ∀ x : Option Value, WP l (rmD 1 0 0) X sgX8_unwinds kX8_unwinds (fun h w => InP S M cd0 tx (unwF r p.1 p.2.1 p.2.2) h ∧ w = none) 0 [some (.ref 27), some (.int r), x] [] (mk S (pM M (cd.set (200 * tx + oc.length) s) hd (nI hs.length) op' (nI (oc.length + 1)))) 0 0 := by
          intro op' hop x
          have := ih op' (oc ++ [s]) (cd.set (200 * tx + oc.length) s) hd x (by simp; omega) (by rw [he, hop]) (ho.push htx6 (by omega) s) hpop
          rw [show (oc ++ [s]).length = oc.length + 1 by simp] at this
          exact this
        refine And.intro rfl (br (fun q3 => ?_) (fun q3 => And.intro (fun q4 => ?_) (fun q4 => ?_)))
        · have q3 : s = Int32.ofInt 13 := htop ▸ q3
          exact And.intro trivial (kH (hput (op - Int32.ofInt 1)) (by decide) (go _ (by rw [if_pos q3]) _))
        · have q3 : ¬ s = Int32.ofInt 13 := htop ▸ q3
          have q4 : s = Int32.ofInt 19 := htop ▸ q4
          exact And.intro trivial (kH (hput (op - Int32.ofInt 1)) (by decide) (go _ (by rw [if_neg q3, if_pos q4]) _))
        · have q3 : ¬ s = Int32.ofInt 13 := htop ▸ q3
          have q4 : ¬ s = Int32.ofInt 19 := htop ▸ q4
          exact And.intro trivial (kH (hput (op - Int32.ofInt 0)) (by decide) (go _ (by rw [if_neg q3, if_neg q4]) _))
  exact key p.1 p.2.1 p.2.2 cd hd none hb rfl ho hs
end UNWIND
end
section
-- 49.between
/-! THE REFERENCE's signs between -/
section BETWEEN
variable {l : Launch} {X : List (List Int32)} {S : CS} {M : MS}
def onF (v : Int32) (p : PT) : Bool × PT := if p.2.1 = Int32.ofInt 5 then (false, p) else (true, (v :: p.1, p.2.1 + 1, p.2.2))
def stF (s : Int32) (p : PT) : PT := unwF (if rkF s = Int32.ofInt 4 then Int32.ofInt 5 else rkF s) p.1 p.2.1 p.2.2
def tp4 : List Int32 → Bool
  | [] => false
  | t :: _ => if rkF t = Int32.ofInt 4 then true else false
def btF (s : Int32) (p : PT) : Bool × PT := if rkF s = Int32.ofInt 4 then (if tp4 (stF s p).1 = true then (false, stF s p) else (true, (s :: (stF s p).1, (stF s p).2.1, (stF s p).2.2))) else (true, (s :: (stF s p).1, (stF s p).2.1, (stF s p).2.2))
theorem stF_len (s : Int32) (p : PT) : (stF s p).1.length + (stF s p).2.2.length = p.1.length + p.2.2.length := unwF_len _ _ _ _
set_option maxRecDepth 100000 in
set_option maxHeartbeats 4000000 in
theorem m_opens (hM : MLen M) {tx : Nat} {cd0 : List Int32} {p : PT} (hb : p.1.length + p.2.2.length < 200) {h0 : AH} (hin : InP S M cd0 tx p h0) (v : Int32) :
    Ctr l 1 X sgX8_opensOne [.ref 27, .int v] h0 (fun h w => InP S M cd0 tx (onF v p).2 h ∧ w = some (.int (bB (onF v p).1))) := by
  obtain ⟨cd, hd, ho, hs, rfl⟩ := hin
  by_cases q : p.2.1 = Int32.ofInt 5
  · rw [onF, if_pos q]
    exact Ctr.of okX8_opensOne rfl (Nat.le_of_ble_eq_true rfl) (run_sound okX8_opensOne noCut 100 (And.intro (fun _ => ⟨rfl, ⟨cd, hd, ho, hs, rfl⟩, rfl⟩) (fun z => absurd q z)))
  · rw [onF, if_neg q]
    exact Ctr.of okX8_opensOne rfl (Nat.le_of_ble_eq_true rfl) (run_sound okX8_opensOne noCut 100 (And.intro (fun z => absurd z q) (fun _ => And.intro rfl (And.intro trivial (kH (m_holds (M := pM M cd hd (nI p.1.length) (p.2.1 + 1) (nI p.2.2.length)) (hM.p ho.1 hs.1) rfl (by omega) v) (by decide) ⟨rfl, ⟨cd, _, ho, hs.push v (by omega), rfl⟩, rfl⟩)))))
def cNb (i : Nat) : Bool := Nat.beq i 9 || Nat.beq i 29
set_option maxRecDepth 100000 in
set_option maxHeartbeats 4000000 in
theorem m_between (hM : MLen M) {tx : Nat} (htx : M.1 9 = nI tx) (htx6 : tx < 6) {cd0 : List Int32} {p : PT} (hb : p.1.length + p.2.2.length < 200) {h0 : AH} (hin : InP S M cd0 tx p h0) (s : Int32) :
    Ctr l 2 X sgX8_between [.ref 27, .int s] h0 (fun h w => InP S M cd0 tx (btF s p).2 h ∧ w = some (.int (bB (btF s p).1))) := by
  obtain ⟨cd1, hd1, ho1, hs1, rfl⟩ := id hin
  have hlen : (stF s p).1.length + (stF s p).2.2.length < 200 := by rw [stF_len]; exact hb
  have put : ∀ h, InP S M cd0 tx (stF s p) h → btF s p = (true, (s :: (stF s p).1, (stF s p).2.1, (stF s p).2.2)) → WP l (rmD 2 0 0) X sgX8_between kX8_between (fun h w => InP S M cd0 tx (btF s p).2 h ∧ w = some (.int (bB (btF s p).1))) 29 [some (.ref 27), some (.int s)] [] h 0 0 := by
    rintro h ⟨cd, hd, ho, hs, rfl⟩ he
    rw [he]
    refine run_sound okX8_between cNb 300 (kH (m_holds (M := pM M cd hd (nI (stF s p).1.length) (stF s p).2.1 (nI (stF s p).2.2.length)) (hM.p ho.1 hs.1) rfl (by omega) s) (by decide) ⟨rfl, ⟨cd, _, ho, hs.push s (by omega), rfl⟩, rfl⟩)
  have go : ∀ r, r = (if rkF s = Int32.ofInt 4 then Int32.ofInt 5 else rkF s) → WP l (rmD 2 0 0) X sgX8_between kX8_between (fun h w => InP S M cd0 tx (btF s p).2 h ∧ w = some (.int (bB (btF s p).1))) 9 [some (.ref 27), some (.int s)] [.int r, .ref 27] (mk S (pM M cd1 hd1 (nI p.1.length) p.2.1 (nI p.2.2.length))) 0 0 := by
    intro r hr
    refine run_sound okX8_between cNb 300 ⟨1, _, by decide, m_unwinds hM htx htx6 (by omega) hin r, ?_⟩
    subst hr
    rintro hp' w ⟨hq, rfl⟩
    have hq : InP S M cd0 tx (stF s p) hp' := hq
    obtain ⟨cd, hd, ho, hs, rfl⟩ := id hq
    refine kH (m_rank s) (by decide) (And.intro (fun q => ?_) (fun q => ?_))
    · have q : rkF s = Int32.ofInt 4 := q
      have put := put _ hq
      clear hq
      have hbt : btF s p = _ := if_pos q
      revert ho hs put hbt hlen
      generalize stF s p = z
      obtain ⟨zh, zo, zc⟩ := z
      cases zh with
      | nil =>
        intro hlen ho hs put hbt
        exact brT (Int32.le_refl _) (put (hbt.trans (if_neg (show ¬ tp4 [] = true by decide))))
      | cons t zh =>
        intro hlen ho hs put hbt
        have hl : zh.length + 1 + zc.length < 200 := hlen
        have e1 : nI (t :: zh).length - Int32.ofInt 1 = nI zh.length := nI_m1 (n := zh.length + 1) (by omega)
        have htop : hd.getD (nI (t :: zh).length - Int32.ofInt 1).toNatClampNeg 0 = t := by
          rw [e1, nI_clamp (by omega)]; exact hs.top
        have v1 : vp_in (nI (t :: zh).length - Int32.ofInt 1) hd.length := by
          rw [e1, hs.1]; exact vp_nI (by omega) (by decide)
        have hrk : ∀ hp, Ans l 0 X sgX8_rank [.int (hd.getD (nI (t :: zh).length - Int32.ofInt 1).toNatClampNeg 0)] hp (rkF t) := by
          intro hp
          rw [htop]; exact m_rank t
        refine brF (nI_ge (Nat.succ_pos _) (by show zh.length + 1 < 2 ^ 31; omega)) (Exists.intro _ (And.intro rfl (And.intro v1 (kH (hrk _) (by decide) (And.intro (fun q5 => ?_) (fun q5 => ?_))))))
        · have q6 : tp4 (t :: zh) = true := if_pos q5
          have e : btF s p = _ := hbt.trans (if_pos q6)
          rw [e]
          exact ⟨rfl, ⟨cd, hd, ho, hs, rfl⟩, rfl⟩
        · have q6 : ¬ tp4 (t :: zh) = true := fun z => absurd ((if_neg q5 : tp4 (t :: zh) = false).symm.trans z) (by decide)
          exact put (hbt.trans (if_neg q6))
    · exact put _ hq (if_neg q)
  refine Ctr.of okX8_between rfl (Nat.le_of_ble_eq_true rfl) (run_sound okX8_between cNb 300 (kH (m_rank s) (by decide) (And.intro (fun q => go _ (if_pos q).symm) (fun q => kH (m_rank s) (by decide) (go _ (if_neg q).symm)))))
end BETWEEN
end
section
-- 50.eread
/-! THE REFERENCE reads one part of a text -/
section EREAD
variable {l : Launch} {X : List (List Int32)} {S : CS} {M N : MS}
abbrev ES : Type := (Bool × PT) ⊕ (Bool × Bool × PT)
def onS (wa br : Bool) (s : Int32) (p : PT) : ES := if (onF s p).1 = true then .inr (wa, br, (onF s p).2) else .inl (false, (onF s p).2)
def clS2 (br : Bool) : PT → ES
  | ([], op, oc) => .inl (false, ([], op, oc))
  | (_ :: hs, op, oc) => .inr (false, br, unwF (Int32.ofInt 7) hs (op - Int32.ofInt 1) oc)
def lt12 (s : Int32) : Bool := if Int32.ofInt 12 < s then false else true
def btS (s : Int32) (p : PT) : ES := if (btF s p).1 = true then .inr (true, lt12 s, (btF s p).2) else .inl (false, (btF s p).2)
def stW (br : Bool) (tk : Int32) (p : PT) : ES :=
  if tk = Int32.ofInt 45 then onS true false (Int32.ofInt 19) p else if tk = Int32.ofInt 40 then onS true true (Int32.ofInt 0) p else .inl (false, p)
def stE (wa br : Bool) (tk v : Int32) (p : PT) : ES :=
  if wa = true then
    (if tk = Int32.ofInt 1 then .inr (false, br, unwF (Int32.ofInt 7) p.1 p.2.1 (p.2.2 ++ [Int32.ofInt 100000 + v]))
    else if tk = Int32.ofInt 2 then .inr (false, br, unwF (Int32.ofInt 7) p.1 p.2.1 (p.2.2 ++ [v]))
    else if tk = Int32.ofInt 6 then (if br = true then onS true br (Int32.ofInt 13) p else stW br tk p)
    else stW br tk p)
  else if tk = Int32.ofInt 59 then .inl ((unwF (Int32.ofInt 1) p.1 p.2.1 p.2.2).1.isEmpty, unwF (Int32.ofInt 1) p.1 p.2.1 p.2.2)
  else if tk = Int32.ofInt 41 then clS2 br (unwF (Int32.ofInt 1) p.1 p.2.1 p.2.2)
  else if sgF tk = Int32.ofInt (-1) then .inl (false, p)
  else btS (sgF tk) p
theorem brBB {b : Bool} {A B : Prop} (h1 : b = false → A) (h2 : b = true → B) : (bB b = Int32.ofInt 0 → A) ∧ (¬ bB b = Int32.ofInt 0 → B) := by
  cases b with
  | false => exact ⟨fun _ => h1 rfl, fun z => absurd rfl z⟩
  | true => exact ⟨fun z => absurd z (by decide), fun _ => h2 rfl⟩
def cNe (i : Nat) : Bool := Nat.beq i 10 || Nat.beq i 34 || Nat.beq i 53
set_option maxRecDepth 100000 in
set_option maxHeartbeats 4000000 in
theorem er_step (hN : MLen N) {tx : Nat} (htx : N.1 9 = nI tx) (htx6 : tx < 6) {cd0 : List Int32} {p : PT} (hb : p.1.length + p.2.2.length < 199) {cd hd : List Int32} (ho : OutR cd0 cd tx p.2.2) (hs : StkR hd p.1)
    {Q : AH → Option Value → Prop} {wa bv : Bool} {x3 : Option Value}
    (fin : ∀ b q h, stE wa bv (N.1 23) (N.1 24) p = .inl (b, q) → InP S N cd0 tx q h → Q h (some (.int (bB b))))
    (nxt : ∀ wa' br' q h x, stE wa bv (N.1 23) (N.1 24) p = .inr (wa', br', q) → InP S N cd0 tx q h → WP l (rmD 3 0 0) X sgX8_eRead kX8_eRead Q 10 [some (.ref 27), some (.int (bB wa')), some (.int (bB br')), x] [] h 0 0) :
    WP l (rmD 3 0 0) X sgX8_eRead kX8_eRead Q 12 [some (.ref 27), some (.int (bB wa)), some (.int (bB bv)), x3] [] (mk S (pM N cd hd (nI p.1.length) p.2.1 (nI p.2.2.length))) 0 0 := by
  have hin : InP S N cd0 tx p (mk S (pM N cd hd (nI p.1.length) p.2.1 (nI p.2.2.length))) := ⟨cd, hd, ho, hs, rfl⟩
  cases wa with
  | true =>
    have at34 : ∀ v, stE true bv (N.1 23) (N.1 24) p = .inr (false, bv, unwF (Int32.ofInt 7) p.1 p.2.1 (p.2.2 ++ [v])) → WP l (rmD 3 0 0) X sgX8_eRead kX8_eRead Q 34 [some (.ref 27), some (.int (bB true)), some (.int (bB bv)), x3] [.int v, .ref 27] (mk S (pM N cd hd (nI p.1.length) p.2.1 (nI p.2.2.length))) 0 0 := by
      intro v he
      refine run_soundF okX8_eRead lkf_X8_eRead_ok cNe 300 (kH (m_puts (M := pM N cd hd (nI p.1.length) p.2.1 (nI p.2.2.length)) (hN.p ho.1 hs.1) htx htx6 rfl (by omega) v) (by decide) ?_)
      have hin2 : InP S N cd0 tx (p.1, p.2.1, p.2.2 ++ [v]) (mk S (pM N (cd.set (200 * tx + p.2.2.length) v) hd (nI p.1.length) p.2.1 (nI (p.2.2.length + 1)))) := ⟨_, hd, ho.push htx6 (by omega) v, hs, by rw [show (p.2.2 ++ [v]).length = p.2.2.length + 1 by simp]⟩
      refine ⟨1, _, by decide, m_unwinds hN htx htx6 (p := (p.1, p.2.1, p.2.2 ++ [v])) (by simp; omega) hin2 (Int32.ofInt 7), ?_⟩
      rintro hp' w ⟨hq, rfl⟩
      exact nxt _ _ _ _ _ he hq
    have at53 : stE true bv (N.1 23) (N.1 24) p = stW bv (N.1 23) p → WP l (rmD 3 0 0) X sgX8_eRead kX8_eRead Q 53 [some (.ref 27), some (.int (bB true)), some (.int (bB bv)), x3] [] (mk S (pM N cd hd (nI p.1.length) p.2.1 (nI p.2.2.length))) 0 0 := by
      intro he
      refine run_soundF okX8_eRead lkf_X8_eRead_ok cNe 300 (And.intro (fun q => ?_) (fun q => And.intro (fun q2 => ?_) (fun q2 => ?_)))
      · have he := he.trans (if_pos q)
        refine ⟨1, _, by decide, m_opens hN (by omega) hin (Int32.ofInt 19), ?_⟩
        rintro hp' w ⟨hq, rfl⟩
        refine brBB (fun z => ⟨rfl, fin false _ _ (he.trans (if_neg (by rw [z]; decide))) hq⟩) (fun z => nxt _ _ _ _ _ (he.trans (if_pos z)) hq)
      · have he := he.trans ((if_neg q).trans (if_pos q2))
        refine ⟨1, _, by decide, m_opens hN (by omega) hin (Int32.ofInt 0), ?_⟩
        rintro hp' w ⟨hq, rfl⟩
        refine brBB (fun z => ⟨rfl, fin false _ _ (he.trans (if_neg (by rw [z]; decide))) hq⟩) (fun z => nxt _ _ _ _ _ (he.trans (if_pos z)) hq)
      · exact ⟨rfl, fin false _ _ (he.trans ((if_neg q).trans (if_neg q2))) hin⟩
    refine run_soundF okX8_eRead lkf_X8_eRead_ok cNe 300 (brF (by decide) (br (fun q => ?_) (fun q => And.intro (fun q2 => ?_) (fun q2 => ?_))))
    · exact brT q (at34 _ ((if_pos rfl).trans (if_pos q)))
    · exact And.intro (fun z => absurd z q) (fun _ => at34 _ ((if_pos rfl).trans ((if_neg q).trans (if_pos q2))))
    · refine And.intro (fun q3 => ?_) (fun q3 => at53 ((if_pos rfl).trans ((if_neg q).trans ((if_neg q2).trans (if_neg q3)))))
      have he : stE true bv (N.1 23) (N.1 24) p = _ := (if_pos rfl).trans ((if_neg q).trans ((if_neg q2).trans (if_pos q3)))
      refine brBB (fun z => at53 (he.trans (if_neg (by rw [z]; decide)))) (fun z => ?_)
      have he := he.trans (if_pos z)
      refine ⟨1, _, by decide, m_opens hN (by omega) hin (Int32.ofInt 13), ?_⟩
      rintro hp' w ⟨hq, rfl⟩
      refine brBB (fun z => ⟨rfl, fin false _ _ (he.trans (if_neg (by rw [z]; decide))) hq⟩) (fun z => nxt _ _ _ _ _ (he.trans (if_pos z)) hq)
  | false =>
    refine run_soundF okX8_eRead lkf_X8_eRead_ok cNe 300 (brT rfl (And.intro (fun q => ?_) (fun q => And.intro (fun q2 => ?_) (fun q2 => ?_))))
    · have he : stE false bv (N.1 23) (N.1 24) p = _ := (if_neg (by decide)).trans (if_pos q)
      refine ⟨1, _, by decide, m_unwinds hN htx htx6 (by omega) hin (Int32.ofInt 1), ?_⟩
      rintro hp' w ⟨hq, rfl⟩
      obtain ⟨cd', hd', ho', hs', rfl⟩ := hq
      revert he ho' hs'
      generalize unwF (Int32.ofInt 1) p.1 p.2.1 p.2.2 = z
      obtain ⟨zh, zo, zc⟩ := z
      intro he ho' hs'
      cases zh with
      | nil => exact And.intro (fun _ => ⟨rfl, fin true _ _ he ⟨cd', hd', ho', hs', rfl⟩⟩) (fun z => absurd rfl z)
      | cons t zh =>
        have hl : zh.length + 1 ≤ 200 := hs'.2.1
        exact And.intro (fun z => absurd ((nI_eq (a := zh.length + 1) (b := 0) (by omega) (by decide)).mp z) (Nat.succ_ne_zero _)) (fun _ => ⟨rfl, fin false _ _ he ⟨cd', hd', ho', hs', rfl⟩⟩)
    · have he : stE false bv (N.1 23) (N.1 24) p = _ := (if_neg (by decide)).trans ((if_neg q).trans (if_pos q2))
      have hlen : (unwF (Int32.ofInt 1) p.1 p.2.1 p.2.2).1.length + (unwF (Int32.ofInt 1) p.1 p.2.1 p.2.2).2.2.length < 199 := by rw [unwF_len]; exact hb
      refine ⟨1, _, by decide, m_unwinds hN htx htx6 (by omega) hin (Int32.ofInt 1), ?_⟩
      rintro hp' w ⟨hq, rfl⟩
      obtain ⟨cd', hd', ho', hs', rfl⟩ := hq
      revert he ho' hs' hlen
      generalize unwF (Int32.ofInt 1) p.1 p.2.1 p.2.2 = z
      obtain ⟨zh, zo, zc⟩ := z
      intro he hlen ho' hs'
      cases zh with
      | nil => exact And.intro (fun _ => ⟨rfl, fin false _ _ he ⟨cd', hd', ho', hs', rfl⟩⟩) (fun z => absurd rfl z)
      | cons t zh =>
        have hl : zh.length + 1 + zc.length < 199 := hlen
        have e1 : nI (t :: zh).length - Int32.ofInt 1 = nI zh.length := nI_m1 (n := zh.length + 1) (by omega)
        refine And.intro (fun z => absurd ((nI_eq (a := zh.length + 1) (b := 0) (by omega) (by decide)).mp z) (Nat.succ_ne_zero _)) (fun _ => And.intro rfl (And.intro trivial (And.intro rfl (And.intro trivial ?_))))
        have hin2 : InP S N cd0 tx (zh, zo - Int32.ofInt 1, zc) (mk S (pM N cd' hd' (nI (t :: zh).length - Int32.ofInt 1) (zo - Int32.ofInt 1) (nI zc.length))) := ⟨cd', hd', ho', hs'.pop, by rw [e1]⟩
        refine ⟨1, _, by decide, m_unwinds hN htx htx6 (p := (zh, zo - Int32.ofInt 1, zc)) (by show zh.length + zc.length ≤ 200; omega) hin2 (Int32.ofInt 7), ?_⟩
        rintro hp' w ⟨hq, rfl⟩
        exact nxt _ _ _ _ _ he hq
    · refine kH (m_signOf (M := pM N cd hd (nI p.1.length) p.2.1 (nI p.2.2.length))) (by decide) (br (fun q3 => ?_) (fun q3 => ?_))
      · exact ⟨rfl, fin false _ _ ((if_neg (by decide)).trans ((if_neg q).trans ((if_neg q2).trans (if_pos q3)))) hin⟩
      · have he : stE false bv (N.1 23) (N.1 24) p = _ := (if_neg (by decide)).trans ((if_neg q).trans ((if_neg q2).trans (if_neg q3)))
        refine ⟨2, _, by decide, m_between hN htx htx6 (by omega) hin (sgF (N.1 23)), ?_⟩
        rintro hp' w ⟨hq, rfl⟩
        refine brBB (fun z => ⟨rfl, fin false _ _ (he.trans (if_neg (by rw [z]; decide))) hq⟩) (fun z => ?_)
        have he := he.trans (if_pos z)
        refine br (fun q4 => ?_) (fun q4 => ?_)
        · have e4 : lt12 (sgF (N.1 23)) = false := if_pos q4
          rw [e4] at he
          exact nxt _ _ _ _ _ he hq
        · have e4 : lt12 (sgF (N.1 23)) = true := if_neg q4
          rw [e4] at he
          exact nxt _ _ _ _ _ he hq
end EREAD
end
section
-- 51.eread2
/-! THE REFERENCE reads one part of a text: the loop -/
section EREAD2
variable {l : Launch} {X : List (List Int32)} {S : CS} {M : MS}
theorem skR_ge (tp : List Int32) : ∀ m a, a ≤ skR tp m a
  | 0, _ => Nat.le_refl _
  | m + 1, a => by
    unfold skR
    split
    · exact Nat.le_trans (Nat.le_succ a) (skR_ge tp m (a + 1))
    · split
      · exact Nat.le_trans (Nat.le_succ a) (skR_ge tp m (a + 1))
      · exact Nat.le_refl _
theorem skR_le (tp : List Int32) : ∀ m a, skR tp m a ≤ a + m
  | 0, _ => Nat.le_refl _
  | m + 1, a => by
    unfold skR
    split
    · have := skR_le tp m (a + 1); omega
    · split
      · have := skR_le tp m (a + 1); omega
      · omega
theorem dgR_ge (tp : List Int32) : ∀ m a n v, a ≤ (dgR tp m a n v).1
  | 0, _, _, _ => Nat.le_refl _
  | m + 1, a, n, v => by
    unfold dgR
    split
    · exact Nat.le_trans (Nat.le_succ a) (dgR_ge tp m (a + 1) _ _)
    · exact Nat.le_refl _
theorem dgR_le (tp : List Int32) : ∀ m a n v, (dgR tp m a n v).1 ≤ a + m
  | 0, _, _, _ => Nat.le_refl _
  | m + 1, a, n, v => by
    unfold dgR
    split
    · have := dgR_le tp m (a + 1) (n + 1) (if Int32.ofInt 4 ≤ nI n then Int32.ofInt 0 else Int32.ofInt 10 * v + tp.getD a 0 - Int32.ofInt 48); omega
    · exact Nat.le_add_right _ _
/-- a token that is one has been passed -/
theorem nxt_spec (ws tp : List Int32) {t a : Nat} (ha : a ≤ t) : (nxtF ws tp t a).2.1 ≤ t ∧ a ≤ (nxtF ws tp t a).2.1 ∧ (nxtF ws tp t a).1 ≤ t ∧ ((nxtF ws tp t a).2.2.1 = Int32.ofInt 0 ∨ a < (nxtF ws tp t a).2.1) := by
  have h1 := skR_ge tp (t - a) a
  have h2 := skR_le tp (t - a) a
  unfold nxtF
  revert h1 h2
  generalize skR tp (t - a) a = b
  intro h1 h2
  unfold nextT
  split
  · exact ⟨by show b ≤ t; omega, h1, by show b ≤ t; omega, Or.inl rfl⟩
  · rename_i hb
    obtain ⟨m, hm⟩ : ∃ m, t - b = m + 1 := ⟨t - b - 1, by omega⟩
    split
    · rename_i hL
      have h3 : b + 1 ≤ runW tp (t - b) b := by
        rw [hm, runW, if_pos hL]; exact runW_ge tp m (b + 1)
      have h4 := runW_le tp (t - b) b
      exact ⟨by show runW tp (t - b) b ≤ t; omega, by show a ≤ runW tp (t - b) b; omega, by show b ≤ t; omega, Or.inr (by show a < runW tp (t - b) b; omega)⟩
    · split
      · rename_i hD
        have h3 : b + 1 ≤ (dgR tp (t - b) b 0 (Int32.ofInt 0)).1 := by
          rw [hm, dgR, if_pos hD]; exact dgR_ge tp m (b + 1) _ _
        have h4 := dgR_le tp (t - b) b 0 (Int32.ofInt 0)
        exact ⟨by show (dgR tp (t - b) b 0 (Int32.ofInt 0)).1 ≤ t; omega, by show a ≤ (dgR tp (t - b) b 0 (Int32.ofInt 0)).1; omega, by show b ≤ t; omega, Or.inr (by show a < (dgR tp (t - b) b 0 (Int32.ofInt 0)).1; omega)⟩
      · exact ⟨by show b + 1 ≤ t; omega, by show a ≤ b + 1; omega, by show b ≤ t; omega, Or.inr (by show a < b + 1; omega)⟩
abbrev esP : ES → PT
  | .inl (_, q) => q
  | .inr (_, _, q) => q
abbrev ptL (p : PT) : Nat := p.1.length + p.2.2.length
theorem onS_len (wa br : Bool) (s : Int32) (p : PT) : ptL (esP (onS wa br s p)) ≤ ptL p + 1 := by
  unfold onS onF
  split <;> split <;> simp_all [ptL, esP] <;> omega
theorem stW_len (br : Bool) (tk : Int32) (p : PT) : ptL (esP (stW br tk p)) ≤ ptL p + 1 := by
  unfold stW
  split
  · exact onS_len _ _ _ _
  · split
    · exact onS_len _ _ _ _
    · exact Nat.le_succ _
theorem btS_len (s : Int32) (p : PT) : ptL (esP (btS s p)) ≤ ptL p + 1 := by
  have h := stF_len s p
  unfold btS
  split
  · show ptL (btF s p).2 ≤ _
    unfold btF
    split
    · split
      · show (stF s p).1.length + (stF s p).2.2.length ≤ _
        simp only [ptL]; omega
      · show (stF s p).1.length + 1 + (stF s p).2.2.length ≤ _
        simp only [ptL]; omega
    · show (stF s p).1.length + 1 + (stF s p).2.2.length ≤ _
      simp only [ptL]; omega
  · show ptL (btF s p).2 ≤ _
    unfold btF
    split
    · split
      · show (stF s p).1.length + (stF s p).2.2.length ≤ _
        simp only [ptL]; omega
      · show (stF s p).1.length + 1 + (stF s p).2.2.length ≤ _
        simp only [ptL]; omega
    · show (stF s p).1.length + 1 + (stF s p).2.2.length ≤ _
      simp only [ptL]; omega
theorem clS2_len (br : Bool) (p : PT) : ptL (esP (clS2 br p)) ≤ ptL p := by
  obtain ⟨zh, zo, zc⟩ := p
  cases zh with
  | nil => exact Nat.le_refl _
  | cons t zh =>
    show (unwF (Int32.ofInt 7) zh (zo - Int32.ofInt 1) zc).1.length + (unwF (Int32.ofInt 7) zh (zo - Int32.ofInt 1) zc).2.2.length ≤ zh.length + 1 + zc.length
    rw [unwF_len]; omega
theorem stE_len (wa br : Bool) (tk v : Int32) (p : PT) : ptL (esP (stE wa br tk v p)) ≤ ptL p + 1 := by
  have hu : ∀ r w, ptL (unwF r p.1 p.2.1 (p.2.2 ++ [w])) ≤ ptL p + 1 := by
    intro r w
    show (unwF r p.1 p.2.1 (p.2.2 ++ [w])).1.length + (unwF r p.1 p.2.1 (p.2.2 ++ [w])).2.2.length ≤ _
    rw [unwF_len]
    simp only [List.length_append, List.length_cons, List.length_nil, ptL]
    omega
  have hu0 : ∀ r, ptL (unwF r p.1 p.2.1 p.2.2) = ptL p := fun r => unwF_len r p.1 p.2.1 p.2.2
  unfold stE
  split
  · split
    · exact hu _ _
    · split
      · exact hu _ _
      · split
        · split
          · exact onS_len _ _ _ _
          · exact stW_len _ _ _
        · exact stW_len _ _ _
  · split
    · show ptL (unwF (Int32.ofInt 1) p.1 p.2.1 p.2.2) ≤ _
      rw [hu0]; omega
    · split
      · have := clS2_len br (unwF (Int32.ofInt 1) p.1 p.2.1 p.2.2)
        rw [hu0] at this
        omega
      · split
        · exact Nat.le_succ _
        · exact btS_len _ _
theorem stE_0 (wa br : Bool) (v : Int32) (p : PT) : stE wa br (Int32.ofInt 0) v p = .inl (false, p) := by
  cases wa <;> rfl
/-- a part, by at most m tokens: whether it is one, the last token, what is held -/
def erF (ws tp : List Int32) (t : Nat) : Nat → Bool → Bool → Nat → PT → Bool × (Nat × Nat × Int32 × Int32) × PT
  | 0, _, _, a, p => (false, (a, a, 0, 0), p)
  | m + 1, wa, br, a, p => match stE wa br (nxtF ws tp t a).2.2.1 (nxtF ws tp t a).2.2.2 p with
    | .inl (b, q) => (b, nxtF ws tp t a, q)
    | .inr (wa', br', q) => erF ws tp t m wa' br' (nxtF ws tp t a).2.1 q
abbrev xM (M : MS) (a b tk v : Int32) : MS := mN (mN (mN (mN M 21 a) 22 b) 23 tk) 24 v
abbrev erQ (S : CS) (M : MS) (cd0 : List Int32) (tx : Nat) (E : Bool × (Nat × Nat × Int32 × Int32) × PT) : AH → Option Value → Prop := fun h w => InP S (xM M (nI E.2.1.2.1) (nI E.2.1.1) E.2.1.2.2.1 E.2.1.2.2.2) cd0 tx E.2.2 h ∧ w = some (.int (bB E.1))
set_option maxRecDepth 100000 in
set_option maxHeartbeats 4000000 in
theorem er_loop (hM : MLen M) {t tx : Nat} (ht : M.1 6 = nI t) (ht2 : t ≤ 160) (htx : M.1 9 = nI tx) (htx6 : tx < 6) (cd0 : List Int32) : ∀ (m : Nat) (wa br : Bool) (a : Nat) (b tk v : Int32) (p : PT) (h : AH) (x : Option Value), a ≤ t → t - a < m → ptL p ≤ a → InP S (xM M (nI a) b tk v) cd0 tx p h →
    WP l (rmD 3 0 0) X sgX8_eRead kX8_eRead (erQ S M cd0 tx (erF (M.2.1 25) (M.2.1 5) t m wa br a p)) 10 [some (.ref 27), some (.int (bB wa)), some (.int (bB br)), x] [] h 0 0 := by
  intro m
  induction m with
  | zero => intro _ _ _ _ _ _ _ _ _ _ z; exact absurd z (Nat.not_lt_zero _)
  | succ m ih =>
    intro wa br a b tk v p h x hat hm hp hin
    obtain ⟨cd, hd, ho, hs, rfl⟩ := hin
    have hsp := nxt_spec (M.2.1 25) (M.2.1 5) hat
    refine run_soundF okX8_eRead lkf_X8_eRead_ok (fun i => Nat.beq i 12) 300 (kH (m_next (M := pM (xM M (nI a) b tk v) cd hd (nI p.1.length) p.2.1 (nI p.2.2.length)) (MLen.p (M := xM M (nI a) b tk v) (hm := nI p.1.length) (op := p.2.1) (ou := nI p.2.2.length) hM ho.1 hs.1) ht ht2 rfl hat) (by decide) ?_)
    have hE : erF (M.2.1 25) (M.2.1 5) t (m + 1) wa br a p = match stE wa br (nxtF (M.2.1 25) (M.2.1 5) t a).2.2.1 (nxtF (M.2.1 25) (M.2.1 5) t a).2.2.2 p with
      | .inl (b, q) => (b, nxtF (M.2.1 25) (M.2.1 5) t a, q)
      | .inr (wa', br', q) => erF (M.2.1 25) (M.2.1 5) t m wa' br' (nxtF (M.2.1 25) (M.2.1 5) t a).2.1 q := rfl
    have hl := stE_len wa br (nxtF (M.2.1 25) (M.2.1 5) t a).2.2.1 (nxtF (M.2.1 25) (M.2.1 5) t a).2.2.2 p
    refine er_step (N := xM M (nI (nxtF (M.2.1 25) (M.2.1 5) t a).2.1) (nI (nxtF (M.2.1 25) (M.2.1 5) t a).1) (nxtF (M.2.1 25) (M.2.1 5) t a).2.2.1 (nxtF (M.2.1 25) (M.2.1 5) t a).2.2.2) hM htx htx6 (p := p) (by show ptL p < 199; omega) ho hs ?_ ?_
    · intro b' q h' he hq
      have he : stE wa br (nxtF (M.2.1 25) (M.2.1 5) t a).2.2.1 (nxtF (M.2.1 25) (M.2.1 5) t a).2.2.2 p = .inl (b', q) := he
      rw [he] at hE
      rw [hE]
      exact ⟨hq, rfl⟩
    · intro wa' br' q h' x' he hq
      have he : stE wa br (nxtF (M.2.1 25) (M.2.1 5) t a).2.2.1 (nxtF (M.2.1 25) (M.2.1 5) t a).2.2.2 p = .inr (wa', br', q) := he
      have hlt : a < (nxtF (M.2.1 25) (M.2.1 5) t a).2.1 := by
        rcases hsp.2.2.2 with z | z
        · rw [z, stE_0] at he
          cases he
        · exact z
      rw [he] at hE hl
      rw [hE]
      exact ih wa' br' _ _ _ _ q h' x' hsp.1 (by omega) (by have : ptL q ≤ ptL p + 1 := hl; omega) hq
end EREAD2
end
section
-- 52.text
/-! THE REFERENCE reads a text -/
section TEXT
variable {l : Launch} {X : List (List Int32)} {S : CS} {M : MS}
set_option maxRecDepth 100000 in
set_option maxHeartbeats 4000000 in
theorem m_eRead (hM : MLen M) {t tx a : Nat} (ht : M.1 6 = nI t) (ht2 : t ≤ 160) (htx : M.1 9 = nI tx) (htx6 : tx < 6) (hat : M.1 21 = nI a) (ha : a ≤ t) {cd0 oc : List Int32} (hou : M.1 29 = nI oc.length) (hoc : oc.length ≤ a) (ho : OutR cd0 (M.2.1 7) tx oc) :
    Ctr l 3 X sgX8_eRead [.ref 27] (mk S M) (erQ S M cd0 tx (erF (M.2.1 25) (M.2.1 5) t (t + 1) true true a ([], Int32.ofInt 0, oc))) := by
  have h26 : (M.2.1 26).length = 200 := hM.2.2.2.2.2.2.2.2.2.2.2.2.2.1
  refine Ctr.of okX8_eRead rfl (Nat.le_of_ble_eq_true rfl) (run_soundF okX8_eRead lkf_X8_eRead_ok (fun i => Nat.beq i 10) 300 (And.intro trivial (And.intro trivial ?_)))
  refine er_loop hM ht ht2 htx htx6 cd0 (t + 1) true true a (M.1 22) (M.1 23) (M.1 24) ([], Int32.ofInt 0, oc) _ none ha (by omega) (by simpa [ptL] using hoc) ⟨M.2.1 7, M.2.1 26, ho, ⟨h26, by simp, rfl⟩, ?_⟩
  show mk S (mN (mN M 27 (Int32.ofInt 0)) 28 (Int32.ofInt 0)) = mk S (pM (xM M (nI a) (M.1 22) (M.1 23) (M.1 24)) (M.2.1 7) (M.2.1 26) (nI 0) (Int32.ofInt 0) (nI oc.length))
  rw [← hat, ← hou]
  rfl
theorem er_spec (ws tp : List Int32) (t : Nat) : ∀ (m : Nat) (wa br : Bool) (a : Nat) (p : PT), a ≤ t → ptL p ≤ a → (erF ws tp t m wa br a p).2.1.2.1 ≤ t ∧ ptL (erF ws tp t m wa br a p).2.2 ≤ (erF ws tp t m wa br a p).2.1.2.1 := by
  intro m
  induction m with
  | zero => intro _ _ a p ha hp; exact ⟨ha, hp⟩
  | succ m ih =>
    intro wa br a p ha hp
    have hsp := nxt_spec ws tp ha
    have hl := stE_len wa br (nxtF ws tp t a).2.2.1 (nxtF ws tp t a).2.2.2 p
    unfold erF
    revert hl
    cases he : stE wa br (nxtF ws tp t a).2.2.1 (nxtF ws tp t a).2.2.2 p with
    | inl e =>
      intro hl
      obtain ⟨b, q⟩ := e
      refine ⟨hsp.1, ?_⟩
      show ptL q ≤ (nxtF ws tp t a).2.1
      rcases hsp.2.2.2 with z | z
      · rw [z, stE_0] at he
        cases he
        omega
      · have hl : ptL q ≤ ptL p + 1 := hl
        omega
    | inr e =>
      intro hl
      obtain ⟨wa', br', q⟩ := e
      have hl : ptL q ≤ ptL p + 1 := hl
      have hlt : a < (nxtF ws tp t a).2.1 := by
        rcases hsp.2.2.2 with z | z
        · rw [z, stE_0] at he
          cases he
        · exact z
      exact ih wa' br' _ q hsp.1 (by omega)
def hdF (r : Nat × Nat × Int32 × Int32) (p : Nat) : Bool := if r.2.2.1 = Int32.ofInt 3 then (if r.2.2.2 = nI p then true else false) else false
/-- so far: whether it is one, at, begun, codes, starts -/
abbrev TS : Type := Bool × Nat × Int32 × List Int32 × List Int32
def txL (ws tp : List Int32) (t tx : Nat) : Nat → Nat → TS → TS
  | 0, _, T => T
  | m + 1, p, T => if T.1 = true then
      (if hdF (nxtF ws tp t T.2.1) p = true then
        txL ws tp t tx m (p + 1) ((erF ws tp t (t + 1) true true (nxtF ws tp t T.2.1).2.1 ([], Int32.ofInt 0, T.2.2.2.1)).1,
          (erF ws tp t (t + 1) true true (nxtF ws tp t T.2.1).2.1 ([], Int32.ofInt 0, T.2.2.2.1)).2.1.2.1,
          nI (erF ws tp t (t + 1) true true (nxtF ws tp t T.2.1).2.1 ([], Int32.ofInt 0, T.2.2.2.1)).2.1.1,
          (erF ws tp t (t + 1) true true (nxtF ws tp t T.2.1).2.1 ([], Int32.ofInt 0, T.2.2.2.1)).2.2.2.2, T.2.2.2.2.set (4 * tx + p) (nI T.2.2.2.1.length))
      else (false, (nxtF ws tp t T.2.1).2.1, nI (nxtF ws tp t T.2.1).1, T.2.2.2.1, T.2.2.2.2.set (4 * tx + p) (nI T.2.2.2.1.length)))
    else T
theorem txL_no {ws tp : List Int32} {t tx : Nat} (m p : Nat) {a : Nat} {b : Int32} {oc st : List Int32} : txL ws tp t tx m p (false, a, b, oc, st) = (false, a, b, oc, st) := by
  cases m with
  | zero => rfl
  | succ m => exact if_neg Bool.false_ne_true
/-- the end: whether it is one, begun -/
def txE (ws tp : List Int32) (t : Nat) (T : TS) : Bool × Int32 :=
  if T.1 = true then (if (nxtF ws tp t T.2.1).2.2.1 = Int32.ofInt 0 then (true, nI (nxtF ws tp t T.2.1).1) else (false, nI (nxtF ws tp t T.2.1).1)) else (false, T.2.2.1)
def InT (S : CS) (M : MS) (cd0 : List Int32) (tx : Nat) (a b : Int32) (oc st : List Int32) (h : AH) : Prop := ∃ cd hd hm op tk v, OutR cd0 cd tx oc ∧ hd.length = 200 ∧ h = mk S (mR (pM (xM M a b tk v) cd hd hm op (nI oc.length)) 8 st)
abbrev txQ (S : CS) (M : MS) (t tx : Nat) (T : TS) : AH → Option Value → Prop := fun h w => (∃ a, InT S (mN (mN M 6 (Int32.ofInt 0)) 9 (if (txE (M.2.1 25) (M.2.1 5) t T).1 = true then nI (tx + 1) else nI tx)) (M.2.1 7) tx a (txE (M.2.1 25) (M.2.1 5) t T).2 T.2.2.2.1 (T.2.2.2.2.set (4 * tx + 3) (nI T.2.2.2.1.length)) h) ∧
  w = some (.int (if (txE (M.2.1 25) (M.2.1 5) t T).1 = true then nI tx else Int32.ofInt (-100) - (txE (M.2.1 25) (M.2.1 5) t T).2))
def cNt (i : Nat) : Bool := Nat.beq i 16 || Nat.beq i 35 || Nat.beq i 53 || Nat.beq i 57 || Nat.beq i 68
set_option maxRecDepth 100000 in
set_option maxHeartbeats 4000000 in
theorem tx_last (hM : MLen M) {t tx : Nat} (ht : M.1 6 = nI t) (ht2 : t ≤ 160) (htx : M.1 9 = nI tx) (htx6 : tx < 6) (T : TS) (ha : T.2.1 ≤ t) (hst : T.2.2.2.2.length = 24) {h : AH} (hin : InT S M (M.2.1 7) tx (nI T.2.1) T.2.2.1 T.2.2.2.1 T.2.2.2.2 h) (x : Option Value) :
    WP l (rmD 4 0 0) X sgX8_text kX8_text (txQ S M t tx T) 57 [some (.ref 27), some (.int (bB T.1)), x] [] h 0 0 := by
  obtain ⟨ok, a, b, oc, st⟩ := T
  have hst : st.length = 24 := hst
  have e68 : ∀ (ok2 : Bool) (a2 b2 : Int32) (h : AH), txE (M.2.1 25) (M.2.1 5) t (ok, a, b, oc, st) = (ok2, b2) → InT S M (M.2.1 7) tx a2 b2 oc st h → WP l (rmD 4 0 0) X sgX8_text kX8_text (txQ S M t tx (ok, a, b, oc, st)) 68 [some (.ref 27), some (.int (bB ok2)), x] [] h 0 0 := by
    rintro ok2 a2 b2 h he ⟨cd, hd, hm, op, tk, v, ho, hhd, rfl⟩
    have e : Int32.ofInt 4 * M.1 9 + Int32.ofInt 3 = nI (4 * tx + 3) := by
      rw [htx, show Int32.ofInt 4 * nI tx = nI (4 * tx) from nI_mul 4 tx, show Int32.ofInt 3 = nI 3 from rfl, nI_add]
    refine run_sound okX8_text cNt 300 (Exists.intro _ (And.intro rfl (And.intro (show vp_in (Int32.ofInt 4 * M.1 9 + Int32.ofInt 3) st.length by rw [e, hst]; exact vp_nI (by omega) (by decide)) (And.intro trivial (And.intro (fun q => ?_) (fun q => ?_))))))
    · have hk : ok2 = false := by
        cases ok2 with
        | false => rfl
        | true => exact absurd q (by decide)
      subst hk
      unfold txQ
      rw [he]
      refine ⟨⟨a2, cd, hd, hm, op, tk, v, ho, hhd, ?_⟩, rfl⟩
      show mk S (mR (pM (xM (mN M 6 (Int32.ofInt 0)) a2 b2 tk v) cd hd hm op (nI oc.length)) 8 (st.set (Int32.ofInt 4 * M.1 9 + Int32.ofInt 3).toNatClampNeg (nI oc.length))) = mk S (mR (pM (xM (mN (mN M 6 (Int32.ofInt 0)) 9 (nI tx)) a2 b2 tk v) cd hd hm op (nI oc.length)) 8 (st.set (4 * tx + 3) (nI oc.length)))
      rw [e, nI_clamp (by omega), ← htx]
      rfl
    · have hk : ok2 = true := by
        cases ok2 with
        | false => exact absurd rfl q
        | true => rfl
      subst hk
      refine And.intro rfl (And.intro trivial ?_)
      unfold txQ
      rw [he]
      refine ⟨⟨a2, cd, hd, hm, op, tk, v, ho, hhd, ?_⟩, some_int ?_⟩
      · show mk S (mR (pM (xM (mN (mN M 6 (Int32.ofInt 0)) 9 (M.1 9 + 1)) a2 b2 tk v) cd hd hm op (nI oc.length)) 8 (st.set (Int32.ofInt 4 * M.1 9 + Int32.ofInt 3).toNatClampNeg (nI oc.length))) = mk S (mR (pM (xM (mN (mN M 6 (Int32.ofInt 0)) 9 (nI (tx + 1))) a2 b2 tk v) cd hd hm op (nI oc.length)) 8 (st.set (4 * tx + 3) (nI oc.length)))
        rw [e, nI_clamp (by omega), htx, nI_1]
      · show M.1 9 + 1 - Int32.ofInt 1 = nI tx
        rw [htx]
        exact Int32.add_sub_cancel _ _
  refine run_sound okX8_text cNt 300 (brBB (fun z => ?_) (fun z => ?_))
  · have z : ok = false := z
    subst z
    exact e68 false (nI a) b _ (if_neg Bool.false_ne_true) hin
  · have z : ok = true := z
    subst z
    obtain ⟨cd, hd, hm, op, tk, v, ho, hhd, rfl⟩ := hin
    have hM2 : MLen (mR (pM (xM M (nI a) b tk v) cd hd hm op (nI oc.length)) 8 st) := by
      obtain ⟨a1, a2, a3, a4, a5, a6, a7, a8, a9, a10, a11, a12, a13, a14, a15, a16, a17, a18⟩ := hM
      exact ⟨a1, a2, a3, a4, ho.1, hst, a7, a8, a9, a10, a11, a12, a13, hhd, a15, a16, a17, a18⟩
    refine kH (m_next (M := mR (pM (xM M (nI a) b tk v) cd hd hm op (nI oc.length)) 8 st) hM2 ht ht2 rfl ha) (by decide) (And.intro (fun q => ?_) (fun q => ?_))
    · have q : (nxtF (M.2.1 25) (M.2.1 5) t a).2.2.1 = Int32.ofInt 0 := q
      exact e68 true _ _ _ ((if_pos rfl).trans (if_pos q)) ⟨cd, hd, hm, op, _, _, ho, hhd, rfl⟩
    · have q : ¬ (nxtF (M.2.1 25) (M.2.1 5) t a).2.2.1 = Int32.ofInt 0 := q
      exact e68 false _ _ _ ((if_pos rfl).trans (if_neg q)) ⟨cd, hd, hm, op, _, _, ho, hhd, rfl⟩
set_option maxRecDepth 100000 in
set_option maxHeartbeats 4000000 in
theorem m_text (hM : MLen M) {t tx : Nat} (ht : M.1 6 = nI t) (ht2 : t ≤ 160) (htx : M.1 9 = nI tx) (htx6 : tx < 6) :
    Ctr l 4 X sgX8_text [.ref 27] (mk S M) (txQ S M t tx (txL (M.2.1 25) (M.2.1 5) t tx 3 0 (true, 0, M.1 22, [], M.2.1 8))) := by
  obtain ⟨W, hW⟩ : ∃ W, txL (M.2.1 25) (M.2.1 5) t tx 3 0 (true, 0, M.1 22, [], M.2.1 8) = W := ⟨_, rfl⟩
  rw [hW]
  have h7 : (M.2.1 7).length = 1200 := hM.2.2.2.2.1
  have h8 : (M.2.1 8).length = 24 := hM.2.2.2.2.2.1
  have h26 : (M.2.1 26).length = 200 := hM.2.2.2.2.2.2.2.2.2.2.2.2.2.1
  have key : ∀ p, p ≤ 3 → ∀ (T : TS) (h : AH), T.2.1 ≤ t → T.2.2.2.1.length ≤ T.2.1 → T.2.2.2.2.length = 24 → InT S M (M.2.1 7) tx (nI T.2.1) T.2.2.1 T.2.2.2.1 T.2.2.2.2 h → W = txL (M.2.1 25) (M.2.1 5) t tx (3 - p) p T → WP l (rmD 4 0 0) X sgX8_text kX8_text (txQ S M t tx W) 16 [some (.ref 27), some (.int (bB T.1)), some (.int (nI p))] [] h 0 0 := by
    refine down (fun T h ha hc hst hin he => ?_) (fun p hp ih T h ha hc hst hin he => ?_)
    · obtain ⟨cd, hd, hm, op, tk, v, ho, hhd, rfl⟩ := id hin
      have he : W = T := he
      subst he
      exact run_sound okX8_text cNt 300 (brT (Int32.le_refl _) (tx_last hM ht ht2 htx htx6 _ ha hst hin _))
    · rw [show 3 - p = (3 - (p + 1)) + 1 by omega, txL] at he
      obtain ⟨cd, hd, hm, op, tk, v, ho, hhd, rfl⟩ := id hin
      refine run_sound okX8_text cNt 300 (brF (ge_no (n := 3) rfl hp (by decide)) (brBB (fun z => ?_) (fun z => ?_)))
      · rw [if_neg (by rw [z]; decide)] at he
        subst he
        exact tx_last hM ht ht2 htx htx6 _ ha hst hin _
      · rw [if_pos z] at he
        obtain ⟨ok, a, b, oc, st⟩ := T
        have z : ok = true := z
        subst z
        have ha : a ≤ t := ha
        have hc : oc.length ≤ a := hc
        have hst : st.length = 24 := hst
        have hM2 : ∀ st : List Int32, st.length = 24 → MLen (mR (pM (xM M (nI a) b tk v) cd hd hm op (nI oc.length)) 8 st) := by
          intro st hst
          obtain ⟨a1, a2, a3, a4, a5, a6, a7, a8, a9, a10, a11, a12, a13, a14, a15, a16, a17, a18⟩ := hM
          exact ⟨a1, a2, a3, a4, ho.1, hst, a7, a8, a9, a10, a11, a12, a13, hhd, a15, a16, a17, a18⟩
        have hsp := nxt_spec (M.2.1 25) (M.2.1 5) ha
        have e : Int32.ofInt 4 * M.1 9 + nI p = nI (4 * tx + p) := by
          rw [htx, show Int32.ofInt 4 * nI tx = nI (4 * tx) from nI_mul 4 tx, nI_add]
        have v1 : vp_in (Int32.ofInt 4 * M.1 9 + nI p) st.length := by rw [e, hst]; exact vp_nI (by omega) (by decide)
        have hst2 : (st.set (4 * tx + p) (nI oc.length)).length = 24 := by rw [List.length_set]; exact hst
        -- rows 53 ..: the next part
        have at53 : ∀ (x : Int32) (a2 : Nat) (b2 : Int32) (oc2 : List Int32) (h : AH), a2 ≤ t → oc2.length ≤ a2 → InT S M (M.2.1 7) tx (nI a2) b2 oc2 (st.set (4 * tx + p) (nI oc.length)) h → W = txL (M.2.1 25) (M.2.1 5) t tx (3 - (p + 1)) (p + 1) (false, a2, b2, oc2, st.set (4 * tx + p) (nI oc.length)) → WP l (rmD 4 0 0) X sgX8_text kX8_text (txQ S M t tx W) 53 [some (.ref 27), some (.int x), some (.int (nI p))] [] h 0 0 := by
          intro x a2 b2 oc2 h ha2 hc2 hin2 he2
          have ih := ih (false, a2, b2, oc2, st.set (4 * tx + p) (nI oc.length)) h ha2 hc2 hst2 hin2 he2
          obtain ⟨cd, hd, hm, op, tk, v, ho, hhd, rfl⟩ := hin2
          rw [← nI_1 p] at ih
          exact run_sound okX8_text cNt 300 ih
        have at35 : ∀ o : Bool, hdF (nxtF (M.2.1 25) (M.2.1 5) t a) p = o → WP l (rmD 4 0 0) X sgX8_text kX8_text (txQ S M t tx W) 35 [some (.ref 27), some (.int (bB o)), some (.int (nI p))] [] (mk S (mR (pM (xM M (nI (nxtF (M.2.1 25) (M.2.1 5) t a).2.1) (nI (nxtF (M.2.1 25) (M.2.1 5) t a).1) (nxtF (M.2.1 25) (M.2.1 5) t a).2.2.1 (nxtF (M.2.1 25) (M.2.1 5) t a).2.2.2) cd hd hm op (nI oc.length)) 8 st)) 0 0 := by
          intro o hoo
          have hE := er_spec (M.2.1 25) (M.2.1 5) t (t + 1) true true (nxtF (M.2.1 25) (M.2.1 5) t a).2.1 ([], Int32.ofInt 0, oc) hsp.1 (by simp [ptL]; omega)
          generalize hr : nxtF (M.2.1 25) (M.2.1 5) t a = r at hoo hE hsp he
          obtain ⟨rb, ra, rt, rv⟩ := r
          have hra : ra ≤ t := hsp.1
          have hra2 : a ≤ ra := hsp.2.1
          have e24 : st.set (Int32.ofInt 4 * M.1 9 + nI p).toNatClampNeg (nI oc.length) = st.set (4 * tx + p) (nI oc.length) := by rw [e, nI_clamp (by omega)]
          refine run_sound okX8_text cNt 300 (Exists.intro _ (And.intro rfl (And.intro v1 (brBB (fun z => ?_) (fun z => ?_)))))
          · subst z
            rw [if_neg (by rw [show hdF (rb, ra, rt, rv) p = false from hoo]; decide)] at he
            refine at53 _ ra (nI rb) oc _ hra (by omega) ⟨cd, hd, hm, op, rt, rv, ho, hhd, ?_⟩ (he.trans (txL_no _ _).symm)
            show mk S (mR (pM (xM M (nI ra) (nI rb) rt rv) cd hd hm op (nI oc.length)) 8 (st.set (Int32.ofInt 4 * M.1 9 + nI p).toNatClampNeg (nI oc.length))) = _
            rw [e24]
          · subst z
            rw [if_pos hoo] at he
            have hM3 : MLen (mR (pM (xM M (nI ra) (nI rb) rt rv) cd hd hm op (nI oc.length)) 8 (st.set (Int32.ofInt 4 * M.1 9 + nI p).toNatClampNeg (nI oc.length))) := hM2 _ (by rw [List.length_set]; exact hst)
            have hctr : Ctr l 3 X sgX8_eRead [.ref 27] (mk S (mR (pM (xM M (nI ra) (nI rb) rt rv) cd hd hm op (nI oc.length)) 8 (st.set (Int32.ofInt 4 * M.1 9 + nI p).toNatClampNeg (nI oc.length)))) (erQ S (mR (pM (xM M (nI ra) (nI rb) rt rv) cd hd hm op (nI oc.length)) 8 (st.set (Int32.ofInt 4 * M.1 9 + nI p).toNatClampNeg (nI oc.length))) (M.2.1 7) tx (erF (M.2.1 25) (M.2.1 5) t (t + 1) true true ra ([], Int32.ofInt 0, oc))) := m_eRead hM3 ht ht2 htx htx6 rfl hra rfl (by omega) ho
            have hE : (erF (M.2.1 25) (M.2.1 5) t (t + 1) true true ra ([], Int32.ofInt 0, oc)).2.1.2.1 ≤ t ∧ ptL (erF (M.2.1 25) (M.2.1 5) t (t + 1) true true ra ([], Int32.ofInt 0, oc)).2.2 ≤ (erF (M.2.1 25) (M.2.1 5) t (t + 1) true true ra ([], Int32.ofInt 0, oc)).2.1.2.1 := hE
            have he : W = txL (M.2.1 25) (M.2.1 5) t tx (3 - (p + 1)) (p + 1) ((erF (M.2.1 25) (M.2.1 5) t (t + 1) true true ra ([], Int32.ofInt 0, oc)).1, (erF (M.2.1 25) (M.2.1 5) t (t + 1) true true ra ([], Int32.ofInt 0, oc)).2.1.2.1, nI (erF (M.2.1 25) (M.2.1 5) t (t + 1) true true ra ([], Int32.ofInt 0, oc)).2.1.1, (erF (M.2.1 25) (M.2.1 5) t (t + 1) true true ra ([], Int32.ofInt 0, oc)).2.2.2.2, st.set (4 * tx + p) (nI oc.length)) := he
            generalize erF (M.2.1 25) (M.2.1 5) t (t + 1) true true ra ([], Int32.ofInt 0, oc) = E at hctr hE he
            obtain ⟨eo, ⟨eb, ea, et, ev⟩, eh, eop, eoc⟩ := E
            have hea : ea ≤ t := hE.1
            have hec : eh.length + eoc.length ≤ ea := hE.2
            refine ⟨3, _, by decide, hctr, ?_⟩
            rintro hp' w ⟨⟨cd', hd', ho', hs', rfl⟩, rfl⟩
            have hin3 : InT S M (M.2.1 7) tx (nI ea) (nI eb) eoc (st.set (4 * tx + p) (nI oc.length)) (mk S (pM (xM (mR (pM (xM M (nI ra) (nI rb) rt rv) cd hd hm op (nI oc.length)) 8 (st.set (Int32.ofInt 4 * M.1 9 + nI p).toNatClampNeg (nI oc.length))) (nI ea) (nI eb) et ev) cd' hd' (nI eh.length) eop (nI eoc.length))) := by
              refine ⟨cd', hd', nI eh.length, eop, et, ev, ho', hs'.1, ?_⟩
              show mk S (mR (pM (xM M (nI ea) (nI eb) et ev) cd' hd' (nI eh.length) eop (nI eoc.length)) 8 (st.set (Int32.ofInt 4 * M.1 9 + nI p).toNatClampNeg (nI oc.length))) = _
              rw [e24]
            refine brBB (fun z => ?_) (fun z => ?_)
            · have z : eo = false := z
              subst z
              exact at53 _ ea (nI eb) eoc _ hea (by omega) hin3 he
            · have z : eo = true := z
              subst z
              have ih := ih (true, ea, nI eb, eoc, st.set (4 * tx + p) (nI oc.length)) _ hea (by show eoc.length ≤ ea; omega) hst2 hin3 he
              rw [← nI_1 p] at ih
              exact ih
        refine kH (m_next (M := mR (pM (xM M (nI a) b tk v) cd hd hm op (nI oc.length)) 8 st) (hM2 st hst) ht ht2 rfl ha) (by decide) (And.intro (fun q => And.intro (fun q2 => ?_) (fun q2 => ?_)) (fun q => ?_))
        · exact at35 true ((if_pos q).trans (if_pos q2))
        · exact at35 false ((if_pos q).trans (if_neg q2))
        · exact at35 false (if_neg q)
  have h0 := key 0 (Nat.zero_le _) (true, 0, M.1 22, [], M.2.1 8) (mk S (mN (mN M 21 (Int32.ofInt 0)) 29 (Int32.ofInt 0))) (Nat.zero_le _) (Nat.zero_le _) h8 ⟨M.2.1 7, M.2.1 26, M.1 27, M.1 28, M.1 23, M.1 24, ⟨h7, fun _ _ => rfl, rfl⟩, h26, rfl⟩ hW.symm
  refine Ctr.of okX8_text rfl (Nat.le_of_ble_eq_true rfl) (run_sound okX8_text cNt 300 (And.intro (fun q => ?_) (fun q => And.intro trivial (And.intro trivial h0))))
  have q : M.1 9 = nI 6 := q
  rw [htx] at q
  have := (nI_eq (by omega) (by decide)).mp q
  omega
end TEXT
end
section
-- 53.accept
/-! WHAT THE REFERENCE takes can be run -/
section ACCEPT
theorem of_ge0 {i : Int32} (h : Int32.ofInt 0 ≤ i) : i = nI i.toNatClampNeg ∧ i.toNatClampNeg < 2 ^ 31 := by
  have h1 : (0 : Int) ≤ i.toInt := Int32.le_iff_toInt_le.mp h
  have h2 : (i.toNatClampNeg : Int) = i.toInt := by
    unfold Int32.toNatClampNeg
    omega
  have h3 := Int32.toInt_lt i
  have h4 : i.toNatClampNeg < 2 ^ 31 := by omega
  refine ⟨?_, h4⟩
  apply Int32.toInt_inj.mp
  rw [nI_toInt h4, h2]
theorem of_dig {d : Int32} (h : isDig d) : ∃ e, e ≤ 9 ∧ d = nI (48 + e) := by
  have h0 : Int32.ofInt 0 ≤ d := Int32.le_trans (by decide) h.1
  obtain ⟨e1, e2⟩ := of_ge0 h0
  have a1 : 48 ≤ d.toNatClampNeg := by
    have q : nI 48 ≤ d := h.1
    rw [e1] at q
    exact (nI_leI (by decide) e2).mp q
  have a2 : d.toNatClampNeg ≤ 57 := by
    have q : d ≤ nI 57 := h.2
    rw [e1] at q
    exact (nI_leI e2 (by decide)).mp q
  exact ⟨d.toNatClampNeg - 48, by omega, by rw [Nat.add_sub_cancel' a1]; exact e1⟩
theorem dgR_val (tp : List Int32) : ∀ m a n v, n + m < 2 ^ 31 → (n ≤ 4 → ∃ w, w < 10 ^ n ∧ v = nI w) →
    ((dgR tp m a n v).2.1 ≤ n + m ∧ ((dgR tp m a n v).2.1 ≤ 4 → ∃ w, w < 10 ^ (dgR tp m a n v).2.1 ∧ (dgR tp m a n v).2.2 = nI w))
  | 0, _, n, v, _, h => ⟨Nat.le_refl _, h⟩
  | m + 1, a, n, v, hm, h => by
    unfold dgR
    split
    · rename_i hd
      have ih := dgR_val tp m (a + 1) (n + 1) (if Int32.ofInt 4 ≤ nI n then Int32.ofInt 0 else Int32.ofInt 10 * v + tp.getD a 0 - Int32.ofInt 48) (by omega) (fun h4 => by
        obtain ⟨w, hw, rfl⟩ := h (by omega)
        have n4 : ¬ Int32.ofInt 4 ≤ nI n := by
          have : ¬ nI 4 ≤ nI n := by rw [nI_leI (by decide) (by omega)]; omega
          exact this
        rw [if_neg n4]
        obtain ⟨e, he, hde⟩ := of_dig hd
        refine ⟨10 * w + e, by rw [Nat.pow_succ]; omega, ?_⟩
        rw [hde, show Int32.ofInt 10 * nI w = nI (10 * w) from nI_mul 10 w, nI_add, show 10 * w + (48 + e) = (10 * w + e) + 48 by omega, ← nI_add]
        exact Int32.add_sub_cancel _ _)
      exact ⟨by omega, ih.2⟩
    · exact ⟨Nat.le_add_right _ _, h⟩
/-- what a token may hold -/
def tkOk (tk v : Int32) : Prop := (tk = Int32.ofInt 1 → Int32.ofInt 100000 ≤ Int32.ofInt 100000 + v) ∧ (tk = Int32.ofInt 2 → Int32.ofInt 0 ≤ v ∧ v < Int32.ofInt 6)
theorem tkW_ok : ∀ k, k ≤ 12 → (¬ tkV (nI k) = Int32.ofInt 1) ∧ (tkV (nI k) = Int32.ofInt 2 → Int32.ofInt 0 ≤ vaV (nI k) ∧ vaV (nI k) < Int32.ofInt 6) := by decide +kernel
theorem nxt_val (ws tp : List Int32) {t a : Nat} (ht : t < 2 ^ 31) : tkOk (nxtF ws tp t a).2.2.1 (nxtF ws tp t a).2.2.2 := by
  unfold nxtF
  generalize skR tp (t - a) a = b
  unfold nextT
  split
  · exact ⟨fun z => absurd z (show ¬ Int32.ofInt 0 = Int32.ofInt 1 by decide), fun z => absurd z (show ¬ Int32.ofInt 0 = Int32.ofInt 2 by decide)⟩
  · split
    · have h := tkW_ok (wfF ws tp b (runW tp (t - b) b) 12 0) (wfF_le ws tp b (runW tp (t - b) b) 12 0 rfl)
      exact ⟨fun z => absurd z h.1, h.2⟩
    · split
      · have h := dgR_val tp (t - b) b 0 (Int32.ofInt 0) (by omega) (fun _ => ⟨0, by decide, rfl⟩)
        revert h
        generalize dgR tp (t - b) b 0 (Int32.ofInt 0) = D
        intro h
        show tkOk (if nI D.2.1 ≤ Int32.ofInt 4 then Int32.ofInt 1 else Int32.ofInt (-1)) D.2.2
        split
        · rename_i q
          have q : nI D.2.1 ≤ nI 4 := q
          rw [nI_leI (by omega) (by decide)] at q
          obtain ⟨w, hw, hv⟩ := h.2 q
          refine ⟨fun _ => ?_, fun z => absurd z (by decide)⟩
          rw [hv, show Int32.ofInt 100000 = nI 100000 from rfl, nI_add]
          have : 10 ^ D.2.1 ≤ 10 ^ 4 := Nat.pow_le_pow_right (by decide) q
          exact nI_le (by omega) (by omega)
        · exact ⟨fun z => absurd z (by decide), fun z => absurd z (by decide)⟩
      · show tkOk (if sgR (tp.getD b 0) = true then tp.getD b 0 else Int32.ofInt (-1)) (Int32.ofInt 0)
        split
        · rename_i q
          refine ⟨fun z => ?_, fun z => ?_⟩
          · rw [z] at q
            exact absurd q (by decide)
          · rw [z] at q
            exact absurd q (by decide)
        · exact ⟨fun z => absurd z (by decide), fun z => absurd z (by decide)⟩
def unS (s : Int32) : Prop := s = Int32.ofInt 13 ∨ s = Int32.ofInt 19
def biS (s : Int32) : Bool := s == Int32.ofInt 11 || s == Int32.ofInt 12 || s == Int32.ofInt 14 || s == Int32.ofInt 15 || s == Int32.ofInt 16 || s == Int32.ofInt 17 || s == Int32.ofInt 18
def nbS : List Int32 → Nat
  | [] => 0
  | s :: r => nbS r + if biS s = true then 1 else 0
def hsOk (hs : List Int32) : Prop := ∀ s, s ∈ hs → s = Int32.ofInt 0 ∨ unS s ∨ biS s = true
/-- run on nothing, codes leave n numbers -/
def Ht (c : List Int32) (n : Nat) : Prop := ∀ nm, ∃ st, evR nm c [] = some st ∧ st.length = n
theorem evR_app (nm : List Int32) (d : List Int32) : ∀ c st, evR nm (c ++ d) st = (evR nm c st).bind (evR nm d)
  | [], _ => rfl
  | x :: c, st => by
    show (stpR nm x st).bind (evR nm (c ++ d)) = ((stpR nm x st).bind (evR nm c)).bind (evR nm d)
    cases stpR nm x st with
    | none => rfl
    | some q => exact evR_app nm d c q
theorem evR_one {nm : List Int32} {c : Int32} {st : List Int32} : evR nm [c] st = stpR nm c st := by
  show (stpR nm c st).bind (fun q => some q) = _
  cases stpR nm c st <;> rfl
theorem Ht_num {c : List Int32} {n : Nat} {v : Int32} (h : Ht c n) (hv : Int32.ofInt 100000 ≤ v) : Ht (c ++ [v]) (n + 1) := by
  intro nm
  obtain ⟨st, h1, h2⟩ := h nm
  refine ⟨(v - 100000) :: st, ?_, by simp [h2]⟩
  rw [evR_app, h1]
  show evR nm [v] st = _
  rw [evR_one]
  exact if_pos hv
theorem Ht_name {c : List Int32} {n : Nat} {v : Int32} (h : Ht c n) (hv : Int32.ofInt 0 ≤ v ∧ v < Int32.ofInt 6) : Ht (c ++ [v]) (n + 1) := by
  intro nm
  obtain ⟨st, h1, h2⟩ := h nm
  refine ⟨nm.getD v.toNatClampNeg 0 :: st, ?_, by simp [h2]⟩
  rw [evR_app, h1]
  show evR nm [v] st = _
  rw [evR_one]
  have a1 : ¬ (100000 : Int32) ≤ v := fun z => absurd (Int32.lt_of_le_of_lt z hv.2) (by decide)
  have a2 : v < 11 := Int32.lt_trans hv.2 (by decide)
  exact (if_neg a1).trans ((if_pos a2).trans (if_pos hv))
theorem Ht_un {c : List Int32} {n : Nat} {s : Int32} (h : Ht c (n + 1)) (hs : unS s) : Ht (c ++ [s]) (n + 1) := by
  intro nm
  obtain ⟨st, h1, h2⟩ := h nm
  cases st with
  | nil => cases h2
  | cons a r =>
    rcases hs with rfl | rfl
    · refine ⟨(if a = 0 then 1 else 0) :: r, ?_, h2⟩
      rw [evR_app, h1]; rfl
    · refine ⟨(-a) :: r, ?_, h2⟩
      rw [evR_app, h1]; rfl
theorem biS_spec {s : Int32} (h : biS s = true) : s = Int32.ofInt 11 ∨ s = Int32.ofInt 12 ∨ s = Int32.ofInt 14 ∨ s = Int32.ofInt 15 ∨ s = Int32.ofInt 16 ∨ s = Int32.ofInt 17 ∨ s = Int32.ofInt 18 := by
  simpa [biS, or_assoc] using h
theorem Ht_bi {c : List Int32} {n : Nat} {s : Int32} (h : Ht c (n + 1 + 1)) (hs : biS s = true) : Ht (c ++ [s]) (n + 1) := by
  intro nm
  obtain ⟨st, h1, h2⟩ := h nm
  match st, h2 with
  | b :: a :: r, h2 =>
    refine ⟨twoF s a b :: r, ?_, by simpa using h2⟩
    rw [evR_app, h1]
    rcases biS_spec hs with rfl | rfl | rfl | rfl | rfl | rfl | rfl <;> rfl
end ACCEPT
end
section
-- 54.accept2
/-! WHAT THE REFERENCE takes can be run: parts and texts -/
section ACCEPT2
def InvP (oc0 : List Int32) (wa : Bool) (p : PT) : Prop := hsOk p.1 ∧ ∃ c, p.2.2 = oc0 ++ c ∧ Ht c (nbS p.1 + if wa = true then 0 else 1)
theorem hsOk_tl {s : Int32} {hs : List Int32} (h : hsOk (s :: hs)) : hsOk hs := fun x hx => h x (List.mem_cons_of_mem _ hx)
theorem hsOk_push {s : Int32} {hs : List Int32} (h : hsOk hs) (h0 : s = Int32.ofInt 0 ∨ unS s ∨ biS s = true) : hsOk (s :: hs) := by
  intro x hx
  rcases List.mem_cons.mp hx with rfl | hx
  · exact h0
  · exact h x hx
theorem un_nb {s : Int32} (h : unS s) : biS s = false := by
  rcases h with rfl | rfl <;> decide
theorem unwF_inv {oc0 : List Int32} {r : Int32} (hr : Int32.ofInt 0 < r) : ∀ hs op oc, InvP oc0 false (hs, op, oc) → InvP oc0 false (unwF r hs op oc)
  | [], _, _, h => h
  | s :: hs, op, oc, h => by
    unfold unwF
    split
    · exact h
    · rename_i q
      obtain ⟨h1, c, hc, h2⟩ := h
      have hc : oc = oc0 ++ c := hc
      have h1 : hsOk (s :: hs) := h1
      have h2 : Ht c ((nbS hs + if biS s = true then 1 else 0) + 1) := h2
      apply unwF_inv hr hs
      refine ⟨hsOk_tl h1, c ++ [s], by show oc ++ [s] = _; rw [hc, List.append_assoc], ?_⟩
      show Ht (c ++ [s]) (nbS hs + 1)
      rcases h1 s (List.mem_cons_self ..) with z | z | z
      · exact absurd (by rw [z]; exact hr : rkF s < r) q
      · rw [if_neg (by rw [un_nb z]; decide)] at h2
        exact Ht_un h2 z
      · rw [if_pos z] at h2
        exact Ht_bi h2 z
theorem un_any {oc0 : List Int32} {wa : Bool} {p : PT} {r : Int32} (h : InvP oc0 wa p) (hr : Int32.ofInt 0 < r) (hw : wa = false) : InvP oc0 false (unwF r p.1 p.2.1 p.2.2) := by
  subst hw
  exact unwF_inv hr _ _ _ h
abbrev esInv (oc0 : List Int32) : ES → Prop
  | .inl (b, q) => b = true → q.1 = [] ∧ InvP oc0 false q
  | .inr (wa, _, q) => InvP oc0 wa q
theorem no_inl {oc0 : List Int32} {q : PT} : esInv oc0 (.inl (false, q)) := fun z => absurd z Bool.false_ne_true
theorem onS_inv {oc0 : List Int32} {br : Bool} {s : Int32} {p : PT} (h : InvP oc0 true p) (hs : s = Int32.ofInt 0 ∨ unS s) : esInv oc0 (onS true br s p) := by
  unfold onS onF
  split
  · exact no_inl
  · show InvP oc0 true (s :: p.1, p.2.1 + 1, p.2.2)
    obtain ⟨h1, c, hc, h2⟩ := h
    refine ⟨hsOk_push h1 (hs.elim Or.inl (fun z => Or.inr (Or.inl z))), c, hc, ?_⟩
    have hb : biS s = false := by
      rcases hs with rfl | hs
      · decide
      · exact un_nb hs
    show Ht c ((nbS p.1 + if biS s = true then 1 else 0) + if true = true then 0 else 1)
    rw [if_neg (by rw [hb]; decide)]
    exact h2
theorem stW_inv {oc0 : List Int32} {br : Bool} {tk : Int32} {p : PT} (h : InvP oc0 true p) : esInv oc0 (stW br tk p) := by
  unfold stW
  split
  · exact onS_inv h (Or.inr (Or.inr rfl))
  · split
    · exact onS_inv h (Or.inl rfl)
    · exact fun z => by cases z
theorem sgF_bi (tk : Int32) (h : ¬ sgF tk = Int32.ofInt (-1)) : biS (sgF tk) = true := by
  revert h
  unfold sgF
  split
  · intro _; decide
  split
  · intro _; decide
  split
  · intro _; decide
  split
  · intro _; decide
  split
  · intro _; decide
  split
  · intro _; decide
  split
  · intro _; decide
  · intro z; exact absurd rfl z
theorem rk_bi {s : Int32} (h : biS s = true) : Int32.ofInt 0 < (if rkF s = Int32.ofInt 4 then Int32.ofInt 5 else rkF s) := by
  rcases biS_spec h with rfl | rfl | rfl | rfl | rfl | rfl | rfl <;> decide
theorem btS_inv {oc0 : List Int32} {s : Int32} {p : PT} (h : InvP oc0 false p) (hs : biS s = true) : esInv oc0 (btS s p) := by
  have hu : InvP oc0 false (stF s p) := unwF_inv (rk_bi hs) _ _ _ h
  have hp : InvP oc0 true (s :: (stF s p).1, (stF s p).2.1, (stF s p).2.2) := by
    obtain ⟨h1, c, hc, h2⟩ := hu
    refine ⟨hsOk_push h1 (Or.inr (Or.inr hs)), c, hc, ?_⟩
    show Ht c ((nbS (stF s p).1 + if biS s = true then 1 else 0) + 0)
    rw [if_pos hs]
    exact h2
  unfold btS
  split
  · rename_i q
    revert q
    show (btF s p).1 = true → InvP oc0 true (btF s p).2
    unfold btF
    split
    · split
      · exact fun z => by cases z
      · exact fun _ => hp
    · exact fun _ => hp
  · exact fun z => by cases z
theorem unwF_hd {r : Int32} : ∀ hs op oc t q, (unwF r hs op oc).1 = t :: q → rkF t < r
  | [], _, _, _, _, h => by cases h
  | s :: hs, op, oc, t, q, h => by
    unfold unwF at h
    split at h
    · rename_i z
      cases h
      exact z
    · exact unwF_hd hs _ _ t q h
theorem rk_hd {t : Int32} (h : rkF t < Int32.ofInt 1) (h0 : t = Int32.ofInt 0 ∨ unS t ∨ biS t = true) : t = Int32.ofInt 0 := by
  rcases h0 with z | z | z
  · exact z
  · rcases z with rfl | rfl <;> exact absurd h (by decide)
  · rcases biS_spec z with rfl | rfl | rfl | rfl | rfl | rfl | rfl <;> exact absurd h (by decide)
theorem clS2_inv {oc0 : List Int32} {br : Bool} {p : PT} (h : InvP oc0 false p) (hd : ∀ t q, p.1 = t :: q → rkF t < Int32.ofInt 1) : esInv oc0 (clS2 br p) := by
  obtain ⟨zh, zo, zc⟩ := p
  cases zh with
  | nil => exact no_inl
  | cons t zh =>
    obtain ⟨h1, c, hc, h2⟩ := h
    have ht : t = Int32.ofInt 0 := rk_hd (hd t zh rfl) (h1 t (List.mem_cons_self ..))
    subst ht
    exact unwF_inv (by decide) zh _ zc ⟨hsOk_tl h1, c, hc, h2⟩
theorem stE_inv {oc0 : List Int32} {wa br : Bool} {tk v : Int32} {p : PT} (h : InvP oc0 wa p) (ht : tkOk tk v) : esInv oc0 (stE wa br tk v p) := by
  unfold stE
  split
  · rename_i q
    subst q
    have app : ∀ w, (∀ c n, Ht c n → Ht (c ++ [w]) (n + 1)) → InvP oc0 false (unwF (Int32.ofInt 7) p.1 p.2.1 (p.2.2 ++ [w])) := by
      intro w hw
      obtain ⟨h1, c, hc, h2⟩ := h
      exact unwF_inv (by decide) _ _ _ ⟨h1, c ++ [w], by rw [hc, List.append_assoc], hw _ _ h2⟩
    split
    · rename_i q1
      exact app _ (fun c n hc => Ht_num hc (ht.1 q1))
    · split
      · rename_i q2
        exact app _ (fun c n hc => Ht_name hc (ht.2 q2))
      · split
        · split
          · exact onS_inv h (Or.inr (Or.inl rfl))
          · exact stW_inv h
        · exact stW_inv h
  · rename_i q
    have q : wa = false := by
      cases wa with
      | false => rfl
      | true => exact absurd rfl q
    have hu := un_any (r := Int32.ofInt 1) h (by decide) q
    split
    · intro z
      exact ⟨List.isEmpty_iff.mp z, hu⟩
    · split
      · exact clS2_inv hu (fun t z hz => unwF_hd _ _ _ t z hz)
      · split
        · exact fun z => by cases z
        · rename_i q3
          subst q
          exact btS_inv h (sgF_bi _ q3)
theorem erF_inv {ws tp : List Int32} {t : Nat} (ht : t < 2 ^ 31) {oc0 : List Int32} : ∀ (m : Nat) (wa br : Bool) (a : Nat) (p : PT), InvP oc0 wa p → (erF ws tp t m wa br a p).1 = true → ∃ c, (erF ws tp t m wa br a p).2.2.2.2 = oc0 ++ c ∧ Ht c 1 := by
  intro m
  induction m with
  | zero => intro _ _ _ _ _ z; exact absurd z Bool.false_ne_true
  | succ m ih =>
    intro wa br a p hi
    have h := stE_inv (br := br) hi (nxt_val ws tp (t := t) (a := a) ht)
    unfold erF
    revert h
    cases stE wa br (nxtF ws tp t a).2.2.1 (nxtF ws tp t a).2.2.2 p with
    | inl e =>
      obtain ⟨b, q⟩ := e
      intro h hb
      obtain ⟨h1, -, c, hc, h2⟩ := h hb
      refine ⟨c, hc, ?_⟩
      rw [h1] at h2
      exact h2
    | inr e =>
      obtain ⟨wa', br', q⟩ := e
      intro h
      exact ih wa' br' _ q h
theorem erF_ok {ws tp : List Int32} {t : Nat} (ht : t < 2 ^ 31) {oc : List Int32} {m a : Nat} (h : (erF ws tp t m true true a ([], Int32.ofInt 0, oc)).1 = true) : ∃ c, (erF ws tp t m true true a ([], Int32.ofInt 0, oc)).2.2.2.2 = oc ++ c ∧ Ht c 1 :=
  erF_inv ht m true true a _ ⟨fun x hx => absurd hx (List.not_mem_nil), [], (List.append_nil oc).symm, fun _ => ⟨[], rfl, rfl⟩⟩ h
theorem txL_step {ws tp : List Int32} {t tx : Nat} (ht : t < 2 ^ 31) (m p a : Nat) (b : Int32) (oc st : List Int32) (h : (txL ws tp t tx (m + 1) p (true, a, b, oc, st)).1 = true) :
    ∃ c a' b', Ht c 1 ∧ txL ws tp t tx (m + 1) p (true, a, b, oc, st) = txL ws tp t tx m (p + 1) (true, a', b', oc ++ c, st.set (4 * tx + p) (nI oc.length)) := by
  have e1 : txL ws tp t tx (m + 1) p (true, a, b, oc, st) = if hdF (nxtF ws tp t a) p = true then txL ws tp t tx m (p + 1) ((erF ws tp t (t + 1) true true (nxtF ws tp t a).2.1 ([], Int32.ofInt 0, oc)).1, (erF ws tp t (t + 1) true true (nxtF ws tp t a).2.1 ([], Int32.ofInt 0, oc)).2.1.2.1, nI (erF ws tp t (t + 1) true true (nxtF ws tp t a).2.1 ([], Int32.ofInt 0, oc)).2.1.1, (erF ws tp t (t + 1) true true (nxtF ws tp t a).2.1 ([], Int32.ofInt 0, oc)).2.2.2.2, st.set (4 * tx + p) (nI oc.length))
      else (false, (nxtF ws tp t a).2.1, nI (nxtF ws tp t a).1, oc, st.set (4 * tx + p) (nI oc.length)) := if_pos rfl
  rw [e1] at h ⊢
  by_cases q : hdF (nxtF ws tp t a) p = true
  · rw [if_pos q] at h ⊢
    have hk := erF_ok (ws := ws) (tp := tp) ht (oc := oc) (m := t + 1) (a := (nxtF ws tp t a).2.1)
    revert h hk
    generalize erF ws tp t (t + 1) true true (nxtF ws tp t a).2.1 ([], Int32.ofInt 0, oc) = E
    obtain ⟨eo, ⟨eb, ea, et, ev⟩, eh, eop, eoc⟩ := E
    intro h hk
    cases eo with
    | false =>
      have h : (txL ws tp t tx m (p + 1) (false, ea, nI eb, eoc, st.set (4 * tx + p) (nI oc.length))).1 = true := h
      rw [txL_no] at h
      exact absurd h Bool.false_ne_true
    | true =>
      obtain ⟨c, hc, h1⟩ := hk rfl
      have hc : eoc = oc ++ c := hc
      exact ⟨c, ea, nI eb, h1, by rw [← hc]⟩
  · rw [if_neg q] at h
    exact absurd h Bool.false_ne_true
/-- a text that was taken: its codes and starts -/
theorem txL_ok {ws tp : List Int32} {t tx a : Nat} {b : Int32} {st : List Int32} (ht : t < 2 ^ 31) (h : (txL ws tp t tx 3 0 (true, a, b, [], st)).1 = true) :
    ∃ c0 c1 c2, Ht c0 1 ∧ Ht c1 1 ∧ Ht c2 1 ∧ (txL ws tp t tx 3 0 (true, a, b, [], st)).2.2.2.1 = c0 ++ c1 ++ c2 ∧
      (txL ws tp t tx 3 0 (true, a, b, [], st)).2.2.2.2 = ((st.set (4 * tx) (nI 0)).set (4 * tx + 1) (nI c0.length)).set (4 * tx + 2) (nI (c0 ++ c1).length) := by
  obtain ⟨c0, a0, b0, h0, e0⟩ := txL_step ht 2 0 a b [] st h
  rw [e0] at h
  obtain ⟨c1, a1, b1, h1, e1⟩ := txL_step ht 1 1 a0 b0 _ _ h
  rw [e1] at h
  obtain ⟨c2, a2, b2, h2, e2⟩ := txL_step ht 0 2 a1 b1 _ _ h
  rw [e0, e1, e2]
  exact ⟨c0, c1, c2, h0, h1, h2, rfl, rfl⟩
end ACCEPT2
end
section
-- 55.allok
/-! A TEXT MORE, and all can be run -/
section ALLOK
variable {l : Launch} {X : List (List Int32)} {S : CS} {M : MS}
theorem seg_eq {cd cd0 : List Int32} {K k n : Nat} (hl : cd.length = cd0.length) (h : ∀ j, j < K → cd.getD j 0 = cd0.getD j 0) (hk : k + n ≤ K) (hK : K ≤ cd0.length) : (cd.drop k).take n = (cd0.drop k).take n := by
  apply List.ext_getElem?
  intro j
  by_cases hj : j < n
  · rw [List.getElem?_take_of_lt hj, List.getElem?_take_of_lt hj, List.getElem?_drop, List.getElem?_drop]
    have e := h (k + j) (by omega)
    rw [List.getD_eq_getElem?_getD, List.getD_eq_getElem?_getD, List.getElem?_eq_getElem (by omega), List.getElem?_eq_getElem (by omega)] at e
    rw [List.getElem?_eq_getElem (by omega), List.getElem?_eq_getElem (by omega)]
    exact congrArg some e
  · rw [List.getElem?_eq_none (by simp; omega), List.getElem?_eq_none (by simp; omega)]
theorem seg_cut {cd oc : List Int32} {K a b : Nat} (h : (cd.drop K).take oc.length = oc) (hab : a ≤ b) (hb : b ≤ oc.length) : (cd.drop (K + a)).take (b - a) = (oc.drop a).take (b - a) := by
  conv => rhs; rw [← h]
  rw [List.drop_take, List.take_take, List.drop_drop]
  congr 1
  omega
theorem getD_set_ne {st : List Int32} {i j : Nat} {v : Int32} (h : ¬ i = j) : (st.set i v).getD j 0 = st.getD j 0 := by
  rw [List.getD_eq_getElem?_getD, List.getD_eq_getElem?_getD, List.getElem?_set_ne h]
theorem getD_set_eq {st : List Int32} {i : Nat} {v : Int32} (h : i < st.length) : (st.set i v).getD i 0 = v := by
  rw [List.getD_eq_getElem?_getD, List.getElem?_set_self h]
  rfl
theorem TOk.of_eq {M M' : MS} {t p : Nat} (h : TOk M t p) (hs : ∀ j, j ≤ 4 * t + 3 → (M'.2.1 8).getD j 0 = (M.2.1 8).getD j 0) (hp : p < 3) (hl : (M'.2.1 7).length = (M.2.1 7).length) (hl2 : 200 * (t + 1) ≤ (M.2.1 7).length) (hc : ∀ j, j < 200 * (t + 1) → (M'.2.1 7).getD j 0 = (M.2.1 7).getD j 0) : TOk M' t p := by
  obtain ⟨a, b, h1, h2, h3, h4, h5⟩ := h
  have g1 := hs (4 * t + p) (by omega)
  have g2 := hs (4 * t + p + 1) (by omega)
  refine ⟨a, b, g1.trans h1, g2.trans h2, h3, h4, fun nm => ?_⟩
  have e : segM M' t p = segM M t p := by
    unfold segM
    rw [g1, g2, h1, h2, nI_clamp (by omega), nI_clamp (by omega)]
    exact seg_eq (K := 200 * (t + 1)) hl hc (by omega) hl2
  rw [e]
  exact h5 nm
/-- one text more -/
theorem AllOk.more {M M' : MS} {tx t a0 : Nat} {b0 : Int32} {ws tp : List Int32} (h : AllOk M tx) (htx : tx < 6) (ht : t ≤ 160) (h7 : (M.2.1 7).length = 1200) (h8 : (M.2.1 8).length = 24)
    (hT : (txL ws tp t tx 3 0 (true, a0, b0, [], M.2.1 8)).1 = true) (hoc : (txL ws tp t tx 3 0 (true, a0, b0, [], M.2.1 8)).2.2.2.1.length ≤ 200)
    (ho : OutR (M.2.1 7) (M'.2.1 7) tx (txL ws tp t tx 3 0 (true, a0, b0, [], M.2.1 8)).2.2.2.1)
    (hs : M'.2.1 8 = (txL ws tp t tx 3 0 (true, a0, b0, [], M.2.1 8)).2.2.2.2.set (4 * tx + 3) (nI (txL ws tp t tx 3 0 (true, a0, b0, [], M.2.1 8)).2.2.2.1.length)) : AllOk M' (tx + 1) := by
  obtain ⟨c0, c1, c2, k0, k1, k2, e1, e2⟩ := txL_ok (by omega) hT
  rw [e1] at hoc ho hs
  rw [e2] at hs
  intro t' ht' p hp
  by_cases q : t' < tx
  · refine (h t' q p hp).of_eq (fun j hj => ?_) hp (by rw [ho.1, h7]) (by rw [h7]; omega) (fun j hj => ho.2.1 j (by omega))
    rw [hs, getD_set_ne (by omega), getD_set_ne (by omega), getD_set_ne (by omega), getD_set_ne (by omega)]
  · have q : t' = tx := by omega
    subst q
    have hL : (c0 ++ c1 ++ c2).length = c0.length + c1.length + c2.length := by simp [Nat.add_assoc]
    have hL2 : (c0 ++ c1).length = c0.length + c1.length := by simp
    have s0 : (M'.2.1 8).getD (4 * t') 0 = nI 0 := by
      rw [hs, getD_set_ne (by omega), getD_set_ne (by omega), getD_set_ne (by omega), getD_set_eq (by omega)]
    have s1 : (M'.2.1 8).getD (4 * t' + 1) 0 = nI c0.length := by
      rw [hs, getD_set_ne (by omega), getD_set_ne (by omega), getD_set_eq (by rw [List.length_set]; omega)]
    have s2 : (M'.2.1 8).getD (4 * t' + 2) 0 = nI (c0 ++ c1).length := by
      rw [hs, getD_set_ne (by omega), getD_set_eq (by rw [List.length_set, List.length_set]; omega)]
    have s3 : (M'.2.1 8).getD (4 * t' + 3) 0 = nI (c0 ++ c1 ++ c2).length := by
      rw [hs, getD_set_eq (by rw [List.length_set, List.length_set, List.length_set]; omega)]
    have fin : ∀ (p a b : Nat) (c : List Int32), (M'.2.1 8).getD (4 * t' + p) 0 = nI a → (M'.2.1 8).getD (4 * t' + p + 1) 0 = nI b → a ≤ b → b ≤ (c0 ++ c1 ++ c2).length → ((c0 ++ c1 ++ c2).drop a).take (b - a) = c → Ht c 1 → TOk M' t' p := by
      intro p a b c g1 g2 hab hb hc hH
      refine ⟨a, b, g1, g2, hab, by omega, fun nm => ?_⟩
      have e : segM M' t' p = c := by
        unfold segM
        rw [g1, g2, nI_clamp (by omega), nI_clamp (by omega), seg_cut ho.2.2 hab hb]
        exact hc
      rw [e]
      obtain ⟨st, w1, w2⟩ := hH nm
      match st, w2 with
      | [v], _ => exact ⟨v, w1⟩
    match p, hp with
    | 0, _ => exact fin 0 0 c0.length c0 s0 s1 (Nat.zero_le _) (by omega) (by simp) k0
    | 1, _ => exact fin 1 c0.length (c0 ++ c1).length c1 s1 s2 (by omega) (by omega) (by simp) k1
    | 2, _ => exact fin 2 (c0 ++ c1).length (c0 ++ c1 ++ c2).length c2 s2 s3 (by omega) (Nat.le_refl _) (by rw [List.drop_left, show (c0 ++ c1 ++ c2).length - (c0 ++ c1).length = c2.length by omega, List.take_length]) k2
end ALLOK
end
section
-- 56.newM
/-! THE REFERENCE's constructor: walked by program (wip/gen/ctorM.py) up to the call of text -/
def Mi : MS := (fun k => if k = 6 then 28 else 0, fun k => match k with
  | 1 => (z32 5)
  | 2 => (z32 5)
  | 4 => (z32 36)
  | 5 => ([111, 110, 99, 101, 32, 49, 32, 59, 32, 116, 119, 105, 99, 101, 32, 48, 32, 59, 32, 99, 111, 115, 116, 115, 32, 49, 32, 59] ++ z32 132)
  | 7 => (z32 1200)
  | 8 => (z32 24)
  | 15 => (z32 10)
  | 16 => (z32 36)
  | 17 => ([-1, -1, -1, -1])
  | 18 => (z32 4)
  | 19 => (z32 160)
  | 20 => ([111, 110, 99, 101, 32, 49, 32, 59, 32, 116, 119, 105, 99, 101, 32, 48, 32, 59, 32, 99, 111, 115, 116, 115, 32, 49, 32, 59])
  | 25 => ([111, 110, 99, 101, 32, 32, 32, 32, 116, 119, 105, 99, 101, 32, 32, 32, 99, 111, 115, 116, 115, 32, 32, 32, 97, 32, 32, 32, 32, 32, 32, 32, 98, 32, 32, 32, 32, 32, 32, 32, 99, 32, 32, 32, 32, 32, 32, 32, 100, 32, 32, 32, 32, 32, 32, 32, 101, 32, 32, 32, 32, 32, 32, 32, 119, 104, 111, 32, 32, 32, 32, 32, 111, 114, 32, 32, 32, 32, 32, 32, 97, 110, 100, 32, 32, 32, 32, 32, 110, 111, 116, 32, 32, 32, 32, 32])
  | 26 => (z32 200)
  | 30 => (z32 200)
  | 31 => (z32 6)
  | _ => [], z64 60, z64 12)
theorem Mi_len : MLen Mi := ⟨rfl, rfl, rfl, rfl, List.length_replicate, rfl, rfl, rfl, rfl, rfl, List.length_replicate, rfl, rfl, List.length_replicate, List.length_replicate, rfl, rfl, rfl⟩
abbrev Ti : TS := txL (Mi.2.1 25) (Mi.2.1 5) 28 0 3 0 (true, 0, Mi.1 22, [], Mi.2.1 8)
theorem Ti_ok : Ti.1 = true ∧ (txE (Mi.2.1 25) (Mi.2.1 5) 28 Ti).1 = true ∧ Ti.2.2.2.1.length ≤ 200 ∧ (Ti.2.2.2.2.set (4 * 0 + 3) (nI Ti.2.2.2.1.length)).length = 24 := by decide +kernel
/-- its only text: once 1; twice 0; costs 1; -/
def SegF (M : MS) : Prop := segM M 0 0 = [100001] ∧ segM M 0 1 = [100000] ∧ segM M 0 2 = [100001]
theorem Ti_oc : Ti.2.2.2.1 = [100001, 100000, 100001] := by decide +kernel
theorem Ti_st : Ti.2.2.2.2.set (4 * 0 + 3) (nI Ti.2.2.2.1.length) = [0, 1, 2, 3] ++ z32 20 := by decide +kernel
theorem SegF.of {M : MS} {r : List Int32} (h7 : M.2.1 7 = [100001, 100000, 100001] ++ r) (h8 : M.2.1 8 = [0, 1, 2, 3] ++ z32 20) : SegF M := by
  unfold SegF segM
  rw [h7, h8]
  exact ⟨rfl, rfl, rfl⟩
/-- a new reference -/
def NewM (M : MS) : Prop := MLen M ∧ AllOk M 1 ∧ SegF M ∧ ∃ a b tk v cd hd hm op ou st, M = mR (pM (xM (mN (mN Mi 6 0) 9 1) a b tk v) cd hd hm op ou) 8 st
theorem NewM_of {cd hd st : List Int32} {a b hm op ou tk v : Int32} (ho : OutR (Mi.2.1 7) cd 0 Ti.2.2.2.1) (hhd : hd.length = 200) (hst : st = Ti.2.2.2.2.set (4 * 0 + 3) (nI Ti.2.2.2.1.length)) : NewM (mR (pM (xM (mN (mN Mi 6 0) 9 1) a b tk v) cd hd hm op ou) 8 st) := by
  have h0 : AllOk Mi 0 := fun t ht => absurd ht (Nat.not_lt_zero _)
  refine ⟨?_, ?_, ?_, _, _, _, _, _, _, _, _, _, _, rfl⟩
  · obtain ⟨a1, a2, a3, a4, a5, a6, a7, a8, a9, a10, a11, a12, a13, a14, a15, a16, a17, a18⟩ := Mi_len
    exact ⟨a1, a2, a3, a4, ho.1, (congrArg List.length hst).trans Ti_ok.2.2.2, a7, a8, a9, a10, a11, a12, a13, hhd, a15, a16, a17, a18⟩
  · exact h0.more (M' := mR (pM (xM (mN (mN Mi 6 0) 9 1) a b tk v) cd hd hm op ou) 8 st) (by decide) (t := 28) (by decide) Mi_len.2.2.2.2.1 Mi_len.2.2.2.2.2.1 Ti_ok.1 Ti_ok.2.2.1 ho hst
  · have h3 := ho.2.2
    rw [Ti_oc] at h3
    have e : cd = [100001, 100000, 100001] ++ cd.drop 3 := by
      have q : cd.take 3 = [100001, 100000, 100001] := h3
      rw [← q]
      exact (List.take_append_drop 3 cd).symm
    exact SegF.of (M := mR (pM (xM (mN (mN Mi 6 0) 9 1) a b tk v) cd hd hm op ou) 8 st) (r := cd.drop 3) e (hst.trans Ti_st)
end
