/-! WHAT THE REFERENCE takes can be run -/
section ACCEPT
theorem of_ge0 {i : Int32} (h : Int32.ofInt 0 ≤ i) : i = nI i.toNatClampNeg ∧ i.toNatClampNeg < 2 ^ 31 := by
  have h1 : (0 : Int) ≤ i.toInt := Int32.le_iff_toInt_le.mp h
  have h2 : (i.toNatClampNeg : Int) = i.toInt := by
    unfold Int32.toNatClampNeg
    omega
  have h3 := Int32.toInt_lt i
  have h4 : i.toNatClampNeg < 2 ^ 31 := by omega
  refine ⟨?_, h4⟩
  apply Int32.toInt_inj.mp
  rw [nI_toInt h4, h2]
theorem of_dig {d : Int32} (h : isDig d) : ∃ e, e ≤ 9 ∧ d = nI (48 + e) := by
  have h0 : Int32.ofInt 0 ≤ d := Int32.le_trans (by decide) h.1
  obtain ⟨e1, e2⟩ := of_ge0 h0
  have a1 : 48 ≤ d.toNatClampNeg := by
    have q : nI 48 ≤ d := h.1
    rw [e1] at q
    exact (nI_leI (by decide) e2).mp q
  have a2 : d.toNatClampNeg ≤ 57 := by
    have q : d ≤ nI 57 := h.2
    rw [e1] at q
    exact (nI_leI e2 (by decide)).mp q
  exact ⟨d.toNatClampNeg - 48, by omega, by rw [Nat.add_sub_cancel' a1]; exact e1⟩
theorem dgR_val (tp : List Int32) : ∀ m a n v, n + m < 2 ^ 31 → (n ≤ 4 → ∃ w, w < 10 ^ n ∧ v = nI w) →
    ((dgR tp m a n v).2.1 ≤ n + m ∧ ((dgR tp m a n v).2.1 ≤ 4 → ∃ w, w < 10 ^ (dgR tp m a n v).2.1 ∧ (dgR tp m a n v).2.2 = nI w))
  | 0, _, n, v, _, h => ⟨Nat.le_refl _, h⟩
  | m + 1, a, n, v, hm, h => by
    unfold dgR
    split
    · rename_i hd
      have ih := dgR_val tp m (a + 1) (n + 1) (if Int32.ofInt 4 ≤ nI n then Int32.ofInt 0 else Int32.ofInt 10 * v + tp.getD a 0 - Int32.ofInt 48) (by omega) (fun h4 => by
        obtain ⟨w, hw, rfl⟩ := h (by omega)
        have n4 : ¬ Int32.ofInt 4 ≤ nI n := by
          have : ¬ nI 4 ≤ nI n := by rw [nI_leI (by decide) (by omega)]; omega
          exact this
        rw [if_neg n4]
        obtain ⟨e, he, hde⟩ := of_dig hd
        refine ⟨10 * w + e, by rw [Nat.pow_succ]; omega, ?_⟩
        rw [hde, show Int32.ofInt 10 * nI w = nI (10 * w) from nI_mul 10 w, nI_add, show 10 * w + (48 + e) = (10 * w + e) + 48 by omega, ← nI_add]
        exact Int32.add_sub_cancel _ _)
      exact ⟨by omega, ih.2⟩
    · exact ⟨Nat.le_add_right _ _, h⟩
/-- what a token may hold -/
def tkOk (tk v : Int32) : Prop := (tk = Int32.ofInt 1 → Int32.ofInt 100000 ≤ Int32.ofInt 100000 + v) ∧ (tk = Int32.ofInt 2 → Int32.ofInt 0 ≤ v ∧ v < Int32.ofInt 6)
theorem tkW_ok : ∀ k, k ≤ 12 → (¬ tkV (nI k) = Int32.ofInt 1) ∧ (tkV (nI k) = Int32.ofInt 2 → Int32.ofInt 0 ≤ vaV (nI k) ∧ vaV (nI k) < Int32.ofInt 6) := by decide +kernel
theorem nxt_val (ws tp : List Int32) {t a : Nat} (ht : t < 2 ^ 31) : tkOk (nxtF ws tp t a).2.2.1 (nxtF ws tp t a).2.2.2 := by
  unfold nxtF
  generalize skR tp (t - a) a = b
  unfold nextT
  split
  · exact ⟨fun z => absurd z (show ¬ Int32.ofInt 0 = Int32.ofInt 1 by decide), fun z => absurd z (show ¬ Int32.ofInt 0 = Int32.ofInt 2 by decide)⟩
  · split
    · have h := tkW_ok (wfF ws tp b (runW tp (t - b) b) 12 0) (wfF_le ws tp b (runW tp (t - b) b) 12 0 rfl)
      exact ⟨fun z => absurd z h.1, h.2⟩
    · split
      · have h := dgR_val tp (t - b) b 0 (Int32.ofInt 0) (by omega) (fun _ => ⟨0, by decide, rfl⟩)
        revert h
        generalize dgR tp (t - b) b 0 (Int32.ofInt 0) = D
        intro h
        show tkOk (if nI D.2.1 ≤ Int32.ofInt 4 then Int32.ofInt 1 else Int32.ofInt (-1)) D.2.2
        split
        · rename_i q
          have q : nI D.2.1 ≤ nI 4 := q
          rw [nI_leI (by omega) (by decide)] at q
          obtain ⟨w, hw, hv⟩ := h.2 q
          refine ⟨fun _ => ?_, fun z => absurd z (by decide)⟩
          rw [hv, show Int32.ofInt 100000 = nI 100000 from rfl, nI_add]
          have : 10 ^ D.2.1 ≤ 10 ^ 4 := Nat.pow_le_pow_right (by decide) q
          exact nI_le (by omega) (by omega)
        · exact ⟨fun z => absurd z (by decide), fun z => absurd z (by decide)⟩
      · show tkOk (if sgR (tp.getD b 0) = true then tp.getD b 0 else Int32.ofInt (-1)) (Int32.ofInt 0)
        split
        · rename_i q
          refine ⟨fun z => ?_, fun z => ?_⟩
          · rw [z] at q
            exact absurd q (by decide)
          · rw [z] at q
            exact absurd q (by decide)
        · exact ⟨fun z => absurd z (by decide), fun z => absurd z (by decide)⟩
def unS (s : Int32) : Prop := s = Int32.ofInt 13 ∨ s = Int32.ofInt 19
def biS (s : Int32) : Bool := s == Int32.ofInt 11 || s == Int32.ofInt 12 || s == Int32.ofInt 14 || s == Int32.ofInt 15 || s == Int32.ofInt 16 || s == Int32.ofInt 17 || s == Int32.ofInt 18
def nbS : List Int32 → Nat
  | [] => 0
  | s :: r => nbS r + if biS s = true then 1 else 0
def hsOk (hs : List Int32) : Prop := ∀ s, s ∈ hs → s = Int32.ofInt 0 ∨ unS s ∨ biS s = true
/-- run on nothing, codes leave n numbers -/
def Ht (c : List Int32) (n : Nat) : Prop := ∀ nm, ∃ st, evR nm c [] = some st ∧ st.length = n
theorem evR_app (nm : List Int32) (d : List Int32) : ∀ c st, evR nm (c ++ d) st = (evR nm c st).bind (evR nm d)
  | [], _ => rfl
  | x :: c, st => by
    show (stpR nm x st).bind (evR nm (c ++ d)) = ((stpR nm x st).bind (evR nm c)).bind (evR nm d)
    cases stpR nm x st with
    | none => rfl
    | some q => exact evR_app nm d c q
theorem evR_one {nm : List Int32} {c : Int32} {st : List Int32} : evR nm [c] st = stpR nm c st := by
  show (stpR nm c st).bind (fun q => some q) = _
  cases stpR nm c st <;> rfl
theorem Ht_num {c : List Int32} {n : Nat} {v : Int32} (h : Ht c n) (hv : Int32.ofInt 100000 ≤ v) : Ht (c ++ [v]) (n + 1) := by
  intro nm
  obtain ⟨st, h1, h2⟩ := h nm
  refine ⟨(v - 100000) :: st, ?_, by simp [h2]⟩
  rw [evR_app, h1]
  show evR nm [v] st = _
  rw [evR_one]
  exact if_pos hv
theorem Ht_name {c : List Int32} {n : Nat} {v : Int32} (h : Ht c n) (hv : Int32.ofInt 0 ≤ v ∧ v < Int32.ofInt 6) : Ht (c ++ [v]) (n + 1) := by
  intro nm
  obtain ⟨st, h1, h2⟩ := h nm
  refine ⟨nm.getD v.toNatClampNeg 0 :: st, ?_, by simp [h2]⟩
  rw [evR_app, h1]
  show evR nm [v] st = _
  rw [evR_one]
  have a1 : ¬ (100000 : Int32) ≤ v := fun z => absurd (Int32.lt_of_le_of_lt z hv.2) (by decide)
  have a2 : v < 11 := Int32.lt_trans hv.2 (by decide)
  exact (if_neg a1).trans ((if_pos a2).trans (if_pos hv))
theorem Ht_un {c : List Int32} {n : Nat} {s : Int32} (h : Ht c (n + 1)) (hs : unS s) : Ht (c ++ [s]) (n + 1) := by
  intro nm
  obtain ⟨st, h1, h2⟩ := h nm
  cases st with
  | nil => cases h2
  | cons a r =>
    rcases hs with rfl | rfl
    · refine ⟨(if a = 0 then 1 else 0) :: r, ?_, h2⟩
      rw [evR_app, h1]; rfl
    · refine ⟨(-a) :: r, ?_, h2⟩
      rw [evR_app, h1]; rfl
theorem biS_spec {s : Int32} (h : biS s = true) : s = Int32.ofInt 11 ∨ s = Int32.ofInt 12 ∨ s = Int32.ofInt 14 ∨ s = Int32.ofInt 15 ∨ s = Int32.ofInt 16 ∨ s = Int32.ofInt 17 ∨ s = Int32.ofInt 18 := by
  simpa [biS, or_assoc] using h
theorem Ht_bi {c : List Int32} {n : Nat} {s : Int32} (h : Ht c (n + 1 + 1)) (hs : biS s = true) : Ht (c ++ [s]) (n + 1) := by
  intro nm
  obtain ⟨st, h1, h2⟩ := h nm
  match st, h2 with
  | b :: a :: r, h2 =>
    refine ⟨twoF s a b :: r, ?_, by simpa using h2⟩
    rw [evR_app, h1]
    rcases biS_spec hs with rfl | rfl | rfl | rfl | rfl | rfl | rfl <;> rfl
end ACCEPT
