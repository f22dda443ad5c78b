/-! THE CLASS's code, as its reader writes it -/
section CODE
variable {l : Launch} {X : List (List Int32)} {S : CS} {T : AH} {t : Nat}
/-- a reader's state: the token that stands next, the code so far -/
abbrev PS : Type := TK × List (Int32 × Int32)
def advP (tp : List Int32) (t : Nat) (p : PS) : PS := (lexF tp t p.1.2.1, p.2)
def addP (s v : Int32) (p : PS) : PS := (p.1, if p.2.length < 160 then p.2 ++ [(s, v)] else p.2)
def CR (r4 r5 : List Int32) (c : List (Int32 × Int32)) : Prop := r4.length = 160 ∧ r5.length = 160 ∧ c.length ≤ 160 ∧ r4.take c.length = c.map (fun x => x.1) ∧ r5.take c.length = c.map (fun x => x.2)
theorem take_push {xs ys : List Int32} {n : Nat} (h : xs.take n = ys) (hy : ys.length = n) (hn : n < xs.length) (v : Int32) : (xs.set n v).take (n + 1) = ys ++ [v] := by
  apply List.ext_getElem?
  intro j
  by_cases hj : j < n
  · have z := congrArg (fun q : List Int32 => q[j]?) h
    simp only [List.getElem?_take_of_lt hj] at z
    rw [List.getElem?_append_left (by omega), ← z, List.getElem?_take_of_lt (by omega), List.getElem?_set_ne (by omega)]
  · by_cases e : j = n
    · subst e
      rw [List.getElem?_append_right (by omega), hy, List.getElem?_take_of_lt (by omega), List.getElem?_set_self hn]
      simp
    · rw [List.getElem?_append_right (by omega), hy, List.getElem?_eq_none (by simp; omega), List.getElem?_eq_none (by simp; omega)]
theorem CR.push {r4 r5 : List Int32} {c : List (Int32 × Int32)} (h : CR r4 r5 c) (hc : c.length < 160) (s v : Int32) : CR (r4.set c.length s) (r5.set c.length v) (c ++ [(s, v)]) := by
  obtain ⟨h4, h5, hl, e4, e5⟩ := h
  refine ⟨by simpa using h4, by simpa using h5, by simp; omega, ?_, ?_⟩
  · rw [List.length_append, List.map_append]
    exact take_push e4 (by simp) (by omega) s
  · rw [List.length_append, List.map_append]
    exact take_push e5 (by simp) (by omega) v
def pS (S : CS) (k : TK) (r4 r5 : List Int32) (n : Nat) : CS := cN (cR (cR (tkS S k) 4 r4) 5 r5) 34 (nI n)
def InC (S : CS) (T : AH) (t : Nat) (p : PS) (h : AH) : Prop := p.1.2.1 ≤ t ∧ ∃ r4 r5, CR r4 r5 p.2 ∧ h = encC (pS S p.1 r4 r5 p.2.length) ++ T
theorem pS_len {k : TK} {r4 r5 : List Int32} {n : Nat} (hL : CLen S) (h4 : r4.length = 160) (h5 : r5.length = 160) : CLen (pS S k r4 r5 n) := by
  intro j
  show (uf (uf S.2 4 r4) 5 r5 j).length ≤ 1000
  unfold uf
  split
  · omega
  · split
    · omega
    · exact hL j
theorem putF_nI {xs : List Int32} {n : Nat} (h : n < 2 ^ 31) (v : Int32) : putF xs (nI n) v = xs.set n v := by
  unfold putF
  rw [if_pos (nI_pos' h), nI_clamp h]
set_option maxRecDepth 100000 in
theorem c_add (s v : Int32) {p : PS} {h : AH} (hin : InC S T t p h) : Ctr l 1 X sgX0_add [.ref 3, .int s, .int v] h (fun h w => InC S T t (addP s v p) h ∧ w = none) := by
  obtain ⟨hle, r4, r5, hcr, rfl⟩ := hin
  obtain ⟨h4, h5, hl, e4, e5⟩ := id hcr
  refine Ctr.of okX0_add rfl (Nat.le_of_ble_eq_true rfl) (run_sound okX0_add noCut 100 ?_)
  by_cases hc : p.2.length < 160
  · have e : addP s v p = (p.1, p.2 ++ [(s, v)]) := by unfold addP; rw [if_pos hc]
    refine brT (nI_lt (b := 160) hc (by decide)) (kH (c_put (xs := r4) rfl rfl (by omega)) (by decide) (kH (c_put (xs := r5) rfl rfl (by omega)) (by decide) (And.intro rfl (And.intro trivial ⟨rfl, ?_, rfl⟩))))
    rw [e]
    refine ⟨hle, _, _, hcr.push hc s v, ?_⟩
    have q : encC (pS S p.1 (putF r4 (nI p.2.length) s) (putF r5 (nI p.2.length) v) (p.2.length + 1)) ++ T = encC (pS S p.1 (r4.set p.2.length s) (r5.set p.2.length v) (p.2 ++ [(s, v)]).length) ++ T := by
      rw [putF_nI (by omega), putF_nI (by omega), List.length_append]
      rfl
    rw [← q]
    show encC (cN (cR (cR (tkS S p.1) 4 (putF r4 (nI p.2.length) s)) 5 (putF r5 (nI p.2.length) v)) 34 (nI p.2.length + 1)) ++ T = _
    rw [nI_1]
    rfl
  · have e : addP s v p = p := by unfold addP; rw [if_neg hc]
    refine brF (nI_nlt (b := 160) (by omega) (by omega)) ⟨rfl, ?_, rfl⟩
    rw [e]
    exact ⟨hle, r4, r5, hcr, rfl⟩
theorem dgC_le (tp : List Int32) : ∀ m a v, (dgC tp m a v).1 ≤ a + m
  | 0, _, _ => Nat.le_refl _
  | m + 1, a, v => by
    unfold dgC
    split
    · have h := dgC_le tp m (a + 1) (v * 10 + tp.getD a 0 - 48)
      omega
    · show a ≤ _
      omega
theorem lexF_le {tp : List Int32} {a : Nat} (h : a ≤ t) : (lexF tp t a).2.1 ≤ t := by
  have hb := skR_le tp (t - a) a
  unfold lexF
  generalize skR tp (t - a) a = b at hb ⊢
  unfold clT
  split
  · show b ≤ t
    omega
  · split
    · have := runW_le tp (t - b) b
      show runW tp (t - b) b ≤ t
      omega
    · split
      · have := dgC_le tp (t - b) b 0
        show (dgC tp (t - b) b 0).1 ≤ t
        omega
      · show b + 1 ≤ t
        omega
theorem c_adv (hL : CLen S) (ht : S.1 11 = nI t) (ht2 : t ≤ 160) {p : PS} {h : AH} (hin : InC S T t p h) : Ctr l 6 X sgX6_advance [.ref 1] h (fun h w => InC S T t (advP (S.2 2) t p) h ∧ w = none) := by
  obtain ⟨hle, r4, r5, hcr, rfl⟩ := hin
  have hc := c_advance (l := l) (X := X) (T := T) (S := pS S p.1 r4 r5 p.2.length) (pS_len hL hcr.1 hcr.2.1) ht ht2 (a := p.1.2.1) rfl hle
  refine hc.weak (fun h w hw => ⟨⟨lexF_le hle, r4, r5, hcr, hw.1⟩, hw.2⟩)
end CODE
