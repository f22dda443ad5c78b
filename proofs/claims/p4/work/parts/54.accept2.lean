/-! WHAT THE REFERENCE takes can be run: parts and texts -/
section ACCEPT2
def InvP (oc0 : List Int32) (wa : Bool) (p : PT) : Prop := hsOk p.1 ∧ ∃ c, p.2.2 = oc0 ++ c ∧ Ht c (nbS p.1 + if wa = true then 0 else 1)
theorem hsOk_tl {s : Int32} {hs : List Int32} (h : hsOk (s :: hs)) : hsOk hs := fun x hx => h x (List.mem_cons_of_mem _ hx)
theorem hsOk_push {s : Int32} {hs : List Int32} (h : hsOk hs) (h0 : s = Int32.ofInt 0 ∨ unS s ∨ biS s = true) : hsOk (s :: hs) := by
  intro x hx
  rcases List.mem_cons.mp hx with rfl | hx
  · exact h0
  · exact h x hx
theorem un_nb {s : Int32} (h : unS s) : biS s = false := by
  rcases h with rfl | rfl <;> decide
theorem unwF_inv {oc0 : List Int32} {r : Int32} (hr : Int32.ofInt 0 < r) : ∀ hs op oc, InvP oc0 false (hs, op, oc) → InvP oc0 false (unwF r hs op oc)
  | [], _, _, h => h
  | s :: hs, op, oc, h => by
    unfold unwF
    split
    · exact h
    · rename_i q
      obtain ⟨h1, c, hc, h2⟩ := h
      have hc : oc = oc0 ++ c := hc
      have h1 : hsOk (s :: hs) := h1
      have h2 : Ht c ((nbS hs + if biS s = true then 1 else 0) + 1) := h2
      apply unwF_inv hr hs
      refine ⟨hsOk_tl h1, c ++ [s], by show oc ++ [s] = _; rw [hc, List.append_assoc], ?_⟩
      show Ht (c ++ [s]) (nbS hs + 1)
      rcases h1 s (List.mem_cons_self ..) with z | z | z
      · exact absurd (by rw [z]; exact hr : rkF s < r) q
      · rw [if_neg (by rw [un_nb z]; decide)] at h2
        exact Ht_un h2 z
      · rw [if_pos z] at h2
        exact Ht_bi h2 z
theorem un_any {oc0 : List Int32} {wa : Bool} {p : PT} {r : Int32} (h : InvP oc0 wa p) (hr : Int32.ofInt 0 < r) (hw : wa = false) : InvP oc0 false (unwF r p.1 p.2.1 p.2.2) := by
  subst hw
  exact unwF_inv hr _ _ _ h
abbrev esInv (oc0 : List Int32) : ES → Prop
  | .inl (b, q) => b = true → q.1 = [] ∧ InvP oc0 false q
  | .inr (wa, _, q) => InvP oc0 wa q
theorem no_inl {oc0 : List Int32} {q : PT} : esInv oc0 (.inl (false, q)) := fun z => absurd z Bool.false_ne_true
theorem onS_inv {oc0 : List Int32} {br : Bool} {s : Int32} {p : PT} (h : InvP oc0 true p) (hs : s = Int32.ofInt 0 ∨ unS s) : esInv oc0 (onS true br s p) := by
  unfold onS onF
  split
  · exact no_inl
  · show InvP oc0 true (s :: p.1, p.2.1 + 1, p.2.2)
    obtain ⟨h1, c, hc, h2⟩ := h
    refine ⟨hsOk_push h1 (hs.elim Or.inl (fun z => Or.inr (Or.inl z))), c, hc, ?_⟩
    have hb : biS s = false := by
      rcases hs with rfl | hs
      · decide
      · exact un_nb hs
    show Ht c ((nbS p.1 + if biS s = true then 1 else 0) + if true = true then 0 else 1)
    rw [if_neg (by rw [hb]; decide)]
    exact h2
theorem stW_inv {oc0 : List Int32} {br : Bool} {tk : Int32} {p : PT} (h : InvP oc0 true p) : esInv oc0 (stW br tk p) := by
  unfold stW
  split
  · exact onS_inv h (Or.inr (Or.inr rfl))
  · split
    · exact onS_inv h (Or.inl rfl)
    · exact fun z => by cases z
theorem sgF_bi (tk : Int32) (h : ¬ sgF tk = Int32.ofInt (-1)) : biS (sgF tk) = true := by
  revert h
  unfold sgF
  split
  · intro _; decide
  split
  · intro _; decide
  split
  · intro _; decide
  split
  · intro _; decide
  split
  · intro _; decide
  split
  · intro _; decide
  split
  · intro _; decide
  · intro z; exact absurd rfl z
theorem rk_bi {s : Int32} (h : biS s = true) : Int32.ofInt 0 < (if rkF s = Int32.ofInt 4 then Int32.ofInt 5 else rkF s) := by
  rcases biS_spec h with rfl | rfl | rfl | rfl | rfl | rfl | rfl <;> decide
theorem btS_inv {oc0 : List Int32} {s : Int32} {p : PT} (h : InvP oc0 false p) (hs : biS s = true) : esInv oc0 (btS s p) := by
  have hu : InvP oc0 false (stF s p) := unwF_inv (rk_bi hs) _ _ _ h
  have hp : InvP oc0 true (s :: (stF s p).1, (stF s p).2.1, (stF s p).2.2) := by
    obtain ⟨h1, c, hc, h2⟩ := hu
    refine ⟨hsOk_push h1 (Or.inr (Or.inr hs)), c, hc, ?_⟩
    show Ht c ((nbS (stF s p).1 + if biS s = true then 1 else 0) + 0)
    rw [if_pos hs]
    exact h2
  unfold btS
  split
  · rename_i q
    revert q
    show (btF s p).1 = true → InvP oc0 true (btF s p).2
    unfold btF
    split
    · split
      · exact fun z => by cases z
      · exact fun _ => hp
    · exact fun _ => hp
  · exact fun z => by cases z
theorem unwF_hd {r : Int32} : ∀ hs op oc t q, (unwF r hs op oc).1 = t :: q → rkF t < r
  | [], _, _, _, _, h => by cases h
  | s :: hs, op, oc, t, q, h => by
    unfold unwF at h
    split at h
    · rename_i z
      cases h
      exact z
    · exact unwF_hd hs _ _ t q h
theorem rk_hd {t : Int32} (h : rkF t < Int32.ofInt 1) (h0 : t = Int32.ofInt 0 ∨ unS t ∨ biS t = true) : t = Int32.ofInt 0 := by
  rcases h0 with z | z | z
  · exact z
  · rcases z with rfl | rfl <;> exact absurd h (by decide)
  · rcases biS_spec z with rfl | rfl | rfl | rfl | rfl | rfl | rfl <;> exact absurd h (by decide)
theorem clS2_inv {oc0 : List Int32} {br : Bool} {p : PT} (h : InvP oc0 false p) (hd : ∀ t q, p.1 = t :: q → rkF t < Int32.ofInt 1) : esInv oc0 (clS2 br p) := by
  obtain ⟨zh, zo, zc⟩ := p
  cases zh with
  | nil => exact no_inl
  | cons t zh =>
    obtain ⟨h1, c, hc, h2⟩ := h
    have ht : t = Int32.ofInt 0 := rk_hd (hd t zh rfl) (h1 t (List.mem_cons_self ..))
    subst ht
    exact unwF_inv (by decide) zh _ zc ⟨hsOk_tl h1, c, hc, h2⟩
theorem stE_inv {oc0 : List Int32} {wa br : Bool} {tk v : Int32} {p : PT} (h : InvP oc0 wa p) (ht : tkOk tk v) : esInv oc0 (stE wa br tk v p) := by
  unfold stE
  split
  · rename_i q
    subst q
    have app : ∀ w, (∀ c n, Ht c n → Ht (c ++ [w]) (n + 1)) → InvP oc0 false (unwF (Int32.ofInt 7) p.1 p.2.1 (p.2.2 ++ [w])) := by
      intro w hw
      obtain ⟨h1, c, hc, h2⟩ := h
      exact unwF_inv (by decide) _ _ _ ⟨h1, c ++ [w], by rw [hc, List.append_assoc], hw _ _ h2⟩
    split
    · rename_i q1
      exact app _ (fun c n hc => Ht_num hc (ht.1 q1))
    · split
      · rename_i q2
        exact app _ (fun c n hc => Ht_name hc (ht.2 q2))
      · split
        · split
          · exact onS_inv h (Or.inr (Or.inl rfl))
          · exact stW_inv h
        · exact stW_inv h
  · rename_i q
    have q : wa = false := by
      cases wa with
      | false => rfl
      | true => exact absurd rfl q
    have hu := un_any (r := Int32.ofInt 1) h (by decide) q
    split
    · intro z
      exact ⟨List.isEmpty_iff.mp z, hu⟩
    · split
      · exact clS2_inv hu (fun t z hz => unwF_hd _ _ _ t z hz)
      · split
        · exact fun z => by cases z
        · rename_i q3
          subst q
          exact btS_inv h (sgF_bi _ q3)
theorem erF_inv {ws tp : List Int32} {t : Nat} (ht : t < 2 ^ 31) {oc0 : List Int32} : ∀ (m : Nat) (wa br : Bool) (a : Nat) (p : PT), InvP oc0 wa p → (erF ws tp t m wa br a p).1 = true → ∃ c, (erF ws tp t m wa br a p).2.2.2.2 = oc0 ++ c ∧ Ht c 1 := by
  intro m
  induction m with
  | zero => intro _ _ _ _ _ z; exact absurd z Bool.false_ne_true
  | succ m ih =>
    intro wa br a p hi
    have h := stE_inv (br := br) hi (nxt_val ws tp (t := t) (a := a) ht)
    unfold erF
    revert h
    cases stE wa br (nxtF ws tp t a).2.2.1 (nxtF ws tp t a).2.2.2 p with
    | inl e =>
      obtain ⟨b, q⟩ := e
      intro h hb
      obtain ⟨h1, -, c, hc, h2⟩ := h hb
      refine ⟨c, hc, ?_⟩
      rw [h1] at h2
      exact h2
    | inr e =>
      obtain ⟨wa', br', q⟩ := e
      intro h
      exact ih wa' br' _ q h
theorem erF_ok {ws tp : List Int32} {t : Nat} (ht : t < 2 ^ 31) {oc : List Int32} {m a : Nat} (h : (erF ws tp t m true true a ([], Int32.ofInt 0, oc)).1 = true) : ∃ c, (erF ws tp t m true true a ([], Int32.ofInt 0, oc)).2.2.2.2 = oc ++ c ∧ Ht c 1 :=
  erF_inv ht m true true a _ ⟨fun x hx => absurd hx (List.not_mem_nil), [], (List.append_nil oc).symm, fun _ => ⟨[], rfl, rfl⟩⟩ h
theorem txL_step {ws tp : List Int32} {t tx : Nat} (ht : t < 2 ^ 31) (m p a : Nat) (b : Int32) (oc st : List Int32) (h : (txL ws tp t tx (m + 1) p (true, a, b, oc, st)).1 = true) :
    ∃ c a' b', Ht c 1 ∧ txL ws tp t tx (m + 1) p (true, a, b, oc, st) = txL ws tp t tx m (p + 1) (true, a', b', oc ++ c, st.set (4 * tx + p) (nI oc.length)) := by
  have e1 : txL ws tp t tx (m + 1) p (true, a, b, oc, st) = if hdF (nxtF ws tp t a) p = true then txL ws tp t tx m (p + 1) ((erF ws tp t (t + 1) true true (nxtF ws tp t a).2.1 ([], Int32.ofInt 0, oc)).1, (erF ws tp t (t + 1) true true (nxtF ws tp t a).2.1 ([], Int32.ofInt 0, oc)).2.1.2.1, nI (erF ws tp t (t + 1) true true (nxtF ws tp t a).2.1 ([], Int32.ofInt 0, oc)).2.1.1, (erF ws tp t (t + 1) true true (nxtF ws tp t a).2.1 ([], Int32.ofInt 0, oc)).2.2.2.2, st.set (4 * tx + p) (nI oc.length))
      else (false, (nxtF ws tp t a).2.1, nI (nxtF ws tp t a).1, oc, st.set (4 * tx + p) (nI oc.length)) := if_pos rfl
  rw [e1] at h ⊢
  by_cases q : hdF (nxtF ws tp t a) p = true
  · rw [if_pos q] at h ⊢
    have hk := erF_ok (ws := ws) (tp := tp) ht (oc := oc) (m := t + 1) (a := (nxtF ws tp t a).2.1)
    revert h hk
    generalize erF ws tp t (t + 1) true true (nxtF ws tp t a).2.1 ([], Int32.ofInt 0, oc) = E
    obtain ⟨eo, ⟨eb, ea, et, ev⟩, eh, eop, eoc⟩ := E
    intro h hk
    cases eo with
    | false =>
      have h : (txL ws tp t tx m (p + 1) (false, ea, nI eb, eoc, st.set (4 * tx + p) (nI oc.length))).1 = true := h
      rw [txL_no] at h
      exact absurd h Bool.false_ne_true
    | true =>
      obtain ⟨c, hc, h1⟩ := hk rfl
      have hc : eoc = oc ++ c := hc
      exact ⟨c, ea, nI eb, h1, by rw [← hc]⟩
  · rw [if_neg q] at h
    exact absurd h Bool.false_ne_true
/-- a text that was taken: its codes and starts -/
theorem txL_ok {ws tp : List Int32} {t tx a : Nat} {b : Int32} {st : List Int32} (ht : t < 2 ^ 31) (h : (txL ws tp t tx 3 0 (true, a, b, [], st)).1 = true) :
    ∃ c0 c1 c2, Ht c0 1 ∧ Ht c1 1 ∧ Ht c2 1 ∧ (txL ws tp t tx 3 0 (true, a, b, [], st)).2.2.2.1 = c0 ++ c1 ++ c2 ∧
      (txL ws tp t tx 3 0 (true, a, b, [], st)).2.2.2.2 = ((st.set (4 * tx) (nI 0)).set (4 * tx + 1) (nI c0.length)).set (4 * tx + 2) (nI (c0 ++ c1).length) := by
  obtain ⟨c0, a0, b0, h0, e0⟩ := txL_step ht 2 0 a b [] st h
  rw [e0] at h
  obtain ⟨c1, a1, b1, h1, e1⟩ := txL_step ht 1 1 a0 b0 _ _ h
  rw [e1] at h
  obtain ⟨c2, a2, b2, h2, e2⟩ := txL_step ht 0 2 a1 b1 _ _ h
  rw [e0, e1, e2]
  exact ⟨c0, c1, c2, h0, h1, h2, rfl, rfl⟩
end ACCEPT2
