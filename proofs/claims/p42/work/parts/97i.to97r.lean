/-! parts 97i .. 97r, joined -/
section
-- 97i.relS
/-! BOTH SIDES ALIKE: speakers alone, and their image (p9, p10, p11) -/
section RELS
variable {S : CS} {M : MS} {nt ns nk ta : Nat}
end RELS
end
section
-- 97j.lexal
/-! THE READERS ALIKE: tokens -/
section LEXAL
theorem nI_inj {a b : Nat} (ha : a < 2 ^ 31) (hb : b < 2 ^ 31) (h : nI a = nI b) : a = b := by
  have h1 := congrArg Int32.toInt h
  rw [nI_toInt ha, nI_toInt hb] at h1
  omega
def WS : List Int32 := Mi.2.1 25
def WD : Nat → List Int32
  | 0 => [111, 110, 99, 101]
  | 1 => [116, 119, 105, 99, 101]
  | 2 => [99, 111, 115, 116, 115]
  | 3 => [97]
  | 4 => [98]
  | 5 => [99]
  | 6 => [100]
  | 7 => [101]
  | 8 => [119, 104, 111]
  | 9 => [111, 114]
  | 10 => [97, 110, 100]
  | 11 => [110, 111, 116]
  | _ => []
theorem WS_WD : ∀ k : Fin 12, ∀ c : Fin 8, WS.getD (8 * k.val + c.val) 0 = (if c.val < (WD k.val).length then (WD k.val).getD c.val 0 else 32) := by decide +kernel
theorem WD_n32 : ∀ k : Fin 12, ∀ c : Fin 8, c.val < (WD k.val).length → ¬ (WD k.val).getD c.val 0 = 32 := by decide +kernel
theorem WD_len : ∀ k : Fin 12, (WD k.val).length ≤ 5 := by decide +kernel
def sgm (tp : List Int32) (b n : Nat) : List Int32 := (List.range n).map (fun j => tp.getD (b + j) 0)
theorem sgm_len {tp : List Int32} {b n : Nat} : (sgm tp b n).length = n := by simp [sgm]
theorem sgm_get {tp : List Int32} {b n c : Nat} (h : c < n) : (sgm tp b n).getD c 0 = tp.getD (b + c) 0 := by
  simp [sgm, List.getD_eq_getElem?_getD, List.getElem?_map, List.getElem?_range h]
theorem ext_getD {xs ys : List Int32} (hl : xs.length = ys.length) (h : ∀ c, c < xs.length → xs.getD c 0 = ys.getD c 0) : xs = ys := by
  apply List.ext_getElem hl
  intro c h1 h2
  have := h c h1
  rw [List.getD_eq_getElem?_getD, List.getD_eq_getElem?_getD, List.getElem?_eq_getElem h1, List.getElem?_eq_getElem h2] at this
  exact this
theorem lkR_iff (ws tp : List Int32) (k f t : Nat) : ∀ m, m ≤ 8 → (lkR ws tp k f t m = true ↔ ∀ c, 8 - m ≤ c → c < 8 → ws.getD (8 * k + c) 0 = (if f + c < t then tp.getD (f + c) 0 else 32))
  | 0, _ => ⟨fun _ c h1 h2 => by omega, fun _ => rfl⟩
  | m + 1, hm => by
    rw [lkR]
    by_cases q : ws.getD (8 * k + (8 - (m + 1))) 0 = (if f + (8 - (m + 1)) < t then tp.getD (f + (8 - (m + 1))) 0 else 32)
    · rw [if_pos q, lkR_iff ws tp k f t m (by omega)]
      constructor
      · intro h c h1 h2
        by_cases e : c = 8 - (m + 1)
        · subst e; exact q
        · exact h c (by omega) h2
      · intro h c h1 h2
        exact h c (by omega) h2
    · rw [if_neg q]
      constructor
      · intro h; cases h
      · intro h
        exact absurd (h (8 - (m + 1)) (Nat.le_refl _) (by omega)) q
theorem lk_iff {tp : List Int32} {b e k : Nat} (hk : k < 12) (hbe : b ≤ e) (hl : ∀ j, b ≤ j → j < e → ¬ tp.getD j 0 = 32) : lkF WS tp b e k = true ↔ sgm tp b (e - b) = WD k := by
  have h5 : (WD k).length ≤ 5 := WD_len ⟨k, hk⟩
  unfold lkF
  by_cases q : 8 < e - b
  · rw [if_pos q]
    constructor
    · intro h; cases h
    · intro h
      have h1 := congrArg List.length h
      rw [sgm_len] at h1
      omega
  · rw [if_neg q, lkR_iff WS tp k b e 8 (Nat.le_refl _)]
    constructor
    · intro h
      have hrow : ∀ c, c < 8 → (if c < (WD k).length then (WD k).getD c 0 else 32) = (if b + c < e then tp.getD (b + c) 0 else 32) := fun c hc => (WS_WD ⟨k, hk⟩ ⟨c, hc⟩).symm.trans (h c (by omega) hc)
      have hn : (WD k).length = e - b := by
        by_cases h1 : (WD k).length < e - b
        · have h2 := hrow (WD k).length (by omega)
          rw [if_neg (Nat.lt_irrefl _), if_pos (by omega)] at h2
          exact absurd h2.symm (hl _ (by omega) (by omega))
        · by_cases h2 : e - b < (WD k).length
          · have h3 := hrow (e - b) (by omega)
            rw [if_pos h2, if_neg (by omega)] at h3
            exact absurd h3 (WD_n32 ⟨k, hk⟩ ⟨e - b, by omega⟩ h2)
          · omega
      refine ext_getD (sgm_len.trans hn.symm) (fun c hc => ?_)
      rw [sgm_len] at hc
      have h3 := hrow c (by omega)
      rw [if_pos (by omega), if_pos (by omega)] at h3
      rw [sgm_get hc]
      exact h3.symm
    · intro h c _ hc
      have hn : e - b = (WD k).length := by rw [← h, sgm_len]
      rw [WS_WD ⟨k, hk⟩ ⟨c, hc⟩]
      by_cases q2 : c < (WD k).length
      · rw [if_pos q2, if_pos (by omega)]
        show (WD k).getD c 0 = _
        rw [← h, sgm_get (by omega)]
      · rw [if_neg q2, if_neg (by omega)]
theorem spL_iff (tp : List Int32) (b i : Nat) : ∀ m j, (¬ spL tp (nI b) i m j = 0 ↔ ∀ c, j ≤ c → c < j + m → chS i c = atF tp (nI b + nI c))
  | 0, j => ⟨fun _ c h1 h2 => by omega, fun _ => by rw [spL]; decide⟩
  | m + 1, j => by
    rw [spL]
    split
    · rename_i q
      rw [spL_iff tp b i m (j + 1)]
      constructor
      · intro h c h1 h2
        by_cases e : c = j
        · subst e; exact q
        · exact h c (by omega) (by omega)
      · intro h c h1 h2
        exact h c (by omega) (by omega)
    · rename_i q
      constructor
      · intro h; exact absurd rfl h
      · intro h
        exact absurd (h j (Nat.le_refl _) (by omega)) q
theorem bytS_len : ∀ i : Fin 7, lenS.getD i.val 0 = (bytS.getD i.val []).length := by decide +kernel
theorem bytS_5 : ∀ i : Fin 7, (bytS.getD i.val []).length ≤ 5 := by decide +kernel
theorem spN_iff {tp : List Int32} {b e i : Nat} (hi : i < 7) (hbe : b ≤ e) (he : e ≤ 160) : ¬ spN tp b e i = 0 ↔ sgm tp b (e - b) = bytS.getD i [] := by
  have h5 : (bytS.getD i []).length ≤ 5 := bytS_5 ⟨i, hi⟩
  unfold spN
  rw [show lenS.getD i 0 = (bytS.getD i []).length from bytS_len ⟨i, hi⟩, nI_sub hbe]
  by_cases q : (bytS.getD i []).length = e - b
  · rw [if_pos (by rw [q]), spL_iff]
    constructor
    · intro h
      refine ext_getD (sgm_len.trans q.symm) (fun c hc => ?_)
      rw [sgm_len] at hc
      have h3 := h c (Nat.zero_le _) (by omega)
      rw [nI_add, atF_nI tp (by omega)] at h3
      rw [sgm_get hc]
      exact h3.symm
    · intro h c _ hc
      rw [nI_add, atF_nI tp (by omega), ← sgm_get (n := e - b) (by omega), h]
      rfl
  · rw [if_neg (fun z => q (nI_inj (by omega) (by omega) z))]
    constructor
    · intro h; exact absurd rfl h
    · intro h
      exact absurd (by rw [← h, sgm_len]) q
theorem let_nat {c : Int32} (h : isLet c) : ∃ x, x < 26 ∧ c = nI (97 + x) := by
  have h1 := Int32.le_iff_toInt_le.mp h.1
  have h2 := Int32.le_iff_toInt_le.mp h.2
  rw [show (Int32.ofInt 97).toInt = 97 from by decide] at h1
  rw [show (Int32.ofInt 122).toInt = 122 from by decide] at h2
  refine ⟨c.toInt.toNat - 97, by omega, Int32.toInt_inj.mp ?_⟩
  rw [nI_toInt (by omega)]
  omega
abbrev isTh (s : List Int32) : Prop := s = WD 3 ∨ s = WD 4 ∨ s = WD 5 ∨ s = WD 6 ∨ s = WD 7
theorem th5 : ∀ x : Fin 26, (nI (97 + x.val) - 97 < 5 ↔ isTh [nI (97 + x.val)]) := by decide +kernel
theorem sgm_1 (tp : List Int32) (b : Nat) : sgm tp b 1 = [tp.getD b 0] := rfl
theorem thing_iff {tp : List Int32} {b e : Nat} (hbe : b < e) (he : e ≤ 160) (hL : isLet (tp.getD b 0)) : wThing tp b e ↔ isTh (sgm tp b (e - b)) := by
  unfold wThing
  rw [nI_sub (by omega), atF_nI tp (by omega)]
  obtain ⟨x, hx, ex⟩ := let_nat hL
  by_cases q : e - b = 1
  · rw [q, sgm_1, ex]
    exact (and_iff_right rfl).trans (th5 ⟨x, hx⟩)
  · constructor
    · intro h
      exact absurd (nI_inj (by omega) (by decide) h.1) q
    · intro h
      have hl : (sgm tp b (e - b)).length = 1 := by
        rcases h with h | h | h | h | h <;> rw [h] <;> rfl
      rw [sgm_len] at hl
      exact absurd hl q
def wsF (s : List Int32) : Int32 := if isTh s then 3 else if s = bytS.getD 0 [] then 3 else if s = bytS.getD 1 [] then 4 else if s = bytS.getD 2 [] then 5 else if s = bytS.getD 3 [] then 6
  else if s = bytS.getD 4 [] then 7 else if s = bytS.getD 5 [] then 8 else if s = bytS.getD 6 [] then 9 else 1
def wvF (s : List Int32) : Int32 := if isTh s then s.getD 0 0 - 97 else 5
theorem wSort_eq {tp : List Int32} {b e : Nat} (hbe : b < e) (he : e ≤ 160) (hL : isLet (tp.getD b 0)) : wSort tp b e = wsF (sgm tp b (e - b)) := by
  have s0 := spN_iff (tp := tp) (b := b) (e := e) (i := 0) (by decide) (by omega) he
  have s1 := spN_iff (tp := tp) (b := b) (e := e) (i := 1) (by decide) (by omega) he
  have s2 := spN_iff (tp := tp) (b := b) (e := e) (i := 2) (by decide) (by omega) he
  have s3 := spN_iff (tp := tp) (b := b) (e := e) (i := 3) (by decide) (by omega) he
  have s4 := spN_iff (tp := tp) (b := b) (e := e) (i := 4) (by decide) (by omega) he
  have s5 := spN_iff (tp := tp) (b := b) (e := e) (i := 5) (by decide) (by omega) he
  have s6 := spN_iff (tp := tp) (b := b) (e := e) (i := 6) (by decide) (by omega) he
  have sth := thing_iff hbe he hL
  unfold wSort wSp wsF
  by_cases q : isTh (sgm tp b (e - b))
  · rw [if_pos q, if_pos (sth.mpr q)]
  · rw [if_neg q, if_neg (fun z => q (sth.mp z))]
    simp only [s0, s1, s2, s3, s4, s5, s6]
theorem wVal_eq {tp : List Int32} {b e : Nat} (hbe : b < e) (he : e ≤ 160) (hL : isLet (tp.getD b 0)) : wVal tp b e = wvF (sgm tp b (e - b)) := by
  have sth := thing_iff hbe he hL
  unfold wVal wvF
  by_cases q : isTh (sgm tp b (e - b))
  · rw [if_pos q, if_pos (sth.mpr q), sgm_get (by omega), atF_nI tp (by omega)]
    rfl
  · rw [if_neg q, if_neg (fun z => q (sth.mp z))]
theorem wf_spec (ws tp : List Int32) (f t : Nat) : ∀ m k, m + k = 12 → (wfF ws tp f t m k < 12 ∧ lkF ws tp f t (wfF ws tp f t m k) = true) ∨ (wfF ws tp f t m k = 12 ∧ ∀ j, k ≤ j → j < 12 → ¬ lkF ws tp f t j = true)
  | 0, k, h => Or.inr ⟨rfl, fun j h1 h2 => by omega⟩
  | m + 1, k, h => by
    rw [wfF]
    by_cases q : lkF ws tp f t k = true
    · rw [if_pos q]
      exact Or.inl ⟨by omega, q⟩
    · rw [if_neg q]
      rcases wf_spec ws tp f t m (k + 1) (by omega) with h1 | ⟨h1, h2⟩
      · exact Or.inl h1
      · refine Or.inr ⟨h1, fun j h3 h4 => ?_⟩
        by_cases e : j = k
        · subst e; exact q
        · exact h2 j (by omega) h4
/-- a token of the class, and the reference's -/
def TR (s v tk w : Int32) : Prop := (s = 0 ∧ tk = 0) ∨ (s = 1 ∧ tk = -1) ∨ (s = 2 ∧ tk = 1 ∧ w = v) ∨ (s = 3 ∧ tk = 2 ∧ w = v) ∨ ((s = 4 ∨ s = 5 ∨ s = 6) ∧ tk = 3 ∧ w = s - 4) ∨ (s = 7 ∧ tk = 4) ∨ (s = 8 ∧ tk = 5) ∨ (s = 9 ∧ tk = 6) ∨ (tk = s ∧ sgC s = true)
theorem TR_wd : ∀ k : Fin 12, (wsF (WD k.val) = 3 ∧ tkV (nI k.val) = 2 ∧ vaV (nI k.val) = wvF (WD k.val)) ∨ ((wsF (WD k.val) = 4 ∨ wsF (WD k.val) = 5 ∨ wsF (WD k.val) = 6) ∧ tkV (nI k.val) = 3 ∧ vaV (nI k.val) = wsF (WD k.val) - 4) ∨ (wsF (WD k.val) = 7 ∧ tkV (nI k.val) = 4) ∨ (wsF (WD k.val) = 8 ∧ tkV (nI k.val) = 5) ∨ (wsF (WD k.val) = 9 ∧ tkV (nI k.val) = 6) := by decide +kernel
theorem bytS_WD : bytS.getD 0 [] = WD 8 ∧ bytS.getD 1 [] = WD 0 ∧ bytS.getD 2 [] = WD 1 ∧ bytS.getD 3 [] = WD 2 ∧ bytS.getD 4 [] = WD 9 ∧ bytS.getD 5 [] = WD 10 ∧ bytS.getD 6 [] = WD 11 := by decide +kernel
theorem wsF_no {s : List Int32} (h : ∀ k, k < 12 → ¬ s = WD k) : wsF s = 1 := by
  obtain ⟨b0, b1, b2, b3, b4, b5, b6⟩ := bytS_WD
  unfold wsF
  rw [b0, b1, b2, b3, b4, b5, b6]
  rw [if_neg (by rintro (z | z | z | z | z) <;> exact h _ (by decide) z), if_neg (h 8 (by decide)), if_neg (h 0 (by decide)), if_neg (h 1 (by decide)), if_neg (h 2 (by decide)), if_neg (h 9 (by decide)), if_neg (h 10 (by decide)), if_neg (h 11 (by decide))]
theorem word_al {tp tq : List Int32} {b e : Nat} (hbe : b < e) (he : e ≤ 160) (hL : ∀ j, b ≤ j → j < e → isLet (tp.getD j 0)) (hq : ∀ j, j < e → tp.getD j 0 = tq.getD j 0) :
    TR (wSort tp b e) (wVal tp b e) (tkV (nI (wfF WS tq b e 12 0))) (vaV (nI (wfF WS tq b e 12 0))) := by
  have es : sgm tp b (e - b) = sgm tq b (e - b) := by
    refine ext_getD (sgm_len.trans sgm_len.symm) (fun c hc => ?_)
    rw [sgm_len] at hc
    rw [sgm_get hc, sgm_get hc]
    exact hq _ (by omega)
  have hl : ∀ j, b ≤ j → j < e → ¬ tq.getD j 0 = 32 := fun j h1 h2 z => by
    have h3 := hL j h1 h2
    rw [hq j h2, z] at h3
    exact absurd h3.1 (by decide)
  have hb := hL b (Nat.le_refl _) hbe
  rw [wSort_eq hbe he hb, wVal_eq hbe he hb, es]
  rcases wf_spec WS tq b e 12 0 (by decide) with ⟨h1, h2⟩ | ⟨h1, h2⟩
  · have h3 := (lk_iff h1 (by omega) hl).mp h2
    rw [h3]
    rcases TR_wd ⟨_, h1⟩ with z | z | z | z | z
    · exact Or.inr (Or.inr (Or.inr (Or.inl z)))
    · exact Or.inr (Or.inr (Or.inr (Or.inr (Or.inl z))))
    · exact Or.inr (Or.inr (Or.inr (Or.inr (Or.inr (Or.inl z)))))
    · exact Or.inr (Or.inr (Or.inr (Or.inr (Or.inr (Or.inr (Or.inl z))))))
    · exact Or.inr (Or.inr (Or.inr (Or.inr (Or.inr (Or.inr (Or.inr (Or.inl z)))))))
  · rw [h1, wsF_no (fun k hk z => h2 k (Nat.zero_le _) hk ((lk_iff hk (by omega) hl).mpr z))]
    exact Or.inr (Or.inl ⟨rfl, by decide⟩)
theorem sg_al (c : Int32) : sgR c = sgC c := by
  by_cases h1 : c = 40
  · subst h1; rfl
  by_cases h2 : c = 41
  · subst h2; rfl
  by_cases h3 : c = 59
  · subst h3; rfl
  by_cases h4 : c = 43
  · subst h4; rfl
  by_cases h5 : c = 45
  · subst h5; rfl
  by_cases h6 : c = 42
  · subst h6; rfl
  by_cases h7 : c = 60
  · subst h7; rfl
  by_cases h8 : c = 61
  · subst h8; rfl
  have e : sgR c = false := (if_neg h1).trans ((if_neg h2).trans ((if_neg h3).trans ((if_neg h4).trans ((if_neg h5).trans ((if_neg h6).trans ((if_neg h7).trans (if_neg h8)))))))
  rw [e]
  unfold sgC
  simp [h1, h2, h3, h4, h5, h6, h7, h8]
theorem skR_al {tp tq : List Int32} {t : Nat} (h : ∀ j, j < t → tp.getD j 0 = tq.getD j 0) : ∀ m a, a + m ≤ t → skR tp m a = skR tq m a
  | 0, _, _ => rfl
  | m + 1, a, ha => by rw [skR, skR, h a (by omega), skR_al h m (a + 1) (by omega)]
theorem runW_al {tp tq : List Int32} {t : Nat} (h : ∀ j, j < t → tp.getD j 0 = tq.getD j 0) : ∀ m a, a + m ≤ t → runW tp m a = runW tq m a
  | 0, _, _ => rfl
  | m + 1, a, ha => by rw [runW, runW, h a (by omega), runW_al h m (a + 1) (by omega)]
theorem runW_let (tp : List Int32) : ∀ m a j, a ≤ j → j < runW tp m a → isLet (tp.getD j 0)
  | 0, a, j, h1, h2 => by rw [runW] at h2; omega
  | m + 1, a, j, h1, h2 => by
    rw [runW] at h2
    split at h2
    · rename_i q
      by_cases e : j = a
      · subst e; exact q
      · exact runW_let tp m (a + 1) j (by omega) h2
    · omega
theorem dg_al {tp tq : List Int32} {t : Nat} (h : ∀ j, j < t → tp.getD j 0 = tq.getD j 0) : ∀ m a n v w, a + m ≤ t → (dgR tq m a n v).1 = (dgC tp m a w).1 ∧ a ≤ (dgC tp m a w).1 ∧ (dgR tq m a n v).2.1 + a = n + (dgC tp m a w).1 ∧ ((dgR tq m a n v).2.1 ≤ 4 → v = w → (dgR tq m a n v).2.2 = (dgC tp m a w).2)
  | 0, a, n, v, w, _ => ⟨rfl, Nat.le_refl _, rfl, fun _ e => e⟩
  | m + 1, a, n, v, w, ha => by
    rw [dgR, dgC, ← h a (by omega)]
    by_cases q : isDig (tp.getD a 0)
    · rw [if_pos q, if_pos q]
      obtain ⟨i1, i2, i3, i4⟩ := dg_al h m (a + 1) (n + 1) (if Int32.ofInt 4 ≤ nI n then Int32.ofInt 0 else Int32.ofInt 10 * v + tp.getD a 0 - Int32.ofInt 48) (w * 10 + tp.getD a 0 - 48) (by omega)
      refine ⟨i1, by omega, by omega, fun h4 e => i4 h4 ?_⟩
      rw [if_neg (fun z => by
        have := (nI_leI (a := 4) (b := n) (by decide) (by omega)).mp z
        omega), e]
      rw [Int32.mul_comm]
      rfl
    · rw [if_neg q, if_neg q]
      exact ⟨rfl, Nat.le_refl _, rfl, fun _ e => e⟩
theorem lex_al {tp tq : List Int32} {t a : Nat} (h : ∀ j, j < t → tp.getD j 0 = tq.getD j 0) (ha : a ≤ t) (ht : t ≤ 160) :
    (nxtF WS tq t a).1 = (lexF tp t a).1 ∧ (nxtF WS tq t a).2.1 = (lexF tp t a).2.1 ∧ TR (lexF tp t a).2.2.1 (lexF tp t a).2.2.2 (nxtF WS tq t a).2.2.1 (nxtF WS tq t a).2.2.2 := by
  have h1 := skR_le tp (t - a) a
  unfold nxtF lexF
  rw [← skR_al h (t - a) a (by omega)]
  revert h1
  generalize skR tp (t - a) a = b
  intro h1
  unfold nextT clT
  by_cases q : b = t
  · rw [if_pos q, if_pos q]
    exact ⟨rfl, rfl, Or.inl ⟨rfl, rfl⟩⟩
  rw [if_neg q, if_neg q, ← h b (by omega)]
  by_cases q2 : isLet (tp.getD b 0)
  · rw [if_pos q2, if_pos q2, ← runW_al h (t - b) b (by omega)]
    refine ⟨rfl, rfl, word_al ?_ ?_ (fun j h3 h4 => runW_let tp _ _ j h3 h4) (fun j hj => h j ?_)⟩
    · obtain ⟨m, hm⟩ : ∃ m, t - b = m + 1 := ⟨t - b - 1, by omega⟩
      rw [hm, runW, if_pos q2]
      have := runW_ge tp m (b + 1)
      omega
    · have := runW_le tp (t - b) b
      omega
    · have := runW_le tp (t - b) b
      omega
  rw [if_neg q2, if_neg q2]
  by_cases q3 : isDig (tp.getD b 0)
  · rw [if_pos q3, if_pos q3]
    obtain ⟨i1, i2, i3, i4⟩ := dg_al h (t - b) b 0 (Int32.ofInt 0) 0 (by omega)
    have i5 := dgC_le tp (t - b) b 0
    refine ⟨rfl, i1, ?_⟩
    show TR (nSort b (dgC tp (t - b) b 0).1) (dgC tp (t - b) b 0).2 (if nI (dgR tq (t - b) b 0 (Int32.ofInt 0)).2.1 ≤ Int32.ofInt 4 then Int32.ofInt 1 else Int32.ofInt (-1)) (dgR tq (t - b) b 0 (Int32.ofInt 0)).2.2
    unfold nSort
    rw [nI_sub i2]
    have e1 : (nI ((dgC tp (t - b) b 0).1 - b) ≤ 4 ↔ (dgC tp (t - b) b 0).1 - b ≤ 4) := nI_leI (b := 4) (by omega) (by decide)
    have e2 : (nI (dgR tq (t - b) b 0 (Int32.ofInt 0)).2.1 ≤ Int32.ofInt 4 ↔ (dgR tq (t - b) b 0 (Int32.ofInt 0)).2.1 ≤ 4) := nI_leI (b := 4) (by omega) (by decide)
    by_cases q4 : (dgR tq (t - b) b 0 (Int32.ofInt 0)).2.1 ≤ 4
    · rw [if_pos (e1.mpr (by omega)), if_pos (e2.mpr q4)]
      exact Or.inr (Or.inr (Or.inl ⟨rfl, rfl, i4 q4 rfl⟩))
    · rw [if_neg (fun z => q4 (by have := e1.mp z; omega)), if_neg (fun z => q4 (e2.mp z))]
      exact Or.inr (Or.inl ⟨rfl, rfl⟩)
  · rw [if_neg q3, if_neg q3]
    refine ⟨rfl, rfl, ?_⟩
    show TR (if sgC (tp.getD b 0) = true then tp.getD b 0 else 1) 0 (if sgR (tp.getD b 0) = true then tp.getD b 0 else Int32.ofInt (-1)) (Int32.ofInt 0)
    rw [sg_al]
    by_cases q4 : sgC (tp.getD b 0) = true
    · rw [if_pos q4, if_pos q4]
      exact Or.inr (Or.inr (Or.inr (Or.inr (Or.inr (Or.inr (Or.inr (Or.inr ⟨rfl, q4⟩)))))))
    · rw [if_neg q4, if_neg q4]
      exact Or.inr (Or.inl ⟨rfl, rfl⟩)
end LEXAL
end
section
-- 97k.sim
/-! THE READERS ALIKE: rule by rule -/
section SIMR
variable {tp tq : List Int32} {t : Nat}
/-- how a sign binds, by the class's sort -/
def opk (x : Int32) : Int32 := if x = 7 then Int32.ofInt 1 else if x = 8 then Int32.ofInt 2 else if x = 60 then Int32.ofInt 4 else if x = 61 then Int32.ofInt 4 else if x = 43 then Int32.ofInt 5 else if x = 45 then Int32.ofInt 5 else if x = 42 then Int32.ofInt 6 else Int32.ofInt 0
def sgn (x : Int32) : Int32 := if x = 7 then Int32.ofInt 11 else if x = 8 then Int32.ofInt 12 else if x = 60 then Int32.ofInt 14 else if x = 61 then Int32.ofInt 15 else if x = 43 then Int32.ofInt 16 else if x = 45 then Int32.ofInt 17 else if x = 42 then Int32.ofInt 18 else Int32.ofInt (-1)
/-- a code of the class, as the reference's -/
def gm (x : Int32 × Int32) : Int32 := if x.1 = 2 then Int32.ofInt 100000 + x.2 else if x.1 = 3 then x.2 else if x.1 = 9 then Int32.ofInt 13 else if x.1 = 10 then Int32.ofInt 19 else sgn x.1
def TopLt (r : Int32) (hs : List Int32) : Prop := ∀ s q, hs = s :: q → rkF s < r
theorem TopLt.mono {r r' : Int32} {hs : List Int32} (h : TopLt r hs) (hr : r ≤ r') : TopLt r' hs := fun s q e => Int32.lt_of_lt_of_le (h s q e) hr
theorem TopLt.cons {r o : Int32} {hs : List Int32} (h : rkF o < r) : TopLt r (o :: hs) := fun s q e => by cases e; exact h
theorem unw_top {r : Int32} {hs : List Int32} (h : TopLt r hs) (op : Int32) (oc : List Int32) : unwF r hs op oc = (hs, op, oc) := by
  cases hs with
  | nil => rfl
  | cons s q => rw [unwF, if_pos (h s q rfl)]
theorem unw_unw {r r' : Int32} (hr : r ≤ r') : ∀ (hs : List Int32) (op : Int32) (oc : List Int32), unwF r (unwF r' hs op oc).1 (unwF r' hs op oc).2.1 (unwF r' hs op oc).2.2 = unwF r hs op oc
  | [], _, _ => rfl
  | s :: hs, op, oc => by
    rw [unwF]
    by_cases q : rkF s < r'
    · rw [if_pos q]
    · rw [if_neg q, unw_unw hr hs, unwF, if_neg (fun z => q (Int32.lt_of_lt_of_le z hr))]
theorem unw_via {r r' : Int32} {P : PT} {hs : List Int32} {op : Int32} {oc : List Int32} (hr : r ≤ r') (h : unwF r' P.1 P.2.1 P.2.2 = (hs, op, oc)) : unwF r P.1 P.2.1 P.2.2 = unwF r hs op oc := by
  have := unw_unw hr P.1 P.2.1 P.2.2
  rw [h] at this
  exact this.symm
/-- the reference's reader -/
abbrev eR (tq : List Int32) (t m : Nat) (wa br : Bool) (a : Nat) (P : PT) := erF WS tq t m wa br a P
/-- what may stand behind a rule -/
def Ex (r x : Int32) (P : PT) : Prop := opk x < r ∨ (opk x = Int32.ofInt 4 ∧ r ≤ Int32.ofInt 4 ∧ tp4 (unwF (Int32.ofInt 5) P.1 P.2.1 P.2.2).1 = true)
/-- a code that the class writes -/
def CodeOk (x : Int32 × Int32) : Prop := (x.1 = 2 ∧ Int32.ofInt 100000 ≤ Int32.ofInt 100000 + x.2) ∨ (x.1 = 3 ∧ Int32.ofInt 0 ≤ x.2 ∧ x.2 < Int32.ofInt 6) ∨ x.1 = 9 ∨ x.1 = 10 ∨ ¬ opk x.1 = Int32.ofInt 0
def Vd (c : List (Int32 × Int32)) : Prop := ∀ x, x ∈ c → CodeOk x
theorem Vd.app {a b : List (Int32 × Int32)} (h : Vd a) (h2 : Vd b) : Vd (a ++ b) := fun x hx => (List.mem_append.mp hx).elim (h x) (h2 x)
theorem Vd.one {x : Int32 × Int32} (h : CodeOk x) : Vd [x] := fun y hy => by rw [List.mem_singleton.mp hy]; exact h
/-- a rule was read: the class stands at a', its codes are c more -/
def Went (tp : List Int32) (t : Nat) (p : PS) (a : Nat) (q : PS) (a' m' : Nat) (c : List (Int32 × Int32)) : Prop := a < a' ∧ a' ≤ t ∧ q = (lexF tp t a', p.2 ++ c) ∧ c.length ≤ a' - a ∧ t - a' < m' ∧ Vd c
def Good (tp tq : List Int32) (t : Nat) (r : Int32) (p : PS) (a m : Nat) (br : Bool) (hs : List Int32) (op : Int32) (oc : List Int32) (q : PS) : Prop :=
  ∃ a' m' br' P' c, Went tp t p a q a' m' c ∧ eR tq t m true br a (hs, op, oc) = eR tq t m' false br' a' P' ∧ unwF r P'.1 P'.2.1 P'.2.2 = unwF r hs op (oc ++ c.map gm) ∧ Ex r (srt q) P'
def Bad (tq : List Int32) (t a m : Nat) (br : Bool) (P : PT) (q : PS) : Prop := (eR tq t m true br a P).1 = false ∧ (eR tq t m true br a P).2.1.1 = q.1.1
/-- where a rule begins -/
def At (tp : List Int32) (t : Nat) (p : PS) (a m : Nat) : Prop := p.1 = lexF tp t a ∧ a ≤ t ∧ p.2.length ≤ a ∧ t - a < m
def Sim (tp tq : List Int32) (t : Nat) (r r2 : Int32) (n : Nat) (f : GF) : Prop := ∀ p a m br hs op oc, At tp t p a m → TopLt r2 hs → op = nI (5 - n) → (if r ≤ Int32.ofInt 3 then br = true else (srt p = 9 → br = false)) →
  if (f p).1 = true then Good tp tq t r p a m br hs op oc (f p).2 else Bad tq t a m br (hs, op, oc) (f p).2
/-- ones: all that binds so is unwound at once -/
def SimO (tp tq : List Int32) (t : Nat) (n : Nat) (f : GF) : Prop := ∀ p a m br hs op oc, At tp t p a m → op = nI (5 - n) → (srt p = 9 → br = false) →
  if (f p).1 = true then (∃ a' m' br' c, Went tp t p a (f p).2 a' m' c ∧ eR tq t m true br a (hs, op, oc) = eR tq t m' false br' a' (unwF (Int32.ofInt 7) hs op (oc ++ c.map gm))) else Bad tq t a m br (hs, op, oc) (f p).2
/-- the tapes are alike -/
def Lex (tp tq : List Int32) (t : Nat) : Prop := (∀ j, j < t → tp.getD j 0 = tq.getD j 0) ∧ t ≤ 160
theorem TR.sg {s v tk w : Int32} (h : TR s v tk w) : sgF tk = sgn s := by
  rcases h with ⟨rfl, rfl⟩ | ⟨rfl, rfl⟩ | ⟨rfl, rfl, -⟩ | ⟨rfl, rfl, -⟩ | ⟨h, rfl, -⟩ | ⟨rfl, rfl⟩ | ⟨rfl, rfl⟩ | ⟨rfl, rfl⟩ | ⟨rfl, h⟩
  · decide
  · decide
  · decide
  · decide
  · rcases h with rfl | rfl | rfl <;> decide
  · decide
  · decide
  · decide
  · unfold sgC at h
    simp only [Bool.or_eq_true, beq_iff_eq] at h
    rcases h with ((((((h | h) | h) | h) | h) | h) | h) | h <;> subst h <;> decide
theorem TR.num {s v tk w : Int32} (h : TR s v tk w) : (tk = 1 ↔ s = 2) ∧ (tk = 2 ↔ s = 3) ∧ (tk = 6 ↔ s = 9) ∧ (tk = 45 ↔ s = 45) ∧ (tk = 40 ↔ s = 40) ∧ (tk = 59 ↔ s = 59) ∧ (tk = 41 ↔ s = 41) ∧ (tk = 0 ↔ s = 0) ∧ (tk = 3 ↔ (s = 4 ∨ s = 5 ∨ s = 6)) := by
  rcases h with ⟨rfl, rfl⟩ | ⟨rfl, rfl⟩ | ⟨rfl, rfl, -⟩ | ⟨rfl, rfl, -⟩ | ⟨h, rfl, -⟩ | ⟨rfl, rfl⟩ | ⟨rfl, rfl⟩ | ⟨rfl, rfl⟩ | ⟨rfl, h⟩
  · decide
  · decide
  · decide
  · decide
  · rcases h with rfl | rfl | rfl <;> decide
  · decide
  · decide
  · decide
  · unfold sgC at h
    simp only [Bool.or_eq_true, beq_iff_eq] at h
    rcases h with ((((((h | h) | h) | h) | h) | h) | h) | h <;> subst h <;> decide
theorem TR.val {s v tk w : Int32} (h : TR s v tk w) (hs : s = 2 ∨ s = 3) : w = v := by
  rcases h with ⟨rfl, rfl⟩ | ⟨rfl, rfl⟩ | ⟨rfl, rfl, h⟩ | ⟨rfl, rfl, h⟩ | ⟨h, rfl, -⟩ | ⟨rfl, rfl⟩ | ⟨rfl, rfl⟩ | ⟨rfl, rfl⟩ | ⟨rfl, h⟩
  · exact absurd hs (by decide)
  · exact absurd hs (by decide)
  · exact h
  · exact h
  · rcases h with rfl | rfl | rfl <;> exact absurd hs (by decide)
  · exact absurd hs (by decide)
  · exact absurd hs (by decide)
  · exact absurd hs (by decide)
  · rcases hs with rfl | rfl <;> exact absurd h (by decide)
theorem TR.key {s v tk w : Int32} (h : TR s v tk w) (hs : s = 4 ∨ s = 5 ∨ s = 6) : tk = 3 ∧ w = s - 4 := by
  have h3 := h.num.2.2.2.2.2.2.2.2.mpr hs
  rcases h with ⟨rfl, rfl⟩ | ⟨rfl, rfl⟩ | ⟨rfl, rfl, h⟩ | ⟨rfl, rfl, h⟩ | ⟨h, rfl, hw⟩ | ⟨rfl, rfl⟩ | ⟨rfl, rfl⟩ | ⟨rfl, rfl⟩ | ⟨rfl, h⟩
  · exact absurd h3 (by decide)
  · exact absurd h3 (by decide)
  · exact absurd h3 (by decide)
  · exact absurd h3 (by decide)
  · exact ⟨rfl, hw⟩
  · exact absurd h3 (by decide)
  · exact absurd h3 (by decide)
  · exact absurd h3 (by decide)
  · subst h3; exact absurd h (by decide)
/-- one token of the reference -/
theorem eR_step {m a : Nat} (hm : t - a < m) (wa br : Bool) (P : PT) : ∃ m1, m = m1 + 1 ∧ eR tq t m wa br a P = match stE wa br (nxtF WS tq t a).2.2.1 (nxtF WS tq t a).2.2.2 P with
    | .inl (b, q) => (b, nxtF WS tq t a, q)
    | .inr (wa', br', q) => eR tq t m1 wa' br' (nxtF WS tq t a).2.1 q := by
  obtain ⟨m1, rfl⟩ : ∃ m1, m = m1 + 1 := ⟨m - 1, by omega⟩
  exact ⟨m1, rfl, rfl⟩
/-- a token that is one, passed by both -/
theorem tok (hx : Lex tp tq t) {a : Nat} (ha : a ≤ t) : TR (lexF tp t a).2.2.1 (lexF tp t a).2.2.2 (nxtF WS tq t a).2.2.1 (nxtF WS tq t a).2.2.2 ∧ (nxtF WS tq t a).1 = (lexF tp t a).1 ∧ (nxtF WS tq t a).2.1 = (lexF tp t a).2.1 ∧ (lexF tp t a).2.1 ≤ t ∧ (¬ (lexF tp t a).2.2.1 = 0 → a < (lexF tp t a).2.1) := by
  obtain ⟨h1, h2, h3⟩ := lex_al hx.1 ha hx.2
  obtain ⟨n1, n2, n3, n4⟩ := nxt_spec WS tq ha
  refine ⟨h3, h1, h2, by rw [← h2]; exact n1, fun q => ?_⟩
  rw [← h2]
  refine n4.resolve_left (fun z => q (h3.num.2.2.2.2.2.2.2.1.mp z))
theorem addP_lt {s v : Int32} {p : PS} (h : p.2.length < 160) : addP s v p = (p.1, p.2 ++ [(s, v)]) := by
  unfold addP
  rw [if_pos h]
end SIMR
end
section
-- 97l.sim2
/-! THE READERS ALIKE: rule by rule, all of them -/
section SIMS
variable {tp tq : List Int32} {t n : Nat}
section STE
variable {br wa : Bool} {tk v s : Int32} {P : PT}
theorem stE_1 (h : tk = 1) : stE true br tk v P = .inr (false, br, unwF (Int32.ofInt 7) P.1 P.2.1 (P.2.2 ++ [Int32.ofInt 100000 + v])) := by subst h; rfl
theorem stE_2 (h : tk = 2) : stE true br tk v P = .inr (false, br, unwF (Int32.ofInt 7) P.1 P.2.1 (P.2.2 ++ [v])) := by subst h; rfl
theorem stE_6 (h : tk = 6) : stE true true tk v P = onS true true (Int32.ofInt 13) P := by subst h; rfl
theorem stE_45 (h : tk = 45) : stE true br tk v P = onS true false (Int32.ofInt 19) P := by subst h; rfl
theorem stE_40 (h : tk = 40) : stE true br tk v P = onS true true (Int32.ofInt 0) P := by subst h; rfl
theorem stE_bad (h1 : ¬ tk = 1) (h2 : ¬ tk = 2) (h45 : ¬ tk = 45) (h40 : ¬ tk = 40) (h6 : tk = 6 → br = false) : stE true br tk v P = .inl (false, P) := by
  have e : stW br tk P = .inl (false, P) := by
    unfold stW
    rw [if_neg (show ¬ tk = Int32.ofInt 45 from h45), if_neg (show ¬ tk = Int32.ofInt 40 from h40)]
  unfold stE
  rw [if_pos rfl, if_neg (show ¬ tk = Int32.ofInt 1 from h1), if_neg (show ¬ tk = Int32.ofInt 2 from h2), e]
  by_cases q : tk = Int32.ofInt 6
  · rw [if_pos q, if_neg (by rw [h6 q]; decide)]
  · rw [if_neg q]
theorem stE_59 (h : tk = 59) : stE false br tk v P = .inl ((unwF (Int32.ofInt 1) P.1 P.2.1 P.2.2).1.isEmpty, unwF (Int32.ofInt 1) P.1 P.2.1 P.2.2) := by subst h; rfl
theorem stE_41 (h : tk = 41) : stE false br tk v P = clS2 br (unwF (Int32.ofInt 1) P.1 P.2.1 P.2.2) := by subst h; rfl
theorem stE_no (h59 : ¬ tk = 59) (h41 : ¬ tk = 41) (h : sgF tk = Int32.ofInt (-1)) : stE false br tk v P = .inl (false, P) := by
  unfold stE
  rw [if_neg Bool.false_ne_true, if_neg (show ¬ tk = Int32.ofInt 59 from h59), if_neg (show ¬ tk = Int32.ofInt 41 from h41), if_pos h]
theorem stE_op (h : ¬ sgF tk = Int32.ofInt (-1)) : stE false br tk v P = btS (sgF tk) P := by
  unfold stE
  rw [if_neg Bool.false_ne_true, if_neg (show ¬ tk = Int32.ofInt 59 from fun z => h (by rw [z]; decide)), if_neg (show ¬ tk = Int32.ofInt 41 from fun z => h (by rw [z]; decide)), if_neg h]
theorem onS_5 (h : P.2.1 = 5) : onS wa br s P = .inl (false, P) := by
  have e : onF s P = (false, P) := if_pos h
  unfold onS
  rw [e, if_neg Bool.false_ne_true]
theorem onS_n (h : ¬ P.2.1 = 5) : onS wa br s P = .inr (wa, br, (s :: P.1, P.2.1 + 1, P.2.2)) := by
  have e : onF s P = (true, (s :: P.1, P.2.1 + 1, P.2.2)) := if_neg h
  unfold onS
  rw [e, if_pos rfl]
theorem btS_n4 {hs : List Int32} {op : Int32} {oc : List Int32} (h : ¬ rkF s = Int32.ofInt 4) (e : unwF (rkF s) P.1 P.2.1 P.2.2 = (hs, op, oc)) : btS s P = .inr (true, lt12 s, (s :: hs, op, oc)) := by
  have e2 : btF s P = (true, (s :: hs, op, oc)) := by
    unfold btF stF
    rw [if_neg h, if_neg h, e]
  unfold btS
  rw [e2, if_pos rfl]
theorem btS_4 {hs : List Int32} {op : Int32} {oc : List Int32} (h : rkF s = Int32.ofInt 4) (e : unwF (Int32.ofInt 5) P.1 P.2.1 P.2.2 = (hs, op, oc)) (h4 : tp4 hs = false) : btS s P = .inr (true, lt12 s, (s :: hs, op, oc)) := by
  have e2 : btF s P = (true, (s :: hs, op, oc)) := by
    unfold btF stF
    rw [if_pos h, if_pos h, e, if_neg (by rw [h4]; decide)]
  unfold btS
  rw [e2, if_pos rfl]
theorem btS_4n (h : rkF s = Int32.ofInt 4) (h4 : tp4 (unwF (Int32.ofInt 5) P.1 P.2.1 P.2.2).1 = true) : ∃ Q, btS s P = .inl (false, Q) := by
  have e2 : btF s P = (false, unwF (Int32.ofInt 5) P.1 P.2.1 P.2.2) := by
    unfold btF stF
    rw [if_pos h, if_pos h, if_pos h4]
  unfold btS
  rw [e2, if_neg Bool.false_ne_true]
  exact ⟨_, rfl⟩
end STE
theorem tp4_no {hs : List Int32} (h : TopLt (Int32.ofInt 4) hs) : tp4 hs = false := by
  cases hs with
  | nil => rfl
  | cons s q =>
    have h1 := h s q rfl
    show (if rkF s = Int32.ofInt 4 then true else false) = false
    rw [if_neg (fun z => by rw [z] at h1; exact absurd h1 (by decide))]
theorem opk_all (x : Int32) : opk x = Int32.ofInt 0 ∨ opk x = Int32.ofInt 1 ∨ opk x = Int32.ofInt 2 ∨ opk x = Int32.ofInt 4 ∨ opk x = Int32.ofInt 5 ∨ opk x = Int32.ofInt 6 := by
  unfold opk
  by_cases h1 : x = 7
  · rw [if_pos h1]; exact Or.inr (Or.inl rfl)
  by_cases h2 : x = 8
  · rw [if_neg h1, if_pos h2]; exact Or.inr (Or.inr (Or.inl rfl))
  by_cases h3 : x = 60
  · rw [if_neg h1, if_neg h2, if_pos h3]; exact Or.inr (Or.inr (Or.inr (Or.inl rfl)))
  by_cases h4 : x = 61
  · rw [if_neg h1, if_neg h2, if_neg h3, if_pos h4]; exact Or.inr (Or.inr (Or.inr (Or.inl rfl)))
  by_cases h5 : x = 43
  · rw [if_neg h1, if_neg h2, if_neg h3, if_neg h4, if_pos h5]; exact Or.inr (Or.inr (Or.inr (Or.inr (Or.inl rfl))))
  by_cases h6 : x = 45
  · rw [if_neg h1, if_neg h2, if_neg h3, if_neg h4, if_neg h5, if_pos h6]; exact Or.inr (Or.inr (Or.inr (Or.inr (Or.inl rfl))))
  by_cases h7 : x = 42
  · rw [if_neg h1, if_neg h2, if_neg h3, if_neg h4, if_neg h5, if_neg h6, if_pos h7]; exact Or.inr (Or.inr (Or.inr (Or.inr (Or.inr rfl))))
  rw [if_neg h1, if_neg h2, if_neg h3, if_neg h4, if_neg h5, if_neg h6, if_neg h7]
  exact Or.inl rfl
theorem opk_sgn {x : Int32} (h : ¬ opk x = Int32.ofInt 0) : x = 7 ∨ x = 8 ∨ x = 60 ∨ x = 61 ∨ x = 43 ∨ x = 45 ∨ x = 42 := by
  by_cases h1 : x = 7
  · exact Or.inl h1
  by_cases h2 : x = 8
  · exact Or.inr (Or.inl h2)
  by_cases h3 : x = 60
  · exact Or.inr (Or.inr (Or.inl h3))
  by_cases h4 : x = 61
  · exact Or.inr (Or.inr (Or.inr (Or.inl h4)))
  by_cases h5 : x = 43
  · exact Or.inr (Or.inr (Or.inr (Or.inr (Or.inl h5))))
  by_cases h6 : x = 45
  · exact Or.inr (Or.inr (Or.inr (Or.inr (Or.inr (Or.inl h6)))))
  by_cases h7 : x = 42
  · exact Or.inr (Or.inr (Or.inr (Or.inr (Or.inr (Or.inr h7)))))
  refine absurd ?_ h
  unfold opk
  rw [if_neg h1, if_neg h2, if_neg h3, if_neg h4, if_neg h5, if_neg h6, if_neg h7]
theorem sgn_op {x : Int32} (h : ¬ opk x = Int32.ofInt 0) : rkF (sgn x) = opk x ∧ gm (x, 0) = sgn x ∧ ¬ sgn x = Int32.ofInt (-1) ∧ ¬ x = 0 ∧ ¬ sgn x = Int32.ofInt 13 ∧ ¬ sgn x = Int32.ofInt 19 ∧ lt12 (sgn x) = decide (opk x ≤ Int32.ofInt 2) := by
  rcases opk_sgn h with rfl | rfl | rfl | rfl | rfl | rfl | rfl <;> decide
theorem sgn_no {x : Int32} (h : opk x = Int32.ofInt 0) : sgn x = Int32.ofInt (-1) := by
  unfold opk at h
  unfold sgn
  by_cases h1 : x = 7
  · subst h1; revert h; decide
  by_cases h2 : x = 8
  · subst h2; revert h; decide
  by_cases h3 : x = 60
  · subst h3; revert h; decide
  by_cases h4 : x = 61
  · subst h4; revert h; decide
  by_cases h5 : x = 43
  · subst h5; revert h; decide
  by_cases h6 : x = 45
  · subst h6; revert h; decide
  by_cases h7 : x = 42
  · subst h7; revert h; decide
  rw [if_neg h1, if_neg h2, if_neg h3, if_neg h4, if_neg h5, if_neg h6, if_neg h7]
/-- a sign comes off -/
theorem unw_pop {r o op : Int32} {hs oc : List Int32} (h : ¬ rkF o < r) (h13 : ¬ o = Int32.ofInt 13) (h19 : ¬ o = Int32.ofInt 19) : unwF r (o :: hs) op oc = unwF r hs op (oc ++ [o]) := by
  rw [unwF, if_neg h, if_neg h13, if_neg h19]
  rw [show op - Int32.ofInt 0 = op from by rw [show Int32.ofInt 0 = (0 : Int32) from rfl]; exact Int32.sub_zero op]
theorem unw_19 {op : Int32} {hs oc : List Int32} : unwF (Int32.ofInt 7) (Int32.ofInt 19 :: hs) (op + 1) oc = unwF (Int32.ofInt 7) hs op (oc ++ [Int32.ofInt 19]) := by
  rw [unwF, if_neg (by decide), if_neg (by decide), if_pos rfl]
  rw [show op + 1 - Int32.ofInt 1 = op from Int32.add_sub_cancel op 1]
theorem unw_13 {op : Int32} {hs oc : List Int32} : unwF (Int32.ofInt 3) (Int32.ofInt 13 :: hs) (op + 1) oc = unwF (Int32.ofInt 3) hs op (oc ++ [Int32.ofInt 13]) := by
  rw [unwF, if_neg (by decide), if_pos rfl]
  rw [show op + 1 - Int32.ofInt 1 = op from Int32.add_sub_cancel op 1]
theorem op_full {op : Int32} (h : op = nI (5 - 0)) : op = 5 := h
theorem op_more {op : Int32} {n' : Nat} (hn : n' + 1 ≤ 5) (h : op = nI (5 - (n' + 1))) : ¬ op = 5 ∧ op + 1 = nI (5 - n') := by
  subst h
  constructor
  · intro z
    have := nI_inj (b := 5) (by omega) (by decide) z
    omega
  · rw [nI_1]
    congr 1
    omega
/-- ones -/
theorem one_sim (hx : Lex tp tq t) {prev : Option (GF × GF)} (hn : n ≤ 5) (h0 : prev = none → n = 0) (h1 : ∀ f, prev = some f → ∃ n', n = n' + 1 ∧ Sim tp tq t (Int32.ofInt 1) (Int32.ofInt 1) n' f.1 ∧ SimO tp tq t n' f.2) : SimO tp tq t n (oneP prev tp t) := by
  rintro ⟨k, cd⟩ a m br hs op oc ⟨hp, ha, hl, hm⟩ hop hbr
  have hl : cd.length ≤ a := hl
  have hp : k = lexF tp t a := hp
  have h160 := hx.2
  obtain ⟨m1, rfl, eS⟩ := eR_step (tq := tq) hm true br (hs, op, oc)
  obtain ⟨hT, b1, b2, b3, b4⟩ := tok hx ha
  rw [← hp] at hT b1 b2 b3 b4
  have hv := nxt_val WS tq (t := t) (a := a) (by omega)
  generalize nxtF WS tq t a = r at eS hT b1 b2 hv
  obtain ⟨n1, n2, n6, n45, n40, -⟩ := hT.num
  by_cases q : k.2.2.1 = 2 ∨ k.2.2.1 = 3
  · have b5 : a < k.2.1 := b4 (by rcases q with q | q <;> rw [q] <;> decide)
    have ev : oneP prev tp t (k, cd) = (true, advP tp t (addP k.2.2.1 k.2.2.2 (k, cd))) := if_pos q
    rw [ev, if_pos rfl]
    have hw := hT.val q
    rw [hw] at hv
    refine ⟨k.2.1, m1, br, [(k.2.2.1, k.2.2.2)], ⟨b5, b3, by rw [addP_lt (by show cd.length < 160; omega)]; rfl, by show 1 ≤ _; omega, by omega, Vd.one ?_⟩, ?_⟩
    · rcases q with q | q
      · exact Or.inl ⟨q, hv.1 (n1.mpr q)⟩
      · exact Or.inr (Or.inl ⟨q, hv.2 (n2.mpr q)⟩)
    rw [eS]
    rcases q with q | q
    · rw [stE_1 (n1.mpr q)]
      show eR tq t m1 false br r.2.1 _ = _
      rw [b2, hw, q]
      rfl
    · rw [stE_2 (n2.mpr q)]
      show eR tq t m1 false br r.2.1 _ = _
      rw [b2, hw, q]
      rfl
  by_cases q2 : k.2.2.1 = 45 ∨ k.2.2.1 = 40
  · have b5 : a < k.2.1 := b4 (by rcases q2 with q | q <;> rw [q] <;> decide)
    have ev : oneP prev tp t (k, cd) = oneM prev tp t (k, cd) := (if_neg q).trans (if_pos q2)
    rw [ev]
    cases prev with
    | none =>
      have en := h0 rfl
      subst en
      have e5 := op_full hop
      rw [show oneM none tp t (k, cd) = (false, (k, cd)) from rfl, if_neg Bool.false_ne_true]
      unfold Bad
      rw [eS]
      rcases q2 with q2 | q2
      · rw [stE_45 (n45.mpr q2), onS_5 (P := (hs, op, oc)) e5]
        exact ⟨rfl, b1⟩
      · rw [stE_40 (n40.mpr q2), onS_5 (P := (hs, op, oc)) e5]
        exact ⟨rfl, b1⟩
    | some f =>
      obtain ⟨n', rfl, s1, s7⟩ := h1 f rfl
      obtain ⟨e5, e6⟩ := op_more hn hop
      by_cases q3 : k.2.2.1 = 40
      · have ev2 : oneM (some f) tp t (k, cd) = bktP f.1 tp t (advP tp t (k, cd)) := if_pos q3
        rw [ev2]
        have eS : eR tq t (m1 + 1) true br a (hs, op, oc) = eR tq t m1 true true k.2.1 (Int32.ofInt 0 :: hs, op + 1, oc) := by
          rw [eS, stE_40 (n40.mpr q3), onS_n (P := (hs, op, oc)) e5]
          show eR tq t m1 true true r.2.1 _ = _
          rw [b2]
        have hI := s1 (advP tp t (k, cd)) k.2.1 m1 true (Int32.ofInt 0 :: hs) (op + 1) oc ⟨rfl, b3, by show cd.length ≤ _; omega, by omega⟩ (TopLt.cons (by decide)) e6 (by rw [if_pos (by decide)])
        unfold bktP
        by_cases y : (f.1 (advP tp t (k, cd))).1 = true
        · rw [if_pos y] at hI ⊢
          obtain ⟨a', m', br', P', c, ⟨v1, v2, v3, v4, v5, v6⟩, he, hu, hex⟩ := hI
          rw [unw_top (TopLt.cons (by decide))] at hu
          obtain ⟨m2, rfl, eS2⟩ := eR_step (tq := tq) v5 false br' P'
          obtain ⟨hT2, c1, c2, c3, c4⟩ := tok hx v2
          rw [v3] at hex ⊢
          have hex : Ex (Int32.ofInt 1) (lexF tp t a').2.2.1 P' := hex
          generalize hk2 : lexF tp t a' = k2 at hT2 c1 c2 c3 c4 hex
          generalize nxtF WS tq t a' = r2 at eS2 hT2 c1 c2
          by_cases z : k2.2.2.1 = 41
          · rw [if_pos (show srt (k2, cd ++ c) = 41 from z), if_pos rfl]
            have c5 : a' < k2.2.1 := c4 (by rw [z]; decide)
            refine ⟨k2.2.1, m2, br', c, ⟨by omega, c3, rfl, by omega, by omega, v6⟩, ?_⟩
            rw [eS, he, eS2, stE_41 (hT2.num.2.2.2.2.2.2.1.mpr z), hu]
            show eR tq t m2 false br' r2.2.1 (unwF (Int32.ofInt 7) hs (op + 1 - Int32.ofInt 1) (oc ++ c.map gm)) = _
            rw [c2, show op + 1 - Int32.ofInt 1 = op from Int32.add_sub_cancel op 1]
          · rw [if_neg (show ¬ srt (k2, cd ++ c) = 41 from z), if_neg Bool.false_ne_true]
            unfold Bad
            rw [eS, he, eS2]
            by_cases z2 : k2.2.2.1 = 59
            · rw [stE_59 (hT2.num.2.2.2.2.2.1.mpr z2), hu]
              exact ⟨rfl, c1⟩
            · by_cases z3 : opk k2.2.2.1 = Int32.ofInt 0
              · rw [stE_no (fun y => z2 (hT2.num.2.2.2.2.2.1.mp y)) (fun y => z (hT2.num.2.2.2.2.2.2.1.mp y)) (hT2.sg.trans (sgn_no z3))]
                exact ⟨rfl, c1⟩
              · have so := sgn_op z3
                rcases hex with hex | ⟨hex, -, h4⟩
                · rcases opk_all k2.2.2.1 with o | o | o | o | o | o
                  · exact absurd o z3
                  all_goals (rw [o] at hex; exact absurd hex (by decide))
                · rw [stE_op (by rw [hT2.sg]; exact so.2.2.1), hT2.sg]
                  obtain ⟨Q, hQ⟩ := btS_4n (so.1.trans hex) h4
                  rw [hQ]
                  exact ⟨rfl, c1⟩
        · rw [if_neg y] at hI ⊢
          rw [if_neg Bool.false_ne_true]
          unfold Bad
          rw [eS]
          exact hI
      · have q45 : k.2.2.1 = 45 := q2.resolve_right q3
        have ev2 : oneM (some f) tp t (k, cd) = if (f.2 (advP tp t (k, cd))).1 = true then (true, addP 10 0 (f.2 (advP tp t (k, cd))).2) else (false, (f.2 (advP tp t (k, cd))).2) := if_neg q3
        rw [ev2]
        have eS : eR tq t (m1 + 1) true br a (hs, op, oc) = eR tq t m1 true false k.2.1 (Int32.ofInt 19 :: hs, op + 1, oc) := by
          rw [eS, stE_45 (n45.mpr q45), onS_n (P := (hs, op, oc)) e5]
          show eR tq t m1 true false r.2.1 _ = _
          rw [b2]
        have hI := s7 (advP tp t (k, cd)) k.2.1 m1 false (Int32.ofInt 19 :: hs) (op + 1) oc ⟨rfl, b3, by show cd.length ≤ _; omega, by omega⟩ e6 (fun _ => rfl)
        by_cases y : (f.2 (advP tp t (k, cd))).1 = true
        · rw [if_pos y] at hI ⊢
          rw [if_pos rfl]
          obtain ⟨a', m', br', c, ⟨v1, v2, v3, v4, v5, v6⟩, he⟩ := hI
          have hlc : (cd ++ c).length < 160 := by rw [List.length_append]; omega
          refine ⟨a', m', br', c ++ [(10, 0)], ⟨by omega, v2, ?_, by rw [List.length_append]; show c.length + 1 ≤ _; omega, v5, v6.app (Vd.one (Or.inr (Or.inr (Or.inr (Or.inl rfl)))))⟩, ?_⟩
          · rw [v3]
            show addP 10 0 (lexF tp t a', cd ++ c) = _
            rw [addP_lt hlc, List.append_assoc]
          · rw [eS, he, unw_19, List.map_append, ← List.append_assoc]
            rfl
        · rw [if_neg y] at hI ⊢
          rw [if_neg Bool.false_ne_true]
          unfold Bad
          rw [eS]
          exact hI
  · have ev : oneP prev tp t (k, cd) = (false, (k, cd)) := (if_neg q).trans (if_neg q2)
    rw [ev, if_neg Bool.false_ne_true]
    unfold Bad
    rw [eS, stE_bad (fun z => q (Or.inl (n1.mp z))) (fun z => q (Or.inr (n2.mp z))) (fun z => q2 (Or.inl (n45.mp z))) (fun z => q2 (Or.inr (n40.mp z))) (fun z => hbr (n6.mp z))]
    exact ⟨rfl, b1⟩
end SIMS
end
section
-- 97m.sim3
/-! THE READERS ALIKE: loops, comparisons, nots, all depths -/
section SIMT
variable {tp tq : List Int32} {t n : Nat}
theorem one_7 {f : GF} (h : SimO tp tq t n f) : Sim tp tq t (Int32.ofInt 7) (Int32.ofInt 7) n f := by
  intro p a m br hs op oc hat htop hop hbr
  rw [if_neg (by decide)] at hbr
  have h1 := h p a m br hs op oc hat hop hbr
  by_cases y : (f p).1 = true
  · rw [if_pos y] at h1 ⊢
    obtain ⟨a', m', br', c, hw, he⟩ := h1
    refine ⟨a', m', br', _, c, hw, he, ?_, Or.inl ?_⟩
    · exact unw_unw (Int32.le_refl _) _ _ _
    · rcases opk_all (srt (f p).2) with o | o | o | o | o | o <;> rw [o] <;> decide
  · rw [if_neg y] at h1 ⊢
    exact h1
theorem loop_sim (hx : Lex tp tq t) {r r1 r2 : Int32} {sub : GF} {ops : Int32 → Bool} (hlt : r < r1) (hr2 : r1 ≤ r2) (hops : ∀ x, ops x = true ↔ opk x = r) (hr0 : ¬ r = Int32.ofInt 0) (hr4 : ¬ r = Int32.ofInt 4)
    (hb : (r1 ≤ Int32.ofInt 3 ∧ r ≤ Int32.ofInt 2 ∧ r ≤ Int32.ofInt 4) ∨ (¬ r1 ≤ Int32.ofInt 3 ∧ ¬ r ≤ Int32.ofInt 2 ∧ ¬ r1 ≤ Int32.ofInt 4)) (hrr : ∀ x, opk x < r1 → ¬ opk x = r → opk x < r) (hsub : Sim tp tq t r1 r2 n sub)
    {p : PS} {a m : Nat} {br : Bool} {hs : List Int32} {op : Int32} {oc : List Int32} (hl : p.2.length ≤ a) (htop : TopLt r hs) (hop : op = nI (5 - n)) :
    ∀ (j : Nat) (q : PS) (a' m' : Nat) (br' : Bool) (P' : PT) (c : List (Int32 × Int32)), Went tp t p a q a' m' c → eR tq t m true br a (hs, op, oc) = eR tq t m' false br' a' P' → unwF r P'.1 P'.2.1 P'.2.2 = (hs, op, oc ++ c.map gm) → Ex r1 (srt q) P' → t - a' < j →
      if (loopP sub tp t ops j q).1 = true then Good tp tq t r p a m br hs op oc (loopP sub tp t ops j q).2 else Bad tq t a m br (hs, op, oc) (loopP sub tp t ops j q).2 := by
  intro j
  have h160 := hx.2
  induction j with
  | zero => intro q a' m' br' P' c _ _ _ _ hj; omega
  | succ j ih =>
    rintro q a' m' br' P' c ⟨w1, w2, rfl, w4, w5, w6⟩ he hu hex hj
    obtain ⟨hT, b1, b2, b3, b4⟩ := tok hx w2
    obtain ⟨m1, rfl, eS⟩ := eR_step (tq := tq) w5 false br' P'
    have hex : Ex r1 (lexF tp t a').2.2.1 P' := hex
    rw [loopP]
    show if (if ops (lexF tp t a').2.2.1 = true then _ else _ : Bool × PS).1 = true then _ else _
    by_cases z : ops (lexF tp t a').2.2.1 = true
    · rw [if_pos z]
      have hk := (hops _).mp z
      obtain ⟨k1, k2, k3, k4, k5, k6, k7⟩ := sgn_op (x := (lexF tp t a').2.2.1) (by rw [hk]; exact hr0)
      rw [hk] at k1 k7
      have hop0 : ¬ opk (lexF tp t a').2.2.1 = Int32.ofInt 0 := by rw [hk]; first | exact hr0 | decide
      have hsg := hT.sg
      have b5 := b4 k4
      have hsx : srt (lexF tp t a', p.2 ++ c) = (lexF tp t a').2.2.1 := rfl
      have eadv : advP tp t (lexF tp t a', p.2 ++ c) = (lexF tp t (lexF tp t a').2.1, p.2 ++ c) := rfl
      rw [hsx, eadv]
      have ho : ∃ o, o = sgn (lexF tp t a').2.2.1 := ⟨_, rfl⟩
      obtain ⟨o, ho⟩ := ho
      rw [← ho] at k1 k2 k3 k5 k6 k7 hsg
      have hst : stE false br' (nxtF WS tq t a').2.2.1 (nxtF WS tq t a').2.2.2 P' = .inr (true, lt12 o, (o :: hs, op, oc ++ c.map gm)) := by
        rw [stE_op (by rw [hsg]; exact k3), hsg]
        exact btS_n4 (by rw [k1]; exact hr4) (by rw [k1]; exact hu)
      have e2 : eR tq t m true br a (hs, op, oc) = eR tq t m1 true (lt12 o) (lexF tp t a').2.1 (o :: hs, op, oc ++ c.map gm) := by
        rw [he, eS, hst]
        show eR tq t m1 true (lt12 o) (nxtF WS tq t a').2.1 _ = _
        rw [b2]
      generalize hx0 : (lexF tp t a').2.2.1 = x at *
      generalize ha1 : (lexF tp t a').2.1 = a1 at *
      have hs2 := hsub (lexF tp t a1, p.2 ++ c) a1 m1 (lt12 o) (o :: hs) op (oc ++ c.map gm) ⟨rfl, b3, by show (p.2 ++ c).length ≤ _; rw [List.length_append]; omega, by omega⟩ (TopLt.cons (by rw [k1]; exact Int32.lt_of_lt_of_le hlt hr2)) hop (by
        rcases hb with ⟨h1, h2, -⟩ | ⟨h1, h2, -⟩
        · rw [if_pos h1, k7]; exact decide_eq_true h2
        · rw [if_neg h1, k7]; exact fun _ => decide_eq_false h2)
      by_cases y : (sub (lexF tp t a1, p.2 ++ c)).1 = true
      · rw [if_pos y] at hs2 ⊢
        obtain ⟨a3, m3, br3, P3, c3, ⟨v1, v2, v3, v4, v5, v6⟩, e3, u3, x3⟩ := hs2
        rw [v3] at x3 ⊢
        have x3 : Ex r1 (lexF tp t a3).2.2.1 P3 := x3
        have hl3 : (p.2 ++ c ++ c3).length < 160 := by rw [List.length_append, List.length_append]; omega
        have ead : addP x 0 (lexF tp t a3, p.2 ++ c ++ c3) = (lexF tp t a3, p.2 ++ (c ++ c3 ++ [(x, 0)])) := by
          rw [addP_lt hl3]
          simp only [List.append_assoc]
        rw [show addP x 0 (lexF tp t a3, (lexF tp t a1, p.2 ++ c).2 ++ c3) = (lexF tp t a3, p.2 ++ (c ++ c3 ++ [(x, 0)])) from ead]
        rw [unw_top (TopLt.cons (by rw [k1]; exact hlt))] at u3
        refine ih _ a3 m3 br3 P3 (c ++ c3 ++ [(x, 0)]) ⟨by omega, v2, rfl, ?_, v5, (w6.app v6).app (Vd.one (Or.inr (Or.inr (Or.inr (Or.inr hop0)))))⟩ (e2.trans e3) ?_ x3 (by omega)
        · rw [List.length_append, List.length_append]
          show c.length + c3.length + 1 ≤ _
          omega
        · rw [unw_via (Int32.le_of_lt hlt) u3, unw_pop (by rw [k1]; exact Int32.lt_irrefl) k5 k6, unw_top htop, List.map_append, List.map_append]
          show (hs, op, _) = (hs, op, oc ++ (c.map gm ++ c3.map gm ++ [gm (x, 0)]))
          rw [k2]
          simp only [List.append_assoc]
      · rw [if_neg y] at hs2 ⊢
        rw [if_neg Bool.false_ne_true]
        unfold Bad
        rw [e2]
        exact hs2
    · rw [if_neg z, if_pos rfl]
      refine ⟨a', m1 + 1, br', P', c, ⟨w1, w2, rfl, w4, w5, w6⟩, he, ?_, ?_⟩
      · rw [hu, unw_top htop]
      · rcases hex with hex | ⟨h1, h2, h3⟩
        · exact Or.inl (hrr _ hex (fun y => z ((hops _).mpr y)))
        · refine Or.inr ⟨h1, ?_, h3⟩
          rcases hb with ⟨-, -, q⟩ | ⟨-, -, q⟩
          · exact q
          · exact absurd h2 q
theorem bin_sim (hx : Lex tp tq t) {r r1 r2 : Int32} {sub : GF} {ops : Int32 → Bool} (hlt : r < r1) (hr2 : r1 ≤ r2) (hops : ∀ x, ops x = true ↔ opk x = r) (hr0 : ¬ r = Int32.ofInt 0) (hr4 : ¬ r = Int32.ofInt 4)
    (hb : (r1 ≤ Int32.ofInt 3 ∧ r ≤ Int32.ofInt 2 ∧ r ≤ Int32.ofInt 4) ∨ (¬ r1 ≤ Int32.ofInt 3 ∧ ¬ r ≤ Int32.ofInt 2 ∧ ¬ r1 ≤ Int32.ofInt 4)) (hb2 : r ≤ Int32.ofInt 3 ↔ r1 ≤ Int32.ofInt 3) (hrr : ∀ x, opk x < r1 → ¬ opk x = r → opk x < r) (hsub : Sim tp tq t r1 r2 n sub) : Sim tp tq t r r n (binP sub tp t ops) := by
  intro p a m br hs op oc hat htop hop hbr
  have h160 := hx.2
  have ht1 : TopLt r1 hs := htop.mono (Int32.le_of_lt hlt)
  have h1 := hsub p a m br hs op oc hat (ht1.mono hr2) hop (by
    by_cases z : r ≤ Int32.ofInt 3
    · rw [if_pos (hb2.mp z)]; rw [if_pos z] at hbr; exact hbr
    · rw [if_neg (fun y => z (hb2.mpr y))]; rw [if_neg z] at hbr; exact hbr)
  unfold binP
  by_cases y : (sub p).1 = true
  · rw [if_pos y] at h1
    have e : (if (sub p).1 = true then loopP sub tp t ops 160 (sub p).2 else (false, (sub p).2)) = loopP sub tp t ops 160 (sub p).2 := if_pos y
    rw [e]
    obtain ⟨a', m', br', P', c, hw, he, hu, hex⟩ := h1
    rw [unw_top ht1] at hu
    refine loop_sim hx hlt hr2 hops hr0 hr4 hb hrr hsub hat.2.2.1 htop hop 160 _ a' m' br' P' c hw he ?_ hex (by have := hw.1; omega)
    rw [unw_via (Int32.le_of_lt hlt) hu, unw_top htop]
  · rw [if_neg y] at h1
    have e : (if (sub p).1 = true then loopP sub tp t ops 160 (sub p).2 else (false, (sub p).2)) = (false, (sub p).2) := if_neg y
    rw [e, if_neg Bool.false_ne_true]
    exact h1
theorem isCm_iff (x : Int32) : isCm x = true ↔ opk x = Int32.ofInt 4 := by
  constructor
  · intro h
    unfold isCm at h
    simp only [Bool.or_eq_true, beq_iff_eq] at h
    rcases h with rfl | rfl <;> decide
  · intro h
    rcases opk_sgn (x := x) (by rw [h]; decide) with rfl | rfl | rfl | rfl | rfl | rfl | rfl <;> first | rfl | exact absurd h (by decide)
theorem cmp_sim (hx : Lex tp tq t) {sub : GF} (hsub : Sim tp tq t (Int32.ofInt 5) (Int32.ofInt 5) n sub) : Sim tp tq t (Int32.ofInt 4) (Int32.ofInt 4) n (cmpP sub tp t) := by
  intro p a m br hs op oc hat htop hop hbr
  have h160 := hx.2
  rw [if_neg (by decide)] at hbr
  have ht5 : TopLt (Int32.ofInt 5) hs := htop.mono (by decide)
  have h1 := hsub p a m br hs op oc hat ht5 hop (by rw [if_neg (by decide)]; exact hbr)
  have hl := hat.2.2.1
  unfold cmpP
  by_cases y : (sub p).1 = true
  · rw [if_pos y] at h1
    rw [show (if (sub p).1 = true then (if isCm (srt (sub p).2) = true then (if (sub (advP tp t (sub p).2)).1 = true then (true, addP (srt (sub p).2) 0 (sub (advP tp t (sub p).2)).2) else (false, (sub (advP tp t (sub p).2)).2)) else (true, (sub p).2)) else (false, (sub p).2)) = _ from if_pos y]
    obtain ⟨a', m', br', P', c, hw, he, hu, hex⟩ := h1
    rw [unw_top ht5] at hu
    obtain ⟨w1, w2, w3, w4, w5, w6⟩ := id hw
    obtain ⟨hT, b1, b2, b3, b4⟩ := tok hx w2
    by_cases z : isCm (srt (sub p).2) = true
    · rw [if_pos z]
      rw [w3] at z ⊢
      have z : isCm (lexF tp t a').2.2.1 = true := z
      obtain ⟨m1, rfl, eS⟩ := eR_step (tq := tq) w5 false br' P'
      have hk := (isCm_iff _).mp z
      obtain ⟨k1, k2, k3, k4, k5, k6, k7⟩ := sgn_op (x := (lexF tp t a').2.2.1) (by rw [hk]; decide)
      rw [hk] at k1 k7
      have hop0 : ¬ opk (lexF tp t a').2.2.1 = Int32.ofInt 0 := by rw [hk]; first | exact hr0 | decide
      have hsg := hT.sg
      have b5 := b4 k4
      obtain ⟨o, ho⟩ : ∃ o, o = sgn (lexF tp t a').2.2.1 := ⟨_, rfl⟩
      rw [← ho] at k1 k2 k3 k5 k6 k7 hsg
      have k7 : lt12 o = false := k7
      have hsx : srt (lexF tp t a', p.2 ++ c) = (lexF tp t a').2.2.1 := rfl
      have eadv : advP tp t (lexF tp t a', p.2 ++ c) = (lexF tp t (lexF tp t a').2.1, p.2 ++ c) := rfl
      rw [hsx, eadv]
      have hst : stE false br' (nxtF WS tq t a').2.2.1 (nxtF WS tq t a').2.2.2 P' = .inr (true, lt12 o, (o :: hs, op, oc ++ c.map gm)) := by
        rw [stE_op (by rw [hsg]; exact k3), hsg]
        exact btS_4 k1 hu (tp4_no htop)
      have e2 : eR tq t m true br a (hs, op, oc) = eR tq t m1 true (lt12 o) (lexF tp t a').2.1 (o :: hs, op, oc ++ c.map gm) := by
        rw [he, eS, hst]
        show eR tq t m1 true (lt12 o) (nxtF WS tq t a').2.1 _ = _
        rw [b2]
      generalize hx0 : (lexF tp t a').2.2.1 = x at *
      generalize ha1 : (lexF tp t a').2.1 = a1 at *
      have hs2 := hsub (lexF tp t a1, p.2 ++ c) a1 m1 (lt12 o) (o :: hs) op (oc ++ c.map gm) ⟨rfl, b3, by show (p.2 ++ c).length ≤ _; rw [List.length_append]; omega, by omega⟩ (TopLt.cons (by rw [k1]; decide)) hop (by rw [if_neg (by decide)]; exact fun _ => k7)
      by_cases y2 : (sub (lexF tp t a1, p.2 ++ c)).1 = true
      · rw [if_pos y2] at hs2 ⊢
        rw [if_pos rfl]
        obtain ⟨a3, m3, br3, P3, c3, ⟨v1, v2, v3, v4, v5, v6⟩, e3, u3, x3⟩ := hs2
        rw [v3] at x3 ⊢
        have x3 : Ex (Int32.ofInt 5) (lexF tp t a3).2.2.1 P3 := x3
        have hl3 : (p.2 ++ c ++ c3).length < 160 := by rw [List.length_append, List.length_append]; omega
        have ead : addP x 0 (lexF tp t a3, p.2 ++ c ++ c3) = (lexF tp t a3, p.2 ++ (c ++ c3 ++ [(x, 0)])) := by
          rw [addP_lt hl3]
          simp only [List.append_assoc]
        rw [show addP x 0 (lexF tp t a3, (lexF tp t a1, p.2 ++ c).2 ++ c3) = (lexF tp t a3, p.2 ++ (c ++ c3 ++ [(x, 0)])) from ead]
        rw [unw_top (TopLt.cons (by rw [k1]; decide))] at u3
        refine ⟨a3, m3, br3, P3, c ++ c3 ++ [(x, 0)], ⟨by omega, v2, rfl, ?_, v5, (w6.app v6).app (Vd.one (Or.inr (Or.inr (Or.inr (Or.inr hop0)))))⟩, e2.trans e3, ?_, ?_⟩
        · rw [List.length_append, List.length_append]
          show c.length + c3.length + 1 ≤ _
          omega
        · rw [unw_via (r := Int32.ofInt 4) (by decide) u3, unw_pop (by rw [k1]; decide) k5 k6, List.map_append, List.map_append]
          show unwF (Int32.ofInt 4) hs op _ = unwF (Int32.ofInt 4) hs op (oc ++ (c.map gm ++ c3.map gm ++ [gm (x, 0)]))
          rw [k2]
          simp only [List.append_assoc]
        · show Ex (Int32.ofInt 4) (lexF tp t a3).2.2.1 P3
          rcases x3 with x3 | ⟨-, x3, -⟩
          · by_cases z4 : opk (lexF tp t a3).2.2.1 = Int32.ofInt 4
            · refine Or.inr ⟨z4, Int32.le_refl _, ?_⟩
              rw [u3]
              show (if rkF o = Int32.ofInt 4 then true else false) = true
              rw [if_pos k1]
            · refine Or.inl ?_
              rcases opk_all (lexF tp t a3).2.2.1 with q | q | q | q | q | q <;> rw [q] at x3 z4 ⊢ <;> revert x3 z4 <;> decide
          · exact absurd x3 (by decide)
      · rw [if_neg y2] at hs2 ⊢
        rw [if_neg Bool.false_ne_true]
        unfold Bad
        rw [e2]
        exact hs2
    · rw [if_neg z, if_pos rfl]
      refine ⟨a', m', br', P', c, hw, he, ?_, ?_⟩
      · rw [unw_via (r := Int32.ofInt 4) (by decide) hu]
      · have z4 : ¬ opk (srt (sub p).2) = Int32.ofInt 4 := fun y => z ((isCm_iff _).mpr y)
        rcases hex with x3 | ⟨-, x3, -⟩
        · refine Or.inl ?_
          rcases opk_all (srt (sub p).2) with q | q | q | q | q | q <;> rw [q] at x3 z4 ⊢ <;> revert x3 z4 <;> decide
        · exact absurd x3 (by decide)
  · rw [if_neg y] at h1
    rw [show (if (sub p).1 = true then (if isCm (srt (sub p).2) = true then (if (sub (advP tp t (sub p).2)).1 = true then (true, addP (srt (sub p).2) 0 (sub (advP tp t (sub p).2)).2) else (false, (sub (advP tp t (sub p).2)).2)) else (true, (sub p).2)) else (false, (sub p).2)) = (false, (sub p).2) from if_neg y, if_neg Bool.false_ne_true]
    exact h1
theorem not_sim (hx : Lex tp tq t) {cmp : GF} {prev : Option GF} (hn : n ≤ 5) (h0 : prev = none → n = 0) (h1 : ∀ f, prev = some f → ∃ n', n = n' + 1 ∧ Sim tp tq t (Int32.ofInt 3) (Int32.ofInt 4) n' f) (hc : Sim tp tq t (Int32.ofInt 4) (Int32.ofInt 4) n cmp) : Sim tp tq t (Int32.ofInt 3) (Int32.ofInt 4) n (notP cmp prev tp t) := by
  rintro ⟨k, cd⟩ a m br hs op oc ⟨hp, ha, hl, hm⟩ htop hop hbr
  rw [if_pos (by decide)] at hbr
  subst hbr
  have hl : cd.length ≤ a := hl
  have hp : k = lexF tp t a := hp
  have h160 := hx.2
  by_cases q : k.2.2.1 = 9
  · obtain ⟨m1, rfl, eS⟩ := eR_step (tq := tq) hm true true (hs, op, oc)
    obtain ⟨hT, b1, b2, b3, b4⟩ := tok hx ha
    rw [← hp] at hT b1 b2 b3 b4
    generalize nxtF WS tq t a = r at eS hT b1 b2
    have n6 := hT.num.2.2.1.mpr q
    have b5 : a < k.2.1 := b4 (by rw [q]; decide)
    cases prev with
    | none =>
      have en := h0 rfl
      subst en
      have e5 := op_full hop
      have ev : notP cmp none tp t (k, cd) = (false, (k, cd)) := if_pos q
      rw [ev, if_neg Bool.false_ne_true]
      unfold Bad
      rw [eS, stE_6 n6, onS_5 (P := (hs, op, oc)) e5]
      exact ⟨rfl, b1⟩
    | some f =>
      obtain ⟨n', rfl, s3⟩ := h1 f rfl
      obtain ⟨e5, e6⟩ := op_more hn hop
      have ev : notP cmp (some f) tp t (k, cd) = if (f (advP tp t (k, cd))).1 = true then (true, addP 9 0 (f (advP tp t (k, cd))).2) else (false, (f (advP tp t (k, cd))).2) := if_pos q
      rw [ev]
      have eS : eR tq t (m1 + 1) true true a (hs, op, oc) = eR tq t m1 true true k.2.1 (Int32.ofInt 13 :: hs, op + 1, oc) := by
        rw [eS, stE_6 n6, onS_n (P := (hs, op, oc)) e5]
        show eR tq t m1 true true r.2.1 _ = _
        rw [b2]
      have hI := s3 (advP tp t (k, cd)) k.2.1 m1 true (Int32.ofInt 13 :: hs) (op + 1) oc ⟨rfl, b3, by show cd.length ≤ _; omega, by omega⟩ (TopLt.cons (by decide)) e6 (by rw [if_pos (by decide)])
      by_cases y : (f (advP tp t (k, cd))).1 = true
      · rw [if_pos y] at hI ⊢
        rw [if_pos rfl]
        obtain ⟨a', m', br', P', c, ⟨v1, v2, v3, v4, v5, v6⟩, he, hu, hex⟩ := hI
        have hlc : (cd ++ c).length < 160 := by rw [List.length_append]; omega
        have ead : addP 9 0 (f (advP tp t (k, cd))).2 = (lexF tp t a', cd ++ (c ++ [(9, 0)])) := by
          rw [v3]
          show addP 9 0 (lexF tp t a', cd ++ c) = _
          rw [addP_lt hlc, List.append_assoc]
        rw [v3] at hex
        refine ⟨a', m', br', P', c ++ [(9, 0)], ⟨by omega, v2, ead, by rw [List.length_append]; show c.length + 1 ≤ _; omega, v5, v6.app (Vd.one (Or.inr (Or.inr (Or.inl rfl))))⟩, eS.trans he, ?_, ?_⟩
        · rw [hu, unw_13, List.map_append, ← List.append_assoc]
          rfl
        · rw [ead]
          exact hex
      · rw [if_neg y] at hI ⊢
        rw [if_neg Bool.false_ne_true]
        unfold Bad
        rw [eS]
        exact hI
  · have ev : notP cmp prev tp t (k, cd) = cmp (k, cd) := if_neg q
    rw [ev]
    have hI := hc (k, cd) a m true hs op oc ⟨hp, ha, hl, hm⟩ htop hop (by rw [if_neg (by decide)]; exact fun z => absurd z q)
    by_cases y : (cmp (k, cd)).1 = true
    · rw [if_pos y] at hI ⊢
      obtain ⟨a', m', br', P', c, hw, he, hu, hex⟩ := hI
      rw [unw_top htop] at hu
      refine ⟨a', m', br', P', c, hw, he, ?_, ?_⟩
      · rw [unw_via (r := Int32.ofInt 3) (by decide) hu]
      · rcases hex with x3 | ⟨h4, -, x3⟩
        · refine Or.inl ?_
          rcases opk_all (srt (cmp (k, cd)).2) with q | q | q | q | q | q <;> rw [q] at x3 ⊢ <;> revert x3 <;> decide
        · exact Or.inr ⟨h4, by decide, x3⟩
    · rw [if_neg y] at hI ⊢
      exact hI
def LvS (tp tq : List Int32) (t n : Nat) (f : GF × GF × GF) : Prop := Sim tp tq t (Int32.ofInt 1) (Int32.ofInt 1) n f.1 ∧ Sim tp tq t (Int32.ofInt 3) (Int32.ofInt 4) n f.2.1 ∧ SimO tp tq t n f.2.2
theorem isS_iff (s x : Int32) : isS s x = true ↔ x = s := by
  unfold isS
  exact beq_iff_eq
theorem ops_42 (x : Int32) : isS 42 x = true ↔ opk x = Int32.ofInt 6 := by
  rw [isS_iff]
  constructor
  · rintro rfl; decide
  · intro h
    rcases opk_sgn (x := x) (by rw [h]; decide) with rfl | rfl | rfl | rfl | rfl | rfl | rfl <;> first | rfl | exact absurd h (by decide)
theorem ops_8 (x : Int32) : isS 8 x = true ↔ opk x = Int32.ofInt 2 := by
  rw [isS_iff]
  constructor
  · rintro rfl; decide
  · intro h
    rcases opk_sgn (x := x) (by rw [h]; decide) with rfl | rfl | rfl | rfl | rfl | rfl | rfl <;> first | rfl | exact absurd h (by decide)
theorem ops_7 (x : Int32) : isS 7 x = true ↔ opk x = Int32.ofInt 1 := by
  rw [isS_iff]
  constructor
  · rintro rfl; decide
  · intro h
    rcases opk_sgn (x := x) (by rw [h]; decide) with rfl | rfl | rfl | rfl | rfl | rfl | rfl <;> first | rfl | exact absurd h (by decide)
theorem ops_pm (x : Int32) : isPM x = true ↔ opk x = Int32.ofInt 5 := by
  constructor
  · intro h
    unfold isPM at h
    simp only [Bool.or_eq_true, beq_iff_eq] at h
    rcases h with rfl | rfl <;> decide
  · intro h
    rcases opk_sgn (x := x) (by rw [h]; decide) with rfl | rfl | rfl | rfl | rfl | rfl | rfl <;> first | rfl | exact absurd h (by decide)
theorem opk_step (x : Int32) : (opk x < Int32.ofInt 7 → ¬ opk x = Int32.ofInt 6 → opk x < Int32.ofInt 6) ∧ (opk x < Int32.ofInt 6 → ¬ opk x = Int32.ofInt 5 → opk x < Int32.ofInt 5) ∧ (opk x < Int32.ofInt 3 → ¬ opk x = Int32.ofInt 2 → opk x < Int32.ofInt 2) ∧ (opk x < Int32.ofInt 2 → ¬ opk x = Int32.ofInt 1 → opk x < Int32.ofInt 1) := by
  rcases opk_all x with q | q | q | q | q | q <;> rw [q] <;> decide
theorem mkLv_sim (hx : Lex tp tq t) (hn : n ≤ 5) {prev : Option (GF × GF × GF)} (h0 : prev = none → n = 0) (h1 : ∀ f, prev = some f → ∃ n', n = n' + 1 ∧ LvS tp tq t n' f) : LvS tp tq t n (mkLv tp t prev) := by
  have c1 : SimO tp tq t n (oneP (prev.map (fun f => (f.1, f.2.2))) tp t) := by
    refine one_sim hx hn (fun z => h0 ?_) (fun f hf => ?_)
    · cases prev with
      | none => rfl
      | some f => cases z
    · cases prev with
      | none => cases hf
      | some f' =>
        cases hf
        obtain ⟨n', e, h⟩ := h1 f' rfl
        exact ⟨n', e, h.1, h.2.2⟩
  have c6 := bin_sim hx (r := Int32.ofInt 6) (ops := isS 42) (by decide) (Int32.le_refl _) ops_42 (by decide) (by decide) (Or.inr (by decide)) (by decide) (fun x => (opk_step x).1) (one_7 c1)
  have c5 := bin_sim hx (r := Int32.ofInt 5) (ops := isPM) (by decide) (Int32.le_refl _) ops_pm (by decide) (by decide) (Or.inr (by decide)) (by decide) (fun x => (opk_step x).2.1) c6
  have c4 := cmp_sim hx c5
  have c3 : Sim tp tq t (Int32.ofInt 3) (Int32.ofInt 4) n (notP (cmpP (binP (binP (oneP (prev.map (fun f => (f.1, f.2.2))) tp t) tp t (isS 42)) tp t isPM) tp t) (prev.map (fun f => f.2.1)) tp t) := by
    refine not_sim hx hn (fun z => h0 ?_) (fun f hf => ?_) c4
    · cases prev with
      | none => rfl
      | some f => cases z
    · cases prev with
      | none => cases hf
      | some f' =>
        cases hf
        obtain ⟨n', e, h⟩ := h1 f' rfl
        exact ⟨n', e, h.2.1⟩
  have c2 := bin_sim hx (r := Int32.ofInt 2) (ops := isS 8) (by decide) (by decide) ops_8 (by decide) (by decide) (Or.inl (by decide)) (by decide) (fun x => (opk_step x).2.2.1) c3
  have c0 := bin_sim hx (r := Int32.ofInt 1) (ops := isS 7) (by decide) (Int32.le_refl _) ops_7 (by decide) (by decide) (Or.inl (by decide)) (by decide) (fun x => (opk_step x).2.2.2) c2
  exact ⟨c0, c3, c1⟩
theorem lvP_sim (hx : Lex tp tq t) : ∀ n, n ≤ 5 → LvS tp tq t n (lvP tp t n)
  | 0, h => mkLv_sim hx h (fun _ => rfl) (fun f z => by cases z)
  | n + 1, h => mkLv_sim hx h (fun z => by cases z) (fun f z => by cases z; exact ⟨n, rfl, lvP_sim hx n (by omega)⟩)
end SIMT
end
section
-- 97n.textal
/-! THE READERS ALIKE: a whole text -/
section TEXTAL
variable {tp tq : List Int32} {t : Nat}
theorem e_end (hx : Lex tp tq t) {orf : GF} (h : Sim tp tq t (Int32.ofInt 1) (Int32.ofInt 1) 5 orf) {p : PS} {a : Nat} (hp : p.1 = lexF tp t a) (ha : a ≤ t) (hl : p.2.length ≤ a) (codes : List Int32) :
    (∃ a' c, (orf p).1 = true ∧ srt (orf p).2 = 59 ∧ a < a' ∧ a' ≤ t ∧ (orf p).2 = (lexF tp t a', p.2 ++ c) ∧ c.length ≤ a' - a ∧ (eR tq t (t + 1) true true a ([], Int32.ofInt 0, codes)).1 = true ∧ (eR tq t (t + 1) true true a ([], Int32.ofInt 0, codes)).2.1.2.1 = (lexF tp t a').2.1 ∧ (eR tq t (t + 1) true true a ([], Int32.ofInt 0, codes)).2.2.2.2 = codes ++ c.map gm ∧ Vd c)
    ∨ (¬ ((orf p).1 = true ∧ srt (orf p).2 = 59) ∧ (eR tq t (t + 1) true true a ([], Int32.ofInt 0, codes)).1 = false ∧ (eR tq t (t + 1) true true a ([], Int32.ofInt 0, codes)).2.1.1 = (orf p).2.1.1) := by
  have hI := h p a (t + 1) true [] (Int32.ofInt 0) codes ⟨hp, ha, hl, by omega⟩ (fun s q e => by cases e) (by decide) (by rw [if_pos (by decide)])
  by_cases y : (orf p).1 = true
  · rw [if_pos y] at hI
    obtain ⟨a', m', br', P', c, ⟨v1, v2, v3, v4, v5, v6⟩, he, hu, hex⟩ := hI
    have hu : unwF (Int32.ofInt 1) P'.1 P'.2.1 P'.2.2 = ([], Int32.ofInt 0, codes ++ c.map gm) := hu
    obtain ⟨m2, rfl, eS2⟩ := eR_step (tq := tq) v5 false br' P'
    obtain ⟨hT2, c1, c2, c3, c4⟩ := tok hx v2
    rw [he, eS2]
    rw [v3] at hex ⊢
    have hex : Ex (Int32.ofInt 1) (lexF tp t a').2.2.1 P' := hex
    by_cases z : (lexF tp t a').2.2.1 = 59
    · refine Or.inl ⟨a', c, y, z, v1, v2, rfl, v4, ?_⟩
      rw [stE_59 (hT2.num.2.2.2.2.2.1.mpr z), hu]
      exact ⟨rfl, c2, rfl, v6⟩
    · refine Or.inr ⟨fun w => z w.2, ?_⟩
      by_cases z1 : (lexF tp t a').2.2.1 = 41
      · rw [stE_41 (hT2.num.2.2.2.2.2.2.1.mpr z1), hu]
        exact ⟨rfl, c1⟩
      · by_cases z3 : opk (lexF tp t a').2.2.1 = Int32.ofInt 0
        · rw [stE_no (fun y => z (hT2.num.2.2.2.2.2.1.mp y)) (fun y => z1 (hT2.num.2.2.2.2.2.2.1.mp y)) (hT2.sg.trans (sgn_no z3))]
          exact ⟨rfl, c1⟩
        · have so := sgn_op z3
          rcases hex with hex | ⟨hex, -, h4⟩
          · rcases opk_all (lexF tp t a').2.2.1 with o | o | o | o | o | o
            · exact absurd o z3
            all_goals (rw [o] at hex; exact absurd hex (by decide))
          · rw [stE_op (by rw [hT2.sg]; exact so.2.2.1), hT2.sg]
            obtain ⟨Q, hQ⟩ := btS_4n (so.1.trans hex) h4
            rw [hQ]
            exact ⟨rfl, c1⟩
  · rw [if_neg y] at hI
    exact Or.inr ⟨fun w => y w.1, hI⟩
theorem hd_iff {s v tk w : Int32} (h : TR s v tk w) {k : Nat} (hk : k < 3) (r1 r2 : Nat) : hdF (r1, r2, tk, w) k = true ↔ s = 4 + nI k := by
  have hk3 : 4 + nI k = 4 ∨ 4 + nI k = 5 ∨ 4 + nI k = 6 := by
    rcases (show k = 0 ∨ k = 1 ∨ k = 2 by omega) with rfl | rfl | rfl
    · exact Or.inl (by decide)
    · exact Or.inr (Or.inl (by decide))
    · exact Or.inr (Or.inr (by decide))
  constructor
  · intro q
    unfold hdF at q
    by_cases z : tk = Int32.ofInt 3
    · have e : (if w = nI k then true else false) = true := (if_pos z).symm.trans q
      have ew : w = nI k := by
        by_cases z2 : w = nI k
        · exact z2
        · rw [if_neg z2] at e; cases e
      have hs := h.num.2.2.2.2.2.2.2.2.mp z
      obtain ⟨-, h2⟩ := h.key hs
      rw [← ew, h2, Int32.add_comm]
      exact (Int32.sub_add_cancel s 4).symm
    · have e : false = true := (if_neg z).symm.trans q
      cases e
  · intro q
    rw [← q] at hk3
    obtain ⟨h1, h2⟩ := h.key hk3
    unfold hdF
    have e : w = nI k := by
      rw [h2, q, Int32.add_comm]
      exact Int32.add_sub_cancel (nI k) 4
    exact (if_pos h1).trans (if_pos e)
theorem rt_step (hx : Lex tp tq t) {orf : GF} (h : Sim tp tq t (Int32.ofInt 1) (Int32.ofInt 1) 5 orf) {p : PS} {a k : Nat} (hk : k < 3) (hp : p.1 = lexF tp t a) (ha : a ≤ t) (hl : p.2.length ≤ a) (m tx : Nat) (b : Int32) (codes st starts : List Int32) :
    (∃ a' c b', rtP orf tp t (m + 1) k p st = rtP orf tp t m (k + 1) (lexF tp t a', p.2 ++ c) (putF st (nI k + 1) (nI (p.2 ++ c).length)) ∧ a' ≤ t ∧ (p.2 ++ c).length ≤ a' ∧ txL WS tq t tx (m + 1) k (true, a, b, codes, starts) = txL WS tq t tx m (k + 1) (true, a', b', codes ++ c.map gm, starts.set (4 * tx + k) (nI codes.length)) ∧ Vd c)
    ∨ ((rtP orf tp t (m + 1) k p st).1 = false ∧ (txL WS tq t tx (m + 1) k (true, a, b, codes, starts)).1 = false ∧ (txL WS tq t tx (m + 1) k (true, a, b, codes, starts)).2.2.1 = nI (rtP orf tp t (m + 1) k p st).2.1.1.1) := by
  obtain ⟨p1, cd⟩ := p
  have hp : p1 = lexF tp t a := hp
  have hl : cd.length ≤ a := hl
  obtain ⟨hT, b1, b2, b3, b4⟩ := tok hx ha
  rw [← hp] at hT b1 b2 b3 b4
  have hh := hd_iff hT hk (nxtF WS tq t a).1 (nxtF WS tq t a).2.1
  have hh : hdF (nxtF WS tq t a) k = true ↔ p1.2.2.1 = 4 + nI k := hh
  rw [txL, if_pos rfl]
  show _ ∨ _
  by_cases z : p1.2.2.1 = 4 + nI k
  · rw [if_pos (hh.mpr z), rtP, if_pos (show srt (p1, cd) = 4 + nI k from z)]
    have he := e_end hx h (p := advP tp t (p1, cd)) (a := p1.2.1) rfl b3 (by
      show cd.length ≤ p1.2.1
      have h1 : ¬ p1.2.2.1 = 0 := by
        rw [z]
        rcases (show k = 0 ∨ k = 1 ∨ k = 2 by omega) with rfl | rfl | rfl <;> decide
      have := b4 h1
      omega) codes
    rw [b2]
    rcases he with ⟨a', c, y1, y2, v1, v2, v3, v4, g1, g2, g3, g4⟩ | ⟨y, g1, g2⟩
    · rw [if_pos y1, if_pos y2]
      obtain ⟨-, -, -, d3, -⟩ := tok hx v2
      have hcl : (cd ++ c).length ≤ a' := by rw [List.length_append]; have : c.length ≤ a' - p1.2.1 := v4; have : cd.length ≤ a := hl; have h1 : ¬ p1.2.2.1 = 0 := (by
          rw [z]
          rcases (show k = 0 ∨ k = 1 ∨ k = 2 by omega) with rfl | rfl | rfl <;> decide); have := b4 h1; omega
      refine Or.inl ⟨(lexF tp t a').2.1, c, nI (eR tq t (t + 1) true true p1.2.1 ([], Int32.ofInt 0, codes)).2.1.1, ?_, d3, ?_, ?_, g4⟩
      · rw [v3]
        rfl
      · show (cd ++ c).length ≤ _
        have := nxt_spec WS tq v2
        have hh2 := (tok hx v2).2.2.1
        rw [← hh2]
        omega
      · rw [← g3, ← g2]
        show txL WS tq t tx m (k + 1) ((eR tq t (t + 1) true true p1.2.1 ([], Int32.ofInt 0, codes)).1, _) = _
        rw [g1]
    · refine Or.inr ?_
      have e2 : ∃ st', (if (orf (advP tp t (p1, cd))).1 = true then (if srt (orf (advP tp t (p1, cd))).2 = 59 then rtP orf tp t m (k + 1) (advP tp t (orf (advP tp t (p1, cd))).2) (putF st (nI k + 1) (nI (orf (advP tp t (p1, cd))).2.2.length)) else (false, (orf (advP tp t (p1, cd))).2, putF st (nI k + 1) (nI (orf (advP tp t (p1, cd))).2.2.length))) else (false, (orf (advP tp t (p1, cd))).2, st)) = (false, (orf (advP tp t (p1, cd))).2, st') := by
        by_cases y1 : (orf (advP tp t (p1, cd))).1 = true
        · rw [if_pos y1, if_neg (fun y2 => y ⟨y1, y2⟩)]
          exact ⟨_, rfl⟩
        · rw [if_neg y1]
          exact ⟨_, rfl⟩
      obtain ⟨st', e2⟩ := e2
      rw [e2]
      show false = false ∧ (txL WS tq t tx m (k + 1) ((eR tq t (t + 1) true true p1.2.1 ([], Int32.ofInt 0, codes)).1, _)).1 = false ∧ (txL WS tq t tx m (k + 1) ((eR tq t (t + 1) true true p1.2.1 ([], Int32.ofInt 0, codes)).1, _)).2.2.1 = _
      rw [g1, txL_no]
      exact ⟨rfl, rfl, by rw [← g2]⟩
  · have e1 : rtP orf tp t (m + 1) k (p1, cd) st = (false, (p1, cd), st) := by
      rw [rtP]
      exact if_neg z
    rw [if_neg (fun q => z (hh.mp q)), e1]
    exact Or.inr ⟨rfl, rfl, by rw [← b1]⟩
theorem putF_4 {s0 s1 s2 s3 v : Int32} : putF [s0, s1, s2, s3] (nI 0 + 1) v = [s0, v, s2, s3] ∧ putF [s0, s1, s2, s3] (nI 1 + 1) v = [s0, s1, v, s3] ∧ putF [s0, s1, s2, s3] (nI 2 + 1) v = [s0, s1, s2, v] := ⟨rfl, rfl, rfl⟩
/-- what both make of a tape -/
theorem text_al (hx : Lex tp tq t) {orf : GF} (h : Sim tp tq t (Int32.ofInt 1) (Int32.ofInt 1) 5 orf) {st : List Int32} (h4 : st.length = 4) (h0 : st.getD 0 0 = 0) {tx : Nat} {b : Int32} {starts : List Int32} (hs24 : starts.length = 24) (htx : tx < 6) :
    (txE WS tq t (txL WS tq t tx 3 0 (true, 0, b, [], starts))).1 = (rtP orf tp t 3 0 (lexF tp t 0, []) st).1 ∧
    ((rtP orf tp t 3 0 (lexF tp t 0, []) st).1 = false → (txE WS tq t (txL WS tq t tx 3 0 (true, 0, b, [], starts))).2 = nI (rtP orf tp t 3 0 (lexF tp t 0, []) st).2.1.1.1) ∧
    ((rtP orf tp t 3 0 (lexF tp t 0, []) st).1 = true → ∃ c1 c2 c3 : List (Int32 × Int32), (rtP orf tp t 3 0 (lexF tp t 0, []) st).2.1.2 = c1 ++ c2 ++ c3 ∧ (Vd c1 ∧ Vd c2 ∧ Vd c3) ∧ (c1 ++ c2 ++ c3).length ≤ 160 ∧ (rtP orf tp t 3 0 (lexF tp t 0, []) st).2.2 = [0, nI c1.length, nI (c1 ++ c2).length, nI (c1 ++ c2 ++ c3).length] ∧
      (txL WS tq t tx 3 0 (true, 0, b, [], starts)).2.2.2.1 = (c1 ++ c2 ++ c3).map gm ∧
      (txL WS tq t tx 3 0 (true, 0, b, [], starts)).2.2.2.2 = ((starts.set (4 * tx) 0).set (4 * tx + 1) (nI c1.length)).set (4 * tx + 2) (nI (c1 ++ c2).length)) := by
  match st, h4 with
  | [s0, s1, s2, s3], _ =>
  have h0 : s0 = 0 := h0
  subst h0
  have no : ∀ {R : Bool × PS × List Int32} {T : TS}, R.1 = false → T.1 = false → T.2.2.1 = nI R.2.1.1.1 → (txE WS tq t T).1 = R.1 ∧ (R.1 = false → (txE WS tq t T).2 = nI R.2.1.1.1) := by
    intro R T h1 h2 h3
    have e : txE WS tq t T = (false, T.2.2.1) := by
      unfold txE
      rw [if_neg (by rw [h2]; decide)]
    rw [e]
    exact ⟨h1.symm, fun _ => h3⟩
  have no3 : ∀ {R : Bool × PS × List Int32} {Q : Prop}, R.1 = false → R.1 = true → Q := fun h1 h2 => by rw [h1] at h2; cases h2
  rcases rt_step hx h (p := (lexF tp t 0, [])) (a := 0) (k := 0) (by decide) rfl (Nat.zero_le _) (Nat.le_refl _) 2 tx b [] [0, s1, s2, s3] starts with ⟨a1, c1, b1, e1, u1, v1, f1, k1⟩ | ⟨h1, h2, h3⟩
  rotate_left
  · exact ⟨(no h1 h2 h3).1, (no h1 h2 h3).2, no3 h1⟩
  rw [e1, f1, putF_4.1]
  have v1 : c1.length ≤ a1 := v1
  rcases rt_step hx h (p := (lexF tp t a1, [] ++ c1)) (a := a1) (k := 1) (by decide) rfl u1 v1 1 tx b1 ([] ++ c1.map gm) [0, nI ([] ++ c1).length, s2, s3] (starts.set (4 * tx + 0) (nI ([] : List Int32).length)) with ⟨a2, c2, b2, e2, u2, v2, f2, k2⟩ | ⟨h1, h2, h3⟩
  rotate_left
  · exact ⟨(no h1 h2 h3).1, (no h1 h2 h3).2, no3 h1⟩
  rw [e2, f2, putF_4.2.1]
  rcases rt_step hx h (p := (lexF tp t a2, [] ++ c1 ++ c2)) (a := a2) (k := 2) (by decide) rfl u2 v2 0 tx b2 ([] ++ c1.map gm ++ c2.map gm) [0, nI ([] ++ c1).length, nI ([] ++ c1 ++ c2).length, s3] ((starts.set (4 * tx + 0) (nI ([] : List Int32).length)).set (4 * tx + 1) (nI ([] ++ c1.map gm).length)) with ⟨a3, c3, b3, e3, u3, v3, f3, k3⟩ | ⟨h1, h2, h3⟩
  rotate_left
  · exact ⟨(no h1 h2 h3).1, (no h1 h2 h3).2, no3 h1⟩
  rw [e3, f3, putF_4.2.2]
  have v3 : ([] ++ c1 ++ c2 ++ c3).length ≤ a3 := v3
  have h160 := hx.2
  obtain ⟨hT, d1, d2, d3, d4⟩ := tok hx u3
  have n0 := hT.num.2.2.2.2.2.2.2.1
  have eT : ∀ T, txL WS tq t tx 0 3 T = T := fun T => rfl
  have eR : ∀ st, rtP orf tp t 0 3 (lexF tp t a3, [] ++ c1 ++ c2 ++ c3) st = (if (lexF tp t a3).2.2.1 = 0 then true else false, (lexF tp t a3, [] ++ c1 ++ c2 ++ c3), st) := fun st => rfl
  rw [eT, eR]
  unfold txE
  rw [if_pos rfl]
  simp only [List.nil_append] at v3 ⊢
  by_cases q : (lexF tp t a3).2.2.1 = 0
  · rw [if_pos q, if_pos (show (nxtF WS tq t a3).2.2.1 = Int32.ofInt 0 from n0.mpr q)]
    refine ⟨rfl, fun z => (by cases z), fun _ => ⟨c1, c2, c3, rfl, ⟨k1, k2, k3⟩, by omega, rfl, ?_, ?_⟩⟩
    · simp only [List.map_append]
    · simp only [List.length_map, List.length_append, List.length_nil]
      rfl
  · rw [if_neg q, if_neg (show ¬ (nxtF WS tq t a3).2.2.1 = Int32.ofInt 0 from fun z => q (n0.mp z))]
    exact ⟨rfl, fun _ => (by rw [d1]), fun z => (by cases z)⟩
end TEXTAL
end
section
-- 97o.evalal
/-! WHAT TEXTS MEAN, ALIKE: codes run, worlds as bits -/
section EVALAL
variable {S : CS} {M M' : MS}
theorem nm_bit : ∀ w : Fin 32, ∀ v : Fin 5, ∀ who : Int32, (nmF (nI w.val) who).getD v.val 0 = bitF (nI w.val) (nI v.val) := by
  intro w v who
  have e : ∀ w : Fin 32, ∀ v : Fin 5, (nmF (nI w.val) 0).getD v.val 0 = bitF (nI w.val) (nI v.val) := by decide +kernel
  rw [← e w v]
  rcases v with ⟨v, hv⟩
  rcases (show v = 0 ∨ v = 1 ∨ v = 2 ∨ v = 3 ∨ v = 4 by omega) with rfl | rfl | rfl | rfl | rfl <;> rfl
theorem six_nat {v : Int32} (h0 : Int32.ofInt 0 ≤ v) (h6 : v < Int32.ofInt 6) : ∃ n, n < 6 ∧ v = nI n := by
  have h1 := Int32.le_iff_toInt_le.mp h0
  have h2 := Int32.lt_iff_toInt_lt.mp h6
  rw [show (Int32.ofInt 0).toInt = 0 from by decide] at h1
  rw [show (Int32.ofInt 6).toInt = 6 from by decide] at h2
  refine ⟨v.toInt.toNat, by omega, Int32.toInt_inj.mp ?_⟩
  rw [nI_toInt (by omega)]
  omega
theorem push_lt {v : Int32} {st : List Int32} (h : st.length < 160) : pushS v st = v :: st := if_pos h
theorem six_rng : ∀ n : Fin 6, (0 : Int32) ≤ nI n.val ∧ nI n.val < 6 ∧ nI n.val < 11 ∧ ¬ (100000 : Int32) ≤ nI n.val := by decide +kernel
theorem stp_op {nm : List Int32} {c a b : Int32} {r : List Int32} (h1 : ¬ (100000 : Int32) ≤ c) (h2 : ¬ c < 11) (h3 : ¬ c = 13) (h4 : ¬ c = 19) : stpR nm c (b :: a :: r) = some (twoF c a b :: r) := by
  unfold stpR
  rw [if_neg h1, if_neg h2, if_neg h3, if_neg h4]
theorem stp_op0 {nm : List Int32} {c : Int32} {st st' : List Int32} (h1 : ¬ (100000 : Int32) ≤ c) (h2 : ¬ c < 11) (h3 : ¬ c = 13) (h4 : ¬ c = 19) (h : stpR nm c st = some st') : ∃ b a r, st = b :: a :: r ∧ st' = twoF c a b :: r := by
  match st with
  | [] =>
    unfold stpR at h
    rw [if_neg h1, if_neg h2, if_neg h3, if_neg h4] at h
    cases h
  | [_] =>
    unfold stpR at h
    rw [if_neg h1, if_neg h2, if_neg h3, if_neg h4] at h
    cases h
  | b :: a :: r =>
    rw [stp_op h1 h2 h3 h4] at h
    exact ⟨b, a, r, rfl, (Option.some.inj h).symm⟩
theorem step_op {w who s v a b : Int32} {r : List Int32} (h2 : ¬ s = 2) (h3 : ¬ s = 3) (h9 : ¬ s = 9) (h10 : ¬ s = 10) : stepC w who (b :: a :: r) (s, v) = pushS (jnF s a b) r :=
  (if_neg h2).trans ((if_neg h3).trans ((if_neg h9).trans (if_neg h10)))
/-- one code, on both sides -/
theorem ev_one {w : Nat} (hw : w < 32) (who : Int32) {x : Int32 × Int32} (hx : CodeOk x) {st st' : List Int32} (hl : st.length < 160) (h : stpR (nmF (nI w) who) (gm x) st = some st') : stepC (nI w) who st x = st' ∧ st'.length ≤ st.length + 1 := by
  obtain ⟨s, v⟩ := x
  rcases hx with ⟨h2, hv⟩ | ⟨h3, hv0, hv6⟩ | h9 | h10 | hop
  · have h2 : s = 2 := h2
    subst h2
    have e : gm (2, v) = Int32.ofInt 100000 + v := rfl
    rw [e] at h
    have e2 : stpR (nmF (nI w) who) (Int32.ofInt 100000 + v) st = some ((Int32.ofInt 100000 + v - 100000) :: st) := if_pos hv
    rw [e2] at h
    have h := Option.some.inj h
    rw [← h]
    refine ⟨?_, Nat.le_refl _⟩
    rw [show stepC (nI w) who st (2, v) = pushS v st from rfl, push_lt hl, Int32.add_comm]
    rw [show v + Int32.ofInt 100000 - 100000 = v from Int32.add_sub_cancel v 100000]
  · have h3 : s = 3 := h3
    subst h3
    obtain ⟨n, hn, rfl⟩ := six_nat hv0 hv6
    obtain ⟨r1, r2, r3, r4⟩ := six_rng ⟨n, hn⟩
    have e : gm (3, nI n) = nI n := rfl
    rw [e] at h
    have e2 : stpR (nmF (nI w) who) (nI n) st = some ((nmF (nI w) who).getD (nI n).toNatClampNeg 0 :: st) := (if_neg r4).trans ((if_pos r3).trans (if_pos ⟨r1, r2⟩))
    rw [e2, nI_clamp (by omega)] at h
    have h := Option.some.inj h
    rw [← h]
    refine ⟨?_, Nat.le_refl _⟩
    rw [stepC_3, push_lt hl]
    congr 1
    by_cases q : n = 5
    · subst q
      rfl
    · rw [if_neg (show ¬ nI n = (5 : Int32) from fun z => q (nI_inj (b := 5) (by omega) (by decide) z))]
      exact (nm_bit ⟨w, hw⟩ ⟨n, by omega⟩ who).symm
  · have h9 : s = 9 := h9
    subst h9
    have e : gm (9, v) = 13 := rfl
    rw [e] at h
    match st, hl with
    | [], _ => cases h
    | a :: r, hl =>
      have h := Option.some.inj (show some ((if a = 0 then (1 : Int32) else 0) :: r) = some st' from h)
      rw [← h, stepC_9]
      refine ⟨?_, Nat.le_succ _⟩
      exact push_lt (by have : r.length + 1 < 160 := hl; show r.length < 160; omega)
  · have h10 : s = 10 := h10
    subst h10
    have e : gm (10, v) = 19 := rfl
    rw [e] at h
    match st, hl with
    | [], _ => cases h
    | a :: r, hl =>
      have h := Option.some.inj (show some ((-a) :: r) = some st' from h)
      rw [← h, stepC_10]
      refine ⟨?_, Nat.le_succ _⟩
      exact push_lt (by have : r.length + 1 < 160 := hl; show r.length < 160; omega)
  · have fin : ∀ (g : Int32), gm (s, v) = g → ¬ (100000 : Int32) ≤ g → ¬ g < 11 → ¬ g = 13 → ¬ g = 19 → ¬ s = 2 → ¬ s = 3 → ¬ s = 9 → ¬ s = 10 → (∀ a b, jnF s a b = twoF g a b) → stepC (nI w) who st (s, v) = st' ∧ st'.length ≤ st.length + 1 := by
      intro g hg g1 g2 g3 g4 s2 s3 s9 s10 hj
      rw [hg] at h
      obtain ⟨b, a, r, rfl, rfl⟩ := stp_op0 g1 g2 g3 g4 h
      have hl : r.length + 1 + 1 < 160 := hl
      rw [step_op s2 s3 s9 s10, push_lt (by omega), hj]
      exact ⟨rfl, by show r.length + 1 ≤ r.length + 1 + 1 + 1; omega⟩
    rcases opk_sgn hop with q | q | q | q | q | q | q
    all_goals
      have q : s = _ := q
      subst q
    · exact fin 11 rfl (by decide) (by decide) (by decide) (by decide) (by decide) (by decide) (by decide) (by decide) (fun a b => rfl)
    · exact fin 12 rfl (by decide) (by decide) (by decide) (by decide) (by decide) (by decide) (by decide) (by decide) (fun a b => rfl)
    · exact fin 14 rfl (by decide) (by decide) (by decide) (by decide) (by decide) (by decide) (by decide) (by decide) (fun a b => rfl)
    · exact fin 15 rfl (by decide) (by decide) (by decide) (by decide) (by decide) (by decide) (by decide) (by decide) (fun a b => rfl)
    · exact fin 16 rfl (by decide) (by decide) (by decide) (by decide) (by decide) (by decide) (by decide) (by decide) (fun a b => rfl)
    · exact fin 17 rfl (by decide) (by decide) (by decide) (by decide) (by decide) (by decide) (by decide) (by decide) (fun a b => rfl)
    · exact fin 18 rfl (by decide) (by decide) (by decide) (by decide) (by decide) (by decide) (by decide) (by decide) (fun a b => rfl)
theorem ev_all {w : Nat} (hw : w < 32) (who : Int32) : ∀ (c : List (Int32 × Int32)) (st st' : List Int32), Vd c → st.length + c.length ≤ 160 → evR (nmF (nI w) who) (c.map gm) st = some st' → runC (nI w) who c st = st'
  | [], st, st', _, _, h => Option.some.inj h
  | x :: c, st, st', hv, hl, h => by
    have hl : st.length + (c.length + 1) ≤ 160 := hl
    have h : (stpR (nmF (nI w) who) (gm x) st).bind (evR (nmF (nI w) who) (c.map gm)) = some st' := h
    cases q : stpR (nmF (nI w) who) (gm x) st with
    | none => rw [q] at h; cases h
    | some st1 =>
      rw [q] at h
      obtain ⟨e1, e2⟩ := ev_one hw who (hv x List.mem_cons_self) (by omega) q
      show runC (nI w) who c (stepC (nI w) who st x) = st'
      rw [e1]
      exact ev_all hw who c st1 st' (fun y hy => hv y (List.mem_cons_of_mem _ hy)) (by omega) h
theorem val_al {w : Nat} (hw : w < 32) (who : Int32) {c : List (Int32 × Int32)} (hv : Vd c) (hl : c.length ≤ 160) (h : ∃ v, evR (nmF (nI w) who) (c.map gm) [] = some [v]) : valC (nI w) who c = valR (nmF (nI w) who) (c.map gm) := by
  obtain ⟨v, h⟩ := h
  unfold valC valR
  rw [h, ev_all hw who c [] [v] hv (by show 0 + c.length ≤ 160; omega) h]
  rfl
/-! worlds as bits -/
def Zx (a : Int32) (b : Int64) : Prop := b.toBitVec = a.toBitVec.setWidth 64
theorem Zx.ext {a : Int32} {b : Int64} (h : ∀ i, i < 64 → b.toBitVec.getLsbD i = (decide (i < 64) && a.toBitVec.getLsbD i)) : Zx a b := by
  apply BitVec.eq_of_getLsbD_eq
  intro i hi
  rw [BitVec.getLsbD_setWidth]
  exact h i hi
theorem Zx.bit {a : Int32} {b : Int64} (h : Zx a b) (i : Nat) : b.toBitVec.getLsbD i = (decide (i < 64) && a.toBitVec.getLsbD i) := by
  rw [h, BitVec.getLsbD_setWidth]
theorem Zx.z : Zx 0 0 := rfl
theorem Zx.or {a c : Int32} {b d : Int64} (h1 : Zx a b) (h2 : Zx c d) : Zx (a ||| c) (b ||| d) := by
  unfold Zx
  rw [Int64.toBitVec_or, Int32.toBitVec_or, h1, h2, BitVec.setWidth_or]
theorem Zx.and {a c : Int32} {b d : Int64} (h1 : Zx a b) (h2 : Zx c d) : Zx (a &&& c) (b &&& d) := by
  unfold Zx
  rw [Int64.toBitVec_and, Int32.toBitVec_and, h1, h2, BitVec.setWidth_and]
theorem Zx.xor {a c : Int32} {b d : Int64} (h1 : Zx a b) (h2 : Zx c d) : Zx (a ^^^ c) (b ^^^ d) := by
  unfold Zx
  rw [Int64.toBitVec_xor, Int32.toBitVec_xor, h1, h2, BitVec.setWidth_xor]
theorem one_zx : ∀ w : Fin 32, ((1 : Int64) <<< ((nI w.val).toInt64 &&& 63)).toBitVec = ((1 : Int32) <<< (nI w.val &&& 31)).toBitVec.setWidth 64 := by decide +kernel
theorem Zx.one {w : Nat} (hw : w < 32) : Zx ((1 : Int32) <<< (nI w &&& 31)) ((1 : Int64) <<< ((nI w).toInt64 &&& 63)) := one_zx ⟨w, hw⟩
theorem saysF_01 {p t : Nat} {w who : Int32} (hp : ¬ p = 2) : saysF M p t w who = 0 ∨ saysF M p t w who = 1 := by
  unfold saysF
  rw [if_neg hp]
  split
  · exact Or.inl rfl
  · exact Or.inr rfl
/-- what a part means, by bits -/
theorem tr_al {p t : Nat} (hp : p < 2) {who : Nat} {c : List (Int32 × Int32)} (hv : Vd c) (hl : c.length ≤ 160) (hs : segM M t p = c.map gm) (hO : ∀ nm, ∃ v, evR nm (segM M t p) [] = some [v]) : ∀ w, w ≤ 32 → Zx (trC (nI who) c w) (soF M p t (nI who) w)
  | 0, _ => Zx.z
  | w + 1, hw => by
    have ih := tr_al hp (who := who) hv hl hs hO w (by omega)
    rw [trC, soF]
    have e := val_al (w := w) (by omega) (nI who) hv hl (by rw [← hs]; exact hO _)
    have e2 : saysF M p t (nI w) (nI who) = if valC (nI w) (nI who) c = 0 then 0 else 1 := by
      unfold saysF
      rw [if_neg (by omega), hs, e]
    rw [e2]
    by_cases q : valC (nI w) (nI who) c = 0
    · rw [if_pos q, if_pos q, if_neg (by decide)]
      rw [show soF M p t (nI who) w ||| 0 = soF M p t (nI who) w from Int64.or_zero]
      exact ih
    · rw [if_neg q, if_neg q, if_pos rfl]
      exact ih.or (Zx.one (by omega))
theorem says_2 {t : Nat} {who : Nat} {c : List (Int32 × Int32)} (hv : Vd c) (hl : c.length ≤ 160) (hs : segM M t 2 = c.map gm) (hO : ∀ nm, ∃ v, evR nm (segM M t 2) [] = some [v]) : maxF 0 (minF 99 (valC 0 (nI who) c)) = saysF M 2 t 0 (nI who) := by
  have e := val_al (w := 0) (by decide) (nI who) hv hl (by rw [← hs]; exact hO _)
  have e : valC 0 (nI who) c = valR (nmF 0 (nI who)) (c.map gm) := e
  unfold saysF
  rw [if_pos rfl, hs, ← e]
  unfold maxF minF withinF
  generalize valC 0 (nI who) c = v
  by_cases h1 : v < 99
  · rw [if_pos h1]
    by_cases h2 : v < 0
    · rw [if_neg (fun z => absurd (Int32.lt_trans z h2) Int32.lt_irrefl), if_pos h2]
    · rw [if_neg h2, if_neg (fun z => absurd (Int32.lt_trans z h1) Int32.lt_irrefl)]
      by_cases h3 : 0 < v
      · rw [if_pos h3]
      · rw [if_neg h3]
        exact Int32.le_antisymm (Int32.not_lt.mp h2) (Int32.not_lt.mp h3)
  · rw [if_neg h1, if_pos (by decide)]
    have h2 : ¬ v < 0 := fun z => h1 (Int32.lt_trans z (by decide))
    rw [if_neg h2]
    by_cases h3 : 99 < v
    · rw [if_pos h3]
    · rw [if_neg h3]
      exact Int32.le_antisymm (Int32.not_lt.mp h1) (Int32.not_lt.mp h3)
theorem saysF_seg {p t : Nat} (h : segM M' t p = segM M t p) (w who : Int32) : saysF M' p t w who = saysF M p t w who := by
  unfold saysF
  rw [h]
theorem soF_seg {p t : Nat} (h : segM M' t p = segM M t p) (who : Int32) : ∀ n, soF M' p t who n = soF M p t who n
  | 0 => rfl
  | n + 1 => by rw [soF, soF, soF_seg h who n, saysF_seg h]
end EVALAL
end
section
-- 97p.kprec3
/-! THE CLASS in general, precisely: bytes fed, counts, what is taken -/
section KPREC3
variable {l : Launch} {X : List (List Int32)} {S : CS} {T : AH} {hp : AH} {nt ns nk ta : Nat}
/-- bytes behind a row -/
def fdC (xs : List Int32) (ta : Nat) (f : Nat → Int32) : Nat → List Int32
  | 0 => xs
  | j + 1 => (fdC xs ta f j).set (ta + j) (f j)
theorem fdC_len {xs : List Int32} {ta : Nat} {f : Nat → Int32} : ∀ j, (fdC xs ta f j).length = xs.length
  | 0 => rfl
  | j + 1 => by rw [fdC, List.length_set, fdC_len j]
def kfeG (S : CS) (ta : Nat) (n a b c d e : Int32) : CS × Int32 := if feQ n a b c d e then (if 160 < ta + n.toNatClampNeg then (S, -4) else (cN (cR S 2 (fdC (S.2 2) ta (fdV a b c d e) n.toNatClampNeg)) 11 (nI (ta + n.toNatClampNeg)), nI (ta + n.toNatClampNeg))) else (S, -2)
set_option maxRecDepth 100000 in
set_option maxHeartbeats 1000000 in
theorem P_feed (hL : CLen S) (h11 : S.1 11 = nI ta) (h160 : ta ≤ 160) (n a b c d e : Int32) : Ctr l 2 X sgX7_feed [.ref 0, .int n, .int a, .int b, .int c, .int d, .int e] (encC S ++ T) (kpQ T (kfeG S ta n a b c d e)) := by
  refine Ctr.of okX7_feed rfl (Nat.le_of_ble_eq_true rfl) (run_sound okX7_feed cNg 200 ?_)
  refine br (fun h1 => kp (if_neg (fun z => absurd h1 (Int32.not_lt.mpr z.1.1)))) (fun h1 => br (fun h2 => ?_) (fun h2 => kp (if_neg (fun z => h2 z.1.2))))
  have q1 : (1 : Int32) ≤ n ∧ n ≤ 5 := ⟨Int32.not_lt.mp h1, h2⟩
  obtain ⟨m, hm, rfl⟩ : ∃ m : Nat, m ≤ 5 ∧ n = nI m := by
    have h1 := Int32.le_iff_toInt_le.mp q1.1
    have h2 := Int32.le_iff_toInt_le.mp q1.2
    have e1 : (1 : Int32).toInt = 1 := by decide
    have e5 : (5 : Int32).toInt = 5 := by decide
    refine ⟨n.toInt.toNat, by omega, Int32.toInt_inj.mp ?_⟩
    rw [nI_toInt (by omega)]
    omega
  refine kH (c_isByte _) (by decide) (brB' (fun q => kp (if_neg (fun z => q z.2.1))) (fun qa => ?_))
  refine kH (c_isByte _) (by decide) (brB' (fun q => kp (if_neg (fun z => q z.2.2.1))) (fun qb => ?_))
  refine kH (c_isByte _) (by decide) (brB' (fun q => kp (if_neg (fun z => q z.2.2.2.1))) (fun qc => ?_))
  refine kH (c_isByte _) (by decide) (brB' (fun q => kp (if_neg (fun z => q z.2.2.2.2.1))) (fun qd => ?_))
  refine kH (c_isByte _) (by decide) (brB' (fun q => kp (if_neg (fun z => q z.2.2.2.2.2))) (fun qe => ?_))
  have yes : feQ (nI m) a b c d e := ⟨q1, qa, qb, qc, qd, qe⟩
  have cm : (nI m).toNatClampNeg = m := nI_clamp (by omega)
  have hsum : S.1 11 + nI m ≤ 160 ↔ ta + m ≤ 160 := by
    rw [h11, nI_add]
    exact nI_leI (b := 160) (by omega) (by decide)
  refine br (fun y => ?_) (fun y => kp ((if_pos yes).trans (if_pos (by rw [cm]; exact Nat.lt_of_not_le (fun z => y (hsum.mpr z))))))
  have hb : ta + m ≤ 160 := hsum.mp y
  have eG : kfeG S ta (nI m) a b c d e = (cN (cR S 2 (fdC (S.2 2) ta (fdV a b c d e) m)) 11 (nI (ta + m)), nI (ta + m)) := by
    have := (if_pos yes).trans (if_neg (show ¬ 160 < ta + (nI m).toNatClampNeg by rw [cm]; omega)) (a := kfeG S ta (nI m) a b c d e)
    rw [cm] at this
    exact this
  rw [eG]
  have hl2 := hL 2
  have key : ∀ j, j ≤ m → WP l (rmD 2 0 0) X sgX7_feed kX7_feed (kpQ T (cN (cR S 2 (fdC (S.2 2) ta (fdV a b c d e) m)) 11 (nI (ta + m)), nI (ta + m))) 36 [some (.ref 0), some (.int (nI m)), some (.int a), some (.int b), some (.int c), some (.int d), some (.int e), some (.int (nI j))] [] (encC (cN (cR S 2 (fdC (S.2 2) ta (fdV a b c d e) j)) 11 (nI (ta + j))) ++ T) 0 0 := by
    refine down ?_ (fun j hj ih => ?_)
    · exact run_sound okX7_feed cNg 200 (brT (Int32.le_refl _) ⟨rfl, rfl⟩)
    · have hLj : CLen (cN (cR S 2 (fdC (S.2 2) ta (fdV a b c d e) j)) 11 (nI (ta + j))) := (hL.row 2 _ (by rw [fdC_len]; exact hl2)).num 11 _
      have t61 : ∀ x, x = fdV a b c d e j → WP l (rmD 2 0 0) X sgX7_feed kX7_feed (kpQ T (cN (cR S 2 (fdC (S.2 2) ta (fdV a b c d e) m)) 11 (nI (ta + m)), nI (ta + m))) 61 [some (.ref 0), some (.int (nI m)), some (.int a), some (.int b), some (.int c), some (.int d), some (.int e), some (.int (nI j))] [.int x, .ref 1] (encC (cN (cR S 2 (fdC (S.2 2) ta (fdV a b c d e) j)) 11 (nI (ta + j))) ++ T) 0 0 := by
        intro x hx
        subst hx
        refine run_sound okX7_feed cNg 200 (kH (c_tape hLj (fdV a b c d e j) (nI_lt (a := ta + j) (b := 160) (by omega) (by decide))) (by decide) ?_)
        have e2 : putF (fdC (S.2 2) ta (fdV a b c d e) j) (nI (ta + j)) (fdV a b c d e j) = fdC (S.2 2) ta (fdV a b c d e) (j + 1) := putF_n (by omega)
        rw [← e2, show ta + (j + 1) = ta + j + 1 from rfl, ← nI_1 (ta + j), ← nI_1 j] at ih
        exact ih
      exact run_sound okX7_feed cNg 200 (brF (ge_no (n := m) rfl hj (by omega)) (br (fun y => t61 _ (if_pos y).symm) (fun y => br (fun y2 => t61 _ ((if_neg y).trans (if_pos y2)).symm) (fun y2 => br (fun y3 => t61 _ ((if_neg y).trans ((if_neg y2).trans (if_pos y3))).symm) (fun y3 => br (fun y4 => t61 _ ((if_neg y).trans ((if_neg y2).trans ((if_neg y3).trans (if_pos y4)))).symm) (fun y4 => t61 _ ((if_neg y).trans ((if_neg y2).trans ((if_neg y3).trans (if_neg y4)))).symm))))))
  have k0 := key 0 (Nat.zero_le _)
  rw [show ta + 0 = ta from rfl, ← h11] at k0
  exact k0
def kcnG (S : CS) (v : Int32) : Int32 := if v = 0 then S.1 133 else if v = 1 then S.1 134 else if v = 2 then S.1 93 else if v = 3 then S.1 135 else if v = 4 then S.1 11 else -2
set_option maxRecDepth 100000 in
theorem P_count (v : Int32) : Ans l 0 X sgX7_count [.ref 0, .int v] (encC S ++ T) (kcnG S v) := by
  refine Ctr.of okX7_count rfl (Nat.le_of_ble_eq_true rfl) (run_sound okX7_count noCut 100 ?_)
  refine And.intro (fun h => ⟨rfl, some_int ?_⟩) (And.intro (fun h => ?_) (And.intro (fun h => ?_) (And.intro (fun h => ?_) (And.intro (fun h => ?_) (And.intro (fun h => ?_) trivial)))))
  · have n0 : ¬ v = 0 := fun z => by subst z; revert h; decide
    have n1 : ¬ v = 1 := fun z => by subst z; revert h; decide
    have n2 : ¬ v = 2 := fun z => by subst z; revert h; decide
    have n3 : ¬ v = 3 := fun z => by subst z; revert h; decide
    have n4 : ¬ v = 4 := fun z => by subst z; revert h; decide
    unfold kcnG
    rw [if_neg n0, if_neg n1, if_neg n2, if_neg n3, if_neg n4]
    rfl
  all_goals
    subst h
    exact ⟨rfl, rfl⟩
def oneOf (a b : Int32) : Int32 := if a = b then 1 else if b = 0 then 1 else if a = 3 ∧ b = 1 then 1 else if a = 5 ∧ b = 2 then 1 else 0
set_option maxRecDepth 100000 in
theorem P_isOneOf (a b : Int32) : Ans l 0 X sgX7_isOneOf [.int a, .int b] hp (oneOf a b) := by
  refine Ctr.of okX7_isOneOf rfl (Nat.le_of_ble_eq_true rfl) (run_sound okX7_isOneOf (fun i => Nat.beq i 13 || Nat.beq i 19 || Nat.beq i 21) 200 ?_)
  have t19 : oneOf a b = 1 → WP l (rmD 0 0 0) X sgX7_isOneOf kX7_isOneOf (fun h w => h = hp ∧ w = some (.int (oneOf a b))) 19 [some (.int a), some (.int b)] [] hp 0 0 := fun e => by
    rw [e]
    exact run_sound okX7_isOneOf noCut 200 ⟨rfl, rfl, rfl⟩
  have t21 : oneOf a b = 0 → WP l (rmD 0 0 0) X sgX7_isOneOf kX7_isOneOf (fun h w => h = hp ∧ w = some (.int (oneOf a b))) 21 [some (.int a), some (.int b)] [] hp 0 0 := fun e => by
    rw [e]
    exact run_sound okX7_isOneOf noCut 200 ⟨rfl, rfl, rfl⟩
  refine br (fun y => ⟨rfl, rfl, some_int (if_pos y).symm⟩) (fun y => br (fun y2 => ⟨rfl, rfl, some_int ((if_neg y).trans (if_pos y2)).symm⟩) (fun y2 => ?_))
  have e : oneOf a b = if a = 3 ∧ b = 1 then 1 else if a = 5 ∧ b = 2 then 1 else 0 := (if_neg y).trans (if_neg y2)
  have t13 : ¬ (a = 3 ∧ b = 1) → WP l (rmD 0 0 0) X sgX7_isOneOf kX7_isOneOf (fun h w => h = hp ∧ w = some (.int (oneOf a b))) 13 [some (.int a), some (.int b)] [] hp 0 0 := fun n => by
    refine run_sound okX7_isOneOf (fun i => Nat.beq i 19 || Nat.beq i 21) 200 (br (fun z => br (fun z2 => t19 ?_) (fun z2 => t21 ?_)) (fun z => t21 ?_))
    · exact e.trans ((if_neg n).trans (if_pos ⟨z, z2⟩))
    · exact e.trans ((if_neg n).trans (if_neg (fun w => z2 w.2)))
    · exact e.trans ((if_neg n).trans (if_neg (fun w => z w.1)))
  exact br (fun z => br (fun z2 => t19 (e.trans (if_pos ⟨z, z2⟩))) (fun z2 => t13 (fun w => z2 w.2))) (fun z => t13 (fun w => z w.1))
def ksaT (S : CS) (i k : Int32) : Int32 := if i < S.1 134 then (if k = 6 then partF S i 2 else -13) else -11
set_option maxRecDepth 100000 in
theorem P_sayingTaken (hL : CLen S) (i k : Int32) : Ans l 2 X sgX7_sayingTaken [.ref 0, .int i, .int k] (encC S ++ T) (ksaT S i k) := by
  refine Ctr.of okX7_sayingTaken rfl (Nat.le_of_ble_eq_true rfl) (run_sound okX7_sayingTaken noCut 200 ?_)
  exact br (fun y => br (fun y2 => kH (c_sayingPart hL i 2) (by decide) ⟨rfl, some_int ((if_pos y).trans (if_pos y2)).symm⟩) (fun y2 => ⟨rfl, some_int ((if_pos y).trans (if_neg y2)).symm⟩)) (fun y => ⟨rfl, some_int (if_neg y).symm⟩)
def kspT (S : CS) (i k : Int32) : Int32 := if i < S.1 133 then (if oneOf (atF (S.2 14) i) k = 0 then -13 else i) else -11
set_option maxRecDepth 100000 in
theorem P_speakerTaken (hL : CLen S) (i k : Int32) : Ans l 2 X sgX7_speakerTaken [.ref 0, .int i, .int k] (encC S ++ T) (kspT S i k) := by
  refine Ctr.of okX7_speakerTaken rfl (Nat.le_of_ble_eq_true rfl) (run_sound okX7_speakerTaken noCut 200 ?_)
  exact br (fun y => kH (c_at (xs := S.2 14) rfl (hL.lt 14)) (by decide) (kH (P_isOneOf _ _) (by decide) (br (fun z => ⟨rfl, some_int ((if_pos y).trans (if_pos z)).symm⟩) (fun z => ⟨rfl, some_int ((if_pos y).trans (if_neg z)).symm⟩)))) (fun y => ⟨rfl, some_int (if_neg y).symm⟩)
def ktkG (S : CS) (i k : Int32) : Int32 := if kxP 7 k then (if kxP 17 i then (if i < 12 then ksaT S i k else kspT S (i - 12) k) else -12) else -2
set_option maxRecDepth 100000 in
theorem P_taken (hL : CLen S) (i k : Int32) : Ans l 3 X sgX7_taken [.ref 0, .int i, .int k] (encC S ++ T) (ktkG S i k) := by
  refine Ctr.of okX7_taken rfl (Nat.le_of_ble_eq_true rfl) (run_sound okX7_taken noCut 200 ?_)
  exact kH (c_isBelow k 7) (by decide) (brB' (fun q => ⟨rfl, some_int (if_neg q).symm⟩) (fun q => kH (c_isBelow i 17) (by decide) (brB' (fun q2 => ⟨rfl, some_int ((if_pos q).trans (if_neg q2)).symm⟩) (fun q2 => br (fun y => kH (P_speakerTaken hL _ _) (by decide) ⟨rfl, some_int ((if_pos q).trans ((if_pos q2).trans (if_neg (fun z => absurd y (Int32.not_le.mpr z))))).symm⟩) (fun y => kH (P_sayingTaken hL _ _) (by decide) ⟨rfl, some_int ((if_pos q).trans ((if_pos q2).trans (if_pos (Int32.not_le.mp y)))).symm⟩)))))
end KPREC3
end
section
-- 97q.kprec4
/-! THE CLASS in general, precisely: told talks, copies, sayings by a sheet -/
section KPREC4
variable {l : Launch} {X : List (List Int32)} {S : CS} {T : AH} {hp : AH} {nt ns nk ta : Nat}
theorem set_comm2 {xs : List Int32} {i j : Nat} {v w : Int32} (h : ¬ i = j) : (xs.set i v).set j w = (xs.set j w).set i v := List.set_comm v w h
theorem zeC_congr {f g : Nat → Int32} {xs : List Int32} {s : Nat} : ∀ n, (∀ x, x < n → f x = g x) → zeC f xs s n = zeC g xs s n
  | 0, _ => rfl
  | n + 1, h => by rw [zeC, zeC, zeC_congr n (fun x hx => h x (by omega)), h n (by omega)]
/-- one number of a sheet's row written anew -/
theorem zeC_upd {f : Nat → Int32} {xs : List Int32} {s i : Nat} {v : Int32} : ∀ n, i < n → (zeC f xs s n).set (40 * s + i) v = zeC (fun x => if x = i then v else f x) xs s n
  | 0, h => by omega
  | n + 1, h => by
    rw [zeC, zeC]
    by_cases e : n = i
    · subst e
      rw [List.set_set, if_pos rfl, zeC_congr n (fun x hx => (if_neg (show ¬ x = n by omega)).symm)]
    · rw [set_comm2 (by omega), zeC_upd n (by omega), if_neg e]
def fiC (S : CS) (m k : Nat) : Int32 := if k < m then (S.2 16).getD k 0 else 0
def kfiS (S : CS) (nk s : Nat) : CS := cR (cR (cR S 22 ((S.2 22).set s 2)) 23 ((S.2 23).set s (nI (3 * nk)))) 24 (zeC (fiC S (3 * nk)) (S.2 24) s 40)
def kfiG (S : CS) (nk : Nat) (s : Int32) : CS × Int32 := if p3P s then (kfiS S nk s.toNatClampNeg, nI nk) else (S, -2)
/-- half way -/
def kfiM (S : CS) (nk s : Nat) (c : List Int32) : CS := cR (cR (cR S 22 ((S.2 22).set s 2)) 23 ((S.2 23).set s (nI (3 * nk)))) 24 c
theorem kfiM_len (hL : CLen S) {nk s : Nat} {c : List Int32} (hc : c.length ≤ 1000) : CLen (kfiM S nk s c) :=
  (((hL.row 22 _ (by rw [List.length_set]; exact hL 22)).row 23 _ (by rw [List.length_set]; exact hL 23)).row 24 _ hc)
theorem fiC_more {m k : Nat} (hk : k < 40) : (if k = m then (S.2 16).getD m 0 else fiC S m k) = fiC S (m + 1) k := by
  unfold fiC
  by_cases e : k = m
  · subst e
    rw [if_pos rfl, if_pos (Nat.lt_succ_self _)]
  · rw [if_neg e]
    by_cases q : k < m
    · rw [if_pos q, if_pos (by omega)]
    · rw [if_neg q, if_neg (by omega)]
set_option maxRecDepth 100000 in
theorem P_film1 (hL : CLen S) (l22 : (S.2 22).length = 4) {nk s m k j : Nat} {c c' : List Int32} (hc : c.length ≤ 1000) (hs : s < 4) (hk : k < 12) (hj : j < 3) (hm : m = 3 * k + j) {w : Int32} (hw : c.set (40 * s + m) w = c') :
    Ctr l 1 X sgX3_write [.ref 21, .int (nI s), .int (Int32.ofInt 3 * nI k + nI j), .int w] (encC (kfiM S nk s c) ++ T) (fun h v => h = encC (kfiM S nk s c') ++ T ∧ v = none) := by
  have hLm : CLen (kfiM S nk s c) := kfiM_len hL hc
  have e1 : wrS (kfiM S nk s c) (nI s) (Int32.ofInt 3 * nI k + nI j) w = cR (kfiM S nk s c) 24 c' := by
    unfold wrS
    have ev : wrV (kfiM S nk s c) (nI s) w = w := by
      have e22 : atF ((kfiM S nk s c).2 22) (nI s) = 2 := by
        rw [show (kfiM S nk s c).2 22 = (S.2 22).set s 2 from rfl, atF_n (by omega), getD_set_eq (by omega)]
      unfold wrV
      rw [e22]
      rfl
    have ei : nI s * Int32.ofInt 40 + (Int32.ofInt 3 * nI k + nI j) = nI (40 * s + m) := by
      rw [show nI s * Int32.ofInt 40 = nI (s * 40) from nI_mul s 40, show Int32.ofInt 3 * nI k = nI (3 * k) from nI_mul 3 k, nI_add, nI_add, hm, Nat.mul_comm s 40]
    rw [ev, ei, putF_n (by omega), show (kfiM S nk s c).2 24 = c from rfl, hw]
  have h := c_write (l := l) (X := X) (T := T) hLm (nI s) (Int32.ofInt 3 * nI k + nI j) w
  rw [e1] at h
  exact h
set_option maxRecDepth 100000 in
set_option maxHeartbeats 1000000 in
theorem P_film (hL : CLen S) (l22 : (S.2 22).length = 4) (h134 : S.1 134 = nI nk) (h12 : nk ≤ 12) (s : Int32) : Ctr l 2 X sgX7_film [.ref 0, .int s] (encC S ++ T) (kpQ T (kfiG S nk s)) := by
  refine Ctr.of okX7_film rfl (Nat.le_of_ble_eq_true rfl) (run_sound okX7_film (fun i => Nat.beq i 18) 200 ?_)
  refine kH (k_B s 4 3 (by decide)) (by decide) (brB' (fun q => kp (if_neg q)) (fun q => ?_))
  obtain ⟨a, ha, rfl⟩ := in03n q
  obtain ⟨C, hC⟩ : ∃ C : Nat → List Int32, ∀ m, C m = zeC (fiC S m) (S.2 24) a 40 := ⟨_, fun _ => rfl⟩
  have cl : ∀ m, (C m).length ≤ 1000 := fun m => by rw [hC, zeC_len]; exact hL 24
  have cs : ∀ m, m < 40 → (C m).set (40 * a + m) ((S.2 16).getD m 0) = C (m + 1) := fun m hm => by
    rw [hC, hC, zeC_upd 40 hm]
    exact zeC_congr 40 (fun x hx => fiC_more hx)
  have eG : kfiG S nk (nI a) = (kfiM S nk a (C (3 * nk)), nI nk) := by
    unfold kfiG
    rw [if_pos q, nI_clamp (by omega), hC]
    rfl
  rw [eG]
  have e3 : Int32.ofInt 3 * S.1 134 = nI (3 * nk) := by rw [h134]; exact nI_mul 3 nk
  refine ⟨1, _, by decide, P_make hL ha (Int32.ofInt 2) (Int32.ofInt 3 * S.1 134), ?_⟩
  rintro hp' w ⟨rfl, rfl⟩
  have e0 : kmkS S a (Int32.ofInt 2) (Int32.ofInt 3 * S.1 134) = kfiM S nk a (C 0) := by
    unfold kmkS kfiM
    rw [e3, hC, zeC_congr (f := fun _ => 0) (g := fiC S 0) 40 (fun x hx => (if_neg (Nat.not_lt_zero _)).symm)]
    rfl
  rw [e0]
  clear hC e0 eG
  have out : ∀ k, k ≤ nk → ∀ x, WP l (rmD 2 0 0) X sgX7_film kX7_film (kpQ T (kfiM S nk a (C (3 * nk)), nI nk)) 18 [some (.ref 0), some (.int (nI a)), some (.int (nI k)), x] [] (encC (kfiM S nk a (C (3 * k))) ++ T) 0 0 := by
    refine down (fun x => ?_) (fun k hk ih x => ?_)
    · have fin : kpQ T (kfiM S nk a (C (3 * nk)), nI nk) (encC (kfiM S nk a (C (3 * nk))) ++ T) (some (.int (S.1 134))) := ⟨rfl, some_int h134⟩
      refine run_sound okX7_film (fun i => Nat.beq i 18) 200 (brT ?_ fin)
      show S.1 134 ≤ nI nk
      rw [h134]
      exact Int32.le_refl _
    · have inn : ∀ j, j ≤ 3 → WP l (rmD 2 0 0) X sgX7_film kX7_film (kpQ T (kfiM S nk a (C (3 * nk)), nI nk)) 25 [some (.ref 0), some (.int (nI a)), some (.int (nI k)), some (.int (nI j))] [] (encC (kfiM S nk a (C (3 * k + j))) ++ T) 0 0 := by
        refine down ?_ (fun j hj ih2 => ?_)
        · have ih := ih (some (.int (nI 3)))
          rw [← nI_1 k] at ih
          exact run_sound okX7_film (fun i => Nat.beq i 18) 200 (brT (Int32.le_refl _) ih)
        · have hp : partF (kfiM S nk a (C (3 * k + j))) (nI k) (nI j) = (S.2 16).getD (3 * k + j) 0 := by
            unfold partF
            rw [show (3 : Int32) * nI k = nI (3 * k) from nI_mul 3 k, nI_add, atF_n (by omega)]
            rfl
          have hLm : CLen (kfiM S nk a (C (3 * k + j))) := kfiM_len hL (cl _)
          have ih2 := ih2
          rw [show 3 * k + (j + 1) = 3 * k + j + 1 from rfl, ← nI_1 j] at ih2
          have cw := P_film1 (l := l) (X := X) (T := T) (nk := nk) hL l22 (cl (3 * k + j)) ha (by omega) hj rfl (cs (3 * k + j) (by omega))
          rw [← hp] at cw
          exact run_sound okX7_film (fun i => Nat.beq i 25) 200 (brF (ge_no (n := 3) rfl hj (by decide)) (kH (c_sayingPart hLm (nI k) (nI j)) (by decide) (kH cw (by decide) ih2)))
      refine run_sound okX7_film (fun i => Nat.beq i 25) 200 (brF ?_ (inn 0 (Nat.zero_le _)))
      show ¬ S.1 134 ≤ nI k
      rw [h134]
      exact nI_ge hk (by omega)
  exact out 0 (Nat.zero_le _) none
/-! copies -/
/-- n numbers from a on come to b on, as they were -/
def cpC (xs ys : List Int32) (a b : Nat) : Nat → List Int32
  | 0 => ys
  | k + 1 => (cpC xs ys a b k).set (b + k) (xs.getD (a + k) 0)
theorem cpC_len {xs ys : List Int32} {a b : Nat} : ∀ k, (cpC xs ys a b k).length = ys.length
  | 0 => rfl
  | k + 1 => by rw [cpC, List.length_set, cpC_len k]
theorem cpC_get {xs ys : List Int32} {a b : Nat} : ∀ k, b + k ≤ ys.length → ∀ y, (cpC xs ys a b k).getD y 0 = if b ≤ y ∧ y < b + k then xs.getD (a + (y - b)) 0 else ys.getD y 0
  | 0, _, y => by rw [cpC, if_neg (by omega)]
  | k + 1, h, y => by
    rw [cpC, getD_set, cpC_len, cpC_get k (by omega)]
    by_cases e : b + k = y
    · subst e
      rw [if_pos ⟨rfl, by omega⟩, if_pos ⟨by omega, by omega⟩, Nat.add_sub_cancel_left]
    · rw [if_neg (fun z => e z.1)]
      by_cases q : b ≤ y ∧ y < b + k
      · rw [if_pos q, if_pos ⟨q.1, by omega⟩]
      · rw [if_neg q, if_neg (fun z => q ⟨z.1, by omega⟩)]
/-- cells hold what their sheet's sort lets them -/
def ShV (M : MS) : Prop := ∀ s, s < 4 → ∀ i, i < 40 → ceV ((M.2.1 17).getD s 0) ((M.2.1 19).getD (40 * s + i) 0) = (M.2.1 19).getD (40 * s + i) 0
/-- all of a sheet's numbers, as its sort takes them -/
def ShC (S : CS) : Prop := ∀ s, s < 4 → ∀ i, i < 40 → wrV S (nI s) ((S.2 24).getD (40 * s + i) 0) = (S.2 24).getD (40 * s + i) 0
abbrev kcoS (S : CS) (r25 r24 : List Int32) : CS := cR (cR S 25 r25) 24 r24
set_option maxRecDepth 100000 in
set_option maxHeartbeats 1000000 in
theorem P_move (hL : CLen S) (l24 : (S.2 24).length = 160) (l25 : (S.2 25).length = 40) (hV : ShC S) {a i b j n : Nat} (ha : a < 4) (hb : b < 4) (hi : i + n ≤ 40) (hj : j + n ≤ 40) (hso : atF (S.2 22) (nI a) = atF (S.2 22) (nI b)) :
    Ctr l 2 X sgX3_move [.ref 21, .int (nI a), .int (nI i), .int (nI b), .int (nI j), .int (nI n)] (encC S ++ T) (fun h w => (∃ r25, r25.length = 40 ∧ h = encC (kcoS S r25 (cpC (S.2 24) (S.2 24) (40 * a + i) (40 * b + j) n)) ++ T) ∧ w = none) := by
  refine Ctr.of okX3_move rfl (Nat.le_of_ble_eq_true rfl) (run_sound okX3_move cNmv 200 ?_)
  obtain ⟨r25, er⟩ : ∃ r25, r25 = cpC (S.2 24) (S.2 25) (40 * a + i) 0 n := ⟨_, rfl⟩
  have lr : r25.length = 40 := by rw [er, cpC_len]; exact l25
  have gr : ∀ k, k < n → r25.getD k 0 = (S.2 24).getD (40 * a + i + k) 0 := fun k hk => by
    rw [er, cpC_get n (by omega), if_pos ⟨Nat.zero_le _, by omega⟩, Nat.sub_zero]
  have l2 : ∀ k, k ≤ n → WP l (rmD 2 0 0) X sgX3_move kX3_move (fun h w => (∃ r25, r25.length = 40 ∧ h = encC (kcoS S r25 (cpC (S.2 24) (S.2 24) (40 * a + i) (40 * b + j) n)) ++ T) ∧ w = none) 19 [some (.ref 21), some (.int (nI a)), some (.int (nI i)), some (.int (nI b)), some (.int (nI j)), some (.int (nI n)), some (.int (nI k))] [] (encC (kcoS S r25 (cpC (S.2 24) (S.2 24) (40 * a + i) (40 * b + j) k)) ++ T) 0 0 := by
    refine down ?_ (fun k hk ih => ?_)
    · exact run_sound okX3_move cNmv 200 (brT (Int32.le_refl _) ⟨rfl, ⟨r25, lr, rfl⟩, rfl⟩)
    · have hLk : CLen (kcoS S r25 (cpC (S.2 24) (S.2 24) (40 * a + i) (40 * b + j) k)) := (hL.row 25 _ (by rw [lr]; decide)).row 24 _ (by rw [cpC_len]; exact hL 24)
      have e1 : wrS (kcoS S r25 (cpC (S.2 24) (S.2 24) (40 * a + i) (40 * b + j) k)) (nI b) (nI j + nI k) (r25.getD k 0) = cR (kcoS S r25 (cpC (S.2 24) (S.2 24) (40 * a + i) (40 * b + j) k)) 24 (cpC (S.2 24) (S.2 24) (40 * a + i) (40 * b + j) (k + 1)) := by
        unfold wrS
        have ev : wrV (kcoS S r25 (cpC (S.2 24) (S.2 24) (40 * a + i) (40 * b + j) k)) (nI b) (r25.getD k 0) = (S.2 24).getD (40 * a + i + k) 0 := by
          rw [gr k hk]
          have := hV a ha (i + k) (by omega)
          unfold wrV at this ⊢
          rw [show (kcoS S r25 (cpC (S.2 24) (S.2 24) (40 * a + i) (40 * b + j) k)).2 22 = S.2 22 from rfl, ← hso]
          rw [show 40 * a + (i + k) = 40 * a + i + k by omega] at this
          exact this
        have ei : nI b * Int32.ofInt 40 + (nI j + nI k) = nI (40 * b + j + k) := by
          rw [show nI b * Int32.ofInt 40 = nI (b * 40) from nI_mul b 40, nI_add, nI_add]
          congr 1
          omega
        rw [ev, ei, putF_n (by omega)]
        rfl
      have cw := c_write (l := l) (X := X) (T := T) hLk (nI b) (nI j + nI k) (r25.getD k 0)
      rw [e1] at cw
      have ca : Ans l 0 X sgX7_at [.ref 25, .int (nI k)] (encC (kcoS S r25 (cpC (S.2 24) (S.2 24) (40 * a + i) (40 * b + j) k)) ++ T) (r25.getD k 0) := by
        have := c_at (l := l) (X := X) (q := 25) (hp := encC (kcoS S r25 (cpC (S.2 24) (S.2 24) (40 * a + i) (40 * b + j) k)) ++ T) (xs := r25) (i := nI k) rfl (by rw [lr]; decide)
        rw [atF_n (by omega)] at this
        exact this
      rw [← nI_1 k] at ih
      exact run_sound okX3_move cNmv 200 (brF (nI_ge hk (by omega)) (kH ca (by decide) (kH cw (by decide) ih)))
  have l1 : ∀ k, k ≤ n → WP l (rmD 2 0 0) X sgX3_move kX3_move (fun h w => (∃ r25, r25.length = 40 ∧ h = encC (kcoS S r25 (cpC (S.2 24) (S.2 24) (40 * a + i) (40 * b + j) n)) ++ T) ∧ w = none) 2 [some (.ref 21), some (.int (nI a)), some (.int (nI i)), some (.int (nI b)), some (.int (nI j)), some (.int (nI n)), some (.int (nI k))] [] (encC (cR S 25 (cpC (S.2 24) (S.2 25) (40 * a + i) 0 k)) ++ T) 0 0 := by
    refine down ?_ (fun k hk ih => ?_)
    · have k2 := l2 0 (Nat.zero_le _)
      rw [er] at k2
      exact run_sound okX3_move cNmv 200 (brT (Int32.le_refl _) k2)
    · have hLk : CLen (cR S 25 (cpC (S.2 24) (S.2 25) (40 * a + i) 0 k)) := hL.row 25 _ (by rw [cpC_len, l25]; decide)
      have cr : Ans l 1 X sgX3_read [.ref 21, .int (nI a), .int (nI i + nI k)] (encC (cR S 25 (cpC (S.2 24) (S.2 25) (40 * a + i) 0 k)) ++ T) ((S.2 24).getD (40 * a + i + k) 0) := by
        have := c_read (l := l) (X := X) (T := T) hLk (nI a) (nI i + nI k)
        have ei : nI a * Int32.ofInt 40 + (nI i + nI k) = nI (40 * a + i + k) := by
          rw [show nI a * Int32.ofInt 40 = nI (a * 40) from nI_mul a 40, nI_add, nI_add]
          congr 1
          omega
        rw [ei, atF_n (by omega)] at this
        exact this
      have e2 : putF (cpC (S.2 24) (S.2 25) (40 * a + i) 0 k) (nI k) ((S.2 24).getD (40 * a + i + k) 0) = cpC (S.2 24) (S.2 25) (40 * a + i) 0 (k + 1) := by
        rw [putF_n (by omega), cpC, Nat.zero_add]
      rw [← e2, ← nI_1 k] at ih
      exact run_sound okX3_move cNmv 200 (brF (nI_ge hk (by omega)) (kH cr (by decide) (kH (c_put (xs := cpC (S.2 24) (S.2 25) (40 * a + i) 0 k) rfl rfl (by rw [cpC_len, l25]; decide)) (by decide) ih)))
  exact l1 0 (Nat.zero_le _)
end KPREC4
end
section
-- 97r.kprec5
/-! THE CLASS in general, precisely: copies, sayings by a sheet -/
section KPREC5
variable {l : Launch} {X : List (List Int32)} {S : CS} {T : AH} {hp : AH} {nt ns nk ta : Nat}
/-- a state of some kind and an answer -/
abbrev keQ (T : AH) (P : CS → Prop) (v : Int32) : AH → Option Value → Prop := fun h w => (∃ S', P S' ∧ h = encC S' ++ T) ∧ w = some (.int v)
theorem ke {P : CS → Prop} {S' : CS} {v w : Int32} (h : P S') (e : v = w) : keQ T P w (encC S' ++ T) (some (.int v)) := ⟨⟨S', h, rfl⟩, some_int e⟩
/-- the sizes of the sheets -/
def SzC (S : CS) : Prop := ∀ s, s < 4 → ∃ z : Nat, z ≤ 40 ∧ (S.2 23).getD s 0 = nI z
abbrev cobP (S : CS) (s o : Int32) : Prop := kxP 4 s ∧ kxP 4 o
abbrev comP (S : CS) (s o : Int32) : Prop := atF (S.2 22) s = -1 ∨ atF (S.2 22) o = -1
abbrev coiP (S : CS) (s i o j n : Int32) : Prop := hrP S s i n ∧ hrP S o j n
def kcoA (S : CS) (s i o j n : Int32) : Int32 := if cobP S s o then (if comP S s o then -11 else if atF (S.2 22) s = atF (S.2 22) o then (if coiP S s i o j n then n else -12) else -13) else -2
abbrev coyP (S : CS) (s i o j n : Int32) : Prop := cobP S s o ∧ ¬ comP S s o ∧ atF (S.2 22) s = atF (S.2 22) o ∧ coiP S s i o j n
def kcoP (S : CS) (s i o j n : Int32) (S' : CS) : Prop := (coyP S s i o j n → ∃ r25, r25.length = 40 ∧ S' = kcoS S r25 (cpC (S.2 24) (S.2 24) (40 * s.toNatClampNeg + i.toNatClampNeg) (40 * o.toNatClampNeg + j.toNatClampNeg) n.toNatClampNeg)) ∧ (¬ coyP S s i o j n → S' = S)
theorem hr_nat {s i n : Int32} {a z : Nat} (hz : z ≤ 40) (e : atF (S.2 23) s = nI z) (h : hrP S s i n) : ∃ i' n' : Nat, i = nI i' ∧ n = nI n' ∧ i' + n' ≤ z := by
  obtain ⟨h1, h2, h3, h4⟩ := h
  rw [e] at h3 h4
  have g1 := Int32.le_iff_toInt_le.mp (Int32.not_lt.mp h1)
  have g2 := Int32.le_iff_toInt_le.mp (Int32.not_lt.mp h2)
  have g3 := Int32.le_iff_toInt_le.mp h3
  have g4 := Int32.le_iff_toInt_le.mp h4
  have e0 : (0 : Int32).toInt = 0 := by decide
  rw [nI_toInt (by omega)] at g3
  have e5 : (nI z - n).toInt = z - n.toInt := by
    rw [Int32.toInt_sub, nI_toInt (by omega)]
    apply Int.bmod_eq_of_le <;> omega
  rw [e5] at g4
  refine ⟨i.toInt.toNat, n.toInt.toNat, Int32.toInt_inj.mp ?_, Int32.toInt_inj.mp ?_, by omega⟩
  · rw [nI_toInt (by omega)]; omega
  · rw [nI_toInt (by omega)]; omega
theorem x4_nat {s : Int32} (h : kxP 4 s) : ∃ a : Nat, a < 4 ∧ s = nI a := in03n (x4_iff.mp h)
set_option maxRecDepth 100000 in
set_option maxHeartbeats 1000000 in
theorem P_copy (hL : CLen S) (l24 : (S.2 24).length = 160) (l25 : (S.2 25).length = 40) (hV : ShC S) (hZ : SzC S) (s i o j n : Int32) : Ctr l 3 X sgX7_copy [.ref 0, .int s, .int i, .int o, .int j, .int n] (encC S ++ T) (keQ T (kcoP S s i o j n) (kcoA S s i o j n)) := by
  refine Ctr.of okX7_copy rfl (Nat.le_of_ble_eq_true rfl) (run_sound okX7_copy (fun i => Nat.beq i 20 || Nat.beq i 49) 200 ?_)
  have same : ¬ coyP S s i o j n → kcoP S s i o j n S := fun h => ⟨fun z => absurd z h, fun _ => rfl⟩
  refine kH (c_isBelow s 4) (by decide) (brB' (fun q => ke (same (fun z => q z.1.1)) (if_neg (fun z => q z.1)).symm) (fun q1 => kH (c_isBelow o 4) (by decide) (brB' (fun q => ke (same (fun z => q z.1.2)) (if_neg (fun z => q z.2)).symm) (fun q2 => ?_))))
  have t20 : comP S s o → WP l (rmD 3 0 0) X sgX7_copy kX7_copy (keQ T (kcoP S s i o j n) (kcoA S s i o j n)) 20 [some (.ref 0), some (.int s), some (.int i), some (.int o), some (.int j), some (.int n)] [] (encC S ++ T) 0 0 := fun h => run_sound okX7_copy noCut 200 (ke (same (fun z => z.2.1 h)) ((if_pos ⟨q1, q2⟩).trans (if_pos h)).symm)
  refine kH (c_isMissing hL s) (by decide) (brB' (fun m1 => kH (c_isMissing hL o) (by decide) (brB' (fun m2 => ?_) (fun m => t20 (Or.inr m)))) (fun m => t20 (Or.inl m)))
  have nm : ¬ comP S s o := fun z => z.elim m1 m2
  refine kH (c_at (xs := S.2 22) rfl (hL.lt 22)) (by decide) (kH (c_at (xs := S.2 22) rfl (hL.lt 22)) (by decide) (br (fun e => ?_) (fun e => ke (same (fun z => e z.2.2.1)) ((if_pos ⟨q1, q2⟩).trans ((if_neg nm).trans (if_neg e))).symm)))
  have t49 : ¬ coiP S s i o j n → WP l (rmD 3 0 0) X sgX7_copy kX7_copy (keQ T (kcoP S s i o j n) (kcoA S s i o j n)) 49 [some (.ref 0), some (.int s), some (.int i), some (.int o), some (.int j), some (.int n)] [] (encC S ++ T) 0 0 := fun h => run_sound okX7_copy noCut 200 (ke (same (fun z => h z.2.2.2)) ((if_pos ⟨q1, q2⟩).trans ((if_neg nm).trans ((if_pos e).trans (if_neg h)))).symm)
  refine kH (c_holdsRun hL s i n) (by decide) (brB' (fun h => t49 (fun z => h z.1)) (fun h1 => kH (c_holdsRun hL o j n) (by decide) (brB' (fun h => t49 (fun z => h z.2)) (fun h2 => ?_))))
  have yes : coyP S s i o j n := ⟨⟨q1, q2⟩, nm, e, h1, h2⟩
  have ev : kcoA S s i o j n = n := (if_pos ⟨q1, q2⟩).trans ((if_neg nm).trans ((if_pos e).trans (if_pos ⟨h1, h2⟩)))
  rw [ev]
  obtain ⟨a, ha, rfl⟩ := x4_nat q1
  obtain ⟨b, hb, rfl⟩ := x4_nat q2
  obtain ⟨z, hz, ez⟩ := hZ a ha
  obtain ⟨y, hy, ey⟩ := hZ b hb
  obtain ⟨i', n', rfl, rfl, hin⟩ := hr_nat (a := a) hz ((atF_n (by omega)).trans ez) h1
  obtain ⟨j', n2, rfl, en, hjn⟩ := hr_nat (a := b) hy ((atF_n (by omega)).trans ey) h2
  have en := nI_inj (by omega) (by omega) en
  subst en
  refine ⟨2, _, by decide, P_move hL l24 l25 hV ha hb (by omega) (by omega) e, ?_⟩
  rintro hp' w ⟨⟨r25, lr, rfl⟩, rfl⟩
  refine ke ⟨fun _ => ⟨r25, lr, ?_⟩, fun z => absurd yes z⟩ rfl
  rw [nI_clamp (by omega), nI_clamp (by omega), nI_clamp (by omega), nI_clamp (by omega), nI_clamp (by omega)]
/-! sayings by a sheet -/
theorem ksyG_len (hL : CLen S) (s t u : Int32) : CLen (ksyG S s t u).1 := by
  unfold ksyG
  split
  · split
    · split
      · exact (hL.row 16 _ (by rw [putF_len, putF_len, putF_len]; exact hL 16)).num 134 _
      · exact hL
    · exact hL
  · exact hL
abbrev rdC (S : CS) (s : Nat) (i : Int32) : Int32 := atF (S.2 24) (nI s * Int32.ofInt 40 + i)
abbrev ksbY (Q : CS) (s : Nat) (i : Int32) : CS × Int32 := ksyG Q (rdC Q s i) (rdC Q s (i + Int32.ofInt 1)) (rdC Q s (i + Int32.ofInt 2))
def ksbF (s : Nat) (fr : Int32) : Nat → Nat → CS → Nat → CS × Int32
  | 0, _, Q, came => (Q, nI came)
  | m + 1, k, Q, came => if hrP Q (nI s) (fr + Int32.ofInt 3 * nI k) 3 then ksbF s fr m (k + 1) (ksbY Q s (fr + Int32.ofInt 3 * nI k)).1 (if (ksbY Q s (fr + Int32.ofInt 3 * nI k)).2 < 0 then came else came + 1) else (Q, -12)
def ksbG (S : CS) (s sort fr n : Int32) : CS × Int32 := if p3P s ∧ p2P sort ∧ ((0 : Int32) ≤ n ∧ n ≤ 12) then (if atF (S.2 22) s = -1 then (S, -11) else if atF (S.2 22) s = sort then ksbF s.toNatClampNeg fr n.toNatClampNeg 0 S 0 else (S, -13)) else (S, -2)
set_option maxRecDepth 100000 in
set_option maxHeartbeats 1000000 in
theorem P_sayingsBy (hL : CLen S) (s sort fr n : Int32) : Ctr l 3 X sgX7_sayingsBy [.ref 0, .int s, .int sort, .int fr, .int n] (encC S ++ T) (kpQ T (ksbG S s sort fr n)) := by
  refine Ctr.of okX7_sayingsBy rfl (Nat.le_of_ble_eq_true rfl) (run_sound okX7_sayingsBy cNsy 200 ?_)
  have no : ¬ (p3P s ∧ p2P sort ∧ ((0 : Int32) ≤ n ∧ n ≤ 12)) → kpQ T (ksbG S s sort fr n) (encC S ++ T) (some (.int (-2))) := fun h => kp (if_neg h)
  have t9 : ¬ (p3P s ∧ p2P sort ∧ ((0 : Int32) ≤ n ∧ n ≤ 12)) → WP l (rmD 3 0 0) X sgX7_sayingsBy kX7_sayingsBy (kpQ T (ksbG S s sort fr n)) 9 [some (.ref 0), some (.int s), some (.int sort), some (.int fr), some (.int n), none, none, none] [] (encC S ++ T) 0 0 := fun h => run_sound okX7_sayingsBy noCut 200 (no h)
  have t16 : ¬ (p3P s ∧ p2P sort ∧ ((0 : Int32) ≤ n ∧ n ≤ 12)) → WP l (rmD 3 0 0) X sgX7_sayingsBy kX7_sayingsBy (kpQ T (ksbG S s sort fr n)) 16 [some (.ref 0), some (.int s), some (.int sort), some (.int fr), some (.int n), none, none, none] [] (encC S ++ T) 0 0 := fun h => run_sound okX7_sayingsBy noCut 200 (no h)
  refine kH (k_B s 4 3 (by decide)) (by decide) (brB' (fun q => t9 (fun z => q z.1)) (fun q1 => br (fun q => t9 (fun z => absurd q (Int32.not_lt.mpr z.2.1.1))) (fun q2 => br (fun q3 => ?_) (fun q => t9 (fun z => q z.2.1.2)))))
  refine br (fun q => t16 (fun z => absurd q (Int32.not_lt.mpr z.2.2.1))) (fun y1 => br (fun y2 => ?_) (fun q => t16 (fun z => q z.2.2.2)))
  have yes : p3P s ∧ p2P sort ∧ ((0 : Int32) ≤ n ∧ n ≤ 12) := ⟨q1, ⟨Int32.not_lt.mp q2, q3⟩, Int32.not_lt.mp y1, y2⟩
  obtain ⟨m, hm, rfl⟩ := p3_or (c := 12) (z := 12) y1 y2 (by decide) (by decide)
  obtain ⟨a, ha, rfl⟩ := in03n q1
  refine kH (c_isMissing hL _) (by decide) (brB' (fun m1 => kH (c_at (xs := S.2 22) rfl (hL.lt 22)) (by decide) (br (fun e => ?_) (fun e => kp ((if_pos yes).trans ((if_neg m1).trans (if_neg e)))))) (fun m1 => kp ((if_pos yes).trans (if_pos m1))))
  have eG : ksbG S (nI a) sort fr (nI m) = ksbF a fr m 0 S 0 := by
    unfold ksbG
    rw [if_pos yes, if_neg m1, if_pos (show atF (S.2 22) (nI a) = sort from e), nI_clamp (by omega), nI_clamp (by omega)]
  rw [eG]
  obtain ⟨W, hW⟩ : ∃ W, ksbF a fr m 0 S 0 = W := ⟨_, rfl⟩
  rw [hW]
  have key : ∀ k, k ≤ m → ∀ (S : CS), CLen S → ∀ (came : Nat) x7, ksbF a fr (m - k) k S came = W → WP l (rmD 3 0 0) X sgX7_sayingsBy kX7_sayingsBy (kpQ T W) 38 [some (.ref 0), some (.int (nI a)), some (.int sort), some (.int fr), some (.int (nI m)), some (.int (nI came)), some (.int (nI k)), x7] [] (encC S ++ T) 0 0 := by
    refine down (fun S hL came x7 hW => ?_) (fun k hk ih S hL came x7 hW => ?_)
    · rw [Nat.sub_self] at hW
      exact run_sound okX7_sayingsBy cNsy 200 (brT (Int32.le_refl _) (kp hW.symm))
    · rw [show m - k = (m - (k + 1)) + 1 by omega, ksbF] at hW
      refine run_sound okX7_sayingsBy cNsy 200 (brF (nI_ge hk (by omega)) (kH (c_holdsRun hL _ _ _) (by decide) (brB' (fun h => kp (((if_neg h).symm.trans hW).symm)) (fun h => ?_))))
      have hW := (if_pos h).symm.trans hW
      refine kH (c_read hL _ _) (by decide) (kH (c_read hL _ _) (by decide) (kH (c_read hL _ _) (by decide) ⟨2, _, by decide, P_say hL _ _ _, ?_⟩))
      rintro hp' w ⟨rfl, rfl⟩
      have hL2 : CLen (ksbY S a (fr + Int32.ofInt 3 * nI k)).1 := ksyG_len hL _ _ _
      rw [← nI_1 k] at ih
      refine br (fun v => ?_) (fun v => ?_)
      · have v : (ksbY S a (fr + Int32.ofInt 3 * nI k)).2 < 0 := v
        rw [if_pos v] at hW
        exact ih _ hL2 came _ hW
      · have v : ¬ (ksbY S a (fr + Int32.ofInt 3 * nI k)).2 < 0 := v
        rw [if_neg v] at hW
        have ih := ih _ hL2 (came + 1) (some (.int (fr + Int32.ofInt 3 * nI k))) hW
        rw [← nI_1 came] at ih
        exact ih
  exact key 0 (Nat.zero_le _) S hL 0 _ hW
end KPREC5
end
