/-! THE READERS ALIKE: tokens -/
section LEXAL
theorem nI_inj {a b : Nat} (ha : a < 2 ^ 31) (hb : b < 2 ^ 31) (h : nI a = nI b) : a = b := by
  have h1 := congrArg Int32.toInt h
  rw [nI_toInt ha, nI_toInt hb] at h1
  omega
def WS : List Int32 := Mi.2.1 25
def WD : Nat → List Int32
  | 0 => [111, 110, 99, 101]
  | 1 => [116, 119, 105, 99, 101]
  | 2 => [99, 111, 115, 116, 115]
  | 3 => [97]
  | 4 => [98]
  | 5 => [99]
  | 6 => [100]
  | 7 => [101]
  | 8 => [119, 104, 111]
  | 9 => [111, 114]
  | 10 => [97, 110, 100]
  | 11 => [110, 111, 116]
  | _ => []
theorem WS_WD : ∀ k : Fin 12, ∀ c : Fin 8, WS.getD (8 * k.val + c.val) 0 = (if c.val < (WD k.val).length then (WD k.val).getD c.val 0 else 32) := by decide +kernel
theorem WD_n32 : ∀ k : Fin 12, ∀ c : Fin 8, c.val < (WD k.val).length → ¬ (WD k.val).getD c.val 0 = 32 := by decide +kernel
theorem WD_len : ∀ k : Fin 12, (WD k.val).length ≤ 5 := by decide +kernel
def sgm (tp : List Int32) (b n : Nat) : List Int32 := (List.range n).map (fun j => tp.getD (b + j) 0)
theorem sgm_len {tp : List Int32} {b n : Nat} : (sgm tp b n).length = n := by simp [sgm]
theorem sgm_get {tp : List Int32} {b n c : Nat} (h : c < n) : (sgm tp b n).getD c 0 = tp.getD (b + c) 0 := by
  simp [sgm, List.getD_eq_getElem?_getD, List.getElem?_map, List.getElem?_range h]
theorem ext_getD {xs ys : List Int32} (hl : xs.length = ys.length) (h : ∀ c, c < xs.length → xs.getD c 0 = ys.getD c 0) : xs = ys := by
  apply List.ext_getElem hl
  intro c h1 h2
  have := h c h1
  rw [List.getD_eq_getElem?_getD, List.getD_eq_getElem?_getD, List.getElem?_eq_getElem h1, List.getElem?_eq_getElem h2] at this
  exact this
theorem lkR_iff (ws tp : List Int32) (k f t : Nat) : ∀ m, m ≤ 8 → (lkR ws tp k f t m = true ↔ ∀ c, 8 - m ≤ c → c < 8 → ws.getD (8 * k + c) 0 = (if f + c < t then tp.getD (f + c) 0 else 32))
  | 0, _ => ⟨fun _ c h1 h2 => by omega, fun _ => rfl⟩
  | m + 1, hm => by
    rw [lkR]
    by_cases q : ws.getD (8 * k + (8 - (m + 1))) 0 = (if f + (8 - (m + 1)) < t then tp.getD (f + (8 - (m + 1))) 0 else 32)
    · rw [if_pos q, lkR_iff ws tp k f t m (by omega)]
      constructor
      · intro h c h1 h2
        by_cases e : c = 8 - (m + 1)
        · subst e; exact q
        · exact h c (by omega) h2
      · intro h c h1 h2
        exact h c (by omega) h2
    · rw [if_neg q]
      constructor
      · intro h; cases h
      · intro h
        exact absurd (h (8 - (m + 1)) (Nat.le_refl _) (by omega)) q
theorem lk_iff {tp : List Int32} {b e k : Nat} (hk : k < 12) (hbe : b ≤ e) (hl : ∀ j, b ≤ j → j < e → ¬ tp.getD j 0 = 32) : lkF WS tp b e k = true ↔ sgm tp b (e - b) = WD k := by
  have h5 : (WD k).length ≤ 5 := WD_len ⟨k, hk⟩
  unfold lkF
  by_cases q : 8 < e - b
  · rw [if_pos q]
    constructor
    · intro h; cases h
    · intro h
      have h1 := congrArg List.length h
      rw [sgm_len] at h1
      omega
  · rw [if_neg q, lkR_iff WS tp k b e 8 (Nat.le_refl _)]
    constructor
    · intro h
      have hrow : ∀ c, c < 8 → (if c < (WD k).length then (WD k).getD c 0 else 32) = (if b + c < e then tp.getD (b + c) 0 else 32) := fun c hc => (WS_WD ⟨k, hk⟩ ⟨c, hc⟩).symm.trans (h c (by omega) hc)
      have hn : (WD k).length = e - b := by
        by_cases h1 : (WD k).length < e - b
        · have h2 := hrow (WD k).length (by omega)
          rw [if_neg (Nat.lt_irrefl _), if_pos (by omega)] at h2
          exact absurd h2.symm (hl _ (by omega) (by omega))
        · by_cases h2 : e - b < (WD k).length
          · have h3 := hrow (e - b) (by omega)
            rw [if_pos h2, if_neg (by omega)] at h3
            exact absurd h3 (WD_n32 ⟨k, hk⟩ ⟨e - b, by omega⟩ h2)
          · omega
      refine ext_getD (sgm_len.trans hn.symm) (fun c hc => ?_)
      rw [sgm_len] at hc
      have h3 := hrow c (by omega)
      rw [if_pos (by omega), if_pos (by omega)] at h3
      rw [sgm_get hc]
      exact h3.symm
    · intro h c _ hc
      have hn : e - b = (WD k).length := by rw [← h, sgm_len]
      rw [WS_WD ⟨k, hk⟩ ⟨c, hc⟩]
      by_cases q2 : c < (WD k).length
      · rw [if_pos q2, if_pos (by omega)]
        show (WD k).getD c 0 = _
        rw [← h, sgm_get (by omega)]
      · rw [if_neg q2, if_neg (by omega)]
theorem spL_iff (tp : List Int32) (b i : Nat) : ∀ m j, (¬ spL tp (nI b) i m j = 0 ↔ ∀ c, j ≤ c → c < j + m → chS i c = atF tp (nI b + nI c))
  | 0, j => ⟨fun _ c h1 h2 => by omega, fun _ => by rw [spL]; decide⟩
  | m + 1, j => by
    rw [spL]
    split
    · rename_i q
      rw [spL_iff tp b i m (j + 1)]
      constructor
      · intro h c h1 h2
        by_cases e : c = j
        · subst e; exact q
        · exact h c (by omega) (by omega)
      · intro h c h1 h2
        exact h c (by omega) (by omega)
    · rename_i q
      constructor
      · intro h; exact absurd rfl h
      · intro h
        exact absurd (h j (Nat.le_refl _) (by omega)) q
theorem bytS_len : ∀ i : Fin 7, lenS.getD i.val 0 = (bytS.getD i.val []).length := by decide +kernel
theorem bytS_5 : ∀ i : Fin 7, (bytS.getD i.val []).length ≤ 5 := by decide +kernel
theorem spN_iff {tp : List Int32} {b e i : Nat} (hi : i < 7) (hbe : b ≤ e) (he : e ≤ 160) : ¬ spN tp b e i = 0 ↔ sgm tp b (e - b) = bytS.getD i [] := by
  have h5 : (bytS.getD i []).length ≤ 5 := bytS_5 ⟨i, hi⟩
  unfold spN
  rw [show lenS.getD i 0 = (bytS.getD i []).length from bytS_len ⟨i, hi⟩, nI_sub hbe]
  by_cases q : (bytS.getD i []).length = e - b
  · rw [if_pos (by rw [q]), spL_iff]
    constructor
    · intro h
      refine ext_getD (sgm_len.trans q.symm) (fun c hc => ?_)
      rw [sgm_len] at hc
      have h3 := h c (Nat.zero_le _) (by omega)
      rw [nI_add, atF_nI tp (by omega)] at h3
      rw [sgm_get hc]
      exact h3.symm
    · intro h c _ hc
      rw [nI_add, atF_nI tp (by omega), ← sgm_get (n := e - b) (by omega), h]
      rfl
  · rw [if_neg (fun z => q (nI_inj (by omega) (by omega) z))]
    constructor
    · intro h; exact absurd rfl h
    · intro h
      exact absurd (by rw [← h, sgm_len]) q
theorem let_nat {c : Int32} (h : isLet c) : ∃ x, x < 26 ∧ c = nI (97 + x) := by
  have h1 := Int32.le_iff_toInt_le.mp h.1
  have h2 := Int32.le_iff_toInt_le.mp h.2
  rw [show (Int32.ofInt 97).toInt = 97 from by decide] at h1
  rw [show (Int32.ofInt 122).toInt = 122 from by decide] at h2
  refine ⟨c.toInt.toNat - 97, by omega, Int32.toInt_inj.mp ?_⟩
  rw [nI_toInt (by omega)]
  omega
abbrev isTh (s : List Int32) : Prop := s = WD 3 ∨ s = WD 4 ∨ s = WD 5 ∨ s = WD 6 ∨ s = WD 7
theorem th5 : ∀ x : Fin 26, (nI (97 + x.val) - 97 < 5 ↔ isTh [nI (97 + x.val)]) := by decide +kernel
theorem sgm_1 (tp : List Int32) (b : Nat) : sgm tp b 1 = [tp.getD b 0] := rfl
theorem thing_iff {tp : List Int32} {b e : Nat} (hbe : b < e) (he : e ≤ 160) (hL : isLet (tp.getD b 0)) : wThing tp b e ↔ isTh (sgm tp b (e - b)) := by
  unfold wThing
  rw [nI_sub (by omega), atF_nI tp (by omega)]
  obtain ⟨x, hx, ex⟩ := let_nat hL
  by_cases q : e - b = 1
  · rw [q, sgm_1, ex]
    exact (and_iff_right rfl).trans (th5 ⟨x, hx⟩)
  · constructor
    · intro h
      exact absurd (nI_inj (by omega) (by decide) h.1) q
    · intro h
      have hl : (sgm tp b (e - b)).length = 1 := by
        rcases h with h | h | h | h | h <;> rw [h] <;> rfl
      rw [sgm_len] at hl
      exact absurd hl q
def wsF (s : List Int32) : Int32 := if isTh s then 3 else if s = bytS.getD 0 [] then 3 else if s = bytS.getD 1 [] then 4 else if s = bytS.getD 2 [] then 5 else if s = bytS.getD 3 [] then 6
  else if s = bytS.getD 4 [] then 7 else if s = bytS.getD 5 [] then 8 else if s = bytS.getD 6 [] then 9 else 1
def wvF (s : List Int32) : Int32 := if isTh s then s.getD 0 0 - 97 else 5
theorem wSort_eq {tp : List Int32} {b e : Nat} (hbe : b < e) (he : e ≤ 160) (hL : isLet (tp.getD b 0)) : wSort tp b e = wsF (sgm tp b (e - b)) := by
  have s0 := spN_iff (tp := tp) (b := b) (e := e) (i := 0) (by decide) (by omega) he
  have s1 := spN_iff (tp := tp) (b := b) (e := e) (i := 1) (by decide) (by omega) he
  have s2 := spN_iff (tp := tp) (b := b) (e := e) (i := 2) (by decide) (by omega) he
  have s3 := spN_iff (tp := tp) (b := b) (e := e) (i := 3) (by decide) (by omega) he
  have s4 := spN_iff (tp := tp) (b := b) (e := e) (i := 4) (by decide) (by omega) he
  have s5 := spN_iff (tp := tp) (b := b) (e := e) (i := 5) (by decide) (by omega) he
  have s6 := spN_iff (tp := tp) (b := b) (e := e) (i := 6) (by decide) (by omega) he
  have sth := thing_iff hbe he hL
  unfold wSort wSp wsF
  by_cases q : isTh (sgm tp b (e - b))
  · rw [if_pos q, if_pos (sth.mpr q)]
  · rw [if_neg q, if_neg (fun z => q (sth.mp z))]
    simp only [s0, s1, s2, s3, s4, s5, s6]
theorem wVal_eq {tp : List Int32} {b e : Nat} (hbe : b < e) (he : e ≤ 160) (hL : isLet (tp.getD b 0)) : wVal tp b e = wvF (sgm tp b (e - b)) := by
  have sth := thing_iff hbe he hL
  unfold wVal wvF
  by_cases q : isTh (sgm tp b (e - b))
  · rw [if_pos q, if_pos (sth.mpr q), sgm_get (by omega), atF_nI tp (by omega)]
    rfl
  · rw [if_neg q, if_neg (fun z => q (sth.mp z))]
theorem wf_spec (ws tp : List Int32) (f t : Nat) : ∀ m k, m + k = 12 → (wfF ws tp f t m k < 12 ∧ lkF ws tp f t (wfF ws tp f t m k) = true) ∨ (wfF ws tp f t m k = 12 ∧ ∀ j, k ≤ j → j < 12 → ¬ lkF ws tp f t j = true)
  | 0, k, h => Or.inr ⟨rfl, fun j h1 h2 => by omega⟩
  | m + 1, k, h => by
    rw [wfF]
    by_cases q : lkF ws tp f t k = true
    · rw [if_pos q]
      exact Or.inl ⟨by omega, q⟩
    · rw [if_neg q]
      rcases wf_spec ws tp f t m (k + 1) (by omega) with h1 | ⟨h1, h2⟩
      · exact Or.inl h1
      · refine Or.inr ⟨h1, fun j h3 h4 => ?_⟩
        by_cases e : j = k
        · subst e; exact q
        · exact h2 j (by omega) h4
/-- a token of the class, and the reference's -/
def TR (s v tk w : Int32) : Prop := (s = 0 ∧ tk = 0) ∨ (s = 1 ∧ tk = -1) ∨ (s = 2 ∧ tk = 1 ∧ w = v) ∨ (s = 3 ∧ tk = 2 ∧ w = v) ∨ ((s = 4 ∨ s = 5 ∨ s = 6) ∧ tk = 3 ∧ w = s - 4) ∨ (s = 7 ∧ tk = 4) ∨ (s = 8 ∧ tk = 5) ∨ (s = 9 ∧ tk = 6) ∨ (tk = s ∧ sgC s = true)
theorem TR_wd : ∀ k : Fin 12, (wsF (WD k.val) = 3 ∧ tkV (nI k.val) = 2 ∧ vaV (nI k.val) = wvF (WD k.val)) ∨ ((wsF (WD k.val) = 4 ∨ wsF (WD k.val) = 5 ∨ wsF (WD k.val) = 6) ∧ tkV (nI k.val) = 3 ∧ vaV (nI k.val) = wsF (WD k.val) - 4) ∨ (wsF (WD k.val) = 7 ∧ tkV (nI k.val) = 4) ∨ (wsF (WD k.val) = 8 ∧ tkV (nI k.val) = 5) ∨ (wsF (WD k.val) = 9 ∧ tkV (nI k.val) = 6) := by decide +kernel
theorem bytS_WD : bytS.getD 0 [] = WD 8 ∧ bytS.getD 1 [] = WD 0 ∧ bytS.getD 2 [] = WD 1 ∧ bytS.getD 3 [] = WD 2 ∧ bytS.getD 4 [] = WD 9 ∧ bytS.getD 5 [] = WD 10 ∧ bytS.getD 6 [] = WD 11 := by decide +kernel
theorem wsF_no {s : List Int32} (h : ∀ k, k < 12 → ¬ s = WD k) : wsF s = 1 := by
  obtain ⟨b0, b1, b2, b3, b4, b5, b6⟩ := bytS_WD
  unfold wsF
  rw [b0, b1, b2, b3, b4, b5, b6]
  rw [if_neg (by rintro (z | z | z | z | z) <;> exact h _ (by decide) z), if_neg (h 8 (by decide)), if_neg (h 0 (by decide)), if_neg (h 1 (by decide)), if_neg (h 2 (by decide)), if_neg (h 9 (by decide)), if_neg (h 10 (by decide)), if_neg (h 11 (by decide))]
theorem word_al {tp tq : List Int32} {b e : Nat} (hbe : b < e) (he : e ≤ 160) (hL : ∀ j, b ≤ j → j < e → isLet (tp.getD j 0)) (hq : ∀ j, j < e → tp.getD j 0 = tq.getD j 0) :
    TR (wSort tp b e) (wVal tp b e) (tkV (nI (wfF WS tq b e 12 0))) (vaV (nI (wfF WS tq b e 12 0))) := by
  have es : sgm tp b (e - b) = sgm tq b (e - b) := by
    refine ext_getD (sgm_len.trans sgm_len.symm) (fun c hc => ?_)
    rw [sgm_len] at hc
    rw [sgm_get hc, sgm_get hc]
    exact hq _ (by omega)
  have hl : ∀ j, b ≤ j → j < e → ¬ tq.getD j 0 = 32 := fun j h1 h2 z => by
    have h3 := hL j h1 h2
    rw [hq j h2, z] at h3
    exact absurd h3.1 (by decide)
  have hb := hL b (Nat.le_refl _) hbe
  rw [wSort_eq hbe he hb, wVal_eq hbe he hb, es]
  rcases wf_spec WS tq b e 12 0 (by decide) with ⟨h1, h2⟩ | ⟨h1, h2⟩
  · have h3 := (lk_iff h1 (by omega) hl).mp h2
    rw [h3]
    rcases TR_wd ⟨_, h1⟩ with z | z | z | z | z
    · exact Or.inr (Or.inr (Or.inr (Or.inl z)))
    · exact Or.inr (Or.inr (Or.inr (Or.inr (Or.inl z))))
    · exact Or.inr (Or.inr (Or.inr (Or.inr (Or.inr (Or.inl z)))))
    · exact Or.inr (Or.inr (Or.inr (Or.inr (Or.inr (Or.inr (Or.inl z))))))
    · exact Or.inr (Or.inr (Or.inr (Or.inr (Or.inr (Or.inr (Or.inr (Or.inl z)))))))
  · rw [h1, wsF_no (fun k hk z => h2 k (Nat.zero_le _) hk ((lk_iff hk (by omega) hl).mpr z))]
    exact Or.inr (Or.inl ⟨rfl, by decide⟩)
theorem sg_al (c : Int32) : sgR c = sgC c := by
  by_cases h1 : c = 40
  · subst h1; rfl
  by_cases h2 : c = 41
  · subst h2; rfl
  by_cases h3 : c = 59
  · subst h3; rfl
  by_cases h4 : c = 43
  · subst h4; rfl
  by_cases h5 : c = 45
  · subst h5; rfl
  by_cases h6 : c = 42
  · subst h6; rfl
  by_cases h7 : c = 60
  · subst h7; rfl
  by_cases h8 : c = 61
  · subst h8; rfl
  have e : sgR c = false := (if_neg h1).trans ((if_neg h2).trans ((if_neg h3).trans ((if_neg h4).trans ((if_neg h5).trans ((if_neg h6).trans ((if_neg h7).trans (if_neg h8)))))))
  rw [e]
  unfold sgC
  simp [h1, h2, h3, h4, h5, h6, h7, h8]
theorem skR_al {tp tq : List Int32} {t : Nat} (h : ∀ j, j < t → tp.getD j 0 = tq.getD j 0) : ∀ m a, a + m ≤ t → skR tp m a = skR tq m a
  | 0, _, _ => rfl
  | m + 1, a, ha => by rw [skR, skR, h a (by omega), skR_al h m (a + 1) (by omega)]
theorem runW_al {tp tq : List Int32} {t : Nat} (h : ∀ j, j < t → tp.getD j 0 = tq.getD j 0) : ∀ m a, a + m ≤ t → runW tp m a = runW tq m a
  | 0, _, _ => rfl
  | m + 1, a, ha => by rw [runW, runW, h a (by omega), runW_al h m (a + 1) (by omega)]
theorem runW_let (tp : List Int32) : ∀ m a j, a ≤ j → j < runW tp m a → isLet (tp.getD j 0)
  | 0, a, j, h1, h2 => by rw [runW] at h2; omega
  | m + 1, a, j, h1, h2 => by
    rw [runW] at h2
    split at h2
    · rename_i q
      by_cases e : j = a
      · subst e; exact q
      · exact runW_let tp m (a + 1) j (by omega) h2
    · omega
theorem dg_al {tp tq : List Int32} {t : Nat} (h : ∀ j, j < t → tp.getD j 0 = tq.getD j 0) : ∀ m a n v w, a + m ≤ t → (dgR tq m a n v).1 = (dgC tp m a w).1 ∧ a ≤ (dgC tp m a w).1 ∧ (dgR tq m a n v).2.1 + a = n + (dgC tp m a w).1 ∧ ((dgR tq m a n v).2.1 ≤ 4 → v = w → (dgR tq m a n v).2.2 = (dgC tp m a w).2)
  | 0, a, n, v, w, _ => ⟨rfl, Nat.le_refl _, rfl, fun _ e => e⟩
  | m + 1, a, n, v, w, ha => by
    rw [dgR, dgC, ← h a (by omega)]
    by_cases q : isDig (tp.getD a 0)
    · rw [if_pos q, if_pos q]
      obtain ⟨i1, i2, i3, i4⟩ := dg_al h m (a + 1) (n + 1) (if Int32.ofInt 4 ≤ nI n then Int32.ofInt 0 else Int32.ofInt 10 * v + tp.getD a 0 - Int32.ofInt 48) (w * 10 + tp.getD a 0 - 48) (by omega)
      refine ⟨i1, by omega, by omega, fun h4 e => i4 h4 ?_⟩
      rw [if_neg (fun z => by
        have := (nI_leI (a := 4) (b := n) (by decide) (by omega)).mp z
        omega), e]
      rw [Int32.mul_comm]
      rfl
    · rw [if_neg q, if_neg q]
      exact ⟨rfl, Nat.le_refl _, rfl, fun _ e => e⟩
theorem lex_al {tp tq : List Int32} {t a : Nat} (h : ∀ j, j < t → tp.getD j 0 = tq.getD j 0) (ha : a ≤ t) (ht : t ≤ 160) :
    (nxtF WS tq t a).1 = (lexF tp t a).1 ∧ (nxtF WS tq t a).2.1 = (lexF tp t a).2.1 ∧ TR (lexF tp t a).2.2.1 (lexF tp t a).2.2.2 (nxtF WS tq t a).2.2.1 (nxtF WS tq t a).2.2.2 := by
  have h1 := skR_le tp (t - a) a
  unfold nxtF lexF
  rw [← skR_al h (t - a) a (by omega)]
  revert h1
  generalize skR tp (t - a) a = b
  intro h1
  unfold nextT clT
  by_cases q : b = t
  · rw [if_pos q, if_pos q]
    exact ⟨rfl, rfl, Or.inl ⟨rfl, rfl⟩⟩
  rw [if_neg q, if_neg q, ← h b (by omega)]
  by_cases q2 : isLet (tp.getD b 0)
  · rw [if_pos q2, if_pos q2, ← runW_al h (t - b) b (by omega)]
    refine ⟨rfl, rfl, word_al ?_ ?_ (fun j h3 h4 => runW_let tp _ _ j h3 h4) (fun j hj => h j ?_)⟩
    · obtain ⟨m, hm⟩ : ∃ m, t - b = m + 1 := ⟨t - b - 1, by omega⟩
      rw [hm, runW, if_pos q2]
      have := runW_ge tp m (b + 1)
      omega
    · have := runW_le tp (t - b) b
      omega
    · have := runW_le tp (t - b) b
      omega
  rw [if_neg q2, if_neg q2]
  by_cases q3 : isDig (tp.getD b 0)
  · rw [if_pos q3, if_pos q3]
    obtain ⟨i1, i2, i3, i4⟩ := dg_al h (t - b) b 0 (Int32.ofInt 0) 0 (by omega)
    have i5 := dgC_le tp (t - b) b 0
    refine ⟨rfl, i1, ?_⟩
    show TR (nSort b (dgC tp (t - b) b 0).1) (dgC tp (t - b) b 0).2 (if nI (dgR tq (t - b) b 0 (Int32.ofInt 0)).2.1 ≤ Int32.ofInt 4 then Int32.ofInt 1 else Int32.ofInt (-1)) (dgR tq (t - b) b 0 (Int32.ofInt 0)).2.2
    unfold nSort
    rw [nI_sub i2]
    have e1 : (nI ((dgC tp (t - b) b 0).1 - b) ≤ 4 ↔ (dgC tp (t - b) b 0).1 - b ≤ 4) := nI_leI (b := 4) (by omega) (by decide)
    have e2 : (nI (dgR tq (t - b) b 0 (Int32.ofInt 0)).2.1 ≤ Int32.ofInt 4 ↔ (dgR tq (t - b) b 0 (Int32.ofInt 0)).2.1 ≤ 4) := nI_leI (b := 4) (by omega) (by decide)
    by_cases q4 : (dgR tq (t - b) b 0 (Int32.ofInt 0)).2.1 ≤ 4
    · rw [if_pos (e1.mpr (by omega)), if_pos (e2.mpr q4)]
      exact Or.inr (Or.inr (Or.inl ⟨rfl, rfl, i4 q4 rfl⟩))
    · rw [if_neg (fun z => q4 (by have := e1.mp z; omega)), if_neg (fun z => q4 (e2.mp z))]
      exact Or.inr (Or.inl ⟨rfl, rfl⟩)
  · rw [if_neg q3, if_neg q3]
    refine ⟨rfl, rfl, ?_⟩
    show TR (if sgC (tp.getD b 0) = true then tp.getD b 0 else 1) 0 (if sgR (tp.getD b 0) = true then tp.getD b 0 else Int32.ofInt (-1)) (Int32.ofInt 0)
    rw [sg_al]
    by_cases q4 : sgC (tp.getD b 0) = true
    · rw [if_pos q4, if_pos q4]
      exact Or.inr (Or.inr (Or.inr (Or.inr (Or.inr (Or.inr (Or.inr (Or.inr ⟨rfl, q4⟩)))))))
    · rw [if_neg q4, if_neg q4]
      exact Or.inr (Or.inl ⟨rfl, rfl⟩)
end LEXAL
