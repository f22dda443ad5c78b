/-! BOTH SIDES ALIKE: a text more -/
section KRV
variable {l : Launch} {X : List (List Int32)} {S S' : CS} {T : AH} {M M' : MS} {nt ns nk ta : Nat}
def txA (S : CS) (t n : Nat) : Int32 := if n = 6 then -4 else if (RT S t).1 = true then nI n else -100 - nI (RT S t).2.1.1.1
def TxC (S : CS) (t n : Nat) (S' : CS) : Prop := (n = 6 → S' = S) ∧ (n < 6 → ∃ r4 r5, CR r4 r5 (RT S t).2.1.2 ∧ ((RT S t).1 = false → S' = txS S t r4 r5) ∧ ((RT S t).1 = true → ∃ r7 m, r7.length = 160 ∧ S' = okS S t r4 r5 r7 m))
theorem P_text (h : KI S nt ns nk ta) : Ctr l 55 X sgX7_text [.ref 0] (encC S ++ T) (keQ T (TxC S ta nt) (txA S ta nt)) := by
  refine (c_text h.1.1 h.2.1 h.2.2.1.1 h.2.2.1.2 h.1.2.1 h.1.2.2.1.2).weak ?_
  rintro hp w ⟨h6, hlt⟩
  have hn6 := h.1.2.2.1.2
  by_cases e : nt = 6
  · obtain ⟨rfl, rfl⟩ := h6 e
    exact ke ⟨fun _ => rfl, fun z => absurd e (by omega)⟩ (if_pos e).symm
  · obtain ⟨r4, r5, hcr, hf, ht⟩ := hlt (by omega)
    cases hb : (RT S ta).1 with
    | false =>
      obtain ⟨rfl, rfl⟩ := hf hb
      refine ke ⟨fun z => absurd z e, fun _ => ⟨r4, r5, hcr, fun _ => rfl, fun z => by rw [hb] at z; cases z⟩⟩ ?_
      unfold txA
      rw [if_neg e, if_neg (by rw [hb]; decide)]
    | true =>
      obtain ⟨-, r7, m, h7, rfl, rfl⟩ := ht hb
      refine ke ⟨fun z => absurd z e, fun _ => ⟨r4, r5, hcr, fun z => (by rw [hb] at z; cases z), fun _ => ⟨r7, m, h7, rfl⟩⟩⟩ ?_
      unfold txA
      rw [if_neg e, if_pos hb]
abbrev WT (M : MS) (ta nt : Nat) : TS := txL (M.2.1 25) (M.2.1 5) ta nt 3 0 (true, 0, M.1 22, [], M.2.1 8)
abbrev ET (M : MS) (ta nt : Nat) : Bool × Int32 := txE (M.2.1 25) (M.2.1 5) ta (WT M ta nt)
def txB (M : MS) (ta nt : Nat) : Int32 := if nt = 6 then -4 else if (ET M ta nt).1 = true then nI nt else -100 - (ET M ta nt).2
def txN (M : MS) (nt : Nat) (W : TS) (e : Bool × Int32) (a tk v hm op : Int32) (cd hd : List Int32) : MS := mR (pM (xM (mN (mN M 6 (Int32.ofInt 0)) 9 (if e.1 = true then nI (nt + 1) else nI nt)) a e.2 tk v) cd hd hm op (nI W.2.2.2.1.length)) 8 (W.2.2.2.2.set (4 * nt + 3) (nI W.2.2.2.1.length))
def TxM (M : MS) (ta nt : Nat) (M' : MS) : Prop := (nt = 6 → M' = M) ∧ (nt < 6 → ∃ a tk v hm op cd hd, OutR (M.2.1 7) cd nt (WT M ta nt).2.2.2.1 ∧ hd.length = 200 ∧ M' = txN M nt (WT M ta nt) (ET M ta nt) a tk v hm op cd hd)
abbrev reQ (S : CS) (P : MS → Prop) (v : Int32) : AH → Option Value → Prop := fun h w => (∃ M', P M' ∧ h = mk S M') ∧ w = some (.int v)
set_option maxRecDepth 100000 in
theorem G_text (h : RInv M nt ns nk ta) : Ctr l 4 X sgX8_text [.ref 27] (mk S M) (reQ S (TxM M ta nt) (txB M ta nt)) := by
  obtain ⟨⟨hM, hO, ⟨h9, h91, h96⟩, h0, h3, -⟩, ⟨hta, hta2⟩, hs, hi⟩ := h
  by_cases e : nt = 6
  · refine Ctr.of okX8_text rfl (Nat.le_of_ble_eq_true rfl) (run_sound okX8_text noCut 40 (brT (show M.1 9 = 6 by rw [h9, e]; rfl) ⟨⟨M, ⟨fun _ => rfl, fun z => absurd e (by omega)⟩, rfl⟩, some_int ?_⟩))
    exact (if_pos e).symm
  · refine (m_text hM hta hta2 h9 (by omega)).weak ?_
    rintro hp w ⟨⟨a, cd, hd, hm, op, tk, v, ho, hhd, rfl⟩, rfl⟩
    refine ⟨⟨_, ⟨fun z => absurd z e, fun _ => ⟨a, tk, v, hm, op, cd, hd, ho, hhd, rfl⟩⟩, rfl⟩, some_int ?_⟩
    unfold txB
    rw [if_neg e]
    rfl
set_option maxRecDepth 100000 in
set_option maxHeartbeats 1000000 in
theorem txN_R (h : RInv M nt ns nk ta) (h6 : nt < 6) {a tk v hm op : Int32} {cd hd : List Int32} (ho : OutR (M.2.1 7) cd nt (WT M ta nt).2.2.2.1) (hhd : hd.length = 200) {M' : MS} (eM : M' = txN M nt (WT M ta nt) (ET M ta nt) a tk v hm op cd hd) :
    RInv M' (if (ET M ta nt).1 = true then nt + 1 else nt) ns nk 0 ∧ ∀ t, t < nt → ∀ p, p < 3 → segM M' t p = segM M t p := by
  obtain ⟨hm', ⟨hta, hta2⟩, hs, hi⟩ := h
  obtain ⟨hM, hO, ⟨h9, h91, h96⟩, h0, h3, ⟨r, hr, er⟩, hk5, htk⟩ := hm'
  have hle := txL_le (ws := M.2.1 25) (tp := M.2.1 5) (tx := nt) 3 0 (true, 0, M.1 22, [], M.2.1 8) (Nat.zero_le ta) (Nat.zero_le 0)
  have h24 : (M.2.1 8).length = 24 := hM.2.2.2.2.2.1
  have h7 : (M.2.1 7).length = 1200 := hM.2.2.2.2.1
  have more := fun (M' : MS) (h : AllOk M nt) (hT : (txL (M.2.1 25) (M.2.1 5) ta nt 3 0 (true, 0, M.1 22, [], M.2.1 8)).1 = true) => h.more (M' := M') (tx := nt) (t := ta) h6 hta2 h7 h24 hT
  unfold ET at eM ⊢
  unfold WT at ho eM ⊢
  unfold txN at eM
  have hE : (txE (M.2.1 25) (M.2.1 5) ta (txL (M.2.1 25) (M.2.1 5) ta nt 3 0 (true, 0, M.1 22, [], M.2.1 8))).1 = true → (txL (M.2.1 25) (M.2.1 5) ta nt 3 0 (true, 0, M.1 22, [], M.2.1 8)).1 = true := by
    intro q
    cases q2 : (txL (M.2.1 25) (M.2.1 5) ta nt 3 0 (true, 0, M.1 22, [], M.2.1 8)).1 with
    | true => rfl
    | false =>
      rw [txE, if_neg (by rw [q2]; decide)] at q
      exact absurd q Bool.false_ne_true
  generalize txL (M.2.1 25) (M.2.1 5) ta nt 3 0 (true, 0, M.1 22, [], M.2.1 8) = W at hle more ho hE eM ⊢
  generalize txE (M.2.1 25) (M.2.1 5) ta W = e at hE eM ⊢
  obtain ⟨i1, i2, i3, i4⟩ := hle
  have i3 : W.2.2.2.2.length = 24 := i3.trans h24
  have i4 : ∀ j, j < 4 * nt → W.2.2.2.2.getD j 0 = (M.2.1 8).getD j 0 := i4
  have hML : MLen M' := by
    subst eM
    obtain ⟨a1, a2, a3, a4, a5, a6, a7, a8, a9, a10, a11, a12, a13, a14, a15, a16, a17, a18⟩ := hM
    exact ⟨a1, a2, a3, a4, ho.1, (show (W.2.2.2.2.set (4 * nt + 3) (nI W.2.2.2.1.length)).length = 24 by rw [List.length_set]; exact i3), a7, a8, a9, a10, a11, a12, a13, hhd, a15, a16, a17, a18⟩
  have g8 : ∀ j, j < 4 * nt → (M'.2.1 8).getD j 0 = (M.2.1 8).getD j 0 := fun j hj => by
    subst eM
    show (W.2.2.2.2.set (4 * nt + 3) (nI W.2.2.2.1.length)).getD j 0 = _
    rw [getD_set_ne (by omega)]
    exact i4 j hj
  have g7 : ∀ j, j < 200 * nt → (M'.2.1 7).getD j 0 = (M.2.1 7).getD j 0 := fun j hj => by
    subst eM
    exact ho.2.1 j hj
  have l7 : (M'.2.1 7).length = (M.2.1 7).length := by
    subst eM
    exact ho.1.trans h7.symm
  have keep : AllOk M' nt := fun t ht p hp => (hO t ht p hp).of_eq (fun j hj => g8 j (by omega)) hp l7 (by rw [h7]; omega) (fun j hj => g7 j (by omega))
  have segs : ∀ t, t < nt → ∀ p, p < 3 → segM M' t p = segM M t p := fun t ht p hp => by
    obtain ⟨a, b, e1, e2, hab, hb, -⟩ := hO t ht p hp
    unfold segM
    rw [g8 (4 * t + p) (by omega), g8 (4 * t + p + 1) (by omega), e1, e2, nI_clamp (by omega), nI_clamp (by omega)]
    exact seg_eq (K := 200 * nt) l7 g7 (by omega) (by rw [h7]; omega)
  refine ⟨?_, segs⟩
  cases he : e.1 with
  | true =>
    rw [if_pos rfl]
    refine ⟨⟨hML, ?_, ?_, ?_, ?_, ?_, ?_, ?_⟩, ?_, ?_, ?_⟩
    · subst eM
      exact more _ hO (hE he) (by omega) ho rfl
    · subst eM
      exact ⟨if_pos he, by omega, by omega⟩
    · subst eM; exact h0
    · subst eM; exact h3
    · subst eM; exact ⟨r, by omega, er⟩
    · subst eM; exact hk5
    · subst eM; exact htk.mono (by omega)
    · subst eM; exact ⟨rfl, Nat.zero_le _⟩
    · subst eM; exact hs
    · subst eM; exact hi.mono (by omega)
  | false =>
    rw [if_neg Bool.false_ne_true]
    refine ⟨⟨hML, keep, ?_, ?_, ?_, ?_, ?_, ?_⟩, ?_, ?_, ?_⟩
    · subst eM
      exact ⟨if_neg (by rw [he]; decide), by omega, by omega⟩
    · subst eM; exact h0
    · subst eM; exact h3
    · subst eM; exact ⟨r, by omega, er⟩
    · subst eM; exact hk5
    · subst eM; exact htk
    · subst eM; exact ⟨rfl, Nat.zero_le _⟩
    · subst eM; exact hs
    · subst eM; exact hi
end KRV
