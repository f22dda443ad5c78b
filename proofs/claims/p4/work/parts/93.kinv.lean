/-! THE CLASS in general: what always holds of it; calls without loops return and keep it -/
section KINV
variable {l : Launch} {X : List (List Int32)} {S : CS} {T : AH} {hp : AH} {nt ns nk ta : Nat}
def KI (S : CS) (nt ns nk ta : Nat) : Prop := CInv S nt ns nk ∧ TxInv S ∧ (S.1 11 = nI ta ∧ ta ≤ 160) ∧ ∃ a b : Nat, S.1 173 = nI a ∧ a ≤ 5 ∧ S.1 174 = nI b ∧ b ≤ 12
abbrev KC (S : CS) : Prop := ∃ nt ns nk ta, KI S nt ns nk ta
abbrev kcQ (T : AH) : AH → Option Value → Prop := fun h w => (∃ S, KC S ∧ h = encC S ++ T) ∧ ∃ v : Int32, w = some (.int v)
abbrev kcL (T : AH) : AH → Option Value → Prop := fun h w => (∃ S, KC S ∧ h = encC S ++ T) ∧ ∃ v : Int64, w = some (.long v)
/-- a query: only what its best question is has changed -/
abbrev kqQ (S : CS) (T : AH) : AH → Option Value → Prop := fun h w => (∃ B, h = encC (setB S B) ++ T) ∧ ∃ v : Int32, w = some (.int v)
abbrev kqL (S : CS) (T : AH) : AH → Option Value → Prop := fun h w => (∃ B, h = encC (setB S B) ++ T) ∧ ∃ v : Int64, w = some (.long v)
theorem lq (_ : KC S) {v : Int32} : kqQ S T (encC S ++ T) (some (.int v)) := ⟨⟨getB S, rfl⟩, v, rfl⟩
theorem lqL (_ : KC S) {v : Int64} : kqL S T (encC S ++ T) (some (.long v)) := ⟨⟨getB S, rfl⟩, v, rfl⟩
theorem lqB (B : BQ) {v : Int32} : kqQ S T (encC (setB S B) ++ T) (some (.int v)) := ⟨⟨B, rfl⟩, v, rfl⟩
theorem lqBL (B : BQ) {v : Int64} : kqL S T (encC (setB S B) ++ T) (some (.long v)) := ⟨⟨B, rfl⟩, v, rfl⟩
theorem KC.setB (h : KC S) (B : BQ) : KC (setB S B) := h
theorem K_ans {d : Nat} {g : Sig} {a : List Value} {v : Int32} (h : KC S) (q : Ans l d X g a (encC S ++ T) v) : Ctr l d X g a (encC S ++ T) (kqQ S T) := q.weak (by
  rintro hp w ⟨rfl, rfl⟩
  exact ⟨⟨getB S, rfl⟩, _, rfl⟩)
theorem K_ansL {d : Nat} {g : Sig} {a : List Value} {v : Int64} (h : KC S) (q : AnsL l d X g a (encC S ++ T) v) : Ctr l d X g a (encC S ++ T) (kqL S T) := q.weak (by
  rintro hp w ⟨rfl, rfl⟩
  exact ⟨⟨getB S, rfl⟩, _, rfl⟩)
theorem K_worlds (h : KC S) : Ctr l 7 X sgX7_worlds [.ref 0] (encC S ++ T) (kqL S T) := let ⟨_, _, _, _, q⟩ := h; K_ansL h (c_worlds q.1)
theorem K_cannot (h : KC S) : Ctr l 5 X sgX7_cannot [.ref 0] (encC S ++ T) (kqQ S T) := let ⟨_, _, _, _, q⟩ := h; K_ans h (c_cannot q.1)
theorem K_lies (h : KC S) : Ctr l 7 X sgX7_lies [.ref 0] (encC S ++ T) (kqQ S T) := let ⟨_, _, _, _, q⟩ := h; K_ans h (c_lies q.1)
theorem K_least (h : KC S) (what : Int32) : Ctr l 6 X sgX7_least [.ref 0, .int what] (encC S ++ T) (kqQ S T) := let ⟨_, _, _, _, q⟩ := h; K_ans h (c_least q.1 what)
theorem K_mad (h : KC S) (what : Int32) : Ctr l 6 X sgX7_mad [.ref 0, .int what] (encC S ++ T) (kqQ S T) := let ⟨_, _, _, _, q⟩ := h; K_ans h (c_mad q.1 what)
theorem K_kinds (h : KC S) (s w : Int32) : Ctr l 5 X sgX7_kinds [.ref 0, .int s, .int w] (encC S ++ T) (kqQ S T) := let ⟨_, _, _, _, q⟩ := h; K_ans h (c_kinds q.1 s w)
theorem K_ask (h : KC S) (what : Int32) : Ctr l 7 X sgX7_ask [.ref 0, .int what] (encC S ++ T) (kqQ S T) := by
  obtain ⟨nt, ns, nk, ta, q⟩ := h
  refine (c_ask q.1 what).weak ?_
  rintro hp w ⟨⟨B, rfl⟩, rfl⟩
  exact ⟨⟨B, rfl⟩, _, rfl⟩
theorem KC.len (h : KC S) : CLen S := let ⟨_, _, _, _, q⟩ := h; q.1.1
theorem lk0 (h : KC S) : ∃ S', KC S' ∧ encC S ++ T = encC S' ++ T := ⟨S, h, rfl⟩
theorem lk (h : KC S) {v : Int32} : kcQ T (encC S ++ T) (some (.int v)) := ⟨lk0 h, v, rfl⟩
theorem lkL (h : KC S) {v : Int64} : kcL T (encC S ++ T) (some (.long v)) := ⟨lk0 h, v, rfl⟩
set_option maxRecDepth 100000 in
theorem K_count (h : KC S) (v : Int32) : Ctr l 0 X sgX7_count [.ref 0, .int v] (encC S ++ T) (kqQ S T) :=
  Ctr.of okX7_count rfl (Nat.le_of_ble_eq_true rfl) (run_sound okX7_count noCut 100 (And.intro (fun _ => lq h) (And.intro (fun _ => lq h) (And.intro (fun _ => lq h) (And.intro (fun _ => lq h) (And.intro (fun _ => lq h) (And.intro (fun _ => lq h) trivial)))))))
set_option maxRecDepth 100000 in
theorem K_force (h : KC S) (t : Int32) : Ctr l 2 X sgX7_force [.ref 0, .int t] (encC S ++ T) (kcQ T) := by
  refine Ctr.of okX7_force rfl (Nat.le_of_ble_eq_true rfl) (run_sound okX7_force noCut 100 ?_)
  exact kH (c_isText t) (by decide) (brB' (fun q => lk h) (fun q => And.intro trivial ⟨⟨cN S 135 t, h, rfl⟩, _, rfl⟩))
set_option maxRecDepth 100000 in
theorem K_asks (h : KC S) (t w who part : Int32) : Ctr l 2 X sgX7_asks [.ref 0, .int t, .int w, .int who, .int part] (encC S ++ T) (kqQ S T) := by
  have hL := h.len
  refine Ctr.of okX7_asks rfl (Nat.le_of_ble_eq_true rfl) (run_sound okX7_asks noCut 100 ?_)
  exact kH (c_isText t) (by decide) (brB' (fun q => lq h) (fun q => kH (c_isWorld w) (by decide) (brB' (fun q2 => lq h) (fun q2 => kH (c_isBelow who 5) (by decide) (brB' (fun q3 => lq h) (fun q3 => kH (c_isBelow part 3) (by decide) (brB' (fun q4 => lq h) (fun q4 => br (fun _ => kH (c_costOf hL t who) (by decide) (lq h)) (fun _ => kH (c_side hL t who part) (by decide) (kH (c_bit _ _) (by decide) (lq h)))))))))))
set_option maxRecDepth 100000 in
theorem K_means (h : KC S) (t part : Int32) : Ctr l 2 X sgX7_means [.ref 0, .int t, .int part] (encC S ++ T) (kqL S T) := by
  have hL := h.len
  refine Ctr.of okX7_means rfl (Nat.le_of_ble_eq_true rfl) (run_sound okX7_means noCut 100 ?_)
  exact kH (c_isText t) (by decide) (brB' (fun q => ⟨rfl, lqL h⟩) (fun q => kH (c_isBelow part 2) (by decide) (brB' (fun q2 => ⟨rfl, lqL h⟩) (fun q2 => kH (c_side hL t 0 part) (by decide) (kH (c_bits _) (by decide) ⟨rfl, lqL h⟩)))))
theorem KI.rows {a b : List Int32} {i j : Nat} (h : KI S nt ns nk ta) (hi : 8 ≤ i) (hj : 8 ≤ j) (ha : a.length ≤ 1000) (hb : b.length ≤ 1000) : KI (cR (cR S i a) j b) nt ns nk ta := by
  obtain ⟨⟨hL, h1⟩, ⟨t4, t5, t6, t60, t7⟩, h3⟩ := h
  have e : ∀ k, k ≤ 7 → (cR (cR S i a) j b).2 k = S.2 k := by
    intro k hk
    show uf (uf S.2 i a) j b k = S.2 k
    unfold uf
    rw [if_neg (by omega), if_neg (by omega)]
  refine ⟨⟨(hL.row i a ha).row j b hb, h1⟩, ?_, h3⟩
  unfold TxInv
  rw [e 4 (by decide), e 5 (by decide), e 6 (by decide), e 7 (by decide)]
  exact ⟨t4, t5, t6, t60, t7⟩
theorem KI.row {a : List Int32} {i : Nat} (h : KI S nt ns nk ta) (hi : 8 ≤ i) (ha : a.length ≤ 1000) : KI (cR S i a) nt ns nk ta := by
  obtain ⟨⟨hL, h1⟩, ⟨t4, t5, t6, t60, t7⟩, h3⟩ := h
  have e : ∀ k, k ≤ 7 → (cR S i a).2 k = S.2 k := by
    intro k hk
    show uf S.2 i a k = S.2 k
    unfold uf
    rw [if_neg (by omega)]
  refine ⟨⟨hL.row i a ha, h1⟩, ?_, h3⟩
  unfold TxInv
  rw [e 4 (by decide), e 5 (by decide), e 6 (by decide), e 7 (by decide)]
  exact ⟨t4, t5, t6, t60, t7⟩
set_option maxRecDepth 100000 in
theorem K_speaker (h : KC S) (k m : Int32) : Ctr l 2 X sgX7_speaker [.ref 0, .int k, .int m] (encC S ++ T) (kcQ T) := by
  obtain ⟨nt, ns, nk, ta, q⟩ := id h
  have hL := h.len
  have hs : S.1 133 = nI ns := q.1.2.2.2.1
  have h5 : ns ≤ 5 := q.1.2.2.2.2.1
  refine Ctr.of okX7_speaker rfl (Nat.le_of_ble_eq_true rfl) (run_sound okX7_speaker noCut 200 ?_)
  refine kH (c_isKind k) (by decide) (brB' (fun _ => lk h) (fun _ => kH (c_isMore m) (by decide) (brB' (fun _ => lk h) (fun _ => br (fun y => kH (c_become13 hL _ k m) (by decide) ?_) (fun y => lk h)))))
  have h4 : ns < 5 := by
    have y : S.1 133 < 5 := y
    rw [hs] at y
    have y := Int32.lt_iff_toInt_lt.mp y
    rw [nI_toInt (by omega)] at y
    have e : (5 : Int32).toInt = 5 := by decide
    omega
  refine And.intro rfl (And.intro trivial ⟨⟨cN (cR (cR S 14 (putF (S.2 14) (S.1 133) k)) 15 (putF (S.2 15) (S.1 133) m)) 133 (S.1 133 + Int32.ofInt 1), ?_, rfl⟩, _, rfl⟩)
  have q' := q.rows (i := 14) (j := 15) (a := putF (S.2 14) (S.1 133) k) (b := putF (S.2 15) (S.1 133) m) (by decide) (by decide) (by rw [putF_len]; exact hL 14) (by rw [putF_len]; exact hL 15)
  obtain ⟨⟨c1, c2, c3, c4, c5, c6⟩, r2⟩ := q'
  exact ⟨nt, ns + 1, nk, ta, ⟨c1, c2, c3, (by show S.1 133 + Int32.ofInt 1 = nI (ns + 1); rw [hs]; exact nI_1 ns), by omega, c6⟩, r2⟩
set_option maxRecDepth 100000 in
theorem K_turn (h : KC S) (s k m : Int32) : Ctr l 2 X sgX7_turn [.ref 0, .int s, .int k, .int m] (encC S ++ T) (kcQ T) := by
  obtain ⟨nt, ns, nk, ta, q⟩ := id h
  have hL := h.len
  refine Ctr.of okX7_turn rfl (Nat.le_of_ble_eq_true rfl) (run_sound okX7_turn noCut 200 ?_)
  refine kH (c_isSpeaker s) (by decide) (brB' (fun _ => lk h) (fun _ => kH (c_isKind k) (by decide) (brB' (fun _ => lk h) (fun _ => kH (c_isMore m) (by decide) (brB' (fun _ => lk h) (fun _ => kH (c_at (xs := S.2 14) rfl (hL.lt 14)) (by decide) (kH (c_become13 hL s k m) (by decide) ?_)))))))
  exact ⟨⟨_, ⟨nt, ns, nk, ta, q.rows (i := 14) (j := 15) (a := putF (S.2 14) s k) (b := putF (S.2 15) s m) (by decide) (by decide) (by rw [putF_len]; exact hL 14) (by rw [putF_len]; exact hL 15)⟩, rfl⟩, _, rfl⟩
set_option maxRecDepth 100000 in
theorem K_told (h : KC S) (s what : Int32) : Ctr l 2 X sgX7_told [.ref 0, .int s, .int what] (encC S ++ T) (kqQ S T) := by
  have hL := h.len
  refine Ctr.of okX7_told rfl (Nat.le_of_ble_eq_true rfl) (run_sound okX7_told noCut 200 ?_)
  exact kH (c_isSpeaker s) (by decide) (brB' (fun _ => lq h) (fun _ => And.intro (fun _ => lq h) (And.intro (fun _ => kH (c_at (xs := S.2 14) rfl (hL.lt 14)) (by decide) (lq h)) (And.intro (fun _ => kH (c_at (xs := S.2 15) rfl (hL.lt 15)) (by decide) (lq h)) (And.intro (fun _ => kH (c_at (xs := S.2 14) rfl (hL.lt 14)) (by decide) (br (fun _ => lq h) (fun _ => lq h))) trivial)))))
set_option maxRecDepth 100000 in
theorem K_said (h : KC S) (k what : Int32) : Ctr l 2 X sgX7_said [.ref 0, .int k, .int what] (encC S ++ T) (kqQ S T) := by
  have hL := h.len
  refine Ctr.of okX7_said rfl (Nat.le_of_ble_eq_true rfl) (run_sound okX7_said noCut 200 ?_)
  exact kH (c_isBelow k (S.1 134)) (by decide) (brB' (fun _ => lq h) (fun _ => kH (c_isBelow what 3) (by decide) (brB' (fun _ => lq h) (fun _ => kH (c_sayingPart hL k what) (by decide) (lq h)))))
set_option maxRecDepth 100000 in
theorem K_parts (h : KC S) (s t what : Int32) : Ctr l 7 X sgX7_parts [.ref 0, .int s, .int t, .int what] (encC S ++ T) (kqL S T) := by
  obtain ⟨nt, ns, nk, ta, q⟩ := id h
  have hL := h.len
  refine Ctr.of okX7_parts rfl (Nat.le_of_ble_eq_true rfl) (run_sound okX7_parts noCut 200 ?_)
  exact kH (c_isSpeaker s) (by decide) (brB' (fun _ => ⟨rfl, lqL h⟩) (fun _ => kH (c_isText t) (by decide) (brB' (fun _ => ⟨rfl, lqL h⟩) (fun _ => kH (c_fitting q.1) (by decide) (kH (c_sayableNext hL s t 0 (S.1 134)) (by decide) (kH (c_sayableNext hL s t 1 (S.1 134)) (by decide) (And.intro (fun _ => ⟨rfl, lqL h⟩) (And.intro (fun _ => kH (c_bits _) (by decide) ⟨rfl, lqL h⟩) (And.intro (fun _ => kH (c_bits _) (by decide) ⟨rfl, lqL h⟩) (And.intro (fun _ => kH (c_bits _) (by decide) ⟨rfl, lqL h⟩) (And.intro (fun _ => kH (c_bits _) (by decide) ⟨rfl, lqL h⟩) trivial)))))))))))
set_option maxRecDepth 100000 in
theorem K_same (h : KC S) (t u what : Int32) : Ctr l 7 X sgX7_same [.ref 0, .int t, .int u, .int what] (encC S ++ T) (kqQ S T) := by
  obtain ⟨nt, ns, nk, ta, q⟩ := id h
  have hL := h.len
  refine Ctr.of okX7_same rfl (Nat.le_of_ble_eq_true rfl) (run_sound okX7_same noCut 100 ?_)
  exact kH (c_isText t) (by decide) (brB' (fun _ => lq h) (fun _ => kH (c_isText u) (by decide) (brB' (fun _ => lq h) (fun _ => kH (c_isBelow what 2) (by decide) (brB' (fun _ => lq h) (fun _ => br (fun _ => kH (c_fitting q.1) (by decide) (kH (c_onceOf hL t) (by decide) (kH (c_onceOf hL u) (by decide) (br (fun _ => lq h) (fun _ => lq h))))) (fun _ => kH (c_onceOf hL t) (by decide) (kH (c_onceOf hL u) (by decide) (br (fun _ => lq h) (fun _ => lq h))))))))))
set_option maxRecDepth 100000 in
theorem K_thrice (h : KC S) (t u v : Int32) : Ctr l 7 X sgX7_thrice [.ref 0, .int t, .int u, .int v] (encC S ++ T) (kqL S T) := by
  obtain ⟨nt, ns, nk, ta, q⟩ := id h
  have hL := h.len
  refine Ctr.of okX7_thrice rfl (Nat.le_of_ble_eq_true rfl) (run_sound okX7_thrice noCut 200 ?_)
  exact kH (c_isText t) (by decide) (brB' (fun _ => ⟨rfl, lqL h⟩) (fun _ => kH (c_isText u) (by decide) (brB' (fun _ => ⟨rfl, lqL h⟩) (fun _ => kH (c_isText v) (by decide) (brB' (fun _ => ⟨rfl, lqL h⟩) (fun _ => kH (c_onceOf hL t) (by decide) (kH (c_onceOf hL u) (by decide) (kH (c_onceOf hL v) (by decide) (kH (c_onceOf hL t) (by decide) (kH (c_onceOf hL u) (by decide) (kH (c_onceOf hL v) (by decide) (kH (c_fitting q.1) (by decide) (kH (c_bits _) (by decide) ⟨rfl, lqL h⟩)))))))))))))
end KINV
