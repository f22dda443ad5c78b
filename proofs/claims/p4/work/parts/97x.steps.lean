/-! EACH CALL, on both sides, one behind the other -/
section STEPS
variable {l : Launch} {X : List (List Int32)} {S : CS} {M : MS} {dc dm : Nat} {gc gm' : Sig} {ac am : List Value}
abbrev REL (S : CS) (M : MS) : Prop := RI M ∧ KR S M
/-- both return numbers, and all stays alike -/
def StN (l : Launch) (X : List (List Int32)) (S : CS) (M : MS) (dc : Nat) (gc : Sig) (ac : List Value) (dm : Nat) (gm' : Sig) (am : List Value) : Prop :=
  ∃ P : CS → Prop, Ctr l dc X gc ac (mk S M) (fun h w => (∃ S', P S' ∧ h = mk S' M) ∧ ∃ v : Int32, w = some (.int v)) ∧ ∀ S', P S' → Ctr l dm X gm' am (mk S' M) (fun h w => (∃ M', REL S' M' ∧ h = mk S' M') ∧ ∃ v : Int32, w = some (.int v))
/-- the same number -/
def StE (l : Launch) (X : List (List Int32)) (S : CS) (M : MS) (dc : Nat) (gc : Sig) (ac : List Value) (dm : Nat) (gm' : Sig) (am : List Value) : Prop :=
  ∃ (P : CS → Prop) (v : Int32), Ctr l dc X gc ac (mk S M) (fun h w => (∃ S', P S' ∧ h = mk S' M) ∧ w = some (.int v)) ∧ ∀ S', P S' → Ctr l dm X gm' am (mk S' M) (fun h w => (∃ M', REL S' M' ∧ h = mk S' M') ∧ w = some (.int v))
def StNL (l : Launch) (X : List (List Int32)) (S : CS) (M : MS) (dc : Nat) (gc : Sig) (ac : List Value) (dm : Nat) (gm' : Sig) (am : List Value) : Prop :=
  ∃ P : CS → Prop, Ctr l dc X gc ac (mk S M) (fun h w => (∃ S', P S' ∧ h = mk S' M) ∧ ∃ v : Int64, w = some (.long v)) ∧ ∀ S', P S' → Ctr l dm X gm' am (mk S' M) (fun h w => (∃ M', REL S' M' ∧ h = mk S' M') ∧ ∃ v : Int64, w = some (.long v))
def StEL (l : Launch) (X : List (List Int32)) (S : CS) (M : MS) (dc : Nat) (gc : Sig) (ac : List Value) (dm : Nat) (gm' : Sig) (am : List Value) : Prop :=
  ∃ (P : CS → Prop) (v : Int64), Ctr l dc X gc ac (mk S M) (fun h w => (∃ S', P S' ∧ h = mk S' M) ∧ w = some (.long v)) ∧ ∀ S', P S' → Ctr l dm X gm' am (mk S' M) (fun h w => (∃ M', REL S' M' ∧ h = mk S' M') ∧ w = some (.long v))
theorem StE.n (h : StE l X S M dc gc ac dm gm' am) : StN l X S M dc gc ac dm gm' am := by
  obtain ⟨P, v, h1, h2⟩ := h
  exact ⟨P, h1.weak (fun hp w hw => ⟨hw.1, v, hw.2⟩), fun S' hS => (h2 S' hS).weak (fun hp w hw => ⟨hw.1, v, hw.2⟩)⟩
theorem StEL.n (h : StEL l X S M dc gc ac dm gm' am) : StNL l X S M dc gc ac dm gm' am := by
  obtain ⟨P, v, h1, h2⟩ := h
  exact ⟨P, h1.weak (fun hp w hw => ⟨hw.1, v, hw.2⟩), fun S' hS => (h2 S' hS).weak (fun hp w hw => ⟨hw.1, v, hw.2⟩)⟩
theorem KR.setB (k : KR S M) (B : BQ) : KR (setB S B) M := by
  obtain ⟨c1, c2, c3, c4, c5, k6, k7, k8, k9, k10, k11, k12⟩ := k
  exact ⟨c1, c2, c3, c4, c5, k6, k7, k8, k9, k10, k11, k12⟩
theorem KR.sc (k : KR S M) (z : SZ) : KR S (sc M z) := by
  obtain ⟨c1, c2, c3, c4, c5, k6, k7, k8, k9, k10, k11, k12⟩ := k
  exact ⟨c1, c2, c3, c4, c5, k6, k7, k8, k9, k10, k11.fr rfl rfl rfl rfl rfl rfl rfl, k12⟩
theorem REL.q (r : REL S M) (B : BQ) {z : SZ} (hz : ScOk z) : REL (setB S B) (sc M z) := by
  obtain ⟨⟨nt, ns, nk, ta, h⟩, k⟩ := r
  exact ⟨⟨nt, ns, nk, ta, h.sc hz⟩, (k.setB B).sc z⟩
theorem REL.b (r : REL S M) (B : BQ) : REL (setB S B) M := ⟨r.1, r.2.setB B⟩
theorem REL.kc (r : REL S M) : KC S := by
  obtain ⟨⟨nt, ns, nk, ta, h⟩, k⟩ := r
  exact ⟨nt, ns, nk, ta, KR.ki h k⟩
/-- questions, whatever they answer -/
theorem stq (r : REL S M) (h1 : Ctr l dc X gc ac (mk S M) (kqQ S (encM M))) (h2 : ∀ B : BQ, ∃ v : Int32, Ctr l dm X gm' am (mk (setB S B) M) (zA (setB S B) M (.int v))) : StN l X S M dc gc ac dm gm' am := by
  refine ⟨fun S' => ∃ B, S' = setB S B, h1.weak ?_, ?_⟩
  · rintro hp w ⟨⟨B, rfl⟩, v, rfl⟩
    exact ⟨⟨_, ⟨B, rfl⟩, rfl⟩, v, rfl⟩
  · rintro S' ⟨B, rfl⟩
    obtain ⟨v, h2⟩ := h2 B
    refine h2.weak ?_
    rintro hp w ⟨⟨z, hz, rfl⟩, rfl⟩
    exact ⟨⟨_, r.q B hz, rfl⟩, v, rfl⟩
theorem stqL (r : REL S M) (h1 : Ctr l dc X gc ac (mk S M) (kqL S (encM M))) (h2 : ∀ B : BQ, ∃ v : Int64, Ctr l dm X gm' am (mk (setB S B) M) (zA (setB S B) M (.long v))) : StNL l X S M dc gc ac dm gm' am := by
  refine ⟨fun S' => ∃ B, S' = setB S B, h1.weak ?_, ?_⟩
  · rintro hp w ⟨⟨B, rfl⟩, v, rfl⟩
    exact ⟨⟨_, ⟨B, rfl⟩, rfl⟩, v, rfl⟩
  · rintro S' ⟨B, rfl⟩
    obtain ⟨v, h2⟩ := h2 B
    refine h2.weak ?_
    rintro hp w ⟨⟨z, hz, rfl⟩, rfl⟩
    exact ⟨⟨_, r.q B hz, rfl⟩, v, rfl⟩
/-- questions that both answer alike -/
theorem ste (r : REL S M) {v : Int32} (h1 : Ctr l dc X gc ac (mk S M) (fun h w => (∃ B, h = mk (setB S B) M) ∧ w = some (.int v))) (h2 : ∀ B : BQ, Ctr l dm X gm' am (mk (setB S B) M) (zA (setB S B) M (.int v))) : StE l X S M dc gc ac dm gm' am := by
  refine ⟨fun S' => ∃ B, S' = setB S B, v, h1.weak ?_, ?_⟩
  · rintro hp w ⟨⟨B, rfl⟩, rfl⟩
    exact ⟨⟨_, ⟨B, rfl⟩, rfl⟩, rfl⟩
  · rintro S' ⟨B, rfl⟩
    refine (h2 B).weak ?_
    rintro hp w ⟨⟨z, hz, rfl⟩, rfl⟩
    exact ⟨⟨_, r.q B hz, rfl⟩, rfl⟩
theorem steL (r : REL S M) {v : Int64} (h1 : Ctr l dc X gc ac (mk S M) (fun h w => (∃ B, h = mk (setB S B) M) ∧ w = some (.long v))) (h2 : ∀ B : BQ, Ctr l dm X gm' am (mk (setB S B) M) (zA (setB S B) M (.long v))) : StEL l X S M dc gc ac dm gm' am := by
  refine ⟨fun S' => ∃ B, S' = setB S B, v, h1.weak ?_, ?_⟩
  · rintro hp w ⟨⟨B, rfl⟩, rfl⟩
    exact ⟨⟨_, ⟨B, rfl⟩, rfl⟩, rfl⟩
  · rintro S' ⟨B, rfl⟩
    refine (h2 B).weak ?_
    rintro hp w ⟨⟨z, hz, rfl⟩, rfl⟩
    exact ⟨⟨_, r.q B hz, rfl⟩, rfl⟩
theorem an_B {v : Int32} (q : Ans l dc X gc ac (mk S M) v) : Ctr l dc X gc ac (mk S M) (fun h w => (∃ B, h = mk (setB S B) M) ∧ w = some (.int v)) := q.weak (by
  rintro hp w ⟨rfl, rfl⟩
  exact ⟨⟨getB S, rfl⟩, rfl⟩)
theorem an_BL {v : Int64} (q : AnsL l dc X gc ac (mk S M) v) : Ctr l dc X gc ac (mk S M) (fun h w => (∃ B, h = mk (setB S B) M) ∧ w = some (.long v)) := q.weak (by
  rintro hp w ⟨rfl, rfl⟩
  exact ⟨⟨getB S, rfl⟩, rfl⟩)
/-- both answer and leave all -/
theorem sta (r : REL S M) {v v' : Int32} (e : v' = v) (h1 : Ans l dc X gc ac (mk S M) v) (h2 : Ans l dm X gm' am (mk S M) v') : StE l X S M dc gc ac dm gm' am := by
  subst e
  refine ⟨fun S' => S' = S, v', h1.weak ?_, ?_⟩
  · rintro hp w ⟨rfl, rfl⟩
    exact ⟨⟨S, rfl, rfl⟩, rfl⟩
  · rintro S' rfl
    refine h2.weak ?_
    rintro hp w ⟨rfl, rfl⟩
    exact ⟨⟨M, r, rfl⟩, rfl⟩
/-- both change as functions say -/
theorem stf {f : CS × Int32} {g : MS × Int32} (hr : RI g.1) (hk : KR f.1 g.1 ∧ f.2 = g.2) (h1 : Ctr l dc X gc ac (mk S M) (kpQ (encM M) f)) (h2 : ∀ S', Ctr l dm X gm' am (mk S' M) (rsQ S' g)) : StE l X S M dc gc ac dm gm' am := by
  refine ⟨fun S' => S' = f.1, f.2, h1.weak ?_, ?_⟩
  · rintro hp w ⟨rfl, rfl⟩
    exact ⟨⟨_, rfl, rfl⟩, rfl⟩
  · rintro S' rfl
    refine (h2 f.1).weak ?_
    rintro hp w ⟨rfl, rfl⟩
    exact ⟨⟨_, ⟨hr, hk.1⟩, rfl⟩, by rw [hk.2]⟩
theorem count_rel (k : KR S M) (v : Int32) : m_cnt M v = kcnG S v := by
  obtain ⟨r0, r3, r10, -⟩ := k.rt
  unfold m_cnt kcnG
  rw [r0, r3, r10, k.e93, k.tp.1]
  rfl
theorem S_count (r : REL S M) (v : Int32) : StE l X S M 0 sgX7_count [.ref 0, .int v] 0 sgX8_count [.ref 27, .int v] := sta r (count_rel r.2 v) (P_count v) (m_count v)
theorem S_told (r : REL S M) (s what : Int32) : StE l X S M 2 sgX7_told [.ref 0, .int s, .int what] 2 sgX8_told [.ref 27, .int s, .int what] := by
  obtain ⟨nt, ns, nk, ta, h⟩ := id r.1
  exact sta r (told_rel h.1 r.2.rt s what).symm (P_told r.2.cl s what) (g_told h.1 s what)
theorem S_said (r : REL S M) (k what : Int32) : StE l X S M 2 sgX7_said [.ref 0, .int k, .int what] 2 sgX8_said [.ref 27, .int k, .int what] := by
  obtain ⟨nt, ns, nk, ta, h⟩ := id r.1
  exact sta r (said_rel h.1 r.2.rt k what).symm (P_said r.2.cl k what) (g_said h.1 k what)
theorem S_taken (r : REL S M) (i c : Int32) : StE l X S M 3 sgX7_taken [.ref 0, .int i, .int c] 1 sgX8_taken [.ref 27, .int i, .int c] := by
  obtain ⟨nt, ns, nk, ta, h⟩ := id r.1
  exact sta r (taken_rel h r.2 i c).symm (P_taken r.2.cl i c) (g_taken h.1 i c)
theorem S_feed (r : REL S M) (n a b c d e : Int32) : StE l X S M 2 sgX7_feed [.ref 0, .int n, .int a, .int b, .int c, .int d, .int e] 2 sgX8_feed [.ref 27, .int n, .int a, .int b, .int c, .int d, .int e] := by
  obtain ⟨nt, ns, nk, ta, h⟩ := id r.1
  have ki := KR.ki h r.2
  exact stf (fdG_R h n a b c d e) (feed_KR h r.2 n a b c d e) (P_feed r.2.cl ki.2.2.1.1 ki.2.2.1.2 n a b c d e) (fun S' => g_feed h.1.1 h.2.1.1 h.2.1.2 n a b c d e)
theorem S_speaker (r : REL S M) (a b : Int32) : StE l X S M 2 sgX7_speaker [.ref 0, .int a, .int b] 2 sgX8_speaker [.ref 27, .int a, .int b] := by
  obtain ⟨nt, ns, nk, ta, h⟩ := id r.1
  exact stf (spG_R h a b) (speaker_KR h r.2 a b) (P_speaker r.2.cl a b) (fun S' => g_speaker h.1 a b)
theorem S_turn (r : REL S M) (s a b : Int32) : StE l X S M 2 sgX7_turn [.ref 0, .int s, .int a, .int b] 2 sgX8_turn [.ref 27, .int s, .int a, .int b] := by
  obtain ⟨nt, ns, nk, ta, h⟩ := id r.1
  exact stf (trG_R h s a b) (turn_KR h r.2 s a b) (P_turn r.2.cl s a b) (fun S' => g_turn h.1 s a b)
theorem S_say (r : REL S M) (s t u : Int32) : StE l X S M 2 sgX7_say [.ref 0, .int s, .int t, .int u] 2 sgX8_say [.ref 27, .int s, .int t, .int u] := by
  obtain ⟨nt, ns, nk, ta, h⟩ := id r.1
  refine stf ?_ (say_KR h r.2 s t u) (P_say r.2.cl s t u) (fun S' => g_say h.1 s t u)
  obtain ⟨k, e, -⟩ := syG_R h s t u
  exact ⟨nt, ns, k, ta, e⟩
theorem S_unsay (r : REL S M) : StE l X S M 2 sgX7_unsay [.ref 0] 0 sgX8_unsay [.ref 27] := by
  obtain ⟨nt, ns, nk, ta, h⟩ := id r.1
  refine stf (g := (unM M, if M.1 3 = Int32.ofInt 0 then Int32.ofInt (-3) else M.1 3 - Int32.ofInt 1)) ?_ (unsay_KR h r.2) P_unsay (fun S' => m_unsay)
  show RI (unM M)
  unfold unM
  by_cases q : M.1 3 = Int32.ofInt 0
  · rw [if_pos q]
    exact r.1
  · rw [if_neg q]
    obtain ⟨⟨hM, hO, h9, h0, h3, hr, hk5, htk⟩, hrest⟩ := h
    have hk : 1 ≤ nk := Nat.pos_of_ne_zero (fun z => q (by rw [h3.1, z]; rfl))
    refine ⟨nt, ns, nk - 1, ta, ⟨hM.n 3 _, hO, h9, h0, ⟨?_, by omega⟩, hr, hk5, fun k hk => htk k (by omega)⟩, hrest⟩
    show M.1 3 - Int32.ofInt 1 = nI (nk - 1)
    rw [h3.1]
    exact nI_m1 hk
theorem S_force (r : REL S M) (v : Int32) : StE l X S M 2 sgX7_force [.ref 0, .int v] 1 sgX8_force [.ref 27, .int v] := by
  obtain ⟨nt, ns, nk, ta, h⟩ := id r.1
  refine stf (g := (foM M v, if frP M v then M.1 10 else Int32.ofInt (-2))) ?_ (force_KR h r.2 v) (P_force v) (fun S' => m_force v)
  show RI (foM M v)
  unfold foM
  by_cases q : frP M v
  · rw [if_pos q]
    obtain ⟨⟨hM, hO, h9, h0, h3, hr, hk5, htk⟩, hrest⟩ := h
    have q : inP v (Int32.ofInt 0) (M.1 9 - Int32.ofInt 1) := q
    rw [h9.1] at q
    obtain ⟨k, hk, rfl⟩ := inN (by omega) q
    exact ⟨nt, ns, nk, ta, ⟨hM.n 10 _, hO, h9, h0, h3, ⟨k, hk, rfl⟩, hk5, htk⟩, hrest⟩
  · rw [if_neg q]
    exact r.1
theorem S_image (r : REL S M) : StE l X S M 3 sgX7_image [.ref 0] 0 sgX8_image [.ref 27] := by
  obtain ⟨nt, ns, nk, ta, h⟩ := id r.1
  exact stf (g := (imM M, M.1 3)) (imM_R h) (image_KR h r.2) (P_image r.2.cl r.2.tl) (fun S' => g_image h.1.1)
theorem S_back (r : REL S M) : StE l X S M 3 sgX7_back [.ref 0] 0 sgX8_back [.ref 27] := by
  obtain ⟨nt, ns, nk, ta, h⟩ := id r.1
  exact stf (bkG_R h) (back_KR r.2) (P_back r.2.cl r.2.tl) (fun S' => g_back h.1.1)
theorem S_sheet (r : REL S M) (s sort n : Int32) : StE l X S M 2 sgX7_sheet [.ref 0, .int s, .int sort, .int n] 1 sgX8_sheet [.ref 27, .int s, .int sort, .int n] := by
  obtain ⟨nt, ns, nk, ta, h⟩ := id r.1
  exact stf (shG_R h s sort n) (sheet_KR h r.2 s sort n) (P_sheet r.2.cl s sort n) (fun S' => g_sheet h.1.1 s sort n)
theorem S_cell (r : REL S M) (s i v : Int32) : StE l X S M 2 sgX7_cell [.ref 0, .int s, .int i, .int v] 2 sgX8_cell [.ref 27, .int s, .int i, .int v] := by
  obtain ⟨nt, ns, nk, ta, h⟩ := id r.1
  exact stf (ceG_R h s i v) (cell_KR h r.2 s i v) (P_cell r.2.cl s i v) (fun S' => g_cell h.1.1 h.2.2.1 s i v)
theorem KR.l22 {nt ns nk ta : Nat} (h : RInv M nt ns nk ta) (k : KR S M) : (S.2 22).length = 4 := by rw [k.rs.1]; exact h.1.1.2.2.2.2.2.2.2.2.1
theorem S_film (r : REL S M) (s : Int32) : StE l X S M 2 sgX7_film [.ref 0, .int s] 1 sgX8_film [.ref 27, .int s] := by
  obtain ⟨nt, ns, nk, ta, h⟩ := id r.1
  have ki := KR.ki h r.2
  exact stf (fiG_R h s) (film_KR h r.2 s) (P_film r.2.cl (KR.l22 h r.2) ki.1.2.2.2.2.2.1 ki.1.2.2.2.2.2.2 s) (fun S' => g_film h.1 s)
theorem S_sayingsBy (r : REL S M) (s sort fr n : Int32) : StE l X S M 3 sgX7_sayingsBy [.ref 0, .int s, .int sort, .int fr, .int n] 3 sgX8_sayingsBy [.ref 27, .int s, .int sort, .int fr, .int n] := by
  obtain ⟨nt, ns, nk, ta, h⟩ := id r.1
  exact stf (sbG_R h s sort fr n) (sayingsBy_KR h r.2 s sort fr n) (P_sayingsBy r.2.cl s sort fr n) (fun S' => g_sayingsBy h.1 h.2.2.1 s sort fr n)
theorem S_copy (r : REL S M) (s i o j n : Int32) : StE l X S M 3 sgX7_copy [.ref 0, .int s, .int i, .int o, .int j, .int n] 2 sgX8_copy [.ref 27, .int s, .int i, .int o, .int j, .int n] := by
  obtain ⟨nt, ns, nk, ta, h⟩ := id r.1
  have rs := r.2.rs
  have l24 : (S.2 24).length = 160 := by rw [rs.2.2]; exact h.1.1.2.2.2.2.2.2.2.2.2.2.1
  have hZ : SzC S := fun s hs => by rw [rs.2.1]; exact (h.2.2.1 s hs).2
  obtain ⟨e, hk⟩ := copy_KR h r.2 s i o j n
  refine ⟨kcoP S s i o j n, kcoA S s i o j n, P_copy r.2.cl l24 r.2.2.2.2.2.1 (r.2.sv.shc rs) hZ s i o j n, fun S' hS' => ?_⟩
  refine (g_copy (S := S') h.1.1 h.2.2.1 s i o j n).weak ?_
  rintro hp w ⟨rfl, rfl⟩
  exact ⟨⟨_, ⟨coG_R h s i o j n, hk S' hS'⟩, rfl⟩, by rw [e]⟩
theorem S_text (r : REL S M) : StE l X S M 55 sgX7_text [.ref 0] 4 sgX8_text [.ref 27] := by
  obtain ⟨nt, ns, nk, ta, h⟩ := id r.1
  obtain ⟨e, hk⟩ := text_KR h r.2
  refine ⟨TxC S ta nt, txA S ta nt, P_text (KR.ki h r.2), fun S' hS' => ?_⟩
  refine (G_text (S := S') h).weak ?_
  rintro hp w ⟨⟨M', hM', rfl⟩, rfl⟩
  exact ⟨⟨M', hk S' M' hS' hM', rfl⟩, by rw [e]⟩
end STEPS
