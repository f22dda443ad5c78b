/-! THE CLASS in general: sayings, sheets, images, what is taken -/
section KCALL
variable {l : Launch} {X : List (List Int32)} {S : CS} {T : AH} {hp : AH} {nt ns nk ta : Nat}
abbrev S3 (S : CS) (s t u : Int32) : CS := cN (cR S 16 (putF (putF (putF (S.2 16) (Int32.ofInt 3 * S.1 134) s) (Int32.ofInt 3 * S.1 134 + Int32.ofInt 1) t) (Int32.ofInt 3 * S.1 134 + Int32.ofInt 2) u)) 134 (S.1 134 + Int32.ofInt 1)
set_option maxRecDepth 100000 in
theorem c_append (hL : CLen S) (s t u : Int32) (h : S.1 134 < 12) : Ctr l 1 X sgX4_append [.ref 13, .int s, .int t, .int u] (encC S ++ T) (fun h w => h = encC (S3 S s t u) ++ T ∧ w = none) := by
  have h16 := hL.lt 16
  refine Ctr.of okX4_append rfl (Nat.le_of_ble_eq_true rfl) (run_sound okX4_append noCut 200 ?_)
  exact brT h (kH (c_put (xs := S.2 16) rfl rfl h16) (by decide) (kH (c_put (xs := putF (S.2 16) (Int32.ofInt 3 * S.1 134) s) rfl rfl (by rw [putF_len]; exact h16)) (by decide) (kH (c_put (xs := putF (putF (S.2 16) (Int32.ofInt 3 * S.1 134) s) (Int32.ofInt 3 * S.1 134 + Int32.ofInt 1) t) rfl rfl (by rw [putF_len, putF_len]; exact h16)) (by decide) (And.intro rfl (And.intro trivial ⟨rfl, rfl, rfl⟩)))))
theorem nI_lt_inv {n b : Nat} {c : Int32} (hn : n < 2 ^ 31) (hc : c.toInt = b) (h : nI n < c) : n < b := by
  have y := Int32.lt_iff_toInt_lt.mp h
  rw [nI_toInt hn, hc] at y
  omega
theorem KI.say (h : KI S nt ns nk ta) (hk : nk < 12) (s t u : Int32) : KI (S3 S s t u) nt ns (nk + 1) ta := by
  have q' := h.row (i := 16) (a := putF (putF (putF (S.2 16) (Int32.ofInt 3 * S.1 134) s) (Int32.ofInt 3 * S.1 134 + Int32.ofInt 1) t) (Int32.ofInt 3 * S.1 134 + Int32.ofInt 2) u) (by decide) (by rw [putF_len, putF_len, putF_len]; exact h.1.1 16)
  obtain ⟨⟨c1, c2, c3, c4, c5, c6, c7⟩, r2⟩ := q'
  have c6 : S.1 134 = nI nk := c6
  exact ⟨⟨c1, c2, c3, c4, c5, (by show S.1 134 + Int32.ofInt 1 = nI (nk + 1); rw [c6]; exact nI_1 nk), by omega⟩, r2⟩
set_option maxRecDepth 100000 in
theorem K_say (h : KC S) (s t u : Int32) : Ctr l 2 X sgX7_say [.ref 0, .int s, .int t, .int u] (encC S ++ T) (fun h w => (∃ S, KC S ∧ h = encC S ++ T) ∧ ∃ v, w = some (.int v)) := by
  obtain ⟨nt, ns, nk, ta, q⟩ := id h
  have hL := h.len
  have hk : S.1 134 = nI nk := q.1.2.2.2.2.2.1
  have h12 : nk ≤ 12 := q.1.2.2.2.2.2.2
  refine Ctr.of okX7_say rfl (Nat.le_of_ble_eq_true rfl) (run_sound okX7_say noCut 200 ?_)
  refine kH (c_isSpeaker s) (by decide) (brB' (fun _ => lk h) (fun _ => kH (c_isText t) (by decide) (brB' (fun _ => lk h) (fun _ => kH (c_isBelow u 2) (by decide) (brB' (fun _ => lk h) (fun _ => br (fun y => kH (c_append hL s t u y) (by decide) ?_) (fun y => lk h)))))))
  have y : S.1 134 < 12 := y
  rw [hk] at y
  exact ⟨⟨S3 S s t u, ⟨nt, ns, nk + 1, ta, q.say (nI_lt_inv (by omega) (by decide) y) s t u⟩, rfl⟩, _, rfl⟩
set_option maxRecDepth 100000 in
theorem K_unsay (h : KC S) : Ctr l 2 X sgX7_unsay [.ref 0] (encC S ++ T) (kcQ T) := by
  obtain ⟨nt, ns, nk, ta, q⟩ := id h
  have hk : S.1 134 = nI nk := q.1.2.2.2.2.2.1
  have h12 : nk ≤ 12 := q.1.2.2.2.2.2.2
  refine Ctr.of okX7_unsay rfl (Nat.le_of_ble_eq_true rfl) (run_sound okX7_unsay noCut 200 ?_)
  refine br (fun y => And.intro rfl (And.intro trivial ⟨⟨cN S 134 (S.1 134 - Int32.ofInt 1), ?_, rfl⟩, _, rfl⟩)) (fun _ => lk h)
  have h1 : 1 ≤ nk := Nat.pos_of_ne_zero (fun z => by
    have y : (0 : Int32) < S.1 134 := y
    rw [hk, z] at y
    exact absurd y (by decide))
  obtain ⟨⟨c1, c2, c3, c4, c5, c6, c7⟩, r2⟩ := q
  exact ⟨nt, ns, nk - 1, ta, ⟨c1, c2, c3, c4, c5, (by show S.1 134 - Int32.ofInt 1 = nI (nk - 1); rw [c6]; exact nI_m1 h1), by omega⟩, r2⟩
set_option maxRecDepth 100000 in
theorem c_holds (hL : CLen S) (s i : Int32) : Ans l 1 X sgX3_holds [.ref 21, .int s, .int i] (encC S ++ T) (bI (0 ≤ i ∧ i < atF (S.2 23) s)) := by
  refine Ctr.of okX3_holds rfl (Nat.le_of_ble_eq_true rfl) (run_sound okX3_holds noCut 200 ?_)
  exact kH (c_at (xs := S.2 23) rfl (hL.lt 23)) (by decide) (kH (c_isBelow _ _) (by decide) ⟨nar_bI, rfl, rfl⟩)
abbrev hrP (S : CS) (s i n : Int32) : Prop := ¬ n < 0 ∧ ¬ i < 0 ∧ n ≤ atF (S.2 23) s ∧ i ≤ atF (S.2 23) s - n
set_option maxRecDepth 100000 in
theorem c_holdsRun (hL : CLen S) (s i n : Int32) : Ans l 1 X sgX3_holdsRun [.ref 21, .int s, .int i, .int n] (encC S ++ T) (bI (hrP S s i n)) := by
  refine Ctr.of okX3_holdsRun rfl (Nat.le_of_ble_eq_true rfl) (run_sound okX3_holdsRun noCut 200 ?_)
  refine br (fun y => ⟨rfl, rfl, some_int (bIe0 (fun z => z.1 y))⟩) (fun y1 => br (fun y => ⟨rfl, rfl, some_int (bIe0 (fun z => z.2.1 y))⟩) (fun y2 => kH (c_at (xs := S.2 23) rfl (hL.lt 23)) (by decide) (br (fun y => ⟨rfl, rfl, some_int (bIe0 (fun z => absurd y (Int32.not_lt.mpr z.2.2.1)))⟩) (fun y3 => kH (c_at (xs := S.2 23) rfl (hL.lt 23)) (by decide) (br (fun y => ⟨rfl, rfl, some_int (bIe0 (fun z => absurd y (Int32.not_lt.mpr z.2.2.2)))⟩) (fun y4 => ⟨rfl, rfl, some_int (bIe1 ⟨y1, y2, Int32.not_lt.mp y3, Int32.not_lt.mp y4⟩)⟩))))))
set_option maxRecDepth 100000 in
theorem c_read (hL : CLen S) (s i : Int32) : Ans l 1 X sgX3_read [.ref 21, .int s, .int i] (encC S ++ T) (atF (S.2 24) (s * Int32.ofInt 40 + i)) := by
  refine Ctr.of okX3_read rfl (Nat.le_of_ble_eq_true rfl) (run_sound okX3_read noCut 200 ?_)
  exact kH (c_at (xs := S.2 24) rfl (hL.lt 24)) (by decide) ⟨rfl, rfl⟩
def wrV (S : CS) (s v : Int32) : Int32 := if atF (S.2 22) s = 0 then v.toInt8.toInt32 else if atF (S.2 22) s = 1 then v.toInt16.toInt32 else v
abbrev wrS (S : CS) (s i v : Int32) : CS := cR S 24 (putF (S.2 24) (s * Int32.ofInt 40 + i) (wrV S s v))
set_option maxRecDepth 100000 in
theorem c_write (hL : CLen S) (s i v : Int32) : Ctr l 1 X sgX3_write [.ref 21, .int s, .int i, .int v] (encC S ++ T) (fun h w => h = encC (wrS S s i v) ++ T ∧ w = none) := by
  refine Ctr.of okX3_write rfl (Nat.le_of_ble_eq_true rfl) (run_sound okX3_write (fun i => Nat.beq i 17) 200 ?_)
  have t17 : ∀ x, x = wrV S s v → WP l (rmD 1 0 0) X sgX3_write kX3_write (fun h w => h = encC (wrS S s i v) ++ T ∧ w = none) 17 [some (.ref 21), some (.int s), some (.int i), some (.int v), some (.int (atF (S.2 22) s)), none] [.int x] (encC S ++ T) 0 0 := by
    intro x hx
    subst hx
    exact run_sound okX3_write noCut 200 (kH (c_put (xs := S.2 24) rfl rfl (hL.lt 24)) (by decide) ⟨rfl, rfl, rfl⟩)
  exact kH (c_at (xs := S.2 22) rfl (hL.lt 22)) (by decide) (br (fun y => t17 _ (if_pos y).symm) (fun y => br (fun y2 => t17 _ ((if_neg y).trans (if_pos y2)).symm) (fun y2 => t17 _ ((if_neg y).trans (if_neg y2)).symm)))
theorem KC.write (h : KC S) (s i v : Int32) : KC (wrS S s i v) := by
  obtain ⟨nt, ns, nk, ta, q⟩ := h
  exact ⟨nt, ns, nk, ta, q.row (by decide) (by rw [putF_len]; exact q.1.1 24)⟩
set_option maxRecDepth 100000 in
theorem K_cell (h : KC S) (s i v : Int32) : Ctr l 2 X sgX7_cell [.ref 0, .int s, .int i, .int v] (encC S ++ T) (kcQ T) := by
  have hL := h.len
  refine Ctr.of okX7_cell rfl (Nat.le_of_ble_eq_true rfl) (run_sound okX7_cell noCut 200 ?_)
  exact kH (c_isBelow s 4) (by decide) (brB' (fun _ => lk h) (fun _ => kH (c_isMissing hL s) (by decide) (brB' (fun _ => kH (c_holds hL s i) (by decide) (brB' (fun _ => lk h) (fun _ => kH (c_write hL s i v) (by decide) (lk (h.write s i v))))) (fun _ => lk h))))
set_option maxRecDepth 100000 in
theorem c_isOneOf (a b : Int32) : Ctr l 0 X sgX7_isOneOf [.int a, .int b] hp (fun h w => h = hp ∧ ∃ v : Int32, w = some (.int v)) := by
  refine Ctr.of okX7_isOneOf rfl (Nat.le_of_ble_eq_true rfl) (run_sound okX7_isOneOf noCut 200 ?_)
  have y : ∀ v : Int32, (hp = hp ∧ ∃ w : Int32, some (Value.int v) = some (.int w)) := fun v => ⟨rfl, v, rfl⟩
  exact br (fun _ => ⟨rfl, y 1⟩) (fun _ => br (fun _ => ⟨rfl, y 1⟩) (fun _ => br (fun _ => br (fun _ => ⟨rfl, y 1⟩) (fun _ => br (fun _ => br (fun _ => ⟨rfl, y 1⟩) (fun _ => ⟨rfl, y 0⟩)) (fun _ => ⟨rfl, y 0⟩))) (fun _ => br (fun _ => br (fun _ => ⟨rfl, y 1⟩) (fun _ => ⟨rfl, y 0⟩)) (fun _ => ⟨rfl, y 0⟩))))
abbrev anQ (h0 : AH) : AH → Option Value → Prop := fun h w => h = h0 ∧ ∃ v : Int32, w = some (.int v)
theorem any {h0 : AH} (v : Int32) : anQ h0 h0 (some (.int v)) := ⟨rfl, v, rfl⟩
set_option maxRecDepth 100000 in
theorem c_sayingTaken (hL : CLen S) (i k : Int32) : Ctr l 2 X sgX7_sayingTaken [.ref 0, .int i, .int k] (encC S ++ T) (anQ (encC S ++ T)) := by
  refine Ctr.of okX7_sayingTaken rfl (Nat.le_of_ble_eq_true rfl) (run_sound okX7_sayingTaken noCut 200 ?_)
  exact br (fun _ => br (fun _ => kH (c_sayingPart hL i 2) (by decide) (any _)) (fun _ => any _)) (fun _ => any _)
set_option maxRecDepth 100000 in
theorem c_speakerTaken (hL : CLen S) (i k : Int32) : Ctr l 2 X sgX7_speakerTaken [.ref 0, .int i, .int k] (encC S ++ T) (anQ (encC S ++ T)) := by
  refine Ctr.of okX7_speakerTaken rfl (Nat.le_of_ble_eq_true rfl) (run_sound okX7_speakerTaken noCut 200 ?_)
  refine br (fun _ => kH (c_at (xs := S.2 14) rfl (hL.lt 14)) (by decide) ⟨0, _, by decide, c_isOneOf _ _, ?_⟩) (fun _ => any _)
  rintro hp' w ⟨rfl, v, rfl⟩
  exact br (fun _ => any _) (fun _ => any _)
set_option maxRecDepth 100000 in
theorem K_taken (h : KC S) (i k : Int32) : Ctr l 3 X sgX7_taken [.ref 0, .int i, .int k] (encC S ++ T) (kqQ S T) := by
  have hL := h.len
  refine Ctr.of okX7_taken rfl (Nat.le_of_ble_eq_true rfl) (run_sound okX7_taken noCut 200 ?_)
  refine kH (c_isBelow k 7) (by decide) (brB' (fun _ => lq h) (fun _ => kH (c_isBelow i 17) (by decide) (brB' (fun _ => lq h) (fun _ => br (fun _ => ⟨2, _, by decide, c_speakerTaken hL _ _, ?_⟩) (fun _ => ⟨2, _, by decide, c_sayingTaken hL _ _, ?_⟩)))))
  · rintro hp' w ⟨rfl, v, rfl⟩
    exact lq h
  · rintro hp' w ⟨rfl, v, rfl⟩
    exact lq h
end KCALL
