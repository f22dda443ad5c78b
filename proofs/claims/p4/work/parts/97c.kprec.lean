/-! THE CLASS in general: what each call that changes it makes of it, precisely -/
section KPREC
variable {l : Launch} {X : List (List Int32)} {S : CS} {T : AH} {hp : AH} {nt ns nk ta : Nat}
/-- a state and an answer -/
abbrev kpQ (T : AH) (r : CS × Int32) : AH → Option Value → Prop := fun h w => h = encC r.1 ++ T ∧ w = some (.int r.2)
theorem kp {r : CS × Int32} {S' : CS} {v : Int32} (e : r = (S', v)) : kpQ T r (encC S' ++ T) (some (.int v)) := by
  subst e
  exact ⟨rfl, rfl⟩
abbrev kxP (n : Int32) (t : Int32) : Prop := (0 : Int32) ≤ t ∧ t < n
abbrev ksoP (k m : Int32) : Prop := ((0 : Int32) ≤ k ∧ k < 6) ∧ ((0 : Int32) ≤ m ∧ m ≤ 9)
def kspG (S : CS) (k m : Int32) : CS × Int32 := if ksoP k m then (if S.1 133 < 5 then (cN (cR (cR S 14 (putF (S.2 14) (S.1 133) k)) 15 (putF (S.2 15) (S.1 133) m)) 133 (S.1 133 + 1), S.1 133) else (S, -4)) else (S, -2)
set_option maxRecDepth 100000 in
theorem P_speaker (hL : CLen S) (k m : Int32) : Ctr l 2 X sgX7_speaker [.ref 0, .int k, .int m] (encC S ++ T) (kpQ T (kspG S k m)) := by
  refine Ctr.of okX7_speaker rfl (Nat.le_of_ble_eq_true rfl) (run_sound okX7_speaker noCut 200 ?_)
  refine kH (c_isKind k) (by decide) (brB' (fun q => kp (if_neg (fun z => q z.1))) (fun q => kH (c_isMore m) (by decide) (brB' (fun q2 => kp (if_neg (fun z => q2 z.2))) (fun q2 => br (fun y => kH (c_become13 hL _ k m) (by decide) ?_) (fun y => kp ((if_pos ⟨q, q2⟩).trans (if_neg y)))))))
  have e : kspG S k m = (cN (cR (cR S 14 (putF (S.2 14) (S.1 133) k)) 15 (putF (S.2 15) (S.1 133) m)) 133 (S.1 133 + 1), S.1 133) := (if_pos ⟨q, q2⟩).trans (if_pos y)
  rw [e]
  exact And.intro rfl (And.intro trivial ⟨rfl, rfl⟩)
def ktrG (S : CS) (s k m : Int32) : CS × Int32 := if kxP (S.1 133) s then (if ksoP k m then (cR (cR S 14 (putF (S.2 14) s k)) 15 (putF (S.2 15) s m), atF (S.2 14) s) else (S, -7)) else (S, -5)
set_option maxRecDepth 100000 in
theorem P_turn (hL : CLen S) (s k m : Int32) : Ctr l 2 X sgX7_turn [.ref 0, .int s, .int k, .int m] (encC S ++ T) (kpQ T (ktrG S s k m)) := by
  refine Ctr.of okX7_turn rfl (Nat.le_of_ble_eq_true rfl) (run_sound okX7_turn noCut 200 ?_)
  exact kH (c_isSpeaker s) (by decide) (brB' (fun q => kp (if_neg q)) (fun q => kH (c_isKind k) (by decide) (brB' (fun q2 => kp ((if_pos q).trans (if_neg (fun z => q2 z.1)))) (fun q2 => kH (c_isMore m) (by decide) (brB' (fun q3 => kp ((if_pos q).trans (if_neg (fun z => q3 z.2)))) (fun q3 => kH (c_at (xs := S.2 14) rfl (hL.lt 14)) (by decide) (kH (c_become13 hL s k m) (by decide) (kp ((if_pos q).trans (if_pos ⟨q2, q3⟩))))))))))
def ktdG (S : CS) (s what : Int32) : Int32 := if kxP (S.1 133) s then (if what = 0 then atF (S.2 14) s else if what = 1 then atF (S.2 15) s else if what = 2 then bI (atF (S.2 14) s = 5) else -7) else -5
set_option maxRecDepth 100000 in
theorem P_told (hL : CLen S) (s what : Int32) : Ans l 2 X sgX7_told [.ref 0, .int s, .int what] (encC S ++ T) (ktdG S s what) := by
  refine Ctr.of okX7_told rfl (Nat.le_of_ble_eq_true rfl) (run_sound okX7_told noCut 200 ?_)
  refine kH (c_isSpeaker s) (by decide) (brB' (fun q => ⟨rfl, some_int (if_neg q).symm⟩) (fun q => ?_))
  have e : ktdG S s what = if what = 0 then atF (S.2 14) s else if what = 1 then atF (S.2 15) s else if what = 2 then bI (atF (S.2 14) s = 5) else -7 := if_pos q
  rw [e]
  refine And.intro (fun h => ⟨rfl, some_int ?_⟩) (And.intro (fun h => ?_) (And.intro (fun h => ?_) (And.intro (fun h => ?_) trivial)))
  · have n0 : ¬ what = 0 := fun z => by subst z; revert h; decide
    have n1 : ¬ what = 1 := fun z => by subst z; revert h; decide
    have n2 : ¬ what = 2 := fun z => by subst z; revert h; decide
    rw [if_neg n0, if_neg n1, if_neg n2]
    rfl
  · subst h; exact kH (c_at (xs := S.2 14) rfl (hL.lt 14)) (by decide) ⟨rfl, rfl⟩
  · subst h; exact kH (c_at (xs := S.2 15) rfl (hL.lt 15)) (by decide) ⟨rfl, rfl⟩
  · subst h; exact kH (c_at (xs := S.2 14) rfl (hL.lt 14)) (by decide) (br (fun y => ⟨rfl, some_int (bIe1 y)⟩) (fun y => ⟨rfl, some_int (bIe0 y)⟩))
def kfoG (S : CS) (t : Int32) : CS × Int32 := if kxP (S.1 93) t then (cN S 135 t, S.1 135) else (S, -2)
set_option maxRecDepth 100000 in
theorem P_force (t : Int32) : Ctr l 2 X sgX7_force [.ref 0, .int t] (encC S ++ T) (kpQ T (kfoG S t)) := by
  refine Ctr.of okX7_force rfl (Nat.le_of_ble_eq_true rfl) (run_sound okX7_force noCut 100 ?_)
  refine kH (c_isText t) (by decide) (brB' (fun q => kp (if_neg q)) (fun q => ?_))
  have e : kfoG S t = (cN S 135 t, S.1 135) := if_pos q
  rw [e]
  exact And.intro trivial ⟨rfl, rfl⟩
def ksyG (S : CS) (s t u : Int32) : CS × Int32 := if kxP (S.1 133) s ∧ kxP (S.1 93) t then (if kxP 2 u then (if S.1 134 < 12 then (S3 S s t u, S.1 134 + 1 - 1) else (S, -4)) else (S, -7)) else (S, -5)
set_option maxRecDepth 100000 in
theorem P_say (hL : CLen S) (s t u : Int32) : Ctr l 2 X sgX7_say [.ref 0, .int s, .int t, .int u] (encC S ++ T) (kpQ T (ksyG S s t u)) := by
  refine Ctr.of okX7_say rfl (Nat.le_of_ble_eq_true rfl) (run_sound okX7_say noCut 200 ?_)
  exact kH (c_isSpeaker s) (by decide) (brB' (fun q => kp (if_neg (fun z => q z.1))) (fun q => kH (c_isText t) (by decide) (brB' (fun q2 => kp (if_neg (fun z => q2 z.2))) (fun q2 => kH (c_isBelow u 2) (by decide) (brB' (fun q3 => kp ((if_pos ⟨q, q2⟩).trans (if_neg q3))) (fun q3 => br (fun y => kH (c_append hL s t u y) (by decide) (kp ((if_pos ⟨q, q2⟩).trans ((if_pos q3).trans (if_pos y))))) (fun y => kp ((if_pos ⟨q, q2⟩).trans ((if_pos q3).trans (if_neg y))))))))))
def kunG (S : CS) : CS × Int32 := if 0 < S.1 134 then (cN S 134 (S.1 134 - 1), S.1 134 - 1) else (S, -3)
set_option maxRecDepth 100000 in
theorem P_unsay : Ctr l 2 X sgX7_unsay [.ref 0] (encC S ++ T) (kpQ T (kunG S)) := by
  refine Ctr.of okX7_unsay rfl (Nat.le_of_ble_eq_true rfl) (run_sound okX7_unsay noCut 200 ?_)
  refine br (fun y => ?_) (fun y => kp (if_neg y))
  have e : kunG S = (cN S 134 (S.1 134 - 1), S.1 134 - 1) := if_pos y
  rw [e]
  exact And.intro rfl (And.intro trivial ⟨rfl, rfl⟩)
def ksdG (S : CS) (k what : Int32) : Int32 := if kxP (S.1 134) k then (if kxP 3 what then partF S k what else -7) else -5
set_option maxRecDepth 100000 in
theorem P_said (hL : CLen S) (k what : Int32) : Ans l 2 X sgX7_said [.ref 0, .int k, .int what] (encC S ++ T) (ksdG S k what) := by
  refine Ctr.of okX7_said rfl (Nat.le_of_ble_eq_true rfl) (run_sound okX7_said noCut 200 ?_)
  exact kH (c_isBelow k (S.1 134)) (by decide) (brB' (fun q => ⟨rfl, some_int (if_neg q).symm⟩) (fun q => kH (c_isBelow what 3) (by decide) (brB' (fun q2 => ⟨rfl, some_int ((if_pos q).trans (if_neg q2)).symm⟩) (fun q2 => kH (c_sayingPart hL k what) (by decide) ⟨rfl, some_int ((if_pos q).trans (if_pos q2)).symm⟩))))
def kceG (S : CS) (s i v : Int32) : CS × Int32 := if kxP 4 s then (if atF (S.2 22) s = -1 then (S, -11) else if kxP (atF (S.2 23) s) i then (wrS S s i v, 1) else (S, -12)) else (S, -2)
set_option maxRecDepth 100000 in
theorem P_cell (hL : CLen S) (s i v : Int32) : Ctr l 2 X sgX7_cell [.ref 0, .int s, .int i, .int v] (encC S ++ T) (kpQ T (kceG S s i v)) := by
  refine Ctr.of okX7_cell rfl (Nat.le_of_ble_eq_true rfl) (run_sound okX7_cell noCut 200 ?_)
  exact kH (c_isBelow s 4) (by decide) (brB' (fun q => kp (if_neg q)) (fun q => kH (c_isMissing hL s) (by decide) (brB' (fun q2 => kH (c_holds hL s i) (by decide) (brB' (fun q3 => kp ((if_pos q).trans ((if_neg q2).trans (if_neg q3)))) (fun q3 => kH (c_write hL s i v) (by decide) (kp ((if_pos q).trans ((if_neg q2).trans (if_pos q3))))))) (fun q2 => kp ((if_pos q).trans (if_pos q2))))))
end KPREC
