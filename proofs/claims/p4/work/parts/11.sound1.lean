theorem nest_warm {w : Cond} (h : isNest w = true) {s U : State} (hW : s.WarmedH U.vm) (hZ : va_Nw w s) : va_Nw w U := by
  cases w <;> first | exact va_Nw.warmF hW hZ | exact va_Nw.warmM hW hZ | (simp [isNest] at h)
theorem nest_same {w : Cond} (h : isNest w = true) {u U : State} (hv : u.vm = U.vm) (hZ : va_Nw w u) : va_Nw w U := by
  cases w <;> first | exact va_Nw.same rfl hv hZ | (simp [isNest] at h)
theorem cW_get {ad tc : Nat → Nat} {hp : AH} {k : Nat} {c : AC} (h : hp[k]? = some c) : (cW ad tc hp)[k]? = some (ad k, cE ad tc c) := by
  simp [cW, h]
theorem cW_len {ad tc : Nat → Nat} {hp : AH} : (cW ad tc hp).length = hp.length := by simp [cW]
theorem cW_set {ad tc : Nat → Nat} {hp : AH} {k : Nat} {c : AC} : (cW ad tc hp).set k (ad k, cE ad tc c) = cW ad tc (hp.set k c) := by
  apply List.ext_getElem?
  intro j
  by_cases hj : k = j
  · subst hj
    by_cases hl : k < hp.length
    · simp [cW, List.getElem?_set, hl]
    · simp [cW, List.getElem?_set, hl]
  · simp [cW, List.getElem?_set, hj]
theorem cV_cat (ad : Nat → Nat) (v : Value) : (cV ad v).category = v.category := by cases v <;> rfl
theorem rOk_cV {n : Nat} {ad ad' : Nat → Nat} (h : ∀ k, k < n ∨ 1000 ≤ k → ad' k = ad k) : ∀ v, rOk n v = true → cV ad' v = cV ad v := by
  intro v hv
  cases v with
  | ref k =>
    simp only [rOk, Bool.or_eq_true] at hv
    have : k < n ∨ 1000 ≤ k := hv.imp (fun q => Nat.blt_eq.mp q) (fun q => Nat.le_of_ble_eq_true q)
    simp [cV, h k this]
  | _ => rfl
theorem rOkS_map {n : Nat} {ad ad' : Nat → Nat} (h : ∀ k, k < n ∨ 1000 ≤ k → ad' k = ad k) (vs : List Value) (hv : rOkS n vs = true) : vs.map (cV ad') = vs.map (cV ad) := by
  apply List.map_congr_left
  intro v hm
  exact rOk_cV h v (List.all_eq_true.mp hv v hm)
theorem rOkH_cW {n : Nat} {ad ad' tc : Nat → Nat} {hp : AH} (h : ∀ k, k < n ∨ 1000 ≤ k → ad' k = ad k) (hn : hp.length = n) (hv : rOkH n hp = true) : cW ad' tc hp = cW ad tc hp := by
  apply List.ext_getElem?
  intro j
  simp only [cW, List.getElem?_mapIdx]
  cases hj : hp[j]? with
  | none => rfl
  | some c =>
    have hl : j < n := by rw [← hn]; exact (List.getElem?_eq_some_iff.mp hj).1
    have hc := List.all_eq_true.mp hv c (List.mem_of_getElem? hj)
    simp only [Option.map_some, h j (Or.inl hl)]
    cases c with
    | inl o => simp only [cE, rOkS_map h o.2 hc]
    | inr q => cases q <;> rfl
/-- the locals -/
def LR (ad : Nat → Nat) (nL : Nat) (al : LO) (ls : Array Slot) : Prop := al.length = nL ∧ ls.size = nL ∧ lv_wf ls ∧ ∀ (j : Nat) (v : Value), al[j]? = some (some v) → ls[j]? = some (.val (cV ad v))
def asL (ad : Nat → Nat) (al : LO) : List (Nat × Value) := (List.range al.length).filterMap (fun j => match al[j]? with
  | some (some v) => some (j, cV ad v)
  | _ => none)
theorem asL_mem {ad : Nat → Nat} {al : LO} {j : Nat} {v : Value} (h : al[j]? = some (some v)) : (j, cV ad v) ∈ asL ad al := by
  refine List.mem_filterMap.mpr ⟨j, List.mem_range.mpr (List.getElem?_eq_some_iff.mp h).1, ?_⟩
  simp [h]
theorem LR.has {ad : Nat → Nat} {nL : Nat} {al : LO} {ls : Array Slot} (h : LR ad nL al ls) : lv_has ls nL (asL ad al) := by
  obtain ⟨h0, h1, h2, h3⟩ := h
  refine ⟨h1, h2, fun q hq => ?_⟩
  obtain ⟨j, -, hj⟩ := List.mem_filterMap.mp hq
  split at hj
  · rename_i v hv
    cases hj
    exact h3 j v hv
  · cases hj
theorem LR.kept {ad ad' : Nat → Nat} {n nL : Nat} {al : LO} {ls : Array Slot} (h : LR ad nL al ls) (ha : ∀ k, k < n ∨ 1000 ≤ k → ad' k = ad k) (ho : rOkL n al = true) : LR ad' nL al ls := by
  refine ⟨h.1, h.2.1, h.2.2.1, fun j v hv => ?_⟩
  have := List.all_eq_true.mp ho (some v) (List.mem_of_getElem? hv)
  rw [rOk_cV ha v this]
  exact h.2.2.2 j v hv
theorem cat_two {x : Option Value} {w : Value} (h1 : ∀ a, ¬ x = some (.long a)) (h2 : ∀ a, ¬ x = some (.double a)) (hx : x = some w) : ¬ w.category = 2 := by
  subst hx
  cases w with
  | long a => exact absurd rfl (h1 a)
  | double a => exact absurd rfl (h2 a)
  | _ => simp [Value.category]
theorem stO_step {K : LO → Prop} {v : Value} {x : Option Value} {r : LO} {j : Nat} (h : stO (x :: r) (j + 1) v K) : stO r j v (fun r' => K (x :: r')) ∧ (j = 0 → ∀ w, x = some w → ¬ w.category = 2) := by
  unfold stO at h
  split at h
  · exact h.elim
  · exact h.elim
  · rename_i h1 h2
    exact ⟨h, fun hj w hx => cat_two (fun a e => h1 a hj e) (fun a e => h2 a hj e) hx⟩
theorem stO_spec {v : Value} : ∀ {al : LO} {j : Nat} {K : LO → Prop}, stO al j v K → j < al.length ∧ K (al.set j (some v)) ∧ ∀ (q : Nat) (w : Value), q + 1 = j → al[q]? = some (some w) → ¬ w.category = 2 := by
  intro al
  induction al with
  | nil => intro j K h; exact h.elim
  | cons x r ih =>
    intro j K h
    cases j with
    | zero => exact ⟨Nat.succ_pos _, h, fun q w e => by omega⟩
    | succ j =>
      have key := stO_step h
      obtain ⟨h1, h2, h3⟩ := ih key.1
      refine ⟨by simpa using h1, h2, fun q w e hq => ?_⟩
      cases q with
      | zero =>
        simp at hq
        exact key.2 (by omega) w hq
      | succ q => exact h3 q w (by omega) (by simpa using hq)
theorem stT_step {K : LO → Prop} {v : Value} {x : Option Value} {r : LO} {j : Nat} (h : stT (x :: r) (j + 1) v K) : stT r j v (fun r' => K (x :: r')) ∧ (j = 0 → ∀ w, x = some w → ¬ w.category = 2) := by
  unfold stT at h
  split at h
  · exact h.elim
  · exact h.elim
  · rename_i h1 h2
    exact ⟨h, fun hj w hx => cat_two (fun a e => h1 a hj e) (fun a e => h2 a hj e) hx⟩
theorem stT_spec {v : Value} : ∀ {al : LO} {j : Nat} {K : LO → Prop}, stT al j v K → j + 1 < al.length ∧ K ((al.set j (some v)).set (j + 1) none) ∧ ∀ (q : Nat) (w : Value), q + 1 = j → al[q]? = some (some w) → ¬ w.category = 2 := by
  intro al
  induction al with
  | nil => intro j K h; exact h.elim
  | cons x r ih =>
    intro j K h
    cases j with
    | zero =>
      cases r with
      | nil => exact h.elim
      | cons y r => exact ⟨by simp, h, fun q w e => by omega⟩
    | succ j =>
      have key := stT_step h
      obtain ⟨h1, h2, h3⟩ := ih key.1
      refine ⟨by simp only [List.length_cons]; omega, h2, fun q w e hq => ?_⟩
      cases q with
      | zero =>
        simp at hq
        exact key.2 (by omega) w hq
      | succ q => exact h3 q w (by omega) (by simpa using hq)
theorem seH_spec {c : AC} : ∀ {hp : AH} {j : Nat} {K : AH → Prop}, seH hp j c K → j < hp.length ∧ K (hp.set j c) := by
  intro hp
  induction hp with
  | nil => intro j K h; exact h.elim
  | cons x r ih =>
    intro j K h
    cases j with
    | zero => exact ⟨Nat.succ_pos _, h⟩
    | succ j =>
      obtain ⟨h1, h2⟩ := ih h
      exact ⟨by simpa using h1, h2⟩
theorem seV_spec {c : Value} : ∀ {hp : List Value} {j : Nat} {K : List Value → Prop}, seV hp j c K → j < hp.length ∧ K (hp.set j c) := by
  intro hp
  induction hp with
  | nil => intro j K h; exact h.elim
  | cons x r ih =>
    intro j K h
    cases j with
    | zero => exact ⟨Nat.succ_pos _, h⟩
    | succ j =>
      obtain ⟨h1, h2⟩ := ih h
      exact ⟨by simpa using h1, h2⟩
theorem popN_spec : ∀ {n : Nat} {acc st : List Value} {K : List Value → List Value → Prop}, popN n acc st K → ∃ as r, as.length = n ∧ st = as.reverse ++ r ∧ K (as ++ acc) r := by
  intro n
  induction n with
  | zero => intro acc st K h; exact ⟨[], st, rfl, rfl, h⟩
  | succ n ih =>
    intro acc st K h
    cases st with
    | nil => exact h.elim
    | cons v st =>
      obtain ⟨as, r, h1, h2, h3⟩ := ih h
      refine ⟨as ++ [v], r, by simp [h1], by simp [h2], by simpa using h3⟩
theorem catN_sum (ad : Nat → Nat) (vs : List Value) : ((vs.map (cV ad)).map fun v => v.category).sum = catN vs := by
  induction vs with
  | nil => rfl
  | cons v r ih => simp only [List.map_cons, List.sum_cons, cV_cat, catN, ih]
/-- stores to the locals -/
theorem LR.st1 {ad : Nat → Nat} {nL i : Nat} {al : LO} {v : Value} {ls' : Array Slot} (h0 : al.length = nL) (hi : i < al.length) (hq : ∀ (q : Nat) (w : Value), q + 1 = i → al[q]? = some (some w) → ¬ w.category = 2)
    (h : lv_has ls' nL ((i, cV ad v) :: (asL ad al).filter (fun q => !(q.1 == i) && !(q.1 + 1 == i && q.2.category == 2)))) : LR ad nL (al.set i (some v)) ls' := by
  refine ⟨by simp [h0], h.1, h.2.1, fun j w hj => ?_⟩
  by_cases e : j = i
  · subst e
    rw [List.getElem?_set_self hi] at hj
    cases hj
    exact h.2.2 _ List.mem_cons_self
  · rw [List.getElem?_set_ne (fun q => e q.symm)] at hj
    refine h.2.2 (j, cV ad w) (List.mem_cons_of_mem _ (List.mem_filter.mpr ⟨asL_mem hj, ?_⟩))
    simp only [Bool.and_eq_true, Bool.not_eq_true', beq_eq_false_iff_ne, ne_eq, Bool.and_eq_false_iff]
    refine ⟨e, ?_⟩
    by_cases e2 : j + 1 = i
    · exact Or.inr (by rw [cV_cat]; exact hq j w e2 hj)
    · exact Or.inl e2
theorem LR.st2 {ad : Nat → Nat} {nL i : Nat} {al : LO} {v : Value} {ls' : Array Slot} (h0 : al.length = nL) (hi : i + 1 < al.length) (hq : ∀ (q : Nat) (w : Value), q + 1 = i → al[q]? = some (some w) → ¬ w.category = 2)
    (h : lv_has ls' nL ((i, cV ad v) :: (asL ad al).filter (fun q => !(q.1 == i) && (!(q.1 == i + 1) && !(q.1 + 1 == i && q.2.category == 2))))) : LR ad nL ((al.set i (some v)).set (i + 1) none) ls' := by
  refine ⟨by simp [h0], h.1, h.2.1, fun j w hj => ?_⟩
  by_cases e1 : j = i + 1
  · subst e1
    rw [List.getElem?_set_self (by simpa using hi)] at hj
    cases hj
  rw [List.getElem?_set_ne (fun q => e1 q.symm)] at hj
  by_cases e : j = i
  · subst e
    rw [List.getElem?_set_self (by omega)] at hj
    cases hj
    exact h.2.2 _ List.mem_cons_self
  · rw [List.getElem?_set_ne (fun q => e q.symm)] at hj
    refine h.2.2 (j, cV ad w) (List.mem_cons_of_mem _ (List.mem_filter.mpr ⟨asL_mem hj, ?_⟩))
    simp only [Bool.and_eq_true, Bool.not_eq_true', beq_eq_false_iff_ne, ne_eq, Bool.and_eq_false_iff]
    refine ⟨e, e1, ?_⟩
    by_cases e2 : j + 1 = i
    · exact Or.inr (by rw [cV_cat]; exact hq j w e2 hj)
    · exact Or.inl e2
