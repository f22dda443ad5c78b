theorem iw_X0 : ∀ w ∈ wsX00, w ∈ TBL := fun w h => List.mem_filter.mpr ⟨(by decide +kernel : ∀ w ∈ wsX00, w ∈ lw_tbl) w h, (by decide +kernel : ∀ w ∈ wsX00, goodWord w = true) w h⟩
theorem iw_X1 : ∀ w ∈ wsX10, w ∈ TBL := fun w h => List.mem_filter.mpr ⟨(by decide +kernel : ∀ w ∈ wsX10, w ∈ lw_tbl) w h, (by decide +kernel : ∀ w ∈ wsX10, goodWord w = true) w h⟩
theorem iw_X2 : ∀ w ∈ wsX20, w ∈ TBL := fun w h => List.mem_filter.mpr ⟨(by decide +kernel : ∀ w ∈ wsX20, w ∈ lw_tbl) w h, (by decide +kernel : ∀ w ∈ wsX20, goodWord w = true) w h⟩
theorem iw_X3 : ∀ w ∈ wsX30, w ∈ TBL := fun w h => List.mem_filter.mpr ⟨(by decide +kernel : ∀ w ∈ wsX30, w ∈ lw_tbl) w h, (by decide +kernel : ∀ w ∈ wsX30, goodWord w = true) w h⟩
theorem iw_X4 : ∀ w ∈ wsX40, w ∈ TBL := fun w h => List.mem_filter.mpr ⟨(by decide +kernel : ∀ w ∈ wsX40, w ∈ lw_tbl) w h, (by decide +kernel : ∀ w ∈ wsX40, goodWord w = true) w h⟩
theorem iw_X5 : ∀ w ∈ wsX50, w ∈ TBL := fun w h => List.mem_filter.mpr ⟨(by decide +kernel : ∀ w ∈ wsX50, w ∈ lw_tbl) w h, (by decide +kernel : ∀ w ∈ wsX50, goodWord w = true) w h⟩
theorem iw_X6 : ∀ w ∈ wsX60, w ∈ TBL := fun w h => List.mem_filter.mpr ⟨(by decide +kernel : ∀ w ∈ wsX60, w ∈ lw_tbl) w h, (by decide +kernel : ∀ w ∈ wsX60, goodWord w = true) w h⟩
theorem iw_X7 : ∀ w ∈ wsX70, w ∈ TBL := fun w h => List.mem_filter.mpr ⟨(by decide +kernel : ∀ w ∈ wsX70, w ∈ lw_tbl) w h, (by decide +kernel : ∀ w ∈ wsX70, goodWord w = true) w h⟩
theorem iw_X8 : ∀ w ∈ wsX80, w ∈ TBL := fun w h => List.mem_filter.mpr ⟨(by decide +kernel : ∀ w ∈ wsX80, w ∈ lw_tbl) w h, (by decide +kernel : ∀ w ∈ wsX80, goodWord w = true) w h⟩
theorem cd_all : ∀ a, a < 9 → ∀ b, b < clS a → (clF a b).1 = clN a := by decide +kernel
/-- what holds of a class and its place -/
def clAll (a : Nat) : Prop := (∀ w ∈ u_ws (clN a) (clF a) (clS a), w ∈ TBL) ∧ (∀ k, k < clS a → parseFieldDescriptor (clF a k).2.2.1 = some ((clTy.getD a tyX0) k)) ∧ (∀ x, x < clS a → ∀ y, y < clS a → x ≠ y → (clF a x).2.1 ≠ (clF a y).2.1) ∧ ∀ b, b < clS a → (clF a b).1 = clN a
theorem cl_all {a b : Nat} (h : clOk a b = true) : vwCl[a]? = some (clN a, clF a, clS a) ∧ b < clS a ∧ clAll a := by
  have ha : a < 9 := by
    unfold clOk at h
    cases hq : vwCl[a]? with
    | none => rw [hq] at h; cases h
    | some q => exact (List.getElem?_eq_some_iff.mp hq).1
  have hd := cd_all a ha
  match a, ha with
  | 0, _ => exact ⟨rfl, Nat.blt_eq.mp h, iw_X0, tyX0_ok, nmX0, hd⟩
  | 1, _ => exact ⟨rfl, Nat.blt_eq.mp h, iw_X1, tyX1_ok, nmX1, hd⟩
  | 2, _ => exact ⟨rfl, Nat.blt_eq.mp h, iw_X2, tyX2_ok, nmX2, hd⟩
  | 3, _ => exact ⟨rfl, Nat.blt_eq.mp h, iw_X3, tyX3_ok, nmX3, hd⟩
  | 4, _ => exact ⟨rfl, Nat.blt_eq.mp h, iw_X4, tyX4_ok, nmX4, hd⟩
  | 5, _ => exact ⟨rfl, Nat.blt_eq.mp h, iw_X5, tyX5_ok, nmX5, hd⟩
  | 6, _ => exact ⟨rfl, Nat.blt_eq.mp h, iw_X6, tyX6_ok, nmX6, hd⟩
  | 7, _ => exact ⟨rfl, Nat.blt_eq.mp h, iw_X7, tyX7_ok, nmX7, hd⟩
  | 8, _ => exact ⟨rfl, Nat.blt_eq.mp h, iw_X8, tyX8_ok, nmX8, hd⟩
theorem cE_seI {ad tc : Nat → Nat} {xs : List Int32} {j : Nat} {x : Int32} (h : j < xs.length) : (Sum.inl (tc 0, xs.length, Sum.inl (upd (fun q => xs.getD q 0) j x)) : va_E) = cE ad tc (AI (xs.set j x)) := by
  have e : upd (fun q => xs.getD q 0) j x = fun q => (xs.set j x).getD q 0 := by
    funext q
    unfold upd
    by_cases hq : q = j
    · subst hq
      simp [h]
    · rw [if_neg hq]
      simp [List.getD_eq_getElem?_getD, List.getElem?_set_ne (fun z => hq z.symm)]
  rw [e]
  simp [cE]
theorem putOk_spec {ty : FieldType} {v : Value} (ad : Nat → Nat) (h : putOk ty v) : narrow ty (cV ad v) = cV ad v ∧ fits ty (cV ad v) = true := by
  unfold putOk at h
  split at h
  · exact ⟨rfl, rfl⟩
  · rcases h with rfl | rfl <;> exact ⟨rfl, rfl⟩
  · exact ⟨rfl, rfl⟩
  · exact ⟨rfl, rfl⟩
  · exact h.elim
theorem cV_dfl (ad : Nat → Nat) (a N : Nat) : (dfl a N).map (cV ad) = dfl a N := by
  unfold dfl
  rw [List.map_map]
  apply List.map_congr_left
  intro j _
  show cV ad (defaultValue _) = defaultValue _
  cases (clTy.getD a tyX0) j <;> rfl
theorem cW_push {ad tc : Nat → Nat} {hp : AH} {q : Nat} {x : AC} {z : va_E} (h : rOkH hp.length hp = true) (hz : cE (fun k => if k = hp.length then q else ad k) tc x = z) (hn : hp.length < 1000) : cW (fun k => if k = hp.length then q else ad k) tc (hp ++ [x]) = cW ad tc hp ++ [(q, z)] := by
  have e := rOkH_cW (ad := ad) (ad' := fun k => if k = hp.length then q else ad k) (tc := tc) (n := hp.length) (fun k hk => if_neg (by rcases hk with hk | hk <;> omega)) rfl h
  have : cW (fun k => if k = hp.length then q else ad k) tc (hp ++ [x]) = cW (fun k => if k = hp.length then q else ad k) tc hp ++ [((fun k => if k = hp.length then q else ad k) hp.length, cE (fun k => if k = hp.length then q else ad k) tc x)] := by
    unfold cW
    rw [List.mapIdx_append]
    simp
  rw [this, e, hz]
  simp
theorem cE_seL {ad tc : Nat → Nat} {xs : List Int64} {j : Nat} {x : Int64} (h : j < xs.length) : (Sum.inl (tc 1, xs.length, Sum.inr (Sum.inl (vp_updL (fun q => xs.getD q 0) j x))) : va_E) = cE ad tc (AL (xs.set j x)) := by
  have e : vp_updL (fun q => xs.getD q 0) j x = fun q => (xs.set j x).getD q 0 := by
    funext q
    unfold vp_updL
    by_cases hq : q = j
    · subst hq
      simp [h]
    · rw [if_neg hq]
      simp [List.getD_eq_getElem?_getD, List.getElem?_set_ne (fun z => hq z.symm)]
  rw [e]
  simp [cE]
theorem rep_cellI (cA : ClassId) (N : Nat) : vp_cell cA ((List.replicate N (0 : Int32)).length, Sum.inl (fun j => (List.replicate N (0 : Int32)).getD j 0)) = arrV cA N (fun _ => defaultValue .int) := by
  have e : (fun j => (List.replicate N (0 : Int32)).getD j 0) = fun _ => 0 := by
    funext j
    by_cases h : j < N <;> simp [List.getD_eq_getElem?_getD, List.getElem?_replicate, h]
  rw [e]
  simp [vp_cell, defaultValue]
theorem rep_cellL (cA : ClassId) (N : Nat) : vp_cell cA ((List.replicate N (0 : Int64)).length, Sum.inr (Sum.inl (fun j => (List.replicate N (0 : Int64)).getD j 0))) = arrV cA N (fun _ => defaultValue .long) := by
  have e : (fun j => (List.replicate N (0 : Int64)).getD j 0) = fun _ => 0 := by
    funext j
    by_cases h : j < N <;> simp [List.getD_eq_getElem?_getD, List.getElem?_replicate, h]
  rw [e]
  simp [vp_cell, defaultValue]
theorem swT_spec {x : Int32} {K : Nat → Prop} : ∀ {ts : List Nat} {lo : Int} {j t : Nat}, swT x lo ts K → ts[j]? = some t → x = Int32.ofInt (lo + (j : Int)) → K t := by
  intro ts
  induction ts with
  | nil => intro lo j t h hj; simp at hj
  | cons a r ih =>
    intro lo j t h hj hx
    cases j with
    | zero =>
      simp at hj
      subst hj
      exact h.1 (by rw [hx]; simp)
    | succ j => exact ih h.2 (by simpa using hj) (by rw [hx]; congr 1; omega)
theorem swL_spec {x : Int32} {K : Nat → Prop} {pc : Nat} {code : List Row} {d : Int} {a : Nat} (hd : (pc : Int) + d = (pcO code a : Int)) : ∀ {ps : List (Int × Int)} {ts : List Nat}, ps.map (fun o => (pc : Int) + o.2) = ts.map (fun t => (pcO code t : Int)) → (∀ o ∈ ps, (Int32.ofInt o.1).toInt = o.1) → swL x ps ts K → ((∀ o ∈ ps, ¬ x = Int32.ofInt o.1) → K a) → ∃ (off : Int) (t : Nat), Op.lookupswitch.offset ps d x.toInt = off ∧ (pc : Int) + off = (pcO code t : Int) ∧ K t := by
  intro ps
  induction ps with
  | nil => intro ts h1 h2 h3 h4; exact ⟨d, a, rfl, hd, h4 (fun _ z => by cases z)⟩
  | cons o r ih =>
    intro ts h1 h2 h3 h4
    cases ts with
    | nil => simp at h1
    | cons t ts =>
      simp only [List.map_cons, List.cons.injEq] at h1
      obtain ⟨a0, o0⟩ := o
      rw [Op.lookupswitch.offset_cons]
      by_cases hx : a0 = x.toInt
      · exact ⟨o0, t, if_pos hx, h1.1, h3.1 (by rw [hx]; simp)⟩
      · rw [if_neg hx]
        refine ih h1.2 (fun o ho => h2 o (List.mem_cons_of_mem _ ho)) h3.2 (fun hn => h4 (fun o ho => ?_))
        rcases List.mem_cons.mp ho with rfl | ho
        · intro z
          apply hx
          rw [z]
          exact (h2 _ List.mem_cons_self).symm
        · exact hn o ho
theorem rowI_spec {X : List (List Int32)} {hp : AH} {q : Nat} {xs : List Int32} (h : rowI X hp q = some xs) : (1000 ≤ q ∧ X[q - 1000]? = some xs) ∨ hp[q]? = some (AI xs) := by
  unfold rowI at h
  split at h
  · rename_i hq
    split at h
    · cases h
    · exact Or.inl ⟨Nat.le_of_ble_eq_true hq, h⟩
  · split at h
    · rename_i ys hy
      cases h
      exact Or.inr hy
    · cases h
