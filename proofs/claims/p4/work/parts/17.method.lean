/-- many instructions -/
theorem run_sound {l : Launch} {R : Room} {X : List (List Int32)} {g : Sig} {code : List Row} {Q : AH → Option Value → Prop} (hC : Chk g code) (cut : Nat → Bool) : ∀ (f : Nat) {i : Nat} {al : LO} {st : List Value} {hp : AH} {k n : Nat}, run l R X g code cut Q (WP l R X g code Q) f i al st hp k n → WP l R X g code Q i al st hp k n := by
  intro f
  induction f with
  | zero => intro i al st hp k n h; exact h
  | succ f ih =>
    intro i al st hp k n h
    refine stp_sound hC (fun i' al' st' hp' k' n' h' => ?_) h
    split at h'
    · exact h'
    · exact ih h'
/-- the locals at a method's entry -/
def enL : List Value → Nat → LO
  | [], n => List.replicate n none
  | v :: r, n => match v with
    | .long x => some (.long x) :: none :: enL r (n - 2)
    | .double x => some (.double x) :: none :: enL r (n - 2)
    | w => some w :: enL r (n - 1)
theorem enL_cons {v : Value} {r : List Value} {n : Nat} : enL (v :: r) n = if v.category = 2 then some v :: none :: enL r (n - 2) else some v :: enL r (n - 1) := by
  cases v <;> simp [enL, Value.category]
theorem lg_len (v : Value) (q : List Value) : (lg_sl (v :: q)).length = (if v.category = 2 then 2 else 1) + (lg_sl q).length := by
  have e : lg_sl (v :: q) = (if v.category = 2 then [Slot.val v, Slot.second] else [Slot.val v]) ++ lg_sl q := by simp [lg_sl]
  rw [e, List.length_append]
  by_cases hc : v.category = 2 <;> simp [hc]
theorem enL_spec : ∀ (as : List Value) (n i0 : Nat), (lg_sl as).length ≤ n → (enL as n).length = n ∧ ∀ (j : Nat) (v : Value), (enL as n)[j]? = some (some v) → (i0 + j, v) ∈ lv_args i0 as := by
  intro as
  induction as with
  | nil =>
    intro n i0 _
    refine ⟨by simp [enL], fun j v h => ?_⟩
    simp [enL, List.getElem?_replicate] at h
  | cons a r ih =>
    intro n i0 hn
    rw [enL_cons]
    by_cases hc : a.category = 2
    · have h2 : (lg_sl r).length + 2 ≤ n := by rw [lg_len, if_pos hc] at hn; omega
      obtain ⟨h3, h4⟩ := ih (n - 2) (i0 + 2) (by omega)
      rw [if_pos hc]
      refine ⟨by simp only [List.length_cons, h3]; omega, fun j v h => ?_⟩
      cases j with
      | zero => simp at h; subst h; simp [lv_args]
      | succ j =>
        cases j with
        | zero => simp at h
        | succ j =>
          have := h4 j v (by simpa using h)
          simp only [lv_args, hc, if_true]
          refine List.mem_cons_of_mem _ ?_
          rw [show i0 + (j + 1 + 1) = i0 + 2 + j by omega]
          exact this
    · have h2 : (lg_sl r).length + 1 ≤ n := by rw [lg_len, if_neg hc] at hn; omega
      obtain ⟨h3, h4⟩ := ih (n - 1) (i0 + 1) (by omega)
      rw [if_neg hc]
      refine ⟨by simp only [List.length_cons, h3]; omega, fun j v h => ?_⟩
      cases j with
      | zero => simp at h; subst h; simp [lv_args]
      | succ j =>
        have := h4 j v (by simpa using h)
        simp only [lv_args, hc, if_false]
        refine List.mem_cons_of_mem _ ?_
        rw [show i0 + (j + 1) = i0 + 1 + j by omega]
        exact this
theorem lv_args_cV (ad : Nat → Nat) : ∀ (as : List Value) (i : Nat) (j : Nat) (v : Value), (j, v) ∈ lv_args i as → (j, cV ad v) ∈ lv_args i (as.map (cV ad)) := by
  intro as
  induction as with
  | nil => intro i j v h; cases h
  | cons a r ih =>
    intro i j v h
    simp only [lv_args, List.map_cons, cV_cat] at h ⊢
    rcases List.mem_cons.mp h with e | h
    · cases e; exact List.mem_cons_self
    · exact List.mem_cons_of_mem _ (ih _ _ _ h)
theorem lg_sl_cV (ad : Nat → Nat) (as : List Value) : (lg_sl (as.map (cV ad))).length = (lg_sl as).length := by
  induction as with
  | nil => rfl
  | cons a r ih =>
    rw [List.map_cons, lg_len, lg_len, ih, cV_cat]
/-- A METHOD'S CONTRACT out of its run -/
theorem Ctr.of {l : Launch} {d : Nat} {X : List (List Int32)} {g : Sig} {code : List Row} {as : List Value} {hp : AH} {Rq : AH → Option Value → Prop} (hC : Chk g code) (h0 : pcO code 0 = 0) (hlen : (lg_sl as).length ≤ sL g)
    (h : WP l (rmD d (sC g) (sS g)) X g code Rq 0 (enL as (sL g)) [] hp 0 0) : Ctr l d X g as hp Rq := by
  intro D tc ad sz
  refine Met.ofW (cc := sB g) (maxL := sL g) (ret := sR g) hC.2.2.2.2 rfl ?_
  intro p e s m args below meth c s₁ B hml hv
  obtain ⟨rfl, hsz, hP, hD0, hEF⟩ := hv
  have hts := atoms_spec (ws := sgW g) B.pre
  have hts' : ∀ w ∈ TBL, w.before (as.map (cV ad)).toArray s = true := fun w hw => hts w (List.mem_cons_of_mem _ hw)
  have hown : s.vm.findClass (sY g).cls = some m.cls := findClass_of_methodNamed B.named
  have hin : meth.name = (sY g).name := (name_of_methodNamed B.named B.method).1
  have hlocks := B.notSynchronized
  have hx := B.exec
  have hb := B.bytes
  have hr := B.returns
  rw [lg_entry_eq]
  have hl := lv_entry (as.map (cV ad)) (n := sL g) (by rw [lg_sl_cV]; exact hlen)
  generalize (lg_sl (as.map (cV ad)) ++ List.replicate (sL g - (lg_sl (as.map (cV ad))).length) Slot.unset).toArray = ls at hl ⊢
  obtain ⟨e1, e2⟩ := enL_spec as (sL g) 0 hlen
  have hL : LR ad (sL g) (enL as (sL g)) ls := by
    refine ⟨e1, hl.1, hl.2.1, fun j v hj => ?_⟩
    have := lv_args_cV ad as 0 (0 + j) v (e2 j v hj)
    rw [Nat.zero_add] at this
    exact hl.2.2 _ this
  have key := h p e s m (as.map (cV ad)).toArray below meth c D tc ad ad hp.length (va_A (cW ad tc hp) sz) (MQ below (CPost (sC g) D tc ad sz hp Rq) (as.map (cV ad)).toArray s (sC g) (sS g) (va_A (cW ad tc hp) sz)) s.heap [] ls
    ⟨hx, hb, hml, hown, hts', fun z => hin.trans z, hEF, fun q hq => Or.inr (by rw [← hsz]; exact hq)⟩ ?_ ⟨hP, hD0.self, va_S.rf⟩ ⟨fun _ _ => rfl, fun _ => rfl⟩ (Nat.le_refl _) (Nat.zero_le _) (Nat.zero_le _) hL
  · rw [h0] at key
    exact key
  · intro v hp' ad' H locs k n pc ls' hR hW hak hn0 hk hn hrt
    refine W.widen hk hn ?_
    have post : ∀ t : State, t.heap = H → s.WarmedH t.vm → CPost (sC g) D tc ad sz hp Rq (as.map (cV ad)).toArray s (.returned (v.map (cV ad'))) t := fun t ht _ =>
      ⟨⟨v, hp', ad', rfl, hR, hak, hn0, by rw [ht]; exact hW.1, hW.2.1⟩, hW.2.2.F ht⟩
    cases v with
    | none => exact W.vret hx hb (hr.trans hrt.2) post hW.2.2.2.2 hrt.1
    | some w =>
      cases w with
      | int x =>
        obtain ⟨hd, t, ht, hnar⟩ := hrt
        exact W.zret hx hb (hr.trans ht) hnar post hW.2.2.2.2 hd
      | long x => exact W.lret hx hb (hr.trans hrt.2) post hW.2.2.2.2 hrt.1
      | _ => exact hrt.elim
/-- a contract says less -/
theorem Ctr.weak {l : Launch} {d : Nat} {X : List (List Int32)} {g : Sig} {as : List Value} {hp : AH} {R1 R2 : AH → Option Value → Prop} (h : Ctr l d X g as hp R1) (hR : ∀ hp' v, R1 hp' v → R2 hp' v) : Ctr l d X g as hp R2 := by
  intro D tc ad sz p e ha hc hk s m args below hf happ hP hK
  obtain ⟨n, o, h1, h2, h3, ⟨⟨v, hp', ad', g1, g2, g3⟩, hF⟩, hL⟩ := h D tc ad sz p e ha hc hk s m args below hf happ hP hK
  exact ⟨n, o, h1, h2, h3, ⟨⟨v, hp', ad', g1, hR _ _ g2, g3⟩, hF⟩, hL⟩
