section STEP
variable {p : Program} {l : Launch} {e : Env} {R : Room} {s : State} {m : MethodId} {args : Array Value} {below : List Frame} {meth : Method} {c : Code} {H : Heap} {locs : List Loc} {cells slots : Nat} {Q : State → Prop}
/-- behind a call, whatever it says -/
theorem va_callg {pc : Nat} {ls : Array Slot} {rest st0 : List Value} {A0 A1 : Nat → Prop} {H0 : Heap} {mc ms : Nat} {free : Addr → Prop} {Qa : State → Outcome → State → Prop}
    (hr : va_Run p l e R s m args below meth c H locs cells slots mc ms (F0 m pc ls st0) rest Qa free) (hS : va_S A0 H0 H locs) (hF : ∀ st oc t, Qa st oc t → va_F A1 st t) (hA : ∀ q, A1 q → A0 q) (hf : ∀ q, free q → A0 q)
    (kk : ∀ (v : Option Value) (st₀ t : State) (H1 : Heap) (locs1 : List Loc), st₀.heap = H → t.heap = H1 → Qa st₀ (.returned v) t → va_S A0 H0 H1 locs1 → W p l e R s m args below meth c H1 locs1 (cells + mc) (slots + ms) Q (F0 m (pc + 3) ls (v.toList ++ rest))) : W p l e R s m args below meth c H locs cells slots Q (F0 m pc ls st0) := by
  intro T hT X
  obtain ⟨v, st₀, t, T', L, h0, X', hL, e1, e2, hq, st⟩ := hr T hT X
  obtain ⟨hz, hk⟩ := hF _ _ _ hq
  rw [h0] at hz hk
  obtain ⟨t2, a1, b1⟩ := kk v st₀ t T'.heap (locs ++ L) h0 e1.symm hq
    ⟨Nat.le_trans hS.1 (by rw [e1]; exact hz), fun q h1 h2 => by rw [e1, hk q (Nat.lt_of_lt_of_le h1 hS.1) (fun z => h2 (hA q z))]; exact hS.2.1 q h1 h2, fun q hq => by
      rcases List.mem_append.mp hq with h | h
      · exact hS.2.2 q h
      · exact hf _ (hL q h)⟩ T' rfl X'
  exact ⟨t2, st t2 a1, b1⟩
end STEP
theorem TBL_good {ws : List Cond} (h : ∀ w ∈ ws, w ∈ TBL) : GoodIn TBL ws := fun w hw => ⟨h w hw, good_of_word (tb_good w (h w hw))⟩
theorem NWL_nest : ∀ w ∈ NWL, isNest w = true := fun w h => (List.mem_filter.mp h).2
theorem roX.kept {a : Nat} {xs : List Int32} {U : State} {H H1 : Heap} (h : roX a xs U H) (hq : H1[a]? = H[a]?) : roX a xs U H1 := by
  obtain ⟨c, h1, h2⟩ := h
  exact ⟨c, by rw [hq]; exact h1, h2⟩
theorem roX.moved {a : Nat} {xs : List Int32} {u U : State} {H : Heap} (hvm : u.vm.Alike U.vm) (h : roX a xs u H) : roX a xs U H := by
  obtain ⟨c, h1, h2, h3⟩ := h
  exact ⟨c, h1, State.isArrayOf_alike hvm h2, h3⟩
/-- what stays, at a callee's start -/
theorem EF_call {X : List (List Int32)} {D : va_G} {tc xa : Nat → Nat} {A A' : Nat → Prop} {s U : State} {H : Heap} {locs : List Loc} (h : EF X D tc xa A s) (hS : va_S A s.heap H locs) (hU : U.heap = H) (hW : s.WarmedH U.vm) (hA : ∀ q, A' q → A q) : EF X D tc xa A' U := by
  obtain ⟨h1, h2, h3, h4, h5, h6, h7, h8⟩ := h
  refine ⟨va_K.moved hW.alike h1, fun w hw => nest_warm (NWL_nest w hw) hW (h2 w hw), ?_, fun j xs hj => ?_, ?_, fun i ix tx hi ht => vk_R.warm hW (h6 i ix tx hi ht), ?_, ?_⟩
  · rw [hU]
    exact ((h3.kept (fun a g1 g2 => hS.2.1 a g1 g2)).moved hW.alike).narrow hA
  · obtain ⟨g1, g2, g3⟩ := h4 j xs hj
    rw [hU]
    exact ⟨(g1.kept (hS.2.1 _ g2 g3)).moved hW.alike, Nat.lt_of_lt_of_le g2 hS.1, fun z => g3 (hA _ z)⟩
  · rw [hU]
    exact ((h5.kept (fun a g1 g2 => hS.2.1 a g1 g2)).moved hW.alike).narrow hA
  · rw [hU]
    exact ((h7.kept (fun a g1 g2 => hS.2.1 a g1 g2)).moved hW.alike).narrow hA
  · rw [hU]
    exact h8.imp (fun z => ((z.kept (fun a g1 g2 => hS.2.1 a g1 g2)).moved hW.alike).narrow hA) (fun z => ((z.kept (fun a g1 g2 => hS.2.1 a g1 g2)).moved hW.alike).narrow hA)
theorem EF_same {X : List (List Int32)} {D : va_G} {tc xa : Nat → Nat} {A : Nat → Prop} {u U : State} (h : EF X D tc xa A u) (hh : U.heap = u.heap) (hv : U.vm = u.vm) : EF X D tc xa A U := by
  obtain ⟨h1, h2, h3, h4, h5, h6, h7, h8⟩ := h
  have ha : u.vm.Alike U.vm := by rw [hv]; exact Vm.Alike.refl u.vm
  refine ⟨va_K.moved ha h1, fun w hw => nest_same (NWL_nest w hw) hv.symm (h2 w hw), ?_, fun j xs hj => ?_, by rw [hh]; exact h5.moved ha, fun i ix tx hi ht => vk_R.same hv (h6 i ix tx hi ht), by rw [hh]; exact h7.moved ha, by rw [hh]; exact h8.imp (fun z => z.moved ha) (fun z => z.moved ha)⟩
  · rw [hh]; exact h3.moved ha
  · obtain ⟨g1, g2, g3⟩ := h4 j xs hj
    rw [hh]
    exact ⟨g1.moved ha, g2, g3⟩
theorem CPre_blind {as : List Value} {X : List (List Int32)} {D : va_G} {tc ad : Nat → Nat} {sz : Nat} {hp : AH} : FrameBlind (va_Pc as (CPre X D tc ad sz hp)) := by
  intro a U g mk ⟨h1, h2, h3, h4, h5⟩
  exact ⟨h1, h2, h3, h4, EF_same h5 rfl rfl⟩
theorem va_D_A {A : Nat → Prop} {ws : va_W} {s : State} {H : Heap} {locs : List Loc} (hD : va_D A ws) (hS : va_S A s.heap H locs) (hA : ∀ q, s.heap.size ≤ q → A q) : ∀ q, va_A ws H.size q → A q := by
  intro q h
  rcases h with ⟨k, e, h⟩ | h
  · exact hD.2 k (q, e) h
  · exact hA q (Nat.le_trans hS.1 h)
/-- what holds of a method's activation -/
def AF (X : List (List Int32)) (g : Sig) (p : Program) (s : State) (m : MethodId) (args : Array Value) (meth : Method) (c : Code) (D : va_G) (tc xa : Nat → Nat) (A : Nat → Prop) : Prop :=
  p.tables.exec = Jvm.exec ∧ c.code = sB g ∧ c.maxLocals = sL g ∧ s.vm.findClass (sY g).cls = some m.cls ∧ (∀ w ∈ TBL, w.before args s = true) ∧ ((sY g).name = "<init>" → meth.name = "<init>") ∧ EF X D tc xa A s ∧ ∀ q, s.heap.size ≤ q → A q
def WR (D : va_G) (tc ad : Nat → Nat) (A : Nat → Prop) (s : State) (hp : AH) (H : Heap) (locs : List Loc) : Prop := va_P D vwCl (cW ad tc hp) H ∧ va_D A (cW ad tc hp) ∧ va_S A s.heap H locs
def rtD (g : Sig) (pc : Nat) (v : Option Value) : Prop := match v with
  | none => decode (sB g) pc = .ok (.return_, 1) ∧ sR g = none
  | some (.int x) => decode (sB g) pc = .ok (.ireturn, 1) ∧ ∃ t, sR g = some t ∧ narrow t (.int x) = .int x
  | some (.long _) => decode (sB g) pc = .ok (.lreturn, 1) ∧ sR g = some .long
  | _ => False
/-- a return comes to the end that is sought -/
def RZ (l : Launch) (R : Room) (g : Sig) (Q : AH → Option Value → Prop) (p : Program) (e : Env) (s : State) (m : MethodId) (args : Array Value) (below : List Frame) (meth : Method) (c : Code) (D : va_G) (tc ad0 : Nat → Nat) (n0 : Nat) (A : Nat → Prop) (Z : State → Prop) : Prop :=
  ∀ (v : Option Value) (hp : AH) (ad : Nat → Nat) (H : Heap) (locs : List Loc) (k n pc : Nat) (ls : Array Slot), Q hp v → WR D tc ad A s hp H locs → adK n0 R.cells ad0 ad → n0 ≤ hp.length → k ≤ R.cells → n ≤ R.slots → rtD g pc v → W p l e R s m args below meth c H locs k n Z (F0 m pc ls (v.toList.map (cV ad)))
/-- from here the machine comes to an end that is sought -/
def WP (l : Launch) (R : Room) (X : List (List Int32)) (g : Sig) (code : List Row) (Q : AH → Option Value → Prop) : PP := fun i al st hp k n =>
  ∀ (p : Program) (e : Env) (s : State) (m : MethodId) (args : Array Value) (below : List Frame) (meth : Method) (c : Code) (D : va_G) (tc ad ad0 : Nat → Nat) (n0 : Nat) (A : Nat → Prop) (Z : State → Prop) (H : Heap) (locs : List Loc) (ls : Array Slot),
    AF X g p s m args meth c D tc (fun j => ad0 (1000 + j)) A → RZ l R g Q p e s m args below meth c D tc ad0 n0 A Z → WR D tc ad A s hp H locs → adK n0 R.cells ad0 ad → n0 ≤ hp.length → k ≤ R.cells → n ≤ R.slots → LR ad (sL g) al ls →
      W p l e R s m args below meth c H locs k n Z (F0 m (pcO code i) ls (st.map (cV ad)))
