theorem sg_good {g : Sig} (h : Cond.code (sY g) (sB g) (sL g) (sR g) ∈ TBL) : GoodIn TBL (sgW g) := TBL_good (fun w hw => (List.mem_cons.mp hw).elim (fun e => by rw [e]; exact h) id)
theorem adK.trans {n0 n1 M mc : Nat} {ad0 ad ad' : Nat → Nat} (h : adK n0 M ad0 ad) (h' : adK n1 mc ad ad') (hn : n0 ≤ n1) (hm : mc ≤ M) : adK n0 M ad0 ad' :=
  ⟨fun k hk => (h'.1 k (hk.imp (fun q => by omega) id)).trans (h.1 k hk), fun hM => (h'.2 (by omega)).trans (h.2 hM)⟩
section CALLS
variable {p : Program} {l : Launch} {e : Env} {R : Room} {s : State} {m : MethodId} {args : Array Value} {below : List Frame} {meth : Method} {c : Code} {H : Heap} {locs : List Loc} {k n : Nat} {Z : State → Prop}
variable {X : List (List Int32)} {g cs : Sig} {D : va_G} {tc ad ad0 : Nat → Nat} {A : Nat → Prop} {hp : AH} {ls : Array Slot} {pc : Nat} {as r st0 : List Value} {Rq : AH → Option Value → Prop} {d' ix : Nat}
theorem call_end {a0 : Array Value} (hrun : va_Run p l e R s m args below meth c H locs k n (sC cs) (sS cs) (F0 m pc ls st0) (r.map (cV ad)) (CPost (sC cs) D tc ad H.size hp Rq a0) (va_A (cW ad tc hp) H.size))
    (hW : WR D tc ad A s hp H locs) (hA : ∀ q, s.heap.size ≤ q → A q)
    (kk : ∀ (v : Option Value) (hp' : AH) (ad' : Nat → Nat) (H' : Heap) (locs' : List Loc), Rq hp' v → adK hp.length (sC cs) ad ad' → hp.length ≤ hp'.length → WR D tc ad' A s hp' H' locs' → W p l e R s m args below meth c H' locs' (k + sC cs) (n + sS cs) Z (F0 m (pc + 3) ls (v.toList.map (cV ad') ++ r.map (cV ad)))) :
    W p l e R s m args below meth c H locs k n Z (F0 m pc ls st0) := by
  obtain ⟨hP, hD, hS⟩ := hW
  have hAA := va_D_A hD hS hA
  refine va_callg hrun hS (fun st oc t h => h.2) hAA hAA (fun v st₀ t H1 locs1 h0 h1 hq hS1 => ?_)
  obtain ⟨⟨w, hp', ad', ho, hR, hak, hln, hP', hD'⟩, -⟩ := hq
  cases ho
  have := kk w hp' ad' H1 locs1 hR hak hln ⟨by rw [← h1]; exact hP', hD'.weaken (fun _ _ _ h => hAA _ h), hS1⟩
  cases w <;> exact this
theorem call_pre (hW : WR D tc ad A s hp H locs) (hA : ∀ q, s.heap.size ≤ q → A q) (hEF : EF X D tc (fun j => ad (1000 + j)) A s) : PreS s H (va_Pc (as.map (cV ad)) (CPre X D tc ad H.size hp)) (as.map (cV ad)) :=
  ⟨CPre_blind, fun U hU hw => ⟨rfl, by rw [hU], by rw [hU]; exact hW.1, hW.2.1.weaken (fun _ _ _ _ => trivial), EF_call hEF hW.2.2 hU hw (va_D_A hW.2.1 hW.2.2 hA)⟩⟩
theorem call_room (hc : catN r ≤ 8) : 2 * (F0 m pc ls st0).monitorRoom + ((r.map (cV ad)).map fun v => v.category).sum ≤ 8 := lv_room (pc := pc) (m := m) (ls := ls) (rest := st0) (by rw [catN_sum]; exact hc)
/-- a static method -/
theorem call_st (hC : Ctr l d' X cs as hp Rq) (S : CallFix p m c (sB g) (sL g) s args TBL (sY g).cls) (hW : WR D tc ad A s hp H locs) (hA : ∀ q, s.heap.size ≤ q → A q) (hEF : EF X D tc (fun j => ad (1000 + j)) A s) (hLs : ls.size = sL g)
    (hd : decode (sB g) pc = .ok (.invokestatic ix, 3)) (hc : catN r ≤ 8) (hn : as.length = sA cs) (hsg : sgOk cs (sA cs) = true) (hT : ∀ w ∈ [Cond.static (sY cs), .initialized (sY cs).cls, .code (sY cs) (sB cs) (sL cs) (sR cs)], w ∈ TBL) {own : String} (hown : own = (sY g).cls) {z : Int}
    (hT0 : z = 0 → Cond.methodLink own ix (sY cs) ∈ TBL) (hN : z = 1 → Cond.methodLinkNest own ix (sY cs) "SaidTwice" ∈ NWL) (hz : z = 0 ∨ z = 1)
    (hR : d' + 1 ≤ R.frames ∧ 8 + (sL cs + 11) + 64 * d' ≤ R.locals ∧ k + sC cs ≤ R.cells ∧ n + sS cs ≤ R.slots)
    (kk : ∀ (v : Option Value) (hp' : AH) (ad' : Nat → Nat) (H' : Heap) (locs' : List Loc), Rq hp' v → adK hp.length (sC cs) ad ad' → hp.length ≤ hp'.length → WR D tc ad' A s hp' H' locs' → W p l e R s m args below meth c H' locs' (k + sC cs) (n + sS cs) Z (F0 m (pc + 3) ls (v.toList.map (cV ad') ++ r.map (cV ad)))) :
    W p l e R s m args below meth c H locs k n Z (F0 m pc ls ((as.reverse ++ r).map (cV ad))) := by
  subst hown
  have hts := S.2.2.2.2
  simp only [sgOk, Bool.and_eq_true, decide_eq_true_eq] at hsg
  have hcode : Cond.code (sY cs) (sB cs) (sL cs) (sR cs) ∈ TBL := hT _ (by simp)
  have hG : GoodIn TBL (sgW cs) := sg_good hcode
  have hini := hts (.initialized (sY cs).cls) (hT _ (by simp))
  have hst := hts (.static (sY cs)) (hT _ (by simp))
  have hstack : (as.reverse ++ r).map (cV ad) = (as.map (cV ad)).reverse ++ r.map (cV ad) := by simp
  have hCS := hC D tc ad H.size
  refine call_end (a0 := (as.map (cV ad)).toArray) ?_ hW hA kk
  rcases hz with rfl | rfl
  · have hlink := hts (.methodLink (sY g).cls ix (sY cs)) (hT0 rfl)
    exact va_runS S hCS ⟨callB_of (sA cs) hts hG rfl rfl rfl hini hlink ⟨hsg.1.1, hsg.1.2, hsg.2⟩ ⟨hR.1, hR.2.1⟩, hst⟩ (call_pre hW hA hEF) rfl (by simp [hn]) hLs hstack (call_room hc) hd ⟨hR.2.2.1, hR.2.2.2⟩
  · have hlink := S
    exact va_runSN S hCS ⟨va_cnB (sA cs) hts hG rfl rfl rfl (hEF.2.1 _ (hN rfl)) hini ⟨hsg.1.1, hsg.1.2, hsg.2⟩ ⟨hR.1, hR.2.1⟩, hst, trivial⟩ (call_pre hW hA hEF) rfl (by simp [hn]) hLs hstack (call_room hc) hd ⟨hR.2.2.1, hR.2.2.2⟩
/-- a method of an object -/
theorem call_vi (hC : Ctr l d' X cs as hp Rq) (S : CallFix p m c (sB g) (sL g) s args TBL (sY g).cls) (hW : WR D tc ad A s hp H locs) (hA : ∀ q, s.heap.size ≤ q → A q) (hEF : EF X D tc (fun j => ad (1000 + j)) A s) (hLs : ls.size = sL g)
    (hd : decode (sB g) pc = .ok (.invokevirtual ix, 3)) (hc : catN r ≤ 8) (hn : as.length = sA cs) {q a : Nat} {as' : List Value} (has : as = .ref q :: as') (hsg : sgOk cs (sA cs - 1) = true) {fs : List Value} (hq : hp[q]? = some (AO a fs)) (hcl : clOk a 0 = true) (hcn : (sY cs).cls = clN a) (hT : ∀ w ∈ [Cond.instanceMethod (sY cs), .selects (clN a) (sY cs) (sY cs), .initialized (sY cs).cls, .code (sY cs) (sB cs) (sL cs) (sR cs)], w ∈ TBL) {own : String} (hown : own = (sY g).cls) {z : Int}
    (hT0 : z = 0 → Cond.methodLink own ix (sY cs) ∈ TBL) (hN : z = 1 → Cond.methodLinkNest own ix (sY cs) "SaidTwice" ∈ NWL) (hz : z = 0 ∨ z = 1)
    (hR : d' + 1 ≤ R.frames ∧ 8 + (sL cs + 11) + 64 * d' ≤ R.locals ∧ k + sC cs ≤ R.cells ∧ n + sS cs ≤ R.slots)
    (kk : ∀ (v : Option Value) (hp' : AH) (ad' : Nat → Nat) (H' : Heap) (locs' : List Loc), Rq hp' v → adK hp.length (sC cs) ad ad' → hp.length ≤ hp'.length → WR D tc ad' A s hp' H' locs' → W p l e R s m args below meth c H' locs' (k + sC cs) (n + sS cs) Z (F0 m (pc + 3) ls (v.toList.map (cV ad') ++ r.map (cV ad)))) :
    W p l e R s m args below meth c H locs k n Z (F0 m pc ls ((as.reverse ++ r).map (cV ad))) := by
  subst hown
  subst has
  have hts := S.2.2.2.2
  simp only [sgOk, Bool.and_eq_true, decide_eq_true_eq] at hsg
  have hcode : Cond.code (sY cs) (sB cs) (sL cs) (sR cs) ∈ TBL := hT _ (by simp)
  have hG : GoodIn TBL (sgW cs) := sg_good hcode
  have hini := hts (.initialized (sY cs).cls) (hT _ (by simp))
  have hin := hts (.instanceMethod (sY cs)) (hT _ (by simp))
  have hse : (Cond.selects (sY cs).cls (sY cs) (sY cs)).before args s = true := by rw [hcn]; exact hts (.selects (clN a) (sY cs) (sY cs)) (hT _ (by simp))
  have hstack : ((Value.ref q :: as').reverse ++ r).map (cV ad) = (as'.map (cV ad)).reverse ++ .ref (ad q) :: r.map (cV ad) := by simp [cV]
  have hCS := hC D tc ad H.size
  obtain ⟨hcl1, -, -⟩ := cl_all hcl
  have hrecv := va_recv hEF.1 hW.1 hcl1 (cW_get (ad := ad) (tc := tc) hq)
  have hpre := call_pre (as := .ref q :: as') hW hA hEF
  have hp' : PreV s H (sY cs).cls (ad q) (va_Pc ((Value.ref q :: as').map (cV ad)) (CPre X D tc ad H.size hp)) (as'.map (cV ad)) := ⟨hpre.1, by rw [hcn]; exact hrecv, hpre.2⟩
  have hn' : as'.length = sA cs - 1 := by simp at hn; omega
  refine call_end (a0 := ((Value.ref q :: as').map (cV ad)).toArray) ?_ hW hA kk
  rcases hz with rfl | rfl
  · have hlink := hts (.methodLink (sY g).cls ix (sY cs)) (hT0 rfl)
    exact va_runV S hCS ⟨callB_of (sA cs - 1) hts hG rfl rfl rfl hini hlink ⟨hsg.1.1, hsg.1.2, hsg.2⟩ ⟨hR.1, hR.2.1⟩, hin, hse⟩ hp' rfl (by simp [hn']) hLs hstack (call_room hc) hd ⟨hR.2.2.1, hR.2.2.2⟩
  · exact va_runVN S hCS ⟨va_cnB (sA cs - 1) hts hG rfl rfl rfl (hEF.2.1 _ (hN rfl)) hini ⟨hsg.1.1, hsg.1.2, hsg.2⟩ ⟨hR.1, hR.2.1⟩, hin, hse⟩ hp' rfl (by simp [hn']) hLs hstack (call_room hc) hd ⟨hR.2.2.1, hR.2.2.2⟩
/-- a method of a String constant -/
theorem call_vs (hC : Ctr l d' X cs as hp Rq) (S : CallFix p m c (sB g) (sL g) s args TBL (sY g).cls) (hW : WR D tc ad A s hp H locs) (hA : ∀ q, s.heap.size ≤ q → A q) (hEF : EF X D tc (fun j => ad (1000 + j)) A s) (hLs : ls.size = sL g)
    (hd : decode (sB g) pc = .ok (.invokevirtual ix, 3)) (hc : catN r ≤ 8) (hn : as.length = sA cs) {q i : Nat} {as' : List Value} (has : as = .ref q :: as') (hsg : sgOk cs (sA cs - 1) = true) (hq : strQ q = some i) (hcn : (sY cs).cls = "java/lang/String") (hT : ∀ w ∈ [Cond.instanceMethod (sY cs), .selects "java/lang/String" (sY cs) (sY cs), .initialized (sY cs).cls, .code (sY cs) (sB cs) (sL cs) (sR cs)], w ∈ TBL) {own : String} (hown : own = (sY g).cls) {z : Int}
    (hT0 : z = 0 → Cond.methodLink own ix (sY cs) ∈ TBL) (hN : z = 1 → Cond.methodLinkNest own ix (sY cs) "SaidTwice" ∈ NWL) (hz : z = 0 ∨ z = 1)
    (hR : d' + 1 ≤ R.frames ∧ 8 + (sL cs + 11) + 64 * d' ≤ R.locals ∧ k + sC cs ≤ R.cells ∧ n + sS cs ≤ R.slots)
    (kk : ∀ (v : Option Value) (hp' : AH) (ad' : Nat → Nat) (H' : Heap) (locs' : List Loc), Rq hp' v → adK hp.length (sC cs) ad ad' → hp.length ≤ hp'.length → WR D tc ad' A s hp' H' locs' → W p l e R s m args below meth c H' locs' (k + sC cs) (n + sS cs) Z (F0 m (pc + 3) ls (v.toList.map (cV ad') ++ r.map (cV ad)))) :
    W p l e R s m args below meth c H locs k n Z (F0 m pc ls ((as.reverse ++ r).map (cV ad))) := by
  subst hown
  subst has
  have hts := S.2.2.2.2
  simp only [sgOk, Bool.and_eq_true, decide_eq_true_eq] at hsg
  have hcode : Cond.code (sY cs) (sB cs) (sL cs) (sR cs) ∈ TBL := hT _ (by simp)
  have hG : GoodIn TBL (sgW cs) := sg_good hcode
  have hini := hts (.initialized (sY cs).cls) (hT _ (by simp))
  have hin := hts (.instanceMethod (sY cs)) (hT _ (by simp))
  have hse : (Cond.selects (sY cs).cls (sY cs) (sY cs)).before args s = true := by rw [hcn]; exact hts (.selects "java/lang/String" (sY cs) (sY cs)) (hT _ (by simp))
  have hstack : ((Value.ref q :: as').reverse ++ r).map (cV ad) = (as'.map (cV ad)).reverse ++ .ref (ad q) :: r.map (cV ad) := by simp [cV]
  have hCS := hC D tc ad H.size
  obtain ⟨eq, hi⟩ := strQ_spec hq
  have hrecv : ∃ cell : Cell, H[ad q]? = some cell ∧ cell.vm.isStatics = false ∧ s.vm.findClass "java/lang/String" = some cell.cls := by
    have z := vk_recv hEF.2.2.2.2.1 hi hW.2.2
    have e1 : 1000 + (100 + i) = q := by omega
    simp only [e1] at z
    exact z
  have hpre := call_pre (as := .ref q :: as') hW hA hEF
  have hp' : PreV s H (sY cs).cls (ad q) (va_Pc ((Value.ref q :: as').map (cV ad)) (CPre X D tc ad H.size hp)) (as'.map (cV ad)) := ⟨hpre.1, by rw [hcn]; exact hrecv, hpre.2⟩
  have hn' : as'.length = sA cs - 1 := by simp at hn; omega
  refine call_end (a0 := ((Value.ref q :: as').map (cV ad)).toArray) ?_ hW hA kk
  rcases hz with rfl | rfl
  · have hlink := hts (.methodLink (sY g).cls ix (sY cs)) (hT0 rfl)
    exact va_runV S hCS ⟨callB_of (sA cs - 1) hts hG rfl rfl rfl hini hlink ⟨hsg.1.1, hsg.1.2, hsg.2⟩ ⟨hR.1, hR.2.1⟩, hin, hse⟩ hp' rfl (by simp [hn']) hLs hstack (call_room hc) hd ⟨hR.2.2.1, hR.2.2.2⟩
  · exact va_runVN S hCS ⟨va_cnB (sA cs - 1) hts hG rfl rfl rfl (hEF.2.1 _ (hN rfl)) hini ⟨hsg.1.1, hsg.1.2, hsg.2⟩ ⟨hR.1, hR.2.1⟩, hin, hse⟩ hp' rfl (by simp [hn']) hLs hstack (call_room hc) hd ⟨hR.2.2.1, hR.2.2.2⟩
/-- a constructor -/
theorem call_sp (hC : Ctr l d' X cs as hp Rq) (S : CallFix p m c (sB g) (sL g) s args TBL (sY g).cls) (hW : WR D tc ad A s hp H locs) (hA : ∀ q, s.heap.size ≤ q → A q) (hEF : EF X D tc (fun j => ad (1000 + j)) A s) (hLs : ls.size = sL g)
    (hd : decode (sB g) pc = .ok (.invokespecial ix, 3)) (hc : catN r ≤ 8) (hn : as.length = sA cs) {q : Nat} {as' : List Value} (has : as = .ref q :: as') (hsg : sgOk cs (sA cs - 1) = true) (hinit : (sY cs).name = "<init>") (hret : sR cs = none) (hT : ∀ w ∈ [Cond.instanceMethod (sY cs), .initialized (sY cs).cls, .code (sY cs) (sB cs) (sL cs) (sR cs)], w ∈ TBL) {own : String} (hown : own = (sY g).cls) {z : Int}
    (hT0 : z = 0 → Cond.methodLink own ix (sY cs) ∈ TBL) (hN : z = 1 → Cond.methodLinkNest own ix (sY cs) "SaidTwice" ∈ NWL) (hz : z = 0 ∨ z = 1)
    (hR : d' + 1 ≤ R.frames ∧ 8 + (sL cs + 11) + 64 * d' ≤ R.locals ∧ k + sC cs ≤ R.cells ∧ n + sS cs ≤ R.slots)
    (kk : ∀ (v : Option Value) (hp' : AH) (ad' : Nat → Nat) (H' : Heap) (locs' : List Loc), Rq hp' v → adK hp.length (sC cs) ad ad' → hp.length ≤ hp'.length → WR D tc ad' A s hp' H' locs' → W p l e R s m args below meth c H' locs' (k + sC cs) (n + sS cs) Z (F0 m (pc + 3) ls (v.toList.map (cV ad') ++ r.map (cV ad)))) :
    W p l e R s m args below meth c H locs k n Z (F0 m pc ls ((as.reverse ++ r).map (cV ad))) := by
  subst hown
  subst has
  have hts := S.2.2.2.2
  simp only [sgOk, Bool.and_eq_true, decide_eq_true_eq] at hsg
  have hcode : Cond.code (sY cs) (sB cs) (sL cs) (sR cs) ∈ TBL := hT _ (by simp)
  have hG : GoodIn TBL (sgW cs) := sg_good hcode
  have hini := hts (.initialized (sY cs).cls) (hT _ (by simp))
  have hin := hts (.instanceMethod (sY cs)) (hT _ (by simp))
  have hstack : ((Value.ref q :: as').reverse ++ r).map (cV ad) = (as'.map (cV ad)).reverse ++ .ref (ad q) :: r.map (cV ad) := by simp [cV]
  have hCS := hC D tc ad H.size
  have hpre := call_pre (as := .ref q :: as') hW hA hEF
  have hn' : as'.length = sA cs - 1 := by simp at hn; omega
  have hwc : sgW cs = Cond.code (sY cs) (sB cs) (sL cs) none :: TBL := by rw [← hret]; rfl
  refine call_end (a0 := ((Value.ref q :: as').map (cV ad)).toArray) ?_ hW hA kk
  rcases hz with rfl | rfl
  · have hlink := hts (.methodLink (sY g).cls ix (sY cs)) (hT0 rfl)
    exact va_runI S hCS ⟨callB_of (sA cs - 1) hts hG hwc rfl rfl hini hlink ⟨hsg.1.1, hsg.1.2, hsg.2⟩ ⟨hR.1, hR.2.1⟩, hinit, hin⟩ hpre rfl (by simp [hn']) hLs hstack (call_room hc) hd ⟨hR.2.2.1, hR.2.2.2⟩
  · exact va_runIN S hCS ⟨va_cnB (sA cs - 1) hts hG hwc rfl rfl (hEF.2.1 _ (hN rfl)) hini ⟨hsg.1.1, hsg.1.2, hsg.2⟩ ⟨hR.1, hR.2.1⟩, hinit, hin⟩ hpre rfl (by simp [hn']) hLs hstack (call_room hc) hd ⟨hR.2.2.1, hR.2.2.2⟩
end CALLS
