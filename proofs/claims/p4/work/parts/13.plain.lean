theorem bd {a b : Prop} [Decidable a] [Decidable b] (h : (decide a && decide b) = true) : a ∧ b := by simpa using h
theorem bt {a : Prop} [Decidable a] {b : Bool} (h : (decide a && b) = true) : a ∧ b = true := by simpa using h
theorem iU_spec {f : Int32 → Int32} {st : List Value} {K : PK} (h : iU f st K) : ∃ x r, st = .int x :: r ∧ K (.int (f x) :: r) := by
  unfold iU at h; split at h
  · exact ⟨_, _, rfl, h⟩
  · exact h.elim
theorem iB_spec {f : Int32 → Int32 → Int32} {st : List Value} {K : PK} (h : iB f st K) : ∃ y x r, st = .int y :: .int x :: r ∧ K (.int (f x y) :: r) := by
  unfold iB at h; split at h
  · exact ⟨_, _, _, rfl, h⟩
  · exact h.elim
theorem iD_spec {f : Int32 → Int32 → Int32} {st : List Value} {K : PK} (h : iD f st K) : ∃ y x r, st = .int y :: .int x :: r ∧ ¬ y = 0 ∧ K (.int (f x y) :: r) := by
  unfold iD at h; split at h
  · exact ⟨_, _, _, rfl, h⟩
  · exact h.elim
theorem jB_spec {f : Int64 → Int64 → Int64} {st : List Value} {K : PK} (h : jB f st K) : ∃ y x r, st = .long y :: .long x :: r ∧ K (.long (f x y) :: r) := by
  unfold jB at h; split at h
  · exact ⟨_, _, _, rfl, h⟩
  · exact h.elim
theorem jD_spec {f : Int64 → Int64 → Int64} {st : List Value} {K : PK} (h : jD f st K) : ∃ y x r, st = .long y :: .long x :: r ∧ ¬ y = 0 ∧ K (.long (f x y) :: r) := by
  unfold jD at h; split at h
  · exact ⟨_, _, _, rfl, h⟩
  · exact h.elim
theorem jS_spec {f : Int64 → Int32 → Int64} {st : List Value} {K : PK} (h : jS f st K) : ∃ y x r, st = .int y :: .long x :: r ∧ K (.long (f x y) :: r) := by
  unfold jS at h; split at h
  · exact ⟨_, _, _, rfl, h⟩
  · exact h.elim
theorem jC_spec {st : List Value} {K : PK} (h : jC st K) : ∃ y x r, st = .long y :: .long x :: r ∧ K (.int (lg_cmp x y) :: r) := by
  unfold jC at h; split at h
  · exact ⟨_, _, _, rfl, h⟩
  · exact h.elim
theorem ijU_spec {st : List Value} {K : PK} (h : ijU st K) : ∃ x r, st = .int x :: r ∧ K (.long x.toInt64 :: r) := by
  unfold ijU at h; split at h
  · exact ⟨_, _, rfl, h⟩
  · exact h.elim
theorem jiU_spec {st : List Value} {K : PK} (h : jiU st K) : ∃ x r, st = .long x :: r ∧ K (.int x.toInt32 :: r) := by
  unfold jiU at h; split at h
  · exact ⟨_, _, rfl, h⟩
  · exact h.elim
theorem icC_spec {q : Int32 → Int32 → Prop} {st : List Value} {T F : PK} (h : icC q st T F) : ∃ y x r, st = .int y :: .int x :: r ∧ (q x y → T r) ∧ (¬ q x y → F r) := by
  unfold icC at h; split at h
  · exact ⟨_, _, _, rfl, h⟩
  · exact h.elim
theorem izC_spec {q : Int32 → Prop} {st : List Value} {T F : PK} (h : izC q st T F) : ∃ x r, st = .int x :: r ∧ (q x → T r) ∧ (¬ q x → F r) := by
  unfold izC at h; split at h
  · exact ⟨_, _, rfl, h⟩
  · exact h.elim
theorem rfN_spec {st : List Value} {K : PK} (h : rfN st K) : ∃ x r, st = .ref x :: r ∧ K r := by
  unfold rfN at h; split at h
  · exact ⟨_, _, rfl, h⟩
  · exact h.elim
theorem ldI_spec {ls : LO} {j : Nat} {K : Value → Prop} (h : ldI ls j K) : ∃ x, ls[j]? = some (some (.int x)) ∧ K (.int x) := by
  unfold ldI at h; split at h
  · rename_i x e; exact ⟨x, e, h⟩
  · exact h.elim
theorem ldL_spec {ls : LO} {j : Nat} {K : Value → Prop} (h : ldL ls j K) : ∃ x, ls[j]? = some (some (.long x)) ∧ K (.long x) := by
  unfold ldL at h; split at h
  · rename_i x e; exact ⟨x, e, h⟩
  · exact h.elim
theorem ldA_spec {ls : LO} {j : Nat} {K : Value → Prop} (h : ldA ls j K) : ∃ x, ls[j]? = some (some (.ref x)) ∧ K (.ref x) := by
  unfold ldA at h; split at h
  · rename_i x e; exact ⟨x, e, h⟩
  · exact h.elim
theorem stI_spec {ls : LO} {j : Nat} {st : List Value} {K : LO → List Value → Prop} (h : stI ls j st K) : ∃ x r, st = .int x :: r ∧ stO ls j (.int x) (fun l => K l r) := by
  unfold stI at h; split at h
  · exact ⟨_, _, rfl, h⟩
  · exact h.elim
theorem stA_spec {ls : LO} {j : Nat} {st : List Value} {K : LO → List Value → Prop} (h : stA ls j st K) : ∃ x r, st = .ref x :: r ∧ stO ls j (.ref x) (fun l => K l r) := by
  unfold stA at h; split at h
  · exact ⟨_, _, rfl, h⟩
  · exact h.elim
theorem stL_spec {ls : LO} {j : Nat} {st : List Value} {K : LO → List Value → Prop} (h : stL ls j st K) : ∃ x r, st = .long x :: r ∧ stT ls j (.long x) (fun l => K l r) := by
  unfold stL at h; split at h
  · exact ⟨_, _, rfl, h⟩
  · exact h.elim

set_option maxHeartbeats 4000000 in
set_option maxRecDepth 100000 in
theorem stp_plain {l : Launch} {R : Room} {X : List (List Int32)} {g : Sig} {code : List Row} {Q : AH → Option Value → Prop} {P : PP} (hC : Chk g code)
    {i : Nat} {al : LO} {st : List Value} {hp : AH} {k n : Nat} {ins : Instr} {pc nx a b : Nat} {cc : Int} {ts : List Nat} {cs : Sig} (hB : rowB g code (ins, pc, nx, a, b, cc, ts, cs) = true) (hT : ∀ w ∈ needT (sY g).cls (ins, pc, nx, a, b, cc, ts, cs), w ∈ TBL)
    (hrow : code[i]? = some (ins, pc, nx, a, b, cc, ts, cs)) (h : stp l R X g code Q P i al st hp k n)
    {p : Program} {e : Env} {s : State} {m : MethodId} {args : Array Value} {below : List Frame} {meth : Method} {c : Code} {D : va_G} {tc ad : Nat → Nat} {A : Nat → Prop} {Z : State → Prop} {H : Heap} {locs : List Loc} {ls : Array Slot}
    (hx : p.tables.exec = Jvm.exec) (hb : c.code = sB g) (hown : s.vm.findClass (sY g).cls = some m.cls) (hts : ∀ w ∈ TBL, w.before args s = true) (hL : LR ad (sL g) al ls)
    (go : ∀ {i' pc' : Nat} {al' : LO} {st' : List Value} {ls' : Array Slot}, pcO code i' = pc' → P i' al' st' hp k n → LR ad (sL g) al' ls' → W p l e R s m args below meth c H locs k n Z (F0 m pc' ls' (st'.map (cV ad))))
    (other : (match ins with
      | .ldc _ | .baload | .arraylength | .iaload | .iastore | .laload | .lastore | .getfield _ | .putfield _ | .getstatic _ | .new _ | .newarray _ | .invokevirtual _ | .invokestatic _ | .invokespecial _ | .ireturn | .lreturn | .return_ | .tableswitch _ _ _ _ | .lookupswitch _ _ => True
      | _ => False) → W p l e R s m args below meth c H locs k n Z (F0 m pc ls (st.map (cV ad)))) :
    W p l e R s m args below meth c H locs k n Z (F0 m pc ls (st.map (cV ad))) := by
  unfold stp at h
  rw [hrow] at h
  dsimp only at h
  have hLh := hL.has
  cases ins
  case aload_n j =>
    obtain ⟨hd, hnx⟩ := bd hB
    obtain ⟨x, hj, h⟩ := ldA_spec h
    refine lv_aload_n hx hb hd rfl (hL.2.2.2 _ _ hj) ?_
    exact go hnx h hL
  case aload j =>
    obtain ⟨hd, hnx⟩ := bd hB
    obtain ⟨x, hj, h⟩ := ldA_spec h
    refine lv_aload hx hb hd (hL.2.2.2 _ _ hj) ?_
    exact go hnx h hL
  case iload_n j =>
    obtain ⟨hd, hnx⟩ := bd hB
    obtain ⟨x, hj, h⟩ := ldI_spec h
    refine lv_iload_n hx hb hd rfl (hL.2.2.2 _ _ hj) ?_
    exact go hnx h hL
  case iload j =>
    obtain ⟨hd, hnx⟩ := bd hB
    obtain ⟨x, hj, h⟩ := ldI_spec h
    refine lv_iload hx hb hd (hL.2.2.2 _ _ hj) ?_
    exact go hnx h hL
  case lload_n j =>
    obtain ⟨hd, hnx⟩ := bd hB
    obtain ⟨x, hj, h⟩ := ldL_spec h
    refine lv_lload_n hx hb hd rfl (hL.2.2.2 _ _ hj) ?_
    exact go hnx h hL
  case lload j =>
    obtain ⟨hd, hnx⟩ := bd hB
    obtain ⟨x, hj, h⟩ := ldL_spec h
    refine lv_lload hx hb hd (hL.2.2.2 _ _ hj) ?_
    exact go hnx h hL
  case istore_n j =>
    obtain ⟨hd, hnx⟩ := bd hB
    obtain ⟨x, r, rfl, h⟩ := stI_spec h
    obtain ⟨h1, h2, h3⟩ := stO_spec h
    refine lv_istore_n hx hb hd rfl hLh (by rw [← hL.1]; exact h1) rfl (fun ls' hl' => ?_)
    exact go hnx h2 (LR.st1 hL.1 h1 h3 hl')
  case istore j =>
    obtain ⟨hd, hnx⟩ := bd hB
    obtain ⟨x, r, rfl, h⟩ := stI_spec h
    obtain ⟨h1, h2, h3⟩ := stO_spec h
    refine lv_istore hx hb hd hLh (by rw [← hL.1]; exact h1) rfl (fun ls' hl' => ?_)
    exact go hnx h2 (LR.st1 hL.1 h1 h3 hl')
  case astore_n j =>
    obtain ⟨hd, hnx⟩ := bd hB
    obtain ⟨x, r, rfl, h⟩ := stA_spec h
    obtain ⟨h1, h2, h3⟩ := stO_spec h
    refine lv_astore_n hx hb hd rfl hLh (by rw [← hL.1]; exact h1) rfl (fun ls' hl' => ?_)
    exact go hnx h2 (LR.st1 hL.1 h1 h3 hl')
  case astore j =>
    obtain ⟨hd, hnx⟩ := bd hB
    obtain ⟨x, r, rfl, h⟩ := stA_spec h
    obtain ⟨h1, h2, h3⟩ := stO_spec h
    refine lv_astore hx hb hd hLh (by rw [← hL.1]; exact h1) rfl (fun ls' hl' => ?_)
    exact go hnx h2 (LR.st1 hL.1 h1 h3 hl')
  case lstore_n j =>
    obtain ⟨hd, hnx⟩ := bd hB
    obtain ⟨x, r, rfl, h⟩ := stL_spec h
    obtain ⟨h1, h2, h3⟩ := stT_spec h
    refine lv_lstore_n hx hb hd rfl hLh (by rw [← hL.1]; exact h1) rfl (fun ls' hl' => ?_)
    exact go hnx h2 (LR.st2 hL.1 h1 h3 hl')
  case lstore j =>
    obtain ⟨hd, hnx⟩ := bd hB
    obtain ⟨x, r, rfl, h⟩ := stL_spec h
    obtain ⟨h1, h2, h3⟩ := stT_spec h
    refine lv_lstore hx hb hd hLh (by rw [← hL.1]; exact h1) rfl (fun ls' hl' => ?_)
    exact go hnx h2 (LR.st2 hL.1 h1 h3 hl')
  case iinc j z =>
    obtain ⟨hd, hz⟩ := bt hB
    obtain ⟨hz, hnx⟩ := bd hz
    obtain ⟨x, hj, h⟩ := ldI_spec h
    obtain ⟨h1, h2, h3⟩ := stO_spec h
    obtain ⟨q, hq⟩ := List.getElem?_of_mem (asL_mem (ad := ad) hj)
    refine lv_iinc (v := x + Int32.ofInt cc) hx hb hd hLh hq (by rw [hz]) (by rw [← hL.1]; exact h1) rfl (fun ls' hl' => ?_)
    exact go hnx h2 (LR.st1 (v := .int (x + Int32.ofInt cc)) hL.1 h1 h3 hl')
  case iconst z =>
    obtain ⟨hd, hz⟩ := bt hB
    obtain ⟨hz, hnx⟩ := bd hz
    refine lv_iconst hx hb hd hz ?_
    exact go hnx h hL
  case bipush z =>
    obtain ⟨hd, hz⟩ := bt hB
    obtain ⟨hz, hnx⟩ := bd hz
    refine lv_bipush hx hb hd hz ?_
    exact go hnx h hL
  case sipush z =>
    obtain ⟨hd, hz⟩ := bt hB
    obtain ⟨hz, hnx⟩ := bd hz
    refine lv_sipush hx hb hd hz ?_
    exact go hnx h hL
  case lconst z =>
    obtain ⟨hd, hz⟩ := bt hB
    obtain ⟨hz, hnx⟩ := bd hz
    refine lv_lconst hx hb hd hz ?_
    exact go hnx h hL
  case ldc_w ix =>
    obtain ⟨hd, hnx⟩ := bd hB
    refine lv_ldcw hx hb hown (hts _ (hT _ List.mem_cons_self)) hd ?_
    exact go hnx h hL
  case ldc2_w ix =>
    obtain ⟨hd, hnx⟩ := bd hB
    refine lv_ldc2 hx hb hown (hts _ (hT _ List.mem_cons_self)) hd ?_
    exact go hnx h hL
  case iadd =>
    obtain ⟨hd, hnx⟩ := bd hB
    obtain ⟨y, x, r, rfl, h⟩ := iB_spec h
    refine lv_iadd hx hb hd ?_
    exact go hnx h hL
  case isub =>
    obtain ⟨hd, hnx⟩ := bd hB
    obtain ⟨y, x, r, rfl, h⟩ := iB_spec h
    refine lv_isub hx hb hd ?_
    exact go hnx h hL
  case imul =>
    obtain ⟨hd, hnx⟩ := bd hB
    obtain ⟨y, x, r, rfl, h⟩ := iB_spec h
    refine lv_imul hx hb hd ?_
    exact go hnx h hL
  case iand =>
    obtain ⟨hd, hnx⟩ := bd hB
    obtain ⟨y, x, r, rfl, h⟩ := iB_spec h
    refine lv_iand hx hb hd ?_
    exact go hnx h hL
  case ior =>
    obtain ⟨hd, hnx⟩ := bd hB
    obtain ⟨y, x, r, rfl, h⟩ := iB_spec h
    refine lv_ior hx hb hd ?_
    exact go hnx h hL
  case ixor =>
    obtain ⟨hd, hnx⟩ := bd hB
    obtain ⟨y, x, r, rfl, h⟩ := iB_spec h
    refine lv_ixor hx hb hd ?_
    exact go hnx h hL
  case ishl =>
    obtain ⟨hd, hnx⟩ := bd hB
    obtain ⟨y, x, r, rfl, h⟩ := iB_spec h
    refine lv_ishl hx hb hd ?_
    exact go hnx h hL
  case ishr =>
    obtain ⟨hd, hnx⟩ := bd hB
    obtain ⟨y, x, r, rfl, h⟩ := iB_spec h
    refine lv_ishr hx hb hd ?_
    exact go hnx h hL
  case iushr =>
    obtain ⟨hd, hnx⟩ := bd hB
    obtain ⟨y, x, r, rfl, h⟩ := iB_spec h
    refine lv_iushr hx hb hd rfl ?_
    exact go hnx h hL
  case idiv =>
    obtain ⟨hd, hnx⟩ := bd hB
    obtain ⟨y, x, r, rfl, hne, h⟩ := iD_spec h
    refine lv_idiv hx hb hd hne ?_
    exact go hnx h hL
  case irem =>
    obtain ⟨hd, hnx⟩ := bd hB
    obtain ⟨y, x, r, rfl, hne, h⟩ := iD_spec h
    refine lv_irem hx hb hd hne ?_
    exact go hnx h hL
  case ineg =>
    obtain ⟨hd, hnx⟩ := bd hB
    obtain ⟨x, r, rfl, h⟩ := iU_spec h
    refine lv_ineg hx hb hd ?_
    exact go hnx h hL
  case i2c =>
    obtain ⟨hd, hnx⟩ := bd hB
    obtain ⟨x, r, rfl, h⟩ := iU_spec h
    refine lv_i2c hx hb hd rfl ?_
    exact go hnx h hL
  case i2b =>
    obtain ⟨hd, hnx⟩ := bd hB
    obtain ⟨x, r, rfl, h⟩ := iU_spec h
    refine lv_i2b hx hb hd rfl ?_
    exact go hnx h hL
  case i2s =>
    obtain ⟨hd, hnx⟩ := bd hB
    obtain ⟨x, r, rfl, h⟩ := iU_spec h
    refine lv_i2s hx hb hd rfl ?_
    exact go hnx h hL
  case i2l =>
    obtain ⟨hd, hnx⟩ := bd hB
    obtain ⟨x, r, rfl, h⟩ := ijU_spec h
    refine lv_i2l hx hb hd rfl ?_
    exact go hnx h hL
  case l2i =>
    obtain ⟨hd, hnx⟩ := bd hB
    obtain ⟨x, r, rfl, h⟩ := jiU_spec h
    refine lv_l2i hx hb hd rfl ?_
    exact go hnx h hL
  case ladd =>
    obtain ⟨hd, hnx⟩ := bd hB
    obtain ⟨y, x, r, rfl, h⟩ := jB_spec h
    refine lv_ladd hx hb hd ?_
    exact go hnx h hL
  case lmul =>
    obtain ⟨hd, hnx⟩ := bd hB
    obtain ⟨y, x, r, rfl, h⟩ := jB_spec h
    refine lv_lmul hx hb hd ?_
    exact go hnx h hL
  case land =>
    obtain ⟨hd, hnx⟩ := bd hB
    obtain ⟨y, x, r, rfl, h⟩ := jB_spec h
    refine lv_land hx hb hd ?_
    exact go hnx h hL
  case lor =>
    obtain ⟨hd, hnx⟩ := bd hB
    obtain ⟨y, x, r, rfl, h⟩ := jB_spec h
    refine lv_lor hx hb hd ?_
    exact go hnx h hL
  case lxor =>
    obtain ⟨hd, hnx⟩ := bd hB
    obtain ⟨y, x, r, rfl, h⟩ := jB_spec h
    refine lv_lxor hx hb hd ?_
    exact go hnx h hL
  case ldiv =>
    obtain ⟨hd, hnx⟩ := bd hB
    obtain ⟨y, x, r, rfl, hne, h⟩ := jD_spec h
    refine lv_ldiv hx hb hd hne ?_
    exact go hnx h hL
  case lrem =>
    obtain ⟨hd, hnx⟩ := bd hB
    obtain ⟨y, x, r, rfl, hne, h⟩ := jD_spec h
    refine lv_lrem hx hb hd hne ?_
    exact go hnx h hL
  case lshl =>
    obtain ⟨hd, hnx⟩ := bd hB
    obtain ⟨y, x, r, rfl, h⟩ := jS_spec h
    refine lv_lshl hx hb hd rfl ?_
    exact go hnx h hL
  case lshr =>
    obtain ⟨hd, hnx⟩ := bd hB
    obtain ⟨y, x, r, rfl, h⟩ := jS_spec h
    refine lv_lshr hx hb hd rfl ?_
    exact go hnx h hL
  case lcmp =>
    obtain ⟨hd, hnx⟩ := bd hB
    obtain ⟨y, x, r, rfl, h⟩ := jC_spec h
    refine W.lcmp hx hb hd ?_
    exact go hnx h hL
  case dup =>
    obtain ⟨hd, hnx⟩ := bd hB
    cases st with
    | nil => exact h.elim
    | cons v r =>
      refine lv_dup hx hb hd (by rw [cV_cat]; exact h.1) ?_
      exact go hnx h.2 hL
  case pop =>
    obtain ⟨hd, hnx⟩ := bd hB
    cases st with
    | nil => exact h.elim
    | cons v r =>
      refine lv_pop hx hb hd (by rw [cV_cat]; exact h.1) ?_
      exact go hnx h.2 hL
  case pop2 =>
    obtain ⟨hd, hnx⟩ := bd hB
    cases st with
    | nil => exact h.elim
    | cons v r =>
      refine lv_pop2_2 hx hb hd (by rw [cV_cat]; exact h.1) ?_
      exact go hnx h.2 hL
  case goto o =>
    obtain ⟨hd, ht⟩ := bd hB
    refine lv_goto hx hb hd ht ?_
    exact go rfl h hL
  case ifnull o =>
    obtain ⟨hd, ht⟩ := bt hB
    obtain ⟨ht, hnx⟩ := bd ht
    obtain ⟨x, r, rfl, h⟩ := rfN_spec h
    refine lv_ifnull hx hb hd ?_
    exact go hnx h hL
  case ifnonnull o =>
    obtain ⟨hd, ht⟩ := bt hB
    obtain ⟨ht, hnx⟩ := bd ht
    obtain ⟨x, r, rfl, h⟩ := rfN_spec h
    refine lv_ifnonnull hx hb hd ht ?_
    exact go rfl h hL
  case ifCond q o =>
    obtain ⟨hd, ht0⟩ := bt hB
    obtain ⟨ht, hnx⟩ := bd ht0
    cases q
    case eq =>
      obtain ⟨x, r, rfl, h1, h2⟩ := izC_spec h
      exact lv_if_eq hx hb hd ht (fun z => go rfl (h1 z) hL) (fun z => go hnx (h2 z) hL)
    case ne =>
      obtain ⟨x, r, rfl, h1, h2⟩ := izC_spec h
      exact lv_if_ne hx hb hd ht (fun z => go rfl (h2 z) hL) (fun z => go hnx (h1 z) hL)
    case lt =>
      obtain ⟨x, r, rfl, h1, h2⟩ := izC_spec h
      exact lv_if_lt hx hb hd ht (fun z => go rfl (h1 z) hL) (fun z => go hnx (h2 z) hL)
    case ge =>
      obtain ⟨x, r, rfl, h1, h2⟩ := izC_spec h
      exact lv_if_ge hx hb hd ht (fun z => go rfl (h1 z) hL) (fun z => go hnx (h2 z) hL)
    case gt =>
      obtain ⟨x, r, rfl, h1, h2⟩ := izC_spec h
      exact lv_if_gt hx hb hd ht (fun z => go rfl (h1 z) hL) (fun z => go hnx (h2 z) hL)
    case le =>
      obtain ⟨x, r, rfl, h1, h2⟩ := izC_spec h
      exact lv_if_le hx hb hd ht (fun z => go rfl (h1 z) hL) (fun z => go hnx (h2 z) hL)
  case if_icmp q o =>
    obtain ⟨hd, ht0⟩ := bt hB
    obtain ⟨ht, hnx⟩ := bd ht0
    cases q
    case eq =>
      obtain ⟨y, x, r, rfl, h1, h2⟩ := icC_spec h
      exact lv_icmp_eq hx hb hd ht (fun z => go rfl (h1 z) hL) (fun z => go hnx (h2 z) hL)
    case ne =>
      obtain ⟨y, x, r, rfl, h1, h2⟩ := icC_spec h
      exact lv_icmp_ne hx hb hd ht (fun z => go rfl (h2 z) hL) (fun z => go hnx (h1 z) hL)
    case lt =>
      obtain ⟨y, x, r, rfl, h1, h2⟩ := icC_spec h
      exact lv_icmp_lt hx hb hd ht (fun z => go rfl (h1 z) hL) (fun z => go hnx (h2 z) hL)
    case ge =>
      obtain ⟨y, x, r, rfl, h1, h2⟩ := icC_spec h
      exact lv_icmp_ge hx hb hd ht (fun z => go rfl (h1 z) hL) (fun z => go hnx (h2 z) hL)
    case gt =>
      obtain ⟨y, x, r, rfl, h1, h2⟩ := icC_spec h
      exact lv_icmp_gt hx hb hd ht (fun z => go rfl (h1 z) hL) (fun z => go hnx (h2 z) hL)
    case le =>
      obtain ⟨y, x, r, rfl, h1, h2⟩ := icC_spec h
      exact lv_icmp_le hx hb hd ht (fun z => go rfl (h1 z) hL) (fun z => go hnx (h2 z) hL)
  all_goals first | exact h.elim | exact other trivial
