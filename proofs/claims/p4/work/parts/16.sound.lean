theorem byt_len : ∀ i : Fin 7, lenS.getD i.val 0 = (bytS.getD i.val []).length := by decide
theorem sIx_tx {b ix : Nat} (h : sIx[b]? = some ix) : ∃ tx, sTx[b]? = some tx := by
  have hl : b < 7 := (List.getElem?_eq_some_iff.mp h).1
  exact ⟨_, List.getElem?_eq_getElem (show b < sTx.length from hl)⟩
set_option maxHeartbeats 4000000 in
set_option maxRecDepth 100000 in
/-- one instruction: what the abstract machine does, the machine does -/
theorem stp_sound {l : Launch} {R : Room} {X : List (List Int32)} {g : Sig} {code : List Row} {Q : AH → Option Value → Prop} {P : PP} (hC : Chk g code) (hP : ∀ i al st hp k n, P i al st hp k n → WP l R X g code Q i al st hp k n)
    {i : Nat} {al : LO} {st : List Value} {hp : AH} {k n : Nat} (h : stp l R X g code Q P i al st hp k n) : WP l R X g code Q i al st hp k n := by
  intro p e s m args below meth c D tc ad ad0 n0 A Z H locs ls hAF hZ hW hadk hn0 hk hn hL
  cases hrow : code[i]? with
  | none => unfold stp at h; rw [hrow] at h; exact h.elim
  | some row =>
  obtain ⟨ins, pc, nx, a, b, cc, ts, cs⟩ := row
  have hpc : pcO code i = pc := by simp [pcO, hrow]
  rw [hpc]
  have hAF0 := hAF
  obtain ⟨hx, hb, hml, hown, hts, hnm, hEF0, hA⟩ := hAF
  obtain ⟨hPw, hD, hS⟩ := hW
  have hmem := List.mem_of_getElem? hrow
  have hB : rowB g code (ins, pc, nx, a, b, cc, ts, cs) = true := linB_spec (code := code) (pre := []) rfl hC.1 _ hmem
  have hcall := allC_mem hC.2.1 _ hmem
  have hT : ∀ w ∈ needT (sY g).cls (ins, pc, nx, a, b, cc, ts, cs), w ∈ TBL := fun w h => hC.2.2.1 w (List.mem_flatMap.mpr ⟨_, hmem, h⟩)
  have hN : ∀ w ∈ needN (sY g).cls (ins, pc, nx, a, b, cc, ts, cs), w ∈ NWL := fun w h => hC.2.2.2.1 w (List.mem_flatMap.mpr ⟨_, hmem, h⟩)
  have hxa : (fun j => ad (1000 + j)) = (fun j => ad0 (1000 + j)) := by
    funext j
    exact hadk.1 _ (Or.inr (by omega))
  have hEF : EF X D tc (fun j => ad (1000 + j)) A s := by rw [hxa]; exact hEF0
  have hK := hEF.1
  have hstr : ∀ i, i < 7 → va_O "java/lang/String" (ad (1100 + i)) A s s.heap ∧ va_OF "java/lang/String" "coder" "B" (.int 0) (ad (1100 + i)) A s s.heap ∧ va_OF "java/lang/String" "value" "[B" (.ref (ad (1200 + i))) (ad (1100 + i)) A s s.heap ∧ va_T .byte (ad (1200 + i)) (lenS.getD i 0) (fun j => .int ((bytS.getD i []).getD j 0)) A s s.heap := by
    intro i hi
    have z := hEF.2.2.2.2.1.1 i hi
    have e1 : 1000 + (100 + i) = 1100 + i := by omega
    have e2 : 1000 + (200 + i) = 1200 + i := by omega
    simp only [e1, e2] at z
    exact z
  have hstrR : ∀ (i ix : Nat) (tx : String), sIx[i]? = some ix → sTx[i]? = some tx → vk_R "SaidTwice$Tokens" ix tx (ad (1100 + i)) s := by
    intro i ix tx h1 h2
    have z := hEF.2.2.2.2.2.1 i ix tx h1 h2
    have e1 : 1000 + (100 + i) = 1100 + i := by omega
    simp only [e1] at z
    exact z
  have hSf : CallFix p m c (sB g) (sL g) s args TBL (sY g).cls := ⟨hx, hb, hml, hown, hts⟩
  have go : ∀ {i' pc' : Nat} {al' : LO} {st' : List Value} {ls' : Array Slot}, pcO code i' = pc' → P i' al' st' hp k n → LR ad (sL g) al' ls' → W p l e R s m args below meth c H locs k n Z (F0 m pc' ls' (st'.map (cV ad))) := by
    intro i' pc' al' st' ls' hq h1 h2
    subst hq
    exact hP _ _ _ _ _ _ h1 p e s m args below meth c D tc ad ad0 n0 A Z H locs ls' hAF0 hZ ⟨hPw, hD, hS⟩ hadk hn0 hk hn h2
  have goH : ∀ {i' pc' : Nat} {st' : List Value} {hp' : AH} {H' : Heap} {locs' : List Loc}, pcO code i' = pc' → P i' al st' hp' k n → WR D tc ad A s hp' H' locs' → hp'.length = hp.length → W p l e R s m args below meth c H' locs' k n Z (F0 m pc' ls (st'.map (cV ad))) := by
    intro i' pc' st' hp' H' locs' hq h1 h2 h3
    subst hq
    exact hP _ _ _ _ _ _ h1 p e s m args below meth c D tc ad ad0 n0 A Z H' locs' ls hAF0 hZ h2 hadk (by omega) hk hn hL
  have goC : ∀ {as r st' : List Value} {Rq : AH → Option Value → Prop} {pc' : Nat}, (Nat.beq (sC cs) 0 || (rOkS hp.length r && rOkL hp.length al)) = true → k + sC cs ≤ R.cells → n + sS cs ≤ R.slots → pcO code nx = pc' → (∀ hp' v, Rq hp' v → P nx al (v.toList ++ r) hp' (k + sC cs) (n + sS cs)) →
      ∀ (v : Option Value) (hp' : AH) (ad' : Nat → Nat) (H' : Heap) (locs' : List Loc), Rq hp' v → adK hp.length (sC cs) ad ad' → hp.length ≤ hp'.length → WR D tc ad' A s hp' H' locs' → W p l e R s m args below meth c H' locs' (k + sC cs) (n + sS cs) Z (F0 m pc' ls (v.toList.map (cV ad') ++ r.map (cV ad))) := by
    intro as r st' Rq pc' hok hk1 hn1 hq hall v hp' ad' H' locs' hR hak hlen hW'
    subst hq
    have hre : r.map (cV ad') = r.map (cV ad) ∧ LR ad' (sL g) al ls := by
      by_cases h0 : sC cs = 0
      · rw [hak.2 h0]
        exact ⟨rfl, hL⟩
      · simp only [Bool.or_eq_true, Bool.and_eq_true] at hok
        rcases hok with z | ⟨z1, z2⟩
        · exact absurd (Nat.eq_of_beq_eq_true z) h0
        · exact ⟨rOkS_map hak.1 r z1, hL.kept hak.1 z2⟩
    have := hP _ _ _ _ _ _ (hall hp' v hR) p e s m args below meth c D tc ad' ad0 n0 A Z H' locs' ls hAF0 hZ hW' (hadk.trans hak hn0 (by omega)) (by omega) hk1 hn1 hre.2
    rw [List.map_append, hre.1] at this
    exact this
  refine stp_plain (D := D) (tc := tc) (A := A) hC hB hT hrow h hx hb hown hts hL go (fun hoth => ?_)
  unfold stp at h
  rw [hrow] at h
  dsimp only at h
  cases ins
  case ldc ix =>
    try dsimp only at h
    obtain ⟨hd, hq⟩ := bt hB
    simp only [Bool.and_eq_true, decide_eq_true_eq] at hq
    obtain ⟨hm, hnx⟩ := hq
    cases ha : Nat.beq a 50 with
    | true =>
      rw [ha] at h hm
      simp only [Bool.and_eq_true, decide_eq_true_eq] at hm
      obtain ⟨hm1, hm2⟩ := hm
      obtain ⟨tx, htx⟩ := sIx_tx hm1
      have hZs := hstrR b ix tx hm1 htx
      rw [← hm2] at hZs
      exact va_ldcS hx hb hown hZs hd (go hnx h hL)
    | false =>
      rw [ha] at h
      have n50 : ¬ a = 50 := fun z => by subst z; cases ha
      refine lv_ldc hx hb hown (hts (.constant (sY g).cls ix (Int32.ofInt cc)) (hT _ (by simp [needT, n50]))) hd ?_
      exact go hnx h hL
  case baload =>
    try dsimp only at h
    obtain ⟨hd, hnx⟩ := bd hB
    split at h
    · rename_i j q r
      split at h
      · rename_i i0 hq0
        obtain ⟨rfl, hi⟩ := bytQ_spec hq0
        obtain ⟨c1, q1, q2, q3, q4, q5, q6, q7⟩ := (hstr i0 hi).2.2.2.kept hS.2.1
        have hj : j.toNatClampNeg < lenS.getD i0 0 := Nat.not_le.mp fun z => h.1 (Or.inr z)
        exact W.bald (v := .int ((bytS.getD i0 []).getD j.toNatClampNeg 0)) hx hb q1 q2 q3 (fun z => z.elim (fun z => h.1 (Or.inl z)) (fun z => by omega)) (q6 _ hj) rfl rfl hd (go hnx h.2 hL)
      · exact h.elim
    · exact h.elim
  case arraylength =>
    try dsimp only at h
    obtain ⟨hd, hnx⟩ := bd hB
    split at h
    · rename_i q r
      obtain ⟨xs, hxs, h⟩ := h
      rcases rowA_spec hxs with hxs | ⟨i0, hq0, rfl⟩
      rotate_left
      · obtain ⟨rfl, hi⟩ := bytQ_spec hq0
        obtain ⟨c1, q1, q2, q3, q4, q5, q6, q7⟩ := (hstr i0 hi).2.2.2.kept hS.2.1
        have el : lenS.getD i0 0 = (bytS.getD i0 []).length := byt_len ⟨i0, hi⟩
        exact W.alen hx hb q1 q2 (q5.trans (by rw [el])) rfl rfl hd (go hnx h hL)
      rcases rowI_spec hxs with ⟨hq', hxs⟩ | hxs
      · obtain ⟨g1, g2, g3⟩ := hEF.2.2.2.1 _ _ hxs
        have eq1 : 1000 + (q - 1000) = q := Nat.add_sub_of_le hq'
        simp only [eq1] at g1 g2 g3
        obtain ⟨c1, q1, q2, q3, q4, q5, q6⟩ := g1
        exact W.alen hx hb (by rw [hS.2.1 _ g2 g3]; exact q1) q2 q5 rfl rfl hd (go hnx h hL)
      · exact va_alen hx hb hK hPw q 0 (cW_get (ad := ad) (tc := tc) hxs) rfl rfl hd (go hnx h hL)
    · exact h.elim
  case iaload =>
    try dsimp only at h
    obtain ⟨hd, hnx⟩ := bd hB
    split at h
    · rename_i j q r
      obtain ⟨xs, hxs, h⟩ := h
      rcases rowI_spec hxs with ⟨hq', hxs⟩ | hxs
      · obtain ⟨g1, g2, g3⟩ := hEF.2.2.2.1 _ _ hxs
        have eq1 : 1000 + (q - 1000) = q := Nat.add_sub_of_le hq'
        simp only [eq1] at g1 g2 g3
        obtain ⟨c1, q1, q2, q3, q4, q5, q6⟩ := g1
        have hj : j.toNatClampNeg < xs.length := Nat.not_le.mp fun z => h.1 (Or.inr z)
        exact W.iald (v := .int (xs.getD j.toNatClampNeg 0)) hx hb (by rw [hS.2.1 _ g2 g3]; exact q1) q2 q3 (fun z => z.elim (fun z => h.1 (Or.inl z)) (fun z => by omega)) (q6 _ hj) rfl rfl hd (go hnx h.2 hL)
      · exact va_iald hx hb hK hPw q 0 (cW_get (ad := ad) (tc := tc) hxs) rfl h.1 hd (go hnx h.2 hL)
    · exact h.elim
  case laload =>
    try dsimp only at h
    obtain ⟨hd, hnx⟩ := bd hB
    split at h
    · rename_i j q r
      obtain ⟨xs, hxs, h⟩ := h
      exact va_lald hx hb hK hPw q 1 (cW_get (ad := ad) (tc := tc) hxs) rfl h.1 hd (go hnx h.2 hL)
    · exact h.elim
  case iastore =>
    try dsimp only at h
    obtain ⟨hd, hnx⟩ := bd hB
    split at h
    · rename_i x j q r
      obtain ⟨xs, hxs, h1, h3⟩ := h
      have hj : j.toNatClampNeg < xs.length := Nat.not_le.mp fun z => h1 (Or.inr z)
      refine va_iast hx hb hK hPw hD hS q 0 (cW_get (ad := ad) (tc := tc) hxs) rfl h1 hd (fun H1 locs1 g1 g2 g3 => ?_)
      rw [cE_seI hj, cW_set] at g1 g2
      exact goH hnx h3 ⟨g1, g2, g3⟩ (by simp)
    · exact h.elim
  case lastore =>
    try dsimp only at h
    obtain ⟨hd, hnx⟩ := bd hB
    split at h
    · rename_i x j q r
      obtain ⟨xs, hxs, h1, h3⟩ := h
      have hj : j.toNatClampNeg < xs.length := Nat.not_le.mp fun z => h1 (Or.inr z)
      refine va_last hx hb hK hPw hD hS q 1 (cW_get (ad := ad) (tc := tc) hxs) rfl h1 hd (fun H1 locs1 g1 g2 g3 => ?_)
      rw [cE_seL hj, cW_set] at g1 g2
      exact goH hnx h3 ⟨g1, g2, g3⟩ (by simp)
    · exact h.elim
  case getstatic ix =>
    try dsimp only at h
    obtain ⟨hd, hnx⟩ := bd hB
    split at h
    · rename_i ha
      have e : a = 51 := Nat.eq_of_beq_eq_true ha
      subst e
      exact va_gets hx hb hEF.2.2.2.2.2.2.1 hS hown (hts _ (hT _ (by simp [needT]))) (fun _ q => q) hd (go hnx h hL)
    · rename_i ha1 ha
      have e : a = 52 := Nat.eq_of_beq_eq_true ha
      subst e
      rcases hEF.2.2.2.2.2.2.2 with z | z
      · exact va_gets hx hb z hS hown (hts _ (hT _ (by simp [needT]))) (fun _ q => q) hd (go hnx h.1 hL)
      · exact va_gets hx hb z hS hown (hts _ (hT _ (by simp [needT]))) (fun _ q => q) hd (go hnx h.2 hL)
    · rename_i ha1 ha2
      have n51 : ¬ a = 51 := fun z => by subst z; cases ha1
      have n52 : ¬ a = 52 := fun z => by subst z; cases ha2
      exact va_gets hx hb hEF.2.2.1 hS hown (hts _ (hT _ (by simp [needT, n51, n52]))) (fun _ q => q) hd (go hnx h hL)
  case getfield ix =>
    try dsimp only at h
    obtain ⟨hd, hq⟩ := bt hB
    simp only [Bool.and_eq_true, decide_eq_true_eq] at hq
    obtain ⟨hcl, hz, hnx⟩ := hq
    split at h
    · rename_i q r
      cases ha : Nat.beq a 50 with
      | true =>
        rw [ha] at h hcl
        have e50 : a = 50 := Nat.eq_of_beq_eq_true ha
        subst e50
        have hlink := hts (.fieldLink (sY g).cls ix "java/lang/String" (strF b).1 (strF b).2) (hT _ (by simp [needT]))
        have hb1 := Nat.le_of_ble_eq_true hcl
        dsimp only at h
        split at h
        · rename_i i0 hq0
          obtain ⟨rfl, hi⟩ := strQ_spec hq0
          rcases (show b = 0 ∨ b = 1 by omega) with rfl | rfl
          · exact vk_getf hx hb (hstr i0 hi).2.1 hS hown hlink (fun _ z => z) hd (go hnx h hL)
          · exact vk_getf hx hb (hstr i0 hi).2.2.1 hS hown hlink (fun _ z => z) hd (go hnx h hL)
        · exact h.elim
      | false =>
      rw [ha] at h hcl
      dsimp only at h hcl
      have n50 : ¬ a = 50 := fun z => by subst z; cases ha
      obtain ⟨hc1, hc2, hc3⟩ := cl_all hcl
      split at h
      · rename_i ci fs hfs
        split at h
        · rename_i v hci hv
          have hci' : ci = a := Nat.eq_of_beq_eq_true hci
          subst hci'
          have he := cW_get (ad := ad) (tc := tc) hfs
          have hv' : (fs.map (cV ad))[b]? = some (cV ad v) := by rw [List.getElem?_map, hv]; rfl
          rcases hz with rfl | rfl
          · exact va_get hx hb hts hc3.1 hown hK hPw q he hc1 b hc2 (hts _ (hT _ (by simp only [needT, if_neg n50, if_pos]; exact List.mem_cons_self))) (fun _ z => by rw [← hc3.2.2.2 b hc2]; exact z) hv' hd (go hnx h hL)
          · exact va_getN hx hb hts hc3.1 hown hK hPw q he hc1 b hc2 (va_Nw.use rfl (hEF.2.1 _ (hN _ List.mem_cons_self))) (fun _ z => by rw [← hc3.2.2.2 b hc2]; exact z) hv' hd (go hnx h hL)
        · exact h.elim
      · exact h.elim
    · exact h.elim
  case putfield ix =>
    try dsimp only at h
    obtain ⟨hd, hq⟩ := bt hB
    simp only [Bool.and_eq_true, decide_eq_true_eq] at hq
    obtain ⟨hcl, hz, hfin, hnx⟩ := hq
    obtain ⟨hc1, hc2, hc3⟩ := cl_all hcl
    split at h
    · rename_i v q r
      split at h
      · rename_i ci fs hfs
        split at h
        · rename_i hci
          have hci' : ci = a := Nat.eq_of_beq_eq_true hci
          subst hci'
          obtain ⟨h1, h2⟩ := h
          obtain ⟨h2, h3⟩ := seV_spec h2
          obtain ⟨h4, h5⟩ := seH_spec h3
          have he := cW_get (ad := ad) (tc := tc) hfs
          obtain ⟨e1, e2⟩ := putOk_spec ad h1
          have hl : b < (fs.map (cV ad)).length := by simpa using h2
          have fin : ∀ (H1 : Heap) (locs1 : List Loc), va_P D vwCl ((cW ad tc hp).set q (ad q, .inr (ci, (fs.map (cV ad)).set b (cV ad v)))) H1 → va_D A ((cW ad tc hp).set q (ad q, .inr (ci, (fs.map (cV ad)).set b (cV ad v)))) → va_S A s.heap H1 locs1 → W p l e R s m args below meth c H1 locs1 k n Z (F0 m (pc + 3) ls (r.map (cV ad))) := by
            intro H1 locs1 g1 g2 g3
            have e3 : (Sum.inr (ci, (fs.map (cV ad)).set b (cV ad v)) : va_E) = cE ad tc (AO ci (fs.set b v)) := by
              simp [cE, List.map_set]
            rw [e3, cW_set] at g1 g2
            exact goH hnx h5 ⟨g1, g2, g3⟩ (by simp)
          rcases hfin with hf | ⟨hf1, hf2, rfl⟩
          · rcases hz with rfl | rfl
            · exact va_put hx hb hts hc3.1 _ hc3.2.1 hc3.2.2.1 hown hK hPw hD hS q he hc1 b hc2 (hts _ (hT _ List.mem_cons_self)) (fun _ z => by rw [← hc3.2.2.2 b hc2]; exact z) hf (hc3.2.1 b hc2) e1 e2 hl hd fin
            · exact va_putN hx hb hts hc3.1 _ hc3.2.1 hc3.2.2.1 hown hK hPw hD hS q he hc1 b hc2 (va_Nw.use rfl (hEF.2.1 _ (hN _ List.mem_cons_self))) (fun _ z => by rw [← hc3.2.2.2 b hc2]; exact z) hf (hc3.2.1 b hc2) e1 e2 hl hd fin
          · cases hfb : (clF ci b).2.2.2 with
            | false => exact va_put hx hb hts hc3.1 _ hc3.2.1 hc3.2.2.1 hown hK hPw hD hS q he hc1 b hc2 (hts _ (hT _ List.mem_cons_self)) (fun _ z => by rw [← hc3.2.2.2 b hc2]; exact z) hfb (hc3.2.1 b hc2) e1 e2 hl hd fin
            | true => exact va_putF hx hb hts hc3.1 _ hc3.2.1 hc3.2.2.1 hown hK hPw hD hS q he hc1 b hc2 (hts _ (hT _ List.mem_cons_self)) (fun _ z => by rw [← hc3.2.2.2 b hc2]; exact z) hfb (hnm hf1) hf2 (hc3.2.1 b hc2) e1 e2 hl hd fin
        · exact h.elim
      · exact h.elim
    · exact h.elim
  case ireturn =>
    try dsimp only at h
    obtain ⟨hd, -⟩ := bt hB
    split at h
    · rename_i x
      unfold retOk at h
      split at h
      · rename_i hr
        exact hZ (some (.int x)) hp ad H locs k n pc ls h ⟨hPw, hD, hS⟩ hadk hn0 hk hn ⟨hd, _, hr, rfl⟩
      · rename_i t hr1 hr
        exact hZ (some (.int x)) hp ad H locs k n pc ls h.2 ⟨hPw, hD, hS⟩ hadk hn0 hk hn ⟨hd, _, hr, h.1⟩
      · exact h.elim
    · exact h.elim
  case lreturn =>
    try dsimp only at h
    obtain ⟨hd, -⟩ := bt hB
    split at h
    · rename_i x
      exact hZ (some (.long x)) hp ad H locs k n pc ls h.2 ⟨hPw, hD, hS⟩ hadk hn0 hk hn ⟨hd, h.1⟩
    · exact h.elim
  case return_ =>
    try dsimp only at h
    obtain ⟨hd, -⟩ := bt hB
    split at h
    · exact hZ none hp ad H locs k n pc ls h.2 ⟨hPw, hD, hS⟩ hadk hn0 hk hn ⟨hd, h.1⟩
    · exact h.elim
  case new ix =>
    try dsimp only at h
    obtain ⟨hd, hq⟩ := bt hB
    simp only [Bool.and_eq_true, decide_eq_true_eq] at hq
    obtain ⟨hcl, hnx⟩ := hq
    obtain ⟨hc1, -, hc3⟩ := cl_all hcl
    rw [hc1] at h
    dsimp only at h
    obtain ⟨hok, ⟨hk1, hn1⟩, hlt, h⟩ := h
    simp only [Bool.and_eq_true] at hok
    refine va_new (ci := a) (fs := dfl a (clS a)) hx hb hts hc3.1 _ hc3.2.1 hown (hts _ (hT (.classLink (sY g).cls ix (clN a)) (by simp [needT]))) (hts _ (hT (.instantiable (clN a) (clS a)) (by simp [needT]))) (hts _ (hT (.initialized (clN a)) (by simp [needT]))) hK hPw hD hS hA hc1 (fun j hj => ?_) hk1 hn1 hd (fun q H1 g1 g2 g3 => ?_)
    · simp [vp_V, dfl, hj, List.getD_eq_getElem?_getD]
    · have ec := cW_push (ad := ad) (tc := tc) (q := q) (x := AO a (dfl a (clS a))) (z := .inr (a, dfl a (clS a))) hok.1 (by simp [cE, cV_dfl]) hlt
      rw [← ec] at g1 g2
      have hak : adK hp.length 1 ad (fun k => if k = hp.length then q else ad k) := ⟨fun k hk => if_neg (by rcases hk with hk | hk <;> omega), fun z => by omega⟩
      have key := hP _ _ _ _ _ _ h p e s m args below meth c D tc _ ad0 n0 A Z H1 locs ls hAF0 hZ ⟨g1, g2, g3⟩ (hadk.trans hak hn0 (by omega)) (by simp; omega) hk1 hn1 (hL.kept hak.1 hok.2.2)
      rw [hnx, List.map_cons, rOkS_map hak.1 st hok.2.1] at key
      simpa [cV] using key
  case newarray t =>
    try dsimp only at h
    obtain ⟨hd, hnx⟩ := bd hB
    have hnx2 : pcO code nx = pc + 2 := hnx
    have harr := hts _ (hT (.arrayClass (newarray.typeOf t)) (by simp [needT]))
    split at h
    · rename_i x r
      cases t
      case int =>
        obtain ⟨hok, ⟨hk1, hn1⟩, hlt, ⟨hx0, hxN⟩, h⟩ := h
        simp only [Bool.and_eq_true] at hok
        refine va_newa (atype := .int) (ty := .int) (N' := x.toNatClampNeg) hx hb harr rfl hK hPw hD hS hA (fun cA => rep_cellI cA x.toNatClampNeg) hx0 rfl (by show x.toNatClampNeg * 4 ≤ 536870912; omega) hk1 hn1 hd (fun q cA H1 gK g1 g2 g3 => ?_)
        have h1 := (hK.2 0 (tc 0, .int) rfl).2
        have h2 := (gK.2 2 (cA, .int) rfl).2
        have hcA : cA = tc 0 := Option.some.inj (h2.symm.trans h1)
        subst hcA
        have ec := cW_push (ad := ad) (tc := tc) (q := q) (x := AI (List.replicate x.toNatClampNeg 0)) (z := .inl (tc 0, (List.replicate x.toNatClampNeg (0 : Int32)).length, .inl (fun j => (List.replicate x.toNatClampNeg (0 : Int32)).getD j 0))) hok.1 rfl hlt
        rw [← ec] at g1 g2
        have hak : adK hp.length 1 ad (fun k => if k = hp.length then q else ad k) := ⟨fun k hk => if_neg (by rcases hk with hk | hk <;> omega), fun z => by omega⟩
        have hok2 := hok.2.1
        simp only [rOkS, List.all_cons, Bool.and_eq_true] at hok2
        have key := hP _ _ _ _ _ _ h p e s m args below meth c D tc _ ad0 n0 A Z H1 locs ls hAF0 hZ ⟨g1, g2, g3⟩ (hadk.trans hak hn0 (by omega)) (by simp; omega) hk1 hn1 (hL.kept hak.1 hok.2.2)
        rw [hnx2, List.map_cons, rOkS_map hak.1 r hok2.2] at key
        simpa [cV] using key
      case long =>
        obtain ⟨hok, ⟨hk1, hn1⟩, hlt, ⟨hx0, hxN⟩, h⟩ := h
        simp only [Bool.and_eq_true] at hok
        refine va_newa (atype := .long) (ty := .long) (N' := x.toNatClampNeg) hx hb harr rfl hK hPw hD hS hA (fun cA => rep_cellL cA x.toNatClampNeg) hx0 rfl (by show x.toNatClampNeg * 8 ≤ 536870912; omega) hk1 hn1 hd (fun q cA H1 gK g1 g2 g3 => ?_)
        have h1 := (hK.2 1 (tc 1, .long) rfl).2
        have h2 := (gK.2 2 (cA, .long) rfl).2
        have hcA : cA = tc 1 := Option.some.inj (h2.symm.trans h1)
        subst hcA
        have ec := cW_push (ad := ad) (tc := tc) (q := q) (x := AL (List.replicate x.toNatClampNeg 0)) (z := .inl (tc 1, (List.replicate x.toNatClampNeg (0 : Int64)).length, .inr (.inl (fun j => (List.replicate x.toNatClampNeg (0 : Int64)).getD j 0)))) hok.1 rfl hlt
        rw [← ec] at g1 g2
        have hak : adK hp.length 1 ad (fun k => if k = hp.length then q else ad k) := ⟨fun k hk => if_neg (by rcases hk with hk | hk <;> omega), fun z => by omega⟩
        have hok2 := hok.2.1
        simp only [rOkS, List.all_cons, Bool.and_eq_true] at hok2
        have key := hP _ _ _ _ _ _ h p e s m args below meth c D tc _ ad0 n0 A Z H1 locs ls hAF0 hZ ⟨g1, g2, g3⟩ (hadk.trans hak hn0 (by omega)) (by simp; omega) hk1 hn1 (hL.kept hak.1 hok.2.2)
        rw [hnx2, List.map_cons, rOkS_map hak.1 r hok2.2] at key
        simpa [cV] using key
      all_goals exact h.elim
    · exact h.elim
  case invokestatic ix =>
    try dsimp only at h
    obtain ⟨hd, hq⟩ := bt hB
    simp only [Bool.and_eq_true, decide_eq_true_eq] at hq
    obtain ⟨hz, hnx⟩ := hq
    split at h
    · rename_i hb7
      have hb7' : b = 7 := Nat.eq_of_beq_eq_true hb7
      subst hb7'
      split at h
      · rename_i y x r
        obtain ⟨⟨hcat, hf, hlo⟩, h⟩ := h
        have hw : ∀ w ∈ [Cond.methodLink (sY g).cls ix Lib.Math.max.name, .static Lib.Math.max.name, .initialized "java/lang/Math", .code Lib.Math.max.name Lib.Math.max.code 2 (some .int)], w ∈ TBL := fun w hw => hT w hw
        refine va_mmax hx hb (hml.trans hL.2.1.symm) hown (hts _ (hw _ (by simp))) (hts _ (hw _ (by simp))) (hts _ (hw _ (by simp))) (hts _ (hw _ (by simp))) hf ?_ hk hn hd ?_
        · rw [catN_sum]
          have := Nat.le_of_ble_eq_true hcat
          omega
        · exact go hnx h hL
      · exact h.elim
    · rename_i hb8 hb7
      have hb8' : b = 8 := Nat.eq_of_beq_eq_true hb8
      subst hb8'
      split at h
      · rename_i y x r
        obtain ⟨⟨hcat, hf, hlo⟩, h⟩ := h
        have hw : ∀ w ∈ [Cond.methodLink (sY g).cls ix Lib.Math.min.name, .static Lib.Math.min.name, .initialized "java/lang/Math", .code Lib.Math.min.name Lib.Math.min.code 2 (some .int)], w ∈ TBL := fun w hw => hT w hw
        refine va_mmin hx hb (hml.trans hL.2.1.symm) hown (hts _ (hw _ (by simp))) (hts _ (hw _ (by simp))) (hts _ (hw _ (by simp))) (hts _ (hw _ (by simp))) hf ?_ hk hn hd ?_
        · rw [catN_sum]
          have := Nat.le_of_ble_eq_true hcat
          omega
        · exact go hnx h hL
      · exact h.elim
    · rename_i hb7 hb8
      have n7 : ¬ b = 7 := fun z => by subst z; cases hb7
      have n8 : ¬ b = 8 := fun z => by subst z; cases hb8
      have hcall2 : SgS cs := by
        unfold callOk at hcall
        simp only [hb7, hb8, Bool.or_false] at hcall
        exact hcall
      obtain ⟨hsg, hTs⟩ := hcall2
      obtain ⟨as, r, hn', hst, h'⟩ := popN_spec h
      subst hst
      clear h
      rw [List.append_nil] at h'
      split at h'
      · rename_i hcat hok
        obtain ⟨d', Rq, hR, hCt, hall⟩ := h'
        exact call_st hCt hSf ⟨hPw, hD, hS⟩ hA hEF hL.2.1 hd (Nat.le_of_ble_eq_true hcat) hn' hsg hTs rfl (z := cc) (fun hz0 => hT _ (by subst hz0; simp [needT, n7, n8])) (fun hz1 => hN _ (by subst hz1; exact List.mem_cons_self)) hz hR (goC (as := as) (st' := []) hok hR.2.2.1 hR.2.2.2 hnx hall)
      · exact h'.elim
  case invokevirtual ix =>
    try dsimp only at h
    obtain ⟨hd, hq⟩ := bt hB
    simp only [Bool.and_eq_true, decide_eq_true_eq] at hq
    obtain ⟨hz, hnx⟩ := hq
    obtain ⟨as, r, hn', hst, h'⟩ := popN_spec h
    subst hst
    clear h
    rw [List.append_nil] at h'
    split at h'
    · rename_i q as'
      cases ha : Nat.beq a 50 with
      | true =>
        rw [ha] at h'
        have hcall2 : SgX cs := by
          unfold callOk at hcall
          simp only [ha] at hcall
          exact hcall
        obtain ⟨hq2, hTs⟩ := hcall2
        simp only [Bool.and_eq_true, decide_eq_true_eq] at hq2
        obtain ⟨hsg, hcn, h1A, hC0⟩ := hq2
        dsimp only at h'
        split at h'
        · rename_i i0 hq0 hcat hok
          obtain ⟨d', Rq, hR, hCt, hall⟩ := h'
          exact call_vs hCt hSf ⟨hPw, hD, hS⟩ hA hEF hL.2.1 hd (Nat.le_of_ble_eq_true hcat) hn' rfl hsg hq0 hcn hTs rfl (z := cc) (fun hz0 => hT _ (by subst hz0; exact List.mem_cons_self)) (fun hz1 => hN _ (by subst hz1; exact List.mem_cons_self)) hz hR (goC (as := .ref q :: as') (st' := []) (by rw [hok]; rfl) hR.2.2.1 hR.2.2.2 hnx hall)
        · exact h'.elim
      | false =>
      rw [ha] at h'
      dsimp only at h'
      have hcall2 : SgV cs a := by
        unfold callOk at hcall
        simp only [ha] at hcall
        exact hcall
      obtain ⟨hq2, hTs⟩ := hcall2
      simp only [Bool.and_eq_true, decide_eq_true_eq] at hq2
      obtain ⟨hsg, hcn, hcl, h1A⟩ := hq2
      split at h'
      · rename_i ci fs hfs
        split at h'
        · rename_i hci hcat hok
          have hci' : ci = a := Nat.eq_of_beq_eq_true hci
          subst hci'
          obtain ⟨d', Rq, hR, hCt, hall⟩ := h'
          exact call_vi hCt hSf ⟨hPw, hD, hS⟩ hA hEF hL.2.1 hd (Nat.le_of_ble_eq_true hcat) hn' rfl hsg hfs hcl hcn hTs rfl (z := cc) (fun hz0 => hT _ (by subst hz0; exact List.mem_cons_self)) (fun hz1 => hN _ (by subst hz1; exact List.mem_cons_self)) hz hR (goC (as := .ref q :: as') (st' := []) hok hR.2.2.1 hR.2.2.2 hnx hall)
        · exact h'.elim
      · exact h'.elim
    · exact h'.elim
  case invokespecial ix =>
    try dsimp only at h
    obtain ⟨hd, hq⟩ := bt hB
    simp only [Bool.and_eq_true, decide_eq_true_eq] at hq
    obtain ⟨hz, hnx⟩ := hq
    split at h
    · rename_i hb9
      have hb9' : b = 9 := Nat.eq_of_beq_eq_true hb9
      subst hb9'
      split at h
      · rename_i q r
        split at h
        · rename_i hcat
          obtain ⟨⟨hf, hlo⟩, h⟩ := h
          refine W.objInit hx hb hown (hts _ (hT (.methodLink (sY g).cls ix Lib.objectInit) (by simp [needT]))) (hts _ (hT (.instanceMethod Lib.objectInit) (by simp [needT]))) (hts _ (hT (.code Lib.objectInit ⟨#[0xb1]⟩ 1 none) (by simp [needT]))) rfl (by rw [hml]; exact hL.2.1) (a := ad q) (rest := r.map (cV ad)) rfl hd hf ?_ ?_
          · have := call_room (m := m) (pc := pc) (ls := ls) (st0 := []) (ad := ad) (r := r) (Nat.le_of_ble_eq_true hcat)
            have e2 : (F0 m pc ls ((Value.ref q :: r).map (cV ad))).monitorRoom = (F0 m pc ls []).monitorRoom := rfl
            rw [e2]
            omega
          · exact go hnx h hL
        · exact h.elim
      · exact h.elim
    · rename_i hb9
      have hb9' : ¬ b = 9 := fun z => by subst z; cases hb9
      have hcall2 : SgI cs := by
        unfold callOk at hcall
        simp only [hb9] at hcall
        exact hcall
      obtain ⟨hq2, hTs⟩ := hcall2
      simp only [Bool.and_eq_true, decide_eq_true_eq] at hq2
      obtain ⟨hsg, h1A, hin, hret⟩ := hq2
      obtain ⟨as, r, hn', hst, h'⟩ := popN_spec h
      subst hst
      clear h
      rw [List.append_nil] at h'
      split at h'
      · rename_i q as'
        split at h'
        · rename_i hcat hok
          obtain ⟨d', Rq, hR, hCt, hall⟩ := h'
          exact call_sp hCt hSf ⟨hPw, hD, hS⟩ hA hEF hL.2.1 hd (Nat.le_of_ble_eq_true hcat) hn' rfl hsg hin hret hTs rfl (z := cc) (fun hz0 => hT _ (by subst hz0; simp [needT, hb9'])) (fun hz1 => hN _ (by subst hz1; simp [needN, hb9'])) hz hR (goC (as := .ref q :: as') (st' := []) hok hR.2.2.1 hR.2.2.2 hnx hall)
        · exact h'.elim
      · exact h'.elim
  case tableswitch d lo hi offs =>
    try dsimp only at h
    simp only [rowB, rowP, Bool.and_eq_true, decide_eq_true_eq] at hB
    obtain ⟨hd, ht, hoffs, hhi⟩ := hB
    split at h
    · rename_i x r
      by_cases hlo : x.toInt < lo ∨ hi < x.toInt
      · exact lv_tableOut hx hb hd hlo ht (go rfl (h.1 hlo) hL)
      · have g1 : ¬ x.toInt < lo := fun z => hlo (Or.inl z)
        have g2 : ¬ hi < x.toInt := fun z => hlo (Or.inr z)
        have hj : (x.toInt - lo).toNat < ts.length := by omega
        have hlen : offs.toList.length = ts.length := by
          have := congrArg List.length hoffs
          simpa using this
        have hjo : (x.toInt - lo).toNat < offs.size := by rw [← Array.length_toList, hlen]; exact hj
        have hoff : (pc : Int) + offs[(x.toInt - lo).toNat] = (pcO code ts[(x.toInt - lo).toNat] : Int) := by
          have := congrArg (fun z => z[(x.toInt - lo).toNat]?) hoffs
          simp only [List.getElem?_map, List.getElem?_eq_getElem hj, Option.map_some, Array.getElem?_toList, Array.getElem?_eq_getElem hjo] at this
          exact Option.some.inj this
        refine lv_tableIn hx hb hd g1 g2 (Array.getElem?_eq_getElem hjo) hoff ?_
        have ex : x = Int32.ofInt (lo + (((x.toInt - lo).toNat : Nat) : Int)) := by
          have : lo + (((x.toInt - lo).toNat : Nat) : Int) = x.toInt := by omega
          rw [this, Int32.ofInt_toInt]
        exact go rfl (swT_spec (K := fun t => P t al r hp k n) h.2 (List.getElem?_eq_getElem hj) ex) hL
    · exact h.elim
  case lookupswitch d ps =>
    try dsimp only at h
    simp only [rowB, rowP, Bool.and_eq_true, decide_eq_true_eq, List.all_eq_true (p := fun o : Int × Int => decide ((Int32.ofInt o.1).toInt = o.1))] at hB
    obtain ⟨hd, ht, hoffs, hsort, hrng⟩ := hB
    split at h
    · rename_i x r
      obtain ⟨off, t, g1, g2, g3⟩ := swL_spec (K := fun t => P t al r hp k n) ht hoffs (fun o ho => by simpa using hrng o ho) h.2 h.1
      exact lv_lookup hx hb hd hsort g1 g2 (go rfl g3 hL)
    · exact h.elim
  all_goals exact hoth.elim
