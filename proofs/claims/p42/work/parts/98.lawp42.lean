/-! THE LAW, any run of calls: its cases, both sides alike (by wip/gen/lawrel.py) -/
section LAWREL
variable {l : Launch} {S : CS} {M : MS} {sc : List Int32} {i k n : Nat}
section KST
variable {R : Room} {X : List (List Int32)} {as am : List Value} {nx dc dm k n : Nat} {cs gm' : Sig} {P : AH → Option Value → Prop}
theorem kStN (h : StN l X S M dc cs as dm gm' am) (hr : dc + 1 ≤ R.frames ∧ 8 + (sL cs + 11) + 64 * dc ≤ R.locals ∧ k + sC cs ≤ R.cells ∧ n + sS cs ≤ R.slots)
    (kk : ∀ S' v, Ctr l dm X gm' am (mk S' M) (fun h w => (∃ M', REL S' M' ∧ h = mk S' M') ∧ ∃ v : Int32, w = some (.int v)) → P (mk S' M) (some (.int v))) :
    ∃ (d' : Nat) (Rq : AH → Option Value → Prop), (d' + 1 ≤ R.frames ∧ 8 + (sL cs + 11) + 64 * d' ≤ R.locals ∧ k + sC cs ≤ R.cells ∧ n + sS cs ≤ R.slots) ∧ Ctr l d' X cs as (mk S M) Rq ∧ ∀ hp' w, Rq hp' w → P hp' w := by
  obtain ⟨Q, h1, h2⟩ := h
  refine ⟨dc, _, hr, h1, ?_⟩
  rintro hp w ⟨⟨S', hS, rfl⟩, v, rfl⟩
  exact kk S' v (h2 S' hS)
theorem kStE (h : StE l X S M dc cs as dm gm' am) (hr : dc + 1 ≤ R.frames ∧ 8 + (sL cs + 11) + 64 * dc ≤ R.locals ∧ k + sC cs ≤ R.cells ∧ n + sS cs ≤ R.slots)
    (kk : ∀ S' v, Ctr l dm X gm' am (mk S' M) (fun h w => (∃ M', REL S' M' ∧ h = mk S' M') ∧ w = some (.int v)) → P (mk S' M) (some (.int v))) :
    ∃ (d' : Nat) (Rq : AH → Option Value → Prop), (d' + 1 ≤ R.frames ∧ 8 + (sL cs + 11) + 64 * d' ≤ R.locals ∧ k + sC cs ≤ R.cells ∧ n + sS cs ≤ R.slots) ∧ Ctr l d' X cs as (mk S M) Rq ∧ ∀ hp' w, Rq hp' w → P hp' w := by
  obtain ⟨Q, v, h1, h2⟩ := h
  refine ⟨dc, _, hr, h1, ?_⟩
  rintro hp w ⟨⟨S', hS, rfl⟩, rfl⟩
  exact kk S' v (h2 S' hS)
theorem kStNL (h : StNL l X S M dc cs as dm gm' am) (hr : dc + 1 ≤ R.frames ∧ 8 + (sL cs + 11) + 64 * dc ≤ R.locals ∧ k + sC cs ≤ R.cells ∧ n + sS cs ≤ R.slots)
    (kk : ∀ S' v, Ctr l dm X gm' am (mk S' M) (fun h w => (∃ M', REL S' M' ∧ h = mk S' M') ∧ ∃ v : Int64, w = some (.long v)) → P (mk S' M) (some (.long v))) :
    ∃ (d' : Nat) (Rq : AH → Option Value → Prop), (d' + 1 ≤ R.frames ∧ 8 + (sL cs + 11) + 64 * d' ≤ R.locals ∧ k + sC cs ≤ R.cells ∧ n + sS cs ≤ R.slots) ∧ Ctr l d' X cs as (mk S M) Rq ∧ ∀ hp' w, Rq hp' w → P hp' w := by
  obtain ⟨Q, h1, h2⟩ := h
  refine ⟨dc, _, hr, h1, ?_⟩
  rintro hp w ⟨⟨S', hS, rfl⟩, v, rfl⟩
  exact kk S' v (h2 S' hS)
theorem kStEL (h : StEL l X S M dc cs as dm gm' am) (hr : dc + 1 ≤ R.frames ∧ 8 + (sL cs + 11) + 64 * dc ≤ R.locals ∧ k + sC cs ≤ R.cells ∧ n + sS cs ≤ R.slots)
    (kk : ∀ S' v, Ctr l dm X gm' am (mk S' M) (fun h w => (∃ M', REL S' M' ∧ h = mk S' M') ∧ w = some (.long v)) → P (mk S' M) (some (.long v))) :
    ∃ (d' : Nat) (Rq : AH → Option Value → Prop), (d' + 1 ≤ R.frames ∧ 8 + (sL cs + 11) + 64 * d' ≤ R.locals ∧ k + sC cs ≤ R.cells ∧ n + sS cs ≤ R.slots) ∧ Ctr l d' X cs as (mk S M) Rq ∧ ∀ hp' w, Rq hp' w → P hp' w := by
  obtain ⟨Q, v, h1, h2⟩ := h
  refine ⟨dc, _, hr, h1, ?_⟩
  rintro hp w ⟨⟨S', hS, rfl⟩, rfl⟩
  exact kk S' v (h2 S' hS)
end KST
def lookL : Nat → Option Row := lk2 [kL_law_0, kL_law_1, kL_law_2, kL_law_3, kL_law_4, kL_law_5, kL_law_6, kL_law_7, kL_law_8, kL_law_9, kL_law_10]
theorem lookL_ok : ∀ i, lookL i = kL_law[i]? := fun i => lk2_ok (cs := [kL_law_0, kL_law_1, kL_law_2, kL_law_3, kL_law_4, kL_law_5, kL_law_6, kL_law_7, kL_law_8, kL_law_9, kL_law_10]) (by decide +kernel)
def cutL (i : Nat) : Bool := [10, 22, 39, 106, 113, 130, 177, 204, 221, 248, 285, 312, 349, 356, 383, 390, 417, 424, 431, 448, 465, 502, 529, 546, 563, 600, 637, 674, 691, 708, 745, 762, 789, 806, 823, 860, 867, 874, 911, 948, 1005, 1052, 1079].any (Nat.beq i)
theorem v_i (hi : 7 * i + 7 ≤ sc.length) (hs : sc.length ≤ 3584) {j : Nat} (hj : j < 7) : vp_in (nI (7 * i) + nI j) sc.length := by rw [nI_add]; exact vp_nI (by omega) (by omega)
theorem v_0 (hi : 7 * i + 7 ≤ sc.length) (hs : sc.length ≤ 3584) : vp_in (nI (7 * i)) sc.length := vp_nI (by omega) (by omega)
theorem v_1 (hi : 7 * i + 7 ≤ sc.length) (hs : sc.length ≤ 3584) : vp_in (nI (7 * i) + Int32.ofInt 1) sc.length := v_i hi hs (j := 1) (by decide)
theorem v_2 (hi : 7 * i + 7 ≤ sc.length) (hs : sc.length ≤ 3584) : vp_in (nI (7 * i) + Int32.ofInt 2) sc.length := v_i hi hs (j := 2) (by decide)
theorem v_3 (hi : 7 * i + 7 ≤ sc.length) (hs : sc.length ≤ 3584) : vp_in (nI (7 * i) + Int32.ofInt 3) sc.length := v_i hi hs (j := 3) (by decide)
theorem v_4 (hi : 7 * i + 7 ≤ sc.length) (hs : sc.length ≤ 3584) : vp_in (nI (7 * i) + Int32.ofInt 4) sc.length := v_i hi hs (j := 4) (by decide)
theorem v_5 (hi : 7 * i + 7 ≤ sc.length) (hs : sc.length ≤ 3584) : vp_in (nI (7 * i) + Int32.ofInt 5) sc.length := v_i hi hs (j := 5) (by decide)
theorem v_6 (hi : 7 * i + 7 ≤ sc.length) (hs : sc.length ≤ 3584) : vp_in (nI (7 * i) + Int32.ofInt 6) sc.length := v_i hi hs (j := 6) (by decide)
abbrev qL : AH → Option Value → Prop := fun _ v => v = some (.int 1)
abbrev lL (i : Nat) : LO := [some (.ref 1001), some (.ref 0), some (.ref 27), some (.int (nI (7 * i)))]
theorem rk (hk : k ≤ 1000) : k + 0 ≤ room_1.cells := Nat.le_trans hk (by decide)
theorem rn (hn : n ≤ 100000) : n + 0 ≤ room_1.slots := Nat.le_trans hn (by decide)
theorem len_toInt {z : Nat} (hz : z ≤ 3584) : (Int32.ofNat z - Int32.ofInt 7).toInt = (z : Int) - 7 := by
  have h1 : (Int32.ofNat z).toInt = z := nI_toInt (n := z) (by omega)
  rw [Int32.toInt_sub, h1, show (Int32.ofInt 7).toInt = 7 from by decide]
  apply Int.bmod_eq_of_le <;> omega
theorem law_in (hi : 7 * i + 7 ≤ sc.length) (hs : sc.length ≤ 3584) : ¬ Int32.ofNat sc.length - Int32.ofInt 7 < nI (7 * i) := by
  rw [Int32.lt_iff_toInt_lt, len_toInt hs, nI_toInt (by omega)]
  omega
theorem law_out (hi : ¬ 7 * i + 7 ≤ sc.length) (hs : sc.length ≤ 3584) (hi2 : i ≤ 600) : Int32.ofNat sc.length - Int32.ofInt 7 < nI (7 * i) := by
  rw [Int32.lt_iff_toInt_lt, len_toInt hs, nI_toInt (by omega)]
  omega
/-- the next call -/
abbrev NX (l : Launch) (sc : List Int32) (i k n : Nat) : Prop := ∀ (S : CS) (M : MS), REL S M → WP l room_1 [soInL, sc] sgL_law kL_law qL 1079 (lL i) [] (mk S M) k n
set_option maxRecDepth 100000 in
theorem law_0 (hi : 7 * i + 7 ≤ sc.length) (hs : sc.length ≤ 3584) (r : REL S M) (hk : k ≤ 1000) (hn : n ≤ 100000) (nx : NX l sc i k n) : WP l room_1 [soInL, sc] sgL_law kL_law qL 22 (lL i) [] (mk S M) k n := by
  refine run_soundF okL_law lookL_ok (fun j => Nat.beq j 1079) 100 (Exists.intro _ (And.intro rfl (And.intro (v_1 hi hs) (kStN (S_count r _).n ⟨by decide, by decide, rk hk, rn hn⟩ (fun S1 v h2 => ?_)))))
  refine And.intro rfl (Exists.intro _ (And.intro rfl (And.intro (v_1 hi hs) (⟨_, _, ⟨by decide, by decide, rk hk, rn hn⟩, h2, ?_⟩))))
  rintro h w ⟨⟨M1, hM1, rfl⟩, v, rfl⟩
  exact And.intro rfl (nx S1 M1 hM1)
set_option maxRecDepth 100000 in
theorem law_1 (hi : 7 * i + 7 ≤ sc.length) (hs : sc.length ≤ 3584) (r : REL S M) (hk : k ≤ 1000) (hn : n ≤ 100000) (nx : NX l sc i k n) : WP l room_1 [soInL, sc] sgL_law kL_law qL 39 (lL i) [] (mk S M) k n := by
  refine run_soundF okL_law lookL_ok (fun j => Nat.beq j 1079) 100 (Exists.intro _ (And.intro rfl (And.intro (v_1 hi hs) (Exists.intro _ (And.intro rfl (And.intro (v_2 hi hs) (Exists.intro _ (And.intro rfl (And.intro (v_3 hi hs) (Exists.intro _ (And.intro rfl (And.intro (v_4 hi hs) (Exists.intro _ (And.intro rfl (And.intro (v_5 hi hs) (Exists.intro _ (And.intro rfl (And.intro (v_6 hi hs) (kStN (S_feed r _ _ _ _ _ _).n ⟨by decide, by decide, rk hk, rn hn⟩ (fun S1 v h2 => ?_))))))))))))))))))))
  refine And.intro rfl (Exists.intro _ (And.intro rfl (And.intro (v_1 hi hs) (Exists.intro _ (And.intro rfl (And.intro (v_2 hi hs) (Exists.intro _ (And.intro rfl (And.intro (v_3 hi hs) (Exists.intro _ (And.intro rfl (And.intro (v_4 hi hs) (Exists.intro _ (And.intro rfl (And.intro (v_5 hi hs) (Exists.intro _ (And.intro rfl (And.intro (v_6 hi hs) (⟨_, _, ⟨by decide, by decide, rk hk, rn hn⟩, h2, ?_⟩)))))))))))))))))))
  rintro h w ⟨⟨M1, hM1, rfl⟩, v, rfl⟩
  exact And.intro rfl (nx S1 M1 hM1)
set_option maxRecDepth 100000 in
theorem law_2 (hi : 7 * i + 7 ≤ sc.length) (hs : sc.length ≤ 3584) (r : REL S M) (hk : k ≤ 1000) (hn : n ≤ 100000) (nx : NX l sc i k n) : WP l room_1 [soInL, sc] sgL_law kL_law qL 106 (lL i) [] (mk S M) k n := by
  refine run_soundF okL_law lookL_ok (fun j => Nat.beq j 1079) 100 (kStN (S_text r).n ⟨by decide, by decide, rk hk, rn hn⟩ (fun S1 v h2 => ?_))
  refine And.intro rfl (⟨_, _, ⟨by decide, by decide, rk hk, rn hn⟩, h2, ?_⟩)
  rintro h w ⟨⟨M1, hM1, rfl⟩, v, rfl⟩
  exact And.intro rfl (nx S1 M1 hM1)
set_option maxRecDepth 100000 in
theorem law_3 (hi : 7 * i + 7 ≤ sc.length) (hs : sc.length ≤ 3584) (r : REL S M) (hk : k ≤ 1000) (hn : n ≤ 100000) (nx : NX l sc i k n) : WP l room_1 [soInL, sc] sgL_law kL_law qL 113 (lL i) [] (mk S M) k n := by
  refine run_soundF okL_law lookL_ok (fun j => Nat.beq j 1079) 100 (Exists.intro _ (And.intro rfl (And.intro (v_1 hi hs) (kStN (S_force r _).n ⟨by decide, by decide, rk hk, rn hn⟩ (fun S1 v h2 => ?_)))))
  refine And.intro rfl (Exists.intro _ (And.intro rfl (And.intro (v_1 hi hs) (⟨_, _, ⟨by decide, by decide, rk hk, rn hn⟩, h2, ?_⟩))))
  rintro h w ⟨⟨M1, hM1, rfl⟩, v, rfl⟩
  exact And.intro rfl (nx S1 M1 hM1)
set_option maxRecDepth 100000 in
theorem law_4 (hi : 7 * i + 7 ≤ sc.length) (hs : sc.length ≤ 3584) (r : REL S M) (hk : k ≤ 1000) (hn : n ≤ 100000) (nx : NX l sc i k n) : WP l room_1 [soInL, sc] sgL_law kL_law qL 130 (lL i) [] (mk S M) k n := by
  refine run_soundF okL_law lookL_ok (fun j => Nat.beq j 1079) 100 (Exists.intro _ (And.intro rfl (And.intro (v_1 hi hs) (Exists.intro _ (And.intro rfl (And.intro (v_2 hi hs) (Exists.intro _ (And.intro rfl (And.intro (v_3 hi hs) (Exists.intro _ (And.intro rfl (And.intro (v_4 hi hs) (kStN (S_asks r _ _ _ _).n ⟨by decide, by decide, rk hk, rn hn⟩ (fun S1 v h2 => ?_))))))))))))))
  refine And.intro rfl (Exists.intro _ (And.intro rfl (And.intro (v_1 hi hs) (Exists.intro _ (And.intro rfl (And.intro (v_2 hi hs) (Exists.intro _ (And.intro rfl (And.intro (v_3 hi hs) (Exists.intro _ (And.intro rfl (And.intro (v_4 hi hs) (⟨_, _, ⟨by decide, by decide, rk hk, rn hn⟩, h2, ?_⟩)))))))))))))
  rintro h w ⟨⟨M1, hM1, rfl⟩, v, rfl⟩
  exact And.intro rfl (nx S1 M1 hM1)
set_option maxRecDepth 100000 in
theorem law_5 (hi : 7 * i + 7 ≤ sc.length) (hs : sc.length ≤ 3584) (r : REL S M) (hk : k ≤ 1000) (hn : n ≤ 100000) (nx : NX l sc i k n) : WP l room_1 [soInL, sc] sgL_law kL_law qL 177 (lL i) [] (mk S M) k n := by
  refine run_soundF okL_law lookL_ok (fun j => Nat.beq j 1079) 100 (Exists.intro _ (And.intro rfl (And.intro (v_1 hi hs) (Exists.intro _ (And.intro rfl (And.intro (v_2 hi hs) (kStNL (S_means r _ _).n ⟨by decide, by decide, rk hk, rn hn⟩ (fun S1 v h2 => ?_))))))))
  refine And.intro rfl (Exists.intro _ (And.intro rfl (And.intro (v_1 hi hs) (Exists.intro _ (And.intro rfl (And.intro (v_2 hi hs) (⟨_, _, ⟨by decide, by decide, rk hk, rn hn⟩, h2, ?_⟩)))))))
  rintro h w ⟨⟨M1, hM1, rfl⟩, v, rfl⟩
  exact And.intro rfl (nx S1 M1 hM1)
set_option maxRecDepth 100000 in
theorem law_6 (hi : 7 * i + 7 ≤ sc.length) (hs : sc.length ≤ 3584) (r : REL S M) (hk : k ≤ 1000) (hn : n ≤ 100000) (nx : NX l sc i k n) : WP l room_1 [soInL, sc] sgL_law kL_law qL 204 (lL i) [] (mk S M) k n := by
  refine run_soundF okL_law lookL_ok (fun j => Nat.beq j 1079) 100 (Exists.intro _ (And.intro rfl (And.intro (v_1 hi hs) (kStN (S_pairs r _).n ⟨by decide, by decide, rk hk, rn hn⟩ (fun S1 v h2 => ?_)))))
  refine And.intro rfl (Exists.intro _ (And.intro rfl (And.intro (v_1 hi hs) (⟨_, _, ⟨by decide, by decide, rk hk, rn hn⟩, h2, ?_⟩))))
  rintro h w ⟨⟨M1, hM1, rfl⟩, v, rfl⟩
  exact And.intro rfl (nx S1 M1 hM1)
set_option maxRecDepth 100000 in
theorem law_7 (hi : 7 * i + 7 ≤ sc.length) (hs : sc.length ≤ 3584) (r : REL S M) (hk : k ≤ 1000) (hn : n ≤ 100000) (nx : NX l sc i k n) : WP l room_1 [soInL, sc] sgL_law kL_law qL 221 (lL i) [] (mk S M) k n := by
  refine run_soundF okL_law lookL_ok (fun j => Nat.beq j 1079) 100 (Exists.intro _ (And.intro rfl (And.intro (v_1 hi hs) (Exists.intro _ (And.intro rfl (And.intro (v_2 hi hs) (kStN (S_speaker r _ _).n ⟨by decide, by decide, rk hk, rn hn⟩ (fun S1 v h2 => ?_))))))))
  refine And.intro rfl (Exists.intro _ (And.intro rfl (And.intro (v_1 hi hs) (Exists.intro _ (And.intro rfl (And.intro (v_2 hi hs) (⟨_, _, ⟨by decide, by decide, rk hk, rn hn⟩, h2, ?_⟩)))))))
  rintro h w ⟨⟨M1, hM1, rfl⟩, v, rfl⟩
  exact And.intro rfl (nx S1 M1 hM1)
set_option maxRecDepth 100000 in
theorem law_8 (hi : 7 * i + 7 ≤ sc.length) (hs : sc.length ≤ 3584) (r : REL S M) (hk : k ≤ 1000) (hn : n ≤ 100000) (nx : NX l sc i k n) : WP l room_1 [soInL, sc] sgL_law kL_law qL 248 (lL i) [] (mk S M) k n := by
  refine run_soundF okL_law lookL_ok (fun j => Nat.beq j 1079) 100 (Exists.intro _ (And.intro rfl (And.intro (v_1 hi hs) (Exists.intro _ (And.intro rfl (And.intro (v_2 hi hs) (Exists.intro _ (And.intro rfl (And.intro (v_3 hi hs) (kStN (S_turn r _ _ _).n ⟨by decide, by decide, rk hk, rn hn⟩ (fun S1 v h2 => ?_)))))))))))
  refine And.intro rfl (Exists.intro _ (And.intro rfl (And.intro (v_1 hi hs) (Exists.intro _ (And.intro rfl (And.intro (v_2 hi hs) (Exists.intro _ (And.intro rfl (And.intro (v_3 hi hs) (⟨_, _, ⟨by decide, by decide, rk hk, rn hn⟩, h2, ?_⟩))))))))))
  rintro h w ⟨⟨M1, hM1, rfl⟩, v, rfl⟩
  exact And.intro rfl (nx S1 M1 hM1)
set_option maxRecDepth 100000 in
theorem law_9 (hi : 7 * i + 7 ≤ sc.length) (hs : sc.length ≤ 3584) (r : REL S M) (hk : k ≤ 1000) (hn : n ≤ 100000) (nx : NX l sc i k n) : WP l room_1 [soInL, sc] sgL_law kL_law qL 285 (lL i) [] (mk S M) k n := by
  refine run_soundF okL_law lookL_ok (fun j => Nat.beq j 1079) 100 (Exists.intro _ (And.intro rfl (And.intro (v_1 hi hs) (Exists.intro _ (And.intro rfl (And.intro (v_2 hi hs) (kStN (S_told r _ _).n ⟨by decide, by decide, rk hk, rn hn⟩ (fun S1 v h2 => ?_))))))))
  refine And.intro rfl (Exists.intro _ (And.intro rfl (And.intro (v_1 hi hs) (Exists.intro _ (And.intro rfl (And.intro (v_2 hi hs) (⟨_, _, ⟨by decide, by decide, rk hk, rn hn⟩, h2, ?_⟩)))))))
  rintro h w ⟨⟨M1, hM1, rfl⟩, v, rfl⟩
  exact And.intro rfl (nx S1 M1 hM1)
set_option maxRecDepth 100000 in
theorem law_10 (hi : 7 * i + 7 ≤ sc.length) (hs : sc.length ≤ 3584) (r : REL S M) (hk : k ≤ 1000) (hn : n ≤ 100000) (nx : NX l sc i k n) : WP l room_1 [soInL, sc] sgL_law kL_law qL 312 (lL i) [] (mk S M) k n := by
  refine run_soundF okL_law lookL_ok (fun j => Nat.beq j 1079) 100 (Exists.intro _ (And.intro rfl (And.intro (v_1 hi hs) (Exists.intro _ (And.intro rfl (And.intro (v_2 hi hs) (Exists.intro _ (And.intro rfl (And.intro (v_3 hi hs) (kStN (S_say r _ _ _).n ⟨by decide, by decide, rk hk, rn hn⟩ (fun S1 v h2 => ?_)))))))))))
  refine And.intro rfl (Exists.intro _ (And.intro rfl (And.intro (v_1 hi hs) (Exists.intro _ (And.intro rfl (And.intro (v_2 hi hs) (Exists.intro _ (And.intro rfl (And.intro (v_3 hi hs) (⟨_, _, ⟨by decide, by decide, rk hk, rn hn⟩, h2, ?_⟩))))))))))
  rintro h w ⟨⟨M1, hM1, rfl⟩, v, rfl⟩
  exact And.intro rfl (nx S1 M1 hM1)
set_option maxRecDepth 100000 in
theorem law_11 (hi : 7 * i + 7 ≤ sc.length) (hs : sc.length ≤ 3584) (r : REL S M) (hk : k ≤ 1000) (hn : n ≤ 100000) (nx : NX l sc i k n) : WP l room_1 [soInL, sc] sgL_law kL_law qL 349 (lL i) [] (mk S M) k n := by
  refine run_soundF okL_law lookL_ok (fun j => Nat.beq j 1079) 100 (kStN (S_unsay r).n ⟨by decide, by decide, rk hk, rn hn⟩ (fun S1 v h2 => ?_))
  refine And.intro rfl (⟨_, _, ⟨by decide, by decide, rk hk, rn hn⟩, h2, ?_⟩)
  rintro h w ⟨⟨M1, hM1, rfl⟩, v, rfl⟩
  exact And.intro rfl (nx S1 M1 hM1)
set_option maxRecDepth 100000 in
theorem law_12 (hi : 7 * i + 7 ≤ sc.length) (hs : sc.length ≤ 3584) (r : REL S M) (hk : k ≤ 1000) (hn : n ≤ 100000) (nx : NX l sc i k n) : WP l room_1 [soInL, sc] sgL_law kL_law qL 356 (lL i) [] (mk S M) k n := by
  refine run_soundF okL_law lookL_ok (fun j => Nat.beq j 1079) 100 (Exists.intro _ (And.intro rfl (And.intro (v_1 hi hs) (Exists.intro _ (And.intro rfl (And.intro (v_2 hi hs) (kStN (S_said r _ _).n ⟨by decide, by decide, rk hk, rn hn⟩ (fun S1 v h2 => ?_))))))))
  refine And.intro rfl (Exists.intro _ (And.intro rfl (And.intro (v_1 hi hs) (Exists.intro _ (And.intro rfl (And.intro (v_2 hi hs) (⟨_, _, ⟨by decide, by decide, rk hk, rn hn⟩, h2, ?_⟩)))))))
  rintro h w ⟨⟨M1, hM1, rfl⟩, v, rfl⟩
  exact And.intro rfl (nx S1 M1 hM1)
set_option maxRecDepth 100000 in
theorem law_13 (hi : 7 * i + 7 ≤ sc.length) (hs : sc.length ≤ 3584) (r : REL S M) (hk : k ≤ 1000) (hn : n ≤ 100000) (nx : NX l sc i k n) : WP l room_1 [soInL, sc] sgL_law kL_law qL 383 (lL i) [] (mk S M) k n := by
  refine run_soundF okL_law lookL_ok (fun j => Nat.beq j 1079) 100 (kStNL (S_worlds r).n ⟨by decide, by decide, rk hk, rn hn⟩ (fun S1 v h2 => ?_))
  refine And.intro rfl (⟨_, _, ⟨by decide, by decide, rk hk, rn hn⟩, h2, ?_⟩)
  rintro h w ⟨⟨M1, hM1, rfl⟩, v, rfl⟩
  exact And.intro rfl (nx S1 M1 hM1)
set_option maxRecDepth 100000 in
theorem law_14 (hi : 7 * i + 7 ≤ sc.length) (hs : sc.length ≤ 3584) (r : REL S M) (hk : k ≤ 1000) (hn : n ≤ 100000) (nx : NX l sc i k n) : WP l room_1 [soInL, sc] sgL_law kL_law qL 390 (lL i) [] (mk S M) k n := by
  refine run_soundF okL_law lookL_ok (fun j => Nat.beq j 1079) 100 (Exists.intro _ (And.intro rfl (And.intro (v_1 hi hs) (Exists.intro _ (And.intro rfl (And.intro (v_2 hi hs) (kStN (S_behind rfl r _ _).n ⟨by decide, by decide, rk hk, rn hn⟩ (fun S1 v h2 => ?_))))))))
  refine And.intro rfl (Exists.intro _ (And.intro rfl (And.intro (v_1 hi hs) (Exists.intro _ (And.intro rfl (And.intro (v_2 hi hs) (⟨_, _, ⟨by decide, by decide, rk hk, rn hn⟩, h2, ?_⟩)))))))
  rintro h w ⟨⟨M1, hM1, rfl⟩, v, rfl⟩
  exact And.intro rfl (nx S1 M1 hM1)
set_option maxRecDepth 100000 in
theorem law_15 (hi : 7 * i + 7 ≤ sc.length) (hs : sc.length ≤ 3584) (r : REL S M) (hk : k ≤ 1000) (hn : n ≤ 100000) (nx : NX l sc i k n) : WP l room_1 [soInL, sc] sgL_law kL_law qL 417 (lL i) [] (mk S M) k n := by
  refine run_soundF okL_law lookL_ok (fun j => Nat.beq j 1079) 100 (kStN (S_cannot r).n ⟨by decide, by decide, rk hk, rn hn⟩ (fun S1 v h2 => ?_))
  refine And.intro rfl (⟨_, _, ⟨by decide, by decide, rk hk, rn hn⟩, h2, ?_⟩)
  rintro h w ⟨⟨M1, hM1, rfl⟩, v, rfl⟩
  exact And.intro rfl (nx S1 M1 hM1)
set_option maxRecDepth 100000 in
theorem law_16 (hi : 7 * i + 7 ≤ sc.length) (hs : sc.length ≤ 3584) (r : REL S M) (hk : k ≤ 1000) (hn : n ≤ 100000) (nx : NX l sc i k n) : WP l room_1 [soInL, sc] sgL_law kL_law qL 424 (lL i) [] (mk S M) k n := by
  refine run_soundF okL_law lookL_ok (fun j => Nat.beq j 1079) 100 (kStN (S_lies r).n ⟨by decide, by decide, rk hk, rn hn⟩ (fun S1 v h2 => ?_))
  refine And.intro rfl (⟨_, _, ⟨by decide, by decide, rk hk, rn hn⟩, h2, ?_⟩)
  rintro h w ⟨⟨M1, hM1, rfl⟩, v, rfl⟩
  exact And.intro rfl (nx S1 M1 hM1)
set_option maxRecDepth 100000 in
theorem law_17 (hi : 7 * i + 7 ≤ sc.length) (hs : sc.length ≤ 3584) (r : REL S M) (hk : k ≤ 1000) (hn : n ≤ 100000) (nx : NX l sc i k n) : WP l room_1 [soInL, sc] sgL_law kL_law qL 431 (lL i) [] (mk S M) k n := by
  refine run_soundF okL_law lookL_ok (fun j => Nat.beq j 1079) 100 (Exists.intro _ (And.intro rfl (And.intro (v_1 hi hs) (kStN (S_least r _).n ⟨by decide, by decide, rk hk, rn hn⟩ (fun S1 v h2 => ?_)))))
  refine And.intro rfl (Exists.intro _ (And.intro rfl (And.intro (v_1 hi hs) (⟨_, _, ⟨by decide, by decide, rk hk, rn hn⟩, h2, ?_⟩))))
  rintro h w ⟨⟨M1, hM1, rfl⟩, v, rfl⟩
  exact And.intro rfl (nx S1 M1 hM1)
set_option maxRecDepth 100000 in
theorem law_18 (hi : 7 * i + 7 ≤ sc.length) (hs : sc.length ≤ 3584) (r : REL S M) (hk : k ≤ 1000) (hn : n ≤ 100000) (nx : NX l sc i k n) : WP l room_1 [soInL, sc] sgL_law kL_law qL 448 (lL i) [] (mk S M) k n := by
  refine run_soundF okL_law lookL_ok (fun j => Nat.beq j 1079) 100 (Exists.intro _ (And.intro rfl (And.intro (v_1 hi hs) (kStN (S_mad r _).n ⟨by decide, by decide, rk hk, rn hn⟩ (fun S1 v h2 => ?_)))))
  refine And.intro rfl (Exists.intro _ (And.intro rfl (And.intro (v_1 hi hs) (⟨_, _, ⟨by decide, by decide, rk hk, rn hn⟩, h2, ?_⟩))))
  rintro h w ⟨⟨M1, hM1, rfl⟩, v, rfl⟩
  exact And.intro rfl (nx S1 M1 hM1)
set_option maxRecDepth 100000 in
theorem law_19 (hi : 7 * i + 7 ≤ sc.length) (hs : sc.length ≤ 3584) (r : REL S M) (hk : k ≤ 1000) (hn : n ≤ 100000) (nx : NX l sc i k n) : WP l room_1 [soInL, sc] sgL_law kL_law qL 465 (lL i) [] (mk S M) k n := by
  refine run_soundF okL_law lookL_ok (fun j => Nat.beq j 1079) 100 (Exists.intro _ (And.intro rfl (And.intro (v_1 hi hs) (Exists.intro _ (And.intro rfl (And.intro (v_2 hi hs) (Exists.intro _ (And.intro rfl (And.intro (v_3 hi hs) (kStNL (S_habit r _ _ _).n ⟨by decide, by decide, rk hk, rn hn⟩ (fun S1 v h2 => ?_)))))))))))
  refine And.intro rfl (Exists.intro _ (And.intro rfl (And.intro (v_1 hi hs) (Exists.intro _ (And.intro rfl (And.intro (v_2 hi hs) (Exists.intro _ (And.intro rfl (And.intro (v_3 hi hs) (⟨_, _, ⟨by decide, by decide, rk hk, rn hn⟩, h2, ?_⟩))))))))))
  rintro h w ⟨⟨M1, hM1, rfl⟩, v, rfl⟩
  exact And.intro rfl (nx S1 M1 hM1)
set_option maxRecDepth 100000 in
theorem law_20 (hi : 7 * i + 7 ≤ sc.length) (hs : sc.length ≤ 3584) (r : REL S M) (hk : k ≤ 1000) (hn : n ≤ 100000) (nx : NX l sc i k n) : WP l room_1 [soInL, sc] sgL_law kL_law qL 502 (lL i) [] (mk S M) k n := by
  refine run_soundF okL_law lookL_ok (fun j => Nat.beq j 1079) 100 (Exists.intro _ (And.intro rfl (And.intro (v_1 hi hs) (Exists.intro _ (And.intro rfl (And.intro (v_2 hi hs) (kStN (S_kinds r _ _).n ⟨by decide, by decide, rk hk, rn hn⟩ (fun S1 v h2 => ?_))))))))
  refine And.intro rfl (Exists.intro _ (And.intro rfl (And.intro (v_1 hi hs) (Exists.intro _ (And.intro rfl (And.intro (v_2 hi hs) (⟨_, _, ⟨by decide, by decide, rk hk, rn hn⟩, h2, ?_⟩)))))))
  rintro h w ⟨⟨M1, hM1, rfl⟩, v, rfl⟩
  exact And.intro rfl (nx S1 M1 hM1)
set_option maxRecDepth 100000 in
theorem law_21 (hi : 7 * i + 7 ≤ sc.length) (hs : sc.length ≤ 3584) (r : REL S M) (hk : k ≤ 1000) (hn : n ≤ 100000) (nx : NX l sc i k n) : WP l room_1 [soInL, sc] sgL_law kL_law qL 529 (lL i) [] (mk S M) k n := by
  refine run_soundF okL_law lookL_ok (fun j => Nat.beq j 1079) 100 (Exists.intro _ (And.intro rfl (And.intro (v_1 hi hs) (kStN (S_ask r _).n ⟨by decide, by decide, rk hk, rn hn⟩ (fun S1 v h2 => ?_)))))
  refine And.intro rfl (Exists.intro _ (And.intro rfl (And.intro (v_1 hi hs) (⟨_, _, ⟨by decide, by decide, rk hk, rn hn⟩, h2, ?_⟩))))
  rintro h w ⟨⟨M1, hM1, rfl⟩, v, rfl⟩
  exact And.intro rfl (nx S1 M1 hM1)
set_option maxRecDepth 100000 in
theorem law_22 (hi : 7 * i + 7 ≤ sc.length) (hs : sc.length ≤ 3584) (r : REL S M) (hk : k ≤ 1000) (hn : n ≤ 100000) (nx : NX l sc i k n) : WP l room_1 [soInL, sc] sgL_law kL_law qL 546 (lL i) [] (mk S M) k n := by
  refine run_soundF okL_law lookL_ok (fun j => Nat.beq j 1079) 100 (Exists.intro _ (And.intro rfl (And.intro (v_1 hi hs) (kStN (S_two r _).n ⟨by decide, by decide, rk hk, rn hn⟩ (fun S1 v h2 => ?_)))))
  refine And.intro rfl (Exists.intro _ (And.intro rfl (And.intro (v_1 hi hs) (⟨_, _, ⟨by decide, by decide, rk hk, rn hn⟩, h2, ?_⟩))))
  rintro h w ⟨⟨M1, hM1, rfl⟩, v, rfl⟩
  exact And.intro rfl (nx S1 M1 hM1)
set_option maxRecDepth 100000 in
theorem law_23 (hi : 7 * i + 7 ≤ sc.length) (hs : sc.length ≤ 3584) (r : REL S M) (hk : k ≤ 1000) (hn : n ≤ 100000) (nx : NX l sc i k n) : WP l room_1 [soInL, sc] sgL_law kL_law qL 563 (lL i) [] (mk S M) k n := by
  refine run_soundF okL_law lookL_ok (fun j => Nat.beq j 1079) 100 (Exists.intro _ (And.intro rfl (And.intro (v_1 hi hs) (Exists.intro _ (And.intro rfl (And.intro (v_2 hi hs) (Exists.intro _ (And.intro rfl (And.intro (v_3 hi hs) (kStNL (S_parts r _ _ _).n ⟨by decide, by decide, rk hk, rn hn⟩ (fun S1 v h2 => ?_)))))))))))
  refine And.intro rfl (Exists.intro _ (And.intro rfl (And.intro (v_1 hi hs) (Exists.intro _ (And.intro rfl (And.intro (v_2 hi hs) (Exists.intro _ (And.intro rfl (And.intro (v_3 hi hs) (⟨_, _, ⟨by decide, by decide, rk hk, rn hn⟩, h2, ?_⟩))))))))))
  rintro h w ⟨⟨M1, hM1, rfl⟩, v, rfl⟩
  exact And.intro rfl (nx S1 M1 hM1)
set_option maxRecDepth 100000 in
theorem law_24 (hi : 7 * i + 7 ≤ sc.length) (hs : sc.length ≤ 3584) (r : REL S M) (hk : k ≤ 1000) (hn : n ≤ 100000) (nx : NX l sc i k n) : WP l room_1 [soInL, sc] sgL_law kL_law qL 600 (lL i) [] (mk S M) k n := by
  refine run_soundF okL_law lookL_ok (fun j => Nat.beq j 1079) 100 (Exists.intro _ (And.intro rfl (And.intro (v_1 hi hs) (Exists.intro _ (And.intro rfl (And.intro (v_2 hi hs) (Exists.intro _ (And.intro rfl (And.intro (v_3 hi hs) (kStN (N_hide rfl r _ _ _) ⟨by decide, by decide, rk hk, rn hn⟩ (fun S1 v h2 => ?_)))))))))))
  refine And.intro rfl (Exists.intro _ (And.intro rfl (And.intro (v_1 hi hs) (Exists.intro _ (And.intro rfl (And.intro (v_2 hi hs) (Exists.intro _ (And.intro rfl (And.intro (v_3 hi hs) (⟨_, _, ⟨by decide, by decide, rk hk, rn hn⟩, h2, ?_⟩))))))))))
  rintro h w ⟨⟨M1, hM1, rfl⟩, v, rfl⟩
  exact And.intro rfl (nx S1 M1 hM1)
set_option maxRecDepth 100000 in
theorem law_25 (hi : 7 * i + 7 ≤ sc.length) (hs : sc.length ≤ 3584) (r : REL S M) (hk : k ≤ 1000) (hn : n ≤ 100000) (nx : NX l sc i k n) : WP l room_1 [soInL, sc] sgL_law kL_law qL 637 (lL i) [] (mk S M) k n := by
  refine run_soundF okL_law lookL_ok (fun j => Nat.beq j 1079) 100 (Exists.intro _ (And.intro rfl (And.intro (v_1 hi hs) (Exists.intro _ (And.intro rfl (And.intro (v_2 hi hs) (Exists.intro _ (And.intro rfl (And.intro (v_3 hi hs) (kStN (S_same r _ _ _).n ⟨by decide, by decide, rk hk, rn hn⟩ (fun S1 v h2 => ?_)))))))))))
  refine And.intro rfl (Exists.intro _ (And.intro rfl (And.intro (v_1 hi hs) (Exists.intro _ (And.intro rfl (And.intro (v_2 hi hs) (Exists.intro _ (And.intro rfl (And.intro (v_3 hi hs) (⟨_, _, ⟨by decide, by decide, rk hk, rn hn⟩, h2, ?_⟩))))))))))
  rintro h w ⟨⟨M1, hM1, rfl⟩, v, rfl⟩
  exact And.intro rfl (nx S1 M1 hM1)
set_option maxRecDepth 100000 in
theorem law_26 (hi : 7 * i + 7 ≤ sc.length) (hs : sc.length ≤ 3584) (r : REL S M) (hk : k ≤ 1000) (hn : n ≤ 100000) (nx : NX l sc i k n) : WP l room_1 [soInL, sc] sgL_law kL_law qL 674 (lL i) [] (mk S M) k n := by
  refine run_soundF okL_law lookL_ok (fun j => Nat.beq j 1079) 100 (Exists.intro _ (And.intro rfl (And.intro (v_1 hi hs) (kStN (S_claims r _).n ⟨by decide, by decide, rk hk, rn hn⟩ (fun S1 v h2 => ?_)))))
  refine And.intro rfl (Exists.intro _ (And.intro rfl (And.intro (v_1 hi hs) (⟨_, _, ⟨by decide, by decide, rk hk, rn hn⟩, h2, ?_⟩))))
  rintro h w ⟨⟨M1, hM1, rfl⟩, v, rfl⟩
  exact And.intro rfl (nx S1 M1 hM1)
set_option maxRecDepth 100000 in
theorem law_27 (hi : 7 * i + 7 ≤ sc.length) (hs : sc.length ≤ 3584) (r : REL S M) (hk : k ≤ 1000) (hn : n ≤ 100000) (nx : NX l sc i k n) : WP l room_1 [soInL, sc] sgL_law kL_law qL 691 (lL i) [] (mk S M) k n := by
  refine run_soundF okL_law lookL_ok (fun j => Nat.beq j 1079) 100 (Exists.intro _ (And.intro rfl (And.intro (v_1 hi hs) (kStN (S_settle r _).n ⟨by decide, by decide, rk hk, rn hn⟩ (fun S1 v h2 => ?_)))))
  refine And.intro rfl (Exists.intro _ (And.intro rfl (And.intro (v_1 hi hs) (⟨_, _, ⟨by decide, by decide, rk hk, rn hn⟩, h2, ?_⟩))))
  rintro h w ⟨⟨M1, hM1, rfl⟩, v, rfl⟩
  exact And.intro rfl (nx S1 M1 hM1)
set_option maxRecDepth 100000 in
theorem law_28 (hi : 7 * i + 7 ≤ sc.length) (hs : sc.length ≤ 3584) (r : REL S M) (hk : k ≤ 1000) (hn : n ≤ 100000) (nx : NX l sc i k n) : WP l room_1 [soInL, sc] sgL_law kL_law qL 708 (lL i) [] (mk S M) k n := by
  refine run_soundF okL_law lookL_ok (fun j => Nat.beq j 1079) 100 (Exists.intro _ (And.intro rfl (And.intro (v_1 hi hs) (Exists.intro _ (And.intro rfl (And.intro (v_2 hi hs) (Exists.intro _ (And.intro rfl (And.intro (v_3 hi hs) (kStNL (S_thrice r _ _ _).n ⟨by decide, by decide, rk hk, rn hn⟩ (fun S1 v h2 => ?_)))))))))))
  refine And.intro rfl (Exists.intro _ (And.intro rfl (And.intro (v_1 hi hs) (Exists.intro _ (And.intro rfl (And.intro (v_2 hi hs) (Exists.intro _ (And.intro rfl (And.intro (v_3 hi hs) (⟨_, _, ⟨by decide, by decide, rk hk, rn hn⟩, h2, ?_⟩))))))))))
  rintro h w ⟨⟨M1, hM1, rfl⟩, v, rfl⟩
  exact And.intro rfl (nx S1 M1 hM1)
set_option maxRecDepth 100000 in
theorem law_29 (hi : 7 * i + 7 ≤ sc.length) (hs : sc.length ≤ 3584) (r : REL S M) (hk : k ≤ 1000) (hn : n ≤ 100000) (nx : NX l sc i k n) : WP l room_1 [soInL, sc] sgL_law kL_law qL 745 (lL i) [] (mk S M) k n := by
  refine run_soundF okL_law lookL_ok (fun j => Nat.beq j 1079) 100 (Exists.intro _ (And.intro rfl (And.intro (v_1 hi hs) (kStN (S_many r _).n ⟨by decide, by decide, rk hk, rn hn⟩ (fun S1 v h2 => ?_)))))
  refine And.intro rfl (Exists.intro _ (And.intro rfl (And.intro (v_1 hi hs) (⟨_, _, ⟨by decide, by decide, rk hk, rn hn⟩, h2, ?_⟩))))
  rintro h w ⟨⟨M1, hM1, rfl⟩, v, rfl⟩
  exact And.intro rfl (nx S1 M1 hM1)
set_option maxRecDepth 100000 in
theorem law_30 (hi : 7 * i + 7 ≤ sc.length) (hs : sc.length ≤ 3584) (r : REL S M) (hk : k ≤ 1000) (hn : n ≤ 100000) (nx : NX l sc i k n) : WP l room_1 [soInL, sc] sgL_law kL_law qL 762 (lL i) [] (mk S M) k n := by
  refine run_soundF okL_law lookL_ok (fun j => Nat.beq j 1079) 100 (Exists.intro _ (And.intro rfl (And.intro (v_1 hi hs) (Exists.intro _ (And.intro rfl (And.intro (v_2 hi hs) (kStN (S_judge r _ _).n ⟨by decide, by decide, rk hk, rn hn⟩ (fun S1 v h2 => ?_))))))))
  refine And.intro rfl (Exists.intro _ (And.intro rfl (And.intro (v_1 hi hs) (Exists.intro _ (And.intro rfl (And.intro (v_2 hi hs) (⟨_, _, ⟨by decide, by decide, rk hk, rn hn⟩, h2, ?_⟩)))))))
  rintro h w ⟨⟨M1, hM1, rfl⟩, v, rfl⟩
  exact And.intro rfl (nx S1 M1 hM1)
set_option maxRecDepth 100000 in
theorem law_31 (hi : 7 * i + 7 ≤ sc.length) (hs : sc.length ≤ 3584) (r : REL S M) (hk : k ≤ 1000) (hn : n ≤ 100000) (nx : NX l sc i k n) : WP l room_1 [soInL, sc] sgL_law kL_law qL 789 (lL i) [] (mk S M) k n := by
  refine run_soundF okL_law lookL_ok (fun j => Nat.beq j 1079) 100 (Exists.intro _ (And.intro rfl (And.intro (v_1 hi hs) (kStN (S_film r _).n ⟨by decide, by decide, rk hk, rn hn⟩ (fun S1 v h2 => ?_)))))
  refine And.intro rfl (Exists.intro _ (And.intro rfl (And.intro (v_1 hi hs) (⟨_, _, ⟨by decide, by decide, rk hk, rn hn⟩, h2, ?_⟩))))
  rintro h w ⟨⟨M1, hM1, rfl⟩, v, rfl⟩
  exact And.intro rfl (nx S1 M1 hM1)
set_option maxRecDepth 100000 in
theorem law_32 (hi : 7 * i + 7 ≤ sc.length) (hs : sc.length ≤ 3584) (r : REL S M) (hk : k ≤ 1000) (hn : n ≤ 100000) (nx : NX l sc i k n) : WP l room_1 [soInL, sc] sgL_law kL_law qL 806 (lL i) [] (mk S M) k n := by
  refine run_soundF okL_law lookL_ok (fun j => Nat.beq j 1079) 100 (Exists.intro _ (And.intro rfl (And.intro (v_1 hi hs) (kStN (S_drawn r _).n ⟨by decide, by decide, rk hk, rn hn⟩ (fun S1 v h2 => ?_)))))
  refine And.intro rfl (Exists.intro _ (And.intro rfl (And.intro (v_1 hi hs) (⟨_, _, ⟨by decide, by decide, rk hk, rn hn⟩, h2, ?_⟩))))
  rintro h w ⟨⟨M1, hM1, rfl⟩, v, rfl⟩
  exact And.intro rfl (nx S1 M1 hM1)
set_option maxRecDepth 100000 in
theorem law_33 (hi : 7 * i + 7 ≤ sc.length) (hs : sc.length ≤ 3584) (r : REL S M) (hk : k ≤ 1000) (hn : n ≤ 100000) (nx : NX l sc i k n) : WP l room_1 [soInL, sc] sgL_law kL_law qL 823 (lL i) [] (mk S M) k n := by
  refine run_soundF okL_law lookL_ok (fun j => Nat.beq j 1079) 100 (Exists.intro _ (And.intro rfl (And.intro (v_1 hi hs) (Exists.intro _ (And.intro rfl (And.intro (v_2 hi hs) (Exists.intro _ (And.intro rfl (And.intro (v_3 hi hs) (kStNL (S_mean r _ _ _).n ⟨by decide, by decide, rk hk, rn hn⟩ (fun S1 v h2 => ?_)))))))))))
  refine And.intro rfl (Exists.intro _ (And.intro rfl (And.intro (v_1 hi hs) (Exists.intro _ (And.intro rfl (And.intro (v_2 hi hs) (Exists.intro _ (And.intro rfl (And.intro (v_3 hi hs) (⟨_, _, ⟨by decide, by decide, rk hk, rn hn⟩, h2, ?_⟩))))))))))
  rintro h w ⟨⟨M1, hM1, rfl⟩, v, rfl⟩
  exact And.intro rfl (nx S1 M1 hM1)
set_option maxRecDepth 100000 in
theorem law_34 (hi : 7 * i + 7 ≤ sc.length) (hs : sc.length ≤ 3584) (r : REL S M) (hk : k ≤ 1000) (hn : n ≤ 100000) (nx : NX l sc i k n) : WP l room_1 [soInL, sc] sgL_law kL_law qL 860 (lL i) [] (mk S M) k n := by
  refine run_soundF okL_law lookL_ok (fun j => Nat.beq j 1079) 100 (kStN (S_image r).n ⟨by decide, by decide, rk hk, rn hn⟩ (fun S1 v h2 => ?_))
  refine And.intro rfl (⟨_, _, ⟨by decide, by decide, rk hk, rn hn⟩, h2, ?_⟩)
  rintro h w ⟨⟨M1, hM1, rfl⟩, v, rfl⟩
  exact And.intro rfl (nx S1 M1 hM1)
set_option maxRecDepth 100000 in
theorem law_35 (hi : 7 * i + 7 ≤ sc.length) (hs : sc.length ≤ 3584) (r : REL S M) (hk : k ≤ 1000) (hn : n ≤ 100000) (nx : NX l sc i k n) : WP l room_1 [soInL, sc] sgL_law kL_law qL 867 (lL i) [] (mk S M) k n := by
  refine run_soundF okL_law lookL_ok (fun j => Nat.beq j 1079) 100 (kStN (S_back r).n ⟨by decide, by decide, rk hk, rn hn⟩ (fun S1 v h2 => ?_))
  refine And.intro rfl (⟨_, _, ⟨by decide, by decide, rk hk, rn hn⟩, h2, ?_⟩)
  rintro h w ⟨⟨M1, hM1, rfl⟩, v, rfl⟩
  exact And.intro rfl (nx S1 M1 hM1)
set_option maxRecDepth 100000 in
theorem law_36 (hi : 7 * i + 7 ≤ sc.length) (hs : sc.length ≤ 3584) (r : REL S M) (hk : k ≤ 1000) (hn : n ≤ 100000) (nx : NX l sc i k n) : WP l room_1 [soInL, sc] sgL_law kL_law qL 874 (lL i) [] (mk S M) k n := by
  refine run_soundF okL_law lookL_ok (fun j => Nat.beq j 1079) 100 (Exists.intro _ (And.intro rfl (And.intro (v_1 hi hs) (Exists.intro _ (And.intro rfl (And.intro (v_2 hi hs) (Exists.intro _ (And.intro rfl (And.intro (v_3 hi hs) (kStN (S_sheet r _ _ _).n ⟨by decide, by decide, rk hk, rn hn⟩ (fun S1 v h2 => ?_)))))))))))
  refine And.intro rfl (Exists.intro _ (And.intro rfl (And.intro (v_1 hi hs) (Exists.intro _ (And.intro rfl (And.intro (v_2 hi hs) (Exists.intro _ (And.intro rfl (And.intro (v_3 hi hs) (⟨_, _, ⟨by decide, by decide, rk hk, rn hn⟩, h2, ?_⟩))))))))))
  rintro h w ⟨⟨M1, hM1, rfl⟩, v, rfl⟩
  exact And.intro rfl (nx S1 M1 hM1)
set_option maxRecDepth 100000 in
theorem law_37 (hi : 7 * i + 7 ≤ sc.length) (hs : sc.length ≤ 3584) (r : REL S M) (hk : k ≤ 1000) (hn : n ≤ 100000) (nx : NX l sc i k n) : WP l room_1 [soInL, sc] sgL_law kL_law qL 911 (lL i) [] (mk S M) k n := by
  refine run_soundF okL_law lookL_ok (fun j => Nat.beq j 1079) 100 (Exists.intro _ (And.intro rfl (And.intro (v_1 hi hs) (Exists.intro _ (And.intro rfl (And.intro (v_2 hi hs) (Exists.intro _ (And.intro rfl (And.intro (v_3 hi hs) (kStN (S_cell r _ _ _).n ⟨by decide, by decide, rk hk, rn hn⟩ (fun S1 v h2 => ?_)))))))))))
  refine And.intro rfl (Exists.intro _ (And.intro rfl (And.intro (v_1 hi hs) (Exists.intro _ (And.intro rfl (And.intro (v_2 hi hs) (Exists.intro _ (And.intro rfl (And.intro (v_3 hi hs) (⟨_, _, ⟨by decide, by decide, rk hk, rn hn⟩, h2, ?_⟩))))))))))
  rintro h w ⟨⟨M1, hM1, rfl⟩, v, rfl⟩
  exact And.intro rfl (nx S1 M1 hM1)
set_option maxRecDepth 100000 in
theorem law_38 (hi : 7 * i + 7 ≤ sc.length) (hs : sc.length ≤ 3584) (r : REL S M) (hk : k ≤ 1000) (hn : n ≤ 100000) (nx : NX l sc i k n) : WP l room_1 [soInL, sc] sgL_law kL_law qL 948 (lL i) [] (mk S M) k n := by
  refine run_soundF okL_law lookL_ok (fun j => Nat.beq j 1079) 100 (Exists.intro _ (And.intro rfl (And.intro (v_1 hi hs) (Exists.intro _ (And.intro rfl (And.intro (v_2 hi hs) (Exists.intro _ (And.intro rfl (And.intro (v_3 hi hs) (Exists.intro _ (And.intro rfl (And.intro (v_4 hi hs) (Exists.intro _ (And.intro rfl (And.intro (v_5 hi hs) (kStN (S_copy r _ _ _ _ _).n ⟨by decide, by decide, rk hk, rn hn⟩ (fun S1 v h2 => ?_)))))))))))))))))
  refine And.intro rfl (Exists.intro _ (And.intro rfl (And.intro (v_1 hi hs) (Exists.intro _ (And.intro rfl (And.intro (v_2 hi hs) (Exists.intro _ (And.intro rfl (And.intro (v_3 hi hs) (Exists.intro _ (And.intro rfl (And.intro (v_4 hi hs) (Exists.intro _ (And.intro rfl (And.intro (v_5 hi hs) (⟨_, _, ⟨by decide, by decide, rk hk, rn hn⟩, h2, ?_⟩))))))))))))))))
  rintro h w ⟨⟨M1, hM1, rfl⟩, v, rfl⟩
  exact And.intro rfl (nx S1 M1 hM1)
set_option maxRecDepth 100000 in
theorem law_39 (hi : 7 * i + 7 ≤ sc.length) (hs : sc.length ≤ 3584) (r : REL S M) (hk : k ≤ 1000) (hn : n ≤ 100000) (nx : NX l sc i k n) : WP l room_1 [soInL, sc] sgL_law kL_law qL 1005 (lL i) [] (mk S M) k n := by
  refine run_soundF okL_law lookL_ok (fun j => Nat.beq j 1079) 100 (Exists.intro _ (And.intro rfl (And.intro (v_1 hi hs) (Exists.intro _ (And.intro rfl (And.intro (v_2 hi hs) (Exists.intro _ (And.intro rfl (And.intro (v_3 hi hs) (Exists.intro _ (And.intro rfl (And.intro (v_4 hi hs) (kStN (S_sayingsBy r _ _ _ _).n ⟨by decide, by decide, rk hk, rn hn⟩ (fun S1 v h2 => ?_))))))))))))))
  refine And.intro rfl (Exists.intro _ (And.intro rfl (And.intro (v_1 hi hs) (Exists.intro _ (And.intro rfl (And.intro (v_2 hi hs) (Exists.intro _ (And.intro rfl (And.intro (v_3 hi hs) (Exists.intro _ (And.intro rfl (And.intro (v_4 hi hs) (⟨_, _, ⟨by decide, by decide, rk hk, rn hn⟩, h2, ?_⟩)))))))))))))
  rintro h w ⟨⟨M1, hM1, rfl⟩, v, rfl⟩
  exact And.intro rfl (nx S1 M1 hM1)
set_option maxRecDepth 100000 in
theorem law_40 (hi : 7 * i + 7 ≤ sc.length) (hs : sc.length ≤ 3584) (r : REL S M) (hk : k ≤ 1000) (hn : n ≤ 100000) (nx : NX l sc i k n) : WP l room_1 [soInL, sc] sgL_law kL_law qL 1052 (lL i) [] (mk S M) k n := by
  refine run_soundF okL_law lookL_ok (fun j => Nat.beq j 1079) 100 (Exists.intro _ (And.intro rfl (And.intro (v_1 hi hs) (Exists.intro _ (And.intro rfl (And.intro (v_2 hi hs) (kStE (S_taken r _ _) ⟨by decide, by decide, rk hk, rn hn⟩ (fun S1 v h2 => ?_))))))))
  refine Exists.intro _ (And.intro rfl (And.intro (v_1 hi hs) (Exists.intro _ (And.intro rfl (And.intro (v_2 hi hs) (⟨_, _, ⟨by decide, by decide, rk hk, rn hn⟩, h2, ?_⟩))))))
  rintro h w ⟨⟨M1, hM1, rfl⟩, rfl⟩
  exact brT rfl (nx S1 M1 hM1)
set_option maxRecDepth 100000 in
theorem law_nx (ih : ∀ (S : CS) (M : MS), REL S M → WP l room_1 [soInL, sc] sgL_law kL_law qL 10 (lL (i + 1)) [] (mk S M) k n) : NX l sc i k n := by
  intro S M r
  have ih := ih S M r
  have e : nI (7 * i) + Int32.ofInt 7 = nI (7 * (i + 1)) := nI_add (7 * i) 7
  have ih : WP l room_1 [soInL, sc] sgL_law kL_law qL 10 [some (.ref 1001), some (.ref 0), some (.ref 27), some (.int (nI (7 * (i + 1))))] [] (mk S M) k n := ih
  rw [← e] at ih
  exact run_soundF okL_law lookL_ok (fun i => Nat.beq i 10) 100 ih
set_option maxRecDepth 100000 in
theorem law_one (hi : 7 * i + 7 ≤ sc.length) (hs : sc.length ≤ 3584) (r : REL S M) (hk : k ≤ 1000) (hn : n ≤ 100000) (nx : NX l sc i k n) : WP l room_1 [soInL, sc] sgL_law kL_law qL 10 (lL i) [] (mk S M) k n := by
  refine run_soundF okL_law lookL_ok cutL 100 (Exists.intro _ (And.intro rfl (brF ?_ (Exists.intro _ (And.intro rfl (And.intro (v_0 hi hs) ?_))))))
  · exact law_in hi hs
  refine And.intro (fun _ => nx S M r) ?_
  refine And.intro (fun _ => law_0 hi hs r hk hn nx) ?_
  refine And.intro (fun _ => law_1 hi hs r hk hn nx) ?_
  refine And.intro (fun _ => law_2 hi hs r hk hn nx) ?_
  refine And.intro (fun _ => law_3 hi hs r hk hn nx) ?_
  refine And.intro (fun _ => law_4 hi hs r hk hn nx) ?_
  refine And.intro (fun _ => law_5 hi hs r hk hn nx) ?_
  refine And.intro (fun _ => law_6 hi hs r hk hn nx) ?_
  refine And.intro (fun _ => law_7 hi hs r hk hn nx) ?_
  refine And.intro (fun _ => law_8 hi hs r hk hn nx) ?_
  refine And.intro (fun _ => law_9 hi hs r hk hn nx) ?_
  refine And.intro (fun _ => law_10 hi hs r hk hn nx) ?_
  refine And.intro (fun _ => law_11 hi hs r hk hn nx) ?_
  refine And.intro (fun _ => law_12 hi hs r hk hn nx) ?_
  refine And.intro (fun _ => law_13 hi hs r hk hn nx) ?_
  refine And.intro (fun _ => law_14 hi hs r hk hn nx) ?_
  refine And.intro (fun _ => law_15 hi hs r hk hn nx) ?_
  refine And.intro (fun _ => law_16 hi hs r hk hn nx) ?_
  refine And.intro (fun _ => law_17 hi hs r hk hn nx) ?_
  refine And.intro (fun _ => law_18 hi hs r hk hn nx) ?_
  refine And.intro (fun _ => law_19 hi hs r hk hn nx) ?_
  refine And.intro (fun _ => law_20 hi hs r hk hn nx) ?_
  refine And.intro (fun _ => law_21 hi hs r hk hn nx) ?_
  refine And.intro (fun _ => law_22 hi hs r hk hn nx) ?_
  refine And.intro (fun _ => law_23 hi hs r hk hn nx) ?_
  refine And.intro (fun _ => law_24 hi hs r hk hn nx) ?_
  refine And.intro (fun _ => law_25 hi hs r hk hn nx) ?_
  refine And.intro (fun _ => law_26 hi hs r hk hn nx) ?_
  refine And.intro (fun _ => law_27 hi hs r hk hn nx) ?_
  refine And.intro (fun _ => law_28 hi hs r hk hn nx) ?_
  refine And.intro (fun _ => law_29 hi hs r hk hn nx) ?_
  refine And.intro (fun _ => law_30 hi hs r hk hn nx) ?_
  refine And.intro (fun _ => law_31 hi hs r hk hn nx) ?_
  refine And.intro (fun _ => law_32 hi hs r hk hn nx) ?_
  refine And.intro (fun _ => law_33 hi hs r hk hn nx) ?_
  refine And.intro (fun _ => law_34 hi hs r hk hn nx) ?_
  refine And.intro (fun _ => law_35 hi hs r hk hn nx) ?_
  refine And.intro (fun _ => law_36 hi hs r hk hn nx) ?_
  refine And.intro (fun _ => law_37 hi hs r hk hn nx) ?_
  refine And.intro (fun _ => law_38 hi hs r hk hn nx) ?_
  refine And.intro (fun _ => law_39 hi hs r hk hn nx) ?_
  refine And.intro (fun _ => law_40 hi hs r hk hn nx) ?_
  exact trivial
set_option maxRecDepth 100000 in
theorem law_all (hs : sc.length ≤ 3584) (hk : k ≤ 1000) (hn : n ≤ 100000) : ∀ i, i ≤ 513 → ∀ (S : CS) (M : MS), REL S M → WP l room_1 [soInL, sc] sgL_law kL_law qL 10 (lL i) [] (mk S M) k n := by
  have out : ∀ i, i ≤ 600 → ¬ 7 * i + 7 ≤ sc.length → ∀ (S : CS) (M : MS), WP l room_1 [soInL, sc] sgL_law kL_law qL 10 (lL i) [] (mk S M) k n := fun i h6 hi S M =>
    run_soundF okL_law lookL_ok (fun i => Nat.beq i 10) 100 (Exists.intro _ (And.intro rfl (brT (law_out hi hs h6) ⟨rfl, rfl⟩)))
  refine down (fun S M _ => out 513 (by decide) (by omega) S M) (fun i hi ih S M r => ?_)
  by_cases q : 7 * i + 7 ≤ sc.length
  · exact law_one q hs r hk hn (law_nx ih)
  · exact out i (by omega) q S M
end LAWREL
