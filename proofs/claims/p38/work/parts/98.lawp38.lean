/-! THE LAW, any run of calls: its cases (by wip/gen/lawp38.py) -/
section LAWP38
variable {l : Launch} {S : CS} {M : MS} {sc : List Int32} {i k n : Nat}
def cutL (i : Nat) : Bool := [10, 22, 39, 106, 113, 130, 177, 204, 221, 248, 285, 312, 349, 356, 383, 390, 417, 424, 431, 448, 465, 502, 529, 546, 563, 600, 637, 674, 691, 708, 745, 762, 789, 806, 823, 860, 867, 874, 911, 948, 1005, 1052, 1079].any (Nat.beq i)
theorem v_i (hi : 7 * i + 7 ≤ sc.length) (hs : sc.length ≤ 3584) {j : Nat} (hj : j < 7) : vp_in (nI (7 * i) + nI j) sc.length := by rw [nI_add]; exact vp_nI (by omega) (by omega)
theorem v_0 (hi : 7 * i + 7 ≤ sc.length) (hs : sc.length ≤ 3584) : vp_in (nI (7 * i)) sc.length := vp_nI (by omega) (by omega)
theorem v_1 (hi : 7 * i + 7 ≤ sc.length) (hs : sc.length ≤ 3584) : vp_in (nI (7 * i) + Int32.ofInt 1) sc.length := v_i hi hs (j := 1) (by decide)
theorem v_2 (hi : 7 * i + 7 ≤ sc.length) (hs : sc.length ≤ 3584) : vp_in (nI (7 * i) + Int32.ofInt 2) sc.length := v_i hi hs (j := 2) (by decide)
theorem v_3 (hi : 7 * i + 7 ≤ sc.length) (hs : sc.length ≤ 3584) : vp_in (nI (7 * i) + Int32.ofInt 3) sc.length := v_i hi hs (j := 3) (by decide)
theorem v_4 (hi : 7 * i + 7 ≤ sc.length) (hs : sc.length ≤ 3584) : vp_in (nI (7 * i) + Int32.ofInt 4) sc.length := v_i hi hs (j := 4) (by decide)
theorem v_5 (hi : 7 * i + 7 ≤ sc.length) (hs : sc.length ≤ 3584) : vp_in (nI (7 * i) + Int32.ofInt 5) sc.length := v_i hi hs (j := 5) (by decide)
theorem v_6 (hi : 7 * i + 7 ≤ sc.length) (hs : sc.length ≤ 3584) : vp_in (nI (7 * i) + Int32.ofInt 6) sc.length := v_i hi hs (j := 6) (by decide)
abbrev qL : AH → Option Value → Prop := fun _ v => v = some (.int 1)
abbrev lL (i : Nat) : LO := [some (.ref 1001), some (.ref 0), some (.ref 27), some (.int (nI (7 * i)))]
theorem rk (hk : k ≤ 1000) : k + 0 ≤ room_1.cells := Nat.le_trans hk (by decide)
theorem rn (hn : n ≤ 100000) : n + 0 ≤ room_1.slots := Nat.le_trans hn (by decide)
theorem len_toInt {z : Nat} (hz : z ≤ 3584) : (Int32.ofNat z - Int32.ofInt 7).toInt = (z : Int) - 7 := by
  have h1 : (Int32.ofNat z).toInt = z := nI_toInt (n := z) (by omega)
  rw [Int32.toInt_sub, h1, show (Int32.ofInt 7).toInt = 7 from by decide]
  apply Int.bmod_eq_of_le <;> omega
theorem law_in (hi : 7 * i + 7 ≤ sc.length) (hs : sc.length ≤ 3584) : ¬ Int32.ofNat sc.length - Int32.ofInt 7 < nI (7 * i) := by
  rw [Int32.lt_iff_toInt_lt, len_toInt hs, nI_toInt (by omega)]
  omega
theorem law_out (hi : ¬ 7 * i + 7 ≤ sc.length) (hs : sc.length ≤ 3584) (hi2 : i ≤ 600) : Int32.ofNat sc.length - Int32.ofInt 7 < nI (7 * i) := by
  rw [Int32.lt_iff_toInt_lt, len_toInt hs, nI_toInt (by omega)]
  omega
/-- the next call -/
abbrev NX (l : Launch) (sc : List Int32) (i k n : Nat) : Prop := ∀ (S : CS) (M : MS), KC S → RI M → WP l room_1 [soInL, sc] sgL_law kL_law qL 1079 (lL i) [] (mk S M) k n
set_option maxRecDepth 100000 in
theorem law_0 (hi : 7 * i + 7 ≤ sc.length) (hs : sc.length ≤ 3584) (h : KC S) (hM : RI M) (hk : k ≤ 1000) (hn : n ≤ 100000) (nx : NX l sc i k n) : WP l room_1 [soInL, sc] sgL_law kL_law qL 22 (lL i) [] (mk S M) k n := by
  refine run_sound okL_law cutL 100 (Exists.intro _ (And.intro rfl (And.intro (v_1 hi hs) (⟨_, _, ⟨by decide, by decide, rk hk, rn hn⟩, K_count h _, ?_⟩))))
  rintro h w ⟨⟨S1, hS, rfl⟩, v, rfl⟩
  refine And.intro rfl (Exists.intro _ (And.intro rfl (And.intro (v_1 hi hs) (⟨_, _, ⟨by decide, by decide, rk hk, rn hn⟩, R_count hM _, ?_⟩))))
  rintro h w ⟨⟨M1, hM1, rfl⟩, v, rfl⟩
  exact And.intro rfl (nx S1 M1 hS hM1)
set_option maxRecDepth 100000 in
theorem law_1 (hi : 7 * i + 7 ≤ sc.length) (hs : sc.length ≤ 3584) (h : KC S) (hM : RI M) (hk : k ≤ 1000) (hn : n ≤ 100000) (nx : NX l sc i k n) : WP l room_1 [soInL, sc] sgL_law kL_law qL 39 (lL i) [] (mk S M) k n := by
  refine run_sound okL_law cutL 100 (Exists.intro _ (And.intro rfl (And.intro (v_1 hi hs) (Exists.intro _ (And.intro rfl (And.intro (v_2 hi hs) (Exists.intro _ (And.intro rfl (And.intro (v_3 hi hs) (Exists.intro _ (And.intro rfl (And.intro (v_4 hi hs) (Exists.intro _ (And.intro rfl (And.intro (v_5 hi hs) (Exists.intro _ (And.intro rfl (And.intro (v_6 hi hs) (⟨_, _, ⟨by decide, by decide, rk hk, rn hn⟩, K_feed h _ _ _ _ _ _, ?_⟩)))))))))))))))))))
  rintro h w ⟨⟨S1, hS, rfl⟩, v, rfl⟩
  refine And.intro rfl (Exists.intro _ (And.intro rfl (And.intro (v_1 hi hs) (Exists.intro _ (And.intro rfl (And.intro (v_2 hi hs) (Exists.intro _ (And.intro rfl (And.intro (v_3 hi hs) (Exists.intro _ (And.intro rfl (And.intro (v_4 hi hs) (Exists.intro _ (And.intro rfl (And.intro (v_5 hi hs) (Exists.intro _ (And.intro rfl (And.intro (v_6 hi hs) (⟨_, _, ⟨by decide, by decide, rk hk, rn hn⟩, R_feed hM _ _ _ _ _ _, ?_⟩)))))))))))))))))))
  rintro h w ⟨⟨M1, hM1, rfl⟩, v, rfl⟩
  exact And.intro rfl (nx S1 M1 hS hM1)
set_option maxRecDepth 100000 in
theorem law_2 (hi : 7 * i + 7 ≤ sc.length) (hs : sc.length ≤ 3584) (h : KC S) (hM : RI M) (hk : k ≤ 1000) (hn : n ≤ 100000) (nx : NX l sc i k n) : WP l room_1 [soInL, sc] sgL_law kL_law qL 106 (lL i) [] (mk S M) k n := by
  refine run_sound okL_law cutL 100 (⟨_, _, ⟨by decide, by decide, rk hk, rn hn⟩, K_text h, ?_⟩)
  rintro h w ⟨⟨S1, hS, rfl⟩, v, rfl⟩
  refine And.intro rfl (⟨_, _, ⟨by decide, by decide, rk hk, rn hn⟩, R_text hM, ?_⟩)
  rintro h w ⟨⟨M1, hM1, rfl⟩, v, rfl⟩
  exact And.intro rfl (nx S1 M1 hS hM1)
set_option maxRecDepth 100000 in
theorem law_3 (hi : 7 * i + 7 ≤ sc.length) (hs : sc.length ≤ 3584) (h : KC S) (hM : RI M) (hk : k ≤ 1000) (hn : n ≤ 100000) (nx : NX l sc i k n) : WP l room_1 [soInL, sc] sgL_law kL_law qL 113 (lL i) [] (mk S M) k n := by
  refine run_sound okL_law cutL 100 (Exists.intro _ (And.intro rfl (And.intro (v_1 hi hs) (⟨_, _, ⟨by decide, by decide, rk hk, rn hn⟩, K_force h _, ?_⟩))))
  rintro h w ⟨⟨S1, hS, rfl⟩, v, rfl⟩
  refine And.intro rfl (Exists.intro _ (And.intro rfl (And.intro (v_1 hi hs) (⟨_, _, ⟨by decide, by decide, rk hk, rn hn⟩, R_force hM _, ?_⟩))))
  rintro h w ⟨⟨M1, hM1, rfl⟩, v, rfl⟩
  exact And.intro rfl (nx S1 M1 hS hM1)
set_option maxRecDepth 100000 in
theorem law_4 (hi : 7 * i + 7 ≤ sc.length) (hs : sc.length ≤ 3584) (h : KC S) (hM : RI M) (hk : k ≤ 1000) (hn : n ≤ 100000) (nx : NX l sc i k n) : WP l room_1 [soInL, sc] sgL_law kL_law qL 130 (lL i) [] (mk S M) k n := by
  refine run_sound okL_law cutL 100 (Exists.intro _ (And.intro rfl (And.intro (v_1 hi hs) (Exists.intro _ (And.intro rfl (And.intro (v_2 hi hs) (Exists.intro _ (And.intro rfl (And.intro (v_3 hi hs) (Exists.intro _ (And.intro rfl (And.intro (v_4 hi hs) (⟨_, _, ⟨by decide, by decide, rk hk, rn hn⟩, K_asks h _ _ _ _, ?_⟩)))))))))))))
  rintro h w ⟨⟨S1, hS, rfl⟩, v, rfl⟩
  refine And.intro rfl (Exists.intro _ (And.intro rfl (And.intro (v_1 hi hs) (Exists.intro _ (And.intro rfl (And.intro (v_2 hi hs) (Exists.intro _ (And.intro rfl (And.intro (v_3 hi hs) (Exists.intro _ (And.intro rfl (And.intro (v_4 hi hs) (⟨_, _, ⟨by decide, by decide, rk hk, rn hn⟩, R_asks hM _ _ _ _, ?_⟩)))))))))))))
  rintro h w ⟨⟨M1, hM1, rfl⟩, v, rfl⟩
  exact And.intro rfl (nx S1 M1 hS hM1)
set_option maxRecDepth 100000 in
theorem law_5 (hi : 7 * i + 7 ≤ sc.length) (hs : sc.length ≤ 3584) (h : KC S) (hM : RI M) (hk : k ≤ 1000) (hn : n ≤ 100000) (nx : NX l sc i k n) : WP l room_1 [soInL, sc] sgL_law kL_law qL 177 (lL i) [] (mk S M) k n := by
  refine run_sound okL_law cutL 100 (Exists.intro _ (And.intro rfl (And.intro (v_1 hi hs) (Exists.intro _ (And.intro rfl (And.intro (v_2 hi hs) (⟨_, _, ⟨by decide, by decide, rk hk, rn hn⟩, K_means h _ _, ?_⟩)))))))
  rintro h w ⟨⟨S1, hS, rfl⟩, v, rfl⟩
  refine And.intro rfl (Exists.intro _ (And.intro rfl (And.intro (v_1 hi hs) (Exists.intro _ (And.intro rfl (And.intro (v_2 hi hs) (⟨_, _, ⟨by decide, by decide, rk hk, rn hn⟩, R_means hM _ _, ?_⟩)))))))
  rintro h w ⟨⟨M1, hM1, rfl⟩, v, rfl⟩
  exact And.intro rfl (nx S1 M1 hS hM1)
set_option maxRecDepth 100000 in
theorem law_6 (hi : 7 * i + 7 ≤ sc.length) (hs : sc.length ≤ 3584) (h : KC S) (hM : RI M) (hk : k ≤ 1000) (hn : n ≤ 100000) (nx : NX l sc i k n) : WP l room_1 [soInL, sc] sgL_law kL_law qL 204 (lL i) [] (mk S M) k n := by
  refine run_sound okL_law cutL 100 (Exists.intro _ (And.intro rfl (And.intro (v_1 hi hs) (⟨_, _, ⟨by decide, by decide, rk hk, rn hn⟩, K_pairs h _, ?_⟩))))
  rintro h w ⟨⟨S1, hS, rfl⟩, v, rfl⟩
  refine And.intro rfl (Exists.intro _ (And.intro rfl (And.intro (v_1 hi hs) (⟨_, _, ⟨by decide, by decide, rk hk, rn hn⟩, R_pairs hM _, ?_⟩))))
  rintro h w ⟨⟨M1, hM1, rfl⟩, v, rfl⟩
  exact And.intro rfl (nx S1 M1 hS hM1)
set_option maxRecDepth 100000 in
theorem law_7 (hi : 7 * i + 7 ≤ sc.length) (hs : sc.length ≤ 3584) (h : KC S) (hM : RI M) (hk : k ≤ 1000) (hn : n ≤ 100000) (nx : NX l sc i k n) : WP l room_1 [soInL, sc] sgL_law kL_law qL 221 (lL i) [] (mk S M) k n := by
  refine run_sound okL_law cutL 100 (Exists.intro _ (And.intro rfl (And.intro (v_1 hi hs) (Exists.intro _ (And.intro rfl (And.intro (v_2 hi hs) (⟨_, _, ⟨by decide, by decide, rk hk, rn hn⟩, K_speaker h _ _, ?_⟩)))))))
  rintro h w ⟨⟨S1, hS, rfl⟩, v, rfl⟩
  refine And.intro rfl (Exists.intro _ (And.intro rfl (And.intro (v_1 hi hs) (Exists.intro _ (And.intro rfl (And.intro (v_2 hi hs) (⟨_, _, ⟨by decide, by decide, rk hk, rn hn⟩, R_speaker hM _ _, ?_⟩)))))))
  rintro h w ⟨⟨M1, hM1, rfl⟩, v, rfl⟩
  exact And.intro rfl (nx S1 M1 hS hM1)
set_option maxRecDepth 100000 in
theorem law_8 (hi : 7 * i + 7 ≤ sc.length) (hs : sc.length ≤ 3584) (h : KC S) (hM : RI M) (hk : k ≤ 1000) (hn : n ≤ 100000) (nx : NX l sc i k n) : WP l room_1 [soInL, sc] sgL_law kL_law qL 248 (lL i) [] (mk S M) k n := by
  refine run_sound okL_law cutL 100 (Exists.intro _ (And.intro rfl (And.intro (v_1 hi hs) (Exists.intro _ (And.intro rfl (And.intro (v_2 hi hs) (Exists.intro _ (And.intro rfl (And.intro (v_3 hi hs) (⟨_, _, ⟨by decide, by decide, rk hk, rn hn⟩, K_turn h _ _ _, ?_⟩))))))))))
  rintro h w ⟨⟨S1, hS, rfl⟩, v, rfl⟩
  refine And.intro rfl (Exists.intro _ (And.intro rfl (And.intro (v_1 hi hs) (Exists.intro _ (And.intro rfl (And.intro (v_2 hi hs) (Exists.intro _ (And.intro rfl (And.intro (v_3 hi hs) (⟨_, _, ⟨by decide, by decide, rk hk, rn hn⟩, R_turn hM _ _ _, ?_⟩))))))))))
  rintro h w ⟨⟨M1, hM1, rfl⟩, v, rfl⟩
  exact And.intro rfl (nx S1 M1 hS hM1)
set_option maxRecDepth 100000 in
theorem law_9 (hi : 7 * i + 7 ≤ sc.length) (hs : sc.length ≤ 3584) (h : KC S) (hM : RI M) (hk : k ≤ 1000) (hn : n ≤ 100000) (nx : NX l sc i k n) : WP l room_1 [soInL, sc] sgL_law kL_law qL 285 (lL i) [] (mk S M) k n := by
  refine run_sound okL_law cutL 100 (Exists.intro _ (And.intro rfl (And.intro (v_1 hi hs) (Exists.intro _ (And.intro rfl (And.intro (v_2 hi hs) (⟨_, _, ⟨by decide, by decide, rk hk, rn hn⟩, K_told h _ _, ?_⟩)))))))
  rintro h w ⟨⟨S1, hS, rfl⟩, v, rfl⟩
  refine And.intro rfl (Exists.intro _ (And.intro rfl (And.intro (v_1 hi hs) (Exists.intro _ (And.intro rfl (And.intro (v_2 hi hs) (⟨_, _, ⟨by decide, by decide, rk hk, rn hn⟩, R_told hM _ _, ?_⟩)))))))
  rintro h w ⟨⟨M1, hM1, rfl⟩, v, rfl⟩
  exact And.intro rfl (nx S1 M1 hS hM1)
set_option maxRecDepth 100000 in
theorem law_10 (hi : 7 * i + 7 ≤ sc.length) (hs : sc.length ≤ 3584) (h : KC S) (hM : RI M) (hk : k ≤ 1000) (hn : n ≤ 100000) (nx : NX l sc i k n) : WP l room_1 [soInL, sc] sgL_law kL_law qL 312 (lL i) [] (mk S M) k n := by
  refine run_sound okL_law cutL 100 (Exists.intro _ (And.intro rfl (And.intro (v_1 hi hs) (Exists.intro _ (And.intro rfl (And.intro (v_2 hi hs) (Exists.intro _ (And.intro rfl (And.intro (v_3 hi hs) (⟨_, _, ⟨by decide, by decide, rk hk, rn hn⟩, K_say h _ _ _, ?_⟩))))))))))
  rintro h w ⟨⟨S1, hS, rfl⟩, v, rfl⟩
  refine And.intro rfl (Exists.intro _ (And.intro rfl (And.intro (v_1 hi hs) (Exists.intro _ (And.intro rfl (And.intro (v_2 hi hs) (Exists.intro _ (And.intro rfl (And.intro (v_3 hi hs) (⟨_, _, ⟨by decide, by decide, rk hk, rn hn⟩, R_say hM _ _ _, ?_⟩))))))))))
  rintro h w ⟨⟨M1, hM1, rfl⟩, v, rfl⟩
  exact And.intro rfl (nx S1 M1 hS hM1)
set_option maxRecDepth 100000 in
theorem law_11 (hi : 7 * i + 7 ≤ sc.length) (hs : sc.length ≤ 3584) (h : KC S) (hM : RI M) (hk : k ≤ 1000) (hn : n ≤ 100000) (nx : NX l sc i k n) : WP l room_1 [soInL, sc] sgL_law kL_law qL 349 (lL i) [] (mk S M) k n := by
  refine run_sound okL_law cutL 100 (⟨_, _, ⟨by decide, by decide, rk hk, rn hn⟩, K_unsay h, ?_⟩)
  rintro h w ⟨⟨S1, hS, rfl⟩, v, rfl⟩
  refine And.intro rfl (⟨_, _, ⟨by decide, by decide, rk hk, rn hn⟩, R_unsay hM, ?_⟩)
  rintro h w ⟨⟨M1, hM1, rfl⟩, v, rfl⟩
  exact And.intro rfl (nx S1 M1 hS hM1)
set_option maxRecDepth 100000 in
theorem law_12 (hi : 7 * i + 7 ≤ sc.length) (hs : sc.length ≤ 3584) (h : KC S) (hM : RI M) (hk : k ≤ 1000) (hn : n ≤ 100000) (nx : NX l sc i k n) : WP l room_1 [soInL, sc] sgL_law kL_law qL 356 (lL i) [] (mk S M) k n := by
  refine run_sound okL_law cutL 100 (Exists.intro _ (And.intro rfl (And.intro (v_1 hi hs) (Exists.intro _ (And.intro rfl (And.intro (v_2 hi hs) (⟨_, _, ⟨by decide, by decide, rk hk, rn hn⟩, K_said h _ _, ?_⟩)))))))
  rintro h w ⟨⟨S1, hS, rfl⟩, v, rfl⟩
  refine And.intro rfl (Exists.intro _ (And.intro rfl (And.intro (v_1 hi hs) (Exists.intro _ (And.intro rfl (And.intro (v_2 hi hs) (⟨_, _, ⟨by decide, by decide, rk hk, rn hn⟩, R_said hM _ _, ?_⟩)))))))
  rintro h w ⟨⟨M1, hM1, rfl⟩, v, rfl⟩
  exact And.intro rfl (nx S1 M1 hS hM1)
set_option maxRecDepth 100000 in
theorem law_13 (hi : 7 * i + 7 ≤ sc.length) (hs : sc.length ≤ 3584) (h : KC S) (hM : RI M) (hk : k ≤ 1000) (hn : n ≤ 100000) (nx : NX l sc i k n) : WP l room_1 [soInL, sc] sgL_law kL_law qL 383 (lL i) [] (mk S M) k n := by
  refine run_sound okL_law cutL 100 (⟨_, _, ⟨by decide, by decide, rk hk, rn hn⟩, K_worlds h, ?_⟩)
  rintro h w ⟨⟨S1, hS, rfl⟩, v, rfl⟩
  refine And.intro rfl (⟨_, _, ⟨by decide, by decide, rk hk, rn hn⟩, R_worlds hM, ?_⟩)
  rintro h w ⟨⟨M1, hM1, rfl⟩, v, rfl⟩
  exact And.intro rfl (nx S1 M1 hS hM1)
set_option maxRecDepth 100000 in
theorem law_14 (hi : 7 * i + 7 ≤ sc.length) (hs : sc.length ≤ 3584) (h : KC S) (hM : RI M) (hk : k ≤ 1000) (hn : n ≤ 100000) (nx : NX l sc i k n) : WP l room_1 [soInL, sc] sgL_law kL_law qL 390 (lL i) [] (mk S M) k n := by
  refine run_sound okL_law cutL 100 (Exists.intro _ (And.intro rfl (And.intro (v_1 hi hs) (Exists.intro _ (And.intro rfl (And.intro (v_2 hi hs) (⟨_, _, ⟨by decide, by decide, rk hk, rn hn⟩, K_behind rfl h _ _, ?_⟩)))))))
  rintro h w ⟨⟨S1, hS, rfl⟩, v, rfl⟩
  refine And.intro rfl (Exists.intro _ (And.intro rfl (And.intro (v_1 hi hs) (Exists.intro _ (And.intro rfl (And.intro (v_2 hi hs) (⟨_, _, ⟨by decide, by decide, rk hk, rn hn⟩, R_behind hM _ _, ?_⟩)))))))
  rintro h w ⟨⟨M1, hM1, rfl⟩, v, rfl⟩
  exact And.intro rfl (nx S1 M1 hS hM1)
set_option maxRecDepth 100000 in
theorem law_15 (hi : 7 * i + 7 ≤ sc.length) (hs : sc.length ≤ 3584) (h : KC S) (hM : RI M) (hk : k ≤ 1000) (hn : n ≤ 100000) (nx : NX l sc i k n) : WP l room_1 [soInL, sc] sgL_law kL_law qL 417 (lL i) [] (mk S M) k n := by
  refine run_sound okL_law cutL 100 (⟨_, _, ⟨by decide, by decide, rk hk, rn hn⟩, K_cannot h, ?_⟩)
  rintro h w ⟨⟨S1, hS, rfl⟩, v, rfl⟩
  refine And.intro rfl (⟨_, _, ⟨by decide, by decide, rk hk, rn hn⟩, R_cannot hM, ?_⟩)
  rintro h w ⟨⟨M1, hM1, rfl⟩, v, rfl⟩
  exact And.intro rfl (nx S1 M1 hS hM1)
set_option maxRecDepth 100000 in
theorem law_16 (hi : 7 * i + 7 ≤ sc.length) (hs : sc.length ≤ 3584) (h : KC S) (hM : RI M) (hk : k ≤ 1000) (hn : n ≤ 100000) (nx : NX l sc i k n) : WP l room_1 [soInL, sc] sgL_law kL_law qL 424 (lL i) [] (mk S M) k n := by
  refine run_sound okL_law cutL 100 (⟨_, _, ⟨by decide, by decide, rk hk, rn hn⟩, K_lies h, ?_⟩)
  rintro h w ⟨⟨S1, hS, rfl⟩, v, rfl⟩
  refine And.intro rfl (⟨_, _, ⟨by decide, by decide, rk hk, rn hn⟩, R_lies hM, ?_⟩)
  rintro h w ⟨⟨M1, hM1, rfl⟩, v, rfl⟩
  exact And.intro rfl (nx S1 M1 hS hM1)
set_option maxRecDepth 100000 in
theorem law_17 (hi : 7 * i + 7 ≤ sc.length) (hs : sc.length ≤ 3584) (h : KC S) (hM : RI M) (hk : k ≤ 1000) (hn : n ≤ 100000) (nx : NX l sc i k n) : WP l room_1 [soInL, sc] sgL_law kL_law qL 431 (lL i) [] (mk S M) k n := by
  refine run_sound okL_law cutL 100 (Exists.intro _ (And.intro rfl (And.intro (v_1 hi hs) (⟨_, _, ⟨by decide, by decide, rk hk, rn hn⟩, K_least h _, ?_⟩))))
  rintro h w ⟨⟨S1, hS, rfl⟩, v, rfl⟩
  refine And.intro rfl (Exists.intro _ (And.intro rfl (And.intro (v_1 hi hs) (⟨_, _, ⟨by decide, by decide, rk hk, rn hn⟩, R_least hM _, ?_⟩))))
  rintro h w ⟨⟨M1, hM1, rfl⟩, v, rfl⟩
  exact And.intro rfl (nx S1 M1 hS hM1)
set_option maxRecDepth 100000 in
theorem law_18 (hi : 7 * i + 7 ≤ sc.length) (hs : sc.length ≤ 3584) (h : KC S) (hM : RI M) (hk : k ≤ 1000) (hn : n ≤ 100000) (nx : NX l sc i k n) : WP l room_1 [soInL, sc] sgL_law kL_law qL 448 (lL i) [] (mk S M) k n := by
  refine run_sound okL_law cutL 100 (Exists.intro _ (And.intro rfl (And.intro (v_1 hi hs) (⟨_, _, ⟨by decide, by decide, rk hk, rn hn⟩, K_mad h _, ?_⟩))))
  rintro h w ⟨⟨S1, hS, rfl⟩, v, rfl⟩
  refine And.intro rfl (Exists.intro _ (And.intro rfl (And.intro (v_1 hi hs) (⟨_, _, ⟨by decide, by decide, rk hk, rn hn⟩, R_mad hM _, ?_⟩))))
  rintro h w ⟨⟨M1, hM1, rfl⟩, v, rfl⟩
  exact And.intro rfl (nx S1 M1 hS hM1)
set_option maxRecDepth 100000 in
theorem law_19 (hi : 7 * i + 7 ≤ sc.length) (hs : sc.length ≤ 3584) (h : KC S) (hM : RI M) (hk : k ≤ 1000) (hn : n ≤ 100000) (nx : NX l sc i k n) : WP l room_1 [soInL, sc] sgL_law kL_law qL 465 (lL i) [] (mk S M) k n := by
  refine run_sound okL_law cutL 100 (Exists.intro _ (And.intro rfl (And.intro (v_1 hi hs) (Exists.intro _ (And.intro rfl (And.intro (v_2 hi hs) (Exists.intro _ (And.intro rfl (And.intro (v_3 hi hs) (⟨_, _, ⟨by decide, by decide, rk hk, rn hn⟩, K_habit h _ _ _, ?_⟩))))))))))
  rintro h w ⟨⟨S1, hS, rfl⟩, v, rfl⟩
  refine And.intro rfl (Exists.intro _ (And.intro rfl (And.intro (v_1 hi hs) (Exists.intro _ (And.intro rfl (And.intro (v_2 hi hs) (Exists.intro _ (And.intro rfl (And.intro (v_3 hi hs) (⟨_, _, ⟨by decide, by decide, rk hk, rn hn⟩, R_habit hM _ _ _, ?_⟩))))))))))
  rintro h w ⟨⟨M1, hM1, rfl⟩, v, rfl⟩
  exact And.intro rfl (nx S1 M1 hS hM1)
set_option maxRecDepth 100000 in
theorem law_20 (hi : 7 * i + 7 ≤ sc.length) (hs : sc.length ≤ 3584) (h : KC S) (hM : RI M) (hk : k ≤ 1000) (hn : n ≤ 100000) (nx : NX l sc i k n) : WP l room_1 [soInL, sc] sgL_law kL_law qL 502 (lL i) [] (mk S M) k n := by
  refine run_sound okL_law cutL 100 (Exists.intro _ (And.intro rfl (And.intro (v_1 hi hs) (Exists.intro _ (And.intro rfl (And.intro (v_2 hi hs) (⟨_, _, ⟨by decide, by decide, rk hk, rn hn⟩, K_kinds h _ _, ?_⟩)))))))
  rintro h w ⟨⟨S1, hS, rfl⟩, v, rfl⟩
  refine And.intro rfl (Exists.intro _ (And.intro rfl (And.intro (v_1 hi hs) (Exists.intro _ (And.intro rfl (And.intro (v_2 hi hs) (⟨_, _, ⟨by decide, by decide, rk hk, rn hn⟩, R_kinds hM _ _, ?_⟩)))))))
  rintro h w ⟨⟨M1, hM1, rfl⟩, v, rfl⟩
  exact And.intro rfl (nx S1 M1 hS hM1)
set_option maxRecDepth 100000 in
theorem law_21 (hi : 7 * i + 7 ≤ sc.length) (hs : sc.length ≤ 3584) (h : KC S) (hM : RI M) (hk : k ≤ 1000) (hn : n ≤ 100000) (nx : NX l sc i k n) : WP l room_1 [soInL, sc] sgL_law kL_law qL 529 (lL i) [] (mk S M) k n := by
  refine run_sound okL_law cutL 100 (Exists.intro _ (And.intro rfl (And.intro (v_1 hi hs) (⟨_, _, ⟨by decide, by decide, rk hk, rn hn⟩, K_ask h _, ?_⟩))))
  rintro h w ⟨⟨S1, hS, rfl⟩, v, rfl⟩
  refine And.intro rfl (Exists.intro _ (And.intro rfl (And.intro (v_1 hi hs) (⟨_, _, ⟨by decide, by decide, rk hk, rn hn⟩, R_ask hM _, ?_⟩))))
  rintro h w ⟨⟨M1, hM1, rfl⟩, v, rfl⟩
  exact And.intro rfl (nx S1 M1 hS hM1)
set_option maxRecDepth 100000 in
theorem law_22 (hi : 7 * i + 7 ≤ sc.length) (hs : sc.length ≤ 3584) (h : KC S) (hM : RI M) (hk : k ≤ 1000) (hn : n ≤ 100000) (nx : NX l sc i k n) : WP l room_1 [soInL, sc] sgL_law kL_law qL 546 (lL i) [] (mk S M) k n := by
  refine run_sound okL_law cutL 100 (Exists.intro _ (And.intro rfl (And.intro (v_1 hi hs) (⟨_, _, ⟨by decide, by decide, rk hk, rn hn⟩, K_two h _, ?_⟩))))
  rintro h w ⟨⟨S1, hS, rfl⟩, v, rfl⟩
  refine And.intro rfl (Exists.intro _ (And.intro rfl (And.intro (v_1 hi hs) (⟨_, _, ⟨by decide, by decide, rk hk, rn hn⟩, R_two hM _, ?_⟩))))
  rintro h w ⟨⟨M1, hM1, rfl⟩, v, rfl⟩
  exact And.intro rfl (nx S1 M1 hS hM1)
set_option maxRecDepth 100000 in
theorem law_23 (hi : 7 * i + 7 ≤ sc.length) (hs : sc.length ≤ 3584) (h : KC S) (hM : RI M) (hk : k ≤ 1000) (hn : n ≤ 100000) (nx : NX l sc i k n) : WP l room_1 [soInL, sc] sgL_law kL_law qL 563 (lL i) [] (mk S M) k n := by
  refine run_sound okL_law cutL 100 (Exists.intro _ (And.intro rfl (And.intro (v_1 hi hs) (Exists.intro _ (And.intro rfl (And.intro (v_2 hi hs) (Exists.intro _ (And.intro rfl (And.intro (v_3 hi hs) (⟨_, _, ⟨by decide, by decide, rk hk, rn hn⟩, K_parts h _ _ _, ?_⟩))))))))))
  rintro h w ⟨⟨S1, hS, rfl⟩, v, rfl⟩
  refine And.intro rfl (Exists.intro _ (And.intro rfl (And.intro (v_1 hi hs) (Exists.intro _ (And.intro rfl (And.intro (v_2 hi hs) (Exists.intro _ (And.intro rfl (And.intro (v_3 hi hs) (⟨_, _, ⟨by decide, by decide, rk hk, rn hn⟩, R_parts hM _ _ _, ?_⟩))))))))))
  rintro h w ⟨⟨M1, hM1, rfl⟩, v, rfl⟩
  exact And.intro rfl (nx S1 M1 hS hM1)
set_option maxRecDepth 100000 in
theorem law_24 (hi : 7 * i + 7 ≤ sc.length) (hs : sc.length ≤ 3584) (h : KC S) (hM : RI M) (hk : k ≤ 1000) (hn : n ≤ 100000) (nx : NX l sc i k n) : WP l room_1 [soInL, sc] sgL_law kL_law qL 600 (lL i) [] (mk S M) k n := by
  refine run_sound okL_law cutL 100 (Exists.intro _ (And.intro rfl (And.intro (v_1 hi hs) (Exists.intro _ (And.intro rfl (And.intro (v_2 hi hs) (Exists.intro _ (And.intro rfl (And.intro (v_3 hi hs) (⟨_, _, ⟨by decide, by decide, rk hk, rn hn⟩, K_hide rfl h _ _ _, ?_⟩))))))))))
  rintro h w ⟨⟨S1, hS, rfl⟩, v, rfl⟩
  refine And.intro rfl (Exists.intro _ (And.intro rfl (And.intro (v_1 hi hs) (Exists.intro _ (And.intro rfl (And.intro (v_2 hi hs) (Exists.intro _ (And.intro rfl (And.intro (v_3 hi hs) (⟨_, _, ⟨by decide, by decide, rk hk, rn hn⟩, R_hide hM _ _ _, ?_⟩))))))))))
  rintro h w ⟨⟨M1, hM1, rfl⟩, v, rfl⟩
  exact And.intro rfl (nx S1 M1 hS hM1)
set_option maxRecDepth 100000 in
theorem law_25 (hi : 7 * i + 7 ≤ sc.length) (hs : sc.length ≤ 3584) (h : KC S) (hM : RI M) (hk : k ≤ 1000) (hn : n ≤ 100000) (nx : NX l sc i k n) : WP l room_1 [soInL, sc] sgL_law kL_law qL 637 (lL i) [] (mk S M) k n := by
  refine run_sound okL_law cutL 100 (Exists.intro _ (And.intro rfl (And.intro (v_1 hi hs) (Exists.intro _ (And.intro rfl (And.intro (v_2 hi hs) (Exists.intro _ (And.intro rfl (And.intro (v_3 hi hs) (⟨_, _, ⟨by decide, by decide, rk hk, rn hn⟩, K_same h _ _ _, ?_⟩))))))))))
  rintro h w ⟨⟨S1, hS, rfl⟩, v, rfl⟩
  refine And.intro rfl (Exists.intro _ (And.intro rfl (And.intro (v_1 hi hs) (Exists.intro _ (And.intro rfl (And.intro (v_2 hi hs) (Exists.intro _ (And.intro rfl (And.intro (v_3 hi hs) (⟨_, _, ⟨by decide, by decide, rk hk, rn hn⟩, R_same hM _ _ _, ?_⟩))))))))))
  rintro h w ⟨⟨M1, hM1, rfl⟩, v, rfl⟩
  exact And.intro rfl (nx S1 M1 hS hM1)
set_option maxRecDepth 100000 in
theorem law_26 (hi : 7 * i + 7 ≤ sc.length) (hs : sc.length ≤ 3584) (h : KC S) (hM : RI M) (hk : k ≤ 1000) (hn : n ≤ 100000) (nx : NX l sc i k n) : WP l room_1 [soInL, sc] sgL_law kL_law qL 674 (lL i) [] (mk S M) k n := by
  refine run_sound okL_law cutL 100 (Exists.intro _ (And.intro rfl (And.intro (v_1 hi hs) (⟨_, _, ⟨by decide, by decide, rk hk, rn hn⟩, K_claims h _, ?_⟩))))
  rintro h w ⟨⟨S1, hS, rfl⟩, v, rfl⟩
  refine And.intro rfl (Exists.intro _ (And.intro rfl (And.intro (v_1 hi hs) (⟨_, _, ⟨by decide, by decide, rk hk, rn hn⟩, R_claims hM _, ?_⟩))))
  rintro h w ⟨⟨M1, hM1, rfl⟩, v, rfl⟩
  exact And.intro rfl (nx S1 M1 hS hM1)
set_option maxRecDepth 100000 in
theorem law_27 (hi : 7 * i + 7 ≤ sc.length) (hs : sc.length ≤ 3584) (h : KC S) (hM : RI M) (hk : k ≤ 1000) (hn : n ≤ 100000) (nx : NX l sc i k n) : WP l room_1 [soInL, sc] sgL_law kL_law qL 691 (lL i) [] (mk S M) k n := by
  refine run_sound okL_law cutL 100 (Exists.intro _ (And.intro rfl (And.intro (v_1 hi hs) (⟨_, _, ⟨by decide, by decide, rk hk, rn hn⟩, K_settle h _, ?_⟩))))
  rintro h w ⟨⟨S1, hS, rfl⟩, v, rfl⟩
  refine And.intro rfl (Exists.intro _ (And.intro rfl (And.intro (v_1 hi hs) (⟨_, _, ⟨by decide, by decide, rk hk, rn hn⟩, R_settle hM _, ?_⟩))))
  rintro h w ⟨⟨M1, hM1, rfl⟩, v, rfl⟩
  exact And.intro rfl (nx S1 M1 hS hM1)
set_option maxRecDepth 100000 in
theorem law_28 (hi : 7 * i + 7 ≤ sc.length) (hs : sc.length ≤ 3584) (h : KC S) (hM : RI M) (hk : k ≤ 1000) (hn : n ≤ 100000) (nx : NX l sc i k n) : WP l room_1 [soInL, sc] sgL_law kL_law qL 708 (lL i) [] (mk S M) k n := by
  refine run_sound okL_law cutL 100 (Exists.intro _ (And.intro rfl (And.intro (v_1 hi hs) (Exists.intro _ (And.intro rfl (And.intro (v_2 hi hs) (Exists.intro _ (And.intro rfl (And.intro (v_3 hi hs) (⟨_, _, ⟨by decide, by decide, rk hk, rn hn⟩, K_thrice h _ _ _, ?_⟩))))))))))
  rintro h w ⟨⟨S1, hS, rfl⟩, v, rfl⟩
  refine And.intro rfl (Exists.intro _ (And.intro rfl (And.intro (v_1 hi hs) (Exists.intro _ (And.intro rfl (And.intro (v_2 hi hs) (Exists.intro _ (And.intro rfl (And.intro (v_3 hi hs) (⟨_, _, ⟨by decide, by decide, rk hk, rn hn⟩, R_thrice hM _ _ _, ?_⟩))))))))))
  rintro h w ⟨⟨M1, hM1, rfl⟩, v, rfl⟩
  exact And.intro rfl (nx S1 M1 hS hM1)
set_option maxRecDepth 100000 in
theorem law_29 (hi : 7 * i + 7 ≤ sc.length) (hs : sc.length ≤ 3584) (h : KC S) (hM : RI M) (hk : k ≤ 1000) (hn : n ≤ 100000) (nx : NX l sc i k n) : WP l room_1 [soInL, sc] sgL_law kL_law qL 745 (lL i) [] (mk S M) k n := by
  refine run_sound okL_law cutL 100 (Exists.intro _ (And.intro rfl (And.intro (v_1 hi hs) (⟨_, _, ⟨by decide, by decide, rk hk, rn hn⟩, K_many h _, ?_⟩))))
  rintro h w ⟨⟨S1, hS, rfl⟩, v, rfl⟩
  refine And.intro rfl (Exists.intro _ (And.intro rfl (And.intro (v_1 hi hs) (⟨_, _, ⟨by decide, by decide, rk hk, rn hn⟩, R_many hM _, ?_⟩))))
  rintro h w ⟨⟨M1, hM1, rfl⟩, v, rfl⟩
  exact And.intro rfl (nx S1 M1 hS hM1)
set_option maxRecDepth 100000 in
theorem law_30 (hi : 7 * i + 7 ≤ sc.length) (hs : sc.length ≤ 3584) (h : KC S) (hM : RI M) (hk : k ≤ 1000) (hn : n ≤ 100000) (nx : NX l sc i k n) : WP l room_1 [soInL, sc] sgL_law kL_law qL 762 (lL i) [] (mk S M) k n := by
  refine run_sound okL_law cutL 100 (Exists.intro _ (And.intro rfl (And.intro (v_1 hi hs) (Exists.intro _ (And.intro rfl (And.intro (v_2 hi hs) (⟨_, _, ⟨by decide, by decide, rk hk, rn hn⟩, K_judge h _ _, ?_⟩)))))))
  rintro h w ⟨⟨S1, hS, rfl⟩, v, rfl⟩
  refine And.intro rfl (Exists.intro _ (And.intro rfl (And.intro (v_1 hi hs) (Exists.intro _ (And.intro rfl (And.intro (v_2 hi hs) (⟨_, _, ⟨by decide, by decide, rk hk, rn hn⟩, R_judge hM _ _, ?_⟩)))))))
  rintro h w ⟨⟨M1, hM1, rfl⟩, v, rfl⟩
  exact And.intro rfl (nx S1 M1 hS hM1)
set_option maxRecDepth 100000 in
theorem law_31 (hi : 7 * i + 7 ≤ sc.length) (hs : sc.length ≤ 3584) (h : KC S) (hM : RI M) (hk : k ≤ 1000) (hn : n ≤ 100000) (nx : NX l sc i k n) : WP l room_1 [soInL, sc] sgL_law kL_law qL 789 (lL i) [] (mk S M) k n := by
  refine run_sound okL_law cutL 100 (Exists.intro _ (And.intro rfl (And.intro (v_1 hi hs) (⟨_, _, ⟨by decide, by decide, rk hk, rn hn⟩, K_film h _, ?_⟩))))
  rintro h w ⟨⟨S1, hS, rfl⟩, v, rfl⟩
  refine And.intro rfl (Exists.intro _ (And.intro rfl (And.intro (v_1 hi hs) (⟨_, _, ⟨by decide, by decide, rk hk, rn hn⟩, R_film hM _, ?_⟩))))
  rintro h w ⟨⟨M1, hM1, rfl⟩, v, rfl⟩
  exact And.intro rfl (nx S1 M1 hS hM1)
set_option maxRecDepth 100000 in
theorem law_32 (hi : 7 * i + 7 ≤ sc.length) (hs : sc.length ≤ 3584) (h : KC S) (hM : RI M) (hk : k ≤ 1000) (hn : n ≤ 100000) (nx : NX l sc i k n) : WP l room_1 [soInL, sc] sgL_law kL_law qL 806 (lL i) [] (mk S M) k n := by
  refine run_sound okL_law cutL 100 (Exists.intro _ (And.intro rfl (And.intro (v_1 hi hs) (⟨_, _, ⟨by decide, by decide, rk hk, rn hn⟩, K_drawn h _, ?_⟩))))
  rintro h w ⟨⟨S1, hS, rfl⟩, v, rfl⟩
  refine And.intro rfl (Exists.intro _ (And.intro rfl (And.intro (v_1 hi hs) (⟨_, _, ⟨by decide, by decide, rk hk, rn hn⟩, R_drawn hM _, ?_⟩))))
  rintro h w ⟨⟨M1, hM1, rfl⟩, v, rfl⟩
  exact And.intro rfl (nx S1 M1 hS hM1)
set_option maxRecDepth 100000 in
theorem law_33 (hi : 7 * i + 7 ≤ sc.length) (hs : sc.length ≤ 3584) (h : KC S) (hM : RI M) (hk : k ≤ 1000) (hn : n ≤ 100000) (nx : NX l sc i k n) : WP l room_1 [soInL, sc] sgL_law kL_law qL 823 (lL i) [] (mk S M) k n := by
  refine run_sound okL_law cutL 100 (Exists.intro _ (And.intro rfl (And.intro (v_1 hi hs) (Exists.intro _ (And.intro rfl (And.intro (v_2 hi hs) (Exists.intro _ (And.intro rfl (And.intro (v_3 hi hs) (⟨_, _, ⟨by decide, by decide, rk hk, rn hn⟩, K_mean h _ _ _, ?_⟩))))))))))
  rintro h w ⟨⟨S1, hS, rfl⟩, v, rfl⟩
  refine And.intro rfl (Exists.intro _ (And.intro rfl (And.intro (v_1 hi hs) (Exists.intro _ (And.intro rfl (And.intro (v_2 hi hs) (Exists.intro _ (And.intro rfl (And.intro (v_3 hi hs) (⟨_, _, ⟨by decide, by decide, rk hk, rn hn⟩, R_mean hM _ _ _, ?_⟩))))))))))
  rintro h w ⟨⟨M1, hM1, rfl⟩, v, rfl⟩
  exact And.intro rfl (nx S1 M1 hS hM1)
set_option maxRecDepth 100000 in
theorem law_34 (hi : 7 * i + 7 ≤ sc.length) (hs : sc.length ≤ 3584) (h : KC S) (hM : RI M) (hk : k ≤ 1000) (hn : n ≤ 100000) (nx : NX l sc i k n) : WP l room_1 [soInL, sc] sgL_law kL_law qL 860 (lL i) [] (mk S M) k n := by
  refine run_sound okL_law cutL 100 (⟨_, _, ⟨by decide, by decide, rk hk, rn hn⟩, K_image h, ?_⟩)
  rintro h w ⟨⟨S1, hS, rfl⟩, v, rfl⟩
  refine And.intro rfl (⟨_, _, ⟨by decide, by decide, rk hk, rn hn⟩, R_image hM, ?_⟩)
  rintro h w ⟨⟨M1, hM1, rfl⟩, v, rfl⟩
  exact And.intro rfl (nx S1 M1 hS hM1)
set_option maxRecDepth 100000 in
theorem law_35 (hi : 7 * i + 7 ≤ sc.length) (hs : sc.length ≤ 3584) (h : KC S) (hM : RI M) (hk : k ≤ 1000) (hn : n ≤ 100000) (nx : NX l sc i k n) : WP l room_1 [soInL, sc] sgL_law kL_law qL 867 (lL i) [] (mk S M) k n := by
  refine run_sound okL_law cutL 100 (⟨_, _, ⟨by decide, by decide, rk hk, rn hn⟩, K_back h, ?_⟩)
  rintro h w ⟨⟨S1, hS, rfl⟩, v, rfl⟩
  refine And.intro rfl (⟨_, _, ⟨by decide, by decide, rk hk, rn hn⟩, R_back hM, ?_⟩)
  rintro h w ⟨⟨M1, hM1, rfl⟩, v, rfl⟩
  exact And.intro rfl (nx S1 M1 hS hM1)
set_option maxRecDepth 100000 in
theorem law_36 (hi : 7 * i + 7 ≤ sc.length) (hs : sc.length ≤ 3584) (h : KC S) (hM : RI M) (hk : k ≤ 1000) (hn : n ≤ 100000) (nx : NX l sc i k n) : WP l room_1 [soInL, sc] sgL_law kL_law qL 874 (lL i) [] (mk S M) k n := by
  refine run_sound okL_law cutL 100 (Exists.intro _ (And.intro rfl (And.intro (v_1 hi hs) (Exists.intro _ (And.intro rfl (And.intro (v_2 hi hs) (Exists.intro _ (And.intro rfl (And.intro (v_3 hi hs) (⟨_, _, ⟨by decide, by decide, rk hk, rn hn⟩, K_sheet h _ _ _, ?_⟩))))))))))
  rintro h w ⟨⟨S1, hS, rfl⟩, rfl⟩
  refine Exists.intro _ (And.intro rfl (And.intro (v_1 hi hs) (Exists.intro _ (And.intro rfl (And.intro (v_2 hi hs) (Exists.intro _ (And.intro rfl (And.intro (v_3 hi hs) (⟨_, _, ⟨by decide, by decide, rk hk, rn hn⟩, R_sheet hM _ _ _, ?_⟩)))))))))
  rintro h w ⟨⟨M1, hM1, rfl⟩, rfl⟩
  exact brT rfl (nx S1 M1 hS hM1)
set_option maxRecDepth 100000 in
theorem law_37 (hi : 7 * i + 7 ≤ sc.length) (hs : sc.length ≤ 3584) (h : KC S) (hM : RI M) (hk : k ≤ 1000) (hn : n ≤ 100000) (nx : NX l sc i k n) : WP l room_1 [soInL, sc] sgL_law kL_law qL 911 (lL i) [] (mk S M) k n := by
  refine run_sound okL_law cutL 100 (Exists.intro _ (And.intro rfl (And.intro (v_1 hi hs) (Exists.intro _ (And.intro rfl (And.intro (v_2 hi hs) (Exists.intro _ (And.intro rfl (And.intro (v_3 hi hs) (⟨_, _, ⟨by decide, by decide, rk hk, rn hn⟩, K_cell h _ _ _, ?_⟩))))))))))
  rintro h w ⟨⟨S1, hS, rfl⟩, v, rfl⟩
  refine And.intro rfl (Exists.intro _ (And.intro rfl (And.intro (v_1 hi hs) (Exists.intro _ (And.intro rfl (And.intro (v_2 hi hs) (Exists.intro _ (And.intro rfl (And.intro (v_3 hi hs) (⟨_, _, ⟨by decide, by decide, rk hk, rn hn⟩, R_cell hM _ _ _, ?_⟩))))))))))
  rintro h w ⟨⟨M1, hM1, rfl⟩, v, rfl⟩
  exact And.intro rfl (nx S1 M1 hS hM1)
set_option maxRecDepth 100000 in
theorem law_38 (hi : 7 * i + 7 ≤ sc.length) (hs : sc.length ≤ 3584) (h : KC S) (hM : RI M) (hk : k ≤ 1000) (hn : n ≤ 100000) (nx : NX l sc i k n) : WP l room_1 [soInL, sc] sgL_law kL_law qL 948 (lL i) [] (mk S M) k n := by
  refine run_sound okL_law cutL 100 (Exists.intro _ (And.intro rfl (And.intro (v_1 hi hs) (Exists.intro _ (And.intro rfl (And.intro (v_2 hi hs) (Exists.intro _ (And.intro rfl (And.intro (v_3 hi hs) (Exists.intro _ (And.intro rfl (And.intro (v_4 hi hs) (Exists.intro _ (And.intro rfl (And.intro (v_5 hi hs) (⟨_, _, ⟨by decide, by decide, rk hk, rn hn⟩, K_copy h _ _ _ _ _, ?_⟩))))))))))))))))
  rintro h w ⟨⟨S1, hS, rfl⟩, v, rfl⟩
  refine And.intro rfl (Exists.intro _ (And.intro rfl (And.intro (v_1 hi hs) (Exists.intro _ (And.intro rfl (And.intro (v_2 hi hs) (Exists.intro _ (And.intro rfl (And.intro (v_3 hi hs) (Exists.intro _ (And.intro rfl (And.intro (v_4 hi hs) (Exists.intro _ (And.intro rfl (And.intro (v_5 hi hs) (⟨_, _, ⟨by decide, by decide, rk hk, rn hn⟩, R_copy hM _ _ _ _ _, ?_⟩))))))))))))))))
  rintro h w ⟨⟨M1, hM1, rfl⟩, v, rfl⟩
  exact And.intro rfl (nx S1 M1 hS hM1)
set_option maxRecDepth 100000 in
theorem law_39 (hi : 7 * i + 7 ≤ sc.length) (hs : sc.length ≤ 3584) (h : KC S) (hM : RI M) (hk : k ≤ 1000) (hn : n ≤ 100000) (nx : NX l sc i k n) : WP l room_1 [soInL, sc] sgL_law kL_law qL 1005 (lL i) [] (mk S M) k n := by
  refine run_sound okL_law cutL 100 (Exists.intro _ (And.intro rfl (And.intro (v_1 hi hs) (Exists.intro _ (And.intro rfl (And.intro (v_2 hi hs) (Exists.intro _ (And.intro rfl (And.intro (v_3 hi hs) (Exists.intro _ (And.intro rfl (And.intro (v_4 hi hs) (⟨_, _, ⟨by decide, by decide, rk hk, rn hn⟩, K_sayingsBy h _ _ _ _, ?_⟩)))))))))))))
  rintro h w ⟨⟨S1, hS, rfl⟩, v, rfl⟩
  refine And.intro rfl (Exists.intro _ (And.intro rfl (And.intro (v_1 hi hs) (Exists.intro _ (And.intro rfl (And.intro (v_2 hi hs) (Exists.intro _ (And.intro rfl (And.intro (v_3 hi hs) (Exists.intro _ (And.intro rfl (And.intro (v_4 hi hs) (⟨_, _, ⟨by decide, by decide, rk hk, rn hn⟩, R_sayingsBy hM _ _ _ _, ?_⟩)))))))))))))
  rintro h w ⟨⟨M1, hM1, rfl⟩, v, rfl⟩
  exact And.intro rfl (nx S1 M1 hS hM1)
set_option maxRecDepth 100000 in
theorem law_40 (hi : 7 * i + 7 ≤ sc.length) (hs : sc.length ≤ 3584) (h : KC S) (hM : RI M) (hk : k ≤ 1000) (hn : n ≤ 100000) (nx : NX l sc i k n) : WP l room_1 [soInL, sc] sgL_law kL_law qL 1052 (lL i) [] (mk S M) k n := by
  refine run_sound okL_law cutL 100 (Exists.intro _ (And.intro rfl (And.intro (v_1 hi hs) (Exists.intro _ (And.intro rfl (And.intro (v_2 hi hs) (⟨_, _, ⟨by decide, by decide, rk hk, rn hn⟩, K_taken h _ _, ?_⟩)))))))
  rintro h w ⟨⟨S1, hS, rfl⟩, v, rfl⟩
  refine And.intro rfl (Exists.intro _ (And.intro rfl (And.intro (v_1 hi hs) (Exists.intro _ (And.intro rfl (And.intro (v_2 hi hs) (⟨_, _, ⟨by decide, by decide, rk hk, rn hn⟩, R_taken hM _ _, ?_⟩)))))))
  rintro h w ⟨⟨M1, hM1, rfl⟩, v, rfl⟩
  exact And.intro rfl (nx S1 M1 hS hM1)
set_option maxRecDepth 100000 in
theorem law_nx (ih : ∀ (S : CS) (M : MS), KC S → RI M → WP l room_1 [soInL, sc] sgL_law kL_law qL 10 (lL (i + 1)) [] (mk S M) k n) : NX l sc i k n := by
  intro S M h hM
  have ih := ih S M h hM
  have e : nI (7 * i) + Int32.ofInt 7 = nI (7 * (i + 1)) := nI_add (7 * i) 7
  have ih : WP l room_1 [soInL, sc] sgL_law kL_law qL 10 [some (.ref 1001), some (.ref 0), some (.ref 27), some (.int (nI (7 * (i + 1))))] [] (mk S M) k n := ih
  rw [← e] at ih
  exact run_sound okL_law (fun i => Nat.beq i 10) 100 ih
set_option maxRecDepth 100000 in
theorem law_one (hi : 7 * i + 7 ≤ sc.length) (hs : sc.length ≤ 3584) (h : KC S) (hM : RI M) (hk : k ≤ 1000) (hn : n ≤ 100000) (nx : NX l sc i k n) : WP l room_1 [soInL, sc] sgL_law kL_law qL 10 (lL i) [] (mk S M) k n := by
  refine run_sound okL_law cutL 100 (Exists.intro _ (And.intro rfl (brF ?_ (Exists.intro _ (And.intro rfl (And.intro (v_0 hi hs) ?_))))))
  · exact law_in hi hs
  refine And.intro (fun _ => nx S M h hM) ?_
  refine And.intro (fun _ => law_0 hi hs h hM hk hn nx) ?_
  refine And.intro (fun _ => law_1 hi hs h hM hk hn nx) ?_
  refine And.intro (fun _ => law_2 hi hs h hM hk hn nx) ?_
  refine And.intro (fun _ => law_3 hi hs h hM hk hn nx) ?_
  refine And.intro (fun _ => law_4 hi hs h hM hk hn nx) ?_
  refine And.intro (fun _ => law_5 hi hs h hM hk hn nx) ?_
  refine And.intro (fun _ => law_6 hi hs h hM hk hn nx) ?_
  refine And.intro (fun _ => law_7 hi hs h hM hk hn nx) ?_
  refine And.intro (fun _ => law_8 hi hs h hM hk hn nx) ?_
  refine And.intro (fun _ => law_9 hi hs h hM hk hn nx) ?_
  refine And.intro (fun _ => law_10 hi hs h hM hk hn nx) ?_
  refine And.intro (fun _ => law_11 hi hs h hM hk hn nx) ?_
  refine And.intro (fun _ => law_12 hi hs h hM hk hn nx) ?_
  refine And.intro (fun _ => law_13 hi hs h hM hk hn nx) ?_
  refine And.intro (fun _ => law_14 hi hs h hM hk hn nx) ?_
  refine And.intro (fun _ => law_15 hi hs h hM hk hn nx) ?_
  refine And.intro (fun _ => law_16 hi hs h hM hk hn nx) ?_
  refine And.intro (fun _ => law_17 hi hs h hM hk hn nx) ?_
  refine And.intro (fun _ => law_18 hi hs h hM hk hn nx) ?_
  refine And.intro (fun _ => law_19 hi hs h hM hk hn nx) ?_
  refine And.intro (fun _ => law_20 hi hs h hM hk hn nx) ?_
  refine And.intro (fun _ => law_21 hi hs h hM hk hn nx) ?_
  refine And.intro (fun _ => law_22 hi hs h hM hk hn nx) ?_
  refine And.intro (fun _ => law_23 hi hs h hM hk hn nx) ?_
  refine And.intro (fun _ => law_24 hi hs h hM hk hn nx) ?_
  refine And.intro (fun _ => law_25 hi hs h hM hk hn nx) ?_
  refine And.intro (fun _ => law_26 hi hs h hM hk hn nx) ?_
  refine And.intro (fun _ => law_27 hi hs h hM hk hn nx) ?_
  refine And.intro (fun _ => law_28 hi hs h hM hk hn nx) ?_
  refine And.intro (fun _ => law_29 hi hs h hM hk hn nx) ?_
  refine And.intro (fun _ => law_30 hi hs h hM hk hn nx) ?_
  refine And.intro (fun _ => law_31 hi hs h hM hk hn nx) ?_
  refine And.intro (fun _ => law_32 hi hs h hM hk hn nx) ?_
  refine And.intro (fun _ => law_33 hi hs h hM hk hn nx) ?_
  refine And.intro (fun _ => law_34 hi hs h hM hk hn nx) ?_
  refine And.intro (fun _ => law_35 hi hs h hM hk hn nx) ?_
  refine And.intro (fun _ => law_36 hi hs h hM hk hn nx) ?_
  refine And.intro (fun _ => law_37 hi hs h hM hk hn nx) ?_
  refine And.intro (fun _ => law_38 hi hs h hM hk hn nx) ?_
  refine And.intro (fun _ => law_39 hi hs h hM hk hn nx) ?_
  refine And.intro (fun _ => law_40 hi hs h hM hk hn nx) ?_
  exact trivial
set_option maxRecDepth 100000 in
theorem law_all (hs : sc.length ≤ 3584) (hk : k ≤ 1000) (hn : n ≤ 100000) : ∀ i, i ≤ 513 → ∀ (S : CS) (M : MS), KC S → RI M → WP l room_1 [soInL, sc] sgL_law kL_law qL 10 (lL i) [] (mk S M) k n := by
  have out : ∀ i, i ≤ 600 → ¬ 7 * i + 7 ≤ sc.length → ∀ (S : CS) (M : MS), WP l room_1 [soInL, sc] sgL_law kL_law qL 10 (lL i) [] (mk S M) k n := fun i h6 hi S M =>
    run_sound okL_law cutL 100 (Exists.intro _ (And.intro rfl (brT (law_out hi hs h6) ⟨rfl, rfl⟩)))
  refine down (fun S M _ _ => out 513 (by decide) (by omega) S M) (fun i hi ih S M h hM => ?_)
  by_cases q : 7 * i + 7 ≤ sc.length
  · exact law_one q hs h hM hk hn (law_nx ih)
  · exact out i (by omega) q S M
end LAWP38
