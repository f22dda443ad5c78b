/-! THE LAW, one call on new objects: its cases (by wip/gen/lawp1.py) -/
section LAWP1
variable {l : Launch} {M : MS} {sc : List Int32} {k n : Nat}
def cutL (i : Nat) : Bool := [22, 39, 106, 113, 130, 177, 205, 222, 249, 286, 313, 350, 357, 384, 392, 419, 426, 433, 450, 467, 505, 532, 549, 566, 604, 641, 678, 695, 712, 750, 767, 794, 811, 828, 866, 873, 880, 917, 954, 1011, 1058, 1085].any (Nat.beq i)
theorem v_0 (h : sc.length = 7) : vp_in (0 : Int32) sc.length := by rw [h]; exact vp_nI (n := 0) (by decide) (by decide)
theorem v_1 (h : sc.length = 7) : vp_in ((0 : Int32) + Int32.ofInt 1) sc.length := by rw [h]; exact vp_nI (n := 1) (by decide) (by decide)
theorem v_2 (h : sc.length = 7) : vp_in ((0 : Int32) + Int32.ofInt 2) sc.length := by rw [h]; exact vp_nI (n := 2) (by decide) (by decide)
theorem v_3 (h : sc.length = 7) : vp_in ((0 : Int32) + Int32.ofInt 3) sc.length := by rw [h]; exact vp_nI (n := 3) (by decide) (by decide)
theorem v_4 (h : sc.length = 7) : vp_in ((0 : Int32) + Int32.ofInt 4) sc.length := by rw [h]; exact vp_nI (n := 4) (by decide) (by decide)
theorem v_5 (h : sc.length = 7) : vp_in ((0 : Int32) + Int32.ofInt 5) sc.length := by rw [h]; exact vp_nI (n := 5) (by decide) (by decide)
theorem v_6 (h : sc.length = 7) : vp_in ((0 : Int32) + Int32.ofInt 6) sc.length := by rw [h]; exact vp_nI (n := 6) (by decide) (by decide)
abbrev qL : AH → Option Value → Prop := fun _ v => v = some (.int 1)
abbrev lL : LO := [some (.ref 1001), some (.ref 0), some (.ref 27), some (.int 0)]
theorem rk (hk : k ≤ 1000) : k + 0 ≤ room_1.cells := Nat.le_trans hk (by decide)
theorem rn (hn : n ≤ 100000) : n + 0 ≤ room_1.slots := Nat.le_trans hn (by decide)
set_option maxRecDepth 100000 in
theorem law_fin (h7 : sc.length = 7) (h : AH) (k n : Nat) : WP l room_1 [soInL, sc] sgL_law kL_law qL 1085 lL [] h k n := by
  refine run_sound okL_law noCut 100 (Exists.intro sc (And.intro rfl (brT ?_ ⟨rfl, rfl⟩)))
  show Int32.ofNat sc.length - Int32.ofInt 7 < 0 + Int32.ofInt 7
  rw [h7]
  decide
set_option maxRecDepth 100000 in
theorem law_0 (h7 : sc.length = 7) (hM : FM M) (hk : k ≤ 1000) (hn : n ≤ 100000) : WP l room_1 [soInL, sc] sgL_law kL_law qL 22 lL [] (mk CS0 M) k n := by
  refine run_sound okL_law cutL 100 (Exists.intro _ (And.intro rfl (And.intro (v_1 h7) (⟨_, _, ⟨by decide, by decide, rk hk, rn hn⟩, k_count _, ?_⟩))))
  rintro h w ⟨⟨S1, rfl⟩, rfl⟩
  refine Exists.intro _ (And.intro rfl (And.intro (v_1 h7) (⟨_, _, ⟨by decide, by decide, rk hk, rn hn⟩, f_count hM _, ?_⟩)))
  rintro h w rfl
  exact brT rfl (law_fin h7 _ _ _)
set_option maxRecDepth 100000 in
theorem law_1 (h7 : sc.length = 7) (hM : FM M) (hk : k ≤ 1000) (hn : n ≤ 100000) : WP l room_1 [soInL, sc] sgL_law kL_law qL 39 lL [] (mk CS0 M) k n := by
  refine run_sound okL_law cutL 100 (Exists.intro _ (And.intro rfl (And.intro (v_1 h7) (Exists.intro _ (And.intro rfl (And.intro (v_2 h7) (Exists.intro _ (And.intro rfl (And.intro (v_3 h7) (Exists.intro _ (And.intro rfl (And.intro (v_4 h7) (Exists.intro _ (And.intro rfl (And.intro (v_5 h7) (Exists.intro _ (And.intro rfl (And.intro (v_6 h7) (⟨_, _, ⟨by decide, by decide, rk hk, rn hn⟩, k_feed _ _ _ _ _ _, ?_⟩)))))))))))))))))))
  rintro h w ⟨⟨S1, rfl⟩, hy, hno⟩
  by_cases hf : feeP (sc.getD ((0 : Int32) + Int32.ofInt 1).toNatClampNeg 0) (sc.getD ((0 : Int32) + Int32.ofInt 2).toNatClampNeg 0) (sc.getD ((0 : Int32) + Int32.ofInt 3).toNatClampNeg 0) (sc.getD ((0 : Int32) + Int32.ofInt 4).toNatClampNeg 0) (sc.getD ((0 : Int32) + Int32.ofInt 5).toNatClampNeg 0) (sc.getD ((0 : Int32) + Int32.ofInt 6).toNatClampNeg 0)
  · obtain rfl := hy hf
    refine Exists.intro _ (And.intro rfl (And.intro (v_1 h7) (Exists.intro _ (And.intro rfl (And.intro (v_2 h7) (Exists.intro _ (And.intro rfl (And.intro (v_3 h7) (Exists.intro _ (And.intro rfl (And.intro (v_4 h7) (Exists.intro _ (And.intro rfl (And.intro (v_5 h7) (Exists.intro _ (And.intro rfl (And.intro (v_6 h7) (⟨_, _, ⟨by decide, by decide, rk hk, rn hn⟩, f_feed hM _ _ _ _ _ _, ?_⟩))))))))))))))))))
    rintro h w ⟨hy2, hno2⟩
    obtain rfl := hy2 hf
    exact brT rfl (law_fin h7 _ _ _)
  · obtain rfl := hno hf
    refine Exists.intro _ (And.intro rfl (And.intro (v_1 h7) (Exists.intro _ (And.intro rfl (And.intro (v_2 h7) (Exists.intro _ (And.intro rfl (And.intro (v_3 h7) (Exists.intro _ (And.intro rfl (And.intro (v_4 h7) (Exists.intro _ (And.intro rfl (And.intro (v_5 h7) (Exists.intro _ (And.intro rfl (And.intro (v_6 h7) (⟨_, _, ⟨by decide, by decide, rk hk, rn hn⟩, f_feed hM _ _ _ _ _ _, ?_⟩))))))))))))))))))
    rintro h w ⟨hy2, hno2⟩
    obtain rfl := hno2 hf
    exact brT rfl (law_fin h7 _ _ _)
set_option maxRecDepth 100000 in
theorem law_2 (h7 : sc.length = 7) (hM : FM M) (hk : k ≤ 1000) (hn : n ≤ 100000) : WP l room_1 [soInL, sc] sgL_law kL_law qL 106 lL [] (mk CS0 M) k n := by
  refine run_sound okL_law cutL 100 (⟨_, _, ⟨by decide, by decide, rk hk, rn hn⟩, k_text, ?_⟩)
  rintro h w ⟨⟨S1, rfl⟩, rfl⟩
  refine ⟨_, _, ⟨by decide, by decide, rk hk, rn hn⟩, f_text hM, ?_⟩
  rintro h w rfl
  exact brT rfl (law_fin h7 _ _ _)
set_option maxRecDepth 100000 in
theorem law_3 (h7 : sc.length = 7) (hM : FM M) (hk : k ≤ 1000) (hn : n ≤ 100000) : WP l room_1 [soInL, sc] sgL_law kL_law qL 113 lL [] (mk CS0 M) k n := by
  refine run_sound okL_law cutL 100 (Exists.intro _ (And.intro rfl (And.intro (v_1 h7) (⟨_, _, ⟨by decide, by decide, rk hk, rn hn⟩, k_force _, ?_⟩))))
  rintro h w ⟨⟨S1, rfl⟩, rfl⟩
  refine Exists.intro _ (And.intro rfl (And.intro (v_1 h7) (⟨_, _, ⟨by decide, by decide, rk hk, rn hn⟩, f_force hM _, ?_⟩)))
  rintro h w rfl
  exact brT rfl (law_fin h7 _ _ _)
set_option maxRecDepth 100000 in
theorem law_4 (h7 : sc.length = 7) (hM : FM M) (hk : k ≤ 1000) (hn : n ≤ 100000) : WP l room_1 [soInL, sc] sgL_law kL_law qL 130 lL [] (mk CS0 M) k n := by
  refine run_sound okL_law cutL 100 (Exists.intro _ (And.intro rfl (And.intro (v_1 h7) (Exists.intro _ (And.intro rfl (And.intro (v_2 h7) (Exists.intro _ (And.intro rfl (And.intro (v_3 h7) (Exists.intro _ (And.intro rfl (And.intro (v_4 h7) (⟨_, _, ⟨by decide, by decide, rk hk, rn hn⟩, k_asks _ _ _ _, ?_⟩)))))))))))))
  rintro h w ⟨⟨S1, rfl⟩, rfl⟩
  refine Exists.intro _ (And.intro rfl (And.intro (v_1 h7) (Exists.intro _ (And.intro rfl (And.intro (v_2 h7) (Exists.intro _ (And.intro rfl (And.intro (v_3 h7) (Exists.intro _ (And.intro rfl (And.intro (v_4 h7) (⟨_, _, ⟨by decide, by decide, rk hk, rn hn⟩, f_asks hM _ _ _ _, ?_⟩))))))))))))
  rintro h w rfl
  exact brT rfl (law_fin h7 _ _ _)
set_option maxRecDepth 100000 in
theorem law_5 (h7 : sc.length = 7) (hM : FM M) (hk : k ≤ 1000) (hn : n ≤ 100000) : WP l room_1 [soInL, sc] sgL_law kL_law qL 177 lL [] (mk CS0 M) k n := by
  refine run_sound okL_law cutL 100 (Exists.intro _ (And.intro rfl (And.intro (v_1 h7) (Exists.intro _ (And.intro rfl (And.intro (v_2 h7) (⟨_, _, ⟨by decide, by decide, rk hk, rn hn⟩, k_means _ _, ?_⟩)))))))
  rintro h w ⟨⟨S1, rfl⟩, rfl⟩
  refine Exists.intro _ (And.intro rfl (And.intro (v_1 h7) (Exists.intro _ (And.intro rfl (And.intro (v_2 h7) (⟨_, _, ⟨by decide, by decide, rk hk, rn hn⟩, f_means hM _ _, ?_⟩))))))
  rintro h w rfl
  exact brT (lg_cmp0.mpr rfl) (law_fin h7 _ _ _)
set_option maxRecDepth 100000 in
theorem law_6 (h7 : sc.length = 7) (hM : FM M) (hk : k ≤ 1000) (hn : n ≤ 100000) : WP l room_1 [soInL, sc] sgL_law kL_law qL 205 lL [] (mk CS0 M) k n := by
  refine run_sound okL_law cutL 100 (Exists.intro _ (And.intro rfl (And.intro (v_1 h7) (⟨_, _, ⟨by decide, by decide, rk hk, rn hn⟩, k_pairs _, ?_⟩))))
  rintro h w ⟨⟨S1, rfl⟩, rfl⟩
  refine Exists.intro _ (And.intro rfl (And.intro (v_1 h7) (⟨_, _, ⟨by decide, by decide, rk hk, rn hn⟩, f_pairs hM _, ?_⟩)))
  rintro h w rfl
  exact brT rfl (law_fin h7 _ _ _)
set_option maxRecDepth 100000 in
theorem law_7 (h7 : sc.length = 7) (hM : FM M) (hk : k ≤ 1000) (hn : n ≤ 100000) : WP l room_1 [soInL, sc] sgL_law kL_law qL 222 lL [] (mk CS0 M) k n := by
  refine run_sound okL_law cutL 100 (Exists.intro _ (And.intro rfl (And.intro (v_1 h7) (Exists.intro _ (And.intro rfl (And.intro (v_2 h7) (⟨_, _, ⟨by decide, by decide, rk hk, rn hn⟩, k_speaker _ _, ?_⟩)))))))
  rintro h w ⟨⟨S1, rfl⟩, rfl⟩
  refine Exists.intro _ (And.intro rfl (And.intro (v_1 h7) (Exists.intro _ (And.intro rfl (And.intro (v_2 h7) (⟨_, _, ⟨by decide, by decide, rk hk, rn hn⟩, f_speaker hM _ _, ?_⟩))))))
  rintro h w rfl
  exact brT rfl (law_fin h7 _ _ _)
set_option maxRecDepth 100000 in
theorem law_8 (h7 : sc.length = 7) (hM : FM M) (hk : k ≤ 1000) (hn : n ≤ 100000) : WP l room_1 [soInL, sc] sgL_law kL_law qL 249 lL [] (mk CS0 M) k n := by
  refine run_sound okL_law cutL 100 (Exists.intro _ (And.intro rfl (And.intro (v_1 h7) (Exists.intro _ (And.intro rfl (And.intro (v_2 h7) (Exists.intro _ (And.intro rfl (And.intro (v_3 h7) (⟨_, _, ⟨by decide, by decide, rk hk, rn hn⟩, k_turn _ _ _, ?_⟩))))))))))
  rintro h w ⟨⟨S1, rfl⟩, rfl⟩
  refine Exists.intro _ (And.intro rfl (And.intro (v_1 h7) (Exists.intro _ (And.intro rfl (And.intro (v_2 h7) (Exists.intro _ (And.intro rfl (And.intro (v_3 h7) (⟨_, _, ⟨by decide, by decide, rk hk, rn hn⟩, f_turn hM _ _ _, ?_⟩)))))))))
  rintro h w rfl
  exact brT rfl (law_fin h7 _ _ _)
set_option maxRecDepth 100000 in
theorem law_9 (h7 : sc.length = 7) (hM : FM M) (hk : k ≤ 1000) (hn : n ≤ 100000) : WP l room_1 [soInL, sc] sgL_law kL_law qL 286 lL [] (mk CS0 M) k n := by
  refine run_sound okL_law cutL 100 (Exists.intro _ (And.intro rfl (And.intro (v_1 h7) (Exists.intro _ (And.intro rfl (And.intro (v_2 h7) (⟨_, _, ⟨by decide, by decide, rk hk, rn hn⟩, k_told _ _, ?_⟩)))))))
  rintro h w ⟨⟨S1, rfl⟩, rfl⟩
  refine Exists.intro _ (And.intro rfl (And.intro (v_1 h7) (Exists.intro _ (And.intro rfl (And.intro (v_2 h7) (⟨_, _, ⟨by decide, by decide, rk hk, rn hn⟩, f_told hM _ _, ?_⟩))))))
  rintro h w rfl
  exact brT rfl (law_fin h7 _ _ _)
set_option maxRecDepth 100000 in
theorem law_10 (h7 : sc.length = 7) (hM : FM M) (hk : k ≤ 1000) (hn : n ≤ 100000) : WP l room_1 [soInL, sc] sgL_law kL_law qL 313 lL [] (mk CS0 M) k n := by
  refine run_sound okL_law cutL 100 (Exists.intro _ (And.intro rfl (And.intro (v_1 h7) (Exists.intro _ (And.intro rfl (And.intro (v_2 h7) (Exists.intro _ (And.intro rfl (And.intro (v_3 h7) (⟨_, _, ⟨by decide, by decide, rk hk, rn hn⟩, k_say _ _ _, ?_⟩))))))))))
  rintro h w ⟨⟨S1, rfl⟩, rfl⟩
  refine Exists.intro _ (And.intro rfl (And.intro (v_1 h7) (Exists.intro _ (And.intro rfl (And.intro (v_2 h7) (Exists.intro _ (And.intro rfl (And.intro (v_3 h7) (⟨_, _, ⟨by decide, by decide, rk hk, rn hn⟩, f_say hM _ _ _, ?_⟩)))))))))
  rintro h w rfl
  exact brT rfl (law_fin h7 _ _ _)
set_option maxRecDepth 100000 in
theorem law_11 (h7 : sc.length = 7) (hM : FM M) (hk : k ≤ 1000) (hn : n ≤ 100000) : WP l room_1 [soInL, sc] sgL_law kL_law qL 350 lL [] (mk CS0 M) k n := by
  refine run_sound okL_law cutL 100 (⟨_, _, ⟨by decide, by decide, rk hk, rn hn⟩, k_unsay, ?_⟩)
  rintro h w ⟨⟨S1, rfl⟩, rfl⟩
  refine ⟨_, _, ⟨by decide, by decide, rk hk, rn hn⟩, f_unsay hM, ?_⟩
  rintro h w rfl
  exact brT rfl (law_fin h7 _ _ _)
set_option maxRecDepth 100000 in
theorem law_12 (h7 : sc.length = 7) (hM : FM M) (hk : k ≤ 1000) (hn : n ≤ 100000) : WP l room_1 [soInL, sc] sgL_law kL_law qL 357 lL [] (mk CS0 M) k n := by
  refine run_sound okL_law cutL 100 (Exists.intro _ (And.intro rfl (And.intro (v_1 h7) (Exists.intro _ (And.intro rfl (And.intro (v_2 h7) (⟨_, _, ⟨by decide, by decide, rk hk, rn hn⟩, k_said _ _, ?_⟩)))))))
  rintro h w ⟨⟨S1, rfl⟩, rfl⟩
  refine Exists.intro _ (And.intro rfl (And.intro (v_1 h7) (Exists.intro _ (And.intro rfl (And.intro (v_2 h7) (⟨_, _, ⟨by decide, by decide, rk hk, rn hn⟩, f_said hM _ _, ?_⟩))))))
  rintro h w rfl
  exact brT rfl (law_fin h7 _ _ _)
set_option maxRecDepth 100000 in
theorem law_13 (h7 : sc.length = 7) (hM : FM M) (hk : k ≤ 1000) (hn : n ≤ 100000) : WP l room_1 [soInL, sc] sgL_law kL_law qL 384 lL [] (mk CS0 M) k n := by
  refine run_sound okL_law cutL 100 (⟨_, _, ⟨by decide, by decide, rk hk, rn hn⟩, k_worlds, ?_⟩)
  rintro h w ⟨⟨S1, rfl⟩, rfl⟩
  refine ⟨_, _, ⟨by decide, by decide, rk hk, rn hn⟩, f_worlds hM, ?_⟩
  rintro h w rfl
  exact brT (lg_cmp0.mpr rfl) (law_fin h7 _ _ _)
set_option maxRecDepth 100000 in
theorem law_14 (h7 : sc.length = 7) (hM : FM M) (hk : k ≤ 1000) (hn : n ≤ 100000) : WP l room_1 [soInL, sc] sgL_law kL_law qL 392 lL [] (mk CS0 M) k n := by
  refine run_sound okL_law cutL 100 (Exists.intro _ (And.intro rfl (And.intro (v_1 h7) (Exists.intro _ (And.intro rfl (And.intro (v_2 h7) (⟨_, _, ⟨by decide, by decide, rk hk, rn hn⟩, k_behind rfl _ _, ?_⟩)))))))
  rintro h w ⟨⟨S1, rfl⟩, rfl⟩
  refine Exists.intro _ (And.intro rfl (And.intro (v_1 h7) (Exists.intro _ (And.intro rfl (And.intro (v_2 h7) (⟨_, _, ⟨by decide, by decide, rk hk, rn hn⟩, f_behind hM _ _, ?_⟩))))))
  rintro h w rfl
  exact brT rfl (law_fin h7 _ _ _)
set_option maxRecDepth 100000 in
theorem law_15 (h7 : sc.length = 7) (hM : FM M) (hk : k ≤ 1000) (hn : n ≤ 100000) : WP l room_1 [soInL, sc] sgL_law kL_law qL 419 lL [] (mk CS0 M) k n := by
  refine run_sound okL_law cutL 100 (⟨_, _, ⟨by decide, by decide, rk hk, rn hn⟩, k_cannot, ?_⟩)
  rintro h w ⟨⟨S1, rfl⟩, rfl⟩
  refine ⟨_, _, ⟨by decide, by decide, rk hk, rn hn⟩, f_cannot hM, ?_⟩
  rintro h w rfl
  exact brT rfl (law_fin h7 _ _ _)
set_option maxRecDepth 100000 in
theorem law_16 (h7 : sc.length = 7) (hM : FM M) (hk : k ≤ 1000) (hn : n ≤ 100000) : WP l room_1 [soInL, sc] sgL_law kL_law qL 426 lL [] (mk CS0 M) k n := by
  refine run_sound okL_law cutL 100 (⟨_, _, ⟨by decide, by decide, rk hk, rn hn⟩, k_lies, ?_⟩)
  rintro h w ⟨⟨S1, rfl⟩, rfl⟩
  refine ⟨_, _, ⟨by decide, by decide, rk hk, rn hn⟩, f_lies hM, ?_⟩
  rintro h w rfl
  exact brT rfl (law_fin h7 _ _ _)
set_option maxRecDepth 100000 in
theorem law_17 (h7 : sc.length = 7) (hM : FM M) (hk : k ≤ 1000) (hn : n ≤ 100000) : WP l room_1 [soInL, sc] sgL_law kL_law qL 433 lL [] (mk CS0 M) k n := by
  refine run_sound okL_law cutL 100 (Exists.intro _ (And.intro rfl (And.intro (v_1 h7) (⟨_, _, ⟨by decide, by decide, rk hk, rn hn⟩, k_least _, ?_⟩))))
  rintro h w ⟨⟨S1, rfl⟩, rfl⟩
  refine Exists.intro _ (And.intro rfl (And.intro (v_1 h7) (⟨_, _, ⟨by decide, by decide, rk hk, rn hn⟩, f_least hM _, ?_⟩)))
  rintro h w rfl
  exact brT rfl (law_fin h7 _ _ _)
set_option maxRecDepth 100000 in
theorem law_18 (h7 : sc.length = 7) (hM : FM M) (hk : k ≤ 1000) (hn : n ≤ 100000) : WP l room_1 [soInL, sc] sgL_law kL_law qL 450 lL [] (mk CS0 M) k n := by
  refine run_sound okL_law cutL 100 (Exists.intro _ (And.intro rfl (And.intro (v_1 h7) (⟨_, _, ⟨by decide, by decide, rk hk, rn hn⟩, k_mad _, ?_⟩))))
  rintro h w ⟨⟨S1, rfl⟩, rfl⟩
  refine Exists.intro _ (And.intro rfl (And.intro (v_1 h7) (⟨_, _, ⟨by decide, by decide, rk hk, rn hn⟩, f_mad hM _, ?_⟩)))
  rintro h w rfl
  exact brT rfl (law_fin h7 _ _ _)
set_option maxRecDepth 100000 in
theorem law_19 (h7 : sc.length = 7) (hM : FM M) (hk : k ≤ 1000) (hn : n ≤ 100000) : WP l room_1 [soInL, sc] sgL_law kL_law qL 467 lL [] (mk CS0 M) k n := by
  refine run_sound okL_law cutL 100 (Exists.intro _ (And.intro rfl (And.intro (v_1 h7) (Exists.intro _ (And.intro rfl (And.intro (v_2 h7) (Exists.intro _ (And.intro rfl (And.intro (v_3 h7) (⟨_, _, ⟨by decide, by decide, rk hk, rn hn⟩, k_habit _ _ _, ?_⟩))))))))))
  rintro h w ⟨⟨S1, rfl⟩, rfl⟩
  refine Exists.intro _ (And.intro rfl (And.intro (v_1 h7) (Exists.intro _ (And.intro rfl (And.intro (v_2 h7) (Exists.intro _ (And.intro rfl (And.intro (v_3 h7) (⟨_, _, ⟨by decide, by decide, rk hk, rn hn⟩, f_habit hM _ _ _, ?_⟩)))))))))
  rintro h w rfl
  exact brT (lg_cmp0.mpr rfl) (law_fin h7 _ _ _)
set_option maxRecDepth 100000 in
theorem law_20 (h7 : sc.length = 7) (hM : FM M) (hk : k ≤ 1000) (hn : n ≤ 100000) : WP l room_1 [soInL, sc] sgL_law kL_law qL 505 lL [] (mk CS0 M) k n := by
  refine run_sound okL_law cutL 100 (Exists.intro _ (And.intro rfl (And.intro (v_1 h7) (Exists.intro _ (And.intro rfl (And.intro (v_2 h7) (⟨_, _, ⟨by decide, by decide, rk hk, rn hn⟩, k_kinds _ _, ?_⟩)))))))
  rintro h w ⟨⟨S1, rfl⟩, rfl⟩
  refine Exists.intro _ (And.intro rfl (And.intro (v_1 h7) (Exists.intro _ (And.intro rfl (And.intro (v_2 h7) (⟨_, _, ⟨by decide, by decide, rk hk, rn hn⟩, f_kinds hM _ _, ?_⟩))))))
  rintro h w rfl
  exact brT rfl (law_fin h7 _ _ _)
set_option maxRecDepth 100000 in
theorem law_21 (h7 : sc.length = 7) (hM : FM M) (hk : k ≤ 1000) (hn : n ≤ 100000) : WP l room_1 [soInL, sc] sgL_law kL_law qL 532 lL [] (mk CS0 M) k n := by
  refine run_sound okL_law cutL 100 (Exists.intro _ (And.intro rfl (And.intro (v_1 h7) (⟨_, _, ⟨by decide, by decide, rk hk, rn hn⟩, k_ask _, ?_⟩))))
  rintro h w ⟨⟨S1, rfl⟩, rfl⟩
  refine Exists.intro _ (And.intro rfl (And.intro (v_1 h7) (⟨_, _, ⟨by decide, by decide, rk hk, rn hn⟩, f_ask hM _, ?_⟩)))
  rintro h w rfl
  exact brT rfl (law_fin h7 _ _ _)
set_option maxRecDepth 100000 in
theorem law_22 (h7 : sc.length = 7) (hM : FM M) (hk : k ≤ 1000) (hn : n ≤ 100000) : WP l room_1 [soInL, sc] sgL_law kL_law qL 549 lL [] (mk CS0 M) k n := by
  refine run_sound okL_law cutL 100 (Exists.intro _ (And.intro rfl (And.intro (v_1 h7) (⟨_, _, ⟨by decide, by decide, rk hk, rn hn⟩, k_two _, ?_⟩))))
  rintro h w ⟨⟨S1, rfl⟩, rfl⟩
  refine Exists.intro _ (And.intro rfl (And.intro (v_1 h7) (⟨_, _, ⟨by decide, by decide, rk hk, rn hn⟩, f_two hM _, ?_⟩)))
  rintro h w rfl
  exact brT rfl (law_fin h7 _ _ _)
set_option maxRecDepth 100000 in
theorem law_23 (h7 : sc.length = 7) (hM : FM M) (hk : k ≤ 1000) (hn : n ≤ 100000) : WP l room_1 [soInL, sc] sgL_law kL_law qL 566 lL [] (mk CS0 M) k n := by
  refine run_sound okL_law cutL 100 (Exists.intro _ (And.intro rfl (And.intro (v_1 h7) (Exists.intro _ (And.intro rfl (And.intro (v_2 h7) (Exists.intro _ (And.intro rfl (And.intro (v_3 h7) (⟨_, _, ⟨by decide, by decide, rk hk, rn hn⟩, k_parts _ _ _, ?_⟩))))))))))
  rintro h w ⟨⟨S1, rfl⟩, rfl⟩
  refine Exists.intro _ (And.intro rfl (And.intro (v_1 h7) (Exists.intro _ (And.intro rfl (And.intro (v_2 h7) (Exists.intro _ (And.intro rfl (And.intro (v_3 h7) (⟨_, _, ⟨by decide, by decide, rk hk, rn hn⟩, f_parts hM _ _ _, ?_⟩)))))))))
  rintro h w rfl
  exact brT (lg_cmp0.mpr rfl) (law_fin h7 _ _ _)
set_option maxRecDepth 100000 in
theorem law_24 (h7 : sc.length = 7) (hM : FM M) (hk : k ≤ 1000) (hn : n ≤ 100000) : WP l room_1 [soInL, sc] sgL_law kL_law qL 604 lL [] (mk CS0 M) k n := by
  refine run_sound okL_law cutL 100 (Exists.intro _ (And.intro rfl (And.intro (v_1 h7) (Exists.intro _ (And.intro rfl (And.intro (v_2 h7) (Exists.intro _ (And.intro rfl (And.intro (v_3 h7) (⟨_, _, ⟨by decide, by decide, rk hk, rn hn⟩, k_hide _ _ _, ?_⟩))))))))))
  rintro h w ⟨⟨S1, rfl⟩, rfl⟩
  refine Exists.intro _ (And.intro rfl (And.intro (v_1 h7) (Exists.intro _ (And.intro rfl (And.intro (v_2 h7) (Exists.intro _ (And.intro rfl (And.intro (v_3 h7) (⟨_, _, ⟨by decide, by decide, rk hk, rn hn⟩, f_hide hM _ _ _, ?_⟩)))))))))
  rintro h w rfl
  exact brT rfl (law_fin h7 _ _ _)
set_option maxRecDepth 100000 in
theorem law_25 (h7 : sc.length = 7) (hM : FM M) (hk : k ≤ 1000) (hn : n ≤ 100000) : WP l room_1 [soInL, sc] sgL_law kL_law qL 641 lL [] (mk CS0 M) k n := by
  refine run_sound okL_law cutL 100 (Exists.intro _ (And.intro rfl (And.intro (v_1 h7) (Exists.intro _ (And.intro rfl (And.intro (v_2 h7) (Exists.intro _ (And.intro rfl (And.intro (v_3 h7) (⟨_, _, ⟨by decide, by decide, rk hk, rn hn⟩, k_same _ _ _, ?_⟩))))))))))
  rintro h w ⟨⟨S1, rfl⟩, rfl⟩
  refine Exists.intro _ (And.intro rfl (And.intro (v_1 h7) (Exists.intro _ (And.intro rfl (And.intro (v_2 h7) (Exists.intro _ (And.intro rfl (And.intro (v_3 h7) (⟨_, _, ⟨by decide, by decide, rk hk, rn hn⟩, f_same hM _ _ _, ?_⟩)))))))))
  rintro h w rfl
  exact brT rfl (law_fin h7 _ _ _)
set_option maxRecDepth 100000 in
theorem law_26 (h7 : sc.length = 7) (hM : FM M) (hk : k ≤ 1000) (hn : n ≤ 100000) : WP l room_1 [soInL, sc] sgL_law kL_law qL 678 lL [] (mk CS0 M) k n := by
  refine run_sound okL_law cutL 100 (Exists.intro _ (And.intro rfl (And.intro (v_1 h7) (⟨_, _, ⟨by decide, by decide, rk hk, rn hn⟩, k_claims _, ?_⟩))))
  rintro h w ⟨⟨S1, rfl⟩, rfl⟩
  refine Exists.intro _ (And.intro rfl (And.intro (v_1 h7) (⟨_, _, ⟨by decide, by decide, rk hk, rn hn⟩, f_claims hM _, ?_⟩)))
  rintro h w rfl
  exact brT rfl (law_fin h7 _ _ _)
set_option maxRecDepth 100000 in
theorem law_27 (h7 : sc.length = 7) (hM : FM M) (hk : k ≤ 1000) (hn : n ≤ 100000) : WP l room_1 [soInL, sc] sgL_law kL_law qL 695 lL [] (mk CS0 M) k n := by
  refine run_sound okL_law cutL 100 (Exists.intro _ (And.intro rfl (And.intro (v_1 h7) (⟨_, _, ⟨by decide, by decide, rk hk, rn hn⟩, k_settle _, ?_⟩))))
  rintro h w ⟨⟨S1, rfl⟩, rfl⟩
  refine Exists.intro _ (And.intro rfl (And.intro (v_1 h7) (⟨_, _, ⟨by decide, by decide, rk hk, rn hn⟩, f_settle hM _, ?_⟩)))
  rintro h w rfl
  exact brT rfl (law_fin h7 _ _ _)
set_option maxRecDepth 100000 in
theorem law_28 (h7 : sc.length = 7) (hM : FM M) (hk : k ≤ 1000) (hn : n ≤ 100000) : WP l room_1 [soInL, sc] sgL_law kL_law qL 712 lL [] (mk CS0 M) k n := by
  refine run_sound okL_law cutL 100 (Exists.intro _ (And.intro rfl (And.intro (v_1 h7) (Exists.intro _ (And.intro rfl (And.intro (v_2 h7) (Exists.intro _ (And.intro rfl (And.intro (v_3 h7) (⟨_, _, ⟨by decide, by decide, rk hk, rn hn⟩, k_thrice _ _ _, ?_⟩))))))))))
  rintro h w ⟨⟨S1, rfl⟩, rfl⟩
  refine Exists.intro _ (And.intro rfl (And.intro (v_1 h7) (Exists.intro _ (And.intro rfl (And.intro (v_2 h7) (Exists.intro _ (And.intro rfl (And.intro (v_3 h7) (⟨_, _, ⟨by decide, by decide, rk hk, rn hn⟩, f_thrice hM _ _ _, ?_⟩)))))))))
  rintro h w rfl
  exact brT (lg_cmp0.mpr rfl) (law_fin h7 _ _ _)
set_option maxRecDepth 100000 in
theorem law_29 (h7 : sc.length = 7) (hM : FM M) (hk : k ≤ 1000) (hn : n ≤ 100000) : WP l room_1 [soInL, sc] sgL_law kL_law qL 750 lL [] (mk CS0 M) k n := by
  refine run_sound okL_law cutL 100 (Exists.intro _ (And.intro rfl (And.intro (v_1 h7) (⟨_, _, ⟨by decide, by decide, rk hk, rn hn⟩, k_many _, ?_⟩))))
  rintro h w ⟨⟨S1, rfl⟩, rfl⟩
  refine Exists.intro _ (And.intro rfl (And.intro (v_1 h7) (⟨_, _, ⟨by decide, by decide, rk hk, rn hn⟩, f_many hM _, ?_⟩)))
  rintro h w rfl
  exact brT rfl (law_fin h7 _ _ _)
set_option maxRecDepth 100000 in
theorem law_30 (h7 : sc.length = 7) (hM : FM M) (hk : k ≤ 1000) (hn : n ≤ 100000) : WP l room_1 [soInL, sc] sgL_law kL_law qL 767 lL [] (mk CS0 M) k n := by
  refine run_sound okL_law cutL 100 (Exists.intro _ (And.intro rfl (And.intro (v_1 h7) (Exists.intro _ (And.intro rfl (And.intro (v_2 h7) (⟨_, _, ⟨by decide, by decide, rk hk, rn hn⟩, k_judge _ _, ?_⟩)))))))
  rintro h w ⟨⟨S1, rfl⟩, rfl⟩
  refine Exists.intro _ (And.intro rfl (And.intro (v_1 h7) (Exists.intro _ (And.intro rfl (And.intro (v_2 h7) (⟨_, _, ⟨by decide, by decide, rk hk, rn hn⟩, f_judge hM _ _, ?_⟩))))))
  rintro h w rfl
  exact brT rfl (law_fin h7 _ _ _)
set_option maxRecDepth 100000 in
theorem law_31 (h7 : sc.length = 7) (hM : FM M) (hk : k ≤ 1000) (hn : n ≤ 100000) : WP l room_1 [soInL, sc] sgL_law kL_law qL 794 lL [] (mk CS0 M) k n := by
  refine run_sound okL_law cutL 100 (Exists.intro _ (And.intro rfl (And.intro (v_1 h7) (⟨_, _, ⟨by decide, by decide, rk hk, rn hn⟩, k_film _, ?_⟩))))
  rintro h w ⟨⟨S1, rfl⟩, rfl⟩
  refine Exists.intro _ (And.intro rfl (And.intro (v_1 h7) (⟨_, _, ⟨by decide, by decide, rk hk, rn hn⟩, f_film hM _, ?_⟩)))
  rintro h w rfl
  exact brT rfl (law_fin h7 _ _ _)
set_option maxRecDepth 100000 in
theorem law_32 (h7 : sc.length = 7) (hM : FM M) (hk : k ≤ 1000) (hn : n ≤ 100000) : WP l room_1 [soInL, sc] sgL_law kL_law qL 811 lL [] (mk CS0 M) k n := by
  refine run_sound okL_law cutL 100 (Exists.intro _ (And.intro rfl (And.intro (v_1 h7) (⟨_, _, ⟨by decide, by decide, rk hk, rn hn⟩, k_drawn _, ?_⟩))))
  rintro h w ⟨⟨S1, rfl⟩, rfl⟩
  refine Exists.intro _ (And.intro rfl (And.intro (v_1 h7) (⟨_, _, ⟨by decide, by decide, rk hk, rn hn⟩, f_drawn hM _, ?_⟩)))
  rintro h w rfl
  exact brT rfl (law_fin h7 _ _ _)
set_option maxRecDepth 100000 in
theorem law_33 (h7 : sc.length = 7) (hM : FM M) (hk : k ≤ 1000) (hn : n ≤ 100000) : WP l room_1 [soInL, sc] sgL_law kL_law qL 828 lL [] (mk CS0 M) k n := by
  refine run_sound okL_law cutL 100 (Exists.intro _ (And.intro rfl (And.intro (v_1 h7) (Exists.intro _ (And.intro rfl (And.intro (v_2 h7) (Exists.intro _ (And.intro rfl (And.intro (v_3 h7) (⟨_, _, ⟨by decide, by decide, rk hk, rn hn⟩, k_mean _ _ _, ?_⟩))))))))))
  rintro h w ⟨⟨S1, rfl⟩, rfl⟩
  refine Exists.intro _ (And.intro rfl (And.intro (v_1 h7) (Exists.intro _ (And.intro rfl (And.intro (v_2 h7) (Exists.intro _ (And.intro rfl (And.intro (v_3 h7) (⟨_, _, ⟨by decide, by decide, rk hk, rn hn⟩, f_mean hM _ _ _, ?_⟩)))))))))
  rintro h w rfl
  exact brT (lg_cmp0.mpr rfl) (law_fin h7 _ _ _)
set_option maxRecDepth 100000 in
theorem law_34 (h7 : sc.length = 7) (hM : FM M) (hk : k ≤ 1000) (hn : n ≤ 100000) : WP l room_1 [soInL, sc] sgL_law kL_law qL 866 lL [] (mk CS0 M) k n := by
  refine run_sound okL_law cutL 100 (⟨_, _, ⟨by decide, by decide, rk hk, rn hn⟩, k_image, ?_⟩)
  rintro h w ⟨⟨S1, rfl⟩, rfl⟩
  refine ⟨_, _, ⟨by decide, by decide, rk hk, rn hn⟩, f_image hM, ?_⟩
  rintro h w rfl
  exact brT rfl (law_fin h7 _ _ _)
set_option maxRecDepth 100000 in
theorem law_35 (h7 : sc.length = 7) (hM : FM M) (hk : k ≤ 1000) (hn : n ≤ 100000) : WP l room_1 [soInL, sc] sgL_law kL_law qL 873 lL [] (mk CS0 M) k n := by
  refine run_sound okL_law cutL 100 (⟨_, _, ⟨by decide, by decide, rk hk, rn hn⟩, k_back, ?_⟩)
  rintro h w ⟨⟨S1, rfl⟩, rfl⟩
  refine ⟨_, _, ⟨by decide, by decide, rk hk, rn hn⟩, f_back hM, ?_⟩
  rintro h w rfl
  exact brT rfl (law_fin h7 _ _ _)
set_option maxRecDepth 100000 in
theorem law_36 (h7 : sc.length = 7) (hM : FM M) (hk : k ≤ 1000) (hn : n ≤ 100000) : WP l room_1 [soInL, sc] sgL_law kL_law qL 880 lL [] (mk CS0 M) k n := by
  refine run_sound okL_law cutL 100 (Exists.intro _ (And.intro rfl (And.intro (v_1 h7) (Exists.intro _ (And.intro rfl (And.intro (v_2 h7) (Exists.intro _ (And.intro rfl (And.intro (v_3 h7) (⟨_, _, ⟨by decide, by decide, rk hk, rn hn⟩, c_sheet CS0_len _ _ _, ?_⟩))))))))))
  rintro h w ⟨⟨S1, rfl⟩, rfl⟩
  refine Exists.intro _ (And.intro rfl (And.intro (v_1 h7) (Exists.intro _ (And.intro rfl (And.intro (v_2 h7) (Exists.intro _ (And.intro rfl (And.intro (v_3 h7) (⟨_, _, ⟨by decide, by decide, rk hk, rn hn⟩, m_sheet hM.1 _ _ _, ?_⟩)))))))))
  rintro h w rfl
  exact brT rfl (law_fin h7 _ _ _)
set_option maxRecDepth 100000 in
theorem law_37 (h7 : sc.length = 7) (hM : FM M) (hk : k ≤ 1000) (hn : n ≤ 100000) : WP l room_1 [soInL, sc] sgL_law kL_law qL 917 lL [] (mk CS0 M) k n := by
  refine run_sound okL_law cutL 100 (Exists.intro _ (And.intro rfl (And.intro (v_1 h7) (Exists.intro _ (And.intro rfl (And.intro (v_2 h7) (Exists.intro _ (And.intro rfl (And.intro (v_3 h7) (⟨_, _, ⟨by decide, by decide, rk hk, rn hn⟩, k_cell _ _ _, ?_⟩))))))))))
  rintro h w ⟨⟨S1, rfl⟩, rfl⟩
  refine Exists.intro _ (And.intro rfl (And.intro (v_1 h7) (Exists.intro _ (And.intro rfl (And.intro (v_2 h7) (Exists.intro _ (And.intro rfl (And.intro (v_3 h7) (⟨_, _, ⟨by decide, by decide, rk hk, rn hn⟩, f_cell hM _ _ _, ?_⟩)))))))))
  rintro h w rfl
  exact brT rfl (law_fin h7 _ _ _)
set_option maxRecDepth 100000 in
theorem law_38 (h7 : sc.length = 7) (hM : FM M) (hk : k ≤ 1000) (hn : n ≤ 100000) : WP l room_1 [soInL, sc] sgL_law kL_law qL 954 lL [] (mk CS0 M) k n := by
  refine run_sound okL_law cutL 100 (Exists.intro _ (And.intro rfl (And.intro (v_1 h7) (Exists.intro _ (And.intro rfl (And.intro (v_2 h7) (Exists.intro _ (And.intro rfl (And.intro (v_3 h7) (Exists.intro _ (And.intro rfl (And.intro (v_4 h7) (Exists.intro _ (And.intro rfl (And.intro (v_5 h7) (⟨_, _, ⟨by decide, by decide, rk hk, rn hn⟩, k_copy _ _ _ _ _, ?_⟩))))))))))))))))
  rintro h w ⟨⟨S1, rfl⟩, rfl⟩
  refine Exists.intro _ (And.intro rfl (And.intro (v_1 h7) (Exists.intro _ (And.intro rfl (And.intro (v_2 h7) (Exists.intro _ (And.intro rfl (And.intro (v_3 h7) (Exists.intro _ (And.intro rfl (And.intro (v_4 h7) (Exists.intro _ (And.intro rfl (And.intro (v_5 h7) (⟨_, _, ⟨by decide, by decide, rk hk, rn hn⟩, f_copy hM _ _ _ _ _, ?_⟩)))))))))))))))
  rintro h w rfl
  exact brT rfl (law_fin h7 _ _ _)
set_option maxRecDepth 100000 in
theorem law_39 (h7 : sc.length = 7) (hM : FM M) (hk : k ≤ 1000) (hn : n ≤ 100000) : WP l room_1 [soInL, sc] sgL_law kL_law qL 1011 lL [] (mk CS0 M) k n := by
  refine run_sound okL_law cutL 100 (Exists.intro _ (And.intro rfl (And.intro (v_1 h7) (Exists.intro _ (And.intro rfl (And.intro (v_2 h7) (Exists.intro _ (And.intro rfl (And.intro (v_3 h7) (Exists.intro _ (And.intro rfl (And.intro (v_4 h7) (⟨_, _, ⟨by decide, by decide, rk hk, rn hn⟩, k_sayingsBy _ _ _ _, ?_⟩)))))))))))))
  rintro h w ⟨⟨S1, rfl⟩, rfl⟩
  refine Exists.intro _ (And.intro rfl (And.intro (v_1 h7) (Exists.intro _ (And.intro rfl (And.intro (v_2 h7) (Exists.intro _ (And.intro rfl (And.intro (v_3 h7) (Exists.intro _ (And.intro rfl (And.intro (v_4 h7) (⟨_, _, ⟨by decide, by decide, rk hk, rn hn⟩, f_sayingsBy hM _ _ _ _, ?_⟩))))))))))))
  rintro h w rfl
  exact brT rfl (law_fin h7 _ _ _)
set_option maxRecDepth 100000 in
theorem law_40 (h7 : sc.length = 7) (hM : FM M) (hk : k ≤ 1000) (hn : n ≤ 100000) : WP l room_1 [soInL, sc] sgL_law kL_law qL 1058 lL [] (mk CS0 M) k n := by
  refine run_sound okL_law cutL 100 (Exists.intro _ (And.intro rfl (And.intro (v_1 h7) (Exists.intro _ (And.intro rfl (And.intro (v_2 h7) (⟨_, _, ⟨by decide, by decide, rk hk, rn hn⟩, k_taken _ _, ?_⟩)))))))
  rintro h w ⟨⟨S1, rfl⟩, rfl⟩
  refine Exists.intro _ (And.intro rfl (And.intro (v_1 h7) (Exists.intro _ (And.intro rfl (And.intro (v_2 h7) (⟨_, _, ⟨by decide, by decide, rk hk, rn hn⟩, f_taken hM _ _, ?_⟩))))))
  rintro h w rfl
  exact brT rfl (law_fin h7 _ _ _)
set_option maxRecDepth 100000 in
theorem law_all (h7 : sc.length = 7) (hM : FM M) (hk : k ≤ 1000) (hn : n ≤ 100000) : WP l room_1 [soInL, sc] sgL_law kL_law qL 16 lL [] (mk CS0 M) k n := by
  refine run_sound okL_law cutL 100 (Exists.intro _ (And.intro rfl (And.intro (v_0 h7) ?_)))
  refine And.intro (fun _ => law_fin h7 _ _ _) ?_
  refine And.intro (fun _ => law_0 h7 hM hk hn) ?_
  refine And.intro (fun _ => law_1 h7 hM hk hn) ?_
  refine And.intro (fun _ => law_2 h7 hM hk hn) ?_
  refine And.intro (fun _ => law_3 h7 hM hk hn) ?_
  refine And.intro (fun _ => law_4 h7 hM hk hn) ?_
  refine And.intro (fun _ => law_5 h7 hM hk hn) ?_
  refine And.intro (fun _ => law_6 h7 hM hk hn) ?_
  refine And.intro (fun _ => law_7 h7 hM hk hn) ?_
  refine And.intro (fun _ => law_8 h7 hM hk hn) ?_
  refine And.intro (fun _ => law_9 h7 hM hk hn) ?_
  refine And.intro (fun _ => law_10 h7 hM hk hn) ?_
  refine And.intro (fun _ => law_11 h7 hM hk hn) ?_
  refine And.intro (fun _ => law_12 h7 hM hk hn) ?_
  refine And.intro (fun _ => law_13 h7 hM hk hn) ?_
  refine And.intro (fun _ => law_14 h7 hM hk hn) ?_
  refine And.intro (fun _ => law_15 h7 hM hk hn) ?_
  refine And.intro (fun _ => law_16 h7 hM hk hn) ?_
  refine And.intro (fun _ => law_17 h7 hM hk hn) ?_
  refine And.intro (fun _ => law_18 h7 hM hk hn) ?_
  refine And.intro (fun _ => law_19 h7 hM hk hn) ?_
  refine And.intro (fun _ => law_20 h7 hM hk hn) ?_
  refine And.intro (fun _ => law_21 h7 hM hk hn) ?_
  refine And.intro (fun _ => law_22 h7 hM hk hn) ?_
  refine And.intro (fun _ => law_23 h7 hM hk hn) ?_
  refine And.intro (fun _ => law_24 h7 hM hk hn) ?_
  refine And.intro (fun _ => law_25 h7 hM hk hn) ?_
  refine And.intro (fun _ => law_26 h7 hM hk hn) ?_
  refine And.intro (fun _ => law_27 h7 hM hk hn) ?_
  refine And.intro (fun _ => law_28 h7 hM hk hn) ?_
  refine And.intro (fun _ => law_29 h7 hM hk hn) ?_
  refine And.intro (fun _ => law_30 h7 hM hk hn) ?_
  refine And.intro (fun _ => law_31 h7 hM hk hn) ?_
  refine And.intro (fun _ => law_32 h7 hM hk hn) ?_
  refine And.intro (fun _ => law_33 h7 hM hk hn) ?_
  refine And.intro (fun _ => law_34 h7 hM hk hn) ?_
  refine And.intro (fun _ => law_35 h7 hM hk hn) ?_
  refine And.intro (fun _ => law_36 h7 hM hk hn) ?_
  refine And.intro (fun _ => law_37 h7 hM hk hn) ?_
  refine And.intro (fun _ => law_38 h7 hM hk hn) ?_
  refine And.intro (fun _ => law_39 h7 hM hk hn) ?_
  refine And.intro (fun _ => law_40 h7 hM hk hn) ?_
  exact trivial
end LAWP1
