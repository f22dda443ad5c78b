section CTORM2
variable {l : Launch} {X : List (List Int32)} {S : CS} {Q : AH → Option Value → Prop}
set_option maxRecDepth 100000 in
set_option maxHeartbeats 4000000 in
theorem ar_36 (h : WP l (rmD 5 18 2246) X sgX8_init kX8_init Q 53 [some (.ref 27), none] [.ref 36, .ref 27] (encC S ++ [AO 8 [.int 0, .ref 28, .ref 29, .int 0, .ref 30, .ref 31, .int 0, .ref 32, .ref 33, .int 0, .int 0, .int 0, .int 0, .int 0, .int 0, .ref 34, .ref 35, .null, .null, .null, .null, .int 0, .int 0, .int 0, .int 0, .null, .null, .int 0, .int 0, .int 0, .null, .null, .null, .null, .int 0, .int 0, .int 0], AI (z32 5), AI (z32 5), AI (z32 36), AI (z32 160), AI (z32 1200), AI (z32 24), AI (z32 10), AI (z32 36), AI ([-1, -1, -1, -1])]) 9 1480) : WP l (rmD 5 18 2246) X sgX8_init kX8_init Q 37 [some (.ref 27), none] [.ref 36, .ref 27] (encC S ++ [AO 8 [.int 0, .ref 28, .ref 29, .int 0, .ref 30, .ref 31, .int 0, .ref 32, .ref 33, .int 0, .int 0, .int 0, .int 0, .int 0, .int 0, .ref 34, .ref 35, .null, .null, .null, .null, .int 0, .int 0, .int 0, .int 0, .null, .null, .int 0, .int 0, .int 0, .null, .null, .null, .null, .int 0, .int 0, .int 0], AI (z32 5), AI (z32 5), AI (z32 36), AI (z32 160), AI (z32 1200), AI (z32 24), AI (z32 10), AI (z32 36), AI (z32 4)]) 9 1480 := by
  refine el_37 List.length_replicate (fun y0 h0 e0 => ?_)
  refine el_41 h0 (fun y1 h1 e1 => ?_)
  refine el_45 h1 (fun y2 h2 e2 => ?_)
  refine el_49 h2 (fun y3 h3 e3 => ?_)
  have e : y3 = ([-1, -1, -1, -1]) := by
    rw [e3, e2, e1, e0]
    decide +kernel
  rw [e]
  exact h
set_option maxRecDepth 100000 in
set_option maxHeartbeats 4000000 in
theorem ar_39 (h : WP l (rmD 5 18 2246) X sgX8_init kX8_init Q 177 [some (.ref 27), none] [.ref 39, .ref 27] (encC S ++ [AO 8 [.int 0, .ref 28, .ref 29, .int 0, .ref 30, .ref 31, .int 0, .ref 32, .ref 33, .int 0, .int 0, .int 0, .int 0, .int 0, .int 0, .ref 34, .ref 35, .ref 36, .ref 37, .ref 38, .null, .int 0, .int 0, .int 0, .int 0, .null, .null, .int 0, .int 0, .int 0, .null, .null, .null, .null, .int 0, .int 0, .int 0], AI (z32 5), AI (z32 5), AI (z32 36), AI (z32 160), AI (z32 1200), AI (z32 24), AI (z32 10), AI (z32 36), AI ([-1, -1, -1, -1]), AI (z32 4), AI (z32 160), AI ([111, 110, 99, 101, 32, 49, 32, 59, 32, 116, 119, 105, 99, 101, 32, 48, 32, 59, 32, 99, 111, 115, 116, 115, 32, 49, 32, 59])]) 12 1672) : WP l (rmD 5 18 2246) X sgX8_init kX8_init Q 65 [some (.ref 27), none] [.ref 39, .ref 27] (encC S ++ [AO 8 [.int 0, .ref 28, .ref 29, .int 0, .ref 30, .ref 31, .int 0, .ref 32, .ref 33, .int 0, .int 0, .int 0, .int 0, .int 0, .int 0, .ref 34, .ref 35, .ref 36, .ref 37, .ref 38, .null, .int 0, .int 0, .int 0, .int 0, .null, .null, .int 0, .int 0, .int 0, .null, .null, .null, .null, .int 0, .int 0, .int 0], AI (z32 5), AI (z32 5), AI (z32 36), AI (z32 160), AI (z32 1200), AI (z32 24), AI (z32 10), AI (z32 36), AI ([-1, -1, -1, -1]), AI (z32 4), AI (z32 160), AI (z32 28)]) 12 1672 := by
  refine el_65 List.length_replicate (fun y0 h0 e0 => ?_)
  refine el_69 h0 (fun y1 h1 e1 => ?_)
  refine el_73 h1 (fun y2 h2 e2 => ?_)
  refine el_77 h2 (fun y3 h3 e3 => ?_)
  refine el_81 h3 (fun y4 h4 e4 => ?_)
  refine el_85 h4 (fun y5 h5 e5 => ?_)
  refine el_89 h5 (fun y6 h6 e6 => ?_)
  refine el_93 h6 (fun y7 h7 e7 => ?_)
  refine el_97 h7 (fun y8 h8 e8 => ?_)
  refine el_101 h8 (fun y9 h9 e9 => ?_)
  refine el_105 h9 (fun y10 h10 e10 => ?_)
  refine el_109 h10 (fun y11 h11 e11 => ?_)
  refine el_113 h11 (fun y12 h12 e12 => ?_)
  refine el_117 h12 (fun y13 h13 e13 => ?_)
  refine el_121 h13 (fun y14 h14 e14 => ?_)
  refine el_125 h14 (fun y15 h15 e15 => ?_)
  refine el_129 h15 (fun y16 h16 e16 => ?_)
  refine el_133 h16 (fun y17 h17 e17 => ?_)
  refine el_137 h17 (fun y18 h18 e18 => ?_)
  refine el_141 h18 (fun y19 h19 e19 => ?_)
  refine el_145 h19 (fun y20 h20 e20 => ?_)
  refine el_149 h20 (fun y21 h21 e21 => ?_)
  refine el_153 h21 (fun y22 h22 e22 => ?_)
  refine el_157 h22 (fun y23 h23 e23 => ?_)
  refine el_161 h23 (fun y24 h24 e24 => ?_)
  refine el_165 h24 (fun y25 h25 e25 => ?_)
  refine el_169 h25 (fun y26 h26 e26 => ?_)
  refine el_173 h26 (fun y27 h27 e27 => ?_)
  have e : y27 = ([111, 110, 99, 101, 32, 49, 32, 59, 32, 116, 119, 105, 99, 101, 32, 48, 32, 59, 32, 99, 111, 115, 116, 115, 32, 49, 32, 59]) := by
    rw [e27, e26, e25, e24, e23, e22, e21, e20, e19, e18, e17, e16, e15, e14, e13, e12, e11, e10, e9, e8, e7, e6, e5, e4, e3, e2, e1, e0]
    decide +kernel
  rw [e]
  exact h
set_option maxRecDepth 100000 in
set_option maxHeartbeats 4000000 in
theorem ar_40 (h : WP l (rmD 5 18 2246) X sgX8_init kX8_init Q 565 [some (.ref 27), none] [.ref 40, .ref 27] (encC S ++ [AO 8 [.int 0, .ref 28, .ref 29, .int 0, .ref 30, .ref 31, .int 0, .ref 32, .ref 33, .int 0, .int 0, .int 0, .int 0, .int 0, .int 0, .ref 34, .ref 35, .ref 36, .ref 37, .ref 38, .ref 39, .int 0, .int 0, .int 0, .int 0, .null, .null, .int 0, .int 0, .int 0, .null, .null, .null, .null, .int 0, .int 0, .int 0], AI (z32 5), AI (z32 5), AI (z32 36), AI (z32 160), AI (z32 1200), AI (z32 24), AI (z32 10), AI (z32 36), AI ([-1, -1, -1, -1]), AI (z32 4), AI (z32 160), AI ([111, 110, 99, 101, 32, 49, 32, 59, 32, 116, 119, 105, 99, 101, 32, 48, 32, 59, 32, 99, 111, 115, 116, 115, 32, 49, 32, 59]), AI ([111, 110, 99, 101, 32, 32, 32, 32, 116, 119, 105, 99, 101, 32, 32, 32, 99, 111, 115, 116, 115, 32, 32, 32, 97, 32, 32, 32, 32, 32, 32, 32, 98, 32, 32, 32, 32, 32, 32, 32, 99, 32, 32, 32, 32, 32, 32, 32, 100, 32, 32, 32, 32, 32, 32, 32, 101, 32, 32, 32, 32, 32, 32, 32, 119, 104, 111, 32, 32, 32, 32, 32, 111, 114, 32, 32, 32, 32, 32, 32, 97, 110, 100, 32, 32, 32, 32, 32, 110, 111, 116, 32, 32, 32, 32, 32])]) 13 1768) : WP l (rmD 5 18 2246) X sgX8_init kX8_init Q 181 [some (.ref 27), none] [.ref 40, .ref 27] (encC S ++ [AO 8 [.int 0, .ref 28, .ref 29, .int 0, .ref 30, .ref 31, .int 0, .ref 32, .ref 33, .int 0, .int 0, .int 0, .int 0, .int 0, .int 0, .ref 34, .ref 35, .ref 36, .ref 37, .ref 38, .ref 39, .int 0, .int 0, .int 0, .int 0, .null, .null, .int 0, .int 0, .int 0, .null, .null, .null, .null, .int 0, .int 0, .int 0], AI (z32 5), AI (z32 5), AI (z32 36), AI (z32 160), AI (z32 1200), AI (z32 24), AI (z32 10), AI (z32 36), AI ([-1, -1, -1, -1]), AI (z32 4), AI (z32 160), AI ([111, 110, 99, 101, 32, 49, 32, 59, 32, 116, 119, 105, 99, 101, 32, 48, 32, 59, 32, 99, 111, 115, 116, 115, 32, 49, 32, 59]), AI (z32 96)]) 13 1768 := by
  refine el_181 List.length_replicate (fun y0 h0 e0 => ?_)
  refine el_185 h0 (fun y1 h1 e1 => ?_)
  refine el_189 h1 (fun y2 h2 e2 => ?_)
  refine el_193 h2 (fun y3 h3 e3 => ?_)
  refine el_197 h3 (fun y4 h4 e4 => ?_)
  refine el_201 h4 (fun y5 h5 e5 => ?_)
  refine el_205 h5 (fun y6 h6 e6 => ?_)
  refine el_209 h6 (fun y7 h7 e7 => ?_)
  refine el_213 h7 (fun y8 h8 e8 => ?_)
  refine el_217 h8 (fun y9 h9 e9 => ?_)
  refine el_221 h9 (fun y10 h10 e10 => ?_)
  refine el_225 h10 (fun y11 h11 e11 => ?_)
  refine el_229 h11 (fun y12 h12 e12 => ?_)
  refine el_233 h12 (fun y13 h13 e13 => ?_)
  refine el_237 h13 (fun y14 h14 e14 => ?_)
  refine el_241 h14 (fun y15 h15 e15 => ?_)
  refine el_245 h15 (fun y16 h16 e16 => ?_)
  refine el_249 h16 (fun y17 h17 e17 => ?_)
  refine el_253 h17 (fun y18 h18 e18 => ?_)
  refine el_257 h18 (fun y19 h19 e19 => ?_)
  refine el_261 h19 (fun y20 h20 e20 => ?_)
  refine el_265 h20 (fun y21 h21 e21 => ?_)
  refine el_269 h21 (fun y22 h22 e22 => ?_)
  refine el_273 h22 (fun y23 h23 e23 => ?_)
  refine el_277 h23 (fun y24 h24 e24 => ?_)
  refine el_281 h24 (fun y25 h25 e25 => ?_)
  refine el_285 h25 (fun y26 h26 e26 => ?_)
  refine el_289 h26 (fun y27 h27 e27 => ?_)
  refine el_293 h27 (fun y28 h28 e28 => ?_)
  refine el_297 h28 (fun y29 h29 e29 => ?_)
  refine el_301 h29 (fun y30 h30 e30 => ?_)
  refine el_305 h30 (fun y31 h31 e31 => ?_)
  refine el_309 h31 (fun y32 h32 e32 => ?_)
  refine el_313 h32 (fun y33 h33 e33 => ?_)
  refine el_317 h33 (fun y34 h34 e34 => ?_)
  refine el_321 h34 (fun y35 h35 e35 => ?_)
  refine el_325 h35 (fun y36 h36 e36 => ?_)
  refine el_329 h36 (fun y37 h37 e37 => ?_)
  refine el_333 h37 (fun y38 h38 e38 => ?_)
  refine el_337 h38 (fun y39 h39 e39 => ?_)
  refine el_341 h39 (fun y40 h40 e40 => ?_)
  refine el_345 h40 (fun y41 h41 e41 => ?_)
  refine el_349 h41 (fun y42 h42 e42 => ?_)
  refine el_353 h42 (fun y43 h43 e43 => ?_)
  refine el_357 h43 (fun y44 h44 e44 => ?_)
  refine el_361 h44 (fun y45 h45 e45 => ?_)
  refine el_365 h45 (fun y46 h46 e46 => ?_)
  refine el_369 h46 (fun y47 h47 e47 => ?_)
  refine el_373 h47 (fun y48 h48 e48 => ?_)
  refine el_377 h48 (fun y49 h49 e49 => ?_)
  refine el_381 h49 (fun y50 h50 e50 => ?_)
  refine el_385 h50 (fun y51 h51 e51 => ?_)
  refine el_389 h51 (fun y52 h52 e52 => ?_)
  refine el_393 h52 (fun y53 h53 e53 => ?_)
  refine el_397 h53 (fun y54 h54 e54 => ?_)
  refine el_401 h54 (fun y55 h55 e55 => ?_)
  refine el_405 h55 (fun y56 h56 e56 => ?_)
  refine el_409 h56 (fun y57 h57 e57 => ?_)
  refine el_413 h57 (fun y58 h58 e58 => ?_)
  refine el_417 h58 (fun y59 h59 e59 => ?_)
  refine el_421 h59 (fun y60 h60 e60 => ?_)
  refine el_425 h60 (fun y61 h61 e61 => ?_)
  refine el_429 h61 (fun y62 h62 e62 => ?_)
  refine el_433 h62 (fun y63 h63 e63 => ?_)
  refine el_437 h63 (fun y64 h64 e64 => ?_)
  refine el_441 h64 (fun y65 h65 e65 => ?_)
  refine el_445 h65 (fun y66 h66 e66 => ?_)
  refine el_449 h66 (fun y67 h67 e67 => ?_)
  refine el_453 h67 (fun y68 h68 e68 => ?_)
  refine el_457 h68 (fun y69 h69 e69 => ?_)
  refine el_461 h69 (fun y70 h70 e70 => ?_)
  refine el_465 h70 (fun y71 h71 e71 => ?_)
  refine el_469 h71 (fun y72 h72 e72 => ?_)
  refine el_473 h72 (fun y73 h73 e73 => ?_)
  refine el_477 h73 (fun y74 h74 e74 => ?_)
  refine el_481 h74 (fun y75 h75 e75 => ?_)
  refine el_485 h75 (fun y76 h76 e76 => ?_)
  refine el_489 h76 (fun y77 h77 e77 => ?_)
  refine el_493 h77 (fun y78 h78 e78 => ?_)
  refine el_497 h78 (fun y79 h79 e79 => ?_)
  refine el_501 h79 (fun y80 h80 e80 => ?_)
  refine el_505 h80 (fun y81 h81 e81 => ?_)
  refine el_509 h81 (fun y82 h82 e82 => ?_)
  refine el_513 h82 (fun y83 h83 e83 => ?_)
  refine el_517 h83 (fun y84 h84 e84 => ?_)
  refine el_521 h84 (fun y85 h85 e85 => ?_)
  refine el_525 h85 (fun y86 h86 e86 => ?_)
  refine el_529 h86 (fun y87 h87 e87 => ?_)
  refine el_533 h87 (fun y88 h88 e88 => ?_)
  refine el_537 h88 (fun y89 h89 e89 => ?_)
  refine el_541 h89 (fun y90 h90 e90 => ?_)
  refine el_545 h90 (fun y91 h91 e91 => ?_)
  refine el_549 h91 (fun y92 h92 e92 => ?_)
  refine el_553 h92 (fun y93 h93 e93 => ?_)
  refine el_557 h93 (fun y94 h94 e94 => ?_)
  refine el_561 h94 (fun y95 h95 e95 => ?_)
  have e : y95 = ([111, 110, 99, 101, 32, 32, 32, 32, 116, 119, 105, 99, 101, 32, 32, 32, 99, 111, 115, 116, 115, 32, 32, 32, 97, 32, 32, 32, 32, 32, 32, 32, 98, 32, 32, 32, 32, 32, 32, 32, 99, 32, 32, 32, 32, 32, 32, 32, 100, 32, 32, 32, 32, 32, 32, 32, 101, 32, 32, 32, 32, 32, 32, 32, 119, 104, 111, 32, 32, 32, 32, 32, 111, 114, 32, 32, 32, 32, 32, 32, 97, 110, 100, 32, 32, 32, 32, 32, 110, 111, 116, 32, 32, 32, 32, 32]) := by
    rw [e95, e94, e93, e92, e91, e90, e89, e88, e87, e86, e85, e84, e83, e82, e81, e80, e79, e78, e77, e76, e75, e74, e73, e72, e71, e70, e69, e68, e67, e66, e65, e64, e63, e62, e61, e60, e59, e58, e57, e56, e55, e54, e53, e52, e51, e50, e49, e48, e47, e46, e45, e44, e43, e42, e41, e40, e39, e38, e37, e36, e35, e34, e33, e32, e31, e30, e29, e28, e27, e26, e25, e24, e23, e22, e21, e20, e19, e18, e17, e16, e15, e14, e13, e12, e11, e10, e9, e8, e7, e6, e5, e4, e3, e2, e1, e0]
    decide +kernel
  rw [e]
  exact h
theorem newM_in {a b x9 : Int32} (h9 : x9 = 1) {hp : AH} (h : InT S (mN (mN Mi 6 (Int32.ofInt 0)) 9 x9) (Mi.2.1 7) 0 a b Ti.2.2.2.1 (Ti.2.2.2.2.set (4 * 0 + 3) (nI Ti.2.2.2.1.length)) hp) : ∃ M, NewM M ∧ hp = mk S M := by
  subst h9
  obtain ⟨cd, hd, hm, op, tk, v, ho, hhd, rfl⟩ := h
  exact ⟨_, NewM_of (a := a) (b := b) (hm := hm) (op := op) (ou := nI Ti.2.2.2.1.length) (tk := tk) (v := v) ho hhd rfl, rfl⟩
def lawL : List Int32 := Mi.2.1 20
def cpL : Nat → Nat → List Int32 → List Int32
  | 0, _, xs => xs
  | m + 1, j, xs => cpL m (j + 1) (xs.set j (lawL.getD j 0))
theorem cpL_all : cpL 28 0 (z32 160) = Mi.2.1 5 := by decide +kernel
set_option maxRecDepth 100000 in
set_option maxHeartbeats 4000000 in
theorem i_model : Ctr l 5 X sgX8_init [.ref 27] (encC S ++ [AO 8 (dfl 8 37)]) (fun h w => (∃ M, NewM M ∧ h = mk S M) ∧ w = none) := by
  have fin : ∀ xs, xs = Mi.2.1 5 → WP l (rmD 5 18 2246) X sgX8_init kX8_init (fun h w => (∃ M, NewM M ∧ h = mk S M) ∧ w = none) 601 [some (.ref 27), some (.int (nI 28))] [] (mk S (mN (mR Mi 5 xs) 6 0)) 18 2246 := by
    intro xs hx
    subst hx
    refine run_sound okX8_init noCut 100 (And.intro trivial ?_)
    refine ⟨4, _, by decide, m_text (S := S) (M := Mi) Mi_len (t := 28) (tx := 0) rfl (by decide) rfl (by decide), ?_⟩
    rintro hp' w ⟨⟨a, hin⟩, rfl⟩
    obtain ⟨M, hM, rfl⟩ := newM_in ((if_pos Ti_ok.2.1).trans rfl) hin
    exact And.intro rfl ⟨rfl, ⟨M, hM, rfl⟩, rfl⟩
  have key : ∀ j, j ≤ 28 → ∀ xs, xs.length = 160 → cpL (28 - j) j xs = Mi.2.1 5 → WP l (rmD 5 18 2246) X sgX8_init kX8_init (fun h w => (∃ M, NewM M ∧ h = mk S M) ∧ w = none) 588 [some (.ref 27), some (.int (nI j))] [] (mk S (mN (mR Mi 5 xs) 6 0)) 18 2246 := by
    refine down (fun xs hx h => ?_) (fun j hj ih xs hx h => ?_)
    · exact run_sound okX8_init (fun i => Nat.beq i 588 || Nat.beq i 601) 100 (brT (Int32.le_refl _) (fin xs h))
    · rw [show 28 - j = (28 - (j + 1)) + 1 by omega, cpL] at h
      have i1 : (nI j).toNatClampNeg = j := nI_clamp (by omega)
      refine run_sound okX8_init (fun i => Nat.beq i 588 || Nat.beq i 601) 100 (brF (ge_no (n := 28) rfl hj (by decide)) (Exists.intro _ (And.intro rfl (And.intro (vp_nI (N := 28) hj (by decide)) (Exists.intro _ (And.intro rfl (And.intro (show vp_in (nI j) xs.length by rw [hx]; exact vp_nI (by omega) (by decide)) ?_)))))))
      have ih := ih (xs.set j (lawL.getD j 0)) (by rw [List.length_set]; exact hx) h
      have e : xs.set (nI j).toNatClampNeg (lawL.getD (nI j).toNatClampNeg 0) = xs.set j (lawL.getD j 0) := by rw [i1]
      rw [← nI_1 j, ← e] at ih
      exact ih
  have h586 : WP l (rmD 5 18 2246) X sgX8_init kX8_init (fun h w => (∃ M, NewM M ∧ h = mk S M) ∧ w = none) 586 [some (.ref 27), none] [] (mk S (mN (mR Mi 5 (z32 160)) 6 0)) 18 2246 := run_sound okX8_init (fun i => Nat.beq i 588) 100 (key 0 (Nat.zero_le _) (z32 160) List.length_replicate cpL_all)
  exact Ctr.of okX8_init rfl (Nat.le_of_ble_eq_true rfl) (sg_0 (sg_26 (ar_36 (sg_53 (ar_39 (sg_177 (ar_40 (sg_565 h586))))))))
end CTORM2
