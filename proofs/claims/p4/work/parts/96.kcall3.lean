/-! THE CLASS in general: copies, sayings by a sheet, images -/
section KCALL3
variable {l : Launch} {X : List (List Int32)} {S : CS} {T : AH} {hp : AH} {nt ns nk ta : Nat}
theorem i32_nat {n : Int32} (h : ¬ n ≤ 0) : ∃ m : Nat, m < 2 ^ 31 ∧ n = nI m := by
  have h1 := Int32.lt_iff_toInt_lt.mp (Int32.not_le.mp h)
  have e0 : (0 : Int32).toInt = 0 := by decide
  have h2 : n.toInt < 2 ^ 31 := Int32.toInt_lt n
  refine ⟨n.toInt.toNat, by omega, Int32.toInt_inj.mp ?_⟩
  rw [nI_toInt (by omega)]
  omega
theorem KC.row (h : KC S) {i : Nat} {a : List Int32} (hi : 8 ≤ i) (ha : a.length ≤ 1000) : KC (cR S i a) := by
  obtain ⟨nt, ns, nk, ta, q⟩ := h
  exact ⟨nt, ns, nk, ta, q.row hi ha⟩
abbrev kvQ (T : AH) : AH → Option Value → Prop := fun h w => (∃ S, KC S ∧ h = encC S ++ T) ∧ w = none
def cNmv (i : Nat) : Bool := Nat.beq i 2 || Nat.beq i 19
set_option maxRecDepth 100000 in
theorem K_move (h : KC S) (s i o j n : Int32) : Ctr l 2 X sgX3_move [.ref 21, .int s, .int i, .int o, .int j, .int n] (encC S ++ T) (kvQ T) := by
  refine Ctr.of okX3_move rfl (Nat.le_of_ble_eq_true rfl) (run_sound okX3_move cNmv 200 ?_)
  by_cases h0 : n ≤ 0
  · have t19 : WP l (rmD 2 0 0) X sgX3_move kX3_move (kvQ T) 19 [some (.ref 21), some (.int s), some (.int i), some (.int o), some (.int j), some (.int n), some (.int 0)] [] (encC S ++ T) 0 0 :=
      run_sound okX3_move cNmv 200 (brT h0 ⟨rfl, lk0 h, rfl⟩)
    exact run_sound okX3_move cNmv 200 (brT h0 t19)
  · obtain ⟨m, hm, rfl⟩ := i32_nat h0
    have l2 : ∀ k, k ≤ m → ∀ S, KC S → WP l (rmD 2 0 0) X sgX3_move kX3_move (kvQ T) 19 [some (.ref 21), some (.int s), some (.int i), some (.int o), some (.int j), some (.int (nI m)), some (.int (nI k))] [] (encC S ++ T) 0 0 := by
      refine down (fun S hS => ?_) (fun k hk ih S hS => ?_)
      · exact run_sound okX3_move cNmv 200 (brT (Int32.le_refl _) ⟨rfl, lk0 hS, rfl⟩)
      · have ih := ih (wrS S o (j + nI k) (atF (S.2 25) (nI k))) (hS.write _ _ _)
        rw [← nI_1 k] at ih
        exact run_sound okX3_move cNmv 200 (brF (nI_ge hk hm) (kH (c_at (xs := S.2 25) rfl (hS.len.lt 25)) (by decide) (kH (c_write hS.len _ _ _) (by decide) ih)))
    have l1 : ∀ k, k ≤ m → ∀ S, KC S → WP l (rmD 2 0 0) X sgX3_move kX3_move (kvQ T) 2 [some (.ref 21), some (.int s), some (.int i), some (.int o), some (.int j), some (.int (nI m)), some (.int (nI k))] [] (encC S ++ T) 0 0 := by
      refine down (fun S hS => ?_) (fun k hk ih S hS => ?_)
      · exact run_sound okX3_move cNmv 200 (brT (Int32.le_refl _) (l2 0 (Nat.zero_le _) S hS))
      · have ih := ih (cR S 25 (putF (S.2 25) (nI k) (atF (S.2 24) (s * Int32.ofInt 40 + (i + nI k))))) (hS.row (by decide) (by rw [putF_len]; exact hS.len 25))
        rw [← nI_1 k] at ih
        exact run_sound okX3_move cNmv 200 (brF (nI_ge hk hm) (kH (c_read hS.len _ _) (by decide) (kH (c_put (xs := S.2 25) rfl rfl (hS.len.lt 25)) (by decide) ih)))
    exact l1 0 (Nat.zero_le _) S h
set_option maxRecDepth 100000 in
theorem K_copy (h : KC S) (s i o j n : Int32) : Ctr l 3 X sgX7_copy [.ref 0, .int s, .int i, .int o, .int j, .int n] (encC S ++ T) (kcQ T) := by
  have hL := h.len
  refine Ctr.of okX7_copy rfl (Nat.le_of_ble_eq_true rfl) (run_sound okX7_copy (fun i => Nat.beq i 20 || Nat.beq i 49) 200 ?_)
  have t20 : WP l (rmD 3 0 0) X sgX7_copy kX7_copy (kcQ T) 20 [some (.ref 0), some (.int s), some (.int i), some (.int o), some (.int j), some (.int n)] [] (encC S ++ T) 0 0 := run_sound okX7_copy noCut 200 (lk h)
  have t49 : WP l (rmD 3 0 0) X sgX7_copy kX7_copy (kcQ T) 49 [some (.ref 0), some (.int s), some (.int i), some (.int o), some (.int j), some (.int n)] [] (encC S ++ T) 0 0 := run_sound okX7_copy noCut 200 (lk h)
  refine kH (c_isBelow s 4) (by decide) (brB' (fun _ => lk h) (fun _ => kH (c_isBelow o 4) (by decide) (brB' (fun _ => lk h) (fun _ => kH (c_isMissing hL s) (by decide) (brB' (fun _ => kH (c_isMissing hL o) (by decide) (brB' (fun _ => ?_) (fun _ => t20))) (fun _ => t20))))))
  refine kH (c_at (xs := S.2 22) rfl (hL.lt 22)) (by decide) (kH (c_at (xs := S.2 22) rfl (hL.lt 22)) (by decide) (br (fun _ => ?_) (fun _ => lk h)))
  refine kH (c_holdsRun hL s i n) (by decide) (brB' (fun _ => t49) (fun _ => kH (c_holdsRun hL o j n) (by decide) (brB' (fun _ => t49) (fun _ => ⟨2, _, by decide, K_move h s i o j n, ?_⟩))))
  rintro hp' w ⟨⟨S', hS', rfl⟩, rfl⟩
  exact lk hS'
theorem p3_or {n c : Int32} {z : Nat} (h0 : ¬ n < 0) (h1 : n ≤ c) (hc : c.toInt = z) (hz : z < 2 ^ 31) : ∃ k : Nat, k ≤ z ∧ n = nI k := by
  have g0 := Int32.le_iff_toInt_le.mp (Int32.not_lt.mp h0)
  have g1 := Int32.le_iff_toInt_le.mp h1
  have e0 : (0 : Int32).toInt = 0 := by decide
  refine ⟨n.toInt.toNat, by omega, Int32.toInt_inj.mp ?_⟩
  rw [nI_toInt (by omega)]
  omega
def cNsy (i : Nat) : Bool := Nat.beq i 9 || Nat.beq i 16 || Nat.beq i 38
set_option maxRecDepth 100000 in
theorem K_sayingsBy (h : KC S) (s sort fr n : Int32) : Ctr l 3 X sgX7_sayingsBy [.ref 0, .int s, .int sort, .int fr, .int n] (encC S ++ T) (kcQ T) := by
  have hL := h.len
  refine Ctr.of okX7_sayingsBy rfl (Nat.le_of_ble_eq_true rfl) (run_sound okX7_sayingsBy cNsy 200 ?_)
  have t9 : WP l (rmD 3 0 0) X sgX7_sayingsBy kX7_sayingsBy (kcQ T) 9 [some (.ref 0), some (.int s), some (.int sort), some (.int fr), some (.int n), none, none, none] [] (encC S ++ T) 0 0 := run_sound okX7_sayingsBy noCut 200 (lk h)
  have t16 : WP l (rmD 3 0 0) X sgX7_sayingsBy kX7_sayingsBy (kcQ T) 16 [some (.ref 0), some (.int s), some (.int sort), some (.int fr), some (.int n), none, none, none] [] (encC S ++ T) 0 0 := run_sound okX7_sayingsBy noCut 200 (lk h)
  refine kH (c_isBelow s 4) (by decide) (brB' (fun _ => t9) (fun _ => br (fun _ => t9) (fun _ => br (fun _ => ?_) (fun _ => t9))))
  refine br (fun _ => t16) (fun y1 => br (fun y2 => ?_) (fun _ => t16))
  obtain ⟨m, hm, rfl⟩ := p3_or (c := 12) (z := 12) y1 y2 (by decide) (by decide)
  refine kH (c_isMissing hL s) (by decide) (brB' (fun _ => kH (c_at (xs := S.2 22) rfl (hL.lt 22)) (by decide) (br (fun _ => ?_) (fun _ => lk h))) (fun _ => lk h))
  have key : ∀ k, k ≤ m → ∀ (S : CS), KC S → ∀ (x : Int32) x7, WP l (rmD 3 0 0) X sgX7_sayingsBy kX7_sayingsBy (kcQ T) 38 [some (.ref 0), some (.int s), some (.int sort), some (.int fr), some (.int (nI m)), some (.int x), some (.int (nI k)), x7] [] (encC S ++ T) 0 0 := by
    refine down (fun S hS x x7 => ?_) (fun k hk ih S hS x x7 => ?_)
    · exact run_sound okX7_sayingsBy cNsy 200 (brT (Int32.le_refl _) (lk hS))
    · have hL := hS.len
      refine run_sound okX7_sayingsBy cNsy 200 (brF (nI_ge hk (by omega)) (kH (c_holdsRun hL _ _ _) (by decide) (brB' (fun _ => lk hS) (fun _ => kH (c_read hL _ _) (by decide) (kH (c_read hL _ _) (by decide) (kH (c_read hL _ _) (by decide) ⟨2, _, by decide, K_say hS _ _ _, ?_⟩))))))
      rintro hp' w ⟨⟨S', hS', rfl⟩, v, rfl⟩
      rw [← nI_1 k] at ih
      exact br (fun _ => ih S' hS' _ _) (fun _ => ih S' hS' _ _)
  exact key 0 (Nat.zero_le _) S h _ _
abbrev kepS (S : CS) (a b c : List Int32) : CS := cN (cN (cN (cR (cR (cR S 18 a) 19 b) 20 c) 173 (S.1 133)) 174 (S.1 134)) 175 (S.1 135)
abbrev bakS (S : CS) (a b c : List Int32) : CS := cN (cN (cN (cR (cR (cR S 14 a) 15 b) 16 c) 133 (S.1 173)) 134 (S.1 174)) 135 (S.1 175)
abbrev likQ (T : AH) (f : List Int32 → List Int32 → List Int32 → CS) : AH → Option Value → Prop := fun h w => (∃ a b c : List Int32, a.length ≤ 1000 ∧ b.length ≤ 1000 ∧ c.length ≤ 1000 ∧ h = encC (f a b c) ++ T) ∧ w = none
theorem len2 (hL : CLen S) {i j : Nat} {a b : List Int32} (ha : a.length ≤ 1000) (hb : b.length ≤ 1000) : CLen (cR (cR S i a) j b) := (hL.row i a ha).row j b hb
def cNli (i : Nat) : Bool := Nat.beq i 5 || Nat.beq i 23
set_option maxRecDepth 100000 in
set_option maxHeartbeats 1000000 in
theorem c_keepL (hL : CLen S) : Ctr l 2 X sgX4_becomeLike [.ref 17, .ref 13] (encC S ++ T) (likQ T (kepS S)) := by
  refine Ctr.of okX4_becomeLike rfl (Nat.le_of_ble_eq_true rfl) (run_sound okX4_becomeLike cNli 200 ?_)
  have k2 : ∀ j, j ≤ 36 → ∀ a b c : List Int32, a.length ≤ 1000 → b.length ≤ 1000 → c.length ≤ 1000 → WP l (rmD 2 0 0) X sgX4_becomeLike kX4_becomeLike (likQ T (kepS S)) 23 [some (.ref 17), some (.ref 13), some (.int (nI j))] [] (encC (cR (cR (cR S 18 a) 19 b) 20 c) ++ T) 0 0 := by
    refine down (fun a b c ha hb hc => ?_) (fun j hj ih a b c ha hb hc => ?_)
    · exact run_sound okX4_becomeLike cNli 200 (brT (Int32.le_refl _) (And.intro trivial (And.intro trivial (And.intro trivial ⟨rfl, ⟨a, b, c, ha, hb, hc, rfl⟩, rfl⟩))))
    · refine run_sound okX4_becomeLike cNli 200 (brF (ge_no (n := 36) rfl hj (by decide)) (kH (c_at (xs := S.2 16) rfl (hL.lt 16)) (by decide) (kH (c_put (xs := c) rfl rfl (Nat.lt_of_le_of_lt hc (by decide))) (by decide) ?_)))
      have ih := ih a b (putF c (nI j) (atF (S.2 16) (nI j))) ha hb (by rw [putF_len]; exact hc)
      rw [← nI_1 j] at ih
      exact ih
  have k1 : ∀ j, j ≤ 5 → ∀ a b : List Int32, a.length ≤ 1000 → b.length ≤ 1000 → WP l (rmD 2 0 0) X sgX4_becomeLike kX4_becomeLike (likQ T (kepS S)) 5 [some (.ref 17), some (.ref 13), some (.int (nI j))] [] (encC (cR (cR S 18 a) 19 b) ++ T) 0 0 := by
    refine down (fun a b ha hb => ?_) (fun j hj ih a b ha hb => ?_)
    · exact run_sound okX4_becomeLike cNli 200 (brT (Int32.le_refl _) (k2 0 (Nat.zero_le _) a b (S.2 20) ha hb (hL 20)))
    · refine run_sound okX4_becomeLike cNli 200 (brF (ge_no (n := 5) rfl hj (by decide)) (kH (c_at (xs := S.2 14) rfl (hL.lt 14)) (by decide) (kH (c_at (xs := S.2 15) rfl (hL.lt 15)) (by decide) (kH (c_become17 (len2 hL ha hb) _ _ _) (by decide) ?_))))
      have ih := ih (putF a (nI j) (atF (S.2 14) (nI j))) (putF b (nI j) (atF (S.2 15) (nI j))) (by rw [putF_len]; exact ha) (by rw [putF_len]; exact hb)
      rw [← nI_1 j] at ih
      exact ih
  exact k1 0 (Nat.zero_le _) (S.2 18) (S.2 19) (hL 18) (hL 19)
set_option maxRecDepth 100000 in
set_option maxHeartbeats 1000000 in
theorem c_backL (hL : CLen S) : Ctr l 2 X sgX4_becomeLike [.ref 13, .ref 17] (encC S ++ T) (likQ T (bakS S)) := by
  refine Ctr.of okX4_becomeLike rfl (Nat.le_of_ble_eq_true rfl) (run_sound okX4_becomeLike cNli 200 ?_)
  have k2 : ∀ j, j ≤ 36 → ∀ a b c : List Int32, a.length ≤ 1000 → b.length ≤ 1000 → c.length ≤ 1000 → WP l (rmD 2 0 0) X sgX4_becomeLike kX4_becomeLike (likQ T (bakS S)) 23 [some (.ref 13), some (.ref 17), some (.int (nI j))] [] (encC (cR (cR (cR S 14 a) 15 b) 16 c) ++ T) 0 0 := by
    refine down (fun a b c ha hb hc => ?_) (fun j hj ih a b c ha hb hc => ?_)
    · exact run_sound okX4_becomeLike cNli 200 (brT (Int32.le_refl _) (And.intro trivial (And.intro trivial (And.intro trivial ⟨rfl, ⟨a, b, c, ha, hb, hc, rfl⟩, rfl⟩))))
    · refine run_sound okX4_becomeLike cNli 200 (brF (ge_no (n := 36) rfl hj (by decide)) (kH (c_at (xs := S.2 20) rfl (hL.lt 20)) (by decide) (kH (c_put (xs := c) rfl rfl (Nat.lt_of_le_of_lt hc (by decide))) (by decide) ?_)))
      have ih := ih a b (putF c (nI j) (atF (S.2 20) (nI j))) ha hb (by rw [putF_len]; exact hc)
      rw [← nI_1 j] at ih
      exact ih
  have k1 : ∀ j, j ≤ 5 → ∀ a b : List Int32, a.length ≤ 1000 → b.length ≤ 1000 → WP l (rmD 2 0 0) X sgX4_becomeLike kX4_becomeLike (likQ T (bakS S)) 5 [some (.ref 13), some (.ref 17), some (.int (nI j))] [] (encC (cR (cR S 14 a) 15 b) ++ T) 0 0 := by
    refine down (fun a b ha hb => ?_) (fun j hj ih a b ha hb => ?_)
    · exact run_sound okX4_becomeLike cNli 200 (brT (Int32.le_refl _) (k2 0 (Nat.zero_le _) a b (S.2 16) ha hb (hL 16)))
    · refine run_sound okX4_becomeLike cNli 200 (brF (ge_no (n := 5) rfl hj (by decide)) (kH (c_at (xs := S.2 18) rfl (hL.lt 18)) (by decide) (kH (c_at (xs := S.2 19) rfl (hL.lt 19)) (by decide) (kH (c_become13 (len2 hL ha hb) _ _ _) (by decide) ?_))))
      have ih := ih (putF a (nI j) (atF (S.2 18) (nI j))) (putF b (nI j) (atF (S.2 19) (nI j))) (by rw [putF_len]; exact ha) (by rw [putF_len]; exact hb)
      rw [← nI_1 j] at ih
      exact ih
  exact k1 0 (Nat.zero_le _) (S.2 14) (S.2 15) (hL 14) (hL 15)
set_option maxRecDepth 100000 in
theorem K_image (h : KC S) : Ctr l 3 X sgX7_image [.ref 0] (encC S ++ T) (kcQ T) := by
  obtain ⟨nt, ns, nk, ta, q⟩ := id h
  refine Ctr.of okX7_image rfl (Nat.le_of_ble_eq_true rfl) (run_sound okX7_image noCut 200 ⟨2, _, by decide, c_keepL h.len, ?_⟩)
  rintro hp' w ⟨⟨a, b, c, ha, hb, hc, rfl⟩, rfl⟩
  obtain ⟨c1, c2, c3, c4⟩ := (q.rows (i := 18) (j := 19) (a := a) (b := b) (by decide) (by decide) ha hb).row (i := 20) (a := c) (by decide) hc
  exact And.intro (Or.inr rfl) ⟨⟨cN (kepS S a b c) 8 1, ⟨nt, ns, nk, ta, c1, c2, c3, ns, nk, q.1.2.2.2.1, q.1.2.2.2.2.1, q.1.2.2.2.2.2.1, q.1.2.2.2.2.2.2⟩, rfl⟩, _, rfl⟩
set_option maxRecDepth 100000 in
theorem K_back (h : KC S) : Ctr l 3 X sgX7_back [.ref 0] (encC S ++ T) (kcQ T) := by
  obtain ⟨nt, ns, nk, ta, q⟩ := id h
  refine Ctr.of okX7_back rfl (Nat.le_of_ble_eq_true rfl) (run_sound okX7_back noCut 200 (br (fun _ => lk h) (fun _ => ⟨2, _, by decide, c_backL h.len, ?_⟩)))
  rintro hp' w ⟨⟨a, b, c, ha, hb, hc, rfl⟩, rfl⟩
  obtain ⟨⟨c1, c2, c3, c4, c5, c6, c7⟩, d2, d3, n1, n2, e1, b1, e2, b2⟩ := (q.rows (i := 14) (j := 15) (a := a) (b := b) (by decide) (by decide) ha hb).row (i := 16) (a := c) (by decide) hc
  exact ⟨⟨bakS S a b c, ⟨nt, n1, n2, ta, ⟨c1, c2, c3, e1, b1, e2, b2⟩, d2, d3, n1, n2, e1, b1, e2, b2⟩, rfl⟩, _, rfl⟩
end KCALL3
