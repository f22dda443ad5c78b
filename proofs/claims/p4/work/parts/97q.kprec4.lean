/-! THE CLASS in general, precisely: told talks, copies, sayings by a sheet -/
section KPREC4
variable {l : Launch} {X : List (List Int32)} {S : CS} {T : AH} {hp : AH} {nt ns nk ta : Nat}
theorem set_comm2 {xs : List Int32} {i j : Nat} {v w : Int32} (h : ¬ i = j) : (xs.set i v).set j w = (xs.set j w).set i v := List.set_comm v w h
theorem zeC_congr {f g : Nat → Int32} {xs : List Int32} {s : Nat} : ∀ n, (∀ x, x < n → f x = g x) → zeC f xs s n = zeC g xs s n
  | 0, _ => rfl
  | n + 1, h => by rw [zeC, zeC, zeC_congr n (fun x hx => h x (by omega)), h n (by omega)]
theorem zeC_far {f : Nat → Int32} {xs : List Int32} {s i : Nat} {v : Int32} : ∀ n, n ≤ i → (zeC f xs s n).set (40 * s + i) v = zeC f (xs.set (40 * s + i) v) s n
  | 0, _ => rfl
  | n + 1, h => by rw [zeC, zeC, set_comm2 (by omega), zeC_far n (by omega)]
/-- one number of a sheet's row written anew -/
theorem zeC_upd {f : Nat → Int32} {xs : List Int32} {s i : Nat} {v : Int32} : ∀ n, i < n → (zeC f xs s n).set (40 * s + i) v = zeC (fun x => if x = i then v else f x) xs s n
  | 0, h => by omega
  | n + 1, h => by
    rw [zeC, zeC]
    by_cases e : n = i
    · subst e
      rw [List.set_set, if_pos rfl, zeC_congr n (fun x hx => (if_neg (show ¬ x = n by omega)).symm)]
    · rw [set_comm2 (by omega), zeC_upd n (by omega), if_neg e]
def fiC (S : CS) (m k : Nat) : Int32 := if k < m then (S.2 16).getD k 0 else 0
def kfiS (S : CS) (nk s : Nat) : CS := cR (cR (cR S 22 ((S.2 22).set s 2)) 23 ((S.2 23).set s (nI (3 * nk)))) 24 (zeC (fiC S (3 * nk)) (S.2 24) s 40)
def kfiG (S : CS) (nk : Nat) (s : Int32) : CS × Int32 := if p3P s then (kfiS S nk s.toNatClampNeg, nI nk) else (S, -2)
/-- half way -/
def kfiM (S : CS) (nk s : Nat) (c : List Int32) : CS := cR (cR (cR S 22 ((S.2 22).set s 2)) 23 ((S.2 23).set s (nI (3 * nk)))) 24 c
theorem kfiM_len (hL : CLen S) {nk s : Nat} {c : List Int32} (hc : c.length ≤ 1000) : CLen (kfiM S nk s c) :=
  (((hL.row 22 _ (by rw [List.length_set]; exact hL 22)).row 23 _ (by rw [List.length_set]; exact hL 23)).row 24 _ hc)
theorem fiC_more {m k : Nat} (hk : k < 40) : (if k = m then (S.2 16).getD m 0 else fiC S m k) = fiC S (m + 1) k := by
  unfold fiC
  by_cases e : k = m
  · subst e
    rw [if_pos rfl, if_pos (Nat.lt_succ_self _)]
  · rw [if_neg e]
    by_cases q : k < m
    · rw [if_pos q, if_pos (by omega)]
    · rw [if_neg q, if_neg (by omega)]
set_option maxRecDepth 100000 in
theorem P_film1 (hL : CLen S) (l22 : (S.2 22).length = 4) {nk s m k j : Nat} {c c' : List Int32} (hc : c.length ≤ 1000) (hs : s < 4) (hk : k < 12) (hj : j < 3) (hm : m = 3 * k + j) {w : Int32} (hw : c.set (40 * s + m) w = c') :
    Ctr l 1 X sgX3_write [.ref 21, .int (nI s), .int (Int32.ofInt 3 * nI k + nI j), .int w] (encC (kfiM S nk s c) ++ T) (fun h v => h = encC (kfiM S nk s c') ++ T ∧ v = none) := by
  have hLm : CLen (kfiM S nk s c) := kfiM_len hL hc
  have e1 : wrS (kfiM S nk s c) (nI s) (Int32.ofInt 3 * nI k + nI j) w = cR (kfiM S nk s c) 24 c' := by
    unfold wrS
    have ev : wrV (kfiM S nk s c) (nI s) w = w := by
      have e22 : atF ((kfiM S nk s c).2 22) (nI s) = 2 := by
        rw [show (kfiM S nk s c).2 22 = (S.2 22).set s 2 from rfl, atF_n (by omega), getD_set_eq (by omega)]
      unfold wrV
      rw [e22]
      rfl
    have ei : nI s * Int32.ofInt 40 + (Int32.ofInt 3 * nI k + nI j) = nI (40 * s + m) := by
      rw [show nI s * Int32.ofInt 40 = nI (s * 40) from nI_mul s 40, show Int32.ofInt 3 * nI k = nI (3 * k) from nI_mul 3 k, nI_add, nI_add, hm, Nat.mul_comm s 40]
    rw [ev, ei, putF_n (by omega), show (kfiM S nk s c).2 24 = c from rfl, hw]
  have h := c_write (l := l) (X := X) (T := T) hLm (nI s) (Int32.ofInt 3 * nI k + nI j) w
  rw [e1] at h
  exact h
set_option maxRecDepth 100000 in
set_option maxHeartbeats 1000000 in
theorem P_film (hL : CLen S) (l22 : (S.2 22).length = 4) (h134 : S.1 134 = nI nk) (h12 : nk ≤ 12) (s : Int32) : Ctr l 2 X sgX7_film [.ref 0, .int s] (encC S ++ T) (kpQ T (kfiG S nk s)) := by
  refine Ctr.of okX7_film rfl (Nat.le_of_ble_eq_true rfl) (run_sound okX7_film (fun i => Nat.beq i 18) 200 ?_)
  refine kH (k_B s 4 3 (by decide)) (by decide) (brB' (fun q => kp (if_neg q)) (fun q => ?_))
  obtain ⟨a, ha, rfl⟩ := in03n q
  obtain ⟨C, hC⟩ : ∃ C : Nat → List Int32, ∀ m, C m = zeC (fiC S m) (S.2 24) a 40 := ⟨_, fun _ => rfl⟩
  have cl : ∀ m, (C m).length ≤ 1000 := fun m => by rw [hC, zeC_len]; exact hL 24
  have cs : ∀ m, m < 40 → (C m).set (40 * a + m) ((S.2 16).getD m 0) = C (m + 1) := fun m hm => by
    rw [hC, hC, zeC_upd 40 hm]
    exact zeC_congr 40 (fun x hx => fiC_more hx)
  have eG : kfiG S nk (nI a) = (kfiM S nk a (C (3 * nk)), nI nk) := by
    unfold kfiG
    rw [if_pos q, nI_clamp (by omega), hC]
    rfl
  rw [eG]
  have e3 : Int32.ofInt 3 * S.1 134 = nI (3 * nk) := by rw [h134]; exact nI_mul 3 nk
  refine ⟨1, _, by decide, P_make hL ha (Int32.ofInt 2) (Int32.ofInt 3 * S.1 134), ?_⟩
  rintro hp' w ⟨rfl, rfl⟩
  have e0 : kmkS S a (Int32.ofInt 2) (Int32.ofInt 3 * S.1 134) = kfiM S nk a (C 0) := by
    unfold kmkS kfiM
    rw [e3, hC, zeC_congr (f := fun _ => 0) (g := fiC S 0) 40 (fun x hx => (if_neg (Nat.not_lt_zero _)).symm)]
    rfl
  rw [e0]
  clear hC e0 eG
  have out : ∀ k, k ≤ nk → ∀ x, WP l (rmD 2 0 0) X sgX7_film kX7_film (kpQ T (kfiM S nk a (C (3 * nk)), nI nk)) 18 [some (.ref 0), some (.int (nI a)), some (.int (nI k)), x] [] (encC (kfiM S nk a (C (3 * k))) ++ T) 0 0 := by
    refine down (fun x => ?_) (fun k hk ih x => ?_)
    · have fin : kpQ T (kfiM S nk a (C (3 * nk)), nI nk) (encC (kfiM S nk a (C (3 * nk))) ++ T) (some (.int (S.1 134))) := ⟨rfl, some_int h134⟩
      refine run_sound okX7_film (fun i => Nat.beq i 18) 200 (brT ?_ fin)
      show S.1 134 ≤ nI nk
      rw [h134]
      exact Int32.le_refl _
    · have inn : ∀ j, j ≤ 3 → WP l (rmD 2 0 0) X sgX7_film kX7_film (kpQ T (kfiM S nk a (C (3 * nk)), nI nk)) 25 [some (.ref 0), some (.int (nI a)), some (.int (nI k)), some (.int (nI j))] [] (encC (kfiM S nk a (C (3 * k + j))) ++ T) 0 0 := by
        refine down ?_ (fun j hj ih2 => ?_)
        · have ih := ih (some (.int (nI 3)))
          rw [← nI_1 k] at ih
          exact run_sound okX7_film (fun i => Nat.beq i 18) 200 (brT (Int32.le_refl _) ih)
        · have hp : partF (kfiM S nk a (C (3 * k + j))) (nI k) (nI j) = (S.2 16).getD (3 * k + j) 0 := by
            unfold partF
            rw [show (3 : Int32) * nI k = nI (3 * k) from nI_mul 3 k, nI_add, atF_n (by omega)]
            rfl
          have hLm : CLen (kfiM S nk a (C (3 * k + j))) := kfiM_len hL (cl _)
          have ih2 := ih2
          rw [show 3 * k + (j + 1) = 3 * k + j + 1 from rfl, ← nI_1 j] at ih2
          have cw := P_film1 (l := l) (X := X) (T := T) (nk := nk) hL l22 (cl (3 * k + j)) ha (by omega) hj rfl (cs (3 * k + j) (by omega))
          rw [← hp] at cw
          exact run_sound okX7_film (fun i => Nat.beq i 25) 200 (brF (ge_no (n := 3) rfl hj (by decide)) (kH (c_sayingPart hLm (nI k) (nI j)) (by decide) (kH cw (by decide) ih2)))
      refine run_sound okX7_film (fun i => Nat.beq i 25) 200 (brF ?_ (inn 0 (Nat.zero_le _)))
      show ¬ S.1 134 ≤ nI k
      rw [h134]
      exact nI_ge hk (by omega)
  exact out 0 (Nat.zero_le _) none
/-! copies -/
/-- n numbers from a on come to b on, as they were -/
def cpC (xs ys : List Int32) (a b : Nat) : Nat → List Int32
  | 0 => ys
  | k + 1 => (cpC xs ys a b k).set (b + k) (xs.getD (a + k) 0)
theorem cpC_len {xs ys : List Int32} {a b : Nat} : ∀ k, (cpC xs ys a b k).length = ys.length
  | 0 => rfl
  | k + 1 => by rw [cpC, List.length_set, cpC_len k]
theorem cpC_get {xs ys : List Int32} {a b : Nat} : ∀ k, b + k ≤ ys.length → ∀ y, (cpC xs ys a b k).getD y 0 = if b ≤ y ∧ y < b + k then xs.getD (a + (y - b)) 0 else ys.getD y 0
  | 0, _, y => by rw [cpC, if_neg (by omega)]
  | k + 1, h, y => by
    rw [cpC, getD_set, cpC_len, cpC_get k (by omega)]
    by_cases e : b + k = y
    · subst e
      rw [if_pos ⟨rfl, by omega⟩, if_pos ⟨by omega, by omega⟩, Nat.add_sub_cancel_left]
    · rw [if_neg (fun z => e z.1)]
      by_cases q : b ≤ y ∧ y < b + k
      · rw [if_pos q, if_pos ⟨q.1, by omega⟩]
      · rw [if_neg q, if_neg (fun z => q ⟨z.1, by omega⟩)]
/-- cells hold what their sheet's sort lets them -/
def ShV (M : MS) : Prop := ∀ s, s < 4 → ∀ i, i < 40 → ceV ((M.2.1 17).getD s 0) ((M.2.1 19).getD (40 * s + i) 0) = (M.2.1 19).getD (40 * s + i) 0
/-- all of a sheet's numbers, as its sort takes them -/
def ShC (S : CS) : Prop := ∀ s, s < 4 → ∀ i, i < 40 → wrV S (nI s) ((S.2 24).getD (40 * s + i) 0) = (S.2 24).getD (40 * s + i) 0
abbrev kcoS (S : CS) (r25 r24 : List Int32) : CS := cR (cR S 25 r25) 24 r24
set_option maxRecDepth 100000 in
set_option maxHeartbeats 1000000 in
theorem P_move (hL : CLen S) (l24 : (S.2 24).length = 160) (l25 : (S.2 25).length = 40) (hV : ShC S) {a i b j n : Nat} (ha : a < 4) (hb : b < 4) (hi : i + n ≤ 40) (hj : j + n ≤ 40) (hso : atF (S.2 22) (nI a) = atF (S.2 22) (nI b)) :
    Ctr l 2 X sgX3_move [.ref 21, .int (nI a), .int (nI i), .int (nI b), .int (nI j), .int (nI n)] (encC S ++ T) (fun h w => (∃ r25, r25.length = 40 ∧ h = encC (kcoS S r25 (cpC (S.2 24) (S.2 24) (40 * a + i) (40 * b + j) n)) ++ T) ∧ w = none) := by
  refine Ctr.of okX3_move rfl (Nat.le_of_ble_eq_true rfl) (run_sound okX3_move cNmv 200 ?_)
  obtain ⟨r25, er⟩ : ∃ r25, r25 = cpC (S.2 24) (S.2 25) (40 * a + i) 0 n := ⟨_, rfl⟩
  have lr : r25.length = 40 := by rw [er, cpC_len]; exact l25
  have gr : ∀ k, k < n → r25.getD k 0 = (S.2 24).getD (40 * a + i + k) 0 := fun k hk => by
    rw [er, cpC_get n (by omega), if_pos ⟨Nat.zero_le _, by omega⟩, Nat.sub_zero]
  have l2 : ∀ k, k ≤ n → WP l (rmD 2 0 0) X sgX3_move kX3_move (fun h w => (∃ r25, r25.length = 40 ∧ h = encC (kcoS S r25 (cpC (S.2 24) (S.2 24) (40 * a + i) (40 * b + j) n)) ++ T) ∧ w = none) 19 [some (.ref 21), some (.int (nI a)), some (.int (nI i)), some (.int (nI b)), some (.int (nI j)), some (.int (nI n)), some (.int (nI k))] [] (encC (kcoS S r25 (cpC (S.2 24) (S.2 24) (40 * a + i) (40 * b + j) k)) ++ T) 0 0 := by
    refine down ?_ (fun k hk ih => ?_)
    · exact run_sound okX3_move cNmv 200 (brT (Int32.le_refl _) ⟨rfl, ⟨r25, lr, rfl⟩, rfl⟩)
    · have hLk : CLen (kcoS S r25 (cpC (S.2 24) (S.2 24) (40 * a + i) (40 * b + j) k)) := (hL.row 25 _ (by rw [lr]; decide)).row 24 _ (by rw [cpC_len]; exact hL 24)
      have e1 : wrS (kcoS S r25 (cpC (S.2 24) (S.2 24) (40 * a + i) (40 * b + j) k)) (nI b) (nI j + nI k) (r25.getD k 0) = cR (kcoS S r25 (cpC (S.2 24) (S.2 24) (40 * a + i) (40 * b + j) k)) 24 (cpC (S.2 24) (S.2 24) (40 * a + i) (40 * b + j) (k + 1)) := by
        unfold wrS
        have ev : wrV (kcoS S r25 (cpC (S.2 24) (S.2 24) (40 * a + i) (40 * b + j) k)) (nI b) (r25.getD k 0) = (S.2 24).getD (40 * a + i + k) 0 := by
          rw [gr k hk]
          have := hV a ha (i + k) (by omega)
          unfold wrV at this ⊢
          rw [show (kcoS S r25 (cpC (S.2 24) (S.2 24) (40 * a + i) (40 * b + j) k)).2 22 = S.2 22 from rfl, ← hso]
          rw [show 40 * a + (i + k) = 40 * a + i + k by omega] at this
          exact this
        have ei : nI b * Int32.ofInt 40 + (nI j + nI k) = nI (40 * b + j + k) := by
          rw [show nI b * Int32.ofInt 40 = nI (b * 40) from nI_mul b 40, nI_add, nI_add]
          congr 1
          omega
        rw [ev, ei, putF_n (by omega)]
        rfl
      have cw := c_write (l := l) (X := X) (T := T) hLk (nI b) (nI j + nI k) (r25.getD k 0)
      rw [e1] at cw
      have ca : Ans l 0 X sgX7_at [.ref 25, .int (nI k)] (encC (kcoS S r25 (cpC (S.2 24) (S.2 24) (40 * a + i) (40 * b + j) k)) ++ T) (r25.getD k 0) := by
        have := c_at (l := l) (X := X) (q := 25) (hp := encC (kcoS S r25 (cpC (S.2 24) (S.2 24) (40 * a + i) (40 * b + j) k)) ++ T) (xs := r25) (i := nI k) rfl (by rw [lr]; decide)
        rw [atF_n (by omega)] at this
        exact this
      rw [← nI_1 k] at ih
      exact run_sound okX3_move cNmv 200 (brF (nI_ge hk (by omega)) (kH ca (by decide) (kH cw (by decide) ih)))
  have l1 : ∀ k, k ≤ n → WP l (rmD 2 0 0) X sgX3_move kX3_move (fun h w => (∃ r25, r25.length = 40 ∧ h = encC (kcoS S r25 (cpC (S.2 24) (S.2 24) (40 * a + i) (40 * b + j) n)) ++ T) ∧ w = none) 2 [some (.ref 21), some (.int (nI a)), some (.int (nI i)), some (.int (nI b)), some (.int (nI j)), some (.int (nI n)), some (.int (nI k))] [] (encC (cR S 25 (cpC (S.2 24) (S.2 25) (40 * a + i) 0 k)) ++ T) 0 0 := by
    refine down ?_ (fun k hk ih => ?_)
    · have k2 := l2 0 (Nat.zero_le _)
      rw [er] at k2
      exact run_sound okX3_move cNmv 200 (brT (Int32.le_refl _) k2)
    · have hLk : CLen (cR S 25 (cpC (S.2 24) (S.2 25) (40 * a + i) 0 k)) := hL.row 25 _ (by rw [cpC_len, l25]; decide)
      have cr : Ans l 1 X sgX3_read [.ref 21, .int (nI a), .int (nI i + nI k)] (encC (cR S 25 (cpC (S.2 24) (S.2 25) (40 * a + i) 0 k)) ++ T) ((S.2 24).getD (40 * a + i + k) 0) := by
        have := c_read (l := l) (X := X) (T := T) hLk (nI a) (nI i + nI k)
        have ei : nI a * Int32.ofInt 40 + (nI i + nI k) = nI (40 * a + i + k) := by
          rw [show nI a * Int32.ofInt 40 = nI (a * 40) from nI_mul a 40, nI_add, nI_add]
          congr 1
          omega
        rw [ei, atF_n (by omega)] at this
        exact this
      have e2 : putF (cpC (S.2 24) (S.2 25) (40 * a + i) 0 k) (nI k) ((S.2 24).getD (40 * a + i + k) 0) = cpC (S.2 24) (S.2 25) (40 * a + i) 0 (k + 1) := by
        rw [putF_n (by omega), cpC, Nat.zero_add]
      rw [← e2, ← nI_1 k] at ih
      exact run_sound okX3_move cNmv 200 (brF (nI_ge hk (by omega)) (kH cr (by decide) (kH (c_put (xs := cpC (S.2 24) (S.2 25) (40 * a + i) 0 k) rfl rfl (by rw [cpC_len, l25]; decide)) (by decide) ih)))
  exact l1 0 (Nat.zero_le _)
end KPREC4
