/-! QUESTIONS ALIKE: ask, two -/
section Q5
variable {l : Launch} {X : List (List Int32)} {S : CS} {T : AH} {M : MS} {nt ns nk ta : Nat}
theorem maxF_R (a b : Int32) : maxF a b = maxR a b := by
  unfold maxF maxR
  by_cases q : a < b
  · rw [if_pos q, if_pos (Int32.le_of_lt q)]
  · rw [if_neg q]
    by_cases q2 : a ≤ b
    · rw [if_pos q2]
      exact Int32.le_antisymm q2 (Int32.not_lt.mp q)
    · rw [if_neg q2]
abbrev R32 (x : Int32) : Prop := (0 : Int32) ≤ x ∧ x ≤ 32
theorem cnt_R (s : Int64) : R32 (cntF s 32) := by
  have h := cnN_le s 32
  rw [cnt_N]
  exact ⟨nI_ge0 (by omega), (nI_leI (b := 32) (by omega) (by decide)).mpr h⟩
theorem maxR_R {a b : Int32} (ha : R32 a) (hb : R32 b) : R32 (maxR a b) := by
  unfold maxR
  by_cases q : a ≤ b
  · rw [if_pos q]; exact hb
  · rw [if_neg q]; exact ha
theorem ws_R (L : Int64) (s t : Nat) (n : Int32) : R32 (wsT M L s t n) := maxR_R (cnt_R _) (cnt_R _)
theorem R32_lt {x : Int32} (h : R32 x) : x < 33 := Int32.lt_of_le_of_lt h.2 (by decide)
theorem R32_m1 {x : Int32} (h : R32 x) : ¬ x = -1 := fun z => by
  rw [z] at h
  exact absurd h.1 (by decide)
theorem worst_al (h : RInv M nt ns nk ta) (k : KR S M) {left : Int32} {L : Int64} (hz : Zx left L) {s t : Nat} (hs : s < 5) (ht : t < nt) (n : Int32) : worstF S left (nI s) (nI t) n = wsT M L s t n := by
  unfold worstF wsT
  rw [maxF_R]
  have z0 : Zx (left &&& nextF S (nI s) (nI t) 0 n) (L &&& fitT M s t 0 n) := hz.and (next_al h k hs ht (u := 0) (by decide) n)
  have z1 : Zx (left &&& nextF S (nI s) (nI t) 1 n) (L &&& fitT M s t 1 n) := hz.and (next_al h k hs ht (u := 1) (by decide) n)
  rw [z0.cnt, z1.cnt]
theorem ten_ne {s t : Nat} (hs : s < 5) (ht : t < 6) : Int32.ofInt 10 * nI s + nI t = nI (10 * s + t) := by
  rw [show Int32.ofInt 10 * nI s = nI (10 * s) from nI_mul 10 s, nI_add]
/-- the best question so far, on both sides -/
def QR (nt : Nat) (B : BQ) (Q : QT) (k : Nat) : Prop := (k = 0 ∧ B.2.2.1 = 33 ∧ Q = (-1, -1, -1)) ∨ (0 < k ∧ ∃ s t : Nat, s < 5 ∧ t < nt ∧ B.1 = nI s ∧ B.2.1 = nI t ∧ Q.1 = Int32.ofInt 10 * nI s + nI t ∧ Q.2.1 = B.2.2.1 ∧ Q.2.2 = B.2.2.2 ∧ R32 B.2.2.1)
theorem qr_step (hn6 : nt ≤ 6) {B : BQ} {Q : QT} {k s t : Nat} (hq : QR nt B Q k) (hs : s < 5) (ht : t < nt) (ks : k / nt = s) (kt : k % nt = t) (L : Int64) (n w c : Int32) (hw : w = wsT M L s t n) (hc : c = saysF M 2 t 0 (nI s)) : QR nt (considB B (nI s) (nI t) w c) (qsS M L n nt k Q) (k + 1) := by
  have hwR : R32 w := by rw [hw]; exact ws_R L s t n
  unfold qsS considB
  rw [ks, kt, ← hw, ← hc]
  refine Or.inr ⟨by omega, ?_⟩
  rcases hq with ⟨-, hB, rfl⟩ | ⟨-, s0, t0, hs0, ht0, b1, b2, q1, q2, q3, hR⟩
  · rw [if_pos (Or.inl (by rw [hB]; exact R32_lt hwR)), if_pos (Or.inl rfl), if_pos (Or.inl rfl)]
    exact ⟨s, t, hs, ht, rfl, rfl, rfl, rfl, rfl, hwR⟩
  · have n1 : ¬ Q.1 = -1 := by
      rw [q1, ten_ne hs0 (by omega)]
      exact nI_m1_ne (by omega)
    have keep : ∃ s t : Nat, s < 5 ∧ t < nt ∧ B.1 = nI s ∧ B.2.1 = nI t ∧ Q.1 = Int32.ofInt 10 * nI s + nI t ∧ Q.2.1 = B.2.2.1 ∧ Q.2.2 = B.2.2.2 ∧ R32 B.2.2.1 := ⟨s0, t0, hs0, ht0, b1, b2, q1, q2, q3, hR⟩
    rw [q2, q3]
    by_cases y1 : w < B.2.2.1
    · rw [if_pos (Or.inl y1), if_pos (Or.inr (Int32.le_of_lt y1)), if_pos (Or.inr (Or.inl y1))]
      exact ⟨s, t, hs, ht, rfl, rfl, rfl, rfl, rfl, hwR⟩
    · by_cases y2 : w = B.2.2.1
      · by_cases y3 : c < B.2.2.2
        · rw [if_pos (Or.inr ⟨y2, y3⟩), if_pos (Or.inr (by rw [y2]; exact Int32.le_refl _)), if_pos (Or.inr (Or.inr y3))]
          exact ⟨s, t, hs, ht, rfl, rfl, rfl, rfl, rfl, hwR⟩
        · rw [if_neg (fun z => z.elim y1 (fun z => y3 z.2)), if_pos (Or.inr (by rw [y2]; exact Int32.le_refl _)), if_neg (fun z => z.elim n1 (fun z => z.elim y1 y3))]
          exact keep
      · have y4 : ¬ w ≤ B.2.2.1 := fun z => y2 (Int32.le_antisymm z (Int32.not_lt.mp y1))
        rw [if_neg (fun z => z.elim y1 (fun z => y2 z.1)), if_neg (fun z => z.elim n1 y4)]
        exact keep
theorem fbI_al (h : RInv M nt ns nk ta) (k : KR S M) {left : Int32} {L : Int64} (hz : Zx left L) (n : Int32) {s : Nat} (hs : s < 5) {B : BQ} (hB : QR nt B (qsT M L n nt (s * nt)) (s * nt)) : ∀ t, t ≤ nt → QR nt (fbI S left n (nI s) B t) (qsT M L n nt (s * nt + t)) (s * nt + t)
  | 0, _ => hB
  | t + 1, ht => by
    have h6 := h.1.2.2.1.2.2
    have ih := fbI_al h k hz n hs hB t (by omega)
    have e1 : (s * nt + t) / nt = s := by
      rw [Nat.mul_comm, Nat.mul_add_div (by omega), Nat.div_eq_of_lt (by omega), Nat.add_zero]
    have e2 : (s * nt + t) % nt = t := by
      rw [Nat.mul_comm, Nat.mul_add_mod, Nat.mod_eq_of_lt (by omega)]
    exact qr_step h6 ih hs (by omega) e1 e2 L n _ _ (worst_al h k hz hs (by omega) n) (cost_al h k (by omega) hs)
theorem fb_al (h : RInv M nt ns nk ta) (k : KR S M) {left : Int32} {L : Int64} (hz : Zx left L) (n : Int32) : ∀ s, s ≤ ns → QR nt (fbO S left n nt s) (qsT M L n nt (s * nt)) (s * nt)
  | 0, _ => by
    rw [Nat.zero_mul]
    exact Or.inl ⟨rfl, rfl, rfl⟩
  | s + 1, hs => by
    have h5 := h.1.2.2.2.1.2
    have ih := fb_al h k hz n s (by omega)
    have := fbI_al h k hz n (show s < 5 by omega) ih nt (Nat.le_refl _)
    rw [Nat.succ_mul]
    exact this
theorem S_ask (r : REL S M) (what : Int32) : StE l X S M 7 sgX7_ask [.ref 0, .int what] 7 sgX8_ask [.ref 27, .int what] := by
  obtain ⟨nt, ns, nk, ta, h⟩ := id r.1
  have ki := KR.ki h r.2
  have c := c_ask (l := l) (X := X) (T := encM M) ki.1 what
  have n1 := h.1.2.2.1.2.1
  have e : (if ¬ (0 ≤ what ∧ what < 3) then (-2 : Int32) else askA S nt ns nk what) = askG M nt ns nk what := by
    unfold askG
    by_cases q : p2P what
    · rw [if_neg (fun z => z (x3_iff.mpr q)), if_pos q]
      have f := fb_al h r.2 (fit_al h r.2 nk (Nat.le_refl _)) (nI nk) ns (Nat.le_refl _)
      unfold askA askS
      rcases f with ⟨h0, -, hQ⟩ | ⟨h0, s, t, hs, ht, b1, b2, q1, q2, q3, -⟩
      · have n0 : ns = 0 := by
          rcases Nat.mul_eq_zero.mp h0 with z | z
          · exact z
          · omega
        rw [if_pos (by omega), hQ]
        by_cases w0 : what = 0
        · rw [if_pos w0]
        · rw [if_neg w0]
          by_cases w1 : what = 1
          · rw [if_pos w1]
          · rw [if_neg w1]
      · have n0 : 0 < ns := Nat.pos_of_ne_zero (fun z => by rw [z, Nat.zero_mul] at h0; omega)
        rw [if_neg (fun z => z n0), q1, q2, q3, b1, b2]
        obtain ⟨d, hd, rfl⟩ := inC (c := 2) (n := 2) (by decide) (by decide) q
        rcases (show d = 0 ∨ d = 1 ∨ d = 2 by omega) with rfl | rfl | rfl
        · rfl
        · rfl
        · rfl
    · rw [if_pos (fun z => q (x3_iff.mp z)), if_neg q]
  rw [e] at c
  exact ste r c (fun B => g_ask h.1 what)
/-! two -/
theorem wb_al (h : RInv M nt ns nk ta) (k : KR S M) (hns : 0 < ns) {fit : Int32} {F : Int64} (hz : Zx fit F) {s t : Nat} (hs : s < 5) (ht : t < nt) : (wbB S nt ns nk fit (nI s) (nI t) 2).2 = maxR (wbT M nt ns nk (F &&& fitT M s t 0 (nI nk))) (wbT M nt ns nk (F &&& fitT M s t 1 (nI nk))) ∧ R32 (maxR (wbT M nt ns nk (F &&& fitT M s t 0 (nI nk))) (wbT M nt ns nk (F &&& fitT M s t 1 (nI nk)))) := by
  have n1 := h.1.2.2.1.2.1
  have z0 : Zx (fit &&& nextF S (nI s) (nI t) (nI 0) (nI nk)) (F &&& fitT M s t 0 (nI nk)) := hz.and (next_al h k hs ht (u := 0) (by decide) (nI nk))
  have z1 : Zx (fit &&& nextF S (nI s) (nI t) (nI 1) (nI nk)) (F &&& fitT M s t 1 (nI nk)) := hz.and (next_al h k hs ht (u := 1) (by decide) (nI nk))
  have kk : 0 < ns * nt := Nat.mul_pos hns (by omega)
  have one : ∀ (B : BQ) {left : Int32} {L : Int64}, Zx left L → (fbO (setB S B) left (nI nk + 1) nt ns).2.2.1 = wbT M nt ns nk L ∧ R32 (wbT M nt ns nk L) := by
    intro B left L hzl
    have f := fb_al (S := setB S B) h (k.setB B) hzl (nI nk + 1) ns (Nat.le_refl _)
    rcases f with ⟨h0, -, -⟩ | ⟨-, s, t, -, -, -, -, -, q2, -, hR⟩
    · omega
    · refine ⟨q2.symm, ?_⟩
      unfold wbT
      rw [q2]
      exact hR
  have e0 := one (getB S) z0
  have e1 := one (wbB S nt ns nk fit (nI s) (nI t) 1).1 z1
  have m0 : maxF 0 (wbT M nt ns nk (F &&& fitT M s t 0 (nI nk))) = wbT M nt ns nk (F &&& fitT M s t 0 (nI nk)) := by
    unfold maxF
    by_cases q : 0 < wbT M nt ns nk (F &&& fitT M s t 0 (nI nk))
    · exact if_pos q
    · rw [if_neg q]
      exact Int32.le_antisymm e0.2.1 (Int32.not_lt.mp q)
  refine ⟨?_, maxR_R e0.2 e1.2⟩
  have u1 : (wbB S nt ns nk fit (nI s) (nI t) 1).2 = wbT M nt ns nk (F &&& fitT M s t 0 (nI nk)) := by
    show (if 0 < ns then maxF 0 (fbO (setB S (getB S)) (fit &&& nextF S (nI s) (nI t) (nI 0) (nI nk)) (nI nk + 1) nt ns).2.2.1 else 0) = _
    rw [if_pos hns, e0.1, m0]
  show (if 0 < ns then maxF (wbB S nt ns nk fit (nI s) (nI t) 1).2 (fbO (setB S (wbB S nt ns nk fit (nI s) (nI t) 1).1) (fit &&& nextF S (nI s) (nI t) (nI 1) (nI nk)) (nI nk + 1) nt ns).2.2.1 else (wbB S nt ns nk fit (nI s) (nI t) 1).2) = _
  rw [if_pos hns, e1.1, u1, maxF_R]
/-- the best of two questions so far, on both sides -/
def TW (M : MS) (nt ns nk : Nat) (x y : Int32) (k : Nat) : Prop := (k = 0 ∧ x = 0 ∧ y = 33) ∨ (0 < k ∧ twT M nt ns nk k = (x, y) ∧ ¬ x = -1 ∧ ¬ y = -1)
theorem tw_step (hn6 : nt ≤ 6) {x y : Int32} {k s t : Nat} (hq : TW M nt ns nk x y k) (hs : s < 5) (ht : t < nt) (ks : k / nt = s) (kt : k % nt = t) {w : Int32} (hw : w = maxR (wbT M nt ns nk (woT M nk &&& fitT M s t 0 (nI nk))) (wbT M nt ns nk (woT M nk &&& fitT M s t 1 (nI nk)))) (hR : R32 w) :
    TW M nt ns nk (if w < y then Int32.ofInt 10 * nI s + nI t else x) (if w < y then w else y) (k + 1) := by
  have nt1 : ¬ Int32.ofInt 10 * nI s + nI t = -1 := by
    rw [ten_ne hs (by omega)]
    exact nI_m1_ne (by omega)
  refine Or.inr ⟨by omega, ?_⟩
  rw [twT]
  unfold twS
  rw [ks, kt, ← hw]
  rcases hq with ⟨rfl, rfl, rfl⟩ | ⟨-, hT, nx, ny⟩
  · rw [if_pos (R32_lt hR), if_pos (R32_lt hR), show twT M nt ns nk 0 = (-1, -1) from rfl, if_pos (Or.inl rfl), if_pos (Or.inl rfl)]
    exact ⟨rfl, nt1, R32_m1 hR⟩
  · rw [hT]
    by_cases q : w < y
    · rw [if_pos q, if_pos q, if_pos (Or.inr q), if_pos (Or.inr q)]
      exact ⟨rfl, nt1, R32_m1 hR⟩
    · rw [if_neg q, if_neg q, if_neg (fun z => z.elim nx q), if_neg (fun z => z.elim ny q)]
      exact ⟨rfl, nx, ny⟩
abbrev bvQ (S : CS) (M : MS) (v : Int32) : AH → Option Value → Prop := fun h w => (∃ B, h = mk (setB S B) M) ∧ w = some (.int v)
set_option maxRecDepth 100000 in
theorem P_two (h : RInv M nt ns nk ta) (k : KR S M) (what : Int32) : Ctr l 7 X sgX7_two [.ref 0, .int what] (mk S M) (bvQ S M (twG M nt ns nk what)) := by
  have q := KR.ki h k
  have h5 := h.1.2.2.2.1.2
  have h6 := h.1.2.2.1.2.2
  have n1 := h.1.2.2.1.2.1
  refine Ctr.of okX7_two rfl (Nat.le_of_ble_eq_true rfl) (run_sound okX7_two kNtw 200 ?_)
  refine kH (c_isBelow what 2) (by decide) (brB' (fun w => ⟨⟨getB S, rfl⟩, some_int (if_neg (fun z => w (x2_iff.mpr z))).symm⟩) (fun w => ?_))
  have e : twG M nt ns nk what = if what = 0 then (twT M nt ns nk (ns * nt)).1 else (twT M nt ns nk (ns * nt)).2 := if_pos (x2_iff.mp w)
  rw [e]
  refine br (fun y => ⟨⟨getB S, rfl⟩, some_int ?_⟩) (fun y => kH (c_fitting q.1) (by decide) ?_)
  · have y : S.1 133 = 0 := y
    rw [q.1.2.2.2.1] at y
    have y0 : ns = 0 := nI_inj (b := 0) (by omega) (by decide) y
    rw [y0, Nat.zero_mul]
    by_cases w0 : what = 0
    · rw [if_pos w0]; rfl
    · rw [if_neg w0]; rfl
  · have y : ¬ S.1 133 = 0 := y
    rw [q.1.2.2.2.1] at y
    have y0 : 0 < ns := Nat.pos_of_ne_zero (fun z => y (by rw [z]; rfl))
    have kk : 0 < ns * nt := Nat.mul_pos y0 (by omega)
    have out : ∀ i, i ≤ ns → ∀ B : BQ, ∀ (x y : Int32) u v, TW M nt ns nk x y (i * nt) → WP l (rmD 7 0 0) X sgX7_two kX7_two (bvQ S M (if what = 0 then (twT M nt ns nk (ns * nt)).1 else (twT M nt ns nk (ns * nt)).2)) 21 [some (.ref 0), some (.int what), some (.int (fitF S nk)), some (.int x), some (.int y), some (.int (nI i)), u, v] [] (mk (setB S B) M) 0 0 := by
      refine down (fun B x y u v hT => ?_) (fun i hi ih B x y u v hT => ?_)
      · rcases hT with ⟨z, -⟩ | ⟨-, hT, -⟩
        · omega
        · rw [hT]
          exact run_sound okX7_two kNtw 200 (brT (nle q.1.2.2.2.1) (br (fun w0 => ⟨⟨B, rfl⟩, some_int (if_pos (c := what = 0) w0).symm⟩) (fun w0 => ⟨⟨B, rfl⟩, some_int (if_neg (c := what = 0) w0).symm⟩)))
      · have inn : ∀ j, j ≤ nt → ∀ B : BQ, ∀ (x y : Int32) v, TW M nt ns nk x y (i * nt + j) → WP l (rmD 7 0 0) X sgX7_two kX7_two (bvQ S M (if what = 0 then (twT M nt ns nk (ns * nt)).1 else (twT M nt ns nk (ns * nt)).2)) 28 [some (.ref 0), some (.int what), some (.int (fitF S nk)), some (.int x), some (.int y), some (.int (nI i)), some (.int (nI j)), v] [] (mk (setB S B) M) 0 0 := by
          refine down (fun B x y v hT => ?_) (fun j hj ih2 B x y v hT => ?_)
          · rw [← Nat.succ_mul] at hT
            have ih := ih B x y (some (.int (nI nt))) v hT
            rw [← nI_1 i] at ih
            exact run_sound okX7_two kNtw 200 (brT (nle q.1.2.1) ih)
          · have t50 : ∀ B : BQ, ∀ (x y : Int32) v, TW M nt ns nk x y (i * nt + (j + 1)) → WP l (rmD 7 0 0) X sgX7_two kX7_two (bvQ S M (if what = 0 then (twT M nt ns nk (ns * nt)).1 else (twT M nt ns nk (ns * nt)).2)) 50 [some (.ref 0), some (.int what), some (.int (fitF S nk)), some (.int x), some (.int y), some (.int (nI i)), some (.int (nI j)), v] [] (mk (setB S B) M) 0 0 := by
              intro B x y v hT
              have ih2 := ih2 B x y v hT
              rw [← nI_1 j] at ih2
              exact run_sound okX7_two kNtw 200 ih2
            have wa := wb_al (S := setB S B) h (k.setB B) y0 (fit_al h k nk (Nat.le_refl _)) (show i < 5 by omega) hj
            have e1 : (i * nt + j) / nt = i := by
              rw [Nat.mul_comm, Nat.mul_add_div (by omega), Nat.div_eq_of_lt (by omega), Nat.add_zero]
            have e2 : (i * nt + j) % nt = j := by
              rw [Nat.mul_comm, Nat.mul_add_mod, Nat.mod_eq_of_lt (by omega)]
            have ts := tw_step h6 hT (show i < 5 by omega) hj e1 e2 wa.1 (by rw [wa.1]; exact wa.2)
            refine run_sound okX7_two kNtw 200 (brF (nge q.1.2.1 hj (by omega)) (kH (c_worstBehind (T := encM M) (q.1.setB B) (fitF S nk) (nI i) (nI j)) (by decide) ?_))
            refine br (fun z => ?_) (fun z => ?_)
            · have z : ¬ (wbB (setB S B) nt ns nk (fitF S nk) (nI i) (nI j) 2).2 < y := Int32.not_lt.mpr z
              rw [if_neg z, if_neg z] at ts
              exact t50 (wbB (setB S B) nt ns nk (fitF S nk) (nI i) (nI j) 2).1 _ _ _ ts
            · have z : (wbB (setB S B) nt ns nk (fitF S nk) (nI i) (nI j) 2).2 < y := Int32.not_le.mp z
              rw [if_pos z, if_pos z] at ts
              exact t50 (wbB (setB S B) nt ns nk (fitF S nk) (nI i) (nI j) 2).1 _ _ _ ts
        exact run_sound okX7_two kNtw 200 (brF (nge q.1.2.2.2.1 hi (by omega)) (inn 0 (Nat.zero_le _) B x y v hT))
    exact out 0 (Nat.zero_le _) (getB S) _ _ _ _ (Or.inl ⟨Nat.zero_mul nt, rfl, rfl⟩)
theorem S_two (r : REL S M) (what : Int32) : StE l X S M 7 sgX7_two [.ref 0, .int what] 6 sgX8_two_ [.ref 27, .int what] := by
  obtain ⟨nt, ns, nk, ta, h⟩ := id r.1
  exact ste r (P_two h r.2 what) (fun B => g_two h.1 what)
end Q5
