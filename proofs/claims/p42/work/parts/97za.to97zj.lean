/-! parts 97za .. 97zj, joined -/
section
-- 97za.bits
/-! NUMBERS OF BITS: Integer.bitCount counts (the first rows: Int32 by its bits, of kit/laws/BITS.to-paste) -/
section BITS
def btx (x : Int32) (i : Nat) : Bool := x.toBitVec.getLsbD i
theorem b_ext {x y : Int32} (h : ∀ i, i < 32 → btx x i = btx y i) : x = y := Int32.toBitVec_inj.mp (BitVec.eq_of_getLsbD_eq (fun i hi => h i hi))
theorem b_or (x y : Int32) (i : Nat) : btx (x ||| y) i = (btx x i || btx y i) := by unfold btx; rw [Int32.toBitVec_or, BitVec.getLsbD_or]
theorem b_and (x y : Int32) (i : Nat) : btx (x &&& y) i = (btx x i && btx y i) := by unfold btx; rw [Int32.toBitVec_and, BitVec.getLsbD_and]
theorem b_big {x : Int32} {i : Nat} (h : 32 ≤ i) : btx x i = false := BitVec.getLsbD_of_ge _ _ h
theorem b_0 (i : Nat) : btx 0 i = false := BitVec.getLsbD_zero
theorem s_l : ∀ n, n < 32 → ((nI n &&& 31).toBitVec.smod 32).toNat = n := by decide +kernel
theorem s_u : ∀ n, n < 32 → (((nI n).toUInt32 &&& Int32.toUInt32 31).toBitVec % 32).toNat = n := by decide +kernel
theorem b_shl (n : Nat) (hn : n < 32) (x : Int32) {i : Nat} (hi : i < 32) : btx (x <<< (nI n &&& 31)) i = (decide (n ≤ i) && btx x (i - n)) := by
  unfold btx
  rw [Int32.toBitVec_shiftLeft]
  show (x.toBitVec <<< ((nI n &&& 31).toBitVec.smod 32).toNat).getLsbD i = _
  rw [s_l n hn, BitVec.getLsbD_shiftLeft]
  rcases Nat.lt_or_ge i n with h | h
  · simp [h, Nat.not_le.mpr h]
  · simp [hi, h, Nat.not_lt.mpr h]
theorem b_ushr (n : Nat) (hn : n < 32) (x : Int32) (i : Nat) : btx ((x.toUInt32 >>> ((nI n).toUInt32 &&& Int32.toUInt32 31)).toInt32) i = btx x (n + i) := by
  show (x.toUInt32 >>> ((nI n).toUInt32 &&& Int32.toUInt32 31)).toBitVec.getLsbD i = x.toUInt32.toBitVec.getLsbD (n + i)
  rw [UInt32.toBitVec_shiftRight]
  show (x.toUInt32.toBitVec >>> (((nI n).toUInt32 &&& Int32.toUInt32 31).toBitVec % 32).toNat).getLsbD i = _
  rw [s_u n hn, BitVec.getLsbD_ushiftRight]
theorem b_sshr (n : Nat) (hn : n < 32) (x : Int32) {i : Nat} (hi : i < 32) : btx (x >>> (nI n &&& 31)) i = if n + i < 32 then btx x (n + i) else btx x 31 := by
  unfold btx
  rw [Int32.toBitVec_shiftRight]
  show (x.toBitVec.sshiftRight ((nI n &&& 31).toBitVec.smod 32).toNat).getLsbD i = _
  rw [s_l n hn, BitVec.getLsbD_sshiftRight, BitVec.msb_eq_getLsbD_last]
  simp [hi]
theorem ush_tn (x : Int32) {n : Nat} (hn : n < 32) : ((x.toUInt32 >>> ((nI n).toUInt32 &&& Int32.toUInt32 31)).toInt32).toBitVec.toNat = x.toBitVec.toNat / 2 ^ n := by
  have e : ((x.toUInt32 >>> ((nI n).toUInt32 &&& Int32.toUInt32 31)).toInt32).toBitVec = x.toBitVec >>> n := by
    apply BitVec.eq_of_getLsbD_eq
    intro i hi
    rw [BitVec.getLsbD_ushiftRight]
    exact b_ushr n hn x i
  rw [e, BitVec.toNat_ushiftRight, Nat.shiftRight_eq_div_pow]
theorem and_split {p a b c d : Nat} (ha : a < 2 ^ p) (hc : c < 2 ^ p) : (2 ^ p * b + a) &&& (2 ^ p * d + c) = 2 ^ p * (b &&& d) + (a &&& c) := by
  apply Nat.eq_of_testBit_eq
  intro i
  rw [Nat.testBit_and, Nat.testBit_two_pow_mul_add _ ha, Nat.testBit_two_pow_mul_add _ hc, Nat.testBit_two_pow_mul_add _ (Nat.lt_of_le_of_lt Nat.and_le_left ha)]
  split <;> rw [Nat.testBit_and]
/-- four bytes -/
def quad (a b c d : Nat) : Nat := 2 ^ 8 * (2 ^ 8 * (2 ^ 8 * d + c) + b) + a
theorem quad_and {a b c d a' b' c' d' : Nat} (ha : a < 256) (hb : b < 256) (hc : c < 256) (ha' : a' < 256) (hb' : b' < 256) (hc' : c' < 256) : quad a b c d &&& quad a' b' c' d' = quad (a &&& a') (b &&& b') (c &&& c') (d &&& d') := by
  unfold quad
  rw [and_split (p := 8) ha ha', and_split (p := 8) hb hb', and_split (p := 8) hc hc']
theorem quad_of (n : Nat) : n = quad (n % 256) (n / 256 % 256) (n / 65536 % 256) (n / 16777216) := by
  unfold quad
  omega
theorem m55 : ∀ a : Fin 256, ∀ r : Fin 2, (a.val / 2 + 128 * r.val) &&& 85 = (a.val / 2) &&& 85 := by decide +kernel
theorem m33 : ∀ a : Fin 256, ∀ r : Fin 4, (a.val / 4 + 64 * r.val) &&& 51 = (a.val / 4) &&& 51 := by decide +kernel
def st1 (a : Nat) : Nat := a - ((a / 2) &&& 85)
def st2 (a : Nat) : Nat := (a &&& 51) + ((a / 4) &&& 51)
def pc8 (a : Nat) : Nat := a % 2 + a / 2 % 2 + a / 4 % 2 + a / 8 % 2 + a / 16 % 2 + a / 32 % 2 + a / 64 % 2 + a / 128 % 2
theorem st12 : ∀ a : Fin 256, st2 (st1 a.val) ≤ 68 ∧ st2 (st1 a.val) % 16 ≤ 4 ∧ st2 (st1 a.val) / 16 ≤ 4 ∧ st2 (st1 a.val) % 16 + st2 (st1 a.val) / 16 = pc8 a.val ∧ st1 a.val < 256 := by decide +kernel
theorem st2_le (a : Nat) : st2 a ≤ 102 := by
  unfold st2
  have h1 : a &&& 51 ≤ 51 := Nat.and_le_right
  have h2 : (a / 4) &&& 51 ≤ 51 := Nat.and_le_right
  omega
theorem pc8_le (a : Nat) : pc8 a ≤ 8 := by
  unfold pc8
  omega
theorem stage1 {a b c d : Nat} (ha : a < 256) (hb : b < 256) (hc : c < 256) (hd : d < 256) : quad a b c d - ((quad a b c d / 2) &&& 1431655765) = quad (st1 a) (st1 b) (st1 c) (st1 d) := by
  have e1 : quad a b c d / 2 = quad (a / 2 + 128 * (b % 2)) (b / 2 + 128 * (c % 2)) (c / 2 + 128 * (d % 2)) (d / 2) := by
    unfold quad
    omega
  have e2 : (1431655765 : Nat) = quad 85 85 85 85 := by decide
  have k1 := m55 ⟨a, ha⟩ ⟨b % 2, by omega⟩
  have k2 := m55 ⟨b, hb⟩ ⟨c % 2, by omega⟩
  have k3 := m55 ⟨c, hc⟩ ⟨d % 2, by omega⟩
  rw [e1, e2, quad_and (by omega) (by omega) (by omega) (by omega) (by omega) (by omega)]
  rw [show (a / 2 + 128 * (b % 2)) &&& 85 = (a / 2) &&& 85 from k1, show (b / 2 + 128 * (c % 2)) &&& 85 = (b / 2) &&& 85 from k2, show (c / 2 + 128 * (d % 2)) &&& 85 = (c / 2) &&& 85 from k3]
  have l1 : (a / 2) &&& 85 ≤ a / 2 := Nat.and_le_left
  have l2 : (b / 2) &&& 85 ≤ b / 2 := Nat.and_le_left
  have l3 : (c / 2) &&& 85 ≤ c / 2 := Nat.and_le_left
  have l4 : (d / 2) &&& 85 ≤ d / 2 := Nat.and_le_left
  unfold st1 quad
  omega
theorem stage2 {a b c d : Nat} (ha : a < 256) (hb : b < 256) (hc : c < 256) (hd : d < 256) : (quad a b c d &&& 858993459) + ((quad a b c d / 4) &&& 858993459) = quad (st2 a) (st2 b) (st2 c) (st2 d) := by
  have e1 : quad a b c d / 4 = quad (a / 4 + 64 * (b % 4)) (b / 4 + 64 * (c % 4)) (c / 4 + 64 * (d % 4)) (d / 4) := by
    unfold quad
    omega
  have e2 : (858993459 : Nat) = quad 51 51 51 51 := by decide
  have k1 := m33 ⟨a, ha⟩ ⟨b % 4, by omega⟩
  have k2 := m33 ⟨b, hb⟩ ⟨c % 4, by omega⟩
  have k3 := m33 ⟨c, hc⟩ ⟨d % 4, by omega⟩
  rw [e1, e2, quad_and ha hb hc (by omega) (by omega) (by omega), quad_and (by omega) (by omega) (by omega) (by omega) (by omega) (by omega)]
  rw [show (a / 4 + 64 * (b % 4)) &&& 51 = (a / 4) &&& 51 from k1, show (b / 4 + 64 * (c % 4)) &&& 51 = (b / 4) &&& 51 from k2, show (c / 4 + 64 * (d % 4)) &&& 51 = (c / 4) &&& 51 from k3]
  unfold st2 quad
  omega
theorem and15 (y : Nat) : y &&& 15 = y % 16 := Nat.and_two_pow_sub_one_eq_mod y 4
theorem stage3 {a b c d : Nat} (ha : a ≤ 68 ∧ a % 16 ≤ 4 ∧ a / 16 ≤ 4) (hb : b ≤ 68 ∧ b % 16 ≤ 4 ∧ b / 16 ≤ 4) (hc : c ≤ 68 ∧ c % 16 ≤ 4 ∧ c / 16 ≤ 4) (hd : d ≤ 68 ∧ d % 16 ≤ 4 ∧ d / 16 ≤ 4) :
    (quad a b c d + quad a b c d / 16) &&& 252645135 = quad (a % 16 + a / 16) (b % 16 + b / 16) (c % 16 + c / 16) (d % 16 + d / 16) := by
  have e1 : quad a b c d + quad a b c d / 16 = quad (a + a / 16 + 16 * (b % 16)) (b + b / 16 + 16 * (c % 16)) (c + c / 16 + 16 * (d % 16)) (d + d / 16) := by
    unfold quad
    omega
  have e2 : (252645135 : Nat) = quad 15 15 15 15 := by decide
  rw [e1, e2, quad_and (by omega) (by omega) (by omega) (by omega) (by omega) (by omega), and15, and15, and15, and15]
  have f1 : (a + a / 16 + 16 * (b % 16)) % 16 = a % 16 + a / 16 := by omega
  have f2 : (b + b / 16 + 16 * (c % 16)) % 16 = b % 16 + b / 16 := by omega
  have f3 : (c + c / 16 + 16 * (d % 16)) % 16 = c % 16 + c / 16 := by omega
  have f4 : (d + d / 16) % 16 = d % 16 + d / 16 := by omega
  rw [f1, f2, f3, f4]
theorem stage45 {a b c d : Nat} (ha : a ≤ 8) (hb : b ≤ 8) (hc : c ≤ 8) (hd : d ≤ 8) : ((quad a b c d + quad a b c d / 256) + (quad a b c d + quad a b c d / 256) / 65536) % 64 = a + b + c + d ∧ (quad a b c d + quad a b c d / 256) + (quad a b c d + quad a b c d / 256) / 65536 < 4294967296 := by
  have e1 : quad a b c d + quad a b c d / 256 = quad (a + b) (b + c) (c + d) d := by
    unfold quad
    omega
  have e2 : quad (a + b) (b + c) (c + d) d / 65536 = 256 * d + (c + d) := by
    unfold quad
    omega
  rw [e1, e2]
  unfold quad
  omega
theorem tn_and (x y : Int32) : (x &&& y).toBitVec.toNat = x.toBitVec.toNat &&& y.toBitVec.toNat := by rw [Int32.toBitVec_and, BitVec.toNat_and]
theorem tn_add {x y : Int32} (h : x.toBitVec.toNat + y.toBitVec.toNat < 4294967296) : (x + y).toBitVec.toNat = x.toBitVec.toNat + y.toBitVec.toNat := by
  rw [Int32.toBitVec_add, BitVec.toNat_add, Nat.mod_eq_of_lt h]
theorem tn_sub {x y : Int32} (h : y.toBitVec.toNat ≤ x.toBitVec.toNat) : (x - y).toBitVec.toNat = x.toBitVec.toNat - y.toBitVec.toNat := by
  rw [Int32.toBitVec_sub, BitVec.toNat_sub]
  have := x.toBitVec.isLt
  omega
theorem quad_lt {a b c d : Nat} (ha : a < 256) (hb : b < 256) (hc : c < 256) (hd : d < 256) : quad a b c d < 4294967296 := by
  unfold quad
  omega
theorem bcF_tn (x : Int32) : (bcF x).toBitVec.toNat = pc8 (x.toBitVec.toNat % 256) + pc8 (x.toBitVec.toNat / 256 % 256) + pc8 (x.toBitVec.toNat / 65536 % 256) + pc8 (x.toBitVec.toNat / 16777216) := by
  have hlt := x.toBitVec.isLt
  obtain ⟨n, hn⟩ : ∃ n, n = x.toBitVec.toNat := ⟨_, rfl⟩
  rw [← hn] at hlt ⊢
  have ha : n % 256 < 256 := by omega
  have hb : n / 256 % 256 < 256 := by omega
  have hc : n / 65536 % 256 < 256 := by omega
  have hd : n / 16777216 < 256 := by omega
  have hq := quad_of n
  generalize n % 256 = a at ha hq ⊢
  generalize n / 256 % 256 = b at hb hq ⊢
  generalize n / 65536 % 256 = c at hc hq ⊢
  generalize n / 16777216 = d at hd hq ⊢
  obtain ⟨a1, a2, a3, a4, a5⟩ := st12 ⟨a, ha⟩
  obtain ⟨b1, b2, b3, b4, b5⟩ := st12 ⟨b, hb⟩
  obtain ⟨c1, c2, c3, c4, c5⟩ := st12 ⟨c, hc⟩
  obtain ⟨d1, d2, d3, d4, d5⟩ := st12 ⟨d, hd⟩
  have t1 : (bc1 x).toBitVec.toNat = quad (st1 a) (st1 b) (st1 c) (st1 d) := by
    unfold bc1
    have u : ((x.toUInt32 >>> ((1 : Int32).toUInt32 &&& Int32.toUInt32 31)).toInt32).toBitVec.toNat = n / 2 := by
      rw [hn]; exact ush_tn x (n := 1) (by decide)
    have v : ((x.toUInt32 >>> ((1 : Int32).toUInt32 &&& Int32.toUInt32 31)).toInt32 &&& 1431655765).toBitVec.toNat = (n / 2) &&& 1431655765 := by
      rw [tn_and, u]; rfl
    rw [tn_sub (by rw [v, ← hn]; exact Nat.le_trans Nat.and_le_left (Nat.div_le_self n 2)), v, ← hn, hq]
    exact stage1 ha hb hc hd
  have t2 : (bc2 (bc1 x)).toBitVec.toNat = quad (st2 (st1 a)) (st2 (st1 b)) (st2 (st1 c)) (st2 (st1 d)) := by
    unfold bc2
    have u : (((bc1 x).toUInt32 >>> ((2 : Int32).toUInt32 &&& Int32.toUInt32 31)).toInt32 &&& 858993459).toBitVec.toNat = (quad (st1 a) (st1 b) (st1 c) (st1 d) / 4) &&& 858993459 := by
      rw [tn_and, show (((bc1 x).toUInt32 >>> ((2 : Int32).toUInt32 &&& Int32.toUInt32 31)).toInt32).toBitVec.toNat = (bc1 x).toBitVec.toNat / 2 ^ 2 from ush_tn (bc1 x) (n := 2) (by decide), t1]
      rfl
    have v : (bc1 x &&& 858993459).toBitVec.toNat = quad (st1 a) (st1 b) (st1 c) (st1 d) &&& 858993459 := by
      rw [tn_and, t1]; rfl
    have w := stage2 (a := st1 a) (b := st1 b) (c := st1 c) (d := st1 d) a5 b5 c5 d5
    rw [tn_add (by rw [u, v, w]; exact quad_lt (by have := st2_le (st1 a); omega) (by have := st2_le (st1 b); omega) (by have := st2_le (st1 c); omega) (by have := st2_le (st1 d); omega)), u, v]
    exact w
  have t3 : (bc3 (bc2 (bc1 x))).toBitVec.toNat = quad (pc8 a) (pc8 b) (pc8 c) (pc8 d) := by
    unfold bc3
    have u : (((bc2 (bc1 x)).toUInt32 >>> ((4 : Int32).toUInt32 &&& Int32.toUInt32 31)).toInt32).toBitVec.toNat = (bc2 (bc1 x)).toBitVec.toNat / 16 := ush_tn (bc2 (bc1 x)) (n := 4) (by decide)
    have w := stage3 ⟨a1, a2, a3⟩ ⟨b1, b2, b3⟩ ⟨c1, c2, c3⟩ ⟨d1, d2, d3⟩
    rw [tn_and, tn_add (by
      rw [u, t2]
      have a1 : st2 (st1 a) ≤ 68 := a1
      have b1 : st2 (st1 b) ≤ 68 := b1
      have c1 : st2 (st1 c) ≤ 68 := c1
      have d1 : st2 (st1 d) ≤ 68 := d1
      unfold quad
      omega), u, t2]
    rw [a4, b4, c4, d4] at w
    exact w
  have p1 := pc8_le a
  have p2 := pc8_le b
  have p3 := pc8_le c
  have p4 := pc8_le d
  obtain ⟨w1, w2⟩ := stage45 p1 p2 p3 p4
  have t4 : (bc4 (bc3 (bc2 (bc1 x)))).toBitVec.toNat = quad (pc8 a) (pc8 b) (pc8 c) (pc8 d) + quad (pc8 a) (pc8 b) (pc8 c) (pc8 d) / 256 := by
    unfold bc4
    have u : (((bc3 (bc2 (bc1 x))).toUInt32 >>> ((8 : Int32).toUInt32 &&& Int32.toUInt32 31)).toInt32).toBitVec.toNat = (bc3 (bc2 (bc1 x))).toBitVec.toNat / 256 := ush_tn _ (n := 8) (by decide)
    rw [tn_add (by rw [u, t3]; omega), u, t3]
  unfold bcF bc5
  have u : (((bc4 (bc3 (bc2 (bc1 x)))).toUInt32 >>> ((16 : Int32).toUInt32 &&& Int32.toUInt32 31)).toInt32).toBitVec.toNat = (bc4 (bc3 (bc2 (bc1 x)))).toBitVec.toNat / 65536 := ush_tn _ (n := 16) (by decide)
  rw [tn_and, tn_add (by rw [u, t4]; exact w2), u, t4]
  rw [show (63 : Int32).toBitVec.toNat = 2 ^ 6 - 1 from rfl, Nat.and_two_pow_sub_one_eq_mod]
  exact w1
/-- bits below k -/
def cB (n : Nat) : Nat → Nat
  | 0 => 0
  | k + 1 => cB n k + n / 2 ^ k % 2
theorem cB_add (n : Nat) : ∀ k, cB n (8 + k) = cB n 8 + cB (n / 256) k
  | 0 => rfl
  | k + 1 => by
    show cB n (8 + k) + n / 2 ^ (8 + k) % 2 = cB n 8 + (cB (n / 256) k + n / 256 / 2 ^ k % 2)
    rw [cB_add n k, Nat.pow_add, ← Nat.div_div_eq_div_mul, show (2 : Nat) ^ 8 = 256 from rfl]
    omega
theorem cB_8 (n : Nat) : cB n 8 = pc8 (n % 256) := by
  show 0 + n / 2 ^ 0 % 2 + n / 2 ^ 1 % 2 + n / 2 ^ 2 % 2 + n / 2 ^ 3 % 2 + n / 2 ^ 4 % 2 + n / 2 ^ 5 % 2 + n / 2 ^ 6 % 2 + n / 2 ^ 7 % 2 = _
  unfold pc8
  omega
theorem cB_32 {n : Nat} (h : n < 4294967296) : cB n 32 = pc8 (n % 256) + pc8 (n / 256 % 256) + pc8 (n / 65536 % 256) + pc8 (n / 16777216) := by
  have e1 := cB_add n 24
  have e2 := cB_add (n / 256) 16
  have e3 := cB_add (n / 256 / 256) 8
  rw [show 8 + 24 = 32 from rfl] at e1
  rw [show 8 + 16 = 24 from rfl] at e2
  rw [show 8 + 8 = 16 from rfl] at e3
  rw [e1, e2, e3, cB_8, cB_8, cB_8, cB_8]
  rw [show n / 256 / 256 = n / 65536 by omega, show n / 65536 / 256 % 256 = n / 16777216 by omega]
  omega
/-! sets of worlds, by their bits -/
theorem Zx.get {a : Int32} {b : Int64} (h : Zx a b) (i : Nat) : b.toBitVec.getLsbD i = a.toBitVec.getLsbD i := by
  rw [h.bit]
  by_cases q : i < 64
  · rw [decide_eq_true q, Bool.true_and]
  · rw [decide_eq_false q, Bool.false_and, BitVec.getLsbD_of_ge _ _ (by omega)]
theorem Zx.mk {a : Int32} {b : Int64} (h : ∀ i, i < 64 → b.toBitVec.getLsbD i = a.toBitVec.getLsbD i) : Zx a b := Zx.ext (fun i hi => by rw [h i hi, decide_eq_true hi, Bool.true_and])
theorem Zx.eq {a a' : Int32} {b b' : Int64} (h : Zx a b) (h' : Zx a' b') : a = a' ↔ b = b' := by
  constructor
  · rintro rfl
    apply Int64.toBitVec_inj.mp
    rw [h, h']
  · rintro rfl
    apply Int32.toBitVec_inj.mp
    apply BitVec.eq_of_getLsbD_eq
    intro i _
    rw [← h.get, ← h'.get]
theorem Zx.zero {a : Int32} {b : Int64} (h : Zx a b) : a = 0 ↔ b = 0 := h.eq Zx.z
theorem bv_m1 (i : Nat) : (-1 : Int32).toBitVec.getLsbD i = decide (i < 32) := by
  rw [show (-1 : Int32).toBitVec = BitVec.allOnes 32 from by decide, BitVec.getLsbD_allOnes]
theorem bl_m1 (i : Nat) : (-1 : Int64).toBitVec.getLsbD i = decide (i < 64) := by
  rw [show (-1 : Int64).toBitVec = BitVec.allOnes 64 from by decide, BitVec.getLsbD_allOnes]
theorem bl_all (i : Nat) : (4294967295 : Int64).toBitVec.getLsbD i = decide (i < 32) := by
  rw [show (4294967295 : Int64).toBitVec = (BitVec.allOnes 32).setWidth 64 from by decide, BitVec.getLsbD_setWidth, BitVec.getLsbD_allOnes]
  by_cases q : i < 32
  · rw [decide_eq_true q, decide_eq_true (by omega)]; rfl
  · rw [decide_eq_false q, Bool.and_false]
theorem Zx.bits {a : Int32} {b : Int64} (h : Zx a b) : bitsF a = b := by
  apply Int64.toBitVec_inj.mp
  apply BitVec.eq_of_getLsbD_eq
  intro i hi
  unfold bitsF
  rw [Int64.toBitVec_and, BitVec.getLsbD_and, bl_all, h.get, Int32.toBitVec_toInt64, BitVec.getLsbD_signExtend]
  by_cases q : i < 32
  · rw [decide_eq_true q, decide_eq_true hi, if_pos q]
    simp
  · rw [decide_eq_false q, Bool.and_false, BitVec.getLsbD_of_ge _ _ (by omega)]
theorem bitF_get (a : Int32) {w : Nat} (hw : w < 32) : bitF a (nI w) = 1 ↔ a.toBitVec.getLsbD w = true := by
  unfold bitF
  have e : ((a.toUInt32 >>> ((nI w).toUInt32 &&& Int32.toUInt32 31)).toInt32 &&& 1).toBitVec.toNat = a.toBitVec.toNat / 2 ^ w % 2 := by
    rw [tn_and, ush_tn a hw]
    exact Nat.and_two_pow_sub_one_eq_mod _ 1
  have e2 : a.toBitVec.getLsbD w = decide (a.toBitVec.toNat / 2 ^ w % 2 = 1) := by
    rw [BitVec.getLsbD, Nat.testBit_eq_decide_div_mod_eq]
  rw [e2, decide_eq_true_iff, ← e]
  constructor
  · intro h
    rw [h]; rfl
  · intro h
    apply Int32.toBitVec_inj.mp
    apply BitVec.eq_of_toNat_eq
    rw [h]; rfl
theorem bitF_01 (a i : Int32) : bitF a i = 0 ∨ bitF a i = 1 := by
  unfold bitF
  have e : ((a.toUInt32 >>> (i.toUInt32 &&& Int32.toUInt32 31)).toInt32 &&& 1).toBitVec.toNat = ((a.toUInt32 >>> (i.toUInt32 &&& Int32.toUInt32 31)).toInt32).toBitVec.toNat % 2 := by
    rw [tn_and]
    exact Nat.and_two_pow_sub_one_eq_mod _ 1
  rcases Nat.mod_two_eq_zero_or_one ((a.toUInt32 >>> (i.toUInt32 &&& Int32.toUInt32 31)).toInt32).toBitVec.toNat with q | q
  · rw [q] at e
    exact Or.inl (Int32.toBitVec_inj.mp (BitVec.eq_of_toNat_eq e))
  · rw [q] at e
    exact Or.inr (Int32.toBitVec_inj.mp (BitVec.eq_of_toNat_eq e))
theorem bitF_z (a i : Int32) : bitF a i = 0 ↔ ¬ bitF a i = 1 := by
  rcases bitF_01 a i with h | h <;> rw [h] <;> decide
theorem Zx.has {a : Int32} {b : Int64} (h : Zx a b) {w : Nat} (hw : w < 32) : bitF a (nI w) = 1 ↔ hsP b (nI w) := by
  rw [bitF_get a hw, hs_bit hw, h.get]
theorem cnN_cB {a : Int32} {b : Int64} (h : Zx a b) : ∀ k, k ≤ 32 → cnN b k = cB a.toBitVec.toNat k
  | 0, _ => rfl
  | k + 1, hk => by
    rw [cnN, cB, cnN_cB h k (by omega)]
    congr 1
    have e2 : a.toBitVec.getLsbD k = decide (a.toBitVec.toNat / 2 ^ k % 2 = 1) := by
      rw [BitVec.getLsbD, Nat.testBit_eq_decide_div_mod_eq]
    by_cases q : hsP b (nI k)
    · have q2 := (hs_bit (by omega)).mp q
      rw [h.get, e2, decide_eq_true_iff] at q2
      rw [if_pos q, q2]
    · have q2 : ¬ a.toBitVec.toNat / 2 ^ k % 2 = 1 := fun z => q ((hs_bit (by omega)).mpr (by rw [h.get, e2, z]; rfl))
      rw [if_neg q]
      omega
theorem Zx.cnt {a : Int32} {b : Int64} (h : Zx a b) : bcF a = cntF b 32 := by
  rw [cnt_N, cnN_cB h 32 (Nat.le_refl _), cB_32 a.toBitVec.isLt, ← bcF_tn]
  apply Int32.toBitVec_inj.mp
  show _ = BitVec.ofNat 32 _
  simp
end BITS
end
section
-- 97zb.fital
/-! WORLDS ALIKE: what is said, what fits -/
section FITAL
variable {S : CS} {M : MS} {nt ns nk ta : Nat}
theorem one_sub {u : Nat} (hu : u < 2) : (1 : Int32) - nI u = nI (1 - u) := by
  rcases (show u = 0 ∨ u = 1 by omega) with rfl | rfl <;> decide
theorem mtF_ix {t who u : Nat} (hw : who < 5) (hu : u < 2) : mtF M (10 * t + 2 * who + u) = soF M u t (nI who) 32 := by
  unfold mtF
  rw [show (10 * t + 2 * who + u) % 2 = u by omega, show (10 * t + 2 * who + u) / 10 = t by omega, show (10 * t + 2 * who + u) / 2 % 5 = who by omega]
theorem side_al (h : RInv M nt ns nk ta) (k : KR S M) {t who u : Nat} (ht : t < nt) (hw : who < 5) (hu : u < 2) : Zx (sideF S (nI t) (nI who) (nI u)) (mtF M (10 * t + 2 * who + u)) := by
  have h96 := h.1.2.2.1.2.2
  have tx := k.tx.2.2
  rw [h.1.2.2.1.1, nI_clamp (by omega)] at tx
  obtain ⟨z0, z1, -⟩ := tx t ht who hw
  rw [mtF_ix hw hu]
  unfold sideF
  rw [show nI t * 5 = nI (t * 5) from nI_mul t 5, nI_add, atF_n (by omega), Nat.mul_comm t 5]
  rcases (show u = 0 ∨ u = 1 by omega) with rfl | rfl
  · exact z0
  · exact z1
theorem cost_al (h : RInv M nt ns nk ta) (k : KR S M) {t who : Nat} (ht : t < nt) (hw : who < 5) : costF S (nI t) (nI who) = saysF M 2 t 0 (nI who) := by
  have h96 := h.1.2.2.1.2.2
  have tx := k.tx.2.2
  rw [h.1.2.2.1.1, nI_clamp (by omega)] at tx
  unfold costF
  rw [show nI t * 5 = nI (t * 5) from nI_mul t 5, nI_add, atF_n (by omega), Nat.mul_comm t 5]
  exact (tx t ht who hw).2.2
theorem once_al (h : RInv M nt ns nk ta) (k : KR S M) {t : Nat} (ht : t < nt) : Zx (onceF S (nI t)) (mtF M (10 * t)) := side_al h k ht (who := 0) (u := 0) (by decide) (by decide)
/-! who can say what -/
theorem zz_m1 {p : Int32} {P : Int64} (hp : Zx p P) : Zx (p ^^^ -1) (4294967295 &&& (P ^^^ -1)) := Zx.mk (fun i hi => by
  rw [Int64.toBitVec_and, Int64.toBitVec_xor, Int32.toBitVec_xor, BitVec.getLsbD_and, BitVec.getLsbD_xor, BitVec.getLsbD_xor, hp.get, bl_all, bl_m1, bv_m1, decide_eq_true hi]
  by_cases q : i < 32
  · rw [decide_eq_true q, Bool.true_and]
  · rw [decide_eq_false q, Bool.false_and, BitVec.getLsbD_of_ge _ _ (by omega)]; rfl)
theorem zz_pq {p q : Int32} {P Q : Int64} (hp : Zx p P) (hq : Zx q Q) : Zx (p &&& (q ^^^ -1)) ((P ^^^ Q) &&& P) := Zx.mk (fun i hi => by
  rw [Int64.toBitVec_and, Int64.toBitVec_xor, Int32.toBitVec_and, Int32.toBitVec_xor, BitVec.getLsbD_and, BitVec.getLsbD_xor, BitVec.getLsbD_and, BitVec.getLsbD_xor, hp.get, hq.get, bv_m1]
  by_cases h : i < 32
  · rw [decide_eq_true h]
    cases p.toBitVec.getLsbD i <;> cases q.toBitVec.getLsbD i <;> rfl
  · rw [BitVec.getLsbD_of_ge p.toBitVec i (by omega)]
    cases q.toBitVec.getLsbD i <;> rfl)
theorem zz_qp {p q : Int32} {P Q : Int64} (hp : Zx p P) (hq : Zx q Q) : Zx (q &&& (p ^^^ -1)) ((P ^^^ Q) &&& Q) := Zx.mk (fun i hi => by
  rw [Int64.toBitVec_and, Int64.toBitVec_xor, Int32.toBitVec_and, Int32.toBitVec_xor, BitVec.getLsbD_and, BitVec.getLsbD_xor, BitVec.getLsbD_and, BitVec.getLsbD_xor, hp.get, hq.get, bv_m1]
  by_cases h : i < 32
  · rw [decide_eq_true h]
    cases p.toBitVec.getLsbD i <;> cases q.toBitVec.getLsbD i <;> rfl
  · rw [BitVec.getLsbD_of_ge p.toBitVec i (by omega), BitVec.getLsbD_of_ge q.toBitVec i (by omega)]; rfl)
theorem zz_qn {p q : Int32} {P Q : Int64} (hp : Zx p P) (hq : Zx q Q) : Zx (p ^^^ -1) (((P ^^^ Q) &&& Q) ||| (4294967295 &&& (P ^^^ -1) &&& (Q ^^^ -1))) := Zx.mk (fun i hi => by
  rw [Int64.toBitVec_or, Int64.toBitVec_and, Int64.toBitVec_and, Int64.toBitVec_and, Int64.toBitVec_xor, Int64.toBitVec_xor, Int64.toBitVec_xor, Int32.toBitVec_xor, BitVec.getLsbD_or, BitVec.getLsbD_and, BitVec.getLsbD_and, BitVec.getLsbD_and, BitVec.getLsbD_xor, BitVec.getLsbD_xor, BitVec.getLsbD_xor, BitVec.getLsbD_xor, hp.get, hq.get, bv_m1, bl_m1, bl_all, decide_eq_true hi]
  by_cases h : i < 32
  · rw [decide_eq_true h]
    cases p.toBitVec.getLsbD i <;> cases q.toBitVec.getLsbD i <;> rfl
  · rw [decide_eq_false h, BitVec.getLsbD_of_ge p.toBitVec i (by omega), BitVec.getLsbD_of_ge q.toBitVec i (by omega)]; rfl)
theorem zz_or0 {p : Int32} {P : Int64} (hp : Zx p P) : Zx p (P ||| 0) := by
  rw [show P ||| 0 = P from Int64.or_zero]
  exact hp
def canX (k much n : Int32) (p q one : Int64) : Int64 := if k = 1 ∨ k = 3 then one &&& (if k = 3 ∧ n - n / (much + 2) * (much + 2) = 0 then q else p)
  else if k = 2 ∨ k = 5 then (one &&& q) ||| (if k = 5 ∧ ¬ n < much then 4294967295 &&& (p ^^^ -1) &&& (q ^^^ -1) else 0)
  else if k = 4 then 4294967295 &&& (one ^^^ -1) else one
theorem canX_eq (k much n : Int32) (p q : Int64) : canL k much n p q = canX k much n p q (p ^^^ q) := rfl
theorem can_al {kind more n p q : Int32} {P Q : Int64} (hk : Kd kind more) (hp : Zx p P) (hq : Zx q Q) : Zx (canF kind more n p q) (canL kind more n P Q) := by
  obtain ⟨⟨k0, k5⟩, m0, m9⟩ := hk
  obtain ⟨j, hj, rfl⟩ := inC (c := 5) (n := 5) (by decide) (by decide) ⟨k0, k5⟩
  have hm : ¬ more + 2 ≤ 0 := by
    obtain ⟨m, hm, rfl⟩ := inC (c := 9) (n := 9) (by decide) (by decide) ⟨m0, m9⟩
    have : ∀ m : Fin 10, ¬ nI m.val + 2 ≤ 0 := by decide
    exact this ⟨m, by omega⟩
  rcases (show j = 0 ∨ j = 1 ∨ j = 2 ∨ j = 3 ∨ j = 4 ∨ j = 5 by omega) with rfl | rfl | rfl | rfl | rfl | rfl
  · exact hp.xor hq
  · have e : canL (nI 1) more n P Q = (P ^^^ Q) &&& P := by
      rw [canX_eq]
      unfold canX
      rw [if_pos (show nI 1 = 1 ∨ nI 1 = 3 from Or.inl rfl), if_neg (show ¬ (nI 1 = 3 ∧ n - n / (more + 2) * (more + 2) = 0) from fun z => absurd z.1 (by decide))]
    rw [e]
    exact zz_pq hp hq
  · have e : canL (nI 2) more n P Q = ((P ^^^ Q) &&& Q) ||| 0 := by
      rw [canX_eq]
      unfold canX
      rw [if_neg (by decide), if_pos (show nI 2 = 2 ∨ nI 2 = 5 from Or.inl rfl), if_neg (show ¬ (nI 2 = 5 ∧ ¬ n < more) from fun z => absurd z.1 (by decide))]
    rw [e]
    exact zz_or0 (zz_qp hp hq)
  · have e : canL (nI 3) more n P Q = (P ^^^ Q) &&& (if n - n / (more + 2) * (more + 2) = 0 then Q else P) := by
      rw [canX_eq]
      unfold canX
      rw [if_pos (show nI 3 = 1 ∨ nI 3 = 3 from Or.inr rfl)]
      by_cases t : n - n / (more + 2) * (more + 2) = 0
      · rw [if_pos ⟨rfl, t⟩, if_pos t]
      · rw [if_neg (fun z => t z.2), if_neg t]
    have e2 : canF (nI 3) more n p q = if turnsF n more = 0 then p &&& (q ^^^ -1) else q &&& (p ^^^ -1) := (if_neg (by decide)).trans ((if_neg (by decide)).trans (if_pos rfl))
    rw [e, e2]
    unfold turnsF
    rw [if_neg hm]
    by_cases t : n - n / (more + 2) * (more + 2) = 0
    · rw [if_pos t, if_pos t, if_neg (by decide)]
      exact zz_qp hp hq
    · rw [if_neg t, if_neg t, if_pos rfl]
      exact zz_pq hp hq
  · have e : canL (nI 4) more n P Q = 4294967295 &&& ((P ^^^ Q) ^^^ -1) := by
      rw [canX_eq]
      unfold canX
      rw [if_neg (by decide), if_neg (by decide), if_pos (show nI 4 = 4 from rfl)]
    rw [e]
    exact zz_m1 (hp.xor hq)
  · have e : canL (nI 5) more n P Q = ((P ^^^ Q) &&& Q) ||| (if ¬ n < more then 4294967295 &&& (P ^^^ -1) &&& (Q ^^^ -1) else 0) := by
      rw [canX_eq]
      unfold canX
      rw [if_neg (by decide), if_pos (show nI 5 = 2 ∨ nI 5 = 5 from Or.inr rfl)]
      by_cases t : n < more
      · rw [if_neg (fun z => z.2 t), if_neg (fun z => z t)]
      · rw [if_pos ⟨rfl, t⟩, if_pos t]
    have e2 : canF (nI 5) more n p q = if n < more then q &&& (p ^^^ -1) else p ^^^ -1 := (if_neg (by decide)).trans ((if_neg (by decide)).trans ((if_neg (by decide)).trans ((if_neg (by decide)).trans (if_pos rfl))))
    rw [e, e2]
    by_cases t : n < more
    · rw [if_pos t, if_neg (fun z => z t)]
      exact zz_or0 (zz_qp hp hq)
    · rw [if_neg t, if_pos t]
      exact zz_qn hp hq
theorem kd_al (h : RInv M nt ns nk ta) {s : Nat} (hs : s < 5) : Kd ((M.2.1 1).getD s 0) ((M.2.1 2).getD s 0) := h.1.2.2.2.2.2.2.1 s hs
theorem kind_al (k : KR S M) {s : Nat} (hs : s < 5) : atF (S.2 14) (nI s) = (M.2.1 1).getD s 0 ∧ atF (S.2 15) (nI s) = (M.2.1 2).getD s 0 := by
  obtain ⟨-, -, -, r1, r2, -⟩ := k.rt
  rw [r1, r2, atF_n (by omega), atF_n (by omega)]
  exact ⟨rfl, rfl⟩
theorem next_al (h : RInv M nt ns nk ta) (k : KR S M) {s t u : Nat} (hs : s < 5) (ht : t < nt) (hu : u < 2) (n : Int32) : Zx (nextF S (nI s) (nI t) (nI u) n) (fitT M s t u n) := by
  unfold nextF fitT
  rw [(kind_al k hs).1, (kind_al k hs).2, one_sub hu, show 10 * t + 2 * s + 1 - u = 10 * t + 2 * s + (1 - u) by omega]
  exact can_al (kd_al h hs) (side_al h k ht hs hu) (side_al h k ht hs (by omega))
theorem part_al (h : RInv M nt ns nk ta) (k : KR S M) {i : Nat} (hi : i < nk) : partF S (nI i) 0 = nI (tk M i 0) ∧ partF S (nI i) 1 = nI (tk M i 1) ∧ partF S (nI i) 2 = nI (tk M i 2) := by
  obtain ⟨-, -, -, -, -, r4⟩ := k.rt
  have h12 := h.1.2.2.2.2.1.2
  obtain ⟨e0, e1, e2, -⟩ := tk_ok h.1 hi
  unfold partF
  rw [r4, show (3 : Int32) * nI i = nI (3 * i) from nI_mul 3 i]
  refine ⟨?_, ?_, ?_⟩
  · rw [show nI (3 * i) + 0 = nI (3 * i) from Int32.add_zero _, atF_n (by omega)]; exact e0
  · rw [show nI (3 * i) + 1 = nI (3 * i + 1) from nI_add _ 1, atF_n (by omega)]; exact e1
  · rw [show nI (3 * i) + 2 = nI (3 * i + 2) from nI_add _ 2, atF_n (by omega)]; exact e2
theorem pq_al (h : RInv M nt ns nk ta) (k : KR S M) {i : Nat} (hi : i < nk) : Zx (firstF S (nI i)) (mtF M (10 * tk M i 1 + 2 * tk M i 0 + tk M i 2)) ∧ Zx (secondF S (nI i)) (mtF M (10 * tk M i 1 + 2 * tk M i 0 + 1 - tk M i 2)) := by
  obtain ⟨p0, p1, p2⟩ := part_al h k hi
  obtain ⟨-, -, -, b0, b1, b2⟩ := tk_ok h.1 hi
  unfold firstF secondF
  rw [p0, p1, p2, one_sub b2, show 10 * tk M i 1 + 2 * tk M i 0 + 1 - tk M i 2 = 10 * tk M i 1 + 2 * tk M i 0 + (1 - tk M i 2) by omega]
  exact ⟨side_al h k b1 b0 b2, side_al h k b1 b0 (by omega)⟩
theorem as_al (h : RInv M nt ns nk ta) (k : KR S M) {i : Nat} (hi : i < nk) {kind : Int32} (hk : (0 : Int32) ≤ kind ∧ kind ≤ 5) : Zx (asF S (nI i) kind) (asT M i kind) := by
  obtain ⟨p0, p1, p2⟩ := part_al h k hi
  obtain ⟨-, -, -, b0, b1, b2⟩ := tk_ok h.1 hi
  obtain ⟨z1, z2⟩ := pq_al h k hi
  unfold asF asT
  rw [p0, (kind_al k b0).2]
  exact can_al ⟨hk, (kd_al h b0).2⟩ z1 z2
theorem say_al (h : RInv M nt ns nk ta) (k : KR S M) {i : Nat} (hi : i < nk) : Zx (sayF S (nI i)) (fsT M i) := by
  obtain ⟨p0, p1, p2⟩ := part_al h k hi
  obtain ⟨-, -, -, b0, b1, b2⟩ := tk_ok h.1 hi
  unfold sayF
  rw [p0, (kind_al k b0).1]
  exact as_al h k hi (kd_al h b0).1
theorem law_al (h : RInv M nt ns nk ta) (k : KR S M) : Zx (lawF S) (woT M 0) := by
  obtain ⟨r, hr, er, ec⟩ := rl_ok h.1
  obtain ⟨-, -, r10, -⟩ := k.rt
  unfold lawF woT
  rw [ec, r10, er]
  exact once_al h k hr
theorem fit_al (h : RInv M nt ns nk ta) (k : KR S M) : ∀ m, m ≤ nk → Zx (fitF S m) (woT M m)
  | 0, _ => law_al h k
  | m + 1, hm => (fit_al h k m (by omega)).and (say_al h k (by omega))
/-- a bit of a number, shifted with its sign -/
theorem sshr_get (a : Int32) {w : Nat} (hw : w < 32) : a >>> (nI w &&& 31) &&& 1 = 1 ↔ a.toBitVec.getLsbD w = true := by
  have e : (a >>> (nI w &&& 31) &&& 1) = bitF a (nI w) := by
    apply b_ext
    intro i hi
    unfold bitF
    rw [b_and, b_and]
    by_cases q : i = 0
    · subst q
      rw [b_sshr w hw a (by decide), b_ushr w hw a, if_pos (by omega)]
    · have : btx 1 i = false := by
        have a : ∀ j : Fin 32, ¬ j.val = 0 → btx 1 j.val = false := by decide +kernel
        exact a ⟨i, hi⟩ q
      rw [this, Bool.and_false, Bool.and_false]
  rw [e]
  exact bitF_get a hw
theorem sshr_bit (a : Int32) {w : Nat} (hw : w < 32) : a >>> (nI w &&& 31) &&& 1 = 1 ↔ bitF a (nI w) = 1 := (sshr_get a hw).trans (bitF_get a hw).symm
end FITAL
end
section
-- 97zc.q1
/-! QUESTIONS ALIKE: worlds, cannot, lies, mad, kinds -/
section Q1
variable {l : Launch} {X : List (List Int32)} {S : CS} {M : MS} {nt ns nk ta : Nat}
theorem S_worlds (r : REL S M) : StEL l X S M 7 sgX7_worlds [.ref 0] 6 sgX8_worlds [.ref 27] := by
  obtain ⟨nt, ns, nk, ta, h⟩ := id r.1
  have c := c_worlds (l := l) (X := X) (T := encM M) (KR.ki h r.2).1
  rw [(fit_al h r.2 nk (Nat.le_refl _)).bits] at c
  exact steL r (an_BL c) (fun B => g_worlds h.1)
theorem cannot_al (h : RInv M nt ns nk ta) (k : KR S M) : ∀ m j, j + m ≤ nk → cannotF S m j = cnG M m j
  | 0, _, _ => rfl
  | m + 1, j, hj => by
    rw [cannotF, cnG, cannot_al h k m (j + 1) (by omega)]
    by_cases q : fitF S (j + 1) = 0
    · rw [if_pos q, if_pos ((fit_al h k (j + 1) (by omega)).zero.mp q)]
    · rw [if_neg q, if_neg (fun z => q ((fit_al h k (j + 1) (by omega)).zero.mpr z))]
theorem S_cannot (r : REL S M) : StE l X S M 5 sgX7_cannot [.ref 0] 5 sgX8_cannot [.ref 27] := by
  obtain ⟨nt, ns, nk, ta, h⟩ := id r.1
  have c := c_cannot (l := l) (X := X) (T := encM M) (KR.ki h r.2).1
  rw [cannot_al h r.2 nk 0 (by omega)] at c
  exact ste r (an_B c) (fun B => g_cannot h.1)
theorem shl_get : ∀ j : Fin 12, ∀ i : Fin 12, ((1 : Int32) <<< (nI j.val &&& 31)) >>> (nI i.val &&& 31) &&& 1 = 1 ↔ i.val = j.val := by decide +kernel
theorem zero_get : ∀ i : Fin 32, ¬ ((0 : Int32) >>> (nI i.val &&& 31) &&& 1 = 1) := by decide +kernel
theorem zz_all {p : Int32} {P : Int64} (hp : Zx p P) : Zx p (P &&& ALLW) := Zx.mk (fun i hi => by
  rw [Int64.toBitVec_and, BitVec.getLsbD_and, hp.get, show (ALLW : Int64) = 4294967295 from rfl, bl_all]
  by_cases h : i < 32
  · rw [decide_eq_true h, Bool.and_true]
  · rw [BitVec.getLsbD_of_ge p.toBitVec i (by omega)]; rfl)
theorem wi0_al (h : RInv M nt ns nk ta) (k : KR S M) : ∀ m, m ≤ nk → Zx (fitF S m) (wiT M 0 m)
  | 0, _ => law_al h k
  | m + 1, hm => by
    have h12 := h.1.2.2.2.2.1.2
    rw [wiT, if_neg (zero_get ⟨m, by omega⟩)]
    exact (wi0_al h k m (by omega)).and (say_al h k (by omega))
theorem wi1_al (h : RInv M nt ns nk ta) (k : KR S M) {j : Nat} (hj : j < nk) : ∀ m, m ≤ nk → Zx (woF S (nI j) m) (wiT M ((1 : Int32) <<< (nI j &&& 31)) m)
  | 0, _ => law_al h k
  | m + 1, hm => by
    have h12 := h.1.2.2.2.2.1.2
    have ih := wi1_al h k hj m (by omega)
    rw [wiT, woF]
    have e := shl_get ⟨j, by omega⟩ ⟨m, by omega⟩
    by_cases q : m = j
    · rw [if_pos (by rw [q]), if_pos (e.mpr q)]
      exact zz_all ih
    · rw [if_neg (fun z => q (nI_inj (by omega) (by omega) z)), if_neg (fun z => q (e.mp z))]
      exact ih.and (say_al h k (by omega))
theorem lies_al (h : RInv M nt ns nk ta) (k : KR S M) (hz : wiT M 0 nk = 0) : ∀ m, m ≤ nk → liesF S nk m = liG M nk m
  | 0, _ => rfl
  | m + 1, hm => by
    rw [liesF, liG, if_pos hz, lies_al h k hz m (by omega)]
    have w := wi1_al h k (show m < nk by omega) nk (Nat.le_refl _)
    by_cases q : woF S (nI m) nk = 0
    · rw [if_pos q, if_neg (fun z => z (w.zero.mp q))]
      exact (Int32.or_zero).symm
    · rw [if_neg q, if_pos (fun z => q (w.zero.mpr z))]
theorem S_lies (r : REL S M) : StE l X S M 7 sgX7_lies [.ref 0] 6 sgX8_lies [.ref 27] := by
  obtain ⟨nt, ns, nk, ta, h⟩ := id r.1
  have c := c_lies (l := l) (X := X) (T := encM M) (KR.ki h r.2).1
  have w := wi0_al h r.2 nk (Nat.le_refl _)
  have e : (if fitF S nk = 0 then liesF S nk nk else 0) = liG M nk nk := by
    by_cases q : fitF S nk = 0
    · rw [if_pos q, lies_al h r.2 (w.zero.mp q) nk (Nat.le_refl _)]
    · rw [if_neg q, liG_no (fun z => q (w.zero.mpr z))]
  rw [e] at c
  exact ste r (an_B c) (fun B => g_lies h.1)
/-! the fewest bits of those that can be, the least as a number -/
def clB (C : Nat → Bool) : Nat → Int32
  | 0 => -1
  | n + 1 => if C n = true then (if clB C n = -1 then nI n else fewerF (nI n) (clB C n)) else clB C n
theorem zx_nat {n : Nat} (hn : n < 2 ^ 31) : Zx (nI n) (nI n).toInt64 := Zx.mk (fun i hi => by
  rw [Int32.toBitVec_toInt64, BitVec.getLsbD_signExtend]
  have e : (nI n).toBitVec = BitVec.ofNat 32 n := rfl
  by_cases q : i < 32
  · rw [if_pos q, decide_eq_true hi, Bool.true_and]
  · rw [if_neg q, BitVec.getLsbD_of_ge _ i (by omega), BitVec.msb_eq_decide, e, BitVec.toNat_ofNat, Nat.mod_eq_of_lt (by omega)]
    rw [decide_eq_false (show ¬ 2 ^ (32 - 1) ≤ n from Nat.not_le.mpr hn), Bool.and_false])
theorem bc_nat {n : Nat} (hn : n < 2 ^ 31) : bcF (nI n) = cntF (nI n).toInt64 32 := (zx_nat hn).cnt
theorem nI_m1_ne {n : Nat} (hn : n < 2 ^ 31) : ¬ nI n = -1 := fun z => by
  have h := congrArg Int32.toInt z
  rw [nI_toInt hn] at h
  have e : (-1 : Int32).toInt = -1 := by decide
  omega
theorem cnt_lt (a b : Nat) (ha : a ≤ 32) (hb : b ≤ 32) : (nI a - nI b < 0 ↔ nI a < nI b) ∧ (nI a - nI b = 0 ↔ a = b) := by
  have e : (nI a - nI b).toInt = (a : Int) - b := by
    rw [Int32.toInt_sub, nI_toInt (by omega), nI_toInt (by omega)]
    apply Int.bmod_eq_of_le <;> omega
  have e0 : (0 : Int32).toInt = 0 := by decide
  constructor
  · rw [Int32.lt_iff_toInt_lt, Int32.lt_iff_toInt_lt, e, nI_toInt (by omega), nI_toInt (by omega)]
    omega
  · rw [← Int32.toInt_inj, e, e0]
    omega
theorem fewer_asc {a b : Nat} (h : b < a) (ha : a < 2 ^ 31) : fewerF (nI a) (nI b) = if cntF (nI a).toInt64 32 < cntF (nI b).toInt64 32 then nI a else nI b := by
  unfold fewerF
  rw [bc_nat ha, bc_nat (by omega), cnt_N, cnt_N]
  obtain ⟨c1, c2⟩ := cnt_lt (cnN (nI a).toInt64 32) (cnN (nI b).toInt64 32) (cnN_le _ 32) (cnN_le _ 32)
  have n2 : ¬ nI a < nI b := fun z => by
    have := Int32.lt_iff_toInt_lt.mp z
    rw [nI_toInt ha, nI_toInt (by omega)] at this
    omega
  by_cases q : nI (cnN (nI a).toInt64 32) < nI (cnN (nI b).toInt64 32)
  · rw [if_pos (Or.inl (c1.mpr q)), if_pos q]
  · rw [if_neg (fun z => z.elim (fun y => q (c1.mp y)) (fun y => n2 y.2)), if_neg q]
theorem clB_some (C : Nat → Bool) : ∀ n, n < 2 ^ 31 → clB C n = -1 ∨ ∃ m, m < n ∧ clB C n = nI m
  | 0, _ => Or.inl rfl
  | n + 1, hn => by
    rw [clB]
    by_cases q : C n = true
    · rw [if_pos q]
      by_cases q2 : clB C n = -1
      · rw [if_pos q2]
        exact Or.inr ⟨n, by omega, rfl⟩
      · rw [if_neg q2]
        rcases clB_some C n (by omega) with e | ⟨m, hm, e⟩
        · exact absurd e q2
        · rw [e, fewer_asc hm (by omega)]
          split
          · exact Or.inr ⟨n, by omega, rfl⟩
          · exact Or.inr ⟨m, by omega, rfl⟩
    · rw [if_neg q]
      rcases clB_some C n (by omega) with e | ⟨m, hm, e⟩
      · exact Or.inl e
      · exact Or.inr ⟨m, by omega, e⟩
theorem clB_al {C : Nat → Bool} {P : Int32 → Bool} : ∀ n, n < 2 ^ 31 → (∀ m, m < n → C m = P (nI m)) → clB C n = beB P n
  | 0, _, _ => rfl
  | n + 1, hn, h => by
    have ih := clB_al n (by omega) (fun m hm => h m (by omega))
    rw [clB, beB, ← ih, h n (Nat.lt_succ_self n)]
    by_cases q : P (nI n) = true
    · rw [if_pos q]
      by_cases q2 : clB C n = -1
      · rw [if_pos q2, if_pos ⟨Or.inl q2, q⟩]
      · rw [if_neg q2]
        rcases clB_some C n (by omega) with e | ⟨m, hm, e⟩
        · exact absurd e q2
        · rw [e, fewer_asc hm (by omega)]
          by_cases q3 : cntF (nI n).toInt64 32 < cntF (nI m).toInt64 32
          · rw [if_pos q3, if_pos ⟨Or.inr q3, q⟩]
          · rw [if_neg q3, if_neg (fun z => z.1.elim (fun y => nI_m1_ne (by omega) y) q3)]
    · rw [if_neg q, if_neg (fun z => q z.2)]
/-- what both answer of it -/
theorem clO_al {C : Nat → Bool} {P : Int32 → Bool} {n : Nat} (hn : n < 2 ^ 31) (h : ∀ m, m < n → C m = P (nI m)) (what : Int32) : (if what = 1 ∨ clB C n = -1 then clB C n else bcF (clB C n)) = beO P n what := by
  unfold beO
  rw [clB_al n hn h]
  by_cases q : what = 1 ∨ beB P n = -1
  · rw [if_pos q, if_pos q]
  · rw [if_neg q, if_neg q]
    rcases clB_some C n hn with e | ⟨m, hm, e⟩
    · rw [clB_al n hn h] at e
      exact absurd (Or.inr e) q
    · rw [clB_al n hn h] at e
      rw [e]
      exact bc_nat (by omega)
theorem mad_al (h : RInv M nt ns nk ta) (k : KR S M) (a : Int32) : ∀ m, m ≤ nk → Zx (madF S a m) (mdT M a m)
  | 0, _ => law_al h k
  | m + 1, hm => by
    have ih := mad_al h k a m (by omega)
    obtain ⟨p0, -, -⟩ := part_al h k (show m < nk by omega)
    obtain ⟨-, -, -, b0, -, -⟩ := tk_ok h.1 (show m < nk by omega)
    rw [madF, mdT, p0]
    have e : mdP M a m ↔ bitF a (nI (tk M m 0)) = 1 := sshr_bit a (by omega)
    by_cases q : bitF a (nI (tk M m 0)) = 1
    · rw [if_pos q, if_pos (e.mpr q)]
      exact ih.and (as_al h k (by omega) (by decide))
    · rw [if_neg q, if_neg (fun z => q (e.mp z))]
      exact ih.and (say_al h k (by omega))
theorem madL_cl (S : CS) (nk : Nat) : ∀ n, madL S nk n = clB (fun m => decide (¬ madF S (nI m) nk = 0)) n
  | 0 => rfl
  | n + 1 => by
    rw [madL, clB, madL_cl S nk n]
    by_cases q : madF S (nI n) nk = 0
    · rw [if_pos q, if_neg (by rw [decide_eq_true_iff]; exact fun z => z q)]
    · rw [if_neg q, if_pos (decide_eq_true q)]
theorem w2_iff {what : Int32} : (0 ≤ what ∧ what < 2) ↔ p1P what := x2_iff
theorem pow_le {n b : Nat} (h : n ≤ b) (hb : 2 ^ b < 2 ^ 31) : 2 ^ n < 2 ^ 31 := Nat.lt_of_le_of_lt (Nat.pow_le_pow_right (by decide) h) hb
theorem S_mad (r : REL S M) (what : Int32) : StE l X S M 6 sgX7_mad [.ref 0, .int what] 5 sgX8_mad [.ref 27, .int what] := by
  obtain ⟨nt, ns, nk, ta, h⟩ := id r.1
  have c := c_mad (l := l) (X := X) (T := encM M) (KR.ki h r.2).1 what
  have e : madA S ns nk what = mdG M ns nk what := by
    unfold madA mdG
    by_cases q : p1P what
    · rw [if_neg (fun z => z (w2_iff.mpr q)), if_pos q, madL_cl]
      refine clO_al (pow_le h.1.2.2.2.1.2 (by decide)) (fun m _ => ?_) what
      have w := mad_al h r.2 (nI m) nk (Nat.le_refl _)
      show decide (¬ madF S (nI m) nk = 0) = decide (¬ mdT M (nI m) nk = 0)
      rw [decide_eq_decide]
      exact not_congr w.zero
    · rw [if_pos (fun z => q (w2_iff.mp z)), if_neg q]
  rw [e] at c
  exact ste r (an_B c) (fun B => g_mad h.1 what)
/-! kinds -/
theorem all_al (h : RInv M nt ns nk ta) (k : KR S M) {s of w : Nat} (hs : s < 5) (ho : of < 6) (hw : w < 32) : ∀ m, m ≤ nk → (bitF (allF S (nI s) (nI of) m) (nI w) = 1 ↔ kiI M s (nI w) of m = true)
  | 0, _ => by
    rw [allF, kiI, bitF_get _ hw, bv_m1, decide_eq_true hw]
  | m + 1, hm => by
    have ih := all_al h k hs ho hw m (by omega)
    obtain ⟨p0, -, -⟩ := part_al h k (show m < nk by omega)
    obtain ⟨-, -, -, b0, -, -⟩ := tk_ok h.1 (show m < nk by omega)
    have ofk : (0 : Int32) ≤ nI of ∧ nI of ≤ 5 := by
      have a : ∀ j : Fin 6, (0 : Int32) ≤ nI j.val ∧ nI j.val ≤ 5 := by decide
      exact a ⟨of, ho⟩
    have za := as_al h k (show m < nk by omega) ofk
    rw [allF, kiI, p0]
    by_cases q : tk M m 0 = s
    · rw [if_pos (by rw [q])]
      rw [bitF_get _ hw, Int32.toBitVec_and, BitVec.getLsbD_and, Bool.and_eq_true, ← bitF_get _ hw, ← bitF_get _ hw, ih, za.has hw]
      by_cases q2 : kiI M s (nI w) of m = true
      · rw [if_pos q2]
        by_cases q3 : hsP (asT M m (nI of)) (nI w)
        · rw [if_pos (Or.inr q3)]
          exact ⟨fun _ => rfl, fun _ => ⟨q2, q3⟩⟩
        · rw [if_neg (fun z => z.elim (fun y => y q) q3)]
          exact ⟨fun z => absurd z.2 q3, fun z => by cases z⟩
      · rw [if_neg q2]
        exact ⟨fun z => absurd z.1 q2, fun z => by cases z⟩
    · rw [if_neg (fun z => q (nI_inj (by omega) (by omega) z)), ih]
      by_cases q2 : kiI M s (nI w) of m = true
      · rw [if_pos q2, if_pos (Or.inl q)]
        exact ⟨fun _ => rfl, fun _ => q2⟩
      · rw [if_neg q2]
        exact ⟨fun z => absurd z q2, fun z => by cases z⟩
theorem kinds_al (h : RInv M nt ns nk ta) (k : KR S M) {s w : Nat} (hs : s < 5) (hw : w < 32) : ∀ m, m ≤ 6 → kindsF S nk (nI s) (nI w) m = kiT M nk s (nI w) m
  | 0, _ => rfl
  | m + 1, hm => by
    rw [kindsF, kiT, kinds_al h k hs hw m (by omega)]
    have e := all_al h k hs (show m < 6 by omega) hw nk (Nat.le_refl _)
    by_cases q : kiI M s (nI w) m nk = true
    · rw [if_pos (e.mpr q), if_pos q]
    · rw [if_neg (fun z => q (e.mp z)), if_neg q]
      exact (Int32.or_zero).symm
theorem x32_iff {w : Int32} : kxP 32 w ↔ wdP w := and_congr_right (fun _ => ltle (by decide))
theorem S_kinds (r : REL S M) (s w : Int32) : StE l X S M 5 sgX7_kinds [.ref 0, .int s, .int w] 5 sgX8_kinds [.ref 27, .int s, .int w] := by
  obtain ⟨nt, ns, nk, ta, h⟩ := id r.1
  have ki := KR.ki h r.2
  have c := c_kinds (l := l) (X := X) (T := encM M) ki.1 s w
  have h5 := h.1.2.2.2.1.2
  have e : kindsA S nk s w = kiG M ns nk s w := by
    unfold kindsA kiG
    rw [ki.1.2.2.2.1]
    by_cases q : tP ns s ∧ wdP w
    · rw [if_pos ⟨(xp_iff (by omega)).mpr q.1, x32_iff.mpr q.2⟩, if_pos q]
      obtain ⟨a, ha, rfl⟩ := inN (by omega) q.1
      obtain ⟨b, hb, rfl⟩ := inC (c := 31) (n := 31) (by decide) (by decide) q.2
      rw [nI_clamp (by omega)]
      exact kinds_al h r.2 (by omega) (by omega) 6 (Nat.le_refl _)
    · rw [if_neg (fun z => q ⟨(xp_iff (by omega)).mp z.1, x32_iff.mp z.2⟩), if_neg q]
  rw [e] at c
  exact ste r (an_B c) (fun B => g_kinds h.1 s w)
end Q1
end
section
-- 97zd.q2
/-! QUESTIONS ALIKE: asks, means, pairs, parts, same, claims, thrice -/
section Q2
variable {l : Launch} {X : List (List Int32)} {S : CS} {T : AH} {M : MS} {nt ns nk ta : Nat}
theorem x5_iff {u : Int32} : kxP 5 u ↔ whP u := and_congr_right (fun _ => ltle (by decide))
def kasG (S : CS) (t w who part : Int32) : Int32 := if kxP (S.1 93) t ∧ kxP 32 w then (if kxP 5 who ∧ kxP 3 part then (if part = 2 then costF S t who else bitF (sideF S t who part) w) else -7) else -5
set_option maxRecDepth 100000 in
theorem P_asks (hL : CLen S) (t w who part : Int32) : Ans l 2 X sgX7_asks [.ref 0, .int t, .int w, .int who, .int part] (encC S ++ T) (kasG S t w who part) := by
  refine Ctr.of okX7_asks rfl (Nat.le_of_ble_eq_true rfl) (run_sound okX7_asks noCut 100 ?_)
  exact kH (c_isText t) (by decide) (brB' (fun q => ⟨rfl, some_int (if_neg (fun z => q z.1)).symm⟩) (fun q => kH (c_isWorld w) (by decide) (brB' (fun q2 => ⟨rfl, some_int (if_neg (fun z => q2 z.2)).symm⟩) (fun q2 => kH (c_isBelow who 5) (by decide) (brB' (fun q3 => ⟨rfl, some_int ((if_pos ⟨q, q2⟩).trans (if_neg (fun z => q3 z.1))).symm⟩) (fun q3 => kH (c_isBelow part 3) (by decide) (brB' (fun q4 => ⟨rfl, some_int ((if_pos ⟨q, q2⟩).trans (if_neg (fun z => q4 z.2))).symm⟩) (fun q4 => br (fun y => kH (c_costOf hL t who) (by decide) ⟨rfl, some_int ((if_pos ⟨q, q2⟩).trans ((if_pos ⟨q3, q4⟩).trans (if_pos y))).symm⟩) (fun y => kH (c_side hL t who part) (by decide) (kH (c_bit _ _) (by decide) ⟨rfl, some_int ((if_pos ⟨q, q2⟩).trans ((if_pos ⟨q3, q4⟩).trans (if_neg y))).symm⟩))))))))))
theorem lo_one (w : Fin 32) : ∀ i : Fin 32, ((1 : Int64) <<< ((nI w.val).toInt64 &&& 63)).toBitVec.getLsbD i.val = decide (i = w) := by
  have a : ∀ w i : Fin 32, ((1 : Int64) <<< ((nI w.val).toInt64 &&& 63)).toBitVec.getLsbD i.val = decide (i = w) := by decide +kernel
  exact a w
/-- a world's bit of what a part means -/
theorem soF_bit (p t : Nat) (who : Int32) {w : Nat} (hw : w < 32) : ∀ n, n ≤ 32 → ((soF M p t who n).toBitVec.getLsbD w = true ↔ w < n ∧ saysF M p t (nI w) who = 1)
  | 0, _ => by
    constructor
    · intro h
      have e : (soF M p t who 0).toBitVec.getLsbD w = false := by
        show (0#64).getLsbD w = false
        simp
      rw [e] at h
      cases h
    · rintro ⟨h, -⟩
      omega
  | n + 1, hn => by
    have ih := soF_bit p t who hw n (by omega)
    rw [soF, Int64.toBitVec_or, BitVec.getLsbD_or, Bool.or_eq_true, ih]
    by_cases q : saysF M p t (nI n) who = 1
    · rw [if_pos q, lo_one ⟨n, by omega⟩ ⟨w, hw⟩, decide_eq_true_iff]
      constructor
      · rintro (⟨h1, h2⟩ | h)
        · exact ⟨by omega, h2⟩
        · have : w = n := congrArg Fin.val h
          subst this
          exact ⟨by omega, q⟩
      · rintro ⟨h1, h2⟩
        by_cases e : w = n
        · subst e; exact Or.inr rfl
        · exact Or.inl ⟨by omega, h2⟩
    · rw [if_neg q]
      have e : (0 : Int64).toBitVec.getLsbD w = false := by
        show (0#64).getLsbD w = false
        simp
      rw [e]
      constructor
      · rintro (⟨h1, h2⟩ | h)
        · exact ⟨by omega, h2⟩
        · cases h
      · rintro ⟨h1, h2⟩
        by_cases e : w = n
        · subst e; exact absurd h2 q
        · exact Or.inl ⟨by omega, h2⟩
theorem says_bit (h : RInv M nt ns nk ta) (k : KR S M) {t who u w : Nat} (ht : t < nt) (hwho : who < 5) (hu : u < 2) (hw : w < 32) : bitF (sideF S (nI t) (nI who) (nI u)) (nI w) = saysF M u t (nI w) (nI who) := by
  have z := side_al h k ht hwho hu
  rw [mtF_ix hwho hu] at z
  have e := (bitF_get _ hw).trans ((by rw [z.get]) : (sideF S (nI t) (nI who) (nI u)).toBitVec.getLsbD w = true ↔ (soF M u t (nI who) 32).toBitVec.getLsbD w = true)
  have e2 := e.trans (soF_bit u t (nI who) hw 32 (Nat.le_refl _))
  rcases saysF_01 (M := M) (p := u) (t := t) (w := nI w) (who := nI who) (by omega) with q | q
  · rw [q]
    refine (bitF_z _ _).mpr (fun y => ?_)
    have := (e2.mp y).2
    rw [q] at this
    exact absurd this (by decide)
  · rw [q]
    exact e2.mpr ⟨hw, q⟩
theorem asks_al (h : RInv M nt ns nk ta) (k : KR S M) (t w who part : Int32) : kasG S t w who part = asG M nt t w who part := by
  have ki := KR.ki h k
  have h6 := h.1.2.2.1.2.2
  unfold kasG asG
  rw [ki.1.2.1]
  by_cases q : tP nt t ∧ wdP w
  · rw [if_pos ⟨(xp_iff (by omega)).mpr q.1, x32_iff.mpr q.2⟩, if_pos q]
    by_cases q2 : whP who ∧ p2P part
    · rw [if_pos ⟨x5_iff.mpr q2.1, x3_iff.mpr q2.2⟩, if_pos q2]
      obtain ⟨a, ha, rfl⟩ := inN (by omega) q.1
      obtain ⟨b, hb, rfl⟩ := inC (c := 31) (n := 31) (by decide) (by decide) q.2
      obtain ⟨c, hc, rfl⟩ := inC (c := 4) (n := 4) (by decide) (by decide) q2.1
      obtain ⟨d, hd, rfl⟩ := inC (c := 2) (n := 2) (by decide) (by decide) q2.2
      rw [nI_clamp (by omega), nI_clamp (by omega)]
      by_cases q3 : d = 2
      · subst q3
        rw [if_pos (show nI 2 = (2 : Int32) from rfl), if_pos (show nI 2 = (2 : Int32) from rfl)]
        exact cost_al h k ha (by omega)
      · have q4 : ¬ nI d = (2 : Int32) := fun z => q3 (nI_inj (b := 2) (by omega) (by decide) z)
        rw [if_neg q4, if_neg q4]
        exact says_bit h k ha (by omega) (by omega) (by omega)
    · rw [if_neg (fun z => q2 ⟨x5_iff.mp z.1, x3_iff.mp z.2⟩), if_neg q2]
  · rw [if_neg (fun z => q ⟨(xp_iff (by omega)).mp z.1, x32_iff.mp z.2⟩), if_neg q]
theorem S_asks (r : REL S M) (t w who part : Int32) : StE l X S M 2 sgX7_asks [.ref 0, .int t, .int w, .int who, .int part] 3 sgX8_asks [.ref 27, .int t, .int w, .int who, .int part] := by
  obtain ⟨nt, ns, nk, ta, h⟩ := id r.1
  have c := P_asks (l := l) (X := X) (T := encM M) r.2.cl t w who part
  rw [asks_al h r.2] at c
  exact ste r (an_B c) (fun B => g_asks h.1 t w who part)
def kmeG (S : CS) (t part : Int32) : Int64 := if kxP (S.1 93) t ∧ kxP 2 part then bitsF (sideF S t 0 part) else -4611686018427387904
set_option maxRecDepth 100000 in
theorem P_means (hL : CLen S) (t part : Int32) : AnsL l 2 X sgX7_means [.ref 0, .int t, .int part] (encC S ++ T) (kmeG S t part) := by
  refine Ctr.of okX7_means rfl (Nat.le_of_ble_eq_true rfl) (run_sound okX7_means noCut 100 ?_)
  exact kH (c_isText t) (by decide) (brB' (fun q => ⟨rfl, rfl, some_long (if_neg (fun z => q z.1)).symm⟩) (fun q => kH (c_isBelow part 2) (by decide) (brB' (fun q2 => ⟨rfl, rfl, some_long (if_neg (fun z => q2 z.2)).symm⟩) (fun q2 => kH (c_side hL t 0 part) (by decide) (kH (c_bits _) (by decide) ⟨rfl, rfl, some_long (if_pos ⟨q, q2⟩).symm⟩)))))
theorem means_al (h : RInv M nt ns nk ta) (k : KR S M) (t part : Int32) : kmeG S t part = meG M nt t part := by
  have ki := KR.ki h k
  have h6 := h.1.2.2.1.2.2
  unfold kmeG meG
  rw [ki.1.2.1]
  by_cases q : tP nt t ∧ p1P part
  · rw [if_pos ⟨(xp_iff (by omega)).mpr q.1, x2_iff.mpr q.2⟩, if_pos q]
    obtain ⟨a, ha, rfl⟩ := inN (by omega) q.1
    obtain ⟨d, hd, rfl⟩ := inC (c := 1) (n := 1) (by decide) (by decide) q.2
    rw [nI_clamp (by omega), nI_clamp (by omega)]
    have z := side_al h k ha (who := 0) (u := d) (by decide) (by omega)
    rw [mtF_ix (by decide) (by omega)] at z
    exact z.bits
  · rw [if_neg (fun z => q ⟨(xp_iff (by omega)).mp z.1, x2_iff.mp z.2⟩), if_neg q]
theorem S_means (r : REL S M) (t part : Int32) : StEL l X S M 2 sgX7_means [.ref 0, .int t, .int part] 4 sgX8_means [.ref 27, .int t, .int part] := by
  obtain ⟨nt, ns, nk, ta, h⟩ := id r.1
  have c := P_means (l := l) (X := X) (T := encM M) r.2.cl t part
  rw [means_al h r.2] at c
  exact steL r (an_BL c) (fun B => g_means h.1 t part)
def kpaF (S : CS) (who : Int32) : Nat → Int32
  | 0 => 0
  | t + 1 => if sideF S (nI t) who 0 ^^^ sideF S (nI t) who 1 = -1 then kpaF S who t ||| ((1 : Int32) <<< (nI t &&& 31)) else kpaF S who t
def kpaG (S : CS) (nt : Nat) (who : Int32) : Int32 := if kxP 5 who then kpaF S who nt else -2
set_option maxRecDepth 100000 in
theorem P_pairs (hI : CInv S nt ns nk) (who : Int32) : Ans l 2 X sgX7_pairs [.ref 0, .int who] (encC S ++ T) (kpaG S nt who) := by
  have hL := hI.1
  have h93 : S.1 93 = nI nt := hI.2.1
  have h6 := hI.2.2.1.2
  refine Ctr.of okX7_pairs rfl (Nat.le_of_ble_eq_true rfl) (run_sound okX7_pairs cNpa 200 ?_)
  refine kH (c_isBelow who 5) (by decide) (brB' (fun q => ⟨rfl, some_int (if_neg q).symm⟩) (fun q => ?_))
  have e : kpaG S nt who = kpaF S who nt := if_pos q
  rw [e]
  have key : ∀ k, k ≤ nt → ∀ y, WP l (rmD 2 0 0) X sgX7_pairs kX7_pairs (kR S T (kpaF S who nt)) 10 [some (.ref 0), some (.int who), some (.int (kpaF S who k)), some (.int (nI k)), y] [] (encC S ++ T) 0 0 := by
    refine down (fun y => ?_) (fun k hk ih y => ?_)
    · exact run_sound okX7_pairs cNpa 200 (brT (nle h93) ⟨rfl, rfl⟩)
    · have t42 : ∀ (x : Int32) y, x = kpaF S who (k + 1) → WP l (rmD 2 0 0) X sgX7_pairs kX7_pairs (kR S T (kpaF S who nt)) 42 [some (.ref 0), some (.int who), some (.int x), some (.int (nI k)), y] [] (encC S ++ T) 0 0 := by
        intro x y hx
        subst hx
        have ih := ih y
        rw [← nI_1 k] at ih
        exact run_sound okX7_pairs cNpa 200 ih
      exact run_sound okX7_pairs cNpa 200 (brF (nge h93 hk (by omega)) (kH (c_side hL _ _ _) (by decide) (kH (c_side hL _ _ _) (by decide) (br (fun z => brF (by decide) (t42 _ _ (if_pos z).symm)) (fun z => brT rfl (t42 _ _ (if_neg z).symm))))))
  exact key 0 (Nat.zero_le _) _
theorem zx_all : Zx (-1) ALLW := by unfold Zx; decide
theorem pairs_al (h : RInv M nt ns nk ta) (k : KR S M) {who : Nat} (hw : who < 5) : ∀ m, m ≤ nt → kpaF S (nI who) m = paF M (nI who) m
  | 0, _ => rfl
  | m + 1, hm => by
    rw [kpaF, paF, pairs_al h k hw m (by omega)]
    have z0 := side_al h k (show m < nt by omega) hw (u := 0) (by decide)
    have z1 := side_al h k (show m < nt by omega) hw (u := 1) (by decide)
    rw [mtF_ix hw (by decide)] at z0 z1
    have z : sideF S (nI m) (nI who) 0 ^^^ sideF S (nI m) (nI who) 1 = -1 ↔ soF M 0 m (nI who) 32 ^^^ soF M 1 m (nI who) 32 = ALLW := (z0.xor z1).eq zx_all
    by_cases q : sideF S (nI m) (nI who) 0 ^^^ sideF S (nI m) (nI who) 1 = -1
    · rw [if_pos q, if_pos (z.mp q)]
    · rw [if_neg q, if_neg (fun y => q (z.mpr y))]
      exact (Int32.or_zero).symm
theorem S_pairs (r : REL S M) (who : Int32) : StE l X S M 2 sgX7_pairs [.ref 0, .int who] 4 sgX8_pairs [.ref 27, .int who] := by
  obtain ⟨nt, ns, nk, ta, h⟩ := id r.1
  have c := P_pairs (l := l) (X := X) (T := encM M) (KR.ki h r.2).1 who
  have e : kpaG S nt who = paG M nt who := by
    unfold kpaG paG
    by_cases q : whP who
    · rw [if_pos (x5_iff.mpr q), if_pos q]
      obtain ⟨b, hb, rfl⟩ := inC (c := 4) (n := 4) (by decide) (by decide) q
      exact pairs_al h r.2 (by omega) nt (Nat.le_refl _)
    · rw [if_neg (fun z => q (x5_iff.mp z)), if_neg q]
  rw [e] at c
  exact ste r (an_B c) (fun B => g_pairs h.1 who)
/-! parts -/
def kptX (S : CS) (nk : Nat) (s t what : Int32) : Int64 := if what = 0 then bitsF (fitF S nk &&& nextF S s t 0 (nI nk)) else if what = 1 then bitsF (fitF S nk &&& nextF S s t 1 (nI nk))
     else if what = 2 then bitsF (fitF S nk &&& ((fitF S nk &&& nextF S s t 0 (nI nk)) ^^^ -1) &&& ((fitF S nk &&& nextF S s t 1 (nI nk)) ^^^ -1))
     else if what = 3 then bitsF ((fitF S nk &&& nextF S s t 0 (nI nk)) &&& (fitF S nk &&& nextF S s t 1 (nI nk))) else -4611686018427387904
def kptG (S : CS) (nk : Nat) (s t what : Int32) : Int64 := if kxP (S.1 133) s ∧ kxP (S.1 93) t then kptX S nk s t what else -4611686018427387904
set_option maxRecDepth 100000 in
theorem P_parts (hI : CInv S nt ns nk) (s t what : Int32) : AnsL l 7 X sgX7_parts [.ref 0, .int s, .int t, .int what] (encC S ++ T) (kptG S nk s t what) := by
  have hL := hI.1
  have h134 : S.1 134 = nI nk := hI.2.2.2.2.2.1
  refine Ctr.of okX7_parts rfl (Nat.le_of_ble_eq_true rfl) (run_sound okX7_parts noCut 200 ?_)
  refine kH (c_isSpeaker s) (by decide) (brB' (fun q => ⟨rfl, rfl, some_long (if_neg (fun z => q z.1)).symm⟩) (fun q => kH (c_isText t) (by decide) (brB' (fun q2 => ⟨rfl, rfl, some_long (if_neg (fun z => q2 z.2)).symm⟩) (fun q2 => kH (c_fitting hI) (by decide) (kH (c_sayableNext hL s t 0 (S.1 134)) (by decide) (kH (c_sayableNext hL s t 1 (S.1 134)) (by decide) ?_))))))
  rw [h134]
  have e : kptG S nk s t what = kptX S nk s t what := if_pos ⟨q, q2⟩
  rw [e]
  refine And.intro (fun hn => ⟨rfl, rfl, some_long ?_⟩) (And.intro (fun hh => ?_) (And.intro (fun hh => ?_) (And.intro (fun hh => ?_) (And.intro (fun hh => ?_) trivial))))
  · have n0 : ¬ what = 0 := fun z => by subst z; revert hn; decide
    have n1 : ¬ what = 1 := fun z => by subst z; revert hn; decide
    have n2 : ¬ what = 2 := fun z => by subst z; revert hn; decide
    have n3 : ¬ what = 3 := fun z => by subst z; revert hn; decide
    unfold kptX
    rw [if_neg n0, if_neg n1, if_neg n2, if_neg n3]
    rfl
  all_goals
    subst hh
    exact kH (c_bits _) (by decide) ⟨rfl, rfl, rfl⟩
theorem zz_22 {f a b : Int32} {F A B : Int64} (hf : Zx f F) (ha : Zx a A) (hb : Zx b B) : Zx (f &&& ((f &&& a) ^^^ -1) &&& ((f &&& b) ^^^ -1)) (F &&& ((A ^^^ -1) &&& (B ^^^ -1))) := Zx.mk (fun i hi => by
  rw [Int64.toBitVec_and, Int64.toBitVec_and, Int64.toBitVec_xor, Int64.toBitVec_xor, Int32.toBitVec_and, Int32.toBitVec_and, Int32.toBitVec_xor, Int32.toBitVec_xor, Int32.toBitVec_and, Int32.toBitVec_and, BitVec.getLsbD_and, BitVec.getLsbD_and, BitVec.getLsbD_xor, BitVec.getLsbD_xor, BitVec.getLsbD_and, BitVec.getLsbD_and, BitVec.getLsbD_xor, BitVec.getLsbD_xor, BitVec.getLsbD_and, BitVec.getLsbD_and, hf.get, ha.get, hb.get, bv_m1, bl_m1, decide_eq_true hi]
  by_cases h : i < 32
  · rw [decide_eq_true h]
    cases f.toBitVec.getLsbD i <;> cases a.toBitVec.getLsbD i <;> cases b.toBitVec.getLsbD i <;> rfl
  · rw [BitVec.getLsbD_of_ge f.toBitVec i (by omega)]; rfl)
theorem zz_33 {f a b : Int32} {F A B : Int64} (hf : Zx f F) (ha : Zx a A) (hb : Zx b B) : Zx ((f &&& a) &&& (f &&& b)) (F &&& (A &&& B)) := Zx.mk (fun i hi => by
  rw [Int64.toBitVec_and, Int64.toBitVec_and, Int32.toBitVec_and, Int32.toBitVec_and, Int32.toBitVec_and, BitVec.getLsbD_and, BitVec.getLsbD_and, BitVec.getLsbD_and, BitVec.getLsbD_and, BitVec.getLsbD_and, hf.get, ha.get, hb.get]
  cases f.toBitVec.getLsbD i <;> cases a.toBitVec.getLsbD i <;> cases b.toBitVec.getLsbD i <;> rfl)
theorem S_parts (r : REL S M) (s t what : Int32) : StEL l X S M 7 sgX7_parts [.ref 0, .int s, .int t, .int what] 6 sgX8_parts [.ref 27, .int s, .int t, .int what] := by
  obtain ⟨nt, ns, nk, ta, h⟩ := id r.1
  have ki := KR.ki h r.2
  have c := P_parts (l := l) (X := X) (T := encM M) ki.1 s t what
  have h5 := h.1.2.2.2.1.2
  have h6 := h.1.2.2.1.2.2
  have e : kptG S nk s t what = paT M nt ns nk s t what := by
    unfold kptG kptX paT
    rw [ki.1.2.2.2.1, ki.1.2.1]
    by_cases q : tP ns s ∧ tP nt t
    · rw [if_pos ⟨(xp_iff (by omega)).mpr q.1, (xp_iff (by omega)).mpr q.2⟩]
      obtain ⟨a, ha, rfl⟩ := inN (by omega) q.1
      obtain ⟨b, hb, rfl⟩ := inN (by omega) q.2
      have zf := fit_al h r.2 nk (Nat.le_refl _)
      have z0 := next_al h r.2 (s := a) (t := b) (u := 0) (by omega) hb (by decide) (nI nk)
      have z1 := next_al h r.2 (s := a) (t := b) (u := 1) (by omega) hb (by decide) (nI nk)
      have z0 : Zx (nextF S (nI a) (nI b) 0 (nI nk)) (fitT M a b 0 (nI nk)) := z0
      have z1 : Zx (nextF S (nI a) (nI b) 1 (nI nk)) (fitT M a b 1 (nI nk)) := z1
      rw [nI_clamp (by omega), nI_clamp (by omega)]
      by_cases w0 : what = 0
      · subst w0
        rw [if_pos rfl, if_pos ⟨q.1, q.2, by decide⟩, if_pos rfl]
        exact (zf.and z0).bits
      rw [if_neg w0]
      by_cases w1 : what = 1
      · subst w1
        rw [if_pos rfl, if_pos ⟨q.1, q.2, by decide⟩, if_neg w0, if_pos rfl]
        exact (zf.and z1).bits
      rw [if_neg w1]
      by_cases w2 : what = 2
      · subst w2
        rw [if_pos rfl, if_pos ⟨q.1, q.2, by decide⟩, if_neg w0, if_neg w1, if_pos rfl]
        exact (zz_22 zf z0 z1).bits
      rw [if_neg w2]
      by_cases w3 : what = 3
      · subst w3
        rw [if_pos rfl, if_pos ⟨q.1, q.2, by decide⟩, if_neg w0, if_neg w1, if_neg w2]
        exact (zz_33 zf z0 z1).bits
      · rw [if_neg w3, if_neg (fun z => by
          obtain ⟨d, hd, rfl⟩ := in03n z.2.2
          rcases (show d = 0 ∨ d = 1 ∨ d = 2 ∨ d = 3 by omega) with rfl | rfl | rfl | rfl
          · exact w0 rfl
          · exact w1 rfl
          · exact w2 rfl
          · exact w3 rfl)]
    · rw [if_neg (fun z => q ⟨(xp_iff (by omega)).mp z.1, (xp_iff (by omega)).mp z.2⟩), if_neg (fun z => q ⟨z.1, z.2.1⟩)]
  rw [e] at c
  exact steL r (an_BL c) (fun B => g_parts h.1 s t what)
/-! same -/
def ksmG (S : CS) (nk : Nat) (t u what : Int32) : Int32 := if kxP (S.1 93) t ∧ kxP (S.1 93) u then (if kxP 2 what then bI ((onceF S t ^^^ onceF S u) &&& (if what = 0 then fitF S nk else -1) = 0) else -7) else -5
set_option maxRecDepth 100000 in
theorem P_same (hI : CInv S nt ns nk) (t u what : Int32) : Ans l 7 X sgX7_same [.ref 0, .int t, .int u, .int what] (encC S ++ T) (ksmG S nk t u what) := by
  have hL := hI.1
  refine Ctr.of okX7_same rfl (Nat.le_of_ble_eq_true rfl) (run_sound okX7_same noCut 100 ?_)
  refine kH (c_isText t) (by decide) (brB' (fun q => ⟨rfl, some_int (if_neg (fun z => q z.1)).symm⟩) (fun q => kH (c_isText u) (by decide) (brB' (fun q2 => ⟨rfl, some_int (if_neg (fun z => q2 z.2)).symm⟩) (fun q2 => kH (c_isBelow what 2) (by decide) (brB' (fun q3 => ⟨rfl, some_int ((if_pos ⟨q, q2⟩).trans (if_neg q3)).symm⟩) (fun q3 => ?_))))))
  have e : ksmG S nk t u what = bI ((onceF S t ^^^ onceF S u) &&& (if what = 0 then fitF S nk else -1) = 0) := (if_pos ⟨q, q2⟩).trans (if_pos q3)
  rw [e]
  refine br (fun y => ?_) (fun y => ?_)
  · have y : what = 0 := y
    rw [if_pos y]
    exact kH (c_fitting hI) (by decide) (kH (c_onceOf hL t) (by decide) (kH (c_onceOf hL u) (by decide) (br (fun z => ⟨rfl, some_int (bIe1 z)⟩) (fun z => ⟨rfl, some_int (bIe0 z)⟩))))
  · have y : ¬ what = 0 := y
    rw [if_neg y]
    exact kH (c_onceOf hL t) (by decide) (kH (c_onceOf hL u) (by decide) (br (fun z => ⟨rfl, some_int (bIe1 z)⟩) (fun z => ⟨rfl, some_int (bIe0 z)⟩)))
theorem bI_ifx {p q : Prop} [Decidable p] [Decidable q] (h : p ↔ q) : bI p = bI q := by
  by_cases y : p
  · rw [bI_t y, bI_t (h.mp y)]
  · rw [bI_f y, bI_f (fun z => y (h.mpr z))]
theorem S_same (r : REL S M) (t u what : Int32) : StE l X S M 7 sgX7_same [.ref 0, .int t, .int u, .int what] 6 sgX8_same [.ref 27, .int t, .int u, .int what] := by
  obtain ⟨nt, ns, nk, ta, h⟩ := id r.1
  have ki := KR.ki h r.2
  have c := P_same (l := l) (X := X) (T := encM M) ki.1 t u what
  have h6 := h.1.2.2.1.2.2
  have e : ksmG S nk t u what = saG M nt nk t u what := by
    unfold ksmG saG
    rw [ki.1.2.1]
    by_cases q : tP nt t ∧ tP nt u
    · rw [if_pos ⟨(xp_iff (by omega)).mpr q.1, (xp_iff (by omega)).mpr q.2⟩, if_pos q]
      by_cases q2 : p1P what
      · rw [if_pos (x2_iff.mpr q2), if_pos q2]
        obtain ⟨a, ha, rfl⟩ := inN (by omega) q.1
        obtain ⟨b, hb, rfl⟩ := inN (by omega) q.2
        rw [nI_clamp (by omega), nI_clamp (by omega)]
        have zx := (once_al h r.2 ha).xor (once_al h r.2 hb)
        apply bI_ifx
        by_cases w0 : what = 0
        · rw [if_pos w0, if_pos w0]
          exact (zx.and (fit_al h r.2 nk (Nat.le_refl _))).zero
        · rw [if_neg w0, if_neg w0, show (onceF S (nI a) ^^^ onceF S (nI b)) &&& -1 = onceF S (nI a) ^^^ onceF S (nI b) from Int32.and_neg_one]
          exact zx.zero
      · rw [if_neg (fun z => q2 (x2_iff.mp z)), if_neg q2]
    · rw [if_neg (fun z => q ⟨(xp_iff (by omega)).mp z.1, (xp_iff (by omega)).mp z.2⟩), if_neg q]
  rw [e] at c
  exact ste r (an_B c) (fun B => g_same h.1 t u what)
/-! claims -/
def kclF (S : CS) (so : Int32) : Nat → Int32
  | 0 => 0
  | u + 1 => if so &&& (onceF S (nI u) ^^^ -1) = 0 then kclF S so u ||| ((1 : Int32) <<< (nI u &&& 31)) else kclF S so u
def kclG (S : CS) (nt nk : Nat) (t : Int32) : Int32 := if kxP (S.1 93) t then kclF S (fitF S nk &&& onceF S t) nt else -5
def kNcl (i : Nat) : Bool := Nat.beq i 17 || Nat.beq i 36
set_option maxRecDepth 100000 in
theorem P_claims (hI : CInv S nt ns nk) (t : Int32) : Ans l 7 X sgX7_claims [.ref 0, .int t] (encC S ++ T) (kclG S nt nk t) := by
  have hL := hI.1
  have h93 : S.1 93 = nI nt := hI.2.1
  have h6 := hI.2.2.1.2
  refine Ctr.of okX7_claims rfl (Nat.le_of_ble_eq_true rfl) (run_sound okX7_claims kNcl 200 ?_)
  refine kH (c_isText t) (by decide) (brB' (fun q => ⟨rfl, some_int (if_neg q).symm⟩) (fun q => kH (c_fitting hI) (by decide) (kH (c_onceOf hL t) (by decide) ?_)))
  have e : kclG S nt nk t = kclF S (fitF S nk &&& onceF S t) nt := if_pos q
  rw [e]
  have key : ∀ so, ∀ k, k ≤ nt → WP l (rmD 7 0 0) X sgX7_claims kX7_claims (kR S T (kclF S so nt)) 17 [some (.ref 0), some (.int t), some (.int so), some (.int (kclF S so k)), some (.int (nI k))] [] (encC S ++ T) 0 0 := by
    intro so
    refine down ?_ (fun k hk ih => ?_)
    · exact run_sound okX7_claims kNcl 200 (brT (nle h93) ⟨rfl, rfl⟩)
    · have t36 : ∀ x : Int32, x = kclF S so (k + 1) → WP l (rmD 7 0 0) X sgX7_claims kX7_claims (kR S T (kclF S so nt)) 36 [some (.ref 0), some (.int t), some (.int so), some (.int x), some (.int (nI k))] [] (encC S ++ T) 0 0 := by
        intro x hx
        subst hx
        have ih := ih
        rw [← nI_1 k] at ih
        exact run_sound okX7_claims kNcl 200 ih
      exact run_sound okX7_claims kNcl 200 (brF (nge h93 hk (by omega)) (kH (c_onceOf hL _) (by decide) (br (fun z => t36 _ (if_pos z).symm) (fun z => t36 _ (if_neg z).symm))))
  exact key _ 0 (Nat.zero_le _)
theorem zz_cl {s a : Int32} {F A : Int64} (hf : Zx s F) (ha : Zx a A) : Zx (s &&& (a ^^^ -1)) (F &&& (A ^^^ -1)) := Zx.mk (fun i hi => by
  rw [Int64.toBitVec_and, Int64.toBitVec_xor, Int32.toBitVec_and, Int32.toBitVec_xor, BitVec.getLsbD_and, BitVec.getLsbD_xor, BitVec.getLsbD_and, BitVec.getLsbD_xor, hf.get, ha.get, bv_m1, bl_m1, decide_eq_true hi]
  by_cases h : i < 32
  · rw [decide_eq_true h]
  · rw [BitVec.getLsbD_of_ge s.toBitVec i (by omega), Bool.false_and, Bool.false_and])
theorem claims_al (h : RInv M nt ns nk ta) (k : KR S M) {so : Int32} {F : Int64} (hz : Zx so F) : ∀ m, m ≤ nt → kclF S so m = clT2 M F m
  | 0, _ => rfl
  | m + 1, hm => by
    rw [kclF, clT2, claims_al h k hz m (by omega)]
    have z := (zz_cl hz (once_al h k (show m < nt by omega))).zero
    by_cases q : so &&& (onceF S (nI m) ^^^ -1) = 0
    · rw [if_pos q, if_pos (z.mp q)]
    · rw [if_neg q, if_neg (fun y => q (z.mpr y))]
      exact (Int32.or_zero).symm
theorem S_claims (r : REL S M) (t : Int32) : StE l X S M 7 sgX7_claims [.ref 0, .int t] 6 sgX8_claims [.ref 27, .int t] := by
  obtain ⟨nt, ns, nk, ta, h⟩ := id r.1
  have ki := KR.ki h r.2
  have c := P_claims (l := l) (X := X) (T := encM M) ki.1 t
  have h6 := h.1.2.2.1.2.2
  have e : kclG S nt nk t = clG M nt nk t := by
    unfold kclG clG
    rw [ki.1.2.1]
    by_cases q : tP nt t
    · rw [if_pos ((xp_iff (by omega)).mpr q), if_pos q]
      obtain ⟨a, ha, rfl⟩ := inN (by omega) q
      rw [nI_clamp (by omega)]
      exact claims_al h r.2 ((fit_al h r.2 nk (Nat.le_refl _)).and (once_al h r.2 ha)) nt (Nat.le_refl _)
    · rw [if_neg (fun z => q ((xp_iff (by omega)).mp z)), if_neg q]
  rw [e] at c
  exact ste r (an_B c) (fun B => g_claims h.1 t)
/-! thrice -/
def kthG (S : CS) (nk : Nat) (t u v : Int32) : Int64 := if kxP (S.1 93) t ∧ kxP (S.1 93) u ∧ kxP (S.1 93) v then bitsF (fitF S nk &&& (onceF S t ^^^ onceF S u ^^^ onceF S v) &&& ((onceF S t &&& onceF S u &&& onceF S v) ^^^ -1)) else -4611686018427387904
set_option maxRecDepth 100000 in
theorem P_thrice (hI : CInv S nt ns nk) (t u v : Int32) : AnsL l 7 X sgX7_thrice [.ref 0, .int t, .int u, .int v] (encC S ++ T) (kthG S nk t u v) := by
  have hL := hI.1
  refine Ctr.of okX7_thrice rfl (Nat.le_of_ble_eq_true rfl) (run_sound okX7_thrice noCut 200 ?_)
  exact kH (c_isText t) (by decide) (brB' (fun q => ⟨rfl, rfl, some_long (if_neg (fun z => q z.1)).symm⟩) (fun q => kH (c_isText u) (by decide) (brB' (fun q2 => ⟨rfl, rfl, some_long (if_neg (fun z => q2 z.2.1)).symm⟩) (fun q2 => kH (c_isText v) (by decide) (brB' (fun q3 => ⟨rfl, rfl, some_long (if_neg (fun z => q3 z.2.2)).symm⟩) (fun q3 => kH (c_onceOf hL t) (by decide) (kH (c_onceOf hL u) (by decide) (kH (c_onceOf hL v) (by decide) (kH (c_onceOf hL t) (by decide) (kH (c_onceOf hL u) (by decide) (kH (c_onceOf hL v) (by decide) (kH (c_fitting hI) (by decide) (kH (c_bits _) (by decide) ⟨rfl, rfl, some_long (if_pos ⟨q, q2, q3⟩).symm⟩)))))))))))))
theorem zz_th {f a b c : Int32} {F A B C : Int64} (hf : Zx f F) (ha : Zx a A) (hb : Zx b B) (hc : Zx c C) : Zx (f &&& (a ^^^ b ^^^ c) &&& ((a &&& b &&& c) ^^^ -1)) (F &&& (A &&& (B ^^^ -1) &&& (C ^^^ -1) ||| B &&& (A ^^^ -1) &&& (C ^^^ -1) ||| C &&& (A ^^^ -1) &&& (B ^^^ -1))) := Zx.mk (fun i hi => by
  simp only [Int64.toBitVec_and, Int64.toBitVec_xor, Int64.toBitVec_or, Int32.toBitVec_and, Int32.toBitVec_xor, BitVec.getLsbD_and, BitVec.getLsbD_xor, BitVec.getLsbD_or, hf.get, ha.get, hb.get, hc.get, bv_m1, bl_m1, decide_eq_true hi]
  by_cases h : i < 32
  · rw [decide_eq_true h]
    cases f.toBitVec.getLsbD i <;> cases a.toBitVec.getLsbD i <;> cases b.toBitVec.getLsbD i <;> cases c.toBitVec.getLsbD i <;> rfl
  · rw [BitVec.getLsbD_of_ge f.toBitVec i (by omega), Bool.false_and, Bool.false_and, Bool.false_and])
theorem S_thrice (r : REL S M) (t u v : Int32) : StEL l X S M 7 sgX7_thrice [.ref 0, .int t, .int u, .int v] 6 sgX8_thrice [.ref 27, .int t, .int u, .int v] := by
  obtain ⟨nt, ns, nk, ta, h⟩ := id r.1
  have ki := KR.ki h r.2
  have c := P_thrice (l := l) (X := X) (T := encM M) ki.1 t u v
  have h6 := h.1.2.2.1.2.2
  have e : kthG S nk t u v = thG M nt nk t u v := by
    unfold kthG thG
    rw [ki.1.2.1]
    by_cases q : tP nt t ∧ tP nt u ∧ tP nt v
    · rw [if_pos ⟨(xp_iff (by omega)).mpr q.1, (xp_iff (by omega)).mpr q.2.1, (xp_iff (by omega)).mpr q.2.2⟩, if_pos q]
      obtain ⟨a, ha, rfl⟩ := inN (by omega) q.1
      obtain ⟨b, hb, rfl⟩ := inN (by omega) q.2.1
      obtain ⟨c, hc, rfl⟩ := inN (by omega) q.2.2
      rw [nI_clamp (by omega), nI_clamp (by omega), nI_clamp (by omega)]
      exact (zz_th (fit_al h r.2 nk (Nat.le_refl _)) (once_al h r.2 ha) (once_al h r.2 hb) (once_al h r.2 hc)).bits
    · rw [if_neg (fun z => q ⟨(xp_iff (by omega)).mp z.1, (xp_iff (by omega)).mp z.2.1, (xp_iff (by omega)).mp z.2.2⟩), if_neg q]
  rw [e] at c
  exact steL r (an_BL c) (fun B => g_thrice h.1 t u v)
end Q2
end
section
-- 97ze.q3
/-! QUESTIONS ALIKE: behind, many, judge -/
section Q3
variable {l : Launch} {X : List (List Int32)} {S : CS} {T : AH} {M : MS} {nt ns nk ta : Nat}
theorem lead_al {a : Int32} {A : Int64} (hz : Zx a A) : ∀ m w, w + m ≤ 32 → wnF a 0 m w 0 = leF A m w
  | 0, _, _ => rfl
  | m + 1, w, hw => by
    rw [wnF, leF, lead_al hz m (w + 1) (by omega)]
    have e := hz.has (show w < 32 by omega)
    by_cases q : bitF a (nI w) = 1
    · rw [if_pos q, if_pos rfl, if_pos (e.mp q)]
    · rw [if_neg q, if_neg (fun z => q (e.mpr z))]
theorem so_bit : ∀ x : Fin 5, ∀ w : Fin 32, (atF soInL (nI x.val)).toBitVec.getLsbD w.val = btx (nI w.val) x.val := by decide +kernel
theorem b31 : ∀ i : Fin 32, btx 31 i.val = decide (i.val < 5) := by decide +kernel
theorem bnot : ∀ w : Fin 32, ∀ i : Fin 5, btx (31 &&& (nI w.val ^^^ -1)) i.val = !btx (nI w.val) i.val := by decide +kernel
theorem alF_bit (A : Int64) {i : Nat} (hi : i < 32) : ∀ n, n ≤ 32 → (btx (alF A n) i = true ↔ ¬ A = 0 ∧ i < 5 ∧ ∀ w, w < n → hsP A (nI w) → btx (nI w) i = true)
  | 0, _ => by
    rw [alF]
    by_cases q : A = 0
    · rw [if_pos q, b_0]
      exact ⟨fun z => (by cases z), fun z => absurd q z.1⟩
    · rw [if_neg q, b31 ⟨i, hi⟩, decide_eq_true_iff]
      exact ⟨fun z => ⟨q, z, fun w hw => by omega⟩, fun z => z.2.1⟩
  | n + 1, hn => by
    rw [alF, b_and, Bool.and_eq_true, alF_bit A hi n (by omega)]
    constructor
    · rintro ⟨⟨h1, h2, h3⟩, h4⟩
      refine ⟨h1, h2, fun w hw hs => ?_⟩
      by_cases e : w = n
      · subst e
        rw [if_pos hs] at h4
        exact h4
      · exact h3 w (by omega) hs
    · rintro ⟨h1, h2, h3⟩
      refine ⟨⟨h1, h2, fun w hw hs => h3 w (by omega) hs⟩, ?_⟩
      by_cases q : hsP A (nI n)
      · rw [if_pos q]
        exact h3 n (by omega) q
      · rw [if_neg q, b31 ⟨i, hi⟩]
        exact decide_eq_true h2
theorem noF_bit (A : Int64) {i : Nat} (hi : i < 32) : ∀ n, n ≤ 32 → (btx (noF A n) i = true ↔ ¬ A = 0 ∧ i < 5 ∧ ∀ w, w < n → hsP A (nI w) → btx (nI w) i = false)
  | 0, _ => by
    rw [noF]
    by_cases q : A = 0
    · rw [if_pos q, b_0]
      exact ⟨fun z => (by cases z), fun z => absurd q z.1⟩
    · rw [if_neg q, b31 ⟨i, hi⟩, decide_eq_true_iff]
      exact ⟨fun z => ⟨q, z, fun w hw => by omega⟩, fun z => z.2.1⟩
  | n + 1, hn => by
    rw [noF, b_and, Bool.and_eq_true, noF_bit A hi n (by omega)]
    constructor
    · rintro ⟨⟨h1, h2, h3⟩, h4⟩
      refine ⟨h1, h2, fun w hw hs => ?_⟩
      by_cases e : w = n
      · subst e
        rw [if_pos hs, bnot ⟨w, by omega⟩ ⟨i, h2⟩] at h4
        exact (Bool.not_eq_true' _).mp h4
      · exact h3 w (by omega) hs
    · rintro ⟨h1, h2, h3⟩
      refine ⟨⟨h1, h2, fun w hw hs => h3 w (by omega) hs⟩, ?_⟩
      by_cases q : hsP A (nI n)
      · rw [if_pos q, bnot ⟨n, by omega⟩ ⟨i, h2⟩]
        exact (Bool.not_eq_true' _).mpr (h3 n (by omega) q)
      · rw [if_neg q, b31 ⟨i, hi⟩]
        exact decide_eq_true h2
/-- a thing's being so in all, and in none -/
theorem sub_iff {a : Int32} {A : Int64} (hz : Zx a A) {x : Nat} (hx : x < 5) : (a &&& atF soInL (nI x) = a ↔ ∀ w, w < 32 → hsP A (nI w) → btx (nI w) x = true) ∧ (a &&& atF soInL (nI x) = 0 ↔ ∀ w, w < 32 → hsP A (nI w) → btx (nI w) x = false) := by
  constructor
  · constructor
    · intro h w hw hs
      have h1 := (bitF_get a hw).mp ((hz.has hw).mpr hs)
      rw [← so_bit ⟨x, hx⟩ ⟨w, hw⟩]
      have h2 := h1
      rw [← h, Int32.toBitVec_and, BitVec.getLsbD_and, Bool.and_eq_true] at h2
      exact h2.2
    · intro h
      apply b_ext
      intro w hw
      rw [b_and]
      by_cases q : hsP A (nI w)
      · have h1 := h w hw q
        rw [← so_bit ⟨x, hx⟩ ⟨w, hw⟩] at h1
        have h1 : btx (atF soInL (nI x)) w = true := h1
        rw [h1, Bool.and_true]
      · have h1 : btx a w = false := by
          cases e : btx a w with
          | false => rfl
          | true => exact absurd ((hz.has hw).mp ((bitF_get a hw).mpr e)) q
        rw [h1, Bool.false_and]
  · constructor
    · intro h w hw hs
      have h1 := (bitF_get a hw).mp ((hz.has hw).mpr hs)
      rw [← so_bit ⟨x, hx⟩ ⟨w, hw⟩]
      have h2 : btx (a &&& atF soInL (nI x)) w = false := by rw [h, b_0]
      rw [b_and, show btx a w = true from h1, Bool.true_and] at h2
      exact h2
    · intro h
      apply b_ext
      intro w hw
      rw [b_and, b_0]
      by_cases q : hsP A (nI w)
      · have h1 := h w hw q
        rw [← so_bit ⟨x, hx⟩ ⟨w, hw⟩] at h1
        have h1 : btx (atF soInL (nI x)) w = false := h1
        rw [h1, Bool.and_false]
      · have h1 : btx a w = false := by
          cases e : btx a w with
          | false => rfl
          | true => exact absurd ((hz.has hw).mp ((bitF_get a hw).mpr e)) q
        rw [h1, Bool.false_and]
theorem one_bt : ∀ x : Fin 5, ∀ i : Fin 32, btx ((1 : Int32) <<< (nI x.val &&& 31)) i.val = decide (i.val = x.val) := by decide +kernel
theorem sure_iff {a : Int32} {x : Nat} (c : Int32) (hc : c = 1 ∨ c = 0) : (¬ sureF (nI x) a = 0 ∧ bI (¬ a &&& atF soInL (nI x) = 0) = c) ↔ ¬ a = 0 ∧ (if c = 1 then a &&& atF soInL (nI x) = a else a &&& atF soInL (nI x) = 0) := by
  unfold sureF
  by_cases h0 : a = 0
  · rw [if_pos h0]
    exact ⟨fun z => absurd rfl z.1, fun z => absurd h0 z.1⟩
  · rw [if_neg h0]
    generalize a &&& atF soInL (nI x) = b
    rcases hc with rfl | rfl
    · rw [if_pos rfl]
      by_cases h1 : b = a
      · subst h1
        rw [if_pos rfl, bI_t h0]
        exact ⟨fun _ => ⟨h0, rfl⟩, fun _ => ⟨by decide, rfl⟩⟩
      · rw [if_neg h1]
        by_cases h2 : b = 0
        · rw [if_pos h2, bI_f (fun z => z h2)]
          exact ⟨fun z => absurd z.2 (by decide), fun z => absurd z.2 h1⟩
        · rw [if_neg h2]
          exact ⟨fun z => absurd rfl z.1, fun z => absurd z.2 h1⟩
    · rw [if_neg (show ¬ (0 : Int32) = 1 by decide)]
      by_cases h2 : b = 0
      · rw [bI_f (fun z => z h2)]
        refine ⟨fun _ => ⟨h0, h2⟩, fun _ => ⟨?_, rfl⟩⟩
        by_cases h1 : b = a
        · rw [if_pos h1]; decide
        · rw [if_neg h1, if_pos h2]; decide
      · rw [bI_t h2]
        exact ⟨fun z => absurd z.2 (by decide), fun z => absurd z.2 h2⟩
theorem thF_bit (a c : Int32) (hc : c = 1 ∨ c = 0) {i : Nat} (hi : i < 32) : ∀ n, n ≤ 5 → (btx (thF a c n) i = true ↔ i < n ∧ ¬ a = 0 ∧ (if c = 1 then a &&& atF soInL (nI i) = a else a &&& atF soInL (nI i) = 0))
  | 0, _ => by
    rw [thF, b_0]
    exact ⟨fun z => (by cases z), fun z => by omega⟩
  | n + 1, hn => by
    have ih := thF_bit a c hc hi n (by omega)
    have e := sure_iff (a := a) (x := n) c hc
    have rest : ∀ z : Prop, (btx (thF a c n) i = true ∨ (i = n ∧ z)) ↔ ((i < n ∧ ¬ a = 0 ∧ (if c = 1 then a &&& atF soInL (nI i) = a else a &&& atF soInL (nI i) = 0)) ∨ (i = n ∧ z)) := fun z => or_congr ih Iff.rfl
    rw [thF]
    by_cases q1 : sureF (nI n) a = 0
    · rw [if_pos q1, ih]
      constructor
      · rintro ⟨h1, h2⟩
        exact ⟨by omega, h2⟩
      · rintro ⟨h1, h2⟩
        by_cases en : i = n
        · subst en
          exact absurd q1 (e.mpr h2).1
        · exact ⟨by omega, h2⟩
    · rw [if_neg q1]
      by_cases q2 : bI (¬ a &&& atF soInL (nI n) = 0) = c
      · rw [if_pos q2, b_or, Bool.or_eq_true, ih, one_bt ⟨n, by omega⟩ ⟨i, hi⟩, decide_eq_true_iff]
        constructor
        · rintro (⟨h1, h2⟩ | h1)
          · exact ⟨by omega, h2⟩
          · have h1 : i = n := h1
            subst h1
            exact ⟨by omega, e.mp ⟨q1, q2⟩⟩
        · rintro ⟨h1, h2⟩
          by_cases en : i = n
          · exact Or.inr en
          · exact Or.inl ⟨by omega, h2⟩
      · rw [if_neg q2, ih]
        constructor
        · rintro ⟨h1, h2⟩
          exact ⟨by omega, h2⟩
        · rintro ⟨h1, h2⟩
          by_cases en : i = n
          · subst en
            exact absurd (e.mpr h2).2 q2
          · exact ⟨by omega, h2⟩
theorem th1_al {a : Int32} {A : Int64} (hz : Zx a A) : thF a 1 5 = alF A 32 := by
  apply b_ext
  intro i hi
  rw [Bool.eq_iff_iff, thF_bit a 1 (Or.inl rfl) hi 5 (Nat.le_refl _), alF_bit A hi 32 (Nat.le_refl _), if_pos rfl]
  constructor
  · rintro ⟨h1, h2, h3⟩
    exact ⟨fun z => h2 (hz.zero.mpr z), h1, (sub_iff hz h1).1.mp h3⟩
  · rintro ⟨h1, h2, h3⟩
    exact ⟨h2, fun z => h1 (hz.zero.mp z), (sub_iff hz h2).1.mpr h3⟩
theorem th0_al {a : Int32} {A : Int64} (hz : Zx a A) : thF a 0 5 = noF A 32 := by
  apply b_ext
  intro i hi
  rw [Bool.eq_iff_iff, thF_bit a 0 (Or.inr rfl) hi 5 (Nat.le_refl _), noF_bit A hi 32 (Nat.le_refl _), if_neg (by decide)]
  constructor
  · rintro ⟨h1, h2, h3⟩
    exact ⟨fun z => h2 (hz.zero.mpr z), h1, (sub_iff hz h1).2.mp h3⟩
  · rintro ⟨h1, h2, h3⟩
    exact ⟨h2, fun z => h1 (hz.zero.mp z), (sub_iff hz h2).2.mpr h3⟩
def kbeX (S : CS) (n : Nat) (what : Int32) : Int32 := if what = 0 then bcF (fitF S n) else if what = 1 then thF (fitF S n) 1 5 else if what = 2 then thF (fitF S n) 0 5 else if what = 3 then wnF (fitF S n) 0 32 0 0 else -7
def kbeG (S : CS) (nk : Nat) (n what : Int32) : Int32 := if (0 : Int32) ≤ n ∧ n ≤ nI nk then kbeX S n.toNatClampNeg what else -5
set_option maxRecDepth 100000 in
theorem P_behind (hX : X[0]? = some soInL) (hI : CInv S nt ns nk) (n what : Int32) : Ans l 6 X sgX7_behind [.ref 0, .int n, .int what] (encC S ++ T) (kbeG S nk n what) := by
  have hL := hI.1
  have em : S.1 134 = nI nk := hI.2.2.2.2.2.1
  have hm : nk ≤ 12 := hI.2.2.2.2.2.2
  refine Ctr.of okX7_behind rfl (Nat.le_of_ble_eq_true rfl) (run_sound okX7_behind noCut 200 ?_)
  refine br (fun q => ⟨rfl, some_int (if_neg (fun z => absurd q (Int32.not_lt.mpr z.1))).symm⟩) (fun h1 => br (fun h2 => ?_) (fun q => ⟨rfl, some_int (if_neg (fun z => q (by rw [em]; exact z.2))).symm⟩))
  have h2 : n ≤ S.1 134 := h2
  rw [em] at h2
  have yes : (0 : Int32) ≤ n ∧ n ≤ nI nk := ⟨Int32.not_lt.mp h1, h2⟩
  obtain ⟨k, hk, rfl⟩ := p3_or (c := nI nk) (z := nk) h1 h2 (nI_toInt (by omega)) (by omega)
  have e : kbeG S nk (nI k) what = kbeX S (nI k).toNatClampNeg what := if_pos yes
  rw [e, nI_clamp (by omega)]
  refine kH (c_fittingFirst hL (m := k) (by omega)) (by decide) ?_
  refine And.intro (fun hn => ⟨rfl, some_int ?_⟩) (And.intro (fun hh => ?_) (And.intro (fun hh => ?_) (And.intro (fun hh => ?_) (And.intro (fun hh => ?_) trivial))))
  · have n0 : ¬ what = 0 := fun z => by subst z; revert hn; decide
    have n1 : ¬ what = 1 := fun z => by subst z; revert hn; decide
    have n2 : ¬ what = 2 := fun z => by subst z; revert hn; decide
    have n3 : ¬ what = 3 := fun z => by subst z; revert hn; decide
    unfold kbeX
    rw [if_neg n0, if_neg n1, if_neg n2, if_neg n3]
    rfl
  · subst hh; exact kH (c_bitCount _) (by decide) ⟨rfl, rfl⟩
  · subst hh; exact kH (c_thingsSure hX _ _) (by decide) ⟨rfl, rfl⟩
  · subst hh; exact kH (c_thingsSure hX _ _) (by decide) ⟨rfl, rfl⟩
  · subst hh; exact kH (c_worldNumber _ _) (by decide) ⟨rfl, rfl⟩
theorem S_behind (hX : X[0]? = some soInL) (r : REL S M) (n what : Int32) : StE l X S M 6 sgX7_behind [.ref 0, .int n, .int what] 5 sgX8_behind [.ref 27, .int n, .int what] := by
  obtain ⟨nt, ns, nk, ta, h⟩ := id r.1
  have ki := KR.ki h r.2
  have c := P_behind (l := l) (T := encM M) hX ki.1 n what
  have h12 := h.1.2.2.2.2.1.2
  have e : kbeG S nk n what = beG M nk n what := by
    unfold kbeG kbeX beG
    by_cases q : (0 : Int32) ≤ n ∧ n ≤ nI nk
    · rw [if_pos q, if_pos q]
      obtain ⟨k, hk, rfl⟩ := inC (c := nI nk) (n := nk) (nI_toInt (by omega)) (by omega) q
      rw [nI_clamp (by omega)]
      have z := fit_al h r.2 k hk
      rw [z.cnt, th1_al z, th0_al z, lead_al z 32 0 (Nat.le_refl _)]
      by_cases q2 : p3P what
      · rw [if_pos q2]
        by_cases w0 : what = 0
        · rw [if_pos w0, if_pos w0]
        rw [if_neg w0, if_neg w0]
        by_cases w1 : what = 1
        · rw [if_pos w1, if_pos w1]
        rw [if_neg w1, if_neg w1]
        by_cases w2 : what = 2
        · rw [if_pos w2, if_pos w2]
        rw [if_neg w2, if_neg w2, if_pos]
        obtain ⟨d, hd, rfl⟩ := in03n q2
        rcases (show d = 0 ∨ d = 1 ∨ d = 2 ∨ d = 3 by omega) with rfl | rfl | rfl | rfl
        · exact absurd rfl w0
        · exact absurd rfl w1
        · exact absurd rfl w2
        · rfl
      · rw [if_neg q2, if_neg (fun z => q2 (by rw [z]; decide)), if_neg (fun z => q2 (by rw [z]; decide)), if_neg (fun z => q2 (by rw [z]; decide)), if_neg (fun z => q2 (by rw [z]; decide))]
    · rw [if_neg q, if_neg q]
  rw [e] at c
  exact ste r (an_B c) (fun B => g_behind h.1 n what)
/-! many -/
abbrev MT : Type := Int32 × Int32 × Int32
def kmnF (what a : Int32) : Nat → MT
  | 0 => (5, 0, 0)
  | w + 1 => if bitF a (nI w) = 1 then (minF (kmnF what a w).1 (bcF (nI w)), maxF (kmnF what a w).2.1 (bcF (nI w)), (kmnF what a w).2.2 + if bcF (nI w) = what - 2 then 1 else 0) else kmnF what a w
def kmnA (what a : Int32) : Int32 := if what = 0 then (kmnF what a 32).1 else if what = 1 then (kmnF what a 32).2.1 else (kmnF what a 32).2.2
def kmnG (S : CS) (nk : Nat) (what : Int32) : Int32 := if kxP 8 what then (if fitF S nk = 0 then -1 else kmnA what (fitF S nk)) else -2
set_option maxRecDepth 100000 in
theorem P_many (hI : CInv S nt ns nk) (what : Int32) : Ans l 7 X sgX7_many [.ref 0, .int what] (encC S ++ T) (kmnG S nk what) := by
  refine Ctr.of okX7_many rfl (Nat.le_of_ble_eq_true rfl) (run_sound okX7_many (fun i => Nat.beq i 21 || Nat.beq i 46) 200 ?_)
  refine kH (c_isBelow what 8) (by decide) (brB' (fun q => ⟨rfl, some_int (if_neg q).symm⟩) (fun q => kH (c_fitting hI) (by decide) (br (fun z => ⟨rfl, some_int ((if_pos q).trans (if_pos z)).symm⟩) (fun z => ?_))))
  have e : kmnG S nk what = kmnA what (fitF S nk) := (if_pos q).trans (if_neg z)
  rw [e]
  have key : ∀ f : Int32, ∀ j, j ≤ 32 → ∀ x7, WP l (rmD 7 0 0) X sgX7_many kX7_many (kR S T (kmnA what f)) 21 [some (.ref 0), some (.int what), some (.int f), some (.int (kmnF what f j).1), some (.int (kmnF what f j).2.1), some (.int (kmnF what f j).2.2), some (.int (nI j)), x7] [] (encC S ++ T) 0 0 := by
    intro f
    refine down (fun x7 => ?_) (fun j hj ih x7 => ?_)
    · exact run_sound okX7_many (fun i => Nat.beq i 21) 200 (brT (Int32.le_refl _) (br (fun p0 => ⟨rfl, some_int (if_pos p0).symm⟩) (fun p0 => br (fun p1 => ⟨rfl, some_int ((if_neg p0).trans (if_pos p1)).symm⟩) (fun p1 => ⟨rfl, some_int ((if_neg p0).trans (if_neg p1)).symm⟩))))
    · have t46 : ∀ (P : MT) x7, P = kmnF what f (j + 1) → WP l (rmD 7 0 0) X sgX7_many kX7_many (kR S T (kmnA what f)) 46 [some (.ref 0), some (.int what), some (.int f), some (.int P.1), some (.int P.2.1), some (.int P.2.2), some (.int (nI j)), x7] [] (encC S ++ T) 0 0 := by
        intro P x7 hP
        subst hP
        have ih := ih x7
        rw [← nI_1 j] at ih
        exact run_sound okX7_many (fun i => Nat.beq i 21) 200 ih
      refine run_sound okX7_many (fun i => Nat.beq i 21 || Nat.beq i 46) 200 (brF (ge_no (n := 32) rfl hj (by decide)) (kH (c_bit _ _) (by decide) (br (fun h => kH (c_bitCount _) (by decide) (And.intro (by decide) (And.intro (by decide) (br (fun h2 => ?_) (fun h2 => ?_))))) (fun h => ?_))))
      · refine t46 (minF (kmnF what f j).1 (bcF (nI j)), maxF (kmnF what f j).2.1 (bcF (nI j)), (kmnF what f j).2.2 + 1) _ ?_
        have h : bitF f (nI j) = 1 := h
        have h2 : bcF (nI j) = what - 2 := h2
        rw [kmnF, if_pos h, if_pos h2]
      · refine t46 (minF (kmnF what f j).1 (bcF (nI j)), maxF (kmnF what f j).2.1 (bcF (nI j)), (kmnF what f j).2.2) _ ?_
        have h : bitF f (nI j) = 1 := h
        have h2 : ¬ bcF (nI j) = what - 2 := h2
        rw [kmnF, if_pos h, if_neg h2, show (kmnF what f j).2.2 + 0 = (kmnF what f j).2.2 from Int32.add_zero _]
      · refine t46 (kmnF what f j) _ ?_
        have h : ¬ bitF f (nI j) = 1 := h
        rw [kmnF, if_neg h]
  exact key _ 0 (Nat.zero_le _) _
theorem bc_5 : ∀ w : Fin 32, (0 : Int32) ≤ bcF (nI w.val) ∧ bcF (nI w.val) ≤ 5 ∧ ¬ bcF (nI w.val) = -1 := by decide +kernel
theorem many_al {a : Int32} {A : Int64} (hz : Zx a A) (what : Int32) : ∀ n, n ≤ 32 → ((∀ w, w < n → ¬ hsP A (nI w)) ∧ kmnF what a n = (5, 0, 0) ∧ maF what A n = (-1, -1, 0)) ∨ ((∃ w, w < n ∧ hsP A (nI w)) ∧ kmnF what a n = maF what A n ∧ ¬ (maF what A n).1 = -1)
  | 0, _ => Or.inl ⟨fun w hw => by omega, rfl, rfl⟩
  | n + 1, hn => by
    have e := hz.has (show n < 32 by omega)
    obtain ⟨b0, b5, bn⟩ := bc_5 ⟨n, by omega⟩
    have eb : cntF (nI n).toInt64 32 = bcF (nI n) := (bc_nat (by omega)).symm
    by_cases q : hsP A (nI n)
    · refine Or.inr ⟨⟨n, by omega, q⟩, ?_⟩
      rw [kmnF, maF, if_pos (e.mpr q), if_pos q, eb]
      rcases many_al hz what n (by omega) with ⟨h1, h2, h3⟩ | ⟨h1, h2, h3⟩
      · rw [h2, h3]
        have e1 : minF (5, (0 : Int32), (0 : Int32)).1 (bcF (nI n)) = bcF (nI n) := by
          unfold minF
          by_cases y : bcF (nI n) < 5
          · exact if_pos y
          · rw [if_neg y]
            exact Int32.le_antisymm (Int32.not_lt.mp y) b5
        have e2 : maxF ((5 : Int32), (0 : Int32), (0 : Int32)).2.1 (bcF (nI n)) = bcF (nI n) := by
          unfold maxF
          by_cases y : 0 < bcF (nI n)
          · exact if_pos y
          · rw [if_neg y]
            exact Int32.le_antisymm b0 (Int32.not_lt.mp y)
        have e3 : ¬ bcF (nI n) ≤ ((-1 : Int32), (-1 : Int32), (0 : Int32)).2.1 := fun y => absurd (Int32.le_trans b0 y) (by decide)
        rw [e1, e2, if_pos rfl, if_neg e3]
        exact ⟨rfl, bn⟩
      · rw [h2, if_neg h3]
        have e1 : minF (maF what A n).1 (bcF (nI n)) = if (maF what A n).1 ≤ bcF (nI n) then (maF what A n).1 else bcF (nI n) := by
          unfold minF
          by_cases y : bcF (nI n) < (maF what A n).1
          · rw [if_pos y, if_neg (Int32.not_le.mpr y)]
          · rw [if_neg y, if_pos (Int32.not_lt.mp y)]
        have e2 : maxF (maF what A n).2.1 (bcF (nI n)) = if bcF (nI n) ≤ (maF what A n).2.1 then (maF what A n).2.1 else bcF (nI n) := by
          unfold maxF
          by_cases y : (maF what A n).2.1 < bcF (nI n)
          · rw [if_pos y, if_neg (Int32.not_le.mpr y)]
          · rw [if_neg y, if_pos (Int32.not_lt.mp y)]
        rw [e1, e2]
        refine ⟨rfl, ?_⟩
        show ¬ (if (maF what A n).1 ≤ bcF (nI n) then (maF what A n).1 else bcF (nI n)) = -1
        by_cases y : (maF what A n).1 ≤ bcF (nI n)
        · rw [if_pos y]; exact h3
        · rw [if_neg y]; exact bn
    · rw [kmnF, maF, if_neg (fun z => q (e.mp z)), if_neg q]
      rcases many_al hz what n (by omega) with ⟨h1, h2, h3⟩ | ⟨⟨w, hw, h1⟩, h2, h3⟩
      · refine Or.inl ⟨fun w hw => ?_, h2, h3⟩
        by_cases ew : w = n
        · subst ew; exact q
        · exact h1 w (by omega)
      · exact Or.inr ⟨⟨w, by omega, h1⟩, h2, h3⟩
theorem S_many (r : REL S M) (what : Int32) : StE l X S M 7 sgX7_many [.ref 0, .int what] 6 sgX8_many [.ref 27, .int what] := by
  obtain ⟨nt, ns, nk, ta, h⟩ := id r.1
  have ki := KR.ki h r.2
  have c := P_many (l := l) (X := X) (T := encM M) ki.1 what
  have z := fit_al h r.2 nk (Nat.le_refl _)
  have e : kmnG S nk what = mnG M nk what := by
    unfold kmnG mnG
    have x8 : kxP 8 what ↔ ((0 : Int32) ≤ what ∧ what ≤ 7) := and_congr_right (fun _ => ltle (by decide))
    by_cases q : (0 : Int32) ≤ what ∧ what ≤ 7
    · rw [if_pos (x8.mpr q), if_pos q]
      unfold manF kmnA
      rcases many_al z what 32 (Nat.le_refl _) with ⟨h1, h2, h3⟩ | ⟨⟨w, hw, h1⟩, h2, h3⟩
      · have z0 : fitF S nk = 0 := by
          apply b_ext
          intro w hw
          rw [b_0]
          cases e : btx (fitF S nk) w with
          | false => rfl
          | true => exact absurd ((z.has hw).mp ((bitF_get _ hw).mpr e)) (h1 w hw)
        rw [if_pos z0, h3, if_pos rfl]
      · have z0 : ¬ fitF S nk = 0 := fun y => by
          have := (bitF_get _ hw).mp ((z.has hw).mpr h1)
          have e0 : btx (fitF S nk) w = false := by rw [y, b_0]
          rw [show btx (fitF S nk) w = true from this] at e0
          cases e0
        rw [if_neg z0, if_neg h3, h2]
    · rw [if_neg (fun y => q (x8.mp y)), if_neg q]
  rw [e] at c
  exact ste r (an_B c) (fun B => g_many h.1 what)
/-! judge -/
abbrev rdI (S : CS) (s i : Int32) : Int32 := atF (S.2 24) (s * Int32.ofInt 40 + i)
def kjrP (S : CS) (s n w : Int32) : Prop := kxP (S.1 133) (rdI S s (Int32.ofInt 3 * n)) ∧ kxP (S.1 93) (rdI S s (Int32.ofInt 3 * n + Int32.ofInt 1)) ∧ kxP 2 (rdI S s (Int32.ofInt 3 * n + Int32.ofInt 2)) ∧
  bitF (nextF S (rdI S s (Int32.ofInt 3 * n)) (rdI S s (Int32.ofInt 3 * n + Int32.ofInt 1)) (rdI S s (Int32.ofInt 3 * n + Int32.ofInt 2)) n) w = 1
abbrev anP (S : CS) (T : AH) (P : Prop) : AH → Option Value → Prop := fun h v => h = encC S ++ T ∧ ∃ x : Int32, v = some (.int x) ∧ ((x = 0 ∧ ¬ P) ∨ (x = 1 ∧ P))
set_option maxRecDepth 100000 in
theorem P_rowFits (hL : CLen S) (s n w : Int32) : Ctr l 3 X sgX7_rowFits [.ref 0, .int s, .int n, .int w] (encC S ++ T) (anP S T (kjrP S s n w)) := by
  refine Ctr.of okX7_rowFits rfl (Nat.le_of_ble_eq_true rfl) (run_sound okX7_rowFits noCut 300 ?_)
  have a0 : ¬ kjrP S s n w → anP S T (kjrP S s n w) (encC S ++ T) (some (.int 0)) := fun h => ⟨rfl, 0, rfl, Or.inl ⟨rfl, h⟩⟩
  have a1 : kjrP S s n w → anP S T (kjrP S s n w) (encC S ++ T) (some (.int 1)) := fun h => ⟨rfl, 1, rfl, Or.inr ⟨rfl, h⟩⟩
  refine kH (c_read hL _ _) (by decide) (kH (c_read hL _ _) (by decide) (kH (c_read hL _ _) (by decide) ?_))
  exact kH (c_isSpeaker _) (by decide) (brB' (fun q => ⟨rfl, a0 (fun z => q z.1)⟩) (fun q1 => kH (c_isText _) (by decide) (brB' (fun q => ⟨rfl, a0 (fun z => q z.2.1)⟩) (fun q2 => kH (c_isBelow _ _) (by decide) (brB' (fun q => ⟨rfl, a0 (fun z => q z.2.2.1)⟩) (fun q3 => kH (c_sayableNext hL _ _ _ _) (by decide) (kH (c_bit _ _) (by decide) (br (fun y => ⟨rfl, a1 ⟨q1, q2, q3, y⟩⟩) (fun y => ⟨rfl, a0 (fun z => y z.2.2.2)⟩)))))))))
end Q3
end
section
-- 97zf.q4
/-! QUESTIONS ALIKE: judge, habit -/
section Q4
variable {l : Launch} {X : List (List Int32)} {S : CS} {T : AH} {M : MS} {nt ns nk ta : Nat}
theorem row_al (h : RInv M nt ns nk ta) (k : KR S M) {a i w : Nat} (ha : a < 4) (hi : i < 14) (hw : w < 32) : kjrP S (nI a) (nI i) (nI w) ↔ irP M nt ns (40 * a + 3 * i) (nI i) (nI w) := by
  have ki := KR.ki h k
  have rs := k.rs
  have h5 := h.1.2.2.2.1.2
  have h6 := h.1.2.2.1.2.2
  have e0 : rdI S (nI a) (Int32.ofInt 3 * nI i) = ceA M (40 * a + 3 * i) := by
    unfold rdI ceA
    rw [show nI a * Int32.ofInt 40 = nI (a * 40) from nI_mul a 40, show Int32.ofInt 3 * nI i = nI (3 * i) from nI_mul 3 i, nI_add, atF_n (by omega), rs.2.2, Nat.mul_comm a 40]
  have e1 : rdI S (nI a) (Int32.ofInt 3 * nI i + Int32.ofInt 1) = ceA M (40 * a + 3 * i + 1) := by
    unfold rdI ceA
    rw [show nI a * Int32.ofInt 40 = nI (a * 40) from nI_mul a 40, show Int32.ofInt 3 * nI i = nI (3 * i) from nI_mul 3 i, show nI (3 * i) + Int32.ofInt 1 = nI (3 * i + 1) from nI_add _ 1, nI_add, atF_n (by omega), rs.2.2, Nat.mul_comm a 40, Nat.add_assoc]
  have e2 : rdI S (nI a) (Int32.ofInt 3 * nI i + Int32.ofInt 2) = ceA M (40 * a + 3 * i + 2) := by
    unfold rdI ceA
    rw [show nI a * Int32.ofInt 40 = nI (a * 40) from nI_mul a 40, show Int32.ofInt 3 * nI i = nI (3 * i) from nI_mul 3 i, show nI (3 * i) + Int32.ofInt 2 = nI (3 * i + 2) from nI_add _ 2, nI_add, atF_n (by omega), rs.2.2, Nat.mul_comm a 40, Nat.add_assoc]
  unfold kjrP irP
  rw [e0, e1, e2, ki.1.2.2.2.1, ki.1.2.1]
  have f0 := xp_iff (n := ns) (by omega) (s := ceA M (40 * a + 3 * i))
  have f1 := xp_iff (n := nt) (by omega) (s := ceA M (40 * a + 3 * i + 1))
  have f2 := x2_iff (u := ceA M (40 * a + 3 * i + 2))
  have fin : tP ns (ceA M (40 * a + 3 * i)) → tP nt (ceA M (40 * a + 3 * i + 1)) → p1P (ceA M (40 * a + 3 * i + 2)) → (bitF (nextF S (ceA M (40 * a + 3 * i)) (ceA M (40 * a + 3 * i + 1)) (ceA M (40 * a + 3 * i + 2)) (nI i)) (nI w) = 1 ↔ hsP (fitT M (ceA M (40 * a + 3 * i)).toNatClampNeg (ceA M (40 * a + 3 * i + 1)).toNatClampNeg (ceA M (40 * a + 3 * i + 2)).toNatClampNeg (nI i)) (nI w)) := by
    intro g0 g1 g2
    obtain ⟨x, hx, ex⟩ := inN (by omega) g0
    obtain ⟨y, hy, ey⟩ := inN (by omega) g1
    obtain ⟨u, hu, eu⟩ := inC (c := 1) (n := 1) (by decide) (by decide) g2
    rw [ex, ey, eu, nI_clamp (by omega), nI_clamp (by omega), nI_clamp (by omega)]
    exact (next_al h k (by omega) hy (by omega) (nI i)).has hw
  constructor
  · rintro ⟨g0, g1, g2, g3⟩
    exact ⟨f0.mp g0, f1.mp g1, f2.mp g2, (fin (f0.mp g0) (f1.mp g1) (f2.mp g2)).mp g3⟩
  · rintro ⟨g0, g1, g2, g3⟩
    exact ⟨f0.mpr g0, f1.mpr g1, f2.mpr g2, (fin g0 g1 g2).mpr g3⟩
set_option maxRecDepth 100000 in
theorem P_judge (h : RInv M nt ns nk ta) (k : KR S M) (s w : Int32) : Ans l 4 X sgX7_judge [.ref 0, .int s, .int w] (mk S M) (juG M nt ns s w) := by
  have hL := k.cl
  have rs := k.rs
  refine Ctr.of okX7_judge rfl (Nat.le_of_ble_eq_true rfl) (run_sound okX7_judge (fun i => Nat.beq i 32) 200 ?_)
  refine kH (k_B s 4 3 (by decide)) (by decide) (brB' (fun q => ⟨rfl, some_int (if_neg q).symm⟩) (fun q => ?_))
  obtain ⟨a, ha, rfl⟩ := in03n q
  obtain ⟨-, z, hz, ez⟩ := h.2.2.1 a ha
  have e : juG M nt ns (nI a) w = if (M.2.1 17).getD a 0 = -1 then -11 else if z % 3 = 0 then (if wdP w then juF M nt ns a w (z / 3) 0 else -5) else -2 := by
    unfold juG siN
    rw [if_pos q, nI_clamp (by omega), ez, nI_clamp (by omega)]
  rw [e]
  have e22 : atF (S.2 22) (nI a) = (M.2.1 17).getD a 0 := by rw [rs.1, atF_n (by omega)]
  have e23 : atF (S.2 23) (nI a) = nI z := by rw [rs.2.1, atF_n (by omega)]; exact ez
  refine kH (c_isMissing hL _) (by decide) (brB' (fun q2 => ?_) (fun q2 => ⟨rfl, some_int (if_pos (e22.symm.trans q2)).symm⟩))
  rw [if_neg (fun y => q2 (e22.trans y))]
  have ca := c_at (l := l) (X := X) (hp := mk S M) (q := 23) (xs := S.2 23) (i := nI a) rfl (hL.lt 23)
  rw [e23] at ca
  refine kH ca (by decide) ?_
  have er : nI z - nI z / Int32.ofInt 3 * Int32.ofInt 3 = nI (z % 3) := nI_rem (b := 3) (by omega) (by decide) (by decide)
  have ed : nI z / Int32.ofInt 3 = nI (z / 3) := nI_div (b := 3) (by omega) (by decide) (by decide)
  refine And.intro (by decide) (br (fun y => ?_) (fun y => ?_))
  · have y : nI z - nI z / Int32.ofInt 3 * Int32.ofInt 3 = 0 := y
    rw [er] at y
    have y3 : z % 3 = 0 := nI_inj (b := 0) (by omega) (by decide) y
    rw [if_pos y3]
    refine kH (c_isWorld w) (by decide) (brB' (fun q3 => ⟨rfl, some_int (if_neg (fun y => q3 (x32_iff.mpr y))).symm⟩) (fun q3 => ?_))
    have q4 : wdP w := x32_iff.mp q3
    rw [if_pos q4]
    obtain ⟨b, hb, rfl⟩ := inC (c := 31) (n := 31) (by decide) (by decide) q4
    obtain ⟨W, hW⟩ : ∃ W, juF M nt ns a (nI b) (z / 3) 0 = W := ⟨_, rfl⟩
    rw [hW]
    have key : ∀ j, j ≤ z / 3 → juF M nt ns a (nI b) (z / 3 - j) j = W → WP l (rmD 4 0 0) X sgX7_judge kX7_judge (fun h w => h = mk S M ∧ w = some (.int W)) 32 [some (.ref 0), some (.int (nI a)), some (.int (nI b)), some (.int (nI z)), some (.int (nI j))] [] (mk S M) 0 0 := by
      refine down (fun hW => ?_) (fun j hj ih hW => ?_)
      · rw [Nat.sub_self] at hW
        exact run_sound okX7_judge (fun i => Nat.beq i 32) 200 (And.intro (by decide) (brT (nle ed) ⟨rfl, some_int hW⟩))
      · rw [show z / 3 - j = (z / 3 - (j + 1)) + 1 by omega, juF] at hW
        refine run_sound okX7_judge (fun i => Nat.beq i 32) 200 (And.intro (by decide) (brF (nge ed hj (by omega)) ⟨3, _, by decide, P_rowFits hL _ _ _, ?_⟩))
        have er := row_al h k ha (show j < 14 by omega) (show b < 32 by omega)
        rintro hp' w' ⟨rfl, x, rfl, hx⟩
        rw [← nI_1 j] at ih
        refine br (fun x0 => ?_) (fun x0 => ?_)
        · have x0 : x = 0 := x0
          have np : ¬ kjrP S (nI a) (nI j) (nI b) := by
            rcases hx with ⟨-, y⟩ | ⟨y, -⟩
            · exact y
            · rw [x0] at y; exact absurd y (by decide)
          rw [if_neg (fun y => np (er.mpr y))] at hW
          exact ⟨rfl, some_int hW⟩
        · have x0 : ¬ x = 0 := x0
          have np : kjrP S (nI a) (nI j) (nI b) := by
            rcases hx with ⟨y, -⟩ | ⟨-, y⟩
            · exact absurd y x0
            · exact y
          rw [if_pos (er.mp np)] at hW
          exact ih hW
    exact key 0 (Nat.zero_le _) hW
  · have y : ¬ nI z - nI z / Int32.ofInt 3 * Int32.ofInt 3 = 0 := y
    rw [er] at y
    have y3 : ¬ z % 3 = 0 := fun g => y (by rw [g]; rfl)
    rw [if_neg y3]
    exact ⟨rfl, rfl⟩
theorem S_judge (r : REL S M) (s w : Int32) : StE l X S M 4 sgX7_judge [.ref 0, .int s, .int w] 5 sgX8_judge [.ref 27, .int s, .int w] := by
  obtain ⟨nt, ns, nk, ta, h⟩ := id r.1
  exact ste r (an_B (P_judge h r.2 s w)) (fun B => g_judge h.1 h.2.2.1 s w)
/-! habit -/
def khaF (S : CS) (s w : Int32) : Nat → Int32 × Int32
  | 0 => (0, 0)
  | k + 1 => if partF S (nI k) 0 = s then (if bitF (firstF S (nI k)) w = bitF (secondF S (nI k)) w then (khaF S s w k).1 else (khaF S s w k).1 + 1, if bitF (firstF S (nI k)) w = 1 ∧ bitF (secondF S (nI k)) w = 0 then (khaF S s w k).2 + 1 else (khaF S s w k).2) else khaF S s w k
def khbG (S : CS) (nk : Nat) (s w part : Int32) : Int64 := if kxP (S.1 133) s ∧ kxP 32 w ∧ kxP 2 part then lowF (khaF S s w nk).2 (khaF S s w nk).1 part else -4611686018427387904
set_option maxRecDepth 100000 in
theorem P_habit (hI : CInv S nt ns nk) (s w part : Int32) : AnsL l 5 X sgX7_habit [.ref 0, .int s, .int w, .int part] (encC S ++ T) (khbG S nk s w part) := by
  have hL := hI.1
  have em : S.1 134 = nI nk := hI.2.2.2.2.2.1
  have hm : nk ≤ 12 := hI.2.2.2.2.2.2
  refine Ctr.of okX7_habit rfl (Nat.le_of_ble_eq_true rfl) (run_sound okX7_habit cNhb 200 ?_)
  have t11 : ¬ (kxP (S.1 133) s ∧ kxP 32 w ∧ kxP 2 part) → WP l (rmD 5 0 0) X sgX7_habit kX7_habit (kRL S T (khbG S nk s w part)) 11 [some (.ref 0), some (.int s), some (.int w), some (.int part), none, none, none, none, none] [] (encC S ++ T) 0 0 := fun q => run_sound okX7_habit noCut 200 ⟨rfl, rfl, some_long (if_neg q).symm⟩
  refine kH (c_isSpeaker s) (by decide) (brB' (fun q => t11 (fun z => q z.1)) (fun q1 => kH (c_isWorld w) (by decide) (brB' (fun q => t11 (fun z => q z.2.1)) (fun q2 => kH (c_isBelow part 2) (by decide) (brB' (fun q => t11 (fun z => q z.2.2)) (fun q3 => ?_))))))
  have e : khbG S nk s w part = lowF (khaF S s w nk).2 (khaF S s w nk).1 part := if_pos ⟨q1, q2, q3⟩
  rw [e]
  have key : ∀ k, k ≤ nk → ∀ u v, WP l (rmD 5 0 0) X sgX7_habit kX7_habit (kRL S T (lowF (khaF S s w nk).2 (khaF S s w nk).1 part)) 19 [some (.ref 0), some (.int s), some (.int w), some (.int part), some (.int (khaF S s w k).1), some (.int (khaF S s w k).2), some (.int (nI k)), u, v] [] (encC S ++ T) 0 0 := by
    refine down (fun u v => ?_) (fun k hk ih u v => ?_)
    · exact run_sound okX7_habit cNhb 200 (brT (nle em) (kH (c_inLowestTerms _ _ _) (by decide) ⟨rfl, rfl, rfl⟩))
    · have t53 : ∀ (x y : Int32) u v, (x, y) = khaF S s w (k + 1) → WP l (rmD 5 0 0) X sgX7_habit kX7_habit (kRL S T (lowF (khaF S s w nk).2 (khaF S s w nk).1 part)) 53 [some (.ref 0), some (.int s), some (.int w), some (.int part), some (.int x), some (.int y), some (.int (nI k)), u, v] [] (encC S ++ T) 0 0 := by
        intro x y u v hx
        have ih := ih u v
        rw [← hx, ← nI_1 k] at ih
        exact run_sound okX7_habit cNhb 200 ih
      have t47 : ∀ (x : Int32), partF S (nI k) 0 = s → x = (if bitF (firstF S (nI k)) w = bitF (secondF S (nI k)) w then (khaF S s w k).1 else (khaF S s w k).1 + 1) → WP l (rmD 5 0 0) X sgX7_habit kX7_habit (kRL S T (lowF (khaF S s w nk).2 (khaF S s w nk).1 part)) 47 [some (.ref 0), some (.int s), some (.int w), some (.int part), some (.int x), some (.int (khaF S s w k).2), some (.int (nI k)), some (.int (bitF (firstF S (nI k)) w)), some (.int (bitF (secondF S (nI k)) w))] [] (encC S ++ T) 0 0 := by
        intro x hp hx
        refine run_sound okX7_habit cNhb 200 (br (fun y1 => br (fun y2 => t53 _ _ _ _ ?_) (fun y2 => t53 _ _ _ _ ?_)) (fun y1 => t53 _ _ _ _ ?_))
        · have y1 : bitF (firstF S (nI k)) w = 1 := y1
          have y2 : bitF (secondF S (nI k)) w = 0 := y2
          rw [khaF, if_pos hp, ← hx, if_pos ⟨y1, y2⟩]; rfl
        · rw [khaF, if_pos hp, ← hx, if_neg (fun z => y2 z.2)]
        · rw [khaF, if_pos hp, ← hx, if_neg (fun z => y1 z.1)]
      refine run_sound okX7_habit cNhb 200 (brF (nge em hk (by omega)) (kH (c_sayingPart hL _ _) (by decide) (br (fun hp => kH (c_firstSaid hL _) (by decide) (kH (c_bit _ _) (by decide) (kH (c_secondSaid hL _) (by decide) (kH (c_bit _ _) (by decide) (br (fun y => t47 _ hp ?_) (fun y => t47 _ hp ?_)))))) (fun hp => t53 _ _ _ _ ?_))))
      · exact (if_pos y).symm
      · exact (if_neg y).symm
      · have hp : ¬ partF S (nI k) 0 = s := hp
        rw [khaF, if_neg hp]
  exact key 0 (Nat.zero_le _) _ _
theorem bit_bI {a : Int32} {A : Int64} (hz : Zx a A) {w : Nat} (hw : w < 32) : bitF a (nI w) = bI (hsP A (nI w)) := by
  have e := hz.has hw
  by_cases q : hsP A (nI w)
  · rw [bI_t q]; exact e.mpr q
  · rw [bI_f q]; exact (bitF_z _ _).mpr (fun y => q (e.mp y))
theorem hab_al (h : RInv M nt ns nk ta) (k : KR S M) {s w : Nat} (hs : s < 5) (hw : w < 32) : ∀ m, m ≤ nk → khaF S (nI s) (nI w) m = (nI (haT M s (nI w) m).2, nI (haT M s (nI w) m).1)
  | 0, _ => rfl
  | m + 1, hm => by
    have ih := hab_al h k hs hw m (by omega)
    obtain ⟨p0, -, -⟩ := part_al h k (show m < nk by omega)
    obtain ⟨-, -, -, b0, -, -⟩ := tk_ok h.1 (show m < nk by omega)
    rw [khaF, haT, p0, ih]
    by_cases q : tk M m 0 = s
    · rw [if_pos (by rw [q])]
      obtain ⟨z1, z2⟩ := pq_al h k (show m < nk by omega)
      rw [q] at z1 z2
      rw [bit_bI z1 hw, bit_bI z2 hw]
      by_cases y : bI (hpP M s (nI w) m) = bI (hqP M s (nI w) m)
      · have n1 : ¬ hcP M s (nI w) m := fun z => z.2 y
        have n2 : ¬ (bI (hpP M s (nI w) m) = 1 ∧ bI (hqP M s (nI w) m) = 0) := fun z => by
          rw [y, z.2] at z
          exact absurd z.1 (by decide)
        rw [if_pos y, if_neg n2, if_neg n1, if_neg (fun z => n1 z.1)]
        rfl
      · have n1 : hcP M s (nI w) m := ⟨q, y⟩
        rw [if_neg y, if_pos n1]
        by_cases y2 : hpP M s (nI w) m
        · have y3 : ¬ hqP M s (nI w) m := fun z => y (by rw [bI_t y2, bI_t z])
          rw [if_pos ⟨bI_t y2, bI_f y3⟩, if_pos ⟨n1, y2⟩, nI_1, nI_1]
        · rw [if_neg (fun z => by rw [bI_f y2] at z; exact absurd z.1 (by decide)), if_neg (fun z => y2 z.2), nI_1]
          rfl
    · have n1 : ¬ hcP M s (nI w) m := fun z => q z.1
      rw [if_neg (fun z => q (nI_inj (by omega) (by omega) z)), if_neg n1, if_neg (fun z => n1 z.1)]
      rfl
theorem haT_lex (M : MS) (s : Nat) (w : Int32) : ∀ m, (haT M s w m).1 ≤ (haT M s w m).2 ∧ (haT M s w m).2 ≤ m
  | 0 => ⟨Nat.le_refl _, Nat.le_refl _⟩
  | m + 1 => by
    obtain ⟨h1, h2⟩ := haT_lex M s w m
    rw [haT]
    by_cases y : hcP M s w m
    · rw [if_pos y]
      by_cases y2 : hpP M s w m
      · rw [if_pos ⟨y, y2⟩]
        exact ⟨by show _ + 1 ≤ _ + 1; omega, by show _ + 1 ≤ _ + 1; omega⟩
      · rw [if_neg (fun z => y2 z.2)]
        exact ⟨by show _ + 0 ≤ _ + 1; omega, by show _ + 1 ≤ _ + 1; omega⟩
    · rw [if_neg y, if_neg (fun z => y z.1)]
      exact ⟨by show _ + 0 ≤ _ + 0; omega, by show _ + 0 ≤ _ + 1; omega⟩
theorem low_al : ∀ a : Fin 61, ∀ b : Fin 13, ¬ b.val = 0 → ∀ part : Fin 2, lowF (nI a.val) (nI b.val) (nI part.val) = loG (Int64.ofNat a.val) (Int64.ofNat b.val) (nI part.val) := by decide +kernel
theorem S_habit (r : REL S M) (s w part : Int32) : StEL l X S M 5 sgX7_habit [.ref 0, .int s, .int w, .int part] 5 sgX8_habit [.ref 27, .int s, .int w, .int part] := by
  obtain ⟨nt, ns, nk, ta, h⟩ := id r.1
  have ki := KR.ki h r.2
  have c := P_habit (l := l) (X := X) (T := encM M) ki.1 s w part
  have h5 := h.1.2.2.2.1.2
  have h12 := h.1.2.2.2.2.1.2
  have e : khbG S nk s w part = hbG M ns nk s w part := by
    unfold khbG hbG
    rw [ki.1.2.2.2.1]
    by_cases q : tP ns s ∧ wdP w ∧ p1P part
    · rw [if_pos ⟨(xp_iff (by omega)).mpr q.1, x32_iff.mpr q.2.1, x2_iff.mpr q.2.2⟩, if_pos q]
      obtain ⟨a, ha, rfl⟩ := inN (by omega) q.1
      obtain ⟨b, hb, rfl⟩ := inC (c := 31) (n := 31) (by decide) (by decide) q.2.1
      obtain ⟨d, hd, rfl⟩ := inC (c := 1) (n := 1) (by decide) (by decide) q.2.2
      rw [nI_clamp (by omega), hab_al h r.2 (by omega) (by omega) nk (Nat.le_refl _)]
      obtain ⟨l1, l2⟩ := haT_lex M a (nI b) nk
      generalize (haT M a (nI b) nk).1 = f at l1 ⊢
      generalize (haT M a (nI b) nk).2 = g at l1 l2 ⊢
      by_cases g0 : g = 0
      · subst g0
        rw [if_pos (show Int64.ofNat 0 = 0 from rfl)]
        exact if_pos (Or.inl rfl)
      · have g1 : ¬ Int64.ofNat g = 0 := fun z => by
          have a : ∀ j : Fin 13, Int64.ofNat j.val = 0 → j.val = 0 := by decide +kernel
          exact g0 (a ⟨g, by omega⟩ z)
        rw [if_neg g1]
        exact low_al ⟨f, by omega⟩ ⟨g, by omega⟩ g0 ⟨d, by omega⟩
    · rw [if_neg (fun z => q ⟨(xp_iff (by omega)).mp z.1, x32_iff.mp z.2.1, x2_iff.mp z.2.2⟩), if_neg q]
  rw [e] at c
  exact steL r (an_BL c) (fun B => g_habit h.1 s w part)
end Q4
end
section
-- 97zg.q5
/-! QUESTIONS ALIKE: ask, two -/
section Q5
variable {l : Launch} {X : List (List Int32)} {S : CS} {T : AH} {M : MS} {nt ns nk ta : Nat}
theorem maxF_R (a b : Int32) : maxF a b = maxR a b := by
  unfold maxF maxR
  by_cases q : a < b
  · rw [if_pos q, if_pos (Int32.le_of_lt q)]
  · rw [if_neg q]
    by_cases q2 : a ≤ b
    · rw [if_pos q2]
      exact Int32.le_antisymm q2 (Int32.not_lt.mp q)
    · rw [if_neg q2]
abbrev R32 (x : Int32) : Prop := (0 : Int32) ≤ x ∧ x ≤ 32
theorem cnt_R (s : Int64) : R32 (cntF s 32) := by
  have h := cnN_le s 32
  rw [cnt_N]
  exact ⟨nI_ge0 (by omega), (nI_leI (b := 32) (by omega) (by decide)).mpr h⟩
theorem maxR_R {a b : Int32} (ha : R32 a) (hb : R32 b) : R32 (maxR a b) := by
  unfold maxR
  by_cases q : a ≤ b
  · rw [if_pos q]; exact hb
  · rw [if_neg q]; exact ha
theorem ws_R (L : Int64) (s t : Nat) (n : Int32) : R32 (wsT M L s t n) := maxR_R (cnt_R _) (cnt_R _)
theorem R32_lt {x : Int32} (h : R32 x) : x < 33 := Int32.lt_of_le_of_lt h.2 (by decide)
theorem R32_m1 {x : Int32} (h : R32 x) : ¬ x = -1 := fun z => by
  rw [z] at h
  exact absurd h.1 (by decide)
theorem worst_al (h : RInv M nt ns nk ta) (k : KR S M) {left : Int32} {L : Int64} (hz : Zx left L) {s t : Nat} (hs : s < 5) (ht : t < nt) (n : Int32) : worstF S left (nI s) (nI t) n = wsT M L s t n := by
  unfold worstF wsT
  rw [maxF_R]
  have z0 : Zx (left &&& nextF S (nI s) (nI t) 0 n) (L &&& fitT M s t 0 n) := hz.and (next_al h k hs ht (u := 0) (by decide) n)
  have z1 : Zx (left &&& nextF S (nI s) (nI t) 1 n) (L &&& fitT M s t 1 n) := hz.and (next_al h k hs ht (u := 1) (by decide) n)
  rw [z0.cnt, z1.cnt]
theorem ten_ne {s t : Nat} (hs : s < 5) (ht : t < 6) : Int32.ofInt 10 * nI s + nI t = nI (10 * s + t) := by
  rw [show Int32.ofInt 10 * nI s = nI (10 * s) from nI_mul 10 s, nI_add]
/-- the best question so far, on both sides -/
def QR (nt : Nat) (B : BQ) (Q : QT) (k : Nat) : Prop := (k = 0 ∧ B.2.2.1 = 33 ∧ Q = (-1, -1, -1)) ∨ (0 < k ∧ ∃ s t : Nat, s < 5 ∧ t < nt ∧ B.1 = nI s ∧ B.2.1 = nI t ∧ Q.1 = Int32.ofInt 10 * nI s + nI t ∧ Q.2.1 = B.2.2.1 ∧ Q.2.2 = B.2.2.2 ∧ R32 B.2.2.1)
theorem qr_step (hn6 : nt ≤ 6) {B : BQ} {Q : QT} {k s t : Nat} (hq : QR nt B Q k) (hs : s < 5) (ht : t < nt) (ks : k / nt = s) (kt : k % nt = t) (L : Int64) (n w c : Int32) (hw : w = wsT M L s t n) (hc : c = saysF M 2 t 0 (nI s)) : QR nt (considB B (nI s) (nI t) w c) (qsS M L n nt k Q) (k + 1) := by
  have hwR : R32 w := by rw [hw]; exact ws_R L s t n
  unfold qsS considB
  rw [ks, kt, ← hw, ← hc]
  refine Or.inr ⟨by omega, ?_⟩
  rcases hq with ⟨-, hB, rfl⟩ | ⟨-, s0, t0, hs0, ht0, b1, b2, q1, q2, q3, hR⟩
  · rw [if_pos (Or.inl (by rw [hB]; exact R32_lt hwR)), if_pos (Or.inl rfl), if_pos (Or.inl rfl)]
    exact ⟨s, t, hs, ht, rfl, rfl, rfl, rfl, rfl, hwR⟩
  · have n1 : ¬ Q.1 = -1 := by
      rw [q1, ten_ne hs0 (by omega)]
      exact nI_m1_ne (by omega)
    have keep : ∃ s t : Nat, s < 5 ∧ t < nt ∧ B.1 = nI s ∧ B.2.1 = nI t ∧ Q.1 = Int32.ofInt 10 * nI s + nI t ∧ Q.2.1 = B.2.2.1 ∧ Q.2.2 = B.2.2.2 ∧ R32 B.2.2.1 := ⟨s0, t0, hs0, ht0, b1, b2, q1, q2, q3, hR⟩
    rw [q2, q3]
    by_cases y1 : w < B.2.2.1
    · rw [if_pos (Or.inl y1), if_pos (Or.inr (Int32.le_of_lt y1)), if_pos (Or.inr (Or.inl y1))]
      exact ⟨s, t, hs, ht, rfl, rfl, rfl, rfl, rfl, hwR⟩
    · by_cases y2 : w = B.2.2.1
      · by_cases y3 : c < B.2.2.2
        · rw [if_pos (Or.inr ⟨y2, y3⟩), if_pos (Or.inr (by rw [y2]; exact Int32.le_refl _)), if_pos (Or.inr (Or.inr y3))]
          exact ⟨s, t, hs, ht, rfl, rfl, rfl, rfl, rfl, hwR⟩
        · rw [if_neg (fun z => z.elim y1 (fun z => y3 z.2)), if_pos (Or.inr (by rw [y2]; exact Int32.le_refl _)), if_neg (fun z => z.elim n1 (fun z => z.elim y1 y3))]
          exact keep
      · have y4 : ¬ w ≤ B.2.2.1 := fun z => y2 (Int32.le_antisymm z (Int32.not_lt.mp y1))
        rw [if_neg (fun z => z.elim y1 (fun z => y2 z.1)), if_neg (fun z => z.elim n1 y4)]
        exact keep
theorem fbI_al (h : RInv M nt ns nk ta) (k : KR S M) {left : Int32} {L : Int64} (hz : Zx left L) (n : Int32) {s : Nat} (hs : s < 5) {B : BQ} (hB : QR nt B (qsT M L n nt (s * nt)) (s * nt)) : ∀ t, t ≤ nt → QR nt (fbI S left n (nI s) B t) (qsT M L n nt (s * nt + t)) (s * nt + t)
  | 0, _ => hB
  | t + 1, ht => by
    have h6 := h.1.2.2.1.2.2
    have ih := fbI_al h k hz n hs hB t (by omega)
    have e1 : (s * nt + t) / nt = s := by
      rw [Nat.mul_comm, Nat.mul_add_div (by omega), Nat.div_eq_of_lt (by omega), Nat.add_zero]
    have e2 : (s * nt + t) % nt = t := by
      rw [Nat.mul_comm, Nat.mul_add_mod, Nat.mod_eq_of_lt (by omega)]
    exact qr_step h6 ih hs (by omega) e1 e2 L n _ _ (worst_al h k hz hs (by omega) n) (cost_al h k (by omega) hs)
theorem fb_al (h : RInv M nt ns nk ta) (k : KR S M) {left : Int32} {L : Int64} (hz : Zx left L) (n : Int32) : ∀ s, s ≤ ns → QR nt (fbO S left n nt s) (qsT M L n nt (s * nt)) (s * nt)
  | 0, _ => by
    rw [Nat.zero_mul]
    exact Or.inl ⟨rfl, rfl, rfl⟩
  | s + 1, hs => by
    have h5 := h.1.2.2.2.1.2
    have ih := fb_al h k hz n s (by omega)
    have := fbI_al h k hz n (show s < 5 by omega) ih nt (Nat.le_refl _)
    rw [Nat.succ_mul]
    exact this
theorem S_ask (r : REL S M) (what : Int32) : StE l X S M 7 sgX7_ask [.ref 0, .int what] 7 sgX8_ask [.ref 27, .int what] := by
  obtain ⟨nt, ns, nk, ta, h⟩ := id r.1
  have ki := KR.ki h r.2
  have c := c_ask (l := l) (X := X) (T := encM M) ki.1 what
  have n1 := h.1.2.2.1.2.1
  have e : (if ¬ (0 ≤ what ∧ what < 3) then (-2 : Int32) else askA S nt ns nk what) = askG M nt ns nk what := by
    unfold askG
    by_cases q : p2P what
    · rw [if_neg (fun z => z (x3_iff.mpr q)), if_pos q]
      have f := fb_al h r.2 (fit_al h r.2 nk (Nat.le_refl _)) (nI nk) ns (Nat.le_refl _)
      unfold askA askS
      rcases f with ⟨h0, -, hQ⟩ | ⟨h0, s, t, hs, ht, b1, b2, q1, q2, q3, -⟩
      · have n0 : ns = 0 := by
          rcases Nat.mul_eq_zero.mp h0 with z | z
          · exact z
          · omega
        rw [if_pos (by omega), hQ]
        by_cases w0 : what = 0
        · rw [if_pos w0]
        · rw [if_neg w0]
          by_cases w1 : what = 1
          · rw [if_pos w1]
          · rw [if_neg w1]
      · have n0 : 0 < ns := Nat.pos_of_ne_zero (fun z => by rw [z, Nat.zero_mul] at h0; omega)
        rw [if_neg (fun z => z n0), q1, q2, q3, b1, b2]
        obtain ⟨d, hd, rfl⟩ := inC (c := 2) (n := 2) (by decide) (by decide) q
        rcases (show d = 0 ∨ d = 1 ∨ d = 2 by omega) with rfl | rfl | rfl
        · rfl
        · rfl
        · rfl
    · rw [if_pos (fun z => q (x3_iff.mp z)), if_neg q]
  rw [e] at c
  exact ste r c (fun B => g_ask h.1 what)
/-! two -/
theorem wb_al (h : RInv M nt ns nk ta) (k : KR S M) (hns : 0 < ns) {fit : Int32} {F : Int64} (hz : Zx fit F) {s t : Nat} (hs : s < 5) (ht : t < nt) : (wbB S nt ns nk fit (nI s) (nI t) 2).2 = maxR (wbT M nt ns nk (F &&& fitT M s t 0 (nI nk))) (wbT M nt ns nk (F &&& fitT M s t 1 (nI nk))) ∧ R32 (maxR (wbT M nt ns nk (F &&& fitT M s t 0 (nI nk))) (wbT M nt ns nk (F &&& fitT M s t 1 (nI nk)))) := by
  have n1 := h.1.2.2.1.2.1
  have z0 : Zx (fit &&& nextF S (nI s) (nI t) (nI 0) (nI nk)) (F &&& fitT M s t 0 (nI nk)) := hz.and (next_al h k hs ht (u := 0) (by decide) (nI nk))
  have z1 : Zx (fit &&& nextF S (nI s) (nI t) (nI 1) (nI nk)) (F &&& fitT M s t 1 (nI nk)) := hz.and (next_al h k hs ht (u := 1) (by decide) (nI nk))
  have kk : 0 < ns * nt := Nat.mul_pos hns (by omega)
  have one : ∀ (B : BQ) {left : Int32} {L : Int64}, Zx left L → (fbO (setB S B) left (nI nk + 1) nt ns).2.2.1 = wbT M nt ns nk L ∧ R32 (wbT M nt ns nk L) := by
    intro B left L hzl
    have f := fb_al (S := setB S B) h (k.setB B) hzl (nI nk + 1) ns (Nat.le_refl _)
    rcases f with ⟨h0, -, -⟩ | ⟨-, s, t, -, -, -, -, -, q2, -, hR⟩
    · omega
    · refine ⟨q2.symm, ?_⟩
      unfold wbT
      rw [q2]
      exact hR
  have e0 := one (getB S) z0
  have e1 := one (wbB S nt ns nk fit (nI s) (nI t) 1).1 z1
  have m0 : maxF 0 (wbT M nt ns nk (F &&& fitT M s t 0 (nI nk))) = wbT M nt ns nk (F &&& fitT M s t 0 (nI nk)) := by
    unfold maxF
    by_cases q : 0 < wbT M nt ns nk (F &&& fitT M s t 0 (nI nk))
    · exact if_pos q
    · rw [if_neg q]
      exact Int32.le_antisymm e0.2.1 (Int32.not_lt.mp q)
  refine ⟨?_, maxR_R e0.2 e1.2⟩
  have u1 : (wbB S nt ns nk fit (nI s) (nI t) 1).2 = wbT M nt ns nk (F &&& fitT M s t 0 (nI nk)) := by
    show (if 0 < ns then maxF 0 (fbO (setB S (getB S)) (fit &&& nextF S (nI s) (nI t) (nI 0) (nI nk)) (nI nk + 1) nt ns).2.2.1 else 0) = _
    rw [if_pos hns, e0.1, m0]
  show (if 0 < ns then maxF (wbB S nt ns nk fit (nI s) (nI t) 1).2 (fbO (setB S (wbB S nt ns nk fit (nI s) (nI t) 1).1) (fit &&& nextF S (nI s) (nI t) (nI 1) (nI nk)) (nI nk + 1) nt ns).2.2.1 else (wbB S nt ns nk fit (nI s) (nI t) 1).2) = _
  rw [if_pos hns, e1.1, u1, maxF_R]
/-- the best of two questions so far, on both sides -/
def TW (M : MS) (nt ns nk : Nat) (x y : Int32) (k : Nat) : Prop := (k = 0 ∧ x = 0 ∧ y = 33) ∨ (0 < k ∧ twT M nt ns nk k = (x, y) ∧ ¬ x = -1 ∧ ¬ y = -1)
theorem tw_step (hn6 : nt ≤ 6) {x y : Int32} {k s t : Nat} (hq : TW M nt ns nk x y k) (hs : s < 5) (ht : t < nt) (ks : k / nt = s) (kt : k % nt = t) {w : Int32} (hw : w = maxR (wbT M nt ns nk (woT M nk &&& fitT M s t 0 (nI nk))) (wbT M nt ns nk (woT M nk &&& fitT M s t 1 (nI nk)))) (hR : R32 w) :
    TW M nt ns nk (if w < y then Int32.ofInt 10 * nI s + nI t else x) (if w < y then w else y) (k + 1) := by
  have nt1 : ¬ Int32.ofInt 10 * nI s + nI t = -1 := by
    rw [ten_ne hs (by omega)]
    exact nI_m1_ne (by omega)
  refine Or.inr ⟨by omega, ?_⟩
  rw [twT]
  unfold twS
  rw [ks, kt, ← hw]
  rcases hq with ⟨rfl, rfl, rfl⟩ | ⟨-, hT, nx, ny⟩
  · rw [if_pos (R32_lt hR), if_pos (R32_lt hR), show twT M nt ns nk 0 = (-1, -1) from rfl, if_pos (Or.inl rfl), if_pos (Or.inl rfl)]
    exact ⟨rfl, nt1, R32_m1 hR⟩
  · rw [hT]
    by_cases q : w < y
    · rw [if_pos q, if_pos q, if_pos (Or.inr q), if_pos (Or.inr q)]
      exact ⟨rfl, nt1, R32_m1 hR⟩
    · rw [if_neg q, if_neg q, if_neg (fun z => z.elim nx q), if_neg (fun z => z.elim ny q)]
      exact ⟨rfl, nx, ny⟩
abbrev bvQ (S : CS) (M : MS) (v : Int32) : AH → Option Value → Prop := fun h w => (∃ B, h = mk (setB S B) M) ∧ w = some (.int v)
set_option maxRecDepth 100000 in
theorem P_two (h : RInv M nt ns nk ta) (k : KR S M) (what : Int32) : Ctr l 7 X sgX7_two [.ref 0, .int what] (mk S M) (bvQ S M (twG M nt ns nk what)) := by
  have q := KR.ki h k
  have h5 := h.1.2.2.2.1.2
  have h6 := h.1.2.2.1.2.2
  have n1 := h.1.2.2.1.2.1
  refine Ctr.of okX7_two rfl (Nat.le_of_ble_eq_true rfl) (run_sound okX7_two kNtw 200 ?_)
  refine kH (c_isBelow what 2) (by decide) (brB' (fun w => ⟨⟨getB S, rfl⟩, some_int (if_neg (fun z => w (x2_iff.mpr z))).symm⟩) (fun w => ?_))
  have e : twG M nt ns nk what = if what = 0 then (twT M nt ns nk (ns * nt)).1 else (twT M nt ns nk (ns * nt)).2 := if_pos (x2_iff.mp w)
  rw [e]
  refine br (fun y => ⟨⟨getB S, rfl⟩, some_int ?_⟩) (fun y => kH (c_fitting q.1) (by decide) ?_)
  · have y : S.1 133 = 0 := y
    rw [q.1.2.2.2.1] at y
    have y0 : ns = 0 := nI_inj (b := 0) (by omega) (by decide) y
    rw [y0, Nat.zero_mul]
    by_cases w0 : what = 0
    · rw [if_pos w0]; rfl
    · rw [if_neg w0]; rfl
  · have y : ¬ S.1 133 = 0 := y
    rw [q.1.2.2.2.1] at y
    have y0 : 0 < ns := Nat.pos_of_ne_zero (fun z => y (by rw [z]; rfl))
    have kk : 0 < ns * nt := Nat.mul_pos y0 (by omega)
    have out : ∀ i, i ≤ ns → ∀ B : BQ, ∀ (x y : Int32) u v, TW M nt ns nk x y (i * nt) → WP l (rmD 7 0 0) X sgX7_two kX7_two (bvQ S M (if what = 0 then (twT M nt ns nk (ns * nt)).1 else (twT M nt ns nk (ns * nt)).2)) 21 [some (.ref 0), some (.int what), some (.int (fitF S nk)), some (.int x), some (.int y), some (.int (nI i)), u, v] [] (mk (setB S B) M) 0 0 := by
      refine down (fun B x y u v hT => ?_) (fun i hi ih B x y u v hT => ?_)
      · rcases hT with ⟨z, -⟩ | ⟨-, hT, -⟩
        · omega
        · rw [hT]
          exact run_sound okX7_two kNtw 200 (brT (nle q.1.2.2.2.1) (br (fun w0 => ⟨⟨B, rfl⟩, some_int (if_pos (c := what = 0) w0).symm⟩) (fun w0 => ⟨⟨B, rfl⟩, some_int (if_neg (c := what = 0) w0).symm⟩)))
      · have inn : ∀ j, j ≤ nt → ∀ B : BQ, ∀ (x y : Int32) v, TW M nt ns nk x y (i * nt + j) → WP l (rmD 7 0 0) X sgX7_two kX7_two (bvQ S M (if what = 0 then (twT M nt ns nk (ns * nt)).1 else (twT M nt ns nk (ns * nt)).2)) 28 [some (.ref 0), some (.int what), some (.int (fitF S nk)), some (.int x), some (.int y), some (.int (nI i)), some (.int (nI j)), v] [] (mk (setB S B) M) 0 0 := by
          refine down (fun B x y v hT => ?_) (fun j hj ih2 B x y v hT => ?_)
          · rw [← Nat.succ_mul] at hT
            have ih := ih B x y (some (.int (nI nt))) v hT
            rw [← nI_1 i] at ih
            exact run_sound okX7_two kNtw 200 (brT (nle q.1.2.1) ih)
          · have t50 : ∀ B : BQ, ∀ (x y : Int32) v, TW M nt ns nk x y (i * nt + (j + 1)) → WP l (rmD 7 0 0) X sgX7_two kX7_two (bvQ S M (if what = 0 then (twT M nt ns nk (ns * nt)).1 else (twT M nt ns nk (ns * nt)).2)) 50 [some (.ref 0), some (.int what), some (.int (fitF S nk)), some (.int x), some (.int y), some (.int (nI i)), some (.int (nI j)), v] [] (mk (setB S B) M) 0 0 := by
              intro B x y v hT
              have ih2 := ih2 B x y v hT
              rw [← nI_1 j] at ih2
              exact run_sound okX7_two kNtw 200 ih2
            have wa := wb_al (S := setB S B) h (k.setB B) y0 (fit_al h k nk (Nat.le_refl _)) (show i < 5 by omega) hj
            have e1 : (i * nt + j) / nt = i := by
              rw [Nat.mul_comm, Nat.mul_add_div (by omega), Nat.div_eq_of_lt (by omega), Nat.add_zero]
            have e2 : (i * nt + j) % nt = j := by
              rw [Nat.mul_comm, Nat.mul_add_mod, Nat.mod_eq_of_lt (by omega)]
            have ts := tw_step h6 hT (show i < 5 by omega) hj e1 e2 wa.1 (by rw [wa.1]; exact wa.2)
            refine run_sound okX7_two kNtw 200 (brF (nge q.1.2.1 hj (by omega)) (kH (c_worstBehind (T := encM M) (q.1.setB B) (fitF S nk) (nI i) (nI j)) (by decide) ?_))
            refine br (fun z => ?_) (fun z => ?_)
            · have z : ¬ (wbB (setB S B) nt ns nk (fitF S nk) (nI i) (nI j) 2).2 < y := Int32.not_lt.mpr z
              rw [if_neg z, if_neg z] at ts
              exact t50 (wbB (setB S B) nt ns nk (fitF S nk) (nI i) (nI j) 2).1 _ _ _ ts
            · have z : (wbB (setB S B) nt ns nk (fitF S nk) (nI i) (nI j) 2).2 < y := Int32.not_le.mp z
              rw [if_pos z, if_pos z] at ts
              exact t50 (wbB (setB S B) nt ns nk (fitF S nk) (nI i) (nI j) 2).1 _ _ _ ts
        exact run_sound okX7_two kNtw 200 (brF (nge q.1.2.2.2.1 hi (by omega)) (inn 0 (Nat.zero_le _) B x y v hT))
    exact out 0 (Nat.zero_le _) (getB S) _ _ _ _ (Or.inl ⟨Nat.zero_mul nt, rfl, rfl⟩)
theorem S_two (r : REL S M) (what : Int32) : StE l X S M 7 sgX7_two [.ref 0, .int what] 6 sgX8_two_ [.ref 27, .int what] := by
  obtain ⟨nt, ns, nk, ta, h⟩ := id r.1
  exact ste r (P_two h r.2 what) (fun B => g_two h.1 what)
end Q5
end
section
-- 97zh.q6
/-! QUESTIONS ALIKE: settle -/
section Q6
variable {l : Launch} {X : List (List Int32)} {S : CS} {T : AH} {M : MS} {nt ns nk ta : Nat}
def kmkF (S : CS) (a w : Int32) : Nat → Int32
  | 0 => 0
  | t + 1 => if bitF a (nI t) = 1 ∧ bitF (onceF S (nI t)) w = 1 then kmkF S a w t ||| ((1 : Int32) <<< (nI t &&& 31)) else kmkF S a w t
set_option maxRecDepth 100000 in
theorem P_markOf (h : CInv S nt ns nk) (a w : Int32) : Ans l 3 X sgX7_markOf [.ref 0, .int a, .int w] (encC S ++ T) (kmkF S a w nt) := by
  have hL := h.1
  have h93 : S.1 93 = nI nt := h.2.1
  have n6 := h.2.2.1.2
  refine Ctr.of okX7_markOf rfl (Nat.le_of_ble_eq_true rfl) (run_sound okX7_markOf kNmk 200 ?_)
  have key : ∀ k, k ≤ nt → WP l (rmD 3 0 0) X sgX7_markOf kX7_markOf (kR S T (kmkF S a w nt)) 4 [some (.ref 0), some (.int a), some (.int w), some (.int (kmkF S a w k)), some (.int (nI k))] [] (encC S ++ T) 0 0 := by
    refine down ?_ (fun k hk ih => ?_)
    · exact run_sound okX7_markOf kNmk 200 (brT (nle h93) ⟨rfl, rfl⟩)
    · have t27 : ∀ y : Int32, y = kmkF S a w (k + 1) → WP l (rmD 3 0 0) X sgX7_markOf kX7_markOf (kR S T (kmkF S a w nt)) 27 [some (.ref 0), some (.int a), some (.int w), some (.int y), some (.int (nI k))] [] (encC S ++ T) 0 0 := by
        intro y hy
        subst hy
        have ih := ih
        rw [← nI_1 k] at ih
        exact run_sound okX7_markOf kNmk 200 ih
      refine run_sound okX7_markOf kNmk 200 (brF (nge h93 hk (by omega)) (kH (c_bit _ _) (by decide) (br (fun y1 => kH (c_onceOf hL _) (by decide) (kH (c_bit _ _) (by decide) (br (fun y2 => t27 _ ?_) (fun y2 => t27 _ ?_)))) (fun y1 => t27 _ ?_))))
      · have y1 : bitF a (nI k) = 1 := y1
        have y2 : bitF (onceF S (nI k)) w = 1 := y2
        rw [kmkF, if_pos ⟨y1, y2⟩]
        rfl
      · have y2 : ¬ bitF (onceF S (nI k)) w = 1 := y2
        rw [kmkF, if_neg (fun z => y2 z.2)]
      · have y1 : ¬ bitF a (nI k) = 1 := y1
        rw [kmkF, if_neg (fun z => y1 z.1)]
  exact key 0 (Nat.zero_le _)
theorem one_b6 : ∀ x : Fin 6, ∀ i : Fin 32, btx ((1 : Int32) <<< (nI x.val &&& 31)) i.val = decide (i.val = x.val) := by decide +kernel
theorem mark_bit (a w : Int32) {i : Nat} (hi : i < 32) : ∀ n, n ≤ 6 → (btx (kmkF S a w n) i = true ↔ i < n ∧ bitF a (nI i) = 1 ∧ bitF (onceF S (nI i)) w = 1)
  | 0, _ => by
    rw [kmkF, b_0]
    exact ⟨fun z => (by cases z), fun z => (by omega)⟩
  | n + 1, hn => by
    have ih := mark_bit a w hi n (by omega)
    rw [kmkF]
    by_cases q : bitF a (nI n) = 1 ∧ bitF (onceF S (nI n)) w = 1
    · rw [if_pos q, b_or, Bool.or_eq_true, ih, one_b6 ⟨n, by omega⟩ ⟨i, hi⟩, decide_eq_true_iff]
      constructor
      · rintro (⟨h1, h2⟩ | h1)
        · exact ⟨by omega, h2⟩
        · have h1 : i = n := h1
          subst h1
          exact ⟨by omega, q⟩
      · rintro ⟨h1, h2⟩
        by_cases en : i = n
        · exact Or.inr en
        · exact Or.inl ⟨by omega, h2⟩
    · rw [if_neg q, ih]
      constructor
      · rintro ⟨h1, h2⟩
        exact ⟨by omega, h2⟩
      · rintro ⟨h1, h2⟩
        by_cases en : i = n
        · subst en
          exact absurd h2 q
        · exact ⟨by omega, h2⟩
theorem mark_nat (a w : Int32) {n : Nat} (hn : n ≤ 6) : ∃ m, m < 64 ∧ kmkF S a w n = nI m := by
  refine ⟨(kmkF S a w n).toBitVec.toNat, ?_, ?_⟩
  · apply Nat.lt_pow_two_of_testBit (n := 6)
    intro i hi
    cases e : (kmkF S a w n).toBitVec.toNat.testBit i with
    | false => rfl
    | true =>
      have e : btx (kmkF S a w n) i = true := e
      by_cases h32 : i < 32
      · have := ((mark_bit a w h32 n hn).mp e).1
        omega
      · rw [b_big (by omega)] at e
        cases e
  · apply Int32.toBitVec_inj.mp
    show _ = BitVec.ofNat 32 _
    simp
theorem mark_ne {a v w : Int32} {n : Nat} (hn : n ≤ 6) : ¬ kmkF S a v n = kmkF S a w n ↔ ∃ t, t < n ∧ bitF a (nI t) = 1 ∧ ¬ bitF (onceF S (nI t)) v = bitF (onceF S (nI t)) w := by
  constructor
  · intro h
    apply Classical.byContradiction
    intro h2
    apply h
    have key : ∀ m, m ≤ n → kmkF S a v m = kmkF S a w m := by
      intro m
      induction m with
      | zero => intro _; rfl
      | succ m ih =>
        intro hm
        have ih := ih (by omega)
        rw [kmkF, kmkF, ih]
        by_cases q : bitF a (nI m) = 1
        · have e : bitF (onceF S (nI m)) v = bitF (onceF S (nI m)) w := Classical.byContradiction (fun z => h2 ⟨m, by omega, q, z⟩)
          rw [e]
        · rw [if_neg (fun z => q z.1), if_neg (fun z => q z.1)]
    exact key n (Nat.le_refl _)
  · rintro ⟨t, ht, h1, h2⟩ e
    apply h2
    have b1 := mark_bit (S := S) a v (i := t) (by omega) n hn
    have b2 := mark_bit (S := S) a w (i := t) (by omega) n hn
    rw [e] at b1
    have b3 := b1.symm.trans b2
    have b4 : bitF (onceF S (nI t)) v = 1 ↔ bitF (onceF S (nI t)) w = 1 := by
      constructor
      · intro z
        exact (b3.mp ⟨ht, h1, z⟩).2.2
      · intro z
        exact (b3.mpr ⟨ht, h1, z⟩).2.2
    rcases bitF_01 (onceF S (nI t)) v with q | q
    · rcases bitF_01 (onceF S (nI t)) w with q2 | q2
      · rw [q, q2]
      · have := b4.mpr q2
        rw [q] at this
        exact absurd this (by decide)
    · rw [q, b4.mp q]
/-- worlds that fit bear other marks each -/
def DsP (S : CS) (nt : Nat) (a fit : Int32) (n : Nat) : Prop := ∀ w, w < n → bitF fit (nI w) = 1 → ∀ v, v < w → bitF fit (nI v) = 1 → ¬ kmkF S a (nI v) nt = kmkF S a (nI w) nt
def SeP (S : CS) (nt : Nat) (a fit : Int32) (n : Nat) (seen : Int64) : Prop := ∀ i, i < 64 → (seen.toBitVec.getLsbD i = true ↔ ∃ v, v < n ∧ bitF fit (nI v) = 1 ∧ kmkF S a (nI v) nt = nI i)
theorem one_l : ∀ m : Fin 64, ∀ i : Fin 64, ((1 : Int64) <<< ((nI m.val).toInt64 &&& 63)).toBitVec.getLsbD i.val = decide (i.val = m.val) := by decide +kernel
theorem and_one (x : Int64) {m : Nat} (hm : m < 64) : x &&& ((1 : Int64) <<< ((nI m).toInt64 &&& 63)) = 0 ↔ x.toBitVec.getLsbD m = false := by
  constructor
  · intro h
    have e : (x &&& ((1 : Int64) <<< ((nI m).toInt64 &&& 63))).toBitVec.getLsbD m = false := by
      rw [h]
      show (0#64).getLsbD m = false
      simp
    rw [Int64.toBitVec_and, BitVec.getLsbD_and, one_l ⟨m, hm⟩ ⟨m, hm⟩, decide_eq_true rfl, Bool.and_true] at e
    exact e
  · intro h
    apply Int64.toBitVec_inj.mp
    apply BitVec.eq_of_getLsbD_eq
    intro i hi
    rw [Int64.toBitVec_and, BitVec.getLsbD_and, one_l ⟨m, hm⟩ ⟨i, hi⟩]
    have e0 : (0 : Int64).toBitVec.getLsbD i = false := by
      show (0#64).getLsbD i = false
      simp
    rw [e0]
    by_cases q : i = m
    · subst q
      rw [h, Bool.false_and]
    · rw [decide_eq_false q, Bool.and_false]
set_option maxRecDepth 100000 in
set_option maxHeartbeats 1000000 in
theorem P_settles (h : CInv S nt ns nk) (a fit : Int32) : Ctr l 4 X sgX7_settles [.ref 0, .int a, .int fit] (encC S ++ T) (anP S T (DsP S nt a fit 32)) := by
  have n6 := h.2.2.1.2
  refine Ctr.of okX7_settles rfl (Nat.le_of_ble_eq_true rfl) (run_sound okX7_settles kNse 200 ?_)
  have key : ∀ k, k ≤ 32 → ∀ (y : Int64) x6, SeP S nt a fit k y → DsP S nt a fit k → WP l (rmD 4 0 0) X sgX7_settles kX7_settles (anP S T (DsP S nt a fit 32)) 4 [some (.ref 0), some (.int a), some (.int fit), some (.long y), none, some (.int (nI k)), x6, none] [] (encC S ++ T) 0 0 := by
    refine down (fun y x6 hy hd => ?_) (fun k hk ih y x6 hy hd => ?_)
    · exact run_sound okX7_settles kNse 200 (brT (Int32.le_refl _) ⟨rfl, rfl, 1, rfl, Or.inr ⟨rfl, hd⟩⟩)
    · have t31 : ∀ (y : Int64) x6, SeP S nt a fit (k + 1) y → DsP S nt a fit (k + 1) → WP l (rmD 4 0 0) X sgX7_settles kX7_settles (anP S T (DsP S nt a fit 32)) 31 [some (.ref 0), some (.int a), some (.int fit), some (.long y), none, some (.int (nI k)), x6, none] [] (encC S ++ T) 0 0 := by
        intro y x6 hy hd
        have ih := ih y x6 hy hd
        rw [← nI_1 k] at ih
        exact run_sound okX7_settles kNse 200 ih
      obtain ⟨m, hm, em⟩ := mark_nat (S := S) a (nI k) (n := nt) n6
      have cm := P_markOf (l := l) (X := X) (T := T) h a (nI k)
      rw [em] at cm
      refine run_sound okX7_settles kNse 200 (brF (ge_no (n := 32) rfl hk (by decide)) (kH (c_bit _ _) (by decide) (br (fun y1 => kH cm (by decide) (brC (fun z => t31 _ _ ?_ ?_) (fun z => ⟨rfl, rfl, 0, rfl, Or.inl ⟨rfl, ?_⟩⟩))) (fun y1 => t31 _ _ ?_ ?_))))
      · have y1 : bitF fit (nI k) = 1 := y1
        intro i hi
        show (y ||| ((1 : Int64) <<< ((nI m).toInt64 &&& 63))).toBitVec.getLsbD i = true ↔ _
        rw [Int64.toBitVec_or, BitVec.getLsbD_or, Bool.or_eq_true, hy i hi, one_l ⟨m, hm⟩ ⟨i, hi⟩, decide_eq_true_iff]
        constructor
        · rintro (⟨v, hv, h1, h2⟩ | e)
          · exact ⟨v, by omega, h1, h2⟩
          · have e : i = m := e
            exact ⟨k, by omega, y1, by rw [e]; exact em⟩
        · rintro ⟨v, hv, h1, h2⟩
          by_cases e : v = k
          · subst e
            rw [em] at h2
            exact Or.inr (nI_inj (by omega) (by omega) h2).symm
          · exact Or.inl ⟨v, by omega, h1, h2⟩
      · have z : y &&& ((1 : Int64) <<< ((nI m).toInt64 &&& 63)) = 0 := z
        rw [and_one y hm] at z
        intro w hw f1 v hv f2 e
        by_cases ek : w = k
        · subst ek
          rw [em] at e
          have := (hy m hm).mpr ⟨v, hv, f2, e⟩
          rw [z] at this
          cases this
        · exact hd w (by omega) f1 v hv f2 e
      · have z : ¬ y &&& ((1 : Int64) <<< ((nI m).toInt64 &&& 63)) = 0 := z
        rw [and_one y hm, Bool.not_eq_false] at z
        obtain ⟨v, hv, f2, e⟩ := (hy m hm).mp z
        exact fun hd => hd k hk y1 v hv f2 (e.trans em.symm)
      · have y1 : ¬ bitF fit (nI k) = 1 := y1
        intro i hi
        rw [hy i hi]
        constructor
        · rintro ⟨v, hv, h1, h2⟩
          exact ⟨v, by omega, h1, h2⟩
        · rintro ⟨v, hv, h1, h2⟩
          by_cases e : v = k
          · subst e; exact absurd h1 y1
          · exact ⟨v, by omega, h1, h2⟩
      · have y1 : ¬ bitF fit (nI k) = 1 := y1
        intro w hw f1 v hv f2
        by_cases ek : w = k
        · subst ek; exact absurd f1 y1
        · exact hd w (by omega) f1 v hv f2
  refine key 0 (Nat.zero_le _) _ _ ?_ (fun w hw => by omega)
  intro i hi
  have e0 : (Int64.ofInt 0).toBitVec.getLsbD i = false := by
    show (0#64).getLsbD i = false
    simp
  rw [e0]
  exact ⟨fun z => (by cases z), fun ⟨v, hv, _⟩ => (by omega)⟩
theorem apF_iff (left : Int64) (a : Int32) (k : Nat) : ∀ n, apF M left a k n = true ↔ apP left k ∨ ∃ t, t < n ∧ apT M a k t
  | 0 => by
    rw [apF]
    by_cases q : apP left k
    · rw [if_pos q]
      exact ⟨fun _ => Or.inl q, fun _ => rfl⟩
    · rw [if_neg q]
      exact ⟨fun z => (by cases z), fun z => z.elim (fun y => absurd y q) (fun ⟨t, ht, _⟩ => (by omega))⟩
  | n + 1 => by
    have ih := apF_iff left a k n
    rw [apF]
    by_cases q : apF M left a k n = true
    · rw [if_pos q]
      refine ⟨fun _ => (ih.mp q).imp id (fun ⟨t, ht, h⟩ => ⟨t, by omega, h⟩), fun _ => rfl⟩
    · rw [if_neg q]
      by_cases q2 : apT M a k n
      · rw [if_pos q2]
        exact ⟨fun _ => Or.inr ⟨n, by omega, q2⟩, fun _ => rfl⟩
      · rw [if_neg q2]
        refine ⟨fun z => (by cases z), fun z => ?_⟩
        rcases z with z | ⟨t, ht, z⟩
        · exact absurd (ih.mpr (Or.inl z)) q
        · by_cases e : t = n
          · subst e; exact absurd z q2
          · exact absurd (ih.mpr (Or.inr ⟨t, by omega, z⟩)) q
theorem seF_iff (left : Int64) (a : Int32) : ∀ m k, seF M nt left a m k = true ↔ ∀ i, k ≤ i → i < k + m → apF M left a i nt = true
  | 0, k => ⟨fun _ i h1 h2 => (by omega), fun _ => rfl⟩
  | m + 1, k => by
    rw [seF]
    by_cases q : apF M left a k nt = true
    · rw [if_pos q, seF_iff left a m (k + 1)]
      constructor
      · intro h i h1 h2
        by_cases e : i = k
        · subst e; exact q
        · exact h i (by omega) (by omega)
      · intro h i h1 h2
        exact h i (by omega) (by omega)
    · rw [if_neg q]
      exact ⟨fun z => (by cases z), fun z => absurd (z k (Nat.le_refl _) (by omega)) q⟩
theorem bI_ne {p q : Prop} [Decidable p] [Decidable q] {x y : Int32} (h1 : x = bI p) (h2 : y = bI q) : (¬ x = y ↔ ¬ bI p = bI q) := by rw [h1, h2]
theorem ds_al (h : RInv M nt ns nk ta) (k : KR S M) {fit : Int32} {F : Int64} (hz : Zx fit F) (a : Int32) : DsP S nt a fit 32 ↔ seF M nt F a 1024 0 = true := by
  have n6 := h.1.2.2.1.2.2
  rw [seF_iff]
  have tt : ∀ t v w : Nat, t < nt → v < 32 → w < 32 → ((bitF a (nI t) = 1 ∧ ¬ bitF (onceF S (nI t)) (nI v) = bitF (onceF S (nI t)) (nI w)) ↔ (a >>> (nI t &&& 31) &&& 1 = 1 ∧ ¬ bI (hsP (mtF M (10 * t)) (nI v)) = bI (hsP (mtF M (10 * t)) (nI w)))) := by
    intro t v w ht hv hw
    have zo := once_al h k ht
    exact and_congr (sshr_bit a (show t < 32 by omega)).symm (bI_ne (bit_bI zo hv) (bit_bI zo hw))
  constructor
  · intro hd i _ hi
    have hi : i < 1024 := by omega
    rw [apF_iff]
    have v32 : i / 32 < 32 := by omega
    have w32 : i % 32 < 32 := by omega
    by_cases p : apP F i
    · exact Or.inl p
    · refine Or.inr ?_
      have p1 : i / 32 < i % 32 := Nat.lt_of_not_le (fun z => p (Or.inl z))
      have p2 : hsP F (nI (i / 32)) := Classical.byContradiction (fun z => p (Or.inr (Or.inl z)))
      have p3 : hsP F (nI (i % 32)) := Classical.byContradiction (fun z => p (Or.inr (Or.inr z)))
      obtain ⟨t, ht, h1⟩ := (mark_ne n6).mp (hd (i % 32) w32 ((hz.has w32).mpr p3) (i / 32) p1 ((hz.has v32).mpr p2))
      exact ⟨t, ht, (tt t _ _ ht v32 w32).mp h1⟩
  · intro hs w hw f1 v hv f2
    have e := hs (32 * v + w) (Nat.zero_le _) (by omega)
    rw [apF_iff] at e
    have d1 : (32 * v + w) / 32 = v := by omega
    have d2 : (32 * v + w) % 32 = w := by omega
    have v32 : v < 32 := by omega
    refine (mark_ne n6).mpr ?_
    rcases e with e | ⟨t, ht, e⟩
    · unfold apP at e
      rw [d1, d2] at e
      rcases e with e | e | e
      · omega
      · exact absurd ((hz.has v32).mp f2) e
      · exact absurd ((hz.has hw).mp f1) e
    · unfold apT at e
      rw [d1, d2] at e
      exact ⟨t, ht, (tt t v w ht v32 hw).mpr e⟩
set_option maxRecDepth 100000 in
theorem P_settle (h : RInv M nt ns nk ta) (k : KR S M) (what : Int32) : Ans l 7 X sgX7_settle [.ref 0, .int what] (mk S M) (stG M nt nk what) := by
  have q := (KR.ki h k)
  have n6 := q.1.2.2.1.2
  have hp2 : 2 ^ nt ≤ 64 := Nat.le_trans (Nat.pow_le_pow_right (by decide) n6) (by decide)
  have hsh : (1 : Int32) <<< (S.1 93 &&& 31) = nI (2 ^ nt) := by rw [q.1.2.1]; exact shl_nI nt (by omega)
  have hz := fit_al h k nk (Nat.le_refl _)
  refine Ctr.of okX7_settle rfl (Nat.le_of_ble_eq_true rfl) (run_sound okX7_settle kNst 200 ?_)
  refine kH (c_isBelow what 2) (by decide) (brB' (fun w => ⟨rfl, some_int (if_neg (fun z => w (x2_iff.mpr z))).symm⟩) (fun w => kH (c_fitting q.1) (by decide) ?_))
  obtain ⟨C, hC⟩ : ∃ C : Nat → Bool, ∀ m, C m = seF M nt (woT M nk) (nI m) 1024 0 := ⟨_, fun _ => rfl⟩
  have e : stG M nt nk what = if what = 1 ∨ clB C (2 ^ nt) = -1 then clB C (2 ^ nt) else bcF (clB C (2 ^ nt)) := by
    rw [clO_al (P := fun a => seF M nt (woT M nk) a 1024 0) (by omega) (fun m _ => hC m) what]
    exact if_pos (x2_iff.mp w)
  rw [e]
  have key : ∀ i, i ≤ 2 ^ nt → WP l (rmD 7 0 0) X sgX7_settle kX7_settle (fun h w => h = mk S M ∧ w = some (.int (if what = 1 ∨ clB C (2 ^ nt) = -1 then clB C (2 ^ nt) else bcF (clB C (2 ^ nt))))) 13 [some (.ref 0), some (.int what), some (.int (fitF S nk)), some (.int (clB C i)), some (.int (nI i))] [] (mk S M) 0 0 := by
    refine down ?_ (fun i hi ih => ?_)
    · exact run_sound okX7_settle kNst 200 (brT (ge_end hsh) (br (fun y => ⟨rfl, some_int (if_pos (Or.inl y)).symm⟩) (fun y => br (fun y2 => ⟨rfl, some_int (if_pos (Or.inr y2)).symm⟩) (fun y2 => kH (c_bitCount _) (by decide) ⟨rfl, some_int (if_neg (fun z => z.elim y y2)).symm⟩))))
    · have t34 : ∀ y : Int32, y = clB C (i + 1) → WP l (rmD 7 0 0) X sgX7_settle kX7_settle (fun h w => h = mk S M ∧ w = some (.int (if what = 1 ∨ clB C (2 ^ nt) = -1 then clB C (2 ^ nt) else bcF (clB C (2 ^ nt))))) 34 [some (.ref 0), some (.int what), some (.int (fitF S nk)), some (.int y), some (.int (nI i))] [] (mk S M) 0 0 := by
        intro y hy
        subst hy
        have ih := ih
        rw [← nI_1 i] at ih
        exact run_sound okX7_settle kNst 200 ih
      refine run_sound okX7_settle kNst 200 (brF (ge_no hsh hi (by omega)) ⟨4, _, by decide, P_settles (T := encM M) q.1 _ _, ?_⟩)
      have ed := ds_al h k hz (nI i)
      rw [← hC i] at ed
      rintro hp w' ⟨rfl, x, rfl, hx⟩
      refine br (fun x0 => t34 _ ?_) (fun x0 => br (fun y => t34 _ ?_) (fun y => kH (c_fewer _ _) (by decide) (t34 _ ?_)))
      · have x0 : x = 0 := x0
        have np : ¬ C i = true := fun z => by
          rcases hx with ⟨-, y⟩ | ⟨y, -⟩
          · exact y (ed.mpr z)
          · rw [x0] at y; exact absurd y (by decide)
        rw [clB, if_neg np]
      · have x0 : ¬ x = 0 := x0
        have y : clB C i = -1 := y
        have np : C i = true := by
          rcases hx with ⟨z, -⟩ | ⟨-, z⟩
          · exact absurd z x0
          · exact ed.mp z
        rw [clB, if_pos np, if_pos y]
      · have x0 : ¬ x = 0 := x0
        have y : ¬ clB C i = -1 := y
        have np : C i = true := by
          rcases hx with ⟨z, -⟩ | ⟨-, z⟩
          · exact absurd z x0
          · exact ed.mp z
        rw [clB, if_pos np, if_neg y]
  exact key 0 (Nat.zero_le _)
theorem S_settle (r : REL S M) (what : Int32) : StE l X S M 7 sgX7_settle [.ref 0, .int what] 6 sgX8_settle [.ref 27, .int what] := by
  obtain ⟨nt, ns, nk, ta, h⟩ := id r.1
  exact ste r (an_B (P_settle h r.2 what)) (fun B => g_settle h.1 what)
end Q6
end
section
-- 97zi.q7
/-! QUESTIONS ALIKE: drawn, mean -/
section Q7
variable {l : Launch} {X : List (List Int32)} {S : CS} {T : AH} {M : MS} {nt ns nk ta : Nat}
theorem sub_1 (i a : Int32) : i - (a + 1) = i - a + Int32.ofInt (-1) := by
  apply Int32.toBitVec_inj.mp
  rw [Int32.toBitVec_sub, Int32.toBitVec_add, Int32.toBitVec_add, Int32.toBitVec_sub, show (1 : Int32).toBitVec = 1#32 from rfl, show (Int32.ofInt (-1)).toBitVec = 4294967295#32 from rfl]
  generalize i.toBitVec = x
  generalize a.toBitVec = y
  bv_omega
theorem sub_0 {i a : Int32} : a = i ↔ i - a = 0 := by
  rw [← Int32.toBitVec_inj, ← Int32.toBitVec_inj (a := i - a), Int32.toBitVec_sub, show (0 : Int32).toBitVec = 0#32 from rfl]
  generalize i.toBitVec = x
  generalize a.toBitVec = y
  constructor
  · rintro rfl
    exact BitVec.sub_self _
  · intro h
    bv_omega
theorem wn_al {a : Int32} {A : Int64} (hz : Zx a A) (i : Int32) : ∀ m w ahead, w + m ≤ 32 → wnF a i m w ahead = waF A m w (i - ahead)
  | 0, _, _, _ => rfl
  | m + 1, w, ahead, h => by
    have e := hz.has (show w < 32 by omega)
    rw [wnF, waF]
    by_cases q : hsP A (nI w)
    · rw [if_pos (e.mpr q), if_pos (show (A >>> ((nI w).toInt64 &&& 63)) &&& 1 = 1 from q)]
      by_cases y : ahead = i
      · rw [if_pos y, if_pos (sub_0.mp y)]
      · rw [if_neg y, if_neg (fun z => y (sub_0.mpr z)), wn_al hz i m (w + 1) (ahead + 1) (by omega), sub_1]
    · rw [if_neg (fun z => q (e.mp z)), if_neg (show ¬ (A >>> ((nI w).toInt64 &&& 63)) &&& 1 = 1 from q)]
      exact wn_al hz i m (w + 1) ahead (by omega)
/-- bits from one on -/
def cnR (A : Int64) : Nat → Nat → Nat
  | 0, _ => 0
  | m + 1, w => (if hsP A (nI w) then 1 else 0) + cnR A m (w + 1)
theorem cnR_N (A : Int64) : ∀ m w, cnN A (w + m) = cnN A w + cnR A m w
  | 0, w => rfl
  | m + 1, w => by
    rw [show w + (m + 1) = (w + 1) + m by omega, cnR_N A m (w + 1), cnN, cnR]
    omega
theorem wa_in (A : Int64) : ∀ m w i, i < cnR A m w → ∃ v, v < w + m ∧ waF A m w (nI i) = nI v
  | 0, w, i, h => absurd h (Nat.not_lt_zero _)
  | m + 1, w, i, h => by
    rw [cnR] at h
    rw [waF]
    by_cases q : hsP A (nI w)
    · rw [if_pos (show (A >>> ((nI w).toInt64 &&& 63)) &&& 1 = 1 from q)]
      rw [if_pos q] at h
      by_cases y : i = 0
      · subst y
        rw [if_pos (show nI 0 = 0 from rfl)]
        exact ⟨w, by omega, rfl⟩
      · by_cases y2 : nI i = 0
        · rw [if_pos y2]
          exact ⟨w, by omega, rfl⟩
        · rw [if_neg y2, nI_dec (by omega)]
          obtain ⟨v, hv, e⟩ := wa_in A m (w + 1) (i - 1) (by omega)
          exact ⟨v, by omega, e⟩
    · rw [if_neg (show ¬ (A >>> ((nI w).toInt64 &&& 63)) &&& 1 = 1 from q)]
      rw [if_neg q] at h
      obtain ⟨v, hv, e⟩ := wa_in A m (w + 1) i (by omega)
      exact ⟨v, by omega, e⟩
theorem oN_mul (a b : Nat) : Int64.ofNat a * Int64.ofNat b = Int64.ofNat (a * b) := (Int64.ofNat_mul a b).symm
theorem oN_div {a b : Nat} (ha : a < 2 ^ 63) (hb : b < 2 ^ 63) : Int64.ofNat a / Int64.ofNat b = Int64.ofNat (a / b) := by
  apply Int64.toInt_inj.mp
  have hd : a / b ≤ a := Nat.div_le_self a b
  rw [Int64.toInt_div, Int64.toInt_ofNat_of_lt ha, Int64.toInt_ofNat_of_lt hb, Int64.toInt_ofNat_of_lt (by omega)]
  rw [show Int.tdiv (a : Int) (b : Int) = ((a / b : Nat) : Int) from rfl]
  generalize a / b = c at hd ⊢
  apply Int.bmod_eq_of_le <;> omega
theorem oN_rem {a b : Nat} (ha : a < 2 ^ 63) (hb : b < 2 ^ 63) : Int64.ofNat a - Int64.ofNat a / Int64.ofNat b * Int64.ofNat b = Int64.ofNat (a % b) := by
  rw [oN_div ha hb, oN_mul]
  have h2 : a = a % b + a / b * b := by rw [Nat.mul_comm, Nat.mod_add_div]
  have : Int64.ofNat a = Int64.ofNat (a % b) + Int64.ofNat (a / b * b) := by rw [oN_add, ← h2]
  rw [this]
  exact Int64.add_sub_cancel _ _
theorem lo_N {s : Nat} (hs : s < 2 ^ 20) : loN ((nI s).toInt64 + 1) = Int64.ofNat ((s + 1) * 48271 % 2147483647) := by
  have e : (nI s).toInt64 + 1 = Int64.ofNat (s + 1) := by
    rw [nI_64 (by omega), show (1 : Int64) = Int64.ofNat 1 from rfl, oN_add]
  have e2 : Int64.ofNat (s + 1) * 48271 = Int64.ofNat ((s + 1) * 48271) := oN_mul (s + 1) 48271
  rw [e]
  unfold loN
  rw [e2]
  exact oN_rem (b := 2147483647) (by omega) (by omega)
theorem small_32 : ∀ m : Fin 33, (Int64.ofNat m.val).toInt32 = nI m.val := by decide +kernel
/-- the stranger's world is one -/
theorem truth_in {A : Int64} (hA : Lo A) (hn : ¬ A = 0) {s : Nat} (hs : s < 2 ^ 20) : ∃ w, w < 32 ∧ waF A 32 0 (loN ((nI s).toInt64 + 1) - loN ((nI s).toInt64 + 1) / (cntF A 32).toInt64 * (cntF A 32).toInt64).toInt32 = nI w := by
  obtain ⟨w, hw, hb⟩ := lo_some hA hn
  have h1 := cnN_pos hb 32 hw
  have h2 := cnN_le A 32
  have h3 := cnR_N A 32 0
  rw [show cnN A (0 + 32) = cnN A 32 from rfl, show cnN A 0 = 0 from rfl, Nat.zero_add] at h3
  have hm : (s + 1) * 48271 % 2147483647 < 2147483647 := Nat.mod_lt _ (by omega)
  rw [lo_N hs, cnt_N, nI_64 (by omega)]
  generalize (s + 1) * 48271 % 2147483647 = z at hm ⊢
  generalize cnN A 32 = c at h1 h2 h3 ⊢
  have hr : z % c < c := Nat.mod_lt _ h1
  rw [oN_rem (by omega) (by omega), small_32 ⟨z % c, by omega⟩]
  obtain ⟨v, hv, e⟩ := wa_in A 32 0 (z % c) (by omega)
  exact ⟨v, by omega, e⟩
theorem ans_al (h : RInv M nt ns nk ta) (k : KR S M) {B : BQ} {s t w : Nat} (hs : s < 5) (ht : t < nt) (hw : w < 32) (b1 : B.1 = nI s) (b2 : B.2.1 = nI t) {n : Int32} {p : Prop} [Decidable p] {left : Int32} {L : Int64} (hz : Zx left L) :
    Zx (left &&& ansF S B (nI w) n (bI p)) (L &&& (if hsP (fitT M s t 0 n) (nI w) ∧ (¬ hsP (fitT M s t 1 n) (nI w) ∨ p) then fitT M s t 0 n else if hsP (fitT M s t 1 n) (nI w) then fitT M s t 1 n else ALLW)) := by
  have z0 : Zx (nextF S (nI s) (nI t) 0 n) (fitT M s t 0 n) := next_al h k hs ht (u := 0) (by decide) n
  have z1 : Zx (nextF S (nI s) (nI t) 1 n) (fitT M s t 1 n) := next_al h k hs ht (u := 1) (by decide) n
  have f0 := z0.has hw
  have f1 := z1.has hw
  unfold ansF
  rw [b1, b2]
  by_cases q : hsP (fitT M s t 0 n) (nI w) ∧ (¬ hsP (fitT M s t 1 n) (nI w) ∨ p)
  · rw [if_pos q, if_pos ⟨f0.mpr q.1, q.2.elim (fun y => Or.inl (fun z => y (f1.mp z))) (fun y => Or.inr (bI_n0.mpr y))⟩]
    exact hz.and z0
  · rw [if_neg q, if_neg (fun z => q ⟨f0.mp z.1, z.2.elim (fun y => Or.inl (fun y2 => y (f1.mpr y2))) (fun y => Or.inr (bI_n0.mp y))⟩)]
    by_cases q2 : hsP (fitT M s t 1 n) (nI w)
    · rw [if_pos q2, if_pos (f1.mpr q2)]
      exact hz.and z1
    · rw [if_neg q2, if_neg (fun z => q2 (f1.mp z))]
      rw [show left &&& (-1 : Int32) = left from Int32.and_neg_one]
      exact zz_all hz
theorem sal_al (h : RInv M nt ns nk ta) (k : KR S M) {w : Nat} (hw : w < 32) : ∀ m i (B : BQ) {left : Int32} {L : Int64} (lot : Int64), Zx left L → (saL S nt ns nk (nI w) m i B left lot).2 = agF M nt ns nk (nI w) m i L lot
  | 0, _, _, _, _, _, _ => rfl
  | m + 1, i, B, left, L, lot, hz => by
    have h5 := h.1.2.2.2.1.2
    have h6 := h.1.2.2.1.2.2
    have n1 := h.1.2.2.1.2.1
    rw [saL, agF]
    rw [hz.cnt]
    by_cases q : cntF L 32 ≤ 1
    · rw [if_pos q, if_pos q]
    · rw [if_neg q, if_neg q]
      by_cases q2 : ns = 0
      · rw [if_pos q2, if_pos q2]
      · rw [if_neg q2, if_neg q2]
        have e134 : S.1 134 = nI nk := (KR.ki h k).1.2.2.2.2.2.1
        rw [e134]
        have kk : 0 < ns * nt := Nat.mul_pos (by omega) (by omega)
        have f := fb_al (S := setB S B) h (k.setB B) hz (nI nk + nI i) ns (Nat.le_refl _)
        rcases f with ⟨h0, -, -⟩ | ⟨-, s, t, hs, ht, b1, b2, q1, -, -, -⟩
        · omega
        · have t10 := ten ⟨s, hs⟩ ⟨t, by omega⟩
          have d1 : (qsT M L (nI nk + nI i) nt (ns * nt)).1 / 10 = nI s := by rw [q1]; exact t10.1
          have d2 : (qsT M L (nI nk + nI i) nt (ns * nt)).1 - (qsT M L (nI nk + nI i) nt (ns * nt)).1 / 10 * 10 = nI t := by rw [q1]; exact t10.2
          dsimp only
          rw [d2, d1, nI_clamp (by omega), nI_clamp (by omega)]
          exact sal_al h k hw m (i + 1) _ (loN lot) (ans_al h k hs ht hw b1 b2 hz)
theorem sa_al (h : RInv M nt ns nk ta) (k : KR S M) (hne : ¬ woT M nk = 0) {s : Nat} (hs : s < 2 ^ 20) {fit : Int32} (hz : Zx fit (woT M nk)) : (saA S nt ns nk (nI s) fit).2 = agA M nt ns nk (woT M nk) (nI s) := by
  unfold saA agA
  rw [hz.cnt, wn_al hz _ 32 0 0 (by omega), Int32.sub_zero]
  obtain ⟨w, hw, e⟩ := truth_in (woT_lo nk) hne hs
  rw [show lotF ((nI s).toInt64 + 1) = loN ((nI s).toInt64 + 1) from rfl, e]
  exact sal_al h k hw 6 0 _ _ hz
theorem inS {v : Int32} (h : (0 : Int32) ≤ v ∧ v ≤ 99999) : ∃ k : Nat, k ≤ 99999 ∧ v = nI k := inC (c := 99999) (n := 99999) (by decide) (by decide) h
set_option maxRecDepth 100000 in
theorem P_drawn (h : RInv M nt ns nk ta) (k : KR S M) (seed : Int32) : Ctr l 7 X sgX7_drawn [.ref 0, .int seed] (mk S M) (bvQ S M (drG M nt ns nk seed)) := by
  have q := KR.ki h k
  have hz := fit_al h k nk (Nat.le_refl _)
  refine Ctr.of okX7_drawn rfl (Nat.le_of_ble_eq_true rfl) (run_sound okX7_drawn noCut 200 ?_)
  refine br (fun y => ⟨⟨getB S, rfl⟩, some_int (if_neg (fun z => absurd y (Int32.not_lt.mpr z.1))).symm⟩) (fun y => br (fun y2 => kH (c_fitting q.1) (by decide) ?_) (fun y2 => ⟨⟨getB S, rfl⟩, some_int (if_neg (fun z => y2 z.2)).symm⟩))
  have hs : (0 : Int32) ≤ seed ∧ seed ≤ 99999 := ⟨Int32.not_lt.mp y, y2⟩
  have e : drG M nt ns nk seed = if woT M nk = 0 then -1 else nI (agA M nt ns nk (woT M nk) seed) := if_pos hs
  rw [e]
  refine br (fun f => ⟨⟨getB S, rfl⟩, some_int (if_pos (hz.zero.mp f)).symm⟩) (fun f => ?_)
  have hne : ¬ woT M nk = 0 := fun z => f (hz.zero.mpr z)
  have hbc : ¬ bcF (fitF S nk) = 0 := by
    rw [hz.cnt]
    intro z
    exact cnt_ne (woT_lo nk) hne (by rw [z]; rfl)
  rw [if_neg hne]
  refine ⟨5, _, by decide, c_strangerAsks (T := encM M) q.1 seed (fitF S nk) hbc, ?_⟩
  obtain ⟨s, hs, rfl⟩ := inS hs
  rw [← sa_al h k hne (by omega) hz]
  rintro hp' w ⟨rfl, rfl⟩
  exact ⟨⟨_, rfl⟩, rfl⟩
theorem S_drawn (r : REL S M) (seed : Int32) : StE l X S M 7 sgX7_drawn [.ref 0, .int seed] 6 sgX8_drawn [.ref 27, .int seed] := by
  obtain ⟨nt, ns, nk, ta, h⟩ := id r.1
  exact ste r (P_drawn h r.2 seed) (fun B => g_drawn h.1 seed)
abbrev bvL (S : CS) (M : MS) (v : Int64) : AH → Option Value → Prop := fun h w => (∃ B, h = mk (setB S B) M) ∧ w = some (.long v)
set_option maxRecDepth 100000 in
theorem P_mean (h : RInv M nt ns nk ta) (k : KR S M) (seed seeds part : Int32) : Ctr l 7 X sgX7_mean [.ref 0, .int seed, .int seeds, .int part] (mk S M) (bvL S M (meG2 M nt ns nk seed seeds part)) := by
  have q := KR.ki h k
  have hz := fit_al h k nk (Nat.le_refl _)
  refine Ctr.of okX7_mean rfl (Nat.le_of_ble_eq_true rfl) (run_sound okX7_mean kNme 200 ?_)
  have no : ¬ (((0 : Int32) ≤ seed ∧ seed ≤ 99999) ∧ ((1 : Int32) ≤ seeds ∧ seeds ≤ 10) ∧ p1P part) → (some (Value.long (-4611686018427387904))) = some (.long (meG2 M nt ns nk seed seeds part)) := fun z => some_long (if_neg z).symm
  have t17 : ¬ (((0 : Int32) ≤ seed ∧ seed ≤ 99999) ∧ ((1 : Int32) ≤ seeds ∧ seeds ≤ 10) ∧ p1P part) → WP l (rmD 7 0 0) X sgX7_mean kX7_mean (bvL S M (meG2 M nt ns nk seed seeds part)) 17 [some (.ref 0), some (.int seed), some (.int seeds), some (.int part), none, none, none] [] (mk S M) 0 0 := fun z => run_sound okX7_mean noCut 200 ⟨rfl, ⟨getB S, rfl⟩, no z⟩
  refine br (fun y => ⟨rfl, ⟨getB S, rfl⟩, no (fun z => absurd y (Int32.not_lt.mpr z.1.1))⟩) (fun h1 => br (fun h2 => ?_) (fun y => ⟨rfl, ⟨getB S, rfl⟩, no (fun z => y z.1.2)⟩))
  refine br (fun y => t17 (fun z => absurd y (Int32.not_lt.mpr z.2.1.1))) (fun h3 => br (fun y => t17 (fun z => absurd y (Int32.not_lt.mpr z.2.1.2))) (fun h4 => kH (c_isBelow part 2) (by decide) (brB' (fun y => t17 (fun z => y (x2_iff.mpr z.2.2))) (fun h5 => kH (c_fitting q.1) (by decide) ?_))))
  have hs : (0 : Int32) ≤ seed ∧ seed ≤ 99999 := ⟨Int32.not_lt.mp h1, h2⟩
  have hd : (1 : Int32) ≤ seeds ∧ seeds ≤ 10 := ⟨Int32.not_lt.mp h3, Int32.not_lt.mp h4⟩
  have hp : p1P part := x2_iff.mp h5
  have e : meG2 M nt ns nk seed seeds part = if woT M nk = 0 then NOL else loG (Int64.ofNat (meS M nt ns nk seed seeds.toNatClampNeg)) (Int64.ofNat seeds.toNatClampNeg) part := if_pos ⟨hs, hd, hp⟩
  rw [e]
  refine br (fun f => ⟨rfl, ⟨getB S, rfl⟩, some_long (if_pos (hz.zero.mp f)).symm⟩) (fun f => ?_)
  have hne : ¬ woT M nk = 0 := fun z => f (hz.zero.mpr z)
  have hbc : ¬ bcF (fitF S nk) = 0 := by
    rw [hz.cnt]
    intro z
    exact cnt_ne (woT_lo nk) hne (by rw [z]; rfl)
  rw [if_neg hne]
  obtain ⟨s, hs, rfl⟩ := inS hs
  have hd0 := hd
  obtain ⟨n, hn, rfl⟩ := in110 hd
  obtain ⟨d, hd', rfl⟩ := inC (c := 1) (n := 1) (by decide) (by decide) hp
  rw [nI_clamp (show n < 2 ^ 31 by omega)]
  have n0 : ¬ n = 0 := fun z => by
    subst z
    exact absurd hd0.1 (by decide)
  have key : ∀ j, j ≤ n → ∀ B : BQ, WP l (rmD 7 0 0) X sgX7_mean kX7_mean (bvL S M (loG (Int64.ofNat (meS M nt ns nk (nI s) n)) (Int64.ofNat n) (nI d))) 30 [some (.ref 0), some (.int (nI s)), some (.int (nI n)), some (.int (nI d)), some (.int (fitF S nk)), some (.int (nI (meS M nt ns nk (nI s) j))), some (.int (nI j))] [] (mk (setB S B) M) 0 0 := by
    refine down (fun B => ?_) (fun j hj ih B => ?_)
    · have hle := meS_le (M := M) (nt := nt) (ns := ns) (nk := nk) (nI s) n
      have lo : lowF (nI (meS M nt ns nk (nI s) n)) (nI n) (nI d) = loG (Int64.ofNat (meS M nt ns nk (nI s) n)) (Int64.ofNat n) (nI d) := low_al ⟨meS M nt ns nk (nI s) n, by omega⟩ ⟨n, by omega⟩ n0 ⟨d, by omega⟩
      exact run_sound okX7_mean kNme 200 (brT (Int32.le_refl _) (kH (c_inLowestTerms _ _ _) (by decide) ⟨rfl, ⟨B, rfl⟩, some_long lo⟩))
    · have sa := sa_al (S := setB S B) h (k.setB B) hne (show s + j < 2 ^ 20 by omega) hz
      have e1 : meS M nt ns nk (nI s) (j + 1) = meS M nt ns nk (nI s) j + (saA (setB S B) nt ns nk (nI s + nI j) (fitF S nk)).2 := by
        rw [nI_add, sa, ← nI_add]
        rfl
      refine run_sound okX7_mean kNme 200 (brF (ge_no (n := n) rfl hj (by omega)) ⟨5, _, by decide, c_strangerAsks (S := setB S B) (T := encM M) (q.1.setB B) (nI s + nI j) (fitF S nk) hbc, ?_⟩)
      rintro hp' w ⟨rfl, rfl⟩
      have ih := ih (saA (setB S B) nt ns nk (nI s + nI j) (fitF S nk)).1
      rw [e1, ← nI_add, ← nI_1 j] at ih
      exact ih
  exact key 0 (Nat.zero_le _) (getB S)
theorem S_mean (r : REL S M) (seed seeds part : Int32) : StEL l X S M 7 sgX7_mean [.ref 0, .int seed, .int seeds, .int part] 6 sgX8_mean [.ref 27, .int seed, .int seeds, .int part] := by
  obtain ⟨nt, ns, nk, ta, h⟩ := id r.1
  exact steL r (P_mean h r.2 seed seeds part) (fun B => g_mean h.1 seed seeds part)
end Q7
end
section
-- 97zj.q8
/-! QUESTIONS ALIKE: least -/
section Q8
variable {l : Launch} {X : List (List Int32)} {S : CS} {T : AH} {M : MS} {nt ns nk ta : Nat}
theorem cB_mono {a b : Nat} (h : ∀ i, a.testBit i = true → b.testBit i = true) : ∀ k, cB a k ≤ cB b k ∧ a % 2 ^ k ≤ b % 2 ^ k
  | 0 => ⟨Nat.le_refl _, by rw [Nat.pow_zero, Nat.mod_one, Nat.mod_one]; exact Nat.le_refl _⟩
  | k + 1 => by
    obtain ⟨h1, h2⟩ := cB_mono h k
    have e : a / 2 ^ k % 2 ≤ b / 2 ^ k % 2 := by
      have t := h k
      rw [Nat.testBit_eq_decide_div_mod_eq, Nat.testBit_eq_decide_div_mod_eq, decide_eq_true_iff, decide_eq_true_iff] at t
      rcases Nat.mod_two_eq_zero_or_one (a / 2 ^ k) with y | y
      · rw [y]; exact Nat.zero_le _
      · rw [y, t y]; exact Nat.le_refl _
    rw [cB, cB, Nat.mod_pow_succ, Nat.mod_pow_succ]
    exact ⟨Nat.add_le_add h1 e, Nat.add_le_add h2 (Nat.mul_le_mul_left _ e)⟩
/-- bits first, then the number -/
def keyN (m : Nat) : Nat := 8192 * cB m 32 + m
theorem keyN_mono {a b : Nat} (ha : a < 8192) (hb : b < 8192) (h : ∀ i, a.testBit i = true → b.testBit i = true) : keyN a ≤ keyN b := by
  obtain ⟨h1, h2⟩ := cB_mono h 32
  rw [Nat.mod_eq_of_lt (by omega), Nat.mod_eq_of_lt (by omega)] at h2
  unfold keyN
  omega
theorem keyN_inj {a b : Nat} (ha : a < 8192) (hb : b < 8192) (h : keyN a = keyN b) : a = b := by
  unfold keyN at h
  omega
theorem cB_le (n : Nat) : ∀ k, cB n k ≤ k
  | 0 => Nat.le_refl _
  | k + 1 => by
    have h := cB_le n k
    have := Nat.mod_lt (n / 2 ^ k) (show 0 < 2 by decide)
    rw [cB]
    omega
theorem nI_ltJ {a b : Nat} (ha : a < 2 ^ 31) (hb : b < 2 ^ 31) : nI a < nI b ↔ a < b := by
  rw [Int32.lt_iff_toInt_lt, nI_toInt ha, nI_toInt hb]
  omega
theorem cn_cB {a : Nat} (ha : a < 2 ^ 31) : cnN (nI a).toInt64 32 = cB a 32 := by
  rw [cnN_cB (zx_nat ha) 32 (Nat.le_refl _)]
  have e : (nI a).toBitVec = BitVec.ofNat 32 a := rfl
  rw [e, BitVec.toNat_ofNat, Nat.mod_eq_of_lt (by omega)]
theorem fewer_N {a b : Nat} (ha : a < 8192) (hb : b < 8192) : fewerF (nI a) (nI b) = if keyN a < keyN b then nI a else nI b := by
  have l1 := cB_le a 32
  have l2 := cB_le b 32
  unfold fewerF
  rw [bc_nat (by omega), bc_nat (by omega), cnt_N, cnt_N, cn_cB (by omega), cn_cB (by omega)]
  obtain ⟨c1, c2⟩ := cnt_lt (cB a 32) (cB b 32) l1 l2
  rw [nI_ltJ (by omega) (by omega)] at c1
  have c3 : nI a < nI b ↔ a < b := nI_ltJ (by omega) (by omega)
  by_cases q : keyN a < keyN b
  · rw [if_pos q, if_pos]
    rw [c1, c2, c3]
    unfold keyN at q
    omega
  · rw [if_neg q, if_neg]
    rw [c1, c2, c3]
    unfold keyN at q
    omega
theorem clB_low {C : Nat → Bool} : ∀ n, n ≤ 4096 → ((∀ m, m < n → ¬ C m = true) ∧ clB C n = -1) ∨ ∃ v, v < n ∧ C v = true ∧ clB C n = nI v ∧ ∀ m, m < n → C m = true → keyN v ≤ keyN m
  | 0, _ => Or.inl ⟨fun m hm => absurd hm (Nat.not_lt_zero _), rfl⟩
  | n + 1, hn => by
    rw [clB]
    have ih := clB_low (C := C) n (by omega)
    by_cases q : C n = true
    · rw [if_pos q]
      rcases ih with ⟨h1, h2⟩ | ⟨v, hv, hc, e, hm⟩
      · rw [if_pos h2]
        refine Or.inr ⟨n, by omega, q, rfl, fun m hm hc => ?_⟩
        by_cases y : m = n
        · rw [y]; exact Nat.le_refl _
        · exact absurd hc (h1 m (by omega))
      · rw [e, if_neg (nI_m1_ne (by omega)), fewer_N (by omega) (by omega)]
        by_cases y : keyN n < keyN v
        · rw [if_pos y]
          refine Or.inr ⟨n, by omega, q, rfl, fun m hm' hc => ?_⟩
          by_cases y2 : m = n
          · rw [y2]; exact Nat.le_refl _
          · exact Nat.le_trans (Nat.le_of_lt y) (hm m (by omega) hc)
        · rw [if_neg y]
          refine Or.inr ⟨v, by omega, hc, rfl, fun m hm' hc => ?_⟩
          by_cases y2 : m = n
          · rw [y2]; exact Nat.not_lt.mp y
          · exact hm m (by omega) hc
    · rw [if_neg q]
      rcases ih with ⟨h1, h2⟩ | ⟨v, hv, hc, e, hm⟩
      · refine Or.inl ⟨fun m hm => ?_, h2⟩
        by_cases y : m = n
        · rw [y]; exact q
        · exact h1 m (by omega)
      · refine Or.inr ⟨v, by omega, hc, e, fun m hm' hc => ?_⟩
        by_cases y : m = n
        · rw [y] at hc; exact absurd hc q
        · exact hm m (by omega) hc
theorem b_1 (j : Nat) (hj : j < 32) : btx 1 j = decide (j = 0) := (by decide +kernel : ∀ j, j < 32 → btx 1 j = decide (j = 0)) j hj
theorem mis_bit (u : Int32) : ∀ k, k ≤ 12 → ∀ i, i < 32 → (btx (misF S u k) i = true ↔ i < k ∧ bitF (sayF S (nI i)) u = 0)
  | 0, _, i, _ => by
    rw [misF, b_0]
    exact ⟨fun z => (by cases z), fun z => absurd z.1 (Nat.not_lt_zero _)⟩
  | k + 1, hk, i, hi => by
    have ih := mis_bit u k (by omega) i hi
    rw [misF]
    by_cases q : bitF (sayF S (nI k)) u = 0
    · rw [if_pos q, b_or, Bool.or_eq_true, ih, b_shl k (by omega) 1 hi, Bool.and_eq_true, b_1 (i - k) (by omega), decide_eq_true_iff, decide_eq_true_iff]
      constructor
      · rintro (⟨h1, h2⟩ | ⟨h1, h2⟩)
        · exact ⟨by omega, h2⟩
        · have e : i = k := by omega
          rw [e]
          exact ⟨by omega, q⟩
      · rintro ⟨h1, h2⟩
        by_cases e : i < k
        · exact Or.inl ⟨e, h2⟩
        · exact Or.inr ⟨by omega, by omega⟩
    · rw [if_neg q, ih]
      constructor
      · rintro ⟨h1, h2⟩
        exact ⟨by omega, h2⟩
      · rintro ⟨h1, h2⟩
        refine ⟨?_, h2⟩
        by_cases e : i = k
        · rw [e] at h2; exact absurd h2 q
        · omega
/-- what does not fit a world, as a number -/
def mfN (S : CS) (nk u : Nat) : Nat := (misF S (nI u) nk).toBitVec.toNat
theorem mf_eq (u : Nat) : misF S (nI u) nk = nI (mfN S nk u) := by
  apply Int32.toBitVec_inj.mp
  show _ = BitVec.ofNat 32 (misF S (nI u) nk).toBitVec.toNat
  simp
theorem mf_bit (hk : nk ≤ 12) (u i : Nat) : (mfN S nk u).testBit i = true ↔ i < nk ∧ bitF (sayF S (nI i)) (nI u) = 0 := by
  have e : (mfN S nk u).testBit i = btx (misF S (nI u) nk) i := rfl
  rw [e]
  by_cases q : i < 32
  · exact mis_bit (nI u) nk hk i q
  · rw [b_big (by omega)]
    exact ⟨fun z => (by cases z), fun z => by omega⟩
theorem mf_lt (hk : nk ≤ 12) (u : Nat) : mfN S nk u < 2 ^ nk := by
  apply Nat.lt_pow_two_of_testBit
  intro i hi
  by_cases q : (mfN S nk u).testBit i = true
  · have := ((mf_bit hk u i).mp q).1
    omega
  · exact Bool.eq_false_iff.mpr q
theorem p_4096 (hk : nk ≤ 12) : 2 ^ nk ≤ 4096 := Nat.pow_le_pow_right (n := 2) (by decide) hk
theorem mf_4095 (hk : nk ≤ 12) (u : Nat) : keyN (mfN S nk u) ≤ keyN 4095 := by
  have h1 := mf_lt (S := S) hk u
  have h2 := p_4096 hk
  refine keyN_mono (by omega) (by decide) (fun i hi => ?_)
  have h3 := ((mf_bit hk u i).mp hi).1
  exact (by decide : ∀ i : Fin 12, (4095 : Nat).testBit i.val = true) ⟨i, by omega⟩
theorem hs_and {A B : Int64} {w : Nat} (hw : w < 32) : hsP (A &&& B) (nI w) ↔ hsP A (nI w) ∧ hsP B (nI w) := by
  rw [hs_bit hw, hs_bit hw, hs_bit hw, Int64.toBitVec_and, BitVec.getLsbD_and, Bool.and_eq_true]
theorem hs_all {w : Nat} (hw : w < 32) : hsP ALLW (nI w) := (hs_bit hw).mpr (by
  rw [show (ALLW : Int64) = 4294967295 from rfl, bl_all]
  exact decide_eq_true hw)
theorem hs_ne {A : Int64} {w : Nat} (hw : w < 32) (h : hsP A (nI w)) : ¬ A = 0 := by
  rintro rfl
  have := (hs_bit hw).mp h
  rw [show (0 : Int64).toBitVec.getLsbD w = false from BitVec.getLsbD_zero] at this
  cases this
theorem wi_lo (left : Int32) : ∀ k, Lo (wiT M left k)
  | 0 => woT_lo 0
  | k + 1 => Lo.and (wi_lo left k)
theorem wi_bit (left : Int32) {w : Nat} (hw : w < 32) : ∀ k, hsP (wiT M left k) (nI w) ↔ hsP (woT M 0) (nI w) ∧ ∀ j, j < k → (left >>> (nI j &&& 31) &&& 1 = 1 ∨ hsP (fsT M j) (nI w))
  | 0 => ⟨fun h => ⟨h, fun j hj => absurd hj (Nat.not_lt_zero _)⟩, fun h => h.1⟩
  | k + 1 => by
    rw [wiT, hs_and hw, wi_bit left hw k]
    by_cases q : left >>> (nI k &&& 31) &&& 1 = 1
    · rw [if_pos q]
      constructor
      · rintro ⟨⟨h1, h2⟩, -⟩
        refine ⟨h1, fun j hj => ?_⟩
        by_cases y : j = k
        · rw [y]; exact Or.inl q
        · exact h2 j (by omega)
      · rintro ⟨h1, h2⟩
        exact ⟨⟨h1, fun j hj => h2 j (by omega)⟩, hs_all hw⟩
    · rw [if_neg q]
      constructor
      · rintro ⟨⟨h1, h2⟩, h3⟩
        refine ⟨h1, fun j hj => ?_⟩
        by_cases y : j = k
        · rw [y]; exact Or.inr h3
        · exact h2 j (by omega)
      · rintro ⟨h1, h2⟩
        exact ⟨⟨h1, fun j hj => h2 j (by omega)⟩, (h2 k (by omega)).elim (fun z => absurd z q) id⟩
theorem nb_get {m i : Nat} (hi : i < 32) : (nI m).toBitVec.getLsbD i = m.testBit i := by
  have e : (nI m).toBitVec = BitVec.ofNat 32 m := rfl
  rw [e, BitVec.getLsbD_ofNat, decide_eq_true hi, Bool.true_and]
theorem can_iff (h : RInv M nt ns nk ta) (k : KR S M) (m : Nat) : ¬ wiT M (nI m) nk = 0 ↔ ∃ u, u < 32 ∧ bitF (lawF S) (nI u) = 1 ∧ ∀ i, (mfN S nk u).testBit i = true → m.testBit i = true := by
  have h12 := h.1.2.2.2.2.1.2
  constructor
  · intro z
    obtain ⟨w, hw, b⟩ := lo_some (wi_lo (nI m) nk) z
    obtain ⟨b0, b1⟩ := (wi_bit (nI m) hw nk).mp b
    refine ⟨w, hw, ((law_al h k).has hw).mpr b0, fun i hi => ?_⟩
    obtain ⟨hik, hs⟩ := (mf_bit h12 w i).mp hi
    rcases b1 i hik with y | y
    · rw [← nb_get (show i < 32 by omega)]
      exact (sshr_get (nI m) (by omega)).mp y
    · have y2 := ((say_al h k hik).has hw).mpr y
      rw [hs] at y2
      exact absurd y2 (by decide)
  · rintro ⟨u, hu, hl, hs⟩
    refine hs_ne hu ((wi_bit (nI m) hu nk).mpr ⟨((law_al h k).has hu).mp hl, fun j hj => ?_⟩)
    by_cases y : bitF (sayF S (nI j)) (nI u) = 1
    · exact Or.inr (((say_al h k hj).has hu).mp y)
    · refine Or.inl ((sshr_get (nI m) (by omega)).mpr ?_)
      rw [nb_get (by omega)]
      exact hs j ((mf_bit h12 u j).mpr ⟨hj, (bitF_z _ _).mpr y⟩)
theorem lf_low (hk : nk ≤ 12) : ∀ w, ∃ v, v ≤ 4095 ∧ leastF S nk w = nI v ∧ keyN v ≤ keyN 4095 ∧ (∀ u, u < w → bitF (lawF S) (nI u) = 1 → keyN v ≤ keyN (mfN S nk u)) ∧ (v = 4095 ∨ ∃ u, u < w ∧ bitF (lawF S) (nI u) = 1 ∧ v = mfN S nk u)
  | 0 => ⟨4095, Nat.le_refl _, rfl, Nat.le_refl _, fun u hu => absurd hu (Nat.not_lt_zero _), Or.inl rfl⟩
  | w + 1 => by
    obtain ⟨v, hv, e, h1, h2, h3⟩ := lf_low hk w
    rw [leastF]
    by_cases q : bitF (lawF S) (nI w) = 1
    · have g1 := mf_lt (S := S) hk w
      have g2 := p_4096 hk
      rw [if_pos q, mf_eq, e, fewer_N (by omega) (by omega)]
      by_cases y : keyN (mfN S nk w) < keyN v
      · rw [if_pos y]
        refine ⟨mfN S nk w, by omega, rfl, by omega, fun u hu hl => ?_, Or.inr ⟨w, by omega, q, rfl⟩⟩
        by_cases y2 : u = w
        · rw [y2]; exact Nat.le_refl _
        · exact Nat.le_trans (Nat.le_of_lt y) (h2 u (by omega) hl)
      · rw [if_neg y]
        refine ⟨v, hv, rfl, h1, fun u hu hl => ?_, h3.elim Or.inl (fun ⟨u, a, b, c⟩ => Or.inr ⟨u, by omega, b, c⟩)⟩
        by_cases y2 : u = w
        · rw [y2]; exact Nat.not_lt.mp y
        · exact h2 u (by omega) hl
    · rw [if_neg q]
      refine ⟨v, hv, e, h1, fun u hu hl => ?_, h3.elim Or.inl (fun ⟨u, a, b, c⟩ => Or.inr ⟨u, by omega, b, c⟩)⟩
      by_cases y2 : u = w
      · rw [y2] at hl; exact absurd hl q
      · exact h2 u (by omega) hl
theorem least_al (h : RInv M nt ns nk ta) (k : KR S M) (what : Int32) : leastA S nk what = leG M nk what := by
  have h12 := h.1.2.2.2.2.1.2
  unfold leastA leG
  by_cases q : p1P what
  · rw [if_neg (fun z => z (x2_iff.mpr q)), if_pos q]
    have hP := p_4096 h12
    rw [← clO_al (C := fun m => decide (¬ wiT M (nI m) nk = 0)) (P := fun left => decide (¬ wiT M left nk = 0)) (n := 2 ^ nk) (by omega) (fun _ _ => rfl) what]
    have cl := clB_low (C := fun m => decide (¬ wiT M (nI m) nk = 0)) (2 ^ nk) hP
    generalize clB (fun m => decide (¬ wiT M (nI m) nk = 0)) (2 ^ nk) = K at cl ⊢
    by_cases q0 : lawF S = 0
    · rw [if_pos q0]
      rcases cl with ⟨-, e⟩ | ⟨v, -, hc, -, -⟩
      · rw [e, if_pos (Or.inr rfl)]
      · obtain ⟨u, hu, hl, -⟩ := (can_iff h k v).mp (of_decide_eq_true hc)
        rw [q0, bitF_get _ hu] at hl
        rw [show (0 : Int32).toBitVec.getLsbD u = false from BitVec.getLsbD_zero] at hl
        cases hl
    · rw [if_neg q0]
      obtain ⟨v, hv, e, h1, h2, h3⟩ := lf_low (S := S) h12 32
      obtain ⟨u0, hu0, hb0⟩ := lo_some (woT_lo (M := M) 0) (fun z => q0 ((law_al h k).zero.mpr z))
      have hl0 := ((law_al h k).has hu0).mpr hb0
      have c0 : ∀ u, u < 32 → bitF (lawF S) (nI u) = 1 → decide (¬ wiT M (nI (mfN S nk u)) nk = 0) = true := fun u hu hl => decide_eq_true ((can_iff h k _).mpr ⟨u, hu, hl, fun i z => z⟩)
      have m0 := mf_lt (S := S) h12 u0
      rcases cl with ⟨z, -⟩ | ⟨v', hv', hc', e', hm'⟩
      · exact absurd (c0 u0 hu0 hl0) (z _ m0)
      · obtain ⟨u, hu, hl, hs⟩ := (can_iff h k v').mp (of_decide_eq_true hc')
        have mu := mf_lt (S := S) h12 u
        have a1 : keyN v ≤ keyN v' := Nat.le_trans (h2 u hu hl) (keyN_mono (by omega) (by omega) hs)
        have a2 : keyN v' ≤ keyN v := by
          rcases h3 with z | ⟨u1, hu1, hl1, z⟩
          · have b1 := h2 u0 hu0 hl0
            have b2 := mf_4095 (S := S) h12 u0
            rw [z] at b1 ⊢
            have b3 := hm' _ m0 (c0 u0 hu0 hl0)
            omega
          · rw [z]
            exact hm' _ (mf_lt h12 u1) (c0 u1 hu1 hl1)
        have ev : v = v' := keyN_inj (by omega) (by omega) (by omega)
        rw [e, e', ← ev]
        obtain ⟨d, hd, rfl⟩ := inC (c := 1) (n := 1) (by decide) (by decide) q
        have n1 : ¬ nI v = -1 := nI_m1_ne (by omega)
        rcases (show d = 0 ∨ d = 1 by omega) with rfl | rfl
        · rw [if_pos (show nI 0 = 0 from rfl), if_neg (fun z => z.elim (fun y => absurd y (by decide)) n1)]
        · rw [if_neg (show ¬ nI 1 = 0 by decide), if_pos (Or.inl (show nI 1 = 1 from rfl))]
  · rw [if_pos (fun z => q (x2_iff.mp z)), if_neg q]
theorem S_least (r : REL S M) (what : Int32) : StE l X S M 6 sgX7_least [.ref 0, .int what] 6 sgX8_least [.ref 27, .int what] := by
  obtain ⟨nt, ns, nk, ta, h⟩ := id r.1
  have c := c_least (l := l) (X := X) (T := encM M) (KR.ki h r.2).1 what
  rw [least_al h r.2] at c
  exact ste r (an_B c) (fun B => g_least h.1 what)
end Q8
end
