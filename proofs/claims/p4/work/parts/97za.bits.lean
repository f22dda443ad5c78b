/-! NUMBERS OF BITS: Integer.bitCount counts (the first rows: Int32 by its bits, of kit/laws/BITS.to-paste) -/
section BITS
def btx (x : Int32) (i : Nat) : Bool := x.toBitVec.getLsbD i
theorem b_ext {x y : Int32} (h : ∀ i, i < 32 → btx x i = btx y i) : x = y := Int32.toBitVec_inj.mp (BitVec.eq_of_getLsbD_eq (fun i hi => h i hi))
theorem b_or (x y : Int32) (i : Nat) : btx (x ||| y) i = (btx x i || btx y i) := by unfold btx; rw [Int32.toBitVec_or, BitVec.getLsbD_or]
theorem b_and (x y : Int32) (i : Nat) : btx (x &&& y) i = (btx x i && btx y i) := by unfold btx; rw [Int32.toBitVec_and, BitVec.getLsbD_and]
theorem b_xor (x y : Int32) (i : Nat) : btx (x ^^^ y) i = (btx x i ^^ btx y i) := by unfold btx; rw [Int32.toBitVec_xor, BitVec.getLsbD_xor]
theorem b_big {x : Int32} {i : Nat} (h : 32 ≤ i) : btx x i = false := BitVec.getLsbD_of_ge _ _ h
theorem b_255 (i : Nat) : btx 255 i = decide (i < 8) := by
  rcases Nat.lt_or_ge i 32 with h | h
  · exact (by decide +kernel : ∀ i, i < 32 → btx 255 i = decide (i < 8)) i h
  · rw [b_big h, decide_eq_false (by omega)]
theorem b_65535 (i : Nat) : btx 65535 i = decide (i < 16) := by
  rcases Nat.lt_or_ge i 32 with h | h
  · exact (by decide +kernel : ∀ i, i < 32 → btx 65535 i = decide (i < 16)) i h
  · rw [b_big h, decide_eq_false (by omega)]
theorem b_m1 : ∀ i, i < 32 → btx (-1) i = true := by decide +kernel
theorem b_0 (i : Nat) : btx 0 i = false := BitVec.getLsbD_zero
theorem s_l : ∀ n, n < 32 → ((nI n &&& 31).toBitVec.smod 32).toNat = n := by decide +kernel
theorem s_u : ∀ n, n < 32 → (((nI n).toUInt32 &&& Int32.toUInt32 31).toBitVec % 32).toNat = n := by decide +kernel
theorem b_shl (n : Nat) (hn : n < 32) (x : Int32) {i : Nat} (hi : i < 32) : btx (x <<< (nI n &&& 31)) i = (decide (n ≤ i) && btx x (i - n)) := by
  unfold btx
  rw [Int32.toBitVec_shiftLeft]
  show (x.toBitVec <<< ((nI n &&& 31).toBitVec.smod 32).toNat).getLsbD i = _
  rw [s_l n hn, BitVec.getLsbD_shiftLeft]
  rcases Nat.lt_or_ge i n with h | h
  · simp [h, Nat.not_le.mpr h]
  · simp [hi, h, Nat.not_lt.mpr h]
theorem b_ushr (n : Nat) (hn : n < 32) (x : Int32) (i : Nat) : btx ((x.toUInt32 >>> ((nI n).toUInt32 &&& Int32.toUInt32 31)).toInt32) i = btx x (n + i) := by
  show (x.toUInt32 >>> ((nI n).toUInt32 &&& Int32.toUInt32 31)).toBitVec.getLsbD i = x.toUInt32.toBitVec.getLsbD (n + i)
  rw [UInt32.toBitVec_shiftRight]
  show (x.toUInt32.toBitVec >>> (((nI n).toUInt32 &&& Int32.toUInt32 31).toBitVec % 32).toNat).getLsbD i = _
  rw [s_u n hn, BitVec.getLsbD_ushiftRight]
theorem b_sshr (n : Nat) (hn : n < 32) (x : Int32) {i : Nat} (hi : i < 32) : btx (x >>> (nI n &&& 31)) i = if n + i < 32 then btx x (n + i) else btx x 31 := by
  unfold btx
  rw [Int32.toBitVec_shiftRight]
  show (x.toBitVec.sshiftRight ((nI n &&& 31).toBitVec.smod 32).toNat).getLsbD i = _
  rw [s_l n hn, BitVec.getLsbD_sshiftRight, BitVec.msb_eq_getLsbD_last]
  simp [hi]
theorem ush_tn (x : Int32) {n : Nat} (hn : n < 32) : ((x.toUInt32 >>> ((nI n).toUInt32 &&& Int32.toUInt32 31)).toInt32).toBitVec.toNat = x.toBitVec.toNat / 2 ^ n := by
  have e : ((x.toUInt32 >>> ((nI n).toUInt32 &&& Int32.toUInt32 31)).toInt32).toBitVec = x.toBitVec >>> n := by
    apply BitVec.eq_of_getLsbD_eq
    intro i hi
    rw [BitVec.getLsbD_ushiftRight]
    exact b_ushr n hn x i
  rw [e, BitVec.toNat_ushiftRight, Nat.shiftRight_eq_div_pow]
theorem and_split {p a b c d : Nat} (ha : a < 2 ^ p) (hc : c < 2 ^ p) : (2 ^ p * b + a) &&& (2 ^ p * d + c) = 2 ^ p * (b &&& d) + (a &&& c) := by
  apply Nat.eq_of_testBit_eq
  intro i
  rw [Nat.testBit_and, Nat.testBit_two_pow_mul_add _ ha, Nat.testBit_two_pow_mul_add _ hc, Nat.testBit_two_pow_mul_add _ (Nat.lt_of_le_of_lt Nat.and_le_left ha)]
  split <;> rw [Nat.testBit_and]
/-- four bytes -/
def quad (a b c d : Nat) : Nat := 2 ^ 8 * (2 ^ 8 * (2 ^ 8 * d + c) + b) + a
theorem quad_and {a b c d a' b' c' d' : Nat} (ha : a < 256) (hb : b < 256) (hc : c < 256) (ha' : a' < 256) (hb' : b' < 256) (hc' : c' < 256) : quad a b c d &&& quad a' b' c' d' = quad (a &&& a') (b &&& b') (c &&& c') (d &&& d') := by
  unfold quad
  rw [and_split (p := 8) ha ha', and_split (p := 8) hb hb', and_split (p := 8) hc hc']
theorem quad_of (n : Nat) : n = quad (n % 256) (n / 256 % 256) (n / 65536 % 256) (n / 16777216) := by
  unfold quad
  omega
theorem m55 : ∀ a : Fin 256, ∀ r : Fin 2, (a.val / 2 + 128 * r.val) &&& 85 = (a.val / 2) &&& 85 := by decide +kernel
theorem m33 : ∀ a : Fin 256, ∀ r : Fin 4, (a.val / 4 + 64 * r.val) &&& 51 = (a.val / 4) &&& 51 := by decide +kernel
def st1 (a : Nat) : Nat := a - ((a / 2) &&& 85)
def st2 (a : Nat) : Nat := (a &&& 51) + ((a / 4) &&& 51)
def pc8 (a : Nat) : Nat := a % 2 + a / 2 % 2 + a / 4 % 2 + a / 8 % 2 + a / 16 % 2 + a / 32 % 2 + a / 64 % 2 + a / 128 % 2
theorem st12 : ∀ a : Fin 256, st2 (st1 a.val) ≤ 68 ∧ st2 (st1 a.val) % 16 ≤ 4 ∧ st2 (st1 a.val) / 16 ≤ 4 ∧ st2 (st1 a.val) % 16 + st2 (st1 a.val) / 16 = pc8 a.val ∧ st1 a.val < 256 := by decide +kernel
theorem st2_le (a : Nat) : st2 a ≤ 102 := by
  unfold st2
  have h1 : a &&& 51 ≤ 51 := Nat.and_le_right
  have h2 : (a / 4) &&& 51 ≤ 51 := Nat.and_le_right
  omega
theorem pc8_le (a : Nat) : pc8 a ≤ 8 := by
  unfold pc8
  omega
theorem stage1 {a b c d : Nat} (ha : a < 256) (hb : b < 256) (hc : c < 256) (hd : d < 256) : quad a b c d - ((quad a b c d / 2) &&& 1431655765) = quad (st1 a) (st1 b) (st1 c) (st1 d) := by
  have e1 : quad a b c d / 2 = quad (a / 2 + 128 * (b % 2)) (b / 2 + 128 * (c % 2)) (c / 2 + 128 * (d % 2)) (d / 2) := by
    unfold quad
    omega
  have e2 : (1431655765 : Nat) = quad 85 85 85 85 := by decide
  have k1 := m55 ⟨a, ha⟩ ⟨b % 2, by omega⟩
  have k2 := m55 ⟨b, hb⟩ ⟨c % 2, by omega⟩
  have k3 := m55 ⟨c, hc⟩ ⟨d % 2, by omega⟩
  rw [e1, e2, quad_and (by omega) (by omega) (by omega) (by omega) (by omega) (by omega)]
  rw [show (a / 2 + 128 * (b % 2)) &&& 85 = (a / 2) &&& 85 from k1, show (b / 2 + 128 * (c % 2)) &&& 85 = (b / 2) &&& 85 from k2, show (c / 2 + 128 * (d % 2)) &&& 85 = (c / 2) &&& 85 from k3]
  have l1 : (a / 2) &&& 85 ≤ a / 2 := Nat.and_le_left
  have l2 : (b / 2) &&& 85 ≤ b / 2 := Nat.and_le_left
  have l3 : (c / 2) &&& 85 ≤ c / 2 := Nat.and_le_left
  have l4 : (d / 2) &&& 85 ≤ d / 2 := Nat.and_le_left
  unfold st1 quad
  omega
theorem stage2 {a b c d : Nat} (ha : a < 256) (hb : b < 256) (hc : c < 256) (hd : d < 256) : (quad a b c d &&& 858993459) + ((quad a b c d / 4) &&& 858993459) = quad (st2 a) (st2 b) (st2 c) (st2 d) := by
  have e1 : quad a b c d / 4 = quad (a / 4 + 64 * (b % 4)) (b / 4 + 64 * (c % 4)) (c / 4 + 64 * (d % 4)) (d / 4) := by
    unfold quad
    omega
  have e2 : (858993459 : Nat) = quad 51 51 51 51 := by decide
  have k1 := m33 ⟨a, ha⟩ ⟨b % 4, by omega⟩
  have k2 := m33 ⟨b, hb⟩ ⟨c % 4, by omega⟩
  have k3 := m33 ⟨c, hc⟩ ⟨d % 4, by omega⟩
  rw [e1, e2, quad_and ha hb hc (by omega) (by omega) (by omega), quad_and (by omega) (by omega) (by omega) (by omega) (by omega) (by omega)]
  rw [show (a / 4 + 64 * (b % 4)) &&& 51 = (a / 4) &&& 51 from k1, show (b / 4 + 64 * (c % 4)) &&& 51 = (b / 4) &&& 51 from k2, show (c / 4 + 64 * (d % 4)) &&& 51 = (c / 4) &&& 51 from k3]
  unfold st2 quad
  omega
theorem and15 (y : Nat) : y &&& 15 = y % 16 := Nat.and_two_pow_sub_one_eq_mod y 4
theorem stage3 {a b c d : Nat} (ha : a ≤ 68 ∧ a % 16 ≤ 4 ∧ a / 16 ≤ 4) (hb : b ≤ 68 ∧ b % 16 ≤ 4 ∧ b / 16 ≤ 4) (hc : c ≤ 68 ∧ c % 16 ≤ 4 ∧ c / 16 ≤ 4) (hd : d ≤ 68 ∧ d % 16 ≤ 4 ∧ d / 16 ≤ 4) :
    (quad a b c d + quad a b c d / 16) &&& 252645135 = quad (a % 16 + a / 16) (b % 16 + b / 16) (c % 16 + c / 16) (d % 16 + d / 16) := by
  have e1 : quad a b c d + quad a b c d / 16 = quad (a + a / 16 + 16 * (b % 16)) (b + b / 16 + 16 * (c % 16)) (c + c / 16 + 16 * (d % 16)) (d + d / 16) := by
    unfold quad
    omega
  have e2 : (252645135 : Nat) = quad 15 15 15 15 := by decide
  rw [e1, e2, quad_and (by omega) (by omega) (by omega) (by omega) (by omega) (by omega), and15, and15, and15, and15]
  have f1 : (a + a / 16 + 16 * (b % 16)) % 16 = a % 16 + a / 16 := by omega
  have f2 : (b + b / 16 + 16 * (c % 16)) % 16 = b % 16 + b / 16 := by omega
  have f3 : (c + c / 16 + 16 * (d % 16)) % 16 = c % 16 + c / 16 := by omega
  have f4 : (d + d / 16) % 16 = d % 16 + d / 16 := by omega
  rw [f1, f2, f3, f4]
theorem stage45 {a b c d : Nat} (ha : a ≤ 8) (hb : b ≤ 8) (hc : c ≤ 8) (hd : d ≤ 8) : ((quad a b c d + quad a b c d / 256) + (quad a b c d + quad a b c d / 256) / 65536) % 64 = a + b + c + d ∧ (quad a b c d + quad a b c d / 256) + (quad a b c d + quad a b c d / 256) / 65536 < 4294967296 := by
  have e1 : quad a b c d + quad a b c d / 256 = quad (a + b) (b + c) (c + d) d := by
    unfold quad
    omega
  have e2 : quad (a + b) (b + c) (c + d) d / 65536 = 256 * d + (c + d) := by
    unfold quad
    omega
  rw [e1, e2]
  unfold quad
  omega
theorem tn_and (x y : Int32) : (x &&& y).toBitVec.toNat = x.toBitVec.toNat &&& y.toBitVec.toNat := by rw [Int32.toBitVec_and, BitVec.toNat_and]
theorem tn_add {x y : Int32} (h : x.toBitVec.toNat + y.toBitVec.toNat < 4294967296) : (x + y).toBitVec.toNat = x.toBitVec.toNat + y.toBitVec.toNat := by
  rw [Int32.toBitVec_add, BitVec.toNat_add, Nat.mod_eq_of_lt h]
theorem tn_sub {x y : Int32} (h : y.toBitVec.toNat ≤ x.toBitVec.toNat) : (x - y).toBitVec.toNat = x.toBitVec.toNat - y.toBitVec.toNat := by
  rw [Int32.toBitVec_sub, BitVec.toNat_sub]
  have := x.toBitVec.isLt
  omega
theorem quad_lt {a b c d : Nat} (ha : a < 256) (hb : b < 256) (hc : c < 256) (hd : d < 256) : quad a b c d < 4294967296 := by
  unfold quad
  omega
theorem bcF_tn (x : Int32) : (bcF x).toBitVec.toNat = pc8 (x.toBitVec.toNat % 256) + pc8 (x.toBitVec.toNat / 256 % 256) + pc8 (x.toBitVec.toNat / 65536 % 256) + pc8 (x.toBitVec.toNat / 16777216) := by
  have hlt := x.toBitVec.isLt
  obtain ⟨n, hn⟩ : ∃ n, n = x.toBitVec.toNat := ⟨_, rfl⟩
  rw [← hn] at hlt ⊢
  have ha : n % 256 < 256 := by omega
  have hb : n / 256 % 256 < 256 := by omega
  have hc : n / 65536 % 256 < 256 := by omega
  have hd : n / 16777216 < 256 := by omega
  have hq := quad_of n
  generalize n % 256 = a at ha hq ⊢
  generalize n / 256 % 256 = b at hb hq ⊢
  generalize n / 65536 % 256 = c at hc hq ⊢
  generalize n / 16777216 = d at hd hq ⊢
  obtain ⟨a1, a2, a3, a4, a5⟩ := st12 ⟨a, ha⟩
  obtain ⟨b1, b2, b3, b4, b5⟩ := st12 ⟨b, hb⟩
  obtain ⟨c1, c2, c3, c4, c5⟩ := st12 ⟨c, hc⟩
  obtain ⟨d1, d2, d3, d4, d5⟩ := st12 ⟨d, hd⟩
  have t1 : (bc1 x).toBitVec.toNat = quad (st1 a) (st1 b) (st1 c) (st1 d) := by
    unfold bc1
    have u : ((x.toUInt32 >>> ((1 : Int32).toUInt32 &&& Int32.toUInt32 31)).toInt32).toBitVec.toNat = n / 2 := by
      rw [hn]; exact ush_tn x (n := 1) (by decide)
    have v : ((x.toUInt32 >>> ((1 : Int32).toUInt32 &&& Int32.toUInt32 31)).toInt32 &&& 1431655765).toBitVec.toNat = (n / 2) &&& 1431655765 := by
      rw [tn_and, u]; rfl
    rw [tn_sub (by rw [v, ← hn]; exact Nat.le_trans Nat.and_le_left (Nat.div_le_self n 2)), v, ← hn, hq]
    exact stage1 ha hb hc hd
  have t2 : (bc2 (bc1 x)).toBitVec.toNat = quad (st2 (st1 a)) (st2 (st1 b)) (st2 (st1 c)) (st2 (st1 d)) := by
    unfold bc2
    have u : (((bc1 x).toUInt32 >>> ((2 : Int32).toUInt32 &&& Int32.toUInt32 31)).toInt32 &&& 858993459).toBitVec.toNat = (quad (st1 a) (st1 b) (st1 c) (st1 d) / 4) &&& 858993459 := by
      rw [tn_and, show (((bc1 x).toUInt32 >>> ((2 : Int32).toUInt32 &&& Int32.toUInt32 31)).toInt32).toBitVec.toNat = (bc1 x).toBitVec.toNat / 2 ^ 2 from ush_tn (bc1 x) (n := 2) (by decide), t1]
      rfl
    have v : (bc1 x &&& 858993459).toBitVec.toNat = quad (st1 a) (st1 b) (st1 c) (st1 d) &&& 858993459 := by
      rw [tn_and, t1]; rfl
    have w := stage2 (a := st1 a) (b := st1 b) (c := st1 c) (d := st1 d) a5 b5 c5 d5
    rw [tn_add (by rw [u, v, w]; exact quad_lt (by have := st2_le (st1 a); omega) (by have := st2_le (st1 b); omega) (by have := st2_le (st1 c); omega) (by have := st2_le (st1 d); omega)), u, v]
    exact w
  have t3 : (bc3 (bc2 (bc1 x))).toBitVec.toNat = quad (pc8 a) (pc8 b) (pc8 c) (pc8 d) := by
    unfold bc3
    have u : (((bc2 (bc1 x)).toUInt32 >>> ((4 : Int32).toUInt32 &&& Int32.toUInt32 31)).toInt32).toBitVec.toNat = (bc2 (bc1 x)).toBitVec.toNat / 16 := ush_tn (bc2 (bc1 x)) (n := 4) (by decide)
    have w := stage3 ⟨a1, a2, a3⟩ ⟨b1, b2, b3⟩ ⟨c1, c2, c3⟩ ⟨d1, d2, d3⟩
    rw [tn_and, tn_add (by
      rw [u, t2]
      have a1 : st2 (st1 a) ≤ 68 := a1
      have b1 : st2 (st1 b) ≤ 68 := b1
      have c1 : st2 (st1 c) ≤ 68 := c1
      have d1 : st2 (st1 d) ≤ 68 := d1
      unfold quad
      omega), u, t2]
    rw [a4, b4, c4, d4] at w
    exact w
  have p1 := pc8_le a
  have p2 := pc8_le b
  have p3 := pc8_le c
  have p4 := pc8_le d
  obtain ⟨w1, w2⟩ := stage45 p1 p2 p3 p4
  have t4 : (bc4 (bc3 (bc2 (bc1 x)))).toBitVec.toNat = quad (pc8 a) (pc8 b) (pc8 c) (pc8 d) + quad (pc8 a) (pc8 b) (pc8 c) (pc8 d) / 256 := by
    unfold bc4
    have u : (((bc3 (bc2 (bc1 x))).toUInt32 >>> ((8 : Int32).toUInt32 &&& Int32.toUInt32 31)).toInt32).toBitVec.toNat = (bc3 (bc2 (bc1 x))).toBitVec.toNat / 256 := ush_tn _ (n := 8) (by decide)
    rw [tn_add (by rw [u, t3]; omega), u, t3]
  unfold bcF bc5
  have u : (((bc4 (bc3 (bc2 (bc1 x)))).toUInt32 >>> ((16 : Int32).toUInt32 &&& Int32.toUInt32 31)).toInt32).toBitVec.toNat = (bc4 (bc3 (bc2 (bc1 x)))).toBitVec.toNat / 65536 := ush_tn _ (n := 16) (by decide)
  rw [tn_and, tn_add (by rw [u, t4]; exact w2), u, t4]
  rw [show (63 : Int32).toBitVec.toNat = 2 ^ 6 - 1 from rfl, Nat.and_two_pow_sub_one_eq_mod]
  exact w1
/-- bits below k -/
def cB (n : Nat) : Nat → Nat
  | 0 => 0
  | k + 1 => cB n k + n / 2 ^ k % 2
theorem cB_add (n : Nat) : ∀ k, cB n (8 + k) = cB n 8 + cB (n / 256) k
  | 0 => rfl
  | k + 1 => by
    show cB n (8 + k) + n / 2 ^ (8 + k) % 2 = cB n 8 + (cB (n / 256) k + n / 256 / 2 ^ k % 2)
    rw [cB_add n k, Nat.pow_add, ← Nat.div_div_eq_div_mul, show (2 : Nat) ^ 8 = 256 from rfl]
    omega
theorem cB_8 (n : Nat) : cB n 8 = pc8 (n % 256) := by
  show 0 + n / 2 ^ 0 % 2 + n / 2 ^ 1 % 2 + n / 2 ^ 2 % 2 + n / 2 ^ 3 % 2 + n / 2 ^ 4 % 2 + n / 2 ^ 5 % 2 + n / 2 ^ 6 % 2 + n / 2 ^ 7 % 2 = _
  unfold pc8
  omega
theorem cB_32 {n : Nat} (h : n < 4294967296) : cB n 32 = pc8 (n % 256) + pc8 (n / 256 % 256) + pc8 (n / 65536 % 256) + pc8 (n / 16777216) := by
  have e1 := cB_add n 24
  have e2 := cB_add (n / 256) 16
  have e3 := cB_add (n / 256 / 256) 8
  rw [show 8 + 24 = 32 from rfl] at e1
  rw [show 8 + 16 = 24 from rfl] at e2
  rw [show 8 + 8 = 16 from rfl] at e3
  rw [e1, e2, e3, cB_8, cB_8, cB_8, cB_8]
  rw [show n / 256 / 256 = n / 65536 by omega, show n / 65536 / 256 % 256 = n / 16777216 by omega]
  omega
/-! sets of worlds, by their bits -/
theorem Zx.get {a : Int32} {b : Int64} (h : Zx a b) (i : Nat) : b.toBitVec.getLsbD i = a.toBitVec.getLsbD i := by
  rw [h.bit]
  by_cases q : i < 64
  · rw [decide_eq_true q, Bool.true_and]
  · rw [decide_eq_false q, Bool.false_and, BitVec.getLsbD_of_ge _ _ (by omega)]
theorem Zx.mk {a : Int32} {b : Int64} (h : ∀ i, i < 64 → b.toBitVec.getLsbD i = a.toBitVec.getLsbD i) : Zx a b := Zx.ext (fun i hi => by rw [h i hi, decide_eq_true hi, Bool.true_and])
theorem Zx.eq {a a' : Int32} {b b' : Int64} (h : Zx a b) (h' : Zx a' b') : a = a' ↔ b = b' := by
  constructor
  · rintro rfl
    apply Int64.toBitVec_inj.mp
    rw [h, h']
  · rintro rfl
    apply Int32.toBitVec_inj.mp
    apply BitVec.eq_of_getLsbD_eq
    intro i _
    rw [← h.get, ← h'.get]
theorem Zx.zero {a : Int32} {b : Int64} (h : Zx a b) : a = 0 ↔ b = 0 := h.eq Zx.z
theorem bv_m1 (i : Nat) : (-1 : Int32).toBitVec.getLsbD i = decide (i < 32) := by
  rw [show (-1 : Int32).toBitVec = BitVec.allOnes 32 from by decide, BitVec.getLsbD_allOnes]
theorem bl_m1 (i : Nat) : (-1 : Int64).toBitVec.getLsbD i = decide (i < 64) := by
  rw [show (-1 : Int64).toBitVec = BitVec.allOnes 64 from by decide, BitVec.getLsbD_allOnes]
theorem bl_all (i : Nat) : (4294967295 : Int64).toBitVec.getLsbD i = decide (i < 32) := by
  rw [show (4294967295 : Int64).toBitVec = (BitVec.allOnes 32).setWidth 64 from by decide, BitVec.getLsbD_setWidth, BitVec.getLsbD_allOnes]
  by_cases q : i < 32
  · rw [decide_eq_true q, decide_eq_true (by omega)]; rfl
  · rw [decide_eq_false q, Bool.and_false]
theorem Zx.bits {a : Int32} {b : Int64} (h : Zx a b) : bitsF a = b := by
  apply Int64.toBitVec_inj.mp
  apply BitVec.eq_of_getLsbD_eq
  intro i hi
  unfold bitsF
  rw [Int64.toBitVec_and, BitVec.getLsbD_and, bl_all, h.get, Int32.toBitVec_toInt64, BitVec.getLsbD_signExtend]
  by_cases q : i < 32
  · rw [decide_eq_true q, decide_eq_true hi, if_pos q]
    simp
  · rw [decide_eq_false q, Bool.and_false, BitVec.getLsbD_of_ge _ _ (by omega)]
theorem bitF_get (a : Int32) {w : Nat} (hw : w < 32) : bitF a (nI w) = 1 ↔ a.toBitVec.getLsbD w = true := by
  unfold bitF
  have e : ((a.toUInt32 >>> ((nI w).toUInt32 &&& Int32.toUInt32 31)).toInt32 &&& 1).toBitVec.toNat = a.toBitVec.toNat / 2 ^ w % 2 := by
    rw [tn_and, ush_tn a hw]
    exact Nat.and_two_pow_sub_one_eq_mod _ 1
  have e2 : a.toBitVec.getLsbD w = decide (a.toBitVec.toNat / 2 ^ w % 2 = 1) := by
    rw [BitVec.getLsbD, Nat.testBit_eq_decide_div_mod_eq]
  rw [e2, decide_eq_true_iff, ← e]
  constructor
  · intro h
    rw [h]; rfl
  · intro h
    apply Int32.toBitVec_inj.mp
    apply BitVec.eq_of_toNat_eq
    rw [h]; rfl
theorem bitF_01 (a i : Int32) : bitF a i = 0 ∨ bitF a i = 1 := by
  unfold bitF
  have e : ((a.toUInt32 >>> (i.toUInt32 &&& Int32.toUInt32 31)).toInt32 &&& 1).toBitVec.toNat = ((a.toUInt32 >>> (i.toUInt32 &&& Int32.toUInt32 31)).toInt32).toBitVec.toNat % 2 := by
    rw [tn_and]
    exact Nat.and_two_pow_sub_one_eq_mod _ 1
  rcases Nat.mod_two_eq_zero_or_one ((a.toUInt32 >>> (i.toUInt32 &&& Int32.toUInt32 31)).toInt32).toBitVec.toNat with q | q
  · rw [q] at e
    exact Or.inl (Int32.toBitVec_inj.mp (BitVec.eq_of_toNat_eq e))
  · rw [q] at e
    exact Or.inr (Int32.toBitVec_inj.mp (BitVec.eq_of_toNat_eq e))
theorem bitF_z (a i : Int32) : bitF a i = 0 ↔ ¬ bitF a i = 1 := by
  rcases bitF_01 a i with h | h <;> rw [h] <;> decide
theorem Zx.has {a : Int32} {b : Int64} (h : Zx a b) {w : Nat} (hw : w < 32) : bitF a (nI w) = 1 ↔ hsP b (nI w) := by
  rw [bitF_get a hw, hs_bit hw, h.get]
theorem cnN_cB {a : Int32} {b : Int64} (h : Zx a b) : ∀ k, k ≤ 32 → cnN b k = cB a.toBitVec.toNat k
  | 0, _ => rfl
  | k + 1, hk => by
    rw [cnN, cB, cnN_cB h k (by omega)]
    congr 1
    have e2 : a.toBitVec.getLsbD k = decide (a.toBitVec.toNat / 2 ^ k % 2 = 1) := by
      rw [BitVec.getLsbD, Nat.testBit_eq_decide_div_mod_eq]
    by_cases q : hsP b (nI k)
    · have q2 := (hs_bit (by omega)).mp q
      rw [h.get, e2, decide_eq_true_iff] at q2
      rw [if_pos q, q2]
    · have q2 : ¬ a.toBitVec.toNat / 2 ^ k % 2 = 1 := fun z => q ((hs_bit (by omega)).mpr (by rw [h.get, e2, z]; rfl))
      rw [if_neg q]
      omega
theorem Zx.cnt {a : Int32} {b : Int64} (h : Zx a b) : bcF a = cntF b 32 := by
  rw [cnt_N, cnN_cB h 32 (Nat.le_refl _), cB_32 a.toBitVec.isLt, ← bcF_tn]
  apply Int32.toBitVec_inj.mp
  show _ = BitVec.ofNat 32 _
  simp
end BITS
