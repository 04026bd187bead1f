/-! sets of small numbers as bits -/
theorem sh_ix : ∀ s, s < 32 → (((nI s) &&& 31).toBitVec.smod 32).toNat = s := by decide
theorem nI_bv (m : Nat) : (nI m).toBitVec = BitVec.ofNat 32 m := rfl
theorem nI_ext {x : Int32} {m : Nat} (h : x.toBitVec.toNat = m) : x = nI m := by
  apply Int32.toBitVec_inj.mp
  apply BitVec.eq_of_toNat_eq
  rw [nI_bv, BitVec.toNat_ofNat, ← h, Nat.mod_eq_of_lt x.toBitVec.isLt]
theorem nI_tn {m : Nat} (h : m < 4294967296) : (nI m).toBitVec.toNat = m := by
  rw [nI_bv, BitVec.toNat_ofNat]
  exact Nat.mod_eq_of_lt h
theorem nI_msb {m : Nat} (h : m < 2147483648) : (nI m).toBitVec.msb = false := by
  rw [BitVec.msb_eq_false_iff_two_mul_lt, nI_tn (by omega)]
  omega
theorem nI_shr {m s : Nat} (hm : m < 2147483648) (hs : s < 32) : nI m >>> (nI s &&& 31) = nI (m >>> s) := by
  apply nI_ext
  rw [Int32.toBitVec_shiftRight, BitVec.sshiftRight_eq', sh_ix s hs, BitVec.sshiftRight_eq_of_msb_false (nI_msb hm), BitVec.toNat_ushiftRight, nI_tn (by omega)]
theorem nI_and {a b : Nat} (ha : a < 4294967296) (hb : b < 4294967296) : nI a &&& nI b = nI (a &&& b) := by
  apply nI_ext
  rw [Int32.toBitVec_and, BitVec.toNat_and, nI_tn ha, nI_tn hb]
theorem nI_or {a b : Nat} (ha : a < 4294967296) (hb : b < 4294967296) : nI a ||| nI b = nI (a ||| b) := by
  apply nI_ext
  rw [Int32.toBitVec_or, BitVec.toNat_or, nI_tn ha, nI_tn hb]
theorem nI_xor {a b : Nat} (ha : a < 4294967296) (hb : b < 4294967296) : nI a ^^^ nI b = nI (a ^^^ b) := by
  apply nI_ext
  rw [Int32.toBitVec_xor, BitVec.toNat_xor, nI_tn ha, nI_tn hb]
theorem nI_one {s : Nat} (hs : s < 32) : (1 : Int32) <<< (nI s &&& 31) = nI (2 ^ s) := by
  have : ∀ s, s < 32 → (1 : Int32) <<< (nI s &&& 31) = nI (2 ^ s) := by decide
  exact this s hs
theorem bit_at {m s : Nat} (hm : m < 2147483648) (hs : s < 32) : (nI m >>> (nI s &&& 31)) &&& 1 = nI ((m >>> s) % 2) := by
  have h : m >>> s ≤ m := Nat.shiftRight_le m s
  rw [nI_shr hm hs, show (1 : Int32) = nI 1 from rfl, nI_and (by omega) (by decide), Nat.and_one_is_mod]
def hb (m s : Nat) : Bool := m.testBit s
theorem mod2_bit (m s : Nat) : (m >>> s) % 2 = (m.testBit s).toNat := by
  rw [Nat.toNat_testBit, Nat.shiftRight_eq_div_pow]
theorem has_at {m s : Nat} (hm : m < 2147483648) (hs : s < 32) : t_X10_has (nI m) (nI s) = if m.testBit s then 1 else 0 := by
  unfold t_X10_has
  rw [bit_at hm hs, mod2_bit]
  cases m.testBit s <;> rfl
theorem hasBit_has (x y : Int32) : t_X11_hasBit x y = t_X10_has x y := rfl
/-- bitCount, counted out, byte by byte -/
def s1 (m : Nat) : Nat := m - (m >>> 1 &&& 1431655765)
def s2 (m : Nat) : Nat := (m &&& 858993459) + (m >>> 2 &&& 858993459)
def s3 (m : Nat) : Nat := (m + (m >>> 4)) &&& 252645135
theorem and_split {x y p q : Nat} (hy : y < 2 ^ 8) (hq : q < 2 ^ 8) : (2 ^ 8 * x + y) &&& (2 ^ 8 * p + q) = 2 ^ 8 * (x &&& p) + (y &&& q) := by
  apply Nat.eq_of_testBit_eq
  intro i
  rw [Nat.testBit_and, Nat.testBit_two_pow_mul_add x hy, Nat.testBit_two_pow_mul_add p hq, Nat.testBit_two_pow_mul_add (x &&& p) (Nat.and_lt_two_pow y hq)]
  split <;> rw [Nat.testBit_and]
theorem k1a : ∀ x, x < 256 → x / 2 &&& 5592405 = x >>> 1 &&& 1431655765 ∧ x >>> 1 &&& 1431655765 ≤ x := by decide +kernel
theorem k1b : ∀ c, c < 2 → ∀ y, y < 256 → (c * 128 + y / 2) &&& 85 = y >>> 1 &&& 1431655765 := by decide +kernel
theorem s1_split {a b : Nat} (ha : a < 256) (hb : b < 256) : s1 (2 ^ 8 * a + b) = 2 ^ 8 * s1 a + s1 b := by
  unfold s1
  have e1 : (2 ^ 8 * a + b) >>> 1 = 2 ^ 8 * (a / 2) + (a % 2 * 128 + b / 2) := by
    rw [Nat.shiftRight_eq_div_pow]; omega
  have e2 : 1431655765 = 2 ^ 8 * 5592405 + 85 := by decide
  have h1 := k1a a ha
  have h2 := k1a b hb
  have h3 := k1b (a % 2) (by omega) b hb
  rw [e1, show (1431655765 : Nat) = 2 ^ 8 * 5592405 + 85 from e2, and_split (by omega) (by decide), h1.1, h3, ← e2]
  omega
theorem k2a : ∀ x, x < 256 → x &&& 3355443 = x &&& 858993459 ∧ x &&& 51 = x &&& 858993459 ∧ x / 4 &&& 3355443 = x >>> 2 &&& 858993459 := by decide +kernel
theorem k2b : ∀ c, c < 4 → ∀ y, y < 256 → (c * 64 + y / 4) &&& 51 = y >>> 2 &&& 858993459 := by decide +kernel
theorem s2_split {a b : Nat} (ha : a < 256) (hb : b < 256) : s2 (2 ^ 8 * a + b) = 2 ^ 8 * s2 a + s2 b := by
  unfold s2
  have e1 : (2 ^ 8 * a + b) >>> 2 = 2 ^ 8 * (a / 4) + (a % 4 * 64 + b / 4) := by
    rw [Nat.shiftRight_eq_div_pow]; omega
  have e2 : 858993459 = 2 ^ 8 * 3355443 + 51 := by decide
  have h1 := k2a a ha
  have h2 := k2a b hb
  have h3 := k2b (a % 4) (by omega) b hb
  rw [e1, show (858993459 : Nat) = 2 ^ 8 * 3355443 + 51 from e2, and_split (by omega) (by decide), and_split (by omega) (by decide), h1.1, h1.2.2, h2.2.1, h3, ← e2]
  omega
theorem k3a : ∀ x, x < 69 → (x + x / 16) &&& 986895 = s3 x := by decide +kernel
theorem k3b : ∀ c, c < 5 → ∀ y, y < 69 → (y + y / 16 + c * 16) &&& 15 = s3 y := by decide +kernel
theorem s3_split {a b : Nat} (ha : a < 69) (ha2 : a % 16 < 5) (hb : b < 69) : s3 (2 ^ 8 * a + b) = 2 ^ 8 * s3 a + s3 b := by
  have e1 : (2 ^ 8 * a + b) + (2 ^ 8 * a + b) >>> 4 = 2 ^ 8 * (a + a / 16) + (b + b / 16 + a % 16 * 16) := by
    rw [Nat.shiftRight_eq_div_pow]; omega
  have e2 : 252645135 = 2 ^ 8 * 986895 + 15 := by decide
  have h1 := k3a a ha
  have h3 := k3b (a % 16) ha2 b hb
  rw [← h1, ← h3]
  unfold s3
  rw [e1, show (252645135 : Nat) = 2 ^ 8 * 986895 + 15 from e2, and_split (by omega) (by decide)]
theorem k4 : ∀ a, a < 256 → (s1 a < 256 ∧ s2 (s1 a) < 69 ∧ s2 (s1 a) % 16 < 5) ∧ s3 (s2 (s1 a)) = pcn a 8 ∧ pcn a 8 ≤ 8 := by decide +kernel
theorem pcn_lo {a b : Nat} (hb : b < 2 ^ 8) : ∀ n, n ≤ 8 → pcn (2 ^ 8 * a + b) n = pcn b n
  | 0, _ => rfl
  | n + 1, h => by
    show pcn (2 ^ 8 * a + b) n + _ = pcn b n + _
    rw [pcn_lo hb n (by omega), mod2_bit, mod2_bit, Nat.testBit_two_pow_mul_add a hb, if_pos (by omega)]
theorem pcn_hi {a b : Nat} (hb : b < 2 ^ 8) : ∀ n, pcn (2 ^ 8 * a + b) (8 + n) = pcn b 8 + pcn a n
  | 0 => pcn_lo hb 8 (Nat.le_refl 8)
  | n + 1 => by
    show pcn (2 ^ 8 * a + b) (8 + n) + ((2 ^ 8 * a + b) >>> (8 + n)) % 2 = pcn b 8 + (pcn a n + (a >>> n) % 2)
    rw [pcn_hi hb n, mod2_bit, mod2_bit, Nat.testBit_two_pow_mul_add a hb, if_neg (by omega), Nat.add_sub_cancel_left, Nat.add_assoc]
theorem pcn_split {a b : Nat} (hb : b < 256) : pcn (2 ^ 8 * a + b) 16 = pcn a 8 + pcn b 8 := (pcn_hi hb 8).trans (Nat.add_comm _ _)
def bcn (m : Nat) : Nat :=
  let z := s3 (s2 (s1 m))
  let d := z + (z >>> 8)
  (d + (d >>> 16)) &&& 63
theorem bcn_pcn {m : Nat} (h : m < 65536) : bcn m = pcn m 16 := by
  obtain ⟨a, b, ha, hb, rfl⟩ : ∃ a b, a < 256 ∧ b < 256 ∧ m = 2 ^ 8 * a + b := ⟨m / 256, m % 256, by omega, by omega, by omega⟩
  obtain ⟨⟨a1, a2, a3⟩, a4, a5⟩ := k4 a ha
  obtain ⟨⟨b1, b2, b3⟩, b4, b5⟩ := k4 b hb
  rw [pcn_split hb]
  unfold bcn
  rw [s1_split ha hb, s2_split a1 b1, s3_split a2 a3 b2, a4, b4]
  have e1 : (2 ^ 8 * pcn a 8 + pcn b 8) + (2 ^ 8 * pcn a 8 + pcn b 8) >>> 8 = 2 ^ 8 * pcn a 8 + (pcn a 8 + pcn b 8) := by
    rw [Nat.shiftRight_eq_div_pow]; omega
  have e2 : 2 ^ 8 * pcn a 8 + (pcn a 8 + pcn b 8) + (2 ^ 8 * pcn a 8 + (pcn a 8 + pcn b 8)) >>> 16 = 2 ^ 8 * pcn a 8 + (pcn a 8 + pcn b 8) := by
    rw [Nat.shiftRight_eq_div_pow]; omega
  simp only [e1, e2]
  have e3 : (63 : Nat) = 2 ^ 8 * 0 + 63 := by decide
  rw [e3, and_split (by omega) (by decide)]
  have k5 : ∀ q, q < 17 → q &&& 63 = q := by decide
  rw [k5 _ (by omega), Nat.and_zero]
  omega
theorem nI_ushr {m : Nat} (hm : m < 4294967296) {k : Nat} (hk : k < 32) : ((nI m).toUInt32 >>> ((nI k).toUInt32 &&& Int32.toUInt32 31)).toInt32 = nI (m >>> k) := by
  have hs : ∀ k, k < 32 → ((nI k).toUInt32 &&& Int32.toUInt32 31).toNat % 32 = k := by decide
  apply nI_ext
  show ((nI m).toUInt32 >>> ((nI k).toUInt32 &&& Int32.toUInt32 31)).toNat = _
  rw [UInt32.toNat_shiftRight, hs k hk]
  show (nI m).toBitVec.toNat >>> k = _
  rw [nI_tn hm]
theorem bitCount_at {m : Nat} (h : m < 65536) : t_J6_bitCount_0f7a4 (nI m) = nI (pcn m 16) := by
  rw [← bcn_pcn h]
  unfold t_J6_bitCount_0f7a4 bcn
  simp only [lt]
  have g1 : m >>> 1 &&& 1431655765 ≤ m := Nat.le_trans Nat.and_le_left (Nat.shiftRight_le m 1)
  have h1 : s1 m ≤ m := Nat.sub_le _ _
  have q1 : s1 m &&& 858993459 ≤ s1 m := Nat.and_le_left
  have q2 : s1 m >>> 2 &&& 858993459 ≤ s1 m := Nat.le_trans Nat.and_le_left (Nat.shiftRight_le _ 2)
  have h2 : s2 (s1 m) ≤ 2 * s1 m := by unfold s2; omega
  have q3 : s2 (s1 m) >>> 4 ≤ s2 (s1 m) := Nat.shiftRight_le _ 4
  have h3 : s3 (s2 (s1 m)) ≤ 2 * s2 (s1 m) := by unfold s3; exact Nat.le_trans Nat.and_le_left (by omega)
  have q4 : s3 (s2 (s1 m)) >>> 8 ≤ s3 (s2 (s1 m)) := Nat.shiftRight_le _ 8
  have q5 : m >>> 1 ≤ m := Nat.shiftRight_le m 1
  have q6 : s1 m >>> 2 ≤ s1 m := Nat.shiftRight_le _ 2
  have q7 : (s3 (s2 (s1 m)) + s3 (s2 (s1 m)) >>> 8) >>> 16 ≤ s3 (s2 (s1 m)) + s3 (s2 (s1 m)) >>> 8 := Nat.shiftRight_le _ 16
  have c1 : nI m - (((nI m).toUInt32 >>> ((1 : Int32).toUInt32 &&& Int32.toUInt32 31)).toInt32 &&& 1431655765) = nI (s1 m) := by
    rw [show (1 : Int32) = nI 1 from rfl, nI_ushr (by omega) (by decide), show (1431655765 : Int32) = nI 1431655765 from rfl, nI_and (by omega) (by decide), nI_sub g1]
    rfl
  have c2 : (nI (s1 m) &&& 858993459) + (((nI (s1 m)).toUInt32 >>> ((2 : Int32).toUInt32 &&& Int32.toUInt32 31)).toInt32 &&& 858993459) = nI (s2 (s1 m)) := by
    rw [show (2 : Int32) = nI 2 from rfl, nI_ushr (by omega) (by decide), show (858993459 : Int32) = nI 858993459 from rfl, nI_and (by omega) (by decide), nI_and (by omega) (by decide), nI_add]
    rfl
  have c3 : (nI (s2 (s1 m)) + ((nI (s2 (s1 m))).toUInt32 >>> ((4 : Int32).toUInt32 &&& Int32.toUInt32 31)).toInt32) &&& 252645135 = nI (s3 (s2 (s1 m))) := by
    rw [show (4 : Int32) = nI 4 from rfl, nI_ushr (by omega) (by decide), nI_add, show (252645135 : Int32) = nI 252645135 from rfl, nI_and (by omega) (by decide)]
    rfl
  rw [c1, c2, c3, show (8 : Int32) = nI 8 from rfl, nI_ushr (by omega) (by decide), nI_add, show (16 : Int32) = nI 16 from rfl, nI_ushr (by omega) (by decide), nI_add, show (63 : Int32) = nI 63 from rfl, nI_and (by omega) (by decide)]
