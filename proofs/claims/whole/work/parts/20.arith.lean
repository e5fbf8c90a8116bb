/-! Whole numbers of the machine as integers. -/
def ii (z : Int) : Int32 := Int32.ofInt z
def R32 (z : Int) : Prop := -2147483648 ≤ z ∧ z ≤ 2147483647
theorem ii_toInt {a : Int} (h1 : -2147483648 ≤ a) (h2 : a ≤ 2147483647) : (ii a).toInt = a := by
  unfold ii
  rw [Int32.toInt_ofInt]
  simp only [Int32.size]
  exact Int.bmod_eq_of_le (by omega) (by omega)
theorem ii_of (x : Int32) : ii x.toInt = x := Int32.ofInt_toInt x
theorem ii_rng (x : Int32) : -2147483648 ≤ x.toInt ∧ x.toInt ≤ 2147483647 := ⟨by have := Int32.le_toInt x; omega, by have := Int32.toInt_lt x; omega⟩
theorem ii_lit (n : Nat) : (@OfNat.ofNat Int32 n _) = ii (@OfNat.ofNat Int n _) := by
  show Int32.ofNat n = Int32.ofInt (n : Int)
  exact (Int32.ofInt_eq_ofNat (n := n)).symm
theorem ii_ofNat (n : Nat) : Int32.ofNat n = ii (n : Int) := (Int32.ofInt_eq_ofNat (n := n)).symm
theorem ii_add (a b : Int) : ii a + ii b = ii (a + b) := (Int32.ofInt_add a b).symm
theorem ii_sub (a b : Int) : ii a - ii b = ii (a - b) := (Int32.ofInt_sub a b).symm
theorem ii_mul (a b : Int) : ii a * ii b = ii (a * b) := (Int32.ofInt_mul a b).symm
theorem ii_neg (a : Int) : -ii a = ii (-a) := (Int32.ofInt_neg a).symm
theorem ii_lt {a b : Int} (h1 : -2147483648 ≤ a) (h2 : a ≤ 2147483647) (h3 : -2147483648 ≤ b) (h4 : b ≤ 2147483647) : (ii a < ii b) ↔ a < b := by
  rw [Int32.lt_iff_toInt_lt, ii_toInt h1 h2, ii_toInt h3 h4]
theorem ii_le {a b : Int} (h1 : -2147483648 ≤ a) (h2 : a ≤ 2147483647) (h3 : -2147483648 ≤ b) (h4 : b ≤ 2147483647) : (ii a ≤ ii b) ↔ a ≤ b := by
  rw [Int32.le_iff_toInt_le, ii_toInt h1 h2, ii_toInt h3 h4]
theorem ii_eq {a b : Int} (h1 : -2147483648 ≤ a) (h2 : a ≤ 2147483647) (h3 : -2147483648 ≤ b) (h4 : b ≤ 2147483647) : (ii a = ii b) ↔ a = b := by
  rw [← Int32.toInt_inj, ii_toInt h1 h2, ii_toInt h3 h4]
theorem ii_nat {a : Int} (h1 : -2147483648 ≤ a) (h2 : a ≤ 2147483647) : (ii a).toNatClampNeg = a.toNat := by
  show (ii a).toInt.toNat = _
  rw [ii_toInt h1 h2]
theorem ii_div {a b : Int} (h1 : 0 ≤ a) (h2 : a ≤ 2147483647) (h3 : 0 < b) (h4 : b ≤ 2147483647) : ii a / ii b = ii (a / b) := by
  rw [← Int32.toInt_inj, Int32.toInt_div, ii_toInt (by omega) h2, ii_toInt (by omega) h4]
  have hq := Int.ediv_le_self b h1
  have hq0 := Int.ediv_nonneg h1 (Int.le_of_lt h3)
  rw [ii_toInt (by omega) (by omega), Int.tdiv_eq_ediv_of_nonneg h1]
  exact Int.bmod_eq_of_le (by omega) (by omega)
theorem ii_bv (a : Int) : (ii a).toBitVec = BitVec.ofInt 32 a := rfl
theorem ii_ext {x y : Int32} (h : x.toBitVec = y.toBitVec) : x = y := Int32.toBitVec_inj.mp h
theorem ii_and_nat (a b : Nat) : ii a &&& ii b = ii ((a &&& b : Nat) : Int) := by
  apply ii_ext
  show BitVec.ofNat 32 a &&& BitVec.ofNat 32 b = BitVec.ofNat 32 (a &&& b)
  rw [BitVec.ofNat_and]
theorem ii_or_nat (a b : Nat) : ii a ||| ii b = ii ((a ||| b : Nat) : Int) := by
  apply ii_ext
  show BitVec.ofNat 32 a ||| BitVec.ofNat 32 b = BitVec.ofNat 32 (a ||| b)
  rw [BitVec.ofNat_or]
theorem ii_xor_nat (a b : Nat) : ii a ^^^ ii b = ii ((a ^^^ b : Nat) : Int) := by
  apply ii_ext
  show BitVec.ofNat 32 a ^^^ BitVec.ofNat 32 b = BitVec.ofNat 32 (a ^^^ b)
  rw [BitVec.ofNat_xor]
/-- an int modulo 2^32 -/
theorem ii_mod (a : Int) : ii (a % 4294967296) = ii a := by
  apply ii_ext
  show BitVec.ofInt 32 _ = BitVec.ofInt 32 _
  apply BitVec.eq_of_toNat_eq
  simp [BitVec.toNat_ofInt]
theorem ii_mod_eq {a b : Int} (h : a % 4294967296 = b % 4294967296) : ii a = ii b := by rw [← ii_mod a, h, ii_mod]
/-- the lowest k bits -/
theorem ii_mask (a : Int) (k : Nat) (hk : k ≤ 31) : ii a &&& ii (2 ^ k - 1 : Int) = ii (a % 2 ^ k) := by
  have h0 : (0 : Int) ≤ a % 4294967296 := Int.emod_nonneg _ (by decide)
  obtain ⟨n, hn⟩ := Int.eq_ofNat_of_zero_le h0
  have e1 : ii a = ii (n : Int) := by rw [← ii_mod a, hn]
  have e2 : (2 ^ k - 1 : Int) = ((2 ^ k - 1 : Nat) : Int) := by
    have : 1 ≤ 2 ^ k := Nat.one_le_two_pow
    rw [Int.ofNat_sub this]
    simp
  rw [e1, e2, ii_and_nat, Nat.and_two_pow_sub_one_eq_mod]
  have e3 : a % 2 ^ k = ((n % 2 ^ k : Nat) : Int) := by
    rw [Int.natCast_emod, ← hn]
    have hd : (2 ^ k : Int) ∣ 4294967296 := by
      have : (4294967296 : Int) = 2 ^ k * 2 ^ (32 - k) := by
        rw [← Int.pow_add, Nat.add_sub_cancel' (by omega)]
        decide
      exact ⟨_, this⟩
    have hc : ((2 ^ k : Nat) : Int) = (2 : Int) ^ k := by simp
    rw [hc, Int.emod_emod_of_dvd _ hd]
  rw [e3]
/-- shift distances: 'b & 31' is b -/
theorem ii_and31 {b : Int} (h1 : 0 ≤ b) (h2 : b ≤ 31) : ii b &&& ii 31 = ii b := by
  have := ii_mask b 5 (by decide)
  rw [show (2 ^ 5 - 1 : Int) = 31 from rfl] at this
  rw [this, Int.emod_eq_of_lt h1 (by show b < 32; omega)]
theorem ii_sm {b : Nat} (h : b ≤ 31) : ((ii (b : Int)).toBitVec.smod 32).toNat = b := by
  have : ∀ b : Fin 32, ((ii ((b : Nat) : Int)).toBitVec.smod 32).toNat = b := by decide +kernel
  exact this ⟨b, by omega⟩
theorem ii_shl (a : Int) {b : Nat} (h : b ≤ 31) : ii a <<< ii (b : Int) = ii (a * 2 ^ b) := by
  apply ii_ext
  rw [Int32.toBitVec_shiftLeft]
  apply BitVec.eq_of_toNat_eq
  rw [BitVec.shiftLeft_eq', ii_sm h, BitVec.toNat_shiftLeft, ii_bv, ii_bv, BitVec.toNat_ofInt, BitVec.toNat_ofInt, Nat.shiftLeft_eq]
  have h0 : (0 : Int) ≤ a % 4294967296 := Int.emod_nonneg _ (by decide)
  obtain ⟨n, hn⟩ := Int.eq_ofNat_of_zero_le h0
  show (a % 4294967296).toNat * 2 ^ b % 4294967296 = (a * 2 ^ b % 4294967296).toNat
  rw [hn, Int.mul_emod, hn, Int.toNat_natCast, ← Int.toNat_natCast (n * 2 ^ b % 4294967296)]
  congr 1
  rw [Int.natCast_emod, Int.natCast_mul]
  have hc : ((2 ^ b : Nat) : Int) = (2 : Int) ^ b := by simp
  rw [hc]
  rw [Int.mul_emod n (2 ^ b), Int.mul_emod n (2 ^ b % 4294967296), Int.emod_emod_of_dvd _ (Int.dvd_refl _)]
  rfl
theorem ii_shr {a : Int} {b : Nat} (h : b ≤ 31) (h1 : -2147483648 ≤ a) (h2 : a ≤ 2147483647) : ii a >>> ii (b : Int) = ii (a / 2 ^ b) := by
  have hp : (0 : Int) < 2 ^ b := Int.pow_pos (by decide)
  have h3 : -2147483648 ≤ a / 2 ^ b := by
    apply Int.le_ediv_of_mul_le hp
    have h9 : (1 : Int) ≤ 2 ^ b := hp
    have := Int.mul_le_mul_of_nonneg_left (a := (1 : Int)) (b := 2 ^ b) (c := 2147483648) h9 (by decide)
    rw [Int.neg_mul]
    omega
  have h4 : a / 2 ^ b ≤ 2147483647 := by
    apply Int.le_of_lt_add_one
    apply Int.ediv_lt_of_lt_mul hp
    have : (1 : Int) ≤ 2 ^ b := hp
    have := Int.mul_le_mul_of_nonneg_left (a := (1 : Int)) (b := 2 ^ b) (c := 2147483648) this (by decide)
    omega
  rw [← Int32.toInt_inj, ii_toInt h3 h4]
  show (ii a >>> ii (b : Int)).toBitVec.toInt = _
  rw [Int32.toBitVec_shiftRight]
  rw [BitVec.sshiftRight', ii_sm h, BitVec.toInt_sshiftRight, Int.shiftRight_eq_div_pow]
  show (ii a).toInt / _ = _
  rw [ii_toInt h1 h2]
  simp
theorem ii_ushr {a : Int} {b : Nat} (h : b ≤ 31) : ((ii a).toUInt32 >>> ((ii (b : Int)).toUInt32 &&& Int32.toUInt32 31)).toInt32 = ii (a % 4294967296 / 2 ^ b) := by
  apply ii_ext
  show ((ii a).toUInt32 >>> ((ii (b : Int)).toUInt32 &&& Int32.toUInt32 31)).toBitVec = _
  have e : ∀ b : Fin 32, ((ii ((b : Nat) : Int)).toUInt32 &&& Int32.toUInt32 31).toBitVec.toNat % 32 = b := by decide +kernel
  have e1 := e ⟨b, by omega⟩
  have h0 : (0 : Int) ≤ a % 4294967296 := Int.emod_nonneg _ (by decide)
  obtain ⟨n, hn⟩ := Int.eq_ofNat_of_zero_le h0
  have hn2 : n < 4294967296 := by have := Int.emod_lt_of_pos a (show (0 : Int) < 4294967296 by decide); omega
  rw [UInt32.toBitVec_shiftRight]
  apply BitVec.eq_of_toNat_eq
  rw [BitVec.ushiftRight_eq', BitVec.toNat_ushiftRight, BitVec.toNat_umod]
  have e2 : ((ii (b : Int)).toUInt32 &&& Int32.toUInt32 31).toBitVec.toNat % (BitVec.ofNat 32 32).toNat = b := e1
  show (ii a).toBitVec.toNat >>> (((ii (b : Int)).toUInt32 &&& Int32.toUInt32 31).toBitVec.toNat % (BitVec.ofNat 32 32).toNat) = _
  rw [e2, ii_bv, ii_bv, BitVec.toNat_ofInt, BitVec.toNat_ofInt, Nat.shiftRight_eq_div_pow]
  show (a % 4294967296).toNat / 2 ^ b = (a % 4294967296 / 2 ^ b % 4294967296).toNat
  rw [hn]
  have hc : ((2 ^ b : Nat) : Int) = (2 : Int) ^ b := by simp
  rw [← hc, ← Int.natCast_ediv, Int.toNat_natCast]
  have : n / 2 ^ b < 4294967296 := Nat.lt_of_le_of_lt (Nat.div_le_self _ _) hn2
  clear e e1 e2
  generalize n / 2 ^ b = q at this ⊢
  omega
