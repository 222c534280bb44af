/-! Reading: the rate of eighty bits. -/
theorem nm_jshl {r k : Nat} (hk : k < 64) : Int64.ofNat r <<< (Int64.ofNat k &&& 63) = Int64.ofNat (r * 2 ^ k) := by
  have h : ((Int64.ofNat k &&& 63).toBitVec.smod 64).toNat = k := nm_jsh63 ⟨k, hk⟩
  apply Int64.toBitVec_inj.mp
  show (Int64.ofNat r).toBitVec <<< ((Int64.ofNat k &&& 63).toBitVec.smod 64) = _
  rw [BitVec.shiftLeft_eq', h, Int64.toBitVec_ofNat', Int64.toBitVec_ofNat']
  apply BitVec.eq_of_toNat_eq
  rw [BitVec.toNat_shiftLeft, BitVec.toNat_ofNat, BitVec.toNat_ofNat, Nat.shiftLeft_eq, Nat.mul_mod, Nat.mod_mod, ← Nat.mul_mod]
theorem nm_jinj64 {a b : Nat} (ha : a < 18446744073709551616) (hb : b < 18446744073709551616) : Int64.ofNat a = Int64.ofNat b ↔ a = b := by
  constructor
  · intro h
    have h2 : (Int64.ofNat a).toBitVec.toNat = (Int64.ofNat b).toBitVec.toNat := by rw [h]
    rw [Int64.toBitVec_ofNat', Int64.toBitVec_ofNat', BitVec.toNat_ofNat, BitVec.toNat_ofNat, Nat.mod_eq_of_lt (by omega), Nat.mod_eq_of_lt (by omega)] at h2
    exact h2
  · intro h
    rw [h]
theorem nm_ush63 : ∀ k : Fin 64, (Int64.toUInt64 (Int64.ofNat k.1) &&& Int64.toUInt64 63).toNat % 64 = k.1 := by decide
theorem nm_ushr {n k : Nat} (hn : n < 18446744073709551616) (hk : k < 64) : UInt64.toInt64 (Int64.toUInt64 (Int64.ofNat n) >>> (Int64.toUInt64 (Int64.ofNat k) &&& Int64.toUInt64 63)) = Int64.ofNat (n / 2 ^ k) := by
  have h : (Int64.toUInt64 (Int64.ofNat k) &&& Int64.toUInt64 63).toNat % 64 = k := nm_ush63 ⟨k, hk⟩
  have hA : (Int64.toUInt64 (Int64.ofNat n)).toNat = n := by
    show (Int64.ofNat n).toBitVec.toNat = n
    rw [Int64.toBitVec_ofNat', BitVec.toNat_ofNat, Nat.mod_eq_of_lt (by omega)]
  have hq : n / 2 ^ k ≤ n := Nat.div_le_self _ _
  apply Int64.toBitVec_inj.mp
  apply BitVec.eq_of_toNat_eq
  show (Int64.toUInt64 (Int64.ofNat n) >>> (Int64.toUInt64 (Int64.ofNat k) &&& Int64.toUInt64 63)).toNat = _
  rw [UInt64.toNat_shiftRight, hA, h, Int64.toBitVec_ofNat', BitVec.toNat_ofNat, Nat.shiftRight_eq_div_pow, Nat.mod_eq_of_lt (by omega)]
theorem zn_8 (b : Nat → Nat) (p : Nat) : zn b p 8 true = zn b p 4 true * 4294967296 + zn b (p + 4) 4 true := by
  have h8 : zn b p 8 true = (((((((0 * 256 + b p) * 256 + b (p + 1)) * 256 + b (p + 2)) * 256 + b (p + 3)) * 256 + b (p + 4)) * 256 + b (p + 5)) * 256 + b (p + 6)) * 256 + b (p + 7) := rfl
  have h4 : zn b p 4 true = (((0 * 256 + b p) * 256 + b (p + 1)) * 256 + b (p + 2)) * 256 + b (p + 3) := rfl
  have h4' : zn b (p + 4) 4 true = (((0 * 256 + b (p + 4)) * 256 + b (p + 5)) * 256 + b (p + 6)) * 256 + b (p + 7) := rfl
  rw [h8, h4, h4']
  omega
theorem zr_rt {hi lo e : Nat} (hlo : lo < 4294967296) (he : e ≤ 17) : (hi * 4294967296 + lo) / 2 ^ (63 - e) = hi / 2 ^ (31 - e) ∧ (hi / 2 ^ (31 - e) * 2 ^ (63 - e) = hi * 4294967296 + lo ↔ lo = 0 ∧ hi / 2 ^ (31 - e) * 2 ^ (31 - e) = hi) := by
  have e1 : 2 ^ (63 - e) = 4294967296 * 2 ^ (31 - e) := by
    rw [show 63 - e = 32 + (31 - e) by omega, Nat.pow_add]
  refine ⟨?_, ?_⟩
  · rw [e1, ← Nat.div_div_eq_div_mul, show (hi * 4294967296 + lo) / 4294967296 = hi by omega]
  · rw [e1]
    generalize hi / 2 ^ (31 - e) = r
    rw [show r * (4294967296 * 2 ^ (31 - e)) = r * 2 ^ (31 - e) * 4294967296 by rw [Nat.mul_comm 4294967296, Nat.mul_assoc]]
    generalize r * 2 ^ (31 - e) = A
    constructor
    · intro h
      omega
    · rintro ⟨h1, h2⟩
      omega
