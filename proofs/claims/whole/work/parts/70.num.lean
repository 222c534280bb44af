/-! Numbers: small ones of the machine as natural numbers. -/
theorem nm_add (a b : Nat) : Int32.ofNat a + Int32.ofNat b = Int32.ofNat (a + b) := (Int32.ofNat_add a b).symm
theorem nm_toInt {a : Nat} (h : a < 2147483648) : (Int32.ofNat a).toInt = a := Int32.toInt_ofNat_of_lt (by omega)
theorem nm_clamp {a : Nat} (h : a < 2147483648) : (Int32.ofNat a).toNatClampNeg = a := by
  have h1 := nm_toInt h
  unfold Int32.toNatClampNeg
  rw [h1]
  rfl
theorem nm_le {a b : Nat} (ha : a < 2147483648) (hb : b < 2147483648) : Int32.ofNat a ≤ Int32.ofNat b ↔ a ≤ b := by
  rw [Int32.le_iff_toInt_le, nm_toInt ha, nm_toInt hb]
  omega
theorem nm_lt {a b : Nat} (ha : a < 2147483648) (hb : b < 2147483648) : Int32.ofNat a < Int32.ofNat b ↔ a < b := by
  rw [Int32.lt_iff_toInt_lt, nm_toInt ha, nm_toInt hb]
  omega
theorem nm_inj {a b : Nat} (ha : a < 2147483648) (hb : b < 2147483648) : Int32.ofNat a = Int32.ofNat b ↔ a = b := by
  rw [← Int32.toInt_inj, nm_toInt ha, nm_toInt hb]
  omega
theorem nm_sub {a b : Nat} (h : b ≤ a) : Int32.ofNat a - Int32.ofNat b = Int32.ofNat (a - b) := by
  have e : Int32.ofNat a = Int32.ofNat (a - b) + Int32.ofNat b := by rw [nm_add, Nat.sub_add_cancel h]
  rw [e]
  rw [Int32.sub_eq_add_neg, Int32.add_assoc, Int32.add_right_neg, Int32.add_zero]
theorem nm_mul (a b : Nat) : Int32.ofNat a * Int32.ofNat b = Int32.ofNat (a * b) := (Int32.ofNat_mul a b).symm
theorem nm_nneg {a : Nat} (ha : a < 2147483648) : ¬ Int32.ofNat a < 0 := by
  rw [Int32.lt_iff_toInt_lt, nm_toInt ha]
  show ¬ ((a : Int) < 0)
  omega
theorem nm_jtoInt {a : Nat} (h : a < 9223372036854775808) : (Int64.ofNat a).toInt = a := Int64.toInt_ofNat_of_lt (by omega)
theorem nm_i2l {a : Nat} (h : a < 2147483648) : (Int32.ofNat a).toInt64 = Int64.ofNat a := by
  apply Int64.toInt_inj.mp
  rw [Int32.toInt_toInt64, nm_toInt h, nm_jtoInt (by omega)]
theorem nm_l2i (a : Nat) : (Int64.ofNat a).toInt32 = Int32.ofNat a := by
  simp
theorem nm_jle {a b : Nat} (ha : a < 9223372036854775808) (hb : b < 9223372036854775808) : Int64.ofNat a ≤ Int64.ofNat b ↔ a ≤ b := by
  rw [Int64.le_iff_toInt_le, nm_jtoInt ha, nm_jtoInt hb]
  omega
theorem nm_jlt {a b : Nat} (ha : a < 9223372036854775808) (hb : b < 9223372036854775808) : Int64.ofNat a < Int64.ofNat b ↔ a < b := by
  rw [Int64.lt_iff_toInt_lt, nm_jtoInt ha, nm_jtoInt hb]
  omega
theorem nm_jinj {a b : Nat} (ha : a < 9223372036854775808) (hb : b < 9223372036854775808) : Int64.ofNat a = Int64.ofNat b ↔ a = b := by
  rw [← Int64.toInt_inj, nm_jtoInt ha, nm_jtoInt hb]
  omega
theorem nm_cmp0 (x y : Int64) : lg_cmp x y = 0 ↔ x = y := by
  unfold lg_cmp
  split
  · rename_i h
    constructor
    · intro h1; exact absurd h1 (by decide)
    · intro h1; subst h1; exact absurd h (by rw [gt_iff_lt, Int64.lt_iff_toInt_lt]; omega)
  · split
    · rename_i h; exact ⟨fun _ => h, fun _ => rfl⟩
    · rename_i h; exact ⟨fun h1 => absurd h1 (by decide), fun h1 => absurd h1 h⟩
/-- a byte behind a number -/
theorem nm_byte {a c : Nat} (hc : c < 256) : (Int64.ofNat a <<< ((Int32.toInt64 8) &&& 63)) ||| (Int32.toInt64 (Int32.ofNat c)) = Int64.ofNat (a * 256 + c) := by
  have e8 : (Int32.toInt64 8) &&& 63 = (8 : Int64) := by decide
  rw [e8, nm_i2l (by omega)]
  apply Int64.toBitVec_inj.mp
  apply BitVec.eq_of_toNat_eq
  have h1 : (Int64.ofNat a <<< (8 : Int64)).toBitVec = (Int64.ofNat a).toBitVec <<< (8 : Nat) := by
    simp
  rw [Int64.toBitVec_or, h1]
  simp only [BitVec.toNat_or, BitVec.toNat_shiftLeft, Int64.toBitVec_ofNat', BitVec.toNat_ofNat]
  have h2 : c % 2 ^ 64 = c := Nat.mod_eq_of_lt (by omega)
  rw [h2]
  have h3 : (a % 2 ^ 64) <<< 8 % 2 ^ 64 = ((a * 256) % 2 ^ 64) := by
    rw [Nat.shiftLeft_eq]
    omega
  rw [h3]
  have h4 : (a * 256) % 2 ^ 64 = ((a % 2 ^ 56)) <<< 8 := by
    rw [Nat.shiftLeft_eq]
    omega
  rw [h4, ← Nat.shiftLeft_add_eq_or_of_lt (show c < 2 ^ 8 by omega), Nat.shiftLeft_eq]
  omega
