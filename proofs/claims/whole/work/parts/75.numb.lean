/-! Numbers in the file: of both, the same natural number. -/
def zb (s : am_Z) (i : Nat) : Nat := Int32.toNatClampNeg (s.2.2 1 i)
/-- the file's bytes -/
def zf_B (ci : Nat) (s : am_Z) (N : Nat) : Prop := N ≤ 400 ∧ s.1 ci = Int32.ofNat N ∧ ∀ i, i < N → zb s i < 256 ∧ s.2.2 1 i = Int32.ofNat (zb s i)
theorem zv_B {s m : am_Z} {N : Nat} (h : zv_f s m N) : zf_B 3 s N ∧ zf_B 4 m N ∧ ∀ i, i < N → zb s i = zb m i := by
  obtain ⟨hN, h1, h2, h3⟩ := h
  refine ⟨⟨hN, h1, fun i hi => ?_⟩, ⟨hN, h2, fun i hi => ?_⟩, fun i hi => ?_⟩
  · obtain ⟨-, b, hb, e⟩ := h3 i hi
    unfold zb
    rw [e, nm_clamp (by omega)]
    exact ⟨hb, rfl⟩
  · obtain ⟨e1, b, hb, e⟩ := h3 i hi
    unfold zb
    rw [← e1, e, nm_clamp (by omega)]
    exact ⟨hb, rfl⟩
  · unfold zb
    rw [(h3 i hi).1]
def zn_go (g : Nat → Nat) : Nat → Nat → Nat → Nat
  | 0, _, a => a
  | d + 1, k, a => zn_go g d (k + 1) (a * 256 + g k)
def zn (b : Nat → Nat) (p n : Nat) (big : Bool) : Nat := zn_go (fun k => b (if big then p + k else p + (n - 1 - k))) n 0 0
theorem zn_go_congr {g h : Nat → Nat} : ∀ (d k a : Nat), (∀ j, k ≤ j → j < k + d → g j = h j) → zn_go g d k a = zn_go h d k a := by
  intro d
  induction d with
  | zero => intro k a _; rfl
  | succ d ih =>
    intro k a hh
    unfold zn_go
    rw [hh k (Nat.le_refl _) (by omega)]
    exact ih _ _ (fun j h1 h2 => hh j (by omega) (by omega))
theorem zn_congr {b c : Nat → Nat} {p n : Nat} {big : Bool} (h : ∀ i, p ≤ i → i < p + n → b i = c i) : zn b p n big = zn c p n big := by
  refine zn_go_congr n 0 0 (fun j h1 h2 => ?_)
  cases big with
  | true => exact h _ (by simp) (by simp; omega)
  | false => exact h _ (by simp) (by simp; omega)
theorem zn_go_lt {g : Nat → Nat} : ∀ (d k a : Nat), (∀ j, k ≤ j → j < k + d → g j < 256) → zn_go g d k a < (a + 1) * 256 ^ d := by
  intro d
  induction d with
  | zero => intro k a _; simp [zn_go]
  | succ d ih =>
    intro k a hh
    unfold zn_go
    have h1 := ih (k + 1) (a * 256 + g k) (fun j h1 h2 => hh j (by omega) (by omega))
    have h2 := hh k (Nat.le_refl _) (by omega)
    refine Nat.lt_of_lt_of_le h1 ?_
    rw [Nat.pow_succ, Nat.mul_comm (256 ^ d) 256, ← Nat.mul_assoc]
    exact Nat.mul_le_mul_right _ (by omega)
theorem zn_lt {b : Nat → Nat} {p n : Nat} {big : Bool} (h : ∀ i, p ≤ i → i < p + n → b i < 256) : zn b p n big < 256 ^ n := by
  have := zn_go_lt (g := fun k => b (if big then p + k else p + (n - 1 - k))) n 0 0 (fun j h1 h2 => by
    cases big with
    | true => exact h _ (by simp) (by simp; omega)
    | false => exact h _ (by simp) (by simp; omega))
  unfold zn
  omega
/-- a flag of the machine -/
def zfl (x : Int32) : Bool := !(decide (x = 0))
theorem zh_sub {a b : Nat} (ha : a < 1000000000) (hb : b < 1000000000) : (Int32.ofNat a - Int32.ofNat b).toInt = (a : Int) - b := by
  by_cases h : b ≤ a
  · rw [nm_sub h, nm_toInt (by omega)]
    omega
  · have e : Int32.ofNat a - Int32.ofNat b = -(Int32.ofNat (b - a)) := by
      have e1 : Int32.ofNat b = Int32.ofNat a + Int32.ofNat (b - a) := by rw [nm_add]; congr 1; omega
      rw [e1, Int32.sub_eq_add_neg, Int32.neg_add, Int32.sub_eq_add_neg, ← Int32.add_assoc, Int32.add_right_neg, Int32.zero_add]
    rw [e, Int32.toInt_neg, nm_toInt (by omega), Int.bmod_eq_of_le (by omega) (by omega)]
    omega
theorem zh_has {s : am_Z} {N : Nat} (h : zf_B 3 s N) {p n : Nat} (hp : p < 1000000000) (hn : n < 1000000000) : fz_by_has s (Int32.ofNat p) (Int32.ofNat n) = some (if p + n ≤ N then 1 else 0) := by
  unfold fz_by_has
  have hN := h.1
  rw [if_neg (nm_nneg (by omega)), h.2.1]
  have e : Int32.ofNat N - Int32.ofNat p < Int32.ofNat n ↔ ¬ p + n ≤ N := by
    rw [Int32.lt_iff_toInt_lt, zh_sub (by omega) hp, nm_toInt (by omega)]
    omega
  by_cases c : p + n ≤ N
  · rw [if_neg (fun hh => (e.mp hh) c), if_pos c]
  · rw [if_pos (e.mpr c), if_neg c]
    rfl
theorem zh_loop {s : am_Z} {N : Nat} (h : zf_B 3 s N) {p n : Nat} (hpn : p + n ≤ N) (x3 : Int32) : ∀ (d k f a : Nat), k + d = n → d < f → fz_by_numberAt_17 s f (Int32.ofNat p) (Int32.ofNat n) x3 (Int64.ofNat a) (Int32.ofNat k) = some (Int64.ofNat (zn_go (fun k => zb s (if zfl x3 then p + k else p + (n - 1 - k))) d k a)) := by
  have hN := h.1
  intro d
  induction d with
  | zero =>
    intro k f a hk hf
    obtain ⟨f, rfl⟩ : ∃ g, f = g + 1 := ⟨f - 1, by omega⟩
    unfold fz_by_numberAt_17
    rw [if_pos (by rw [nm_le (by omega) (by omega)]; omega)]
    rfl
  | succ d ih =>
    intro k f a hk hf
    obtain ⟨f, rfl⟩ : ∃ g, f = g + 1 := ⟨f - 1, by omega⟩
    unfold fz_by_numberAt_17
    rw [if_neg (by rw [nm_le (by omega) (by omega)]; omega)]
    have e1 : Int32.ofNat k + (1 : Int32) = Int32.ofNat (k + 1) := nm_add k 1
    have key : ∀ j : Nat, j < N → fz_by_numberAt_51 s (fz_by_numberAt_17 s f) (Int32.ofNat p) (Int32.ofNat n) x3 (Int32.ofNat k) (Int32.ofNat j) (Int64.ofNat a <<< (Int32.toInt64 (8 : Int32) &&& 63)) = fz_by_numberAt_17 s f (Int32.ofNat p) (Int32.ofNat n) x3 (Int64.ofNat (a * 256 + zb s j)) (Int32.ofNat (k + 1)) := by
      intro j hj
      unfold fz_by_numberAt_51
      obtain ⟨b1, b2⟩ := h.2.2 j hj
      rw [if_neg (by
        rw [nm_clamp (by omega)]
        exact fun hh => hh.elim (nm_nneg (by omega)) (by omega)), nm_clamp (by omega), b2, nm_byte b1, e1]
    by_cases c : x3 = 0
    · have ez : zfl x3 = false := by simp [zfl, c]
      rw [if_pos c]
      have e2 : ((Int32.ofNat p + Int32.ofNat n) - (1 : Int32)) - Int32.ofNat k = Int32.ofNat (p + (n - 1 - k)) := by
        rw [nm_add, show (1 : Int32) = Int32.ofNat 1 from rfl, nm_sub (by omega), nm_sub (by omega)]
        congr 1
        omega
      rw [e2, key _ (by omega), ih (k + 1) f _ (by omega) (by omega)]
      simp only [zn_go, ez]
      rfl
    · have ez : zfl x3 = true := by simp [zfl, c]
      rw [if_neg c, nm_add, key _ (by omega), ih (k + 1) f _ (by omega) (by omega)]
      simp only [zn_go, ez]
      rfl
theorem zh_number {s : am_Z} {N : Nat} (h : zf_B 3 s N) {p n : Nat} (hp : p < 1000000000) (hn : n ≤ 8) (x3 : Int32) : fz_by_numberAt s (Int32.ofNat p) (Int32.ofNat n) x3 = some (if p + n ≤ N then Int64.ofNat (zn (zb s) p n (zfl x3)) else 0) := by
  unfold fz_by_numberAt
  rw [zh_has h hp (by omega)]
  simp only [Option.bind_some]
  by_cases c : p + n ≤ N
  · rw [if_pos c, if_pos (by decide), if_pos c]
    exact zh_loop h c x3 n 0 fz_fu 0 (by omega) (by show n < 1000; omega)
  · rw [if_neg c, if_neg (by decide), if_neg c]
theorem zh_id {s : am_Z} {N : Nat} (h : zf_B 3 s N) {p : Nat} (hp : p < 1000000000) : fz_by_idAt s (Int32.ofNat p) = some (if p + 4 ≤ N then Int32.ofNat (zn (zb s) p 4 true) else 0) := by
  unfold fz_by_idAt
  rw [show (4 : Int32) = Int32.ofNat 4 from rfl, zh_number h hp (by omega)]
  simp only [Option.bind_some]
  have e : zfl (1 : Int32) = true := by decide
  by_cases c : p + 4 ≤ N
  · rw [if_pos c, if_pos c, e, nm_l2i]
  · rw [if_neg c, if_neg c]
    rfl
/-- the reference's -/
theorem zp_loop {s : am_Z} {N : Nat} (h : zf_B 4 s N) {p n : Nat} (hpn : p + n ≤ N) (x3 : Int32) : ∀ (d k f a : Nat), k + d = n → d < f → fz_mo_peek_20 s f (Int32.ofNat p) (Int32.ofNat n) x3 (Int64.ofNat a) (Int32.ofNat k) = some (Int64.ofNat (zn_go (fun k => zb s (if zfl x3 then p + k else p + (n - 1 - k))) d k a)) := by
  have hN := h.1
  intro d
  induction d with
  | zero =>
    intro k f a hk hf
    obtain ⟨f, rfl⟩ : ∃ g, f = g + 1 := ⟨f - 1, by omega⟩
    unfold fz_mo_peek_20
    rw [if_pos (by rw [nm_le (by omega) (by omega)]; omega)]
    rfl
  | succ d ih =>
    intro k f a hk hf
    obtain ⟨f, rfl⟩ : ∃ g, f = g + 1 := ⟨f - 1, by omega⟩
    unfold fz_mo_peek_20
    rw [if_neg (by rw [nm_le (by omega) (by omega)]; omega)]
    have e1 : Int32.ofNat k + (1 : Int32) = Int32.ofNat (k + 1) := nm_add k 1
    have key : ∀ j : Nat, p + j < N → fz_mo_peek_46 s (fz_mo_peek_20 s f) (Int32.ofNat p) (Int32.ofNat n) x3 (Int64.ofNat a) (Int32.ofNat k) (Int32.ofNat j) (Int32.ofNat p) = fz_mo_peek_20 s f (Int32.ofNat p) (Int32.ofNat n) x3 (Int64.ofNat (a * 256 + zb s (p + j))) (Int32.ofNat (k + 1)) := by
      intro j hj
      unfold fz_mo_peek_46
      obtain ⟨b1, b2⟩ := h.2.2 (p + j) hj
      rw [nm_add, if_neg (by
        rw [nm_clamp (by omega)]
        exact fun hh => hh.elim (nm_nneg (by omega)) (by omega)), nm_clamp (by omega), b2, nm_byte b1, e1]
    by_cases c : x3 = 0
    · have ez : zfl x3 = false := by simp [zfl, c]
      rw [if_pos c]
      have e2 : (Int32.ofNat n - (1 : Int32)) - Int32.ofNat k = Int32.ofNat (n - 1 - k) := by
        rw [show (1 : Int32) = Int32.ofNat 1 from rfl, nm_sub (by omega), nm_sub (by omega)]
      rw [e2, key _ (by omega), ih (k + 1) f _ (by omega) (by omega)]
      simp only [zn_go, ez]
      rfl
    · have ez : zfl x3 = true := by simp [zfl, c]
      rw [if_neg c, key _ (by omega), ih (k + 1) f _ (by omega) (by omega)]
      simp only [zn_go, ez]
      rfl
theorem zp_peek {s : am_Z} {N : Nat} (h : zf_B 4 s N) {p n : Nat} (hp : p < 1000000000) (hn : n ≤ 8) (x3 : Int32) : fz_mo_peek s (Int32.ofNat p) (Int32.ofNat n) x3 = some (if p + n ≤ N then Int64.ofNat (zn (zb s) p n (zfl x3)) else -1) := by
  unfold fz_mo_peek
  have hN := h.1
  rw [nm_add, h.2.1]
  by_cases c : p + n ≤ N
  · rw [if_pos (by rw [nm_le (by omega) (by omega)]; exact c), if_pos c]
    exact zp_loop h c x3 n 0 fz_fu 0 (by omega) (by show n < 1000; omega)
  · rw [if_neg (by rw [nm_le (by omega) (by omega)]; exact c), if_neg c]
