/-! Writing: the blocks of both (printed by wip/gen/genW8.py). -/
theorem zn_l2 {S : am_Z} {n : Nat} (h : zf_n 3 S n) (hn : n + 2 ≤ 400) (v : Int64) : fz_by_putLittle S v 2 = some (zf_a 3 S (zf_le v 2)) := zf_putLittle h v (N := 2) (by decide) hn
theorem zn_p {S : am_Z} {n : Nat} (h : zf_n 3 S n) (hn : n < 400) (x : Int32) : fz_by_put S x = some (zf_a 3 S [x &&& (255 : Int32)]) := zf_put h hn x
theorem zn_m2 {M : am_Z} {n : Nat} (h : zf_n 4 M n) (hn : n + 2 ≤ 400) (v : Int64) : fz_mo_little M v 2 = some (zf_a 4 M (zf_le v 2)) := by
  have e : fz_mo_put M v 2 0 = some (zf_a 4 M (zf_le v 2)) := zm_little h v (N := 2) (by decide) hn
  unfold fz_mo_little
  rw [e]
  simp only [zbs]
theorem zn_m1 {M : am_Z} {n : Nat} (h : zf_n 4 M n) (hn : n + 1 ≤ 400) (v : Int32) : fz_mo_little M (Int32.toInt64 v) 1 = some (zf_a 4 M [v &&& (255 : Int32)]) := by
  have e : fz_mo_put M (Int32.toInt64 v) 1 0 = some (zf_a 4 M (zf_le (Int32.toInt64 v) 1)) := zm_little h _ (N := 1) (by decide) hn
  unfold fz_mo_little
  rw [e, zf_le_1]
  simp only [zbs]
theorem zn_m0 {M : am_Z} {n : Nat} (h : zf_n 4 M n) (hn : n + 1 ≤ 400) : fz_mo_little M 0 1 = some (zf_a 4 M [(0 : Int32) &&& (255 : Int32)]) := by
  have e : (0 : Int64) = Int32.toInt64 0 := by decide
  rw [e]
  exact zn_m1 h hn 0
theorem zn_pad {S : am_Z} {n : Nat} (h : zf_n 3 S n) (hn : n < 400) (size : Int32) : fz_wr_putByteBehind S size = some (zf_a 3 S (zw_p size)) := by
  unfold fz_wr_putByteBehind zw_p zw_z
  by_cases c : size - size / (2 : Int32) * (2 : Int32) = 0
  · rw [if_pos c, if_pos c, zf_a_nil]
  · rw [if_neg c, if_neg c, zn_p h hn 0]
    simp only [zbs]
    rfl
theorem zn_padm {M : am_Z} {n : Nat} (h : zf_n 4 M n) (hn : n < 400) {z : Nat} (hz : z < 2147483648) : fz_mo_writeWave_194 (Int32.ofNat z) M = some (zf_a 4 M (zw_p (Int32.ofNat z))) := by
  have e : fz_mo_put M 0 (Int32.ofNat (z % 2)) 0 = some (zf_a 4 M (zf_le 0 (z % 2))) := zm_little h 0 (N := z % 2) (by omega) (by omega)
  unfold fz_mo_writeWave_194 fz_mo_little
  rw [nm_m2 hz, e, zw_p_le hz]
  simp only [zbs]
/-- the class's fields of the format -/
def zn_f (S : am_Z) (hd q b : Nat) : Prop := S.1 5 = Int32.ofNat hd ∧ S.1 6 = Int32.ofNat (hd + q) ∧ S.1 7 = Int32.ofNat b
theorem zn_f_a {S : am_Z} {hd q b : Nat} (h : zn_f S hd q b) (l : List Int32) : zn_f (zf_a 3 S l) hd q b := ⟨(zf_a_i 3 (by decide) S).trans h.1, (zf_a_i 3 (by decide) S).trans h.2.1, (zf_a_i 3 (by decide) S).trans h.2.2⟩
theorem zn_f_k {S S' : am_Z} {hd q b : Nat} (h : zn_f S hd q b) (k : zkc S S') : zn_f S' hd q b := ⟨(k.1 5 (by omega)).trans h.1, (k.1 6 (by omega)).trans h.2.1, (k.1 7 (by omega)).trans h.2.2⟩
theorem zn_bn {S : am_Z} {hd q b : Nat} (h : zn_f S hd q b) : fz_fm_bytesOfNibbles_6 S = some (Int32.ofNat q) := by
  unfold fz_fm_bytesOfNibbles_6
  rw [h.1, h.2.1, nm_sub (by omega), Nat.add_sub_cancel_left]
theorem zn_min {q : Nat} (hq : q ≤ 8) : fz_ma_min (16 : Int32) ((2 : Int32) * Int32.ofNat q) = some (Int32.ofNat (2 * q)) := by
  have e : (2 : Int32) * Int32.ofNat q = Int32.ofNat (2 * q) := nm_mul 2 q
  rw [e]
  unfold fz_ma_min
  by_cases c : 2 * q < 16
  · have h : Int32.ofNat (2 * q) < (16 : Int32) := (nm_lt (b := 16) (by omega) (by omega)).mpr c
    rw [if_pos h]
  · have h : ¬ Int32.ofNat (2 * q) < (16 : Int32) := fun h => c ((nm_lt (b := 16) (by omega) (by omega)).mp h)
    have e8 : q = 8 := by omega
    rw [if_neg h, e8]
    rfl
theorem zn_size {S : am_Z} {hd q b n z : Nat} (h : zn_f S hd q b) (hb : b ≠ 0) (hb2 : b ≤ 100) (h1 : S.1 1 = Int32.ofNat n) (hz : (Int32.ofNat n + Int32.ofNat b - (1 : Int32)) / Int32.ofNat b * Int32.ofNat (hd + q) = Int32.ofNat z) : fz_fm_sizeOfData_6 S (S.1 1) = some (Int32.ofNat z) := by
  have h0 : ¬ Int32.ofNat b = 0 := by
    rw [show (0 : Int32) = Int32.ofNat 0 from rfl, nm_inj (by omega) (by omega)]
    exact hb
  unfold fz_fm_sizeOfData_6
  rw [h1, h.2.2, h.2.1, if_neg h0, hz]
/-- how many blocks from sample a on -/
def zn_bl (n a b : Nat) : Nat := (n - a + b - 1) / b
theorem zn_bl0 {n a b : Nat} (h : n ≤ a) (hb : 1 ≤ b) : zn_bl n a b = 0 := by
  unfold zn_bl
  exact Nat.div_eq_of_lt (by omega)
theorem zn_bl1 {n a b : Nat} (h : a < n) (hb : 1 ≤ b) : zn_bl n a b = zn_bl n (a + b) b + 1 := by
  have e : zn_bl n a b = (n - a - 1) / b + 1 := by
    unfold zn_bl
    rw [show n - a + b - 1 = n - a - 1 + b by omega, Nat.add_div_right _ (by omega)]
  rw [e]
  by_cases c : n ≤ a + b
  · rw [zn_bl0 c hb, Nat.div_eq_of_lt (by omega)]
  · unfold zn_bl
    rw [show n - (a + b) + b - 1 = n - a - 1 by omega]
theorem zn_c1 : ∀ b c : Fin 16, ((Int32.ofNat b.1 <<< ((0 : Int32) &&& 31)) ||| (Int32.ofNat c.1 <<< ((4 : Int32) &&& 31))) = Int32.ofNat b.1 + (16 : Int32) * Int32.ofNat c.1 := by decide +kernel
theorem zn_c2 : ∀ b c : Fin 16, ((Int32.ofNat b.1 <<< ((4 : Int32) &&& 31)) ||| (Int32.ofNat c.1 <<< ((0 : Int32) &&& 31))) = (16 : Int32) * Int32.ofNat b.1 + Int32.ofNat c.1 := by decide +kernel
theorem zs_rw_a {S M : am_Z} {j : Nat} (h : zs_rw S M j) (l k : List Int32) : zs_rw (zf_a 3 S l) (zf_a 4 M k) j := by
  intro i hi
  rw [zf_a_r 3 (by decide), zf_a_r 4 (by decide)]
  exact h i hi
theorem zx_n3 {s m S M : am_Z} {n : Nat} {V : List Int32} (h : zx s m S M n V) : zf_n 3 S n := ⟨h.2.1, h.1⟩
theorem zx_n4 {s m S M : am_Z} {n : Nat} {V : List Int32} (h : zx s m S M n V) : zf_n 4 M n := ⟨h.2.2.1, h.1⟩
/-- nibbles into bytes -/
theorem zn_put1 {q : Nat} (hq : q ≤ 8) : ∀ (d j f g nn : Nat) (S M : am_Z), j + d = q → d < f → d < g → zf_n 3 S nn → zf_n 4 M nn → nn + d ≤ 400 → zs_rw S M (2 * q) → ∃ l : List Int32, l.length = d ∧ zf_by l ∧ fz_wr_putNibbles_21 f 0 4 (Int32.ofNat (2 * q)) (Int32.ofNat (2 * j)) S = some (zf_a 3 S l) ∧ fz_mo_putNibbles_2 g (Int32.ofNat q) 1 (Int32.ofNat j) M = some (zf_a 4 M l) := by
  intro d
  induction d with
  | zero =>
    intro j f g nn S M hj hf hg hS hM hn hr
    obtain ⟨f, rfl⟩ : ∃ g, f = g + 1 := ⟨f - 1, by omega⟩
    obtain ⟨g, rfl⟩ : ∃ f, g = f + 1 := ⟨g - 1, by omega⟩
    have e : q = j := by omega
    subst e
    have e1 : Int32.ofNat (2 * q) + (1 : Int32) = Int32.ofNat (2 * q + 1) := nm_add _ 1
    have h1 : Int32.ofNat (2 * q) ≤ Int32.ofNat (2 * q + 1) := (nm_le (by omega) (by omega)).mpr (by omega)
    have h2 : Int32.ofNat q ≤ Int32.ofNat q := (nm_le (by omega) (by omega)).mpr (by omega)
    refine ⟨[], rfl, zf_by_nil, ?_, ?_⟩
    · unfold fz_wr_putNibbles_21
      rw [e1, if_pos h1, zf_a_nil]
    · unfold fz_mo_putNibbles_2
      rw [if_pos h2, zf_a_nil]
  | succ d ih =>
    intro j f g nn S M hj hf hg hS hM hn hr
    obtain ⟨f, rfl⟩ : ∃ g, f = g + 1 := ⟨f - 1, by omega⟩
    obtain ⟨g, rfl⟩ : ∃ f, g = f + 1 := ⟨g - 1, by omega⟩
    obtain ⟨b, hb, eb, eb'⟩ := hr (2 * j) (by omega)
    obtain ⟨c, hc, ec, ec'⟩ := hr (2 * j + 1) (by omega)
    have e1 : Int32.ofNat (2 * j) + (1 : Int32) = Int32.ofNat (2 * j + 1) := nm_add _ 1
    have e2 : Int32.ofNat (2 * j) + (2 : Int32) = Int32.ofNat (2 * (j + 1)) := nm_add _ 2
    have e3 : (2 : Int32) * Int32.ofNat j = Int32.ofNat (2 * j) := nm_mul 2 j
    have e4 : Int32.ofNat j + (1 : Int32) = Int32.ofNat (j + 1) := nm_add _ 1
    have h1 : ¬ Int32.ofNat (2 * q) ≤ Int32.ofNat (2 * j + 1) := by
      rw [nm_le (by omega) (by omega)]
      omega
    have h2 : ¬ Int32.ofNat q ≤ Int32.ofNat j := by
      rw [nm_le (by omega) (by omega)]
      omega
    have r1 : ¬ (Int32.ofNat (2 * j) < 0 ∨ 16 ≤ 2 * j) := fun h => h.elim (nm_nneg (by omega)) (by omega)
    have r2 : ¬ (Int32.ofNat (2 * j + 1) < 0 ∨ 16 ≤ 2 * j + 1) := fun h => h.elim (nm_nneg (by omega)) (by omega)
    have hv : ((Int32.ofNat b <<< ((0 : Int32) &&& 31)) ||| (Int32.ofNat c <<< ((4 : Int32) &&& 31))) = Int32.ofNat b + (16 : Int32) * Int32.ofNat c := zn_c1 ⟨b, hb⟩ ⟨c, hc⟩
    obtain ⟨l, hl, hby, k1, k2⟩ := ih (j + 1) f g (nn + 1) (zf_a 3 S [(Int32.ofNat b + (16 : Int32) * Int32.ofNat c) &&& (255 : Int32)]) (zf_a 4 M [(Int32.ofNat b + (16 : Int32) * Int32.ofNat c) &&& (255 : Int32)]) (by omega) (by omega) (by omega) (zf_a_n (l := [(Int32.ofNat b + (16 : Int32) * Int32.ofNat c) &&& (255 : Int32)]) hS (by show nn + 1 ≤ 400; omega)) (zf_a_n (l := [(Int32.ofNat b + (16 : Int32) * Int32.ofNat c) &&& (255 : Int32)]) hM (by show nn + 1 ≤ 400; omega)) (by omega) (zs_rw_a hr _ _)
    refine ⟨[(Int32.ofNat b + (16 : Int32) * Int32.ofNat c) &&& (255 : Int32)] ++ l, by simp; omega, zf_by_app (zf_by_1 _) hby, ?_, ?_⟩
    · unfold fz_wr_putNibbles_21
      rw [e1, if_neg h1, nm_clamp (a := 2 * j) (by omega), nm_clamp (a := 2 * j + 1) (by omega), if_neg r1, if_neg r2, eb, ec, hv, zn_p hS (by omega)]
      simp only [zbs]
      rw [e2, zf_a_app]
      exact k1
    · unfold fz_mo_putNibbles_2
      rw [if_neg h2, e3, e1, nm_clamp (a := 2 * j) (by omega), nm_clamp (a := 2 * j + 1) (by omega), if_neg r1, if_neg r2, if_neg (show ¬ (1 : Int32) = 0 by decide), eb', ec']
      unfold fz_mo_putNibbles_55
      rw [zn_m1 hM (by omega)]
      simp only [zbs]
      rw [e4, zf_a_app]
      exact k2
theorem zn_pn1 {q hd b nn : Nat} (hq : q ≤ 8) {S M : am_Z} (hS : zf_n 3 S nn) (hM : zf_n 4 M nn) (hn : nn + q ≤ 400) (hf : zn_f S hd q b) (hr : zs_rw S M (2 * q)) : ∃ l : List Int32, l.length = q ∧ zf_by l ∧ fz_wr_putNibbles S 0 4 = some (zf_a 3 S l) ∧ fz_mo_putNibbles M (Int32.ofNat q) 1 = some (zf_a 4 M l) := by
  obtain ⟨l, hl, hby, k1, k2⟩ := zn_put1 hq q 0 fz_fu fz_fu nn S M (by omega) (by show q < 1000; omega) (by show q < 1000; omega) hS hM hn hr
  refine ⟨l, hl, hby, ?_, ?_⟩
  · unfold fz_wr_putNibbles
    rw [zn_bn hf]
    simp only [zbs]
    rw [zn_min hq]
    simp only [zbs]
    exact k1
  · unfold fz_mo_putNibbles
    exact k2
theorem zs_ch {S S' : am_Z} {q hd b a t : Nat} (hq : q ≤ 8) (hf : zn_f S hd q b) (h : fz_wr_chooseNibbles_5_7_24 fz_fu (Int32.ofNat a) (Int32.ofNat 0) (Int32.ofNat (2 * q)) (Int32.ofNat 0) S = some (Int32.ofNat t, S')) : fz_wr_chooseNibbles_5_7 S (Int32.ofNat a) = some (Int32.ofNat t, S') := by
  unfold fz_wr_chooseNibbles_5_7
  rw [zn_bn hf]
  simp only [zbs]
  rw [zn_min hq]
  simp only [zbs]
  exact h
/-- nibbles into bytes -/
theorem zn_put2 {q : Nat} (hq : q ≤ 8) : ∀ (d j f g nn : Nat) (S M : am_Z), j + d = q → d < f → d < g → zf_n 3 S nn → zf_n 4 M nn → nn + d ≤ 400 → zs_rw S M (2 * q) → ∃ l : List Int32, l.length = d ∧ zf_by l ∧ fz_wr_putNibbles_21 f 4 0 (Int32.ofNat (2 * q)) (Int32.ofNat (2 * j)) S = some (zf_a 3 S l) ∧ fz_mo_putNibbles_2 g (Int32.ofNat q) 0 (Int32.ofNat j) M = some (zf_a 4 M l) := by
  intro d
  induction d with
  | zero =>
    intro j f g nn S M hj hf hg hS hM hn hr
    obtain ⟨f, rfl⟩ : ∃ g, f = g + 1 := ⟨f - 1, by omega⟩
    obtain ⟨g, rfl⟩ : ∃ f, g = f + 1 := ⟨g - 1, by omega⟩
    have e : q = j := by omega
    subst e
    have e1 : Int32.ofNat (2 * q) + (1 : Int32) = Int32.ofNat (2 * q + 1) := nm_add _ 1
    have h1 : Int32.ofNat (2 * q) ≤ Int32.ofNat (2 * q + 1) := (nm_le (by omega) (by omega)).mpr (by omega)
    have h2 : Int32.ofNat q ≤ Int32.ofNat q := (nm_le (by omega) (by omega)).mpr (by omega)
    refine ⟨[], rfl, zf_by_nil, ?_, ?_⟩
    · unfold fz_wr_putNibbles_21
      rw [e1, if_pos h1, zf_a_nil]
    · unfold fz_mo_putNibbles_2
      rw [if_pos h2, zf_a_nil]
  | succ d ih =>
    intro j f g nn S M hj hf hg hS hM hn hr
    obtain ⟨f, rfl⟩ : ∃ g, f = g + 1 := ⟨f - 1, by omega⟩
    obtain ⟨g, rfl⟩ : ∃ f, g = f + 1 := ⟨g - 1, by omega⟩
    obtain ⟨b, hb, eb, eb'⟩ := hr (2 * j) (by omega)
    obtain ⟨c, hc, ec, ec'⟩ := hr (2 * j + 1) (by omega)
    have e1 : Int32.ofNat (2 * j) + (1 : Int32) = Int32.ofNat (2 * j + 1) := nm_add _ 1
    have e2 : Int32.ofNat (2 * j) + (2 : Int32) = Int32.ofNat (2 * (j + 1)) := nm_add _ 2
    have e3 : (2 : Int32) * Int32.ofNat j = Int32.ofNat (2 * j) := nm_mul 2 j
    have e4 : Int32.ofNat j + (1 : Int32) = Int32.ofNat (j + 1) := nm_add _ 1
    have h1 : ¬ Int32.ofNat (2 * q) ≤ Int32.ofNat (2 * j + 1) := by
      rw [nm_le (by omega) (by omega)]
      omega
    have h2 : ¬ Int32.ofNat q ≤ Int32.ofNat j := by
      rw [nm_le (by omega) (by omega)]
      omega
    have r1 : ¬ (Int32.ofNat (2 * j) < 0 ∨ 16 ≤ 2 * j) := fun h => h.elim (nm_nneg (by omega)) (by omega)
    have r2 : ¬ (Int32.ofNat (2 * j + 1) < 0 ∨ 16 ≤ 2 * j + 1) := fun h => h.elim (nm_nneg (by omega)) (by omega)
    have hv : ((Int32.ofNat b <<< ((4 : Int32) &&& 31)) ||| (Int32.ofNat c <<< ((0 : Int32) &&& 31))) = (16 : Int32) * Int32.ofNat b + Int32.ofNat c := zn_c2 ⟨b, hb⟩ ⟨c, hc⟩
    obtain ⟨l, hl, hby, k1, k2⟩ := ih (j + 1) f g (nn + 1) (zf_a 3 S [((16 : Int32) * Int32.ofNat b + Int32.ofNat c) &&& (255 : Int32)]) (zf_a 4 M [((16 : Int32) * Int32.ofNat b + Int32.ofNat c) &&& (255 : Int32)]) (by omega) (by omega) (by omega) (zf_a_n (l := [((16 : Int32) * Int32.ofNat b + Int32.ofNat c) &&& (255 : Int32)]) hS (by show nn + 1 ≤ 400; omega)) (zf_a_n (l := [((16 : Int32) * Int32.ofNat b + Int32.ofNat c) &&& (255 : Int32)]) hM (by show nn + 1 ≤ 400; omega)) (by omega) (zs_rw_a hr _ _)
    refine ⟨[((16 : Int32) * Int32.ofNat b + Int32.ofNat c) &&& (255 : Int32)] ++ l, by simp; omega, zf_by_app (zf_by_1 _) hby, ?_, ?_⟩
    · unfold fz_wr_putNibbles_21
      rw [e1, if_neg h1, nm_clamp (a := 2 * j) (by omega), nm_clamp (a := 2 * j + 1) (by omega), if_neg r1, if_neg r2, eb, ec, hv, zn_p hS (by omega)]
      simp only [zbs]
      rw [e2, zf_a_app]
      exact k1
    · unfold fz_mo_putNibbles_2
      rw [if_neg h2, e3, e1, nm_clamp (a := 2 * j) (by omega), nm_clamp (a := 2 * j + 1) (by omega), if_neg r1, if_neg r2, if_pos (show (0 : Int32) = 0 from rfl), eb', ec']
      unfold fz_mo_putNibbles_55
      rw [zn_m1 hM (by omega)]
      simp only [zbs]
      rw [e4, zf_a_app]
      exact k2
theorem zn_pn2 {q hd b nn : Nat} (hq : q ≤ 8) {S M : am_Z} (hS : zf_n 3 S nn) (hM : zf_n 4 M nn) (hn : nn + q ≤ 400) (hf : zn_f S hd q b) (hr : zs_rw S M (2 * q)) : ∃ l : List Int32, l.length = q ∧ zf_by l ∧ fz_wr_putNibbles S 4 0 = some (zf_a 3 S l) ∧ fz_mo_putNibbles M (Int32.ofNat q) 0 = some (zf_a 4 M l) := by
  obtain ⟨l, hl, hby, k1, k2⟩ := zn_put2 hq q 0 fz_fu fz_fu nn S M (by omega) (by show q < 1000; omega) (by show q < 1000; omega) hS hM hn hr
  refine ⟨l, hl, hby, ?_, ?_⟩
  · unfold fz_wr_putNibbles
    rw [zn_bn hf]
    simp only [zbs]
    rw [zn_min hq]
    simp only [zbs]
    exact k1
  · unfold fz_mo_putNibbles
    exact k2
theorem zp_ch {S S' : am_Z} {q hd b a t : Nat} (hq : q ≤ 8) (hf : zn_f S hd q b) (h : fz_wr_chooseNibbles_5_8_24 fz_fu (Int32.ofNat a) (Int32.ofNat 0) (Int32.ofNat (2 * q)) (Int32.ofNat 0) S = some (Int32.ofNat t, S')) : fz_wr_chooseNibbles_5_8 S (Int32.ofNat a) = some (Int32.ofNat t, S') := by
  unfold fz_wr_chooseNibbles_5_8
  rw [zn_bn hf]
  simp only [zbs]
  rw [zn_min hq]
  simp only [zbs]
  exact h
theorem zn_fo {M M' : am_Z} {q a t : Nat} {x : Int32} (h : fz_mo_follow_6 fz_fu (Int32.ofNat a) (Int32.ofNat (2 * q)) x (Int32.ofNat 0) (Int32.ofNat 0) M = some (Int32.ofNat t, M')) : fz_mo_follow M (Int32.ofNat a) ((2 : Int32) * Int32.ofNat q) x = some (Int32.ofNat t, M') := by
  have e : (2 : Int32) * Int32.ofNat q = Int32.ofNat (2 * q) := nm_mul 2 q
  unfold fz_mo_follow
  rw [e]
  exact h
/-- a block with steps -/
theorem zs_blk {s m S M : am_Z} {V : List Int32} {n q nn a i : Nat} (hz : zv_s s m n) (hq8 : q ≤ 8) (hx : zx s m S M nn V) (h8 : 8 ≤ nn) (hl : nn + (4 + q) ≤ 400) (ha : a < n) (hi : i < 89) (h19 : M.1 19 = Int32.ofNat i) (hf : zn_f S 4 q (2 * q + 1)) (f : Nat) : ∃ (S' M' : am_Z) (i' : Nat) (x : Int32), zx s m S' M' (nn + (4 + q)) V ∧ zn_f S' 4 q (2 * q + 1) ∧ fz_wr_writeStepped_13 (f + 1) (Int32.ofNat i) (Int32.ofNat a) S = fz_wr_writeStepped_13 f x (Int32.ofNat (a + (2 * q + 1))) S' ∧ fz_mo_writeStepped_7 (f + 1) (Int32.ofNat q) (Int32.ofNat a) M = fz_mo_writeStepped_7 f (Int32.ofNat q) (Int32.ofNat (a + (2 * q + 1))) M' ∧ (a + (2 * q + 1) ≤ n → i' < 89 ∧ x = Int32.ofNat i' ∧ M'.1 19 = Int32.ofNat i') := by
  obtain ⟨hn, h1, h2, h3⟩ := hz
  obtain ⟨v, hv⟩ : ∃ v, v = s.2.2 0 a := ⟨_, rfl⟩
  obtain ⟨-, -, -, -, ⟨-, a1, -, a3⟩, ⟨-, b1, -, b3⟩, -⟩ := id hx
  have eS1 : S.1 1 = Int32.ofNat n := a1.trans h1
  have eM1 : M.1 1 = Int32.ofNat n := b1.trans h2
  have eSv : S.2.2 0 a = v := by rw [a3, hv]
  have eMv : M.2.2 0 a = v := by rw [b3, hv, (h3 a ha).1]
  have hna : ¬ Int32.ofNat n ≤ Int32.ofNat a := by
    rw [nm_le (by omega) (by omega)]
    omega
  have hra : ¬ (Int32.ofNat a < 0 ∨ 64 ≤ a) := fun h => h.elim (nm_nneg (by omega)) (by omega)
  have ea1 : Int32.ofNat a + (1 : Int32) = Int32.ofNat (a + 1) := nm_add a 1
  have e2q : (2 : Int32) * Int32.ofNat q = Int32.ofNat (2 * q) := nm_mul 2 q
  have e2q1 : Int32.ofNat (2 * q) + (1 : Int32) = Int32.ofNat (2 * q + 1) := nm_add _ 1
  have x0 : zx s m S (zz_i M 17 v) nn V := hx
  obtain ⟨L1, hL1⟩ : ∃ L, L = zf_le (Int32.toInt64 v) 2 := ⟨_, rfl⟩
  have hL1n : L1.length = 2 := by rw [hL1, zf_le_len]
  have x1 : zx s m (zf_a 3 S L1) (zf_a 4 (zz_i M 17 v) L1) (nn + 2) V := by
    have := zx_a x0 (l := L1) h8 (by rw [hL1]; exact zf_by_le _ _) (by omega)
    rw [hL1n] at this
    exact this
  have x2 : zx s m (zf_a 3 (zf_a 3 S L1) [Int32.ofNat i &&& (255 : Int32)]) (zf_a 4 (zf_a 4 (zz_i M 17 v) L1) [Int32.ofNat i &&& (255 : Int32)]) (nn + 2 + 1) V := zx_a x1 (l := [Int32.ofNat i &&& (255 : Int32)]) (by omega) (zf_by_1 _) (by show nn + 2 + 1 ≤ 400; omega)
  have x3 : zx s m (zf_a 3 (zf_a 3 (zf_a 3 S L1) [Int32.ofNat i &&& (255 : Int32)]) [(0 : Int32) &&& (255 : Int32)]) (zf_a 4 (zf_a 4 (zf_a 4 (zz_i M 17 v) L1) [Int32.ofNat i &&& (255 : Int32)]) [(0 : Int32) &&& (255 : Int32)]) (nn + 2 + 1 + 1) V := zx_a x2 (l := [(0 : Int32) &&& (255 : Int32)]) (by omega) (zf_by_1 _) (by show nn + 2 + 1 + 1 ≤ 400; omega)
  obtain ⟨S3, hS3⟩ : ∃ Z, Z = zf_a 3 (zf_a 3 (zf_a 3 S L1) [Int32.ofNat i &&& (255 : Int32)]) [(0 : Int32) &&& (255 : Int32)] := ⟨_, rfl⟩
  obtain ⟨M3, hM3⟩ : ∃ Z, Z = zf_a 4 (zf_a 4 (zf_a 4 (zz_i M 17 v) L1) [Int32.ofNat i &&& (255 : Int32)]) [(0 : Int32) &&& (255 : Int32)] := ⟨_, rfl⟩
  rw [← hS3, ← hM3] at x3
  have f3 : zn_f S3 4 q (2 * q + 1) := by
    rw [hS3]
    exact zn_f_a (zn_f_a (zn_f_a hf _) _) _
  have gM : ∀ j, j ≠ 4 → M3.1 j = (zz_i M 17 v).1 j := by
    intro j hj
    rw [hM3, zf_a_i 4 hj, zf_a_i 4 hj, zf_a_i 4 hj]
  obtain ⟨-, -, -, -, ⟨-, c1, -, c3⟩, ⟨-, d1, -, d3⟩, -⟩ := id x3
  obtain ⟨t, S5, M5, e, e', r0, r1, r2, r3, r4, r5, r6, r7, r8⟩ := zs_lup (R := s.2.2 0) (n := n) (N := 2 * q) (a := a + 1) (x := -1) hn (by omega) (by omega) (fun i hi => (h3 i hi).2) (2 * q) 0 fz_fu 0 (zz_i (zz_i S3 8 v) 9 (Int32.ofNat i)) M3 (v, i) (v, i) (by omega) (by show 2 * q < 1000; omega) (by omega) ⟨rfl, rfl, hi⟩ ⟨rfl, gM 17 (by decide), (gM 19 (by decide)).trans h19, hi⟩ (fun _ => rfl) (c1.trans h1) (d1.trans h2) (fun j _ => by show S3.2.2 0 j = _; rw [c3]) (fun j hj => by rw [d3, (h3 j hj).1]) (fun j hj => absurd hj (Nat.not_lt_zero j))
  have x4 : zx s m (zz_i (zz_i S3 8 v) 9 (Int32.ofNat i)) M3 (nn + 2 + 1 + 1) V := x3
  have f4 : zn_f (zz_i (zz_i S3 8 v) 9 (Int32.ofNat i)) 4 q (2 * q + 1) := f3
  have x5 := zx_k x4 r6 r7
  have f5 := zn_f_k f4 r6
  obtain ⟨l, hll, hlb, p1, p2⟩ := zn_pn1 hq8 (zx_n3 x5) (zx_n4 x5) (by omega) f5 r8
  have x6 := zx_a x5 (l := l) (by omega) hlb (by omega)
  rw [show nn + 2 + 1 + 1 + l.length = nn + (4 + q) by omega] at x6
  refine ⟨zf_a 3 S5 l, zf_a 4 M5 l, e'.2, (zf_a 3 S5 l).1 9, x6, zn_f_a f5 l, ?_, ?_, fun hh => ⟨r4.2.2.2, ?_, ?_⟩⟩
  · conv => lhs; unfold fz_wr_writeStepped_13
    have hlim : fz_sh_limit (Int32.ofNat i) 0 88 = some (Int32.ofNat i) := by
      have q0 : (0 : Int32) ≤ Int32.ofNat i := (nm_nlt _ _).mp (nm_nneg (by omega))
      have q88 : Int32.ofNat i ≤ (88 : Int32) := (nm_le (a := i) (b := 88) (by omega) (by omega)).mpr (by omega)
      unfold fz_sh_limit
      rw [if_pos q0, if_pos q88]
    have eS3v : S3.2.2 0 a = v := by rw [c3, hv]
    have hch := zs_ch hq8 f4 r1
    have e7 : (zf_a 3 S5 l).1 7 = Int32.ofNat (2 * q + 1) := (zn_f_a f5 l).2.2
    rw [eS1, if_neg hna, nm_clamp (a := a) (by omega), if_neg hra, eSv, zn_l2 (zx_n3 x0) (by omega), ← hL1]
    simp only [zbs]
    rw [zn_p (zx_n3 x1) (by omega)]
    simp only [zbs]
    rw [zn_p (zx_n3 x2) (by omega), ← hS3]
    simp only [zbs]
    rw [if_neg hra, eS3v]
    unfold fz_sp_start_7
    rw [hlim]
    simp only [zbs]
    rw [ea1, hch]
    simp only [zbs]
    rw [p1]
    simp only [zbs]
    rw [e7, nm_add]
  · conv => lhs; unfold fz_mo_writeStepped_7
    have e19 : (zf_a 4 (zz_i M 17 v) L1).1 19 = Int32.ofNat i := (zf_a_i 4 (by decide) _).trans h19
    have hfo := zn_fo r2
    have ht : ¬ Int32.ofNat t < 0 := nm_nneg (by omega)
    rw [eM1, if_neg hna, nm_clamp (a := a) (by omega), if_neg hra, eMv, zn_m2 (zx_n4 x0) (by omega), ← hL1]
    simp only [zbs]
    rw [e19, zn_m1 (zx_n4 x1) (by omega)]
    simp only [zbs]
    rw [zn_m0 (zx_n4 x2) (by omega), ← hM3]
    simp only [zbs]
    rw [ea1, hfo]
    simp only [zbs]
    rw [if_neg ht]
    unfold fz_mo_writeStepped_74
    rw [p2]
    simp only [zbs]
    rw [e2q, e2q1, nm_add]
  · rw [zf_a_i 3 (by decide), r3.2.1, r5 (by omega)]
  · rw [zf_a_i 4 (by decide)]
    exact r4.2.2.1
theorem zs_blocks {s m : am_Z} {V : List Int32} {n q : Nat} (hz : zv_s s m n) (hq8 : q ≤ 8) : ∀ (d a f nn i : Nat) (S M : am_Z) (x : Int32), n ≤ a + d → a ≤ 100 → d < f → zx s m S M nn V → 8 ≤ nn → nn + zn_bl n a (2 * q + 1) * (4 + q) ≤ 400 → zn_f S 4 q (2 * q + 1) → (a < n → i < 89 ∧ x = Int32.ofNat i ∧ M.1 19 = Int32.ofNat i) → ∃ (S' M' : am_Z), zx s m S' M' (nn + zn_bl n a (2 * q + 1) * (4 + q)) V ∧ zn_f S' 4 q (2 * q + 1) ∧ fz_wr_writeStepped_13 f x (Int32.ofNat a) S = ((fz_fm_sizeOfData_6 S' (S'.1 1)).bind fun q1 => (fz_wr_putByteBehind S' q1).bind fun q2 => some q2) ∧ fz_mo_writeStepped_7 f (Int32.ofNat q) (Int32.ofNat a) M = some M' := by
  have hn : n ≤ 64 := hz.1
  have fin : ∀ (a f nn : Nat) (S M : am_Z) (x : Int32), n ≤ a → a ≤ 100 → zx s m S M nn V → zn_f S 4 q (2 * q + 1) → ∃ (S' M' : am_Z), zx s m S' M' (nn + zn_bl n a (2 * q + 1) * (4 + q)) V ∧ zn_f S' 4 q (2 * q + 1) ∧ fz_wr_writeStepped_13 (f + 1) x (Int32.ofNat a) S = ((fz_fm_sizeOfData_6 S' (S'.1 1)).bind fun q1 => (fz_wr_putByteBehind S' q1).bind fun q2 => some q2) ∧ fz_mo_writeStepped_7 (f + 1) (Int32.ofNat q) (Int32.ofNat a) M = some M' := by
    intro a f nn S M x hna ha hx hf
    have eS1 : S.1 1 = Int32.ofNat n := hx.2.2.2.2.1.2.1.trans hz.2.1
    have eM1 : M.1 1 = Int32.ofNat n := hx.2.2.2.2.2.1.2.1.trans hz.2.2.1
    have hle : Int32.ofNat n ≤ Int32.ofNat a := (nm_le (by omega) (by omega)).mpr hna
    refine ⟨S, M, ?_, hf, ?_, ?_⟩
    · rw [zn_bl0 hna (by omega), Nat.zero_mul, Nat.add_zero]
      exact hx
    · unfold fz_wr_writeStepped_13
      rw [if_pos (by rw [eS1]; exact hle)]
    · unfold fz_mo_writeStepped_7
      rw [if_pos (by rw [eM1]; exact hle)]
  intro d
  induction d with
  | zero =>
    intro a f nn i S M x hna ha hf hx h8 hl hff hi
    obtain ⟨f, rfl⟩ : ∃ g, f = g + 1 := ⟨f - 1, by omega⟩
    exact fin a f nn S M x (by omega) ha hx hff
  | succ d ih =>
    intro a f nn i S M x hna ha hf hx h8 hl hff hi
    obtain ⟨f, rfl⟩ : ∃ g, f = g + 1 := ⟨f - 1, by omega⟩
    by_cases c : n ≤ a
    · exact fin a f nn S M x c ha hx hff
    · have eb := zn_bl1 (n := n) (a := a) (b := 2 * q + 1) (by omega) (by omega)
      have em : zn_bl n a (2 * q + 1) * (4 + q) = zn_bl n (a + (2 * q + 1)) (2 * q + 1) * (4 + q) + (4 + q) := by rw [eb, Nat.add_mul, Nat.one_mul]
      rw [em] at hl ⊢
      obtain ⟨hi1, hi2, hi3⟩ := hi (by omega)
      subst hi2
      obtain ⟨S', M', i', x', k1, k2, k3, k4, k5⟩ := zs_blk (a := a) hz hq8 hx h8 (Nat.le_trans (Nat.add_le_add_left (Nat.le_add_left _ _) _) hl) (by omega) hi1 hi3 hff f
      obtain ⟨S2, M2, l1, l2, l3, l4⟩ := ih (a + (2 * q + 1)) f (nn + (4 + q)) i' S' M' x' (by omega) (by omega) (by omega) k1 (by omega) (by omega) k2 (fun h => k5 (by omega))
      refine ⟨S2, M2, ?_, l2, k3.trans l3, k4.trans l4⟩
      rw [show nn + (zn_bl n (a + (2 * q + 1)) (2 * q + 1) * (4 + q) + (4 + q)) = nn + (4 + q) + zn_bl n (a + (2 * q + 1)) (2 * q + 1) * (4 + q) by omega]
      exact l1
