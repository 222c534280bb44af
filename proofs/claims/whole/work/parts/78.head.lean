/-! Writing: the heads of wave files, of both. -/
theorem za_big {s : am_Z} (h : zf_n 3 s 0) (l : List Int32) (v : Int64) {x : Int32} {N : Nat} (hx : x = Int32.ofNat N) (h8 : N ≤ 8) (hl : l.length + N ≤ 400) : fz_by_putBig (zf_a 3 s l) v x = some (zf_a 3 s (l ++ zf_be v N)) := by
  subst hx
  have h1 := zf_a_n (l := l) h (by omega)
  rw [Nat.zero_add] at h1
  rw [zf_putBig h1 v h8 hl, zf_a_app]
theorem za_le {s : am_Z} (h : zf_n 3 s 0) (l : List Int32) (v : Int64) {x : Int32} {N : Nat} (hx : x = Int32.ofNat N) (h8 : N ≤ 8) (hl : l.length + N ≤ 400) : fz_by_putLittle (zf_a 3 s l) v x = some (zf_a 3 s (l ++ zf_le v N)) := by
  subst hx
  have h1 := zf_a_n (l := l) h (by omega)
  rw [Nat.zero_add] at h1
  rw [zf_putLittle h1 v h8 hl, zf_a_app]
theorem zb_big {s : am_Z} (h : zf_n 4 s 0) (l : List Int32) (v : Int64) {x : Int32} {N : Nat} (hx : x = Int32.ofNat N) (h8 : N ≤ 8) (hl : l.length + N ≤ 400) : fz_mo_put (zf_a 4 s l) v x 1 = some (zf_a 4 s (l ++ zf_be v N)) := by
  subst hx
  have h1 := zf_a_n (l := l) h (by omega)
  rw [Nat.zero_add] at h1
  rw [zm_big h1 v h8 hl, zf_a_app]
theorem zb_le {s : am_Z} (h : zf_n 4 s 0) (l : List Int32) (v : Int64) {x : Int32} {N : Nat} (hx : x = Int32.ofNat N) (h8 : N ≤ 8) (hl : l.length + N ≤ 400) : fz_mo_little (zf_a 4 s l) v x = some (zf_a 4 s (l ++ zf_le v N)) := by
  subst hx
  unfold fz_mo_little
  have h1 := zf_a_n (l := l) h (by omega)
  rw [Nat.zero_add] at h1
  rw [zm_little h1 v h8 hl, zf_a_app]
  rfl
theorem za_b2 {s : am_Z} (h : zf_n 3 s 0) (l : List Int32) (v : Int64) (hl : l.length + 2 ≤ 400) : fz_by_putBig (zf_a 3 s l) v (2 : Int32) = some (zf_a 3 s (l ++ zf_be v 2)) := za_big h l v (x := 2) rfl (by decide) hl
theorem za_b4 {s : am_Z} (h : zf_n 3 s 0) (l : List Int32) (v : Int64) (hl : l.length + 4 ≤ 400) : fz_by_putBig (zf_a 3 s l) v (4 : Int32) = some (zf_a 3 s (l ++ zf_be v 4)) := za_big h l v (x := 4) rfl (by decide) hl
theorem za_b8 {s : am_Z} (h : zf_n 3 s 0) (l : List Int32) (v : Int64) (hl : l.length + 8 ≤ 400) : fz_by_putBig (zf_a 3 s l) v (8 : Int32) = some (zf_a 3 s (l ++ zf_be v 8)) := za_big h l v (x := 8) rfl (by decide) hl
theorem za_l2 {s : am_Z} (h : zf_n 3 s 0) (l : List Int32) (v : Int64) (hl : l.length + 2 ≤ 400) : fz_by_putLittle (zf_a 3 s l) v (2 : Int32) = some (zf_a 3 s (l ++ zf_le v 2)) := za_le h l v (x := 2) rfl (by decide) hl
theorem za_l4 {s : am_Z} (h : zf_n 3 s 0) (l : List Int32) (v : Int64) (hl : l.length + 4 ≤ 400) : fz_by_putLittle (zf_a 3 s l) v (4 : Int32) = some (zf_a 3 s (l ++ zf_le v 4)) := za_le h l v (x := 4) rfl (by decide) hl
theorem za_l8 {s : am_Z} (h : zf_n 3 s 0) (l : List Int32) (v : Int64) (hl : l.length + 8 ≤ 400) : fz_by_putLittle (zf_a 3 s l) v (8 : Int32) = some (zf_a 3 s (l ++ zf_le v 8)) := za_le h l v (x := 8) rfl (by decide) hl
theorem zb_b1 {s : am_Z} (h : zf_n 4 s 0) (l : List Int32) (v : Int64) (hl : l.length + 1 ≤ 400) : fz_mo_put (zf_a 4 s l) v (1 : Int32) 1 = some (zf_a 4 s (l ++ zf_be v 1)) := zb_big h l v (x := 1) rfl (by decide) hl
theorem zb_l1 {s : am_Z} (h : zf_n 4 s 0) (l : List Int32) (v : Int64) (hl : l.length + 1 ≤ 400) : fz_mo_little (zf_a 4 s l) v (1 : Int32) = some (zf_a 4 s (l ++ zf_le v 1)) := zb_le h l v (x := 1) rfl (by decide) hl
theorem zb_b2 {s : am_Z} (h : zf_n 4 s 0) (l : List Int32) (v : Int64) (hl : l.length + 2 ≤ 400) : fz_mo_put (zf_a 4 s l) v (2 : Int32) 1 = some (zf_a 4 s (l ++ zf_be v 2)) := zb_big h l v (x := 2) rfl (by decide) hl
theorem zb_l2 {s : am_Z} (h : zf_n 4 s 0) (l : List Int32) (v : Int64) (hl : l.length + 2 ≤ 400) : fz_mo_little (zf_a 4 s l) v (2 : Int32) = some (zf_a 4 s (l ++ zf_le v 2)) := zb_le h l v (x := 2) rfl (by decide) hl
theorem zb_b4 {s : am_Z} (h : zf_n 4 s 0) (l : List Int32) (v : Int64) (hl : l.length + 4 ≤ 400) : fz_mo_put (zf_a 4 s l) v (4 : Int32) 1 = some (zf_a 4 s (l ++ zf_be v 4)) := zb_big h l v (x := 4) rfl (by decide) hl
theorem zb_l4 {s : am_Z} (h : zf_n 4 s 0) (l : List Int32) (v : Int64) (hl : l.length + 4 ≤ 400) : fz_mo_little (zf_a 4 s l) v (4 : Int32) = some (zf_a 4 s (l ++ zf_le v 4)) := zb_le h l v (x := 4) rfl (by decide) hl
theorem zb_b8 {s : am_Z} (h : zf_n 4 s 0) (l : List Int32) (v : Int64) (hl : l.length + 8 ≤ 400) : fz_mo_put (zf_a 4 s l) v (8 : Int32) 1 = some (zf_a 4 s (l ++ zf_be v 8)) := zb_big h l v (x := 8) rfl (by decide) hl
theorem zb_l8 {s : am_Z} (h : zf_n 4 s 0) (l : List Int32) (v : Int64) (hl : l.length + 8 ≤ 400) : fz_mo_little (zf_a 4 s l) v (8 : Int32) = some (zf_a 4 s (l ++ zf_le v 8)) := zb_le h l v (x := 8) rfl (by decide) hl
/-- "fmt " of a file of samples -/
def zw_fp (pace al : Int32) : List Int32 := zf_be 1718449184 4 ++ zf_le 16 4 ++ zf_le 1 2 ++ zf_le 1 2 ++ zf_le (Int32.toInt64 pace) 4 ++ zf_le (Int32.toInt64 (pace * al)) 4 ++ zf_le (Int32.toInt64 al) 2 ++ zf_le (Int32.toInt64 ((8 : Int32) * al)) 2
theorem zw_fp_len (pace al : Int32) : (zw_fp pace al).length = 24 := by simp [zw_fp, zf_be_len, zf_le_len]
theorem nm_div1 (x : Int32) : x / (1 : Int32) = x := by
  apply Int32.toInt_inj.mp
  have h1 := x.le_toInt
  have h2 := x.toInt_lt
  rw [Int32.toInt_div, show (1 : Int32).toInt = 1 from rfl, Int.tdiv_one, Int.bmod_eq_of_le (by omega) (by omega)]
theorem za_fmt1 {s : am_Z} (h : zf_n 3 s 0) {pace al : Int32} (h2 : s.1 2 = pace) (h4 : s.1 4 = 1) (h6 : s.1 6 = al) (h7 : s.1 7 = 1) (l : List Int32) (hl : l.length ≤ 100) : fz_wr_putFmt (zf_a 3 s l) = some (zf_a 3 s (l ++ zw_fp pace al)) := by
  have g4 : ∀ l, (zf_a 3 s l).1 4 = 1 := fun l => (zf_a_i 3 (by decide) s).trans h4
  have g2 : ∀ l, (zf_a 3 s l).1 2 = pace := fun l => (zf_a_i 3 (by decide) s).trans h2
  have g6 : ∀ l, (zf_a 3 s l).1 6 = al := fun l => (zf_a_i 3 (by decide) s).trans h6
  have g7 : ∀ l, (zf_a 3 s l).1 7 = 1 := fun l => (zf_a_i 3 (by decide) s).trans h7
  have k1 : ∀ l, fz_fm_sizeOfFmt_6 (zf_a 3 s l) = some 16 := by
    intro l
    unfold fz_fm_sizeOfFmt_6
    rw [g4, if_neg (by decide)]
  have k2 : ∀ l, fz_fm_hasBlocks_6 (zf_a 3 s l) = some 0 := by
    intro l
    unfold fz_fm_hasBlocks_6
    rw [g4, if_neg (by decide), if_pos (by decide)]
  have k3 : ∀ l, fz_fm_bits_6 (zf_a 3 s l) = some ((8 : Int32) * al) := by
    intro l
    unfold fz_fm_bits_6
    rw [k2, g6]
    rfl
  have k4 : ∀ l x, fz_fm_bytesASecond_6 (zf_a 3 s l) x = some (x * al) := by
    intro l x
    unfold fz_fm_bytesASecond_6
    rw [g7, g6, if_neg (by decide), nm_div1]
  unfold fz_wr_putFmt fz_wr_putFmt_165
  rw [za_b4 h l _ (by omega)]
  simp only [Option.bind_some, k1]
  rw [za_l4 h _ _ (by simp [zf_be_len]; omega)]
  simp only [Option.bind_some, g4]
  rw [za_l2 h _ _ (by simp [zf_be_len, zf_le_len]; omega)]
  simp only [Option.bind_some]
  rw [za_l2 h _ _ (by simp [zf_be_len, zf_le_len]; omega)]
  simp only [Option.bind_some, g2]
  rw [za_l4 h _ _ (by simp [zf_be_len, zf_le_len]; omega)]
  simp only [Option.bind_some, g2, k4]
  rw [za_l4 h _ _ (by simp [zf_be_len, zf_le_len]; omega)]
  simp only [Option.bind_some, g6]
  rw [za_l2 h _ _ (by simp [zf_be_len, zf_le_len]; omega)]
  simp only [Option.bind_some, k3]
  rw [za_l2 h _ _ (by simp [zf_be_len, zf_le_len]; omega)]
  simp only [Option.bind_some, k2, g4]
  rw [if_pos trivial, if_pos (by decide)]
  simp only [zw_fp, List.append_assoc]
  rfl
