/-! Writing: files of samples, the class's side. -/
def zw_S1 (s : am_Z) (al : Int32) : am_Z := zz_i (zz_i (zz_i (zz_i (zz_i s 4 1) 5 0) 6 al) 7 1) 3 0
def zw_z (size : Int32) : Int32 := size - size / (2 : Int32) * (2 : Int32)
def zw_V1 (size : Int32) : List Int32 := zf_le (Int32.toInt64 ((((12 : Int32) + (16 : Int32)) + (0 : Int32)) + (((8 : Int32) + size) + zw_z size))) 4
def zw_B1 (pace al size : Int32) : List Int32 := zf_be 1463899717 4 ++ zw_fp pace al ++ zf_be 1684108385 4 ++ zf_le (Int32.toInt64 size) 4
theorem nm_addsub (x : Int32) : (x + (1 : Int32)) - (1 : Int32) = x := by rw [Int32.sub_eq_add_neg, Int32.add_assoc, Int32.add_right_neg, Int32.add_zero]
theorem za_start1 (s : am_Z) (al : Int32) : fz_wr_startWave s 1 al = some (zf_a 3 (zw_S1 s al) (zf_be 1380533830 4 ++ zw_V1 (s.1 1 * al) ++ zw_B1 (s.1 2) al (s.1 1 * al))) := by
  have hS : zf_n 3 (zw_S1 s al) 0 := ⟨rfl, by decide⟩
  have e1 : fz_fm_setTag_6 s 1 = some (zz_i (zz_i s 4 1) 5 0) := by
    unfold fz_fm_setTag_6
    rw [if_pos (by decide), if_pos (by decide)]
  have kb : ∀ z : am_Z, z.1 4 = 1 → fz_fm_hasBlocks_6 z = some 0 := by
    intro z hz
    unfold fz_fm_hasBlocks_6
    rw [hz, if_neg (by decide), if_pos (by decide)]
  have e2 : fz_fm_setAlign_6 (zz_i (zz_i s 4 1) 5 0) al = some (zz_i (zz_i (zz_i (zz_i s 4 1) 5 0) 6 al) 7 1) := by
    unfold fz_fm_setAlign_6
    rw [kb _ rfl]
    rfl
  have e3 : fz_fm_sizeOfData_6 (zz_i (zz_i (zz_i (zz_i s 4 1) 5 0) 6 al) 7 1) (s.1 1) = some (s.1 1 * al) := by
    unfold fz_fm_sizeOfData_6
    show (if (1 : Int32) = 0 then none else some ((((s.1 1 + (1 : Int32)) - (1 : Int32)) / (1 : Int32)) * al)) = _
    rw [if_neg (by decide), nm_addsub, nm_div1]
  have e4 : ∀ l, fz_fm_sizeOfFmt_6 (zf_a 3 (zw_S1 s al) l) = some 16 := by
    intro l
    unfold fz_fm_sizeOfFmt_6
    rw [zf_a_i 3 (by decide)]
    show (if ¬ (1 : Int32) = 1 then _ else _) = _
    rw [if_neg (by decide)]
  unfold fz_wr_startWave
  rw [e1]
  simp only [Option.bind_some]
  rw [e2]
  simp only [Option.bind_some]
  rw [show fz_fm_sizeOfData_6 (zz_i (zz_i (zz_i (zz_i s 4 1) 5 0) 6 al) 7 1) ((zz_i (zz_i (zz_i (zz_i s 4 1) 5 0) 6 al) 7 1).1 1) = some (s.1 1 * al) from e3, kb _ rfl]
  simp only [Option.bind_some]
  rw [if_pos trivial]
  unfold fz_wr_startWave_47 fz_wr_startWave_166
  rw [show fz_by_putBig (zz_i (zz_i (zz_i (zz_i (zz_i s 4 1) 5 0) 6 al) 7 1) 3 0) 1380533830 4 = some (zf_a 3 (zw_S1 s al) ([] ++ zf_be 1380533830 4)) from za_b4 hS [] _ (by decide)]
  simp only [Option.bind_some, e4, List.nil_append]
  rw [za_l4 hS _ _ (by simp [zf_be_len])]
  simp only [Option.bind_some]
  rw [za_b4 hS _ _ (by simp [zf_be_len, zf_le_len])]
  simp only [Option.bind_some]
  rw [za_fmt1 hS (pace := s.1 2) (al := al) rfl rfl rfl rfl _ (by simp [zf_be_len, zf_le_len])]
  simp only [Option.bind_some]
  rw [kb _ (by rw [zf_a_i 3 (by decide)]; rfl)]
  simp only [Option.bind_some]
  rw [if_pos trivial, za_b4 hS _ _ (by simp [zf_be_len, zf_le_len, zw_fp_len])]
  simp only [Option.bind_some]
  rw [za_l4 hS _ _ (by simp [zf_be_len, zf_le_len, zw_fp_len])]
  simp only [Option.bind_some, zw_V1, zw_B1, zw_z, List.append_assoc]
def zw_e (row : Nat → Int32) (al : Int32) (i : Nat) : List Int32 := if al = 1 then [((row i >>> ((8 : Int32) &&& 31)) + (128 : Int32)) &&& (255 : Int32)] else zf_le (Int32.toInt64 (row i)) 2
def zw_d (row : Nat → Int32) (al : Int32) : Nat → Nat → List Int32
  | 0, _ => []
  | d + 1, i => zw_e row al i ++ zw_d row al d (i + 1)
theorem zw_e_len (row : Nat → Int32) (al : Int32) (i : Nat) : (zw_e row al i).length ≤ 2 := by
  unfold zw_e
  split
  · simp
  · rw [zf_le_len]; exact Nat.le_refl _
theorem zw_d_len (row : Nat → Int32) (al : Int32) : ∀ (d i : Nat), (zw_d row al d i).length ≤ 2 * d := by
  intro d
  induction d with
  | zero => intro i; simp [zw_d]
  | succ d ih =>
    intro i
    have h1 := zw_e_len row al i
    have h2 := ih (i + 1)
    simp only [zw_d, List.length_append]
    omega
def zw_p (size : Int32) : List Int32 := if zw_z size = 0 then [] else [0]
theorem zw_p_len (size : Int32) : (zw_p size).length ≤ 1 := by
  unfold zw_p
  split <;> simp
theorem za_1 {s : am_Z} (h : zf_n 3 s 0) (l : List Int32) (x : Int32) (hl : l.length < 400) : fz_by_put (zf_a 3 s l) x = some (zf_a 3 s (l ++ [x &&& (255 : Int32)])) := by
  have h1 := zf_a_n (l := l) h (by omega)
  rw [Nat.zero_add] at h1
  rw [zf_put h1 hl, zf_a_app]
  rfl
theorem za_pad {s : am_Z} (h : zf_n 3 s 0) (l : List Int32) (size : Int32) (hl : l.length < 400) : fz_wr_putByteBehind (zf_a 3 s l) size = some (zf_a 3 s (l ++ zw_p size)) := by
  unfold fz_wr_putByteBehind zw_p zw_z
  by_cases c : size - size / (2 : Int32) * (2 : Int32) = 0
  · rw [if_pos c, if_pos c, List.append_nil]
  · rw [if_neg c, if_neg c, za_1 h l 0 hl]
    rfl
theorem za_plain {S : am_Z} (h : zf_n 3 S 0) {al : Int32} {n : Nat} (h1 : S.1 1 = Int32.ofNat n) (hn : n ≤ 64) (h6 : S.1 6 = al) (h7 : S.1 7 = 1) : ∀ (d i f : Nat) (l : List Int32), i + d = n → d < f → l.length + 2 * d < 390 → fz_wr_writePlain_8 f al (Int32.ofNat i) (zf_a 3 S l) = some (zf_a 3 S (l ++ zw_d (S.2.2 0) al d i ++ zw_p (Int32.ofNat n * al))) := by
  have g1 : ∀ l, (zf_a 3 S l).1 1 = Int32.ofNat n := fun l => (zf_a_i 3 (by decide) S).trans h1
  have gr : ∀ l, (zf_a 3 S l).2.2 0 = S.2.2 0 := fun l => zf_a_r 3 (by decide) S
  have gs : ∀ l x, fz_fm_sizeOfData_6 (zf_a 3 S l) x = some (x * al) := by
    intro l x
    unfold fz_fm_sizeOfData_6
    rw [zf_a_i 3 (by decide), zf_a_i 3 (by decide), h6, h7, if_neg (by decide), nm_addsub, nm_div1]
  intro d
  induction d with
  | zero =>
    intro i f l hi hf hl
    obtain ⟨f, rfl⟩ : ∃ g, f = g + 1 := ⟨f - 1, by omega⟩
    unfold fz_wr_writePlain_8
    rw [g1, if_pos (by rw [nm_le (by omega) (by omega)]; omega), gs]
    simp only [Option.bind_some]
    rw [za_pad h _ _ (by omega)]
    simp only [Option.bind_some, zw_d, List.append_nil]
  | succ d ih =>
    intro i f l hi hf hl
    obtain ⟨f, rfl⟩ : ∃ g, f = g + 1 := ⟨f - 1, by omega⟩
    have hr : ¬ (Int32.ofNat i < 0 ∨ 64 ≤ Int32.toNatClampNeg (Int32.ofNat i)) := by
      rw [nm_clamp (by omega)]
      exact fun hh => hh.elim (nm_nneg (by omega)) (by omega)
    have hr' : ¬ (Int32.ofNat i < 0 ∨ 64 ≤ i) := fun hh => hh.elim (nm_nneg (by omega)) (by omega)
    unfold fz_wr_writePlain_8
    rw [g1, if_neg (by rw [nm_le (by omega) (by omega)]; omega), gr, nm_clamp (by omega)]
    have e1 : Int32.ofNat i + (1 : Int32) = Int32.ofNat (i + 1) := nm_add i 1
    by_cases c : al = 1
    · rw [if_neg (not_not_intro c), if_neg hr', za_1 h _ _ (by omega)]
      simp only [Option.bind_some]
      unfold fz_wr_writePlain_68
      rw [e1, ih (i + 1) f _ (by omega) (by omega) (by simp; omega)]
      simp only [zw_d, zw_e, if_pos c, List.append_assoc]
    · rw [if_pos c, if_neg hr', za_l2 h _ _ (by omega)]
      simp only [Option.bind_some]
      unfold fz_wr_writePlain_68
      rw [e1, ih (i + 1) f _ (by omega) (by omega) (by simp [zf_le_len]; omega)]
      simp only [zw_d, zw_e, if_neg c, List.append_assoc]
theorem za_writePlain {s : am_Z} {n : Nat} (h1 : s.1 1 = Int32.ofNat n) (hn : n ≤ 64) (al : Int32) : fz_wr_writePlain s al = some (zf_a 3 (zw_S1 s al) (zf_be 1380533830 4 ++ zw_V1 (s.1 1 * al) ++ (zw_B1 (s.1 2) al (s.1 1 * al) ++ zw_d (s.2.2 0) al n 0 ++ zw_p (s.1 1 * al)))) := by
  have hS : zf_n 3 (zw_S1 s al) 0 := ⟨rfl, by decide⟩
  unfold fz_wr_writePlain
  rw [za_start1]
  simp only [Option.bind_some]
  rw [show (0 : Int32) = Int32.ofNat 0 from rfl, za_plain hS (al := al) (n := n) h1 hn rfl rfl n 0 fz_fu _ (by omega) (by show n < 1000; omega) (by simp [zf_be_len, zf_le_len, zw_V1, zw_B1, zw_fp_len]; omega), h1]
  simp only [List.append_assoc]
  rfl
