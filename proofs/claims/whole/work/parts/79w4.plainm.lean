/-! Writing: files of samples, the reference's side, and the calls. -/
theorem nm_div {a b : Nat} (ha : a < 2147483648) (hb : b < 2147483648) : Int32.ofNat a / Int32.ofNat b = Int32.ofNat (a / b) := by
  apply Int32.toInt_inj.mp
  have hd : a / b ≤ a := Nat.div_le_self a b
  rw [Int32.toInt_div, nm_toInt ha, nm_toInt hb, nm_toInt (by omega)]
  have e : (a : Int).tdiv (b : Int) = ((a / b : Nat) : Int) := rfl
  have e2 : ((a / b : Nat) : Int).bmod (2 ^ 32) = ((a / b : Nat) : Int) := by
    generalize a / b = q at hd
    exact Int.bmod_eq_of_le (by omega) (by omega)
  rw [e]
  exact e2
theorem nm_m2 {z : Nat} (hz : z < 2147483648) : Int32.ofNat z - Int32.ofNat z / (2 : Int32) * (2 : Int32) = Int32.ofNat (z % 2) := by
  rw [show (2 : Int32) = Int32.ofNat 2 from rfl, nm_div hz (by omega), nm_mul, nm_sub (by omega)]
  congr 1
  omega
theorem zf_le_1 (v : Int32) : zf_le (Int32.toInt64 v) 1 = [v &&& (255 : Int32)] := by
  have e0 : (Int32.toInt64 ((8 : Int32) * Int32.ofNat 0) &&& 63) = (0 : Int64) := by decide
  show [zf_b (Int32.toInt64 v) 0] = _
  unfold zf_b
  rw [e0, Int64.shiftRight_zero, Int32.toInt32_toInt64]
theorem zw_p_le {z : Nat} (hz : z < 2147483648) : zw_p (Int32.ofNat z) = zf_le 0 (z % 2) := by
  unfold zw_p zw_z
  rw [nm_m2 hz]
  rcases Nat.mod_two_eq_zero_or_one z with h | h
  · rw [h, if_pos (show Int32.ofNat 0 = 0 from rfl)]
    rfl
  · rw [h, if_neg (by decide)]
    rfl
theorem zm_pad {m : am_Z} (h : zf_n 4 m 0) (l : List Int32) {z : Nat} (hz : z < 2147483648) (hl : l.length < 400) : fz_mo_writeWave_194 (Int32.ofNat z) (zf_a 4 m l) = some (zf_a 4 m (l ++ zw_p (Int32.ofNat z))) := by
  unfold fz_mo_writeWave_194
  rw [nm_m2 hz, zb_le h l 0 (N := z % 2) rfl (by omega) (by omega), zw_p_le hz]
  rfl
theorem zm_fmt1 {m : am_Z} (h : zf_n 4 m 0) {pace al x1 : Int32} (h3 : m.1 3 = pace) (c2 : ¬ (2 : Int32) ≤ x1) (c2' : ¬ x1 = 2) (c3 : ¬ x1 = 3) (c1 : x1 ≤ (1 : Int32)) (ha : x1 + (1 : Int32) = al) (x2 : Int32) (l : List Int32) (hl : l.length ≤ 100) : fz_mo_writeFormat (zf_a 4 m l) x1 x2 = some (zf_a 4 m (l ++ zw_fp pace al)) := by
  have g3 : ∀ l, (zf_a 4 m l).1 3 = pace := fun l => (zf_a_i 4 (by decide) m).trans h3
  unfold fz_mo_writeFormat fz_mo_writeFormat_22 fz_mo_writeFormat_49 fz_mo_writeFormat_78
  rw [if_neg c2, if_neg c2, if_pos c2', if_pos c3, zb_b4 h l _ (by omega)]
  simp only [Option.bind_some]
  rw [zb_l4 h _ _ (by simp [zf_be_len]; omega)]
  simp only [Option.bind_some]
  rw [if_neg c2]
  unfold fz_mo_writeFormat_120
  rw [zb_l2 h _ _ (by simp [zf_be_len, zf_le_len]; omega)]
  simp only [Option.bind_some]
  rw [zb_l2 h _ _ (by simp [zf_be_len, zf_le_len]; omega)]
  simp only [Option.bind_some, g3]
  rw [zb_l4 h _ _ (by simp [zf_be_len, zf_le_len]; omega)]
  simp only [Option.bind_some, g3]
  rw [if_neg (show ¬ (1 : Int32) = 0 by decide), nm_div1, zb_l4 h _ _ (by simp [zf_be_len, zf_le_len]; omega)]
  simp only [Option.bind_some]
  rw [zb_l2 h _ _ (by simp [zf_be_len, zf_le_len]; omega)]
  simp only [Option.bind_some]
  rw [if_neg c2]
  unfold fz_mo_writeFormat_182
  rw [zb_l2 h _ _ (by simp [zf_be_len, zf_le_len]; omega)]
  simp only [Option.bind_some]
  rw [if_pos c1]
  unfold fz_mo_writeFormat_218 fz_mo_writeFormat_269
  rw [if_pos c3, if_pos c1, ha]
  simp only [zw_fp, List.append_assoc]
  rfl
theorem zm_plain {m : am_Z} (h : zf_n 4 m 0) {al x1 : Int32} {n sz : Nat} (h1 : m.1 1 = Int32.ofNat n) (hn : n ≤ 64) (hx : x1 = 0 ∧ al = 1 ∨ x1 = 1 ∧ al = 2) (hsz : sz < 1000) : ∀ (d i f : Nat) (l : List Int32), i + d = n → d < f → l.length + 2 * d < 390 → fz_mo_writeWave_142 f x1 (Int32.ofNat sz) (Int32.ofNat i) (zf_a 4 m l) = some (zf_a 4 m (l ++ zw_d (m.2.2 0) al d i ++ zw_p (Int32.ofNat sz))) := by
  have g1 : ∀ l, (zf_a 4 m l).1 1 = Int32.ofNat n := fun l => (zf_a_i 4 (by decide) m).trans h1
  have gr : ∀ l, (zf_a 4 m l).2.2 0 = m.2.2 0 := fun l => zf_a_r 4 (by decide) m
  intro d
  induction d with
  | zero =>
    intro i f l hi hf hl
    obtain ⟨f, rfl⟩ : ∃ g, f = g + 1 := ⟨f - 1, by omega⟩
    unfold fz_mo_writeWave_142
    rw [g1, if_pos (by rw [nm_le (by omega) (by omega)]; omega), zm_pad h _ (by omega) (by omega)]
    simp only [zw_d, List.append_nil]
  | succ d ih =>
    intro i f l hi hf hl
    obtain ⟨f, rfl⟩ : ∃ g, f = g + 1 := ⟨f - 1, by omega⟩
    have hr' : ¬ (Int32.ofNat i < 0 ∨ 64 ≤ i) := fun hh => hh.elim (nm_nneg (by omega)) (by omega)
    unfold fz_mo_writeWave_142
    rw [g1, if_neg (by rw [nm_le (by omega) (by omega)]; omega), gr, nm_clamp (by omega)]
    have e1 : Int32.ofNat i + (1 : Int32) = Int32.ofNat (i + 1) := nm_add i 1
    rcases hx with ⟨rfl, rfl⟩ | ⟨rfl, rfl⟩
    · rw [if_neg (not_not_intro rfl), if_neg hr']
      unfold fz_mo_writeWave_182
      rw [show (0 : Int32) + 1 = 1 from rfl, zb_l1 h _ _ (by omega)]
      simp only [Option.bind_some]
      rw [e1, ih (i + 1) f _ (by omega) (by omega) (by simp [zf_le_len]; omega), zf_le_1]
      simp only [zw_d, zw_e, List.append_assoc]
      rfl
    · rw [if_pos (by decide), if_neg hr']
      unfold fz_mo_writeWave_182
      rw [show (1 : Int32) + 1 = 2 from rfl, zb_l2 h _ _ (by omega)]
      simp only [Option.bind_some]
      rw [e1, ih (i + 1) f _ (by omega) (by omega) (by simp [zf_le_len]; omega)]
      simp only [zw_d, zw_e, if_neg (show ¬ (2 : Int32) = 1 by decide), List.append_assoc]
theorem zm_writePlain {m : am_Z} (h : zf_n 4 m 0) {al x1 : Int32} {n : Nat} (h1 : m.1 1 = Int32.ofNat n) (hn : n ≤ 64) (hx : x1 = 0 ∧ al = 1 ∨ x1 = 1 ∧ al = 2) (x2 : Int32) : fz_mo_writeWave m x1 x2 = some (zf_a 4 m (zf_be 1380533830 4 ++ zf_le 0 4 ++ (zw_B1 (m.1 3) al (m.1 1 * al) ++ zw_d (m.2.2 0) al n 0 ++ zw_p (m.1 1 * al)))) := by
  have g1 : ∀ l, (zf_a 4 m l).1 1 = Int32.ofNat n := fun l => (zf_a_i 4 (by decide) m).trans h1
  have hc : ¬ (2 : Int32) ≤ x1 ∧ ¬ x1 = 2 ∧ ¬ x1 = 3 ∧ x1 ≤ (1 : Int32) ∧ x1 + 1 = al := by
    rcases hx with ⟨rfl, rfl⟩ | ⟨rfl, rfl⟩ <;> decide
  obtain ⟨c2, c2', c3, c1, ha⟩ := hc
  have hsz : ∃ sz : Nat, sz < 1000 ∧ m.1 1 * al = Int32.ofNat sz := by
    rw [h1]
    rcases hx with ⟨-, rfl⟩ | ⟨-, rfl⟩
    · exact ⟨n * 1, by omega, nm_mul n 1⟩
    · exact ⟨n * 2, by omega, nm_mul n 2⟩
  obtain ⟨sz, hs, es⟩ := hsz
  have key : ∀ l : List Int32, l.length ≤ 100 → fz_mo_writeWave_105 x1 x2 (Int32.ofNat sz) (zf_a 4 m l) = some (zf_a 4 m (l ++ zf_le (Int32.toInt64 (Int32.ofNat sz)) 4 ++ zw_d (m.2.2 0) al n 0 ++ zw_p (Int32.ofNat sz))) := by
    intro l hl
    unfold fz_mo_writeWave_105
    rw [zb_l4 h _ _ (by omega)]
    simp only [Option.bind_some]
    rw [if_pos c2', if_pos c3, show (0 : Int32) = Int32.ofNat 0 from rfl, zm_plain h h1 hn hx hs n 0 fz_fu _ (by omega) (by show n < 1000; omega) (by simp [zf_le_len]; omega)]
  have g : ∀ q : am_Z, q.1 1 = m.1 1 → (if ¬ x1 = 0 then (if ¬ x1 = (1 : Int32) then (if ¬ x1 = (2 : Int32) then (fz_mo_blocks (q.1 1) (((2 : Int32) * x2) + (2 : Int32))).bind fun q6 => fz_mo_writeWave_105 x1 x2 ((x2 + (7 : Int32)) * q6) q else (fz_mo_blocks (q.1 1) (((2 : Int32) * x2) + (1 : Int32))).bind fun q7 => fz_mo_writeWave_105 x1 x2 ((x2 + (4 : Int32)) * q7) q) else fz_mo_writeWave_105 x1 x2 ((2 : Int32) * (q.1 1)) q) else fz_mo_writeWave_105 x1 x2 (q.1 1) q) = fz_mo_writeWave_105 x1 x2 (Int32.ofNat sz) q := by
    intro q hq
    rw [hq, ← es]
    rcases hx with ⟨rfl, rfl⟩ | ⟨rfl, rfl⟩
    · rw [if_neg (not_not_intro rfl), Int32.mul_one]
    · rw [if_pos (by decide), if_neg (not_not_intro rfl), Int32.mul_comm]
  unfold fz_mo_writeWave
  rw [show m = zf_a 4 m [] from rfl, zb_b4 h _ _ (by decide)]
  simp only [Option.bind_some]
  rw [zb_l4 h _ _ (by simp [zf_be_len])]
  simp only [Option.bind_some]
  rw [zb_b4 h _ _ (by simp [zf_be_len, zf_le_len])]
  simp only [Option.bind_some]
  rw [zm_fmt1 h rfl c2 c2' c3 c1 ha _ _ (by simp [zf_be_len, zf_le_len])]
  simp only [Option.bind_some]
  rw [zb_b4 h _ _ (by simp [zf_be_len, zf_le_len, zw_fp_len])]
  simp only [Option.bind_some]
  rw [g _ (by rw [g1, h1]), key _ (by simp [zf_be_len, zf_le_len, zw_fp_len])]
  simp only [zf_a_nil, es, zw_B1, List.append_assoc, List.nil_append]
theorem zw_d_congr {r r' : Nat → Int32} (al : Int32) : ∀ (d i : Nat), (∀ j, i ≤ j → j < i + d → r j = r' j) → zw_d r al d i = zw_d r' al d i := by
  intro d
  induction d with
  | zero => intro i _; rfl
  | succ d ih =>
    intro i hh
    simp only [zw_d, zw_e]
    rw [hh i (by omega) (by omega), ih (i + 1) (fun j h1 h2 => hh j (by omega) (by omega))]
theorem zf_by_1 (x : Int32) : zf_by [x &&& (255 : Int32)] := by
  intro y hy
  rw [List.mem_singleton.mp hy]
  exact nm_and255 x
theorem zf_by_nil : zf_by [] := fun x hx => absurd hx (by simp)
theorem zf_by_d (r : Nat → Int32) (al : Int32) : ∀ (d i : Nat), zf_by (zw_d r al d i) := by
  intro d
  induction d with
  | zero => intro i; exact zf_by_nil
  | succ d ih =>
    intro i
    refine zf_by_app ?_ (ih (i + 1))
    unfold zw_e
    split
    · exact zf_by_1 _
    · exact zf_by_le _ _
theorem zf_by_p (x : Int32) : zf_by (zw_p x) := by
  unfold zw_p
  split
  · exact zf_by_nil
  · exact zf_by_1 0
theorem zf_by_fp (p a : Int32) : zf_by (zw_fp p a) := by
  unfold zw_fp
  exact zf_by_app (zf_by_app (zf_by_app (zf_by_app (zf_by_app (zf_by_app (zf_by_app (zf_by_be _ _) (zf_by_le _ _)) (zf_by_le _ _)) (zf_by_le _ _)) (zf_by_le _ _)) (zf_by_le _ _)) (zf_by_le _ _)) (zf_by_le _ _)
theorem zw_d_len1 (r : Nat → Int32) : ∀ (d i : Nat), (zw_d r 1 d i).length = d := by
  intro d
  induction d with
  | zero => intro i; rfl
  | succ d ih => intro i; simp only [zw_d, zw_e, List.length_append, ih]; simp; omega
theorem zw_d_len2 (r : Nat → Int32) : ∀ (d i : Nat), (zw_d r 2 d i).length = d * 2 := by
  intro d
  induction d with
  | zero => intro i; rfl
  | succ d ih => intro i; simp only [zw_d, zw_e, List.length_append, ih, if_neg (show ¬ (2 : Int32) = 1 by decide), zf_le_len]; omega
/-- what is told of the size -/
theorem zw_V1_eq {sz : Nat} (h : sz < 1000) : zw_V1 (Int32.ofNat sz) = zf_le (Int32.toInt64 (Int32.ofNat (36 + sz + sz % 2))) 4 := by
  unfold zw_V1 zw_z
  rw [nm_m2 (by omega), show ((12 : Int32) + 16) + 0 = Int32.ofNat 28 from rfl, show (8 : Int32) = Int32.ofNat 8 from rfl, nm_add, nm_add, nm_add]
  congr 3
  omega
theorem zm_40 (x1 x2 : Int32) (m : am_Z) : fz_mo_write_40 x1 x2 m = fz_mo_write_56 x1 x2 1 0 m := by
  unfold fz_mo_write_40 fz_mo_write_45
  rw [if_neg (show ¬ (1 : Int32) = 0 by decide)]
theorem zm_good (x1 x2 : Int32) (m : am_Z) (h1 : fz_mo_within (Int32.toInt64 x1) 0 4 = some 1) (h2 : x1 < (2 : Int32)) : fz_mo_write m x1 x2 = fz_mo_write_56 x1 x2 1 0 m := by
  unfold fz_mo_write
  rw [h1]
  simp only [Option.bind_some]
  rw [if_neg (show ¬ (1 : Int32) = 0 by decide), if_pos h2, zm_40]
theorem zc_plain (sc : am_S) {s m : am_Z} (hz : zv s m) (o : Nat → Int64) (t : am_H) {al x1 : Int32} (hx : x1 = 0 ∧ al = 1 ∨ x1 = 1 ∧ al = 2) (x2 : Int32) : zq s m o t (fz_la_write sc s m o t x1 x2) (fz_mo_write m x1 x2) := by
  obtain ⟨⟨n, hn, h1, h2, h3⟩, ⟨r1, r2, r3⟩, -, -⟩ := id hz
  obtain ⟨sz, hs, es, el⟩ : ∃ sz : Nat, sz < 1000 ∧ s.1 1 * al = Int32.ofNat sz ∧ (zw_d (s.2.2 0) al n 0).length = sz := by
    rw [h1]
    rcases hx with ⟨-, rfl⟩ | ⟨-, rfl⟩
    · exact ⟨n * 1, by omega, nm_mul n 1, by rw [zw_d_len1]; omega⟩
    · exact ⟨n * 2, by omega, nm_mul n 2, by rw [zw_d_len2]⟩
  have ep : (zw_p (Int32.ofNat sz)).length = sz % 2 := by rw [zw_p_le (by omega), zf_le_len]
  have hsz2 : sz ≤ 128 := by
    have := zw_d_len (s.2.2 0) al n 0
    omega
  have em : m.1 1 * al = Int32.ofNat sz := by rw [h2, ← h1]; exact es
  have eL : (zf_be 1380533830 4 ++ zw_V1 (s.1 1 * al) ++ (zw_B1 (s.1 2) al (s.1 1 * al) ++ zw_d (s.2.2 0) al n 0 ++ zw_p (s.1 1 * al))).length = 44 + sz + sz % 2 := by
    rw [es]
    simp only [List.length_append, zf_be_len, zf_le_len, zw_V1, zw_B1, zw_fp_len, el, ep]
    omega
  have hm : zf_n 4 (zz_i (zz_i m 0 0) 4 0) 0 := ⟨rfl, by decide⟩
  have hS : zf_n 3 (zw_S1 s al) 0 := ⟨rfl, by decide⟩
  have hW := zm_writePlain hm (al := al) (x1 := x1) (n := n) h2 hn hx x2
  have hC := za_writePlain h1 hn al
  have eB : zw_B1 ((zz_i (zz_i m 0 0) 4 0).1 3) al ((zz_i (zz_i m 0 0) 4 0).1 1 * al) ++ zw_d ((zz_i (zz_i m 0 0) 4 0).2.2 0) al n 0 ++ zw_p ((zz_i (zz_i m 0 0) 4 0).1 1 * al) = zw_B1 (s.1 2) al (s.1 1 * al) ++ zw_d (s.2.2 0) al n 0 ++ zw_p (s.1 1 * al) := by
    show zw_B1 (m.1 3) al (m.1 1 * al) ++ zw_d (m.2.2 0) al n 0 ++ zw_p (m.1 1 * al) = _
    rw [h2, ← h1, r1, zw_d_congr al n 0 (fun j _ hj => ((h3 j (by omega)).1).symm)]
  rw [eB] at hW
  have hx0 := zx_0 (s := s) (m := m) (A := zf_be 1380533830 4) (V := zw_V1 (s.1 1 * al)) (Z := zf_le 0 4) (B := zw_B1 (s.1 2) al (s.1 1 * al) ++ zw_d (s.2.2 0) al n 0 ++ zw_p (s.1 1 * al)) hS hm (zf_be_len _ _) (zf_le_len _ _) (zf_le_len _ _) (by rw [eL]; omega) (zf_by_app (zf_by_app (zf_by_be _ _) (zf_by_le _ _)) (zf_by_app (zf_by_app (zf_by_app (zf_by_app (zf_by_app (zf_by_be _ _) (zf_by_fp _ _)) (zf_by_be _ _)) (zf_by_le _ _)) (zf_by_d _ _ _ _)) (zf_by_p _))) ⟨rfl, rfl, rfl, rfl⟩ ⟨rfl, rfl, rfl, rfl⟩ rfl
  rw [eL] at hx0
  have hV : zw_V1 (s.1 1 * al) = zf_le (Int32.toInt64 (Int32.ofNat (44 + sz + sz % 2 - 8))) 4 := by
    rw [es, zw_V1_eq hs, show 44 + sz + sz % 2 - 8 = 36 + sz + sz % 2 by omega]
  have hx1 : zx s m (zf_a 3 (zw_S1 s al) (zf_be 1380533830 4 ++ zw_V1 (s.1 1 * al) ++ (zw_B1 (s.1 2) al (s.1 1 * al) ++ zw_d (s.2.2 0) al n 0 ++ zw_p (s.1 1 * al)))) (zf_a 4 (zz_i (zz_i m 0 0) 4 0) (zf_be 1380533830 4 ++ zf_le 0 4 ++ (zw_B1 (s.1 2) al (s.1 1 * al) ++ zw_d (s.2.2 0) al n 0 ++ zw_p (s.1 1 * al)))) (44 + sz + sz % 2) (zf_le (Int32.toInt64 (Int32.ofNat (44 + sz + sz % 2 - 8))) 4) := by
    rw [← hV]
    exact hx0
  have hg : fz_mo_write m x1 x2 = fz_mo_write_56 x1 x2 1 0 m := by
    rcases hx with ⟨rfl, -⟩ | ⟨rfl, -⟩
    · exact zm_good 0 x2 m (by decide) (by decide)
    · exact zm_good 1 x2 m (by decide) (by decide)
  refine zx_wave sc hz o t (by rcases hx with ⟨rfl, -⟩ | ⟨rfl, -⟩ <;> decide) hg hW ?_ (by omega) hx1
  unfold fz_sh_write
  rcases hx with ⟨rfl, rfl⟩ | ⟨rfl, rfl⟩
  · rw [show fz_sh_isWritable 0 x2 = some 1 from rfl]
    simp only [Option.bind_some]
    rw [if_pos (show ¬ (1 : Int32) = 0 by decide), if_neg (show ¬ (Int32.toInt 0 < 0 ∨ 3 < Int32.toInt 0) by decide), if_pos trivial, hC]
    rfl
  · rw [show fz_sh_isWritable 1 x2 = some 1 from rfl]
    simp only [Option.bind_some]
    rw [if_pos (show ¬ (1 : Int32) = 0 by decide), if_neg (show ¬ (Int32.toInt 1 < 0 ∨ 3 < Int32.toInt 1) by decide), if_neg (show ¬ (1 : Int32) = 0 by decide), if_pos trivial, hC]
    rfl
