/-! Writing: the heads of files with blocks, of both (printed by wip/gen/genW6.py). -/
/-- a step of a chain of calls; stated so that it is no step by unfolding (the kernel would compute the bytes) -/
theorem zbs {α β : Type} (a : α) (f : α → Option β) : (some a).bind f = f a := by
  have h : ∀ o : Option α, o = some a → o.bind f = f a := by
    intro o ho
    subst ho
    rfl
  exact h _ rfl
def zw_pr : Nat → Nat → List Int32
  | 0, _ => []
  | d + 1, k => zf_le (Int32.toInt64 (am_vPAIRS.getD (2 * k) 0)) 2 ++ (zf_le (Int32.toInt64 (am_vPAIRS.getD (2 * k + 1) 0)) 2 ++ zw_pr d (k + 1))
theorem zw_pr_len : ∀ (d k : Nat), (zw_pr d k).length = 4 * d := by
  intro d
  induction d with
  | zero => intro k; rfl
  | succ d ih => intro k; simp only [zw_pr, List.length_append, zf_le_len, ih]; omega
theorem zw_pr_by : ∀ (d k : Nat), zf_by (zw_pr d k) := by
  intro d
  induction d with
  | zero => intro k; exact zf_by_nil
  | succ d ih => intro k; exact zf_by_app (zf_by_le _ _) (zf_by_app (zf_by_le _ _) (ih _))
theorem za_pr {s : am_Z} (h : zf_n 3 s 0) : ∀ (d k f : Nat) (l : List Int32), k + d = 7 → 2 * d < f → l.length + 4 * d ≤ 400 → fz_wr_putFmt_196 f 14 (Int32.ofNat (2 * k)) (zf_a 3 s l) = some (zf_a 3 s (l ++ zw_pr d k)) := by
  intro d
  induction d with
  | zero =>
    intro k f l hk hf hl
    obtain ⟨f, rfl⟩ : ∃ g, f = g + 1 := ⟨f - 1, by omega⟩
    have : k = 7 := by omega
    subst this
    unfold fz_wr_putFmt_196
    rw [if_pos (show (14 : Int32) ≤ Int32.ofNat (2 * 7) by decide)]
    simp only [zw_pr, List.append_nil]
  | succ d ih =>
    intro k f l hk hf hl
    obtain ⟨f, rfl⟩ : ∃ g, f = g + 1 + 1 := ⟨f - 2, by omega⟩
    have hr : ∀ j, j < 14 → ¬ (Int32.ofNat j < 0 ∨ 14 ≤ j) := fun j hj hh => hh.elim (nm_nneg (by omega)) (by omega)
    have h14 : ∀ j, j < 14 → ¬ (14 : Int32) ≤ Int32.ofNat j := by
      intro j hj
      rw [show (14 : Int32) = Int32.ofNat 14 from rfl, nm_le (by omega) (by omega)]
      omega
    have e1 : Int32.ofNat (2 * k) + (1 : Int32) = Int32.ofNat (2 * k + 1) := nm_add _ 1
    have e2 : Int32.ofNat (2 * k + 1) + (1 : Int32) = Int32.ofNat (2 * (k + 1)) := nm_add _ 1
    unfold fz_wr_putFmt_196
    rw [if_neg (h14 _ (by omega)), nm_clamp (by omega), if_neg (hr _ (by omega)), za_l2 h _ _ (by omega)]
    simp only [zbs]
    rw [e1]
    unfold fz_wr_putFmt_196
    rw [if_neg (h14 _ (by omega)), nm_clamp (by omega), if_neg (hr _ (by omega)), za_l2 h _ _ (by simp [zf_le_len]; omega)]
    simp only [zbs]
    rw [e2, ih (k + 1) f _ (by omega) (by omega) (by simp [zf_le_len]; omega)]
    simp only [zw_pr, List.append_assoc]
theorem za_pr7 {s : am_Z} (h : zf_n 3 s 0) (l : List Int32) (hl : l.length + 28 ≤ 400) : fz_wr_putFmt_196 fz_fu 14 0 (zf_a 3 s l) = some (zf_a 3 s (l ++ zw_pr 7 0)) := by
  have e0 : Int32.ofNat (2 * 0) = 0 := rfl
  have := za_pr h 7 0 fz_fu l (by omega) (by show 14 < 1000; omega) (by omega)
  rw [e0] at this
  exact this
theorem zm_pair : ∀ k : Fin 7, fz_mo_first (Int32.ofNat k.1) = some (am_vPAIRS.getD (2 * k.1) 0) ∧ fz_mo_second (Int32.ofNat k.1) = some (am_vPAIRS.getD (2 * k.1 + 1) 0) := by decide
theorem zm_pr {s : am_Z} (h : zf_n 4 s 0) : ∀ (d k f : Nat) (l : List Int32), k + d = 7 → d < f → l.length + 4 * d ≤ 400 → fz_mo_writeFormat_234 f 3 (Int32.ofNat k) (zf_a 4 s l) = fz_mo_writeFormat_269 3 (zf_a 4 s (l ++ zw_pr d k)) := by
  intro d
  induction d with
  | zero =>
    intro k f l hk hf hl
    obtain ⟨f, rfl⟩ : ∃ g, f = g + 1 := ⟨f - 1, by omega⟩
    have : k = 7 := by omega
    subst this
    unfold fz_mo_writeFormat_234
    rw [if_pos (show (7 : Int32) ≤ Int32.ofNat 7 by decide)]
    simp only [zw_pr, List.append_nil]
  | succ d ih =>
    intro k f l hk hf hl
    obtain ⟨f, rfl⟩ : ∃ g, f = g + 1 := ⟨f - 1, by omega⟩
    obtain ⟨p1, p2⟩ := zm_pair ⟨k, by omega⟩
    have e1 : Int32.ofNat k + (1 : Int32) = Int32.ofNat (k + 1) := nm_add _ 1
    unfold fz_mo_writeFormat_234
    rw [if_neg (show ¬ (7 : Int32) ≤ Int32.ofNat k by rw [show (7 : Int32) = Int32.ofNat 7 from rfl, nm_le (by omega) (by omega)]; omega), p1, p2]
    simp only [zbs]
    rw [zb_l2 h _ _ (by omega)]
    simp only [zbs]
    rw [zb_l2 h _ _ (by simp [zf_le_len]; omega)]
    simp only [zbs]
    rw [e1, ih (k + 1) f _ (by omega) (by omega) (by simp [zf_le_len]; omega)]
    simp only [zw_pr, List.append_assoc]
theorem zm_pr7 {s : am_Z} (h : zf_n 4 s 0) (l : List Int32) (hl : l.length + 28 ≤ 400) : fz_mo_writeFormat_234 fz_fu 3 0 (zf_a 4 s l) = fz_mo_writeFormat_269 3 (zf_a 4 s (l ++ zw_pr 7 0)) := by
  have e0 : Int32.ofNat 0 = 0 := rfl
  have := zm_pr h 7 0 fz_fu l (by omega) (by show 7 < 1000; omega) (by omega)
  rw [e0] at this
  exact this
/-- "fmt " and "fact" -/
def zw_f17 (pace al ib : Int32) : List Int32 := zf_be 1718449184 4 ++ zf_le 20 4 ++ zf_le 17 2 ++ zf_le 1 2 ++ zf_le (Int32.toInt64 pace) 4 ++ zf_le (Int32.toInt64 (pace * al / ib)) 4 ++ zf_le (Int32.toInt64 al) 2 ++ zf_le 4 2 ++ zf_le 2 2 ++ zf_le (Int32.toInt64 ib) 2
theorem zw_f17_len (pace al ib : Int32) : (zw_f17 pace al ib).length = 28 := by simp [zw_f17, zf_be_len, zf_le_len]
theorem zw_f17_by (pace al ib : Int32) : zf_by (zw_f17 pace al ib) := by
  unfold zw_f17
  exact (zf_by_app (zf_by_app (zf_by_app (zf_by_app (zf_by_app (zf_by_app (zf_by_app (zf_by_app (zf_by_app (zf_by_be _ _) (zf_by_le _ _)) (zf_by_le _ _)) (zf_by_le _ _)) (zf_by_le _ _)) (zf_by_le _ _)) (zf_by_le _ _)) (zf_by_le _ _)) (zf_by_le _ _)) (zf_by_le _ _))
def zw_B17 (pace al ib cnt size : Int32) : List Int32 := zf_be 1463899717 4 ++ zw_f17 pace al ib ++ zf_be 1717658484 4 ++ zf_le 4 4 ++ zf_le (Int32.toInt64 cnt) 4 ++ zf_be 1684108385 4 ++ zf_le (Int32.toInt64 size) 4
theorem zw_B17_len (pace al ib cnt size : Int32) : (zw_B17 pace al ib cnt size).length = 52 := by simp [zw_B17, zf_be_len, zf_le_len, zw_f17_len]
theorem zw_B17_by (pace al ib cnt size : Int32) : zf_by (zw_B17 pace al ib cnt size) := by
  unfold zw_B17
  exact zf_by_app (zf_by_app (zf_by_app (zf_by_app (zf_by_app (zf_by_app (zf_by_be _ _) (zw_f17_by _ _ _)) (zf_by_be _ _)) (zf_by_le _ _)) (zf_by_le _ _)) (zf_by_be _ _)) (zf_by_le _ _)
theorem za_fmt17 {s : am_Z} (h : zf_n 3 s 0) {pace al ib : Int32} (h2 : s.1 2 = pace) (h4 : s.1 4 = 17) (h6 : s.1 6 = al) (h7 : s.1 7 = ib) (hib : ¬ ib = 0) (l : List Int32) (hl : l.length ≤ 100) : fz_wr_putFmt (zf_a 3 s l) = some (zf_a 3 s (l ++ zw_f17 pace al ib)) := by
  have g4 : ∀ l, (zf_a 3 s l).1 4 = 17 := fun l => (zf_a_i 3 (by decide) s).trans h4
  have g2 : ∀ l, (zf_a 3 s l).1 2 = pace := fun l => (zf_a_i 3 (by decide) s).trans h2
  have g6 : ∀ l, (zf_a 3 s l).1 6 = al := fun l => (zf_a_i 3 (by decide) s).trans h6
  have g7 : ∀ l, (zf_a 3 s l).1 7 = ib := fun l => (zf_a_i 3 (by decide) s).trans h7
  have k1 : ∀ l, fz_fm_sizeOfFmt_6 (zf_a 3 s l) = some 20 := by
    intro l
    unfold fz_fm_sizeOfFmt_6
    rw [g4, if_pos (by decide), if_neg (by decide)]
  have k2 : ∀ l, fz_fm_hasBlocks_6 (zf_a 3 s l) = some 1 := by
    intro l
    unfold fz_fm_hasBlocks_6 fz_fm_hasBlocks_6_17
    rw [g4, if_pos rfl]
  have k3 : ∀ l, fz_fm_bits_6 (zf_a 3 s l) = some 4 := by
    intro l
    unfold fz_fm_bits_6
    rw [k2]
    rfl
  have k4 : ∀ l x, fz_fm_bytesASecond_6 (zf_a 3 s l) x = some (x * al / ib) := by
    intro l x
    unfold fz_fm_bytesASecond_6
    rw [g7, g6, if_neg hib]
  have k5 : ∀ l, fz_fm_sizeOfMore_6 (zf_a 3 s l) = some 2 := by
    intro l
    unfold fz_fm_sizeOfMore_6
    rw [k1]
    rfl
  unfold fz_wr_putFmt fz_wr_putFmt_165
  rw [za_b4 h l _ (by omega)]
  simp only [zbs, k1]
  rw [za_l4 h _ _ (by simp [zf_be_len]; omega)]
  simp only [zbs, g4]
  rw [za_l2 h _ _ (by simp [zf_be_len, zf_le_len]; omega)]
  simp only [zbs]
  rw [za_l2 h _ _ (by simp [zf_be_len, zf_le_len]; omega)]
  simp only [zbs, g2]
  rw [za_l4 h _ _ (by simp [zf_be_len, zf_le_len]; omega)]
  simp only [zbs, g2, k4]
  rw [za_l4 h _ _ (by simp [zf_be_len, zf_le_len]; omega)]
  simp only [zbs, g6]
  rw [za_l2 h _ _ (by simp [zf_be_len, zf_le_len]; omega)]
  simp only [zbs, k3]
  rw [za_l2 h _ _ (by simp [zf_be_len, zf_le_len]; omega)]
  simp only [zbs, k2, g4, k5]
  rw [if_neg (show ¬ (1 : Int32) = 0 by decide), za_l2 h _ _ (by simp [zf_be_len, zf_le_len]; omega)]
  simp only [zbs, g7]
  rw [za_l2 h _ _ (by simp [zf_be_len, zf_le_len]; omega)]
  simp only [zbs, g4]
  rw [if_pos (show ¬ (17 : Int32) = 2 by decide)]
  simp only [zw_f17, List.append_assoc, (by decide : Int32.toInt64 20 = 20), (by decide : Int32.toInt64 17 = 17), (by decide : Int32.toInt64 4 = 4), (by decide : Int32.toInt64 2 = 2)]
def zw_S17 (s : am_Z) (q : Nat) : am_Z := zz_i (zz_i (zz_i (zz_i (zz_i (zz_i s 4 17) 5 4) 6 (Int32.ofNat (4 + q))) 7 1) 7 (Int32.ofNat (2 * q + 1))) 3 0
def zw_z17 (n q : Nat) : Nat := (n + 2 * q + 1 - 1) / (2 * q + 1) * (4 + q)
def zw_V17 (z : Nat) : List Int32 := zf_le (Int32.toInt64 ((((12 : Int32) + 20) + 12) + (((8 : Int32) + Int32.ofNat z) + (Int32.ofNat z - Int32.ofNat z / (2 : Int32) * (2 : Int32))))) 4
theorem zw_z17_le {n q : Nat} (hn : n ≤ 64) (h1 : 1 ≤ q) (h8 : q ≤ 8) : zw_z17 n q ≤ 120 := by
  unfold zw_z17
  have hq : q = 1 ∨ q = 2 ∨ q = 3 ∨ q = 4 ∨ q = 5 ∨ q = 6 ∨ q = 7 ∨ q = 8 := by omega
  rcases hq with rfl | rfl | rfl | rfl | rfl | rfl | rfl | rfl <;> omega
theorem zw_d17 {n q : Nat} (hn : n ≤ 64) (h8 : q ≤ 8) : (Int32.ofNat n + Int32.ofNat (2 * q + 1) - (1 : Int32)) / Int32.ofNat (2 * q + 1) * Int32.ofNat (4 + q) = Int32.ofNat (zw_z17 n q) := by
  rw [nm_add, show (1 : Int32) = Int32.ofNat 1 from rfl, nm_sub (by omega), nm_div (by omega) (by omega), nm_mul]
  unfold zw_z17
  rw [show n + (2 * q + 1) - 1 = n + 2 * q + 1 - 1 by omega]
theorem za_start17 {s : am_Z} {n q : Nat} (h1 : s.1 1 = Int32.ofNat n) (hn : n ≤ 64) (hq1 : 1 ≤ q) (hq8 : q ≤ 8) : fz_wr_startWave s 17 (Int32.ofNat (4 + q)) = some (zf_a 3 (zw_S17 s q) (zf_be 1380533830 4 ++ zw_V17 (zw_z17 n q) ++ zw_B17 (s.1 2) (Int32.ofNat (4 + q)) (Int32.ofNat (2 * q + 1)) (s.1 1) (Int32.ofNat (zw_z17 n q)))) := by
  have hS : zf_n 3 (zw_S17 s q) 0 := ⟨rfl, by decide⟩
  have hib : ¬ Int32.ofNat (2 * q + 1) = 0 := by
    rw [show (0 : Int32) = Int32.ofNat 0 from rfl, nm_inj (by omega) (by omega)]
    omega
  have e1 : fz_fm_setTag_6 s 17 = some (zz_i (zz_i s 4 17) 5 4) := by
    unfold fz_fm_setTag_6
    rw [if_neg (by decide)]
  have kb : ∀ z : am_Z, z.1 4 = 17 → fz_fm_hasBlocks_6 z = some 1 := by
    intro z hz
    unfold fz_fm_hasBlocks_6 fz_fm_hasBlocks_6_17
    rw [hz, if_pos rfl]
  have e2 : fz_fm_setAlign_6 (zz_i (zz_i s 4 17) 5 4) (Int32.ofNat (4 + q)) = some (zz_i (zz_i (zz_i (zz_i (zz_i s 4 17) 5 4) 6 (Int32.ofNat (4 + q))) 7 1) 7 (Int32.ofNat (2 * q + 1))) := by
    have e3 : Int32.ofNat (4 + q) - (4 : Int32) = Int32.ofNat q := by
      rw [show (4 : Int32) = Int32.ofNat 4 from rfl, nm_sub (by omega), Nat.add_sub_cancel_left]
    have e5 : (2 : Int32) * Int32.ofNat q + (1 : Int32) = Int32.ofNat (2 * q + 1) := by
      rw [show (2 : Int32) * Int32.ofNat q = Int32.ofNat (2 * q) from nm_mul 2 q]
      exact nm_add (2 * q) 1
    have e6 : (1 : Int32) < Int32.ofNat (2 * q + 1) := (nm_lt (a := 1) (by omega) (by omega)).mpr (by omega)
    unfold fz_fm_setAlign_6 fz_fm_setAlign_6_39 fz_ma_max
    rw [kb _ rfl]
    simp only [zbs]
    rw [if_neg (show ¬ (1 : Int32) = 0 by decide)]
    rw [show fz_fm_bytesOfNibbles_6 (zz_i (zz_i (zz_i (zz_i s 4 17) 5 4) 6 (Int32.ofNat (4 + q))) 7 1) = some (Int32.ofNat (4 + q) - (4 : Int32)) from rfl, e3]
    simp only [zbs]
    rw [show (zz_i (zz_i s 4 17) 5 4).1 4 = 17 from rfl, if_neg (show ¬ ¬ (17 : Int32) = 17 by decide)]
    rw [e5, if_pos e6]
    simp only [zbs]
  have e3 : fz_fm_sizeOfData_6 (zz_i (zz_i (zz_i (zz_i (zz_i s 4 17) 5 4) 6 (Int32.ofNat (4 + q))) 7 1) 7 (Int32.ofNat (2 * q + 1))) (s.1 1) = some (Int32.ofNat (zw_z17 n q)) := by
    unfold fz_fm_sizeOfData_6
    show (if Int32.ofNat (2 * q + 1) = 0 then none else some ((((s.1 1 + Int32.ofNat (2 * q + 1)) - (1 : Int32)) / Int32.ofNat (2 * q + 1)) * Int32.ofNat (4 + q))) = _
    rw [if_neg hib, h1, zw_d17 hn hq8]
  have e4 : ∀ l, fz_fm_sizeOfFmt_6 (zf_a 3 (zw_S17 s q) l) = some 20 := by
    intro l
    unfold fz_fm_sizeOfFmt_6
    rw [zf_a_i 3 (by decide), show (zw_S17 s q).1 4 = 17 from rfl, if_pos (by decide), if_neg (by decide)]
  have g1 : ∀ l, (zf_a 3 (zw_S17 s q) l).1 1 = s.1 1 := fun l => zf_a_i 3 (by decide) _
  unfold fz_wr_startWave
  rw [e1]
  simp only [zbs]
  rw [e2]
  simp only [zbs]
  rw [show fz_fm_sizeOfData_6 (zz_i (zz_i (zz_i (zz_i (zz_i s 4 17) 5 4) 6 (Int32.ofNat (4 + q))) 7 1) 7 (Int32.ofNat (2 * q + 1))) ((zz_i (zz_i (zz_i (zz_i (zz_i s 4 17) 5 4) 6 (Int32.ofNat (4 + q))) 7 1) 7 (Int32.ofNat (2 * q + 1))).1 1) = some (Int32.ofNat (zw_z17 n q)) from e3, kb _ rfl]
  simp only [zbs]
  rw [if_neg (show ¬ (1 : Int32) = 0 by decide)]
  unfold fz_wr_startWave_47 fz_wr_startWave_166
  rw [show fz_by_putBig (zz_i (zz_i (zz_i (zz_i (zz_i (zz_i s 4 17) 5 4) 6 (Int32.ofNat (4 + q))) 7 1) 7 (Int32.ofNat (2 * q + 1))) 3 0) 1380533830 4 = some (zf_a 3 (zw_S17 s q) ([] ++ zf_be 1380533830 4)) from za_b4 hS [] _ (by decide)]
  simp only [zbs, e4, List.nil_append]
  rw [za_l4 hS _ _ (by simp [zf_be_len])]
  simp only [zbs]
  rw [za_b4 hS _ _ (by simp [zf_be_len, zf_le_len])]
  simp only [zbs]
  rw [za_fmt17 hS (pace := s.1 2) (al := Int32.ofNat (4 + q)) (ib := Int32.ofNat (2 * q + 1)) rfl rfl rfl rfl hib _ (by simp [zf_be_len, zf_le_len])]
  simp only [zbs]
  rw [kb _ (by rw [zf_a_i 3 (by decide)]; rfl)]
  simp only [zbs]
  rw [if_neg (show ¬ (1 : Int32) = 0 by decide), za_b4 hS _ _ (by simp [zf_be_len, zf_le_len, zw_f17_len])]
  simp only [zbs]
  rw [za_l4 hS _ _ (by simp [zf_be_len, zf_le_len, zw_f17_len])]
  simp only [zbs, g1]
  rw [za_l4 hS _ _ (by simp [zf_be_len, zf_le_len, zw_f17_len])]
  simp only [zbs]
  rw [za_b4 hS _ _ (by simp [zf_be_len, zf_le_len, zw_f17_len])]
  simp only [zbs]
  rw [za_l4 hS _ _ (by simp [zf_be_len, zf_le_len, zw_f17_len])]
  simp only [zbs, zw_V17, zw_B17, List.append_assoc]
/-- the same of the reference -/
theorem zm_fmt17 {m : am_Z} (h : zf_n 4 m 0) {pace cnt : Int32} (h3 : m.1 3 = pace) (h1 : m.1 1 = cnt) {q : Nat} (hq1 : 1 ≤ q) (hq8 : q ≤ 8) (l : List Int32) (hl : l.length ≤ 100) : fz_mo_writeFormat (zf_a 4 m l) 2 (Int32.ofNat q) = some (zf_a 4 m (l ++ zw_f17 pace (Int32.ofNat (4 + q)) (Int32.ofNat (2 * q + 1)) ++ zf_be 1717658484 4 ++ zf_le 4 4 ++ zf_le (Int32.toInt64 cnt) 4)) := by
  have g3 : ∀ l, (zf_a 4 m l).1 3 = pace := fun l => (zf_a_i 4 (by decide) m).trans h3
  have g1 : ∀ l, (zf_a 4 m l).1 1 = cnt := fun l => (zf_a_i 4 (by decide) m).trans h1
  have hib : ¬ Int32.ofNat (2 * q + 1) = 0 := by
    rw [show (0 : Int32) = Int32.ofNat 0 from rfl, nm_inj (by omega) (by omega)]
    omega
  have ea : Int32.ofNat q + (4 : Int32) = Int32.ofNat (4 + q) := by
    rw [show (4 : Int32) = Int32.ofNat 4 from rfl, nm_add, Nat.add_comm]
  have eb : (2 : Int32) * Int32.ofNat q + (1 : Int32) = Int32.ofNat (2 * q + 1) := by
    rw [show (2 : Int32) * Int32.ofNat q = Int32.ofNat (2 * q) from nm_mul 2 q]
    exact nm_add (2 * q) 1
  have e269 : ∀ l : List Int32, l.length ≤ 200 → fz_mo_writeFormat_269 2 (zf_a 4 m l) = some (zf_a 4 m (l ++ zf_be 1717658484 4 ++ zf_le 4 4 ++ zf_le (Int32.toInt64 cnt) 4)) := by
    intro l hl
    unfold fz_mo_writeFormat_269
    rw [if_neg (by decide), zb_b4 h _ _ (by omega)]
    simp only [zbs]
    rw [zb_l4 h _ _ (by simp [zf_be_len]; omega)]
    simp only [zbs, g1]
    rw [zb_l4 h _ _ (by simp [zf_be_len, zf_le_len]; omega)]
    rfl
  unfold fz_mo_writeFormat fz_mo_writeFormat_22 fz_mo_writeFormat_49 fz_mo_writeFormat_78
  rw [if_pos (show (2 : Int32) ≤ 2 by decide), if_neg (show ¬ ¬ (2 : Int32) = 2 by decide), if_pos (show (2 : Int32) ≤ 2 by decide), if_neg (show ¬ ¬ (2 : Int32) = 2 by decide), if_neg (show ¬ ¬ (2 : Int32) = 2 by decide), ea, eb, zb_b4 h l _ (by omega)]
  simp only [zbs]
  rw [zb_l4 h _ _ (by simp [zf_be_len]; omega)]
  simp only [zbs]
  rw [if_pos (show (2 : Int32) ≤ 2 by decide)]
  rw [if_neg (not_not_intro trivial)]
  unfold fz_mo_writeFormat_120
  rw [zb_l2 h _ _ (by simp [zf_be_len, zf_le_len]; omega)]
  simp only [zbs]
  rw [zb_l2 h _ _ (by simp [zf_be_len, zf_le_len]; omega)]
  simp only [zbs, g3]
  rw [zb_l4 h _ _ (by simp [zf_be_len, zf_le_len]; omega)]
  simp only [zbs, g3]
  rw [if_neg hib, zb_l4 h _ _ (by simp [zf_be_len, zf_le_len]; omega)]
  simp only [zbs]
  rw [zb_l2 h _ _ (by simp [zf_be_len, zf_le_len]; omega)]
  simp only [zbs]
  rw [if_pos (show (2 : Int32) ≤ 2 by decide)]
  unfold fz_mo_writeFormat_182
  rw [zb_l2 h _ _ (by simp [zf_be_len, zf_le_len]; omega)]
  simp only [zbs]
  rw [if_neg (show ¬ 2 ≤ (1 : Int32) by decide), if_neg (not_not_intro trivial)]
  unfold fz_mo_writeFormat_206
  rw [zb_l2 h _ _ (by simp [zf_be_len, zf_le_len]; omega)]
  simp only [zbs]
  rw [zb_l2 h _ _ (by simp [zf_be_len, zf_le_len]; omega)]
  simp only [zbs]
  unfold fz_mo_writeFormat_218
  rw [if_pos (show ¬ (2 : Int32) = 3 by decide), e269 _ (by simp [zf_be_len, zf_le_len]; omega)]
  simp only [zw_f17, List.append_assoc, (by decide : Int32.toInt64 20 = 20)]
theorem zm_start17 {m : am_Z} (h : zf_n 4 m 0) {n q : Nat} (h1 : m.1 1 = Int32.ofNat n) (hn : n ≤ 64) (hq1 : 1 ≤ q) (hq8 : q ≤ 8) : fz_mo_writeWave m 2 (Int32.ofNat q) = (fz_mo_writeStepped (zf_a 4 m (zf_be 1380533830 4 ++ zf_le 0 4 ++ zw_B17 (m.1 3) (Int32.ofNat (4 + q)) (Int32.ofNat (2 * q + 1)) (m.1 1) (Int32.ofNat (zw_z17 n q)))) (Int32.ofNat q)).bind fun q2 => fz_mo_writeWave_194 (Int32.ofNat (zw_z17 n q)) q2 := by
  have g1 : ∀ l, (zf_a 4 m l).1 1 = Int32.ofNat n := fun l => (zf_a_i 4 (by decide) m).trans h1
  have hib : ¬ Int32.ofNat (2 * q + 1) = 0 := by
    rw [show (0 : Int32) = Int32.ofNat 0 from rfl, nm_inj (by omega) (by omega)]
    omega
  have ea : Int32.ofNat q + (4 : Int32) = Int32.ofNat (4 + q) := by
    rw [show (4 : Int32) = Int32.ofNat 4 from rfl, nm_add, Nat.add_comm]
  have eb : (2 : Int32) * Int32.ofNat q + (1 : Int32) = Int32.ofNat (2 * q + 1) := by
    rw [show (2 : Int32) * Int32.ofNat q = Int32.ofNat (2 * q) from nm_mul 2 q]
    exact nm_add (2 * q) 1
  have ebl : fz_mo_blocks (Int32.ofNat n) (Int32.ofNat (2 * q + 1)) = some ((Int32.ofNat n + Int32.ofNat (2 * q + 1) - (1 : Int32)) / Int32.ofNat (2 * q + 1)) := by
    unfold fz_mo_blocks
    rw [if_neg hib]
  unfold fz_mo_writeWave
  rw [show fz_mo_put m 1380533830 4 1 = some (zf_a 4 m ([] ++ zf_be 1380533830 4)) from zb_b4 h [] _ (by decide)]
  simp only [zbs, List.nil_append]
  rw [zb_l4 h _ _ (by simp [zf_be_len])]
  simp only [zbs]
  rw [zb_b4 h _ _ (by simp [zf_be_len, zf_le_len])]
  simp only [zbs]
  rw [zm_fmt17 h (pace := m.1 3) (cnt := m.1 1) rfl rfl hq1 hq8 _ (by simp [zf_be_len, zf_le_len])]
  simp only [zbs]
  rw [zb_b4 h _ _ (by simp [zf_be_len, zf_le_len, zw_f17_len])]
  simp only [zbs, g1]
  rw [if_pos (show ¬ (2 : Int32) = 0 by decide), if_pos (show ¬ (2 : Int32) = 1 by decide), if_neg (not_not_intro trivial), eb, ebl]
  simp only [zbs]
  rw [ea, Int32.mul_comm, zw_d17 hn hq8]
  unfold fz_mo_writeWave_105
  rw [zb_l4 h _ _ (by simp [zf_be_len, zf_le_len, zw_f17_len])]
  simp only [zbs]
  rw [if_neg (not_not_intro trivial)]
  simp only [zw_B17, List.append_assoc]
/-- "fmt " and "fact" -/
def zw_f2 (pace al ib : Int32) : List Int32 := zf_be 1718449184 4 ++ zf_le 50 4 ++ zf_le 2 2 ++ zf_le 1 2 ++ zf_le (Int32.toInt64 pace) 4 ++ zf_le (Int32.toInt64 (pace * al / ib)) 4 ++ zf_le (Int32.toInt64 al) 2 ++ zf_le 4 2 ++ zf_le 32 2 ++ zf_le (Int32.toInt64 ib) 2 ++ (zf_le 7 2 ++ zw_pr 7 0)
theorem zw_f2_len (pace al ib : Int32) : (zw_f2 pace al ib).length = 58 := by simp [zw_f2, zf_be_len, zf_le_len, zw_pr_len]
theorem zw_f2_by (pace al ib : Int32) : zf_by (zw_f2 pace al ib) := by
  unfold zw_f2
  exact zf_by_app (zf_by_app (zf_by_app (zf_by_app (zf_by_app (zf_by_app (zf_by_app (zf_by_app (zf_by_app (zf_by_app (zf_by_be _ _) (zf_by_le _ _)) (zf_by_le _ _)) (zf_by_le _ _)) (zf_by_le _ _)) (zf_by_le _ _)) (zf_by_le _ _)) (zf_by_le _ _)) (zf_by_le _ _)) (zf_by_le _ _)) (zf_by_app (zf_by_le _ _) (zw_pr_by _ _))
def zw_B2 (pace al ib cnt size : Int32) : List Int32 := zf_be 1463899717 4 ++ zw_f2 pace al ib ++ zf_be 1717658484 4 ++ zf_le 4 4 ++ zf_le (Int32.toInt64 cnt) 4 ++ zf_be 1684108385 4 ++ zf_le (Int32.toInt64 size) 4
theorem zw_B2_len (pace al ib cnt size : Int32) : (zw_B2 pace al ib cnt size).length = 82 := by simp [zw_B2, zf_be_len, zf_le_len, zw_f2_len]
theorem zw_B2_by (pace al ib cnt size : Int32) : zf_by (zw_B2 pace al ib cnt size) := by
  unfold zw_B2
  exact zf_by_app (zf_by_app (zf_by_app (zf_by_app (zf_by_app (zf_by_app (zf_by_be _ _) (zw_f2_by _ _ _)) (zf_by_be _ _)) (zf_by_le _ _)) (zf_by_le _ _)) (zf_by_be _ _)) (zf_by_le _ _)
theorem za_fmt2 {s : am_Z} (h : zf_n 3 s 0) {pace al ib : Int32} (h2 : s.1 2 = pace) (h4 : s.1 4 = 2) (h6 : s.1 6 = al) (h7 : s.1 7 = ib) (hib : ¬ ib = 0) (l : List Int32) (hl : l.length ≤ 100) : fz_wr_putFmt (zf_a 3 s l) = some (zf_a 3 s (l ++ zw_f2 pace al ib)) := by
  have g4 : ∀ l, (zf_a 3 s l).1 4 = 2 := fun l => (zf_a_i 3 (by decide) s).trans h4
  have g2 : ∀ l, (zf_a 3 s l).1 2 = pace := fun l => (zf_a_i 3 (by decide) s).trans h2
  have g6 : ∀ l, (zf_a 3 s l).1 6 = al := fun l => (zf_a_i 3 (by decide) s).trans h6
  have g7 : ∀ l, (zf_a 3 s l).1 7 = ib := fun l => (zf_a_i 3 (by decide) s).trans h7
  have k1 : ∀ l, fz_fm_sizeOfFmt_6 (zf_a 3 s l) = some 50 := by
    intro l
    unfold fz_fm_sizeOfFmt_6
    rw [g4, if_pos (by decide), if_pos (by decide)]
  have k2 : ∀ l, fz_fm_hasBlocks_6 (zf_a 3 s l) = some 1 := by
    intro l
    unfold fz_fm_hasBlocks_6 fz_fm_hasBlocks_6_17
    rw [g4, if_neg (by decide), if_neg (by decide)]
  have k3 : ∀ l, fz_fm_bits_6 (zf_a 3 s l) = some 4 := by
    intro l
    unfold fz_fm_bits_6
    rw [k2]
    rfl
  have k4 : ∀ l x, fz_fm_bytesASecond_6 (zf_a 3 s l) x = some (x * al / ib) := by
    intro l x
    unfold fz_fm_bytesASecond_6
    rw [g7, g6, if_neg hib]
  have k5 : ∀ l, fz_fm_sizeOfMore_6 (zf_a 3 s l) = some 32 := by
    intro l
    unfold fz_fm_sizeOfMore_6
    rw [k1]
    rfl
  unfold fz_wr_putFmt fz_wr_putFmt_165
  rw [za_b4 h l _ (by omega)]
  simp only [zbs, k1]
  rw [za_l4 h _ _ (by simp [zf_be_len]; omega)]
  simp only [zbs, g4]
  rw [za_l2 h _ _ (by simp [zf_be_len, zf_le_len]; omega)]
  simp only [zbs]
  rw [za_l2 h _ _ (by simp [zf_be_len, zf_le_len]; omega)]
  simp only [zbs, g2]
  rw [za_l4 h _ _ (by simp [zf_be_len, zf_le_len]; omega)]
  simp only [zbs, g2, k4]
  rw [za_l4 h _ _ (by simp [zf_be_len, zf_le_len]; omega)]
  simp only [zbs, g6]
  rw [za_l2 h _ _ (by simp [zf_be_len, zf_le_len]; omega)]
  simp only [zbs, k3]
  rw [za_l2 h _ _ (by simp [zf_be_len, zf_le_len]; omega)]
  simp only [zbs, k2, g4, k5]
  rw [if_neg (show ¬ (1 : Int32) = 0 by decide), za_l2 h _ _ (by simp [zf_be_len, zf_le_len]; omega)]
  simp only [zbs, g7]
  rw [za_l2 h _ _ (by simp [zf_be_len, zf_le_len]; omega)]
  simp only [zbs, g4]
  rw [if_neg (not_not_intro trivial), za_l2 h _ _ (by simp [zf_be_len, zf_le_len]; omega)]
  simp only [zbs]
  rw [za_pr7 h _ (by simp [zf_be_len, zf_le_len]; omega)]
  simp only [zw_f2, List.append_assoc, (by decide : Int32.toInt64 50 = 50), (by decide : Int32.toInt64 2 = 2), (by decide : Int32.toInt64 4 = 4), (by decide : Int32.toInt64 32 = 32)]
def zw_S2 (s : am_Z) (q : Nat) : am_Z := zz_i (zz_i (zz_i (zz_i (zz_i (zz_i s 4 2) 5 7) 6 (Int32.ofNat (7 + q))) 7 1) 7 (Int32.ofNat (2 * q + 2))) 3 0
def zw_z2 (n q : Nat) : Nat := (n + 2 * q + 2 - 1) / (2 * q + 2) * (7 + q)
def zw_V2 (z : Nat) : List Int32 := zf_le (Int32.toInt64 ((((12 : Int32) + 50) + 12) + (((8 : Int32) + Int32.ofNat z) + (Int32.ofNat z - Int32.ofNat z / (2 : Int32) * (2 : Int32))))) 4
theorem zw_z2_le {n q : Nat} (hn : n ≤ 64) (h1 : 1 ≤ q) (h8 : q ≤ 8) : zw_z2 n q ≤ 140 := by
  unfold zw_z2
  have hq : q = 1 ∨ q = 2 ∨ q = 3 ∨ q = 4 ∨ q = 5 ∨ q = 6 ∨ q = 7 ∨ q = 8 := by omega
  rcases hq with rfl | rfl | rfl | rfl | rfl | rfl | rfl | rfl <;> omega
theorem zw_d2 {n q : Nat} (hn : n ≤ 64) (h8 : q ≤ 8) : (Int32.ofNat n + Int32.ofNat (2 * q + 2) - (1 : Int32)) / Int32.ofNat (2 * q + 2) * Int32.ofNat (7 + q) = Int32.ofNat (zw_z2 n q) := by
  rw [nm_add, show (1 : Int32) = Int32.ofNat 1 from rfl, nm_sub (by omega), nm_div (by omega) (by omega), nm_mul]
  unfold zw_z2
  rw [show n + (2 * q + 2) - 1 = n + 2 * q + 2 - 1 by omega]
theorem za_start2 {s : am_Z} {n q : Nat} (h1 : s.1 1 = Int32.ofNat n) (hn : n ≤ 64) (hq1 : 1 ≤ q) (hq8 : q ≤ 8) : fz_wr_startWave s 2 (Int32.ofNat (7 + q)) = some (zf_a 3 (zw_S2 s q) (zf_be 1380533830 4 ++ zw_V2 (zw_z2 n q) ++ zw_B2 (s.1 2) (Int32.ofNat (7 + q)) (Int32.ofNat (2 * q + 2)) (s.1 1) (Int32.ofNat (zw_z2 n q)))) := by
  have hS : zf_n 3 (zw_S2 s q) 0 := ⟨rfl, by decide⟩
  have hib : ¬ Int32.ofNat (2 * q + 2) = 0 := by
    rw [show (0 : Int32) = Int32.ofNat 0 from rfl, nm_inj (by omega) (by omega)]
    omega
  have e1 : fz_fm_setTag_6 s 2 = some (zz_i (zz_i s 4 2) 5 7) := by
    unfold fz_fm_setTag_6
    rw [if_pos (by decide), if_neg (by decide)]
  have kb : ∀ z : am_Z, z.1 4 = 2 → fz_fm_hasBlocks_6 z = some 1 := by
    intro z hz
    unfold fz_fm_hasBlocks_6 fz_fm_hasBlocks_6_17
    rw [hz, if_neg (by decide), if_neg (by decide)]
  have e2 : fz_fm_setAlign_6 (zz_i (zz_i s 4 2) 5 7) (Int32.ofNat (7 + q)) = some (zz_i (zz_i (zz_i (zz_i (zz_i s 4 2) 5 7) 6 (Int32.ofNat (7 + q))) 7 1) 7 (Int32.ofNat (2 * q + 2))) := by
    have e3 : Int32.ofNat (7 + q) - (7 : Int32) = Int32.ofNat q := by
      rw [show (7 : Int32) = Int32.ofNat 7 from rfl, nm_sub (by omega), Nat.add_sub_cancel_left]
    have e5 : (2 : Int32) * Int32.ofNat q + (2 : Int32) = Int32.ofNat (2 * q + 2) := by
      rw [show (2 : Int32) * Int32.ofNat q = Int32.ofNat (2 * q) from nm_mul 2 q]
      exact nm_add (2 * q) 2
    have e6 : (1 : Int32) < Int32.ofNat (2 * q + 2) := (nm_lt (a := 1) (by omega) (by omega)).mpr (by omega)
    unfold fz_fm_setAlign_6 fz_fm_setAlign_6_39 fz_ma_max
    rw [kb _ rfl]
    simp only [zbs]
    rw [if_neg (show ¬ (1 : Int32) = 0 by decide)]
    rw [show fz_fm_bytesOfNibbles_6 (zz_i (zz_i (zz_i (zz_i s 4 2) 5 7) 6 (Int32.ofNat (7 + q))) 7 1) = some (Int32.ofNat (7 + q) - (7 : Int32)) from rfl, e3]
    simp only [zbs]
    rw [show (zz_i (zz_i s 4 2) 5 7).1 4 = 2 from rfl, if_pos (show ¬ (2 : Int32) = 17 by decide)]
    rw [e5, if_pos e6]
    simp only [zbs]
  have e3 : fz_fm_sizeOfData_6 (zz_i (zz_i (zz_i (zz_i (zz_i s 4 2) 5 7) 6 (Int32.ofNat (7 + q))) 7 1) 7 (Int32.ofNat (2 * q + 2))) (s.1 1) = some (Int32.ofNat (zw_z2 n q)) := by
    unfold fz_fm_sizeOfData_6
    show (if Int32.ofNat (2 * q + 2) = 0 then none else some ((((s.1 1 + Int32.ofNat (2 * q + 2)) - (1 : Int32)) / Int32.ofNat (2 * q + 2)) * Int32.ofNat (7 + q))) = _
    rw [if_neg hib, h1, zw_d2 hn hq8]
  have e4 : ∀ l, fz_fm_sizeOfFmt_6 (zf_a 3 (zw_S2 s q) l) = some 50 := by
    intro l
    unfold fz_fm_sizeOfFmt_6
    rw [zf_a_i 3 (by decide), show (zw_S2 s q).1 4 = 2 from rfl, if_pos (by decide), if_pos (by decide)]
  have g1 : ∀ l, (zf_a 3 (zw_S2 s q) l).1 1 = s.1 1 := fun l => zf_a_i 3 (by decide) _
  unfold fz_wr_startWave
  rw [e1]
  simp only [zbs]
  rw [e2]
  simp only [zbs]
  rw [show fz_fm_sizeOfData_6 (zz_i (zz_i (zz_i (zz_i (zz_i s 4 2) 5 7) 6 (Int32.ofNat (7 + q))) 7 1) 7 (Int32.ofNat (2 * q + 2))) ((zz_i (zz_i (zz_i (zz_i (zz_i s 4 2) 5 7) 6 (Int32.ofNat (7 + q))) 7 1) 7 (Int32.ofNat (2 * q + 2))).1 1) = some (Int32.ofNat (zw_z2 n q)) from e3, kb _ rfl]
  simp only [zbs]
  rw [if_neg (show ¬ (1 : Int32) = 0 by decide)]
  unfold fz_wr_startWave_47 fz_wr_startWave_166
  rw [show fz_by_putBig (zz_i (zz_i (zz_i (zz_i (zz_i (zz_i s 4 2) 5 7) 6 (Int32.ofNat (7 + q))) 7 1) 7 (Int32.ofNat (2 * q + 2))) 3 0) 1380533830 4 = some (zf_a 3 (zw_S2 s q) ([] ++ zf_be 1380533830 4)) from za_b4 hS [] _ (by decide)]
  simp only [zbs, e4, List.nil_append]
  rw [za_l4 hS _ _ (by simp [zf_be_len])]
  simp only [zbs]
  rw [za_b4 hS _ _ (by simp [zf_be_len, zf_le_len])]
  simp only [zbs]
  rw [za_fmt2 hS (pace := s.1 2) (al := Int32.ofNat (7 + q)) (ib := Int32.ofNat (2 * q + 2)) rfl rfl rfl rfl hib _ (by simp [zf_be_len, zf_le_len])]
  simp only [zbs]
  rw [kb _ (by rw [zf_a_i 3 (by decide)]; rfl)]
  simp only [zbs]
  rw [if_neg (show ¬ (1 : Int32) = 0 by decide), za_b4 hS _ _ (by simp [zf_be_len, zf_le_len, zw_f2_len])]
  simp only [zbs]
  rw [za_l4 hS _ _ (by simp [zf_be_len, zf_le_len, zw_f2_len])]
  simp only [zbs, g1]
  rw [za_l4 hS _ _ (by simp [zf_be_len, zf_le_len, zw_f2_len])]
  simp only [zbs]
  rw [za_b4 hS _ _ (by simp [zf_be_len, zf_le_len, zw_f2_len])]
  simp only [zbs]
  rw [za_l4 hS _ _ (by simp [zf_be_len, zf_le_len, zw_f2_len])]
  simp only [zbs, zw_V2, zw_B2, List.append_assoc]
/-- the same of the reference -/
theorem zm_fmt2 {m : am_Z} (h : zf_n 4 m 0) {pace cnt : Int32} (h3 : m.1 3 = pace) (h1 : m.1 1 = cnt) {q : Nat} (hq1 : 1 ≤ q) (hq8 : q ≤ 8) (l : List Int32) (hl : l.length ≤ 100) : fz_mo_writeFormat (zf_a 4 m l) 3 (Int32.ofNat q) = some (zf_a 4 m (l ++ zw_f2 pace (Int32.ofNat (7 + q)) (Int32.ofNat (2 * q + 2)) ++ zf_be 1717658484 4 ++ zf_le 4 4 ++ zf_le (Int32.toInt64 cnt) 4)) := by
  have g3 : ∀ l, (zf_a 4 m l).1 3 = pace := fun l => (zf_a_i 4 (by decide) m).trans h3
  have g1 : ∀ l, (zf_a 4 m l).1 1 = cnt := fun l => (zf_a_i 4 (by decide) m).trans h1
  have hib : ¬ Int32.ofNat (2 * q + 2) = 0 := by
    rw [show (0 : Int32) = Int32.ofNat 0 from rfl, nm_inj (by omega) (by omega)]
    omega
  have ea : Int32.ofNat q + (7 : Int32) = Int32.ofNat (7 + q) := by
    rw [show (7 : Int32) = Int32.ofNat 7 from rfl, nm_add, Nat.add_comm]
  have eb : (2 : Int32) * Int32.ofNat q + (2 : Int32) = Int32.ofNat (2 * q + 2) := by
    rw [show (2 : Int32) * Int32.ofNat q = Int32.ofNat (2 * q) from nm_mul 2 q]
    exact nm_add (2 * q) 2
  have e269 : ∀ l : List Int32, l.length ≤ 200 → fz_mo_writeFormat_269 3 (zf_a 4 m l) = some (zf_a 4 m (l ++ zf_be 1717658484 4 ++ zf_le 4 4 ++ zf_le (Int32.toInt64 cnt) 4)) := by
    intro l hl
    unfold fz_mo_writeFormat_269
    rw [if_neg (by decide), zb_b4 h _ _ (by omega)]
    simp only [zbs]
    rw [zb_l4 h _ _ (by simp [zf_be_len]; omega)]
    simp only [zbs, g1]
    rw [zb_l4 h _ _ (by simp [zf_be_len, zf_le_len]; omega)]
    rfl
  unfold fz_mo_writeFormat fz_mo_writeFormat_22 fz_mo_writeFormat_49 fz_mo_writeFormat_78
  rw [if_pos (show (2 : Int32) ≤ 3 by decide), if_pos (show ¬ (3 : Int32) = 2 by decide), if_pos (show (2 : Int32) ≤ 3 by decide), if_pos (show ¬ (3 : Int32) = 2 by decide), if_pos (show ¬ (3 : Int32) = 2 by decide), if_neg (show ¬ ¬ (3 : Int32) = 3 by decide), ea, eb, zb_b4 h l _ (by omega)]
  simp only [zbs]
  rw [zb_l4 h _ _ (by simp [zf_be_len]; omega)]
  simp only [zbs]
  rw [if_pos (show (2 : Int32) ≤ 3 by decide)]
  rw [if_pos (show ¬ (3 : Int32) = 2 by decide)]
  unfold fz_mo_writeFormat_120
  rw [zb_l2 h _ _ (by simp [zf_be_len, zf_le_len]; omega)]
  simp only [zbs]
  rw [zb_l2 h _ _ (by simp [zf_be_len, zf_le_len]; omega)]
  simp only [zbs, g3]
  rw [zb_l4 h _ _ (by simp [zf_be_len, zf_le_len]; omega)]
  simp only [zbs, g3]
  rw [if_neg hib, zb_l4 h _ _ (by simp [zf_be_len, zf_le_len]; omega)]
  simp only [zbs]
  rw [zb_l2 h _ _ (by simp [zf_be_len, zf_le_len]; omega)]
  simp only [zbs]
  rw [if_pos (show (2 : Int32) ≤ 3 by decide)]
  unfold fz_mo_writeFormat_182
  rw [zb_l2 h _ _ (by simp [zf_be_len, zf_le_len]; omega)]
  simp only [zbs]
  rw [if_neg (show ¬ 3 ≤ (1 : Int32) by decide), if_pos (show ¬ (3 : Int32) = 2 by decide)]
  unfold fz_mo_writeFormat_206
  rw [zb_l2 h _ _ (by simp [zf_be_len, zf_le_len]; omega)]
  simp only [zbs]
  rw [zb_l2 h _ _ (by simp [zf_be_len, zf_le_len]; omega)]
  simp only [zbs]
  unfold fz_mo_writeFormat_218
  rw [if_neg (show ¬ ¬ (3 : Int32) = 3 by decide), zb_l2 h _ _ (by simp [zf_be_len, zf_le_len]; omega)]
  simp only [zbs]
  rw [zm_pr7 h _ (by simp [zf_be_len, zf_le_len]; omega), e269 _ (by simp [zf_be_len, zf_le_len, zw_pr_len]; omega)]
  simp only [zw_f2, List.append_assoc, (by decide : Int32.toInt64 50 = 50)]
theorem zm_start2 {m : am_Z} (h : zf_n 4 m 0) {n q : Nat} (h1 : m.1 1 = Int32.ofNat n) (hn : n ≤ 64) (hq1 : 1 ≤ q) (hq8 : q ≤ 8) : fz_mo_writeWave m 3 (Int32.ofNat q) = (fz_mo_writePredicted (zf_a 4 m (zf_be 1380533830 4 ++ zf_le 0 4 ++ zw_B2 (m.1 3) (Int32.ofNat (7 + q)) (Int32.ofNat (2 * q + 2)) (m.1 1) (Int32.ofNat (zw_z2 n q)))) (Int32.ofNat q)).bind fun q2 => fz_mo_writeWave_194 (Int32.ofNat (zw_z2 n q)) q2 := by
  have g1 : ∀ l, (zf_a 4 m l).1 1 = Int32.ofNat n := fun l => (zf_a_i 4 (by decide) m).trans h1
  have hib : ¬ Int32.ofNat (2 * q + 2) = 0 := by
    rw [show (0 : Int32) = Int32.ofNat 0 from rfl, nm_inj (by omega) (by omega)]
    omega
  have ea : Int32.ofNat q + (7 : Int32) = Int32.ofNat (7 + q) := by
    rw [show (7 : Int32) = Int32.ofNat 7 from rfl, nm_add, Nat.add_comm]
  have eb : (2 : Int32) * Int32.ofNat q + (2 : Int32) = Int32.ofNat (2 * q + 2) := by
    rw [show (2 : Int32) * Int32.ofNat q = Int32.ofNat (2 * q) from nm_mul 2 q]
    exact nm_add (2 * q) 2
  have ebl : fz_mo_blocks (Int32.ofNat n) (Int32.ofNat (2 * q + 2)) = some ((Int32.ofNat n + Int32.ofNat (2 * q + 2) - (1 : Int32)) / Int32.ofNat (2 * q + 2)) := by
    unfold fz_mo_blocks
    rw [if_neg hib]
  unfold fz_mo_writeWave
  rw [show fz_mo_put m 1380533830 4 1 = some (zf_a 4 m ([] ++ zf_be 1380533830 4)) from zb_b4 h [] _ (by decide)]
  simp only [zbs, List.nil_append]
  rw [zb_l4 h _ _ (by simp [zf_be_len])]
  simp only [zbs]
  rw [zb_b4 h _ _ (by simp [zf_be_len, zf_le_len])]
  simp only [zbs]
  rw [zm_fmt2 h (pace := m.1 3) (cnt := m.1 1) rfl rfl hq1 hq8 _ (by simp [zf_be_len, zf_le_len])]
  simp only [zbs]
  rw [zb_b4 h _ _ (by simp [zf_be_len, zf_le_len, zw_f2_len])]
  simp only [zbs, g1]
  rw [if_pos (show ¬ (3 : Int32) = 0 by decide), if_pos (show ¬ (3 : Int32) = 1 by decide), if_pos (show ¬ (3 : Int32) = 2 by decide), eb, ebl]
  simp only [zbs]
  rw [ea, Int32.mul_comm, zw_d2 hn hq8]
  unfold fz_mo_writeWave_105
  rw [zb_l4 h _ _ (by simp [zf_be_len, zf_le_len, zw_f2_len])]
  simp only [zbs]
  rw [if_pos (show ¬ (3 : Int32) = 2 by decide), if_neg (not_not_intro trivial)]
  simp only [zw_B2, List.append_assoc]
