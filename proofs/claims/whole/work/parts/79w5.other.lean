/-! Writing: files of the other byte order. -/
theorem nm_sh31 : ∀ e : Fin 32, ((Int32.ofNat e.1 &&& 31).toBitVec.smod 32).toNat = e.1 := by decide
theorem nm_sar (x : Int32) {e : Nat} (he : e < 32) : (x >>> (Int32.ofNat e &&& 31)).toInt = x.toInt / ((2 ^ e : Nat) : Int) := by
  have h := nm_sh31 ⟨e, he⟩
  show (x >>> (Int32.ofNat e &&& 31)).toBitVec.toInt = _
  rw [Int32.toBitVec_shiftRight]
  show (BitVec.sshiftRight _ _).toInt = _
  rw [h, BitVec.toInt_sshiftRight, Int.shiftRight_eq_div_pow]
  rfl
theorem nm_shr {p e : Nat} (hp : p < 2147483648) (he : e < 32) : Int32.ofNat p >>> (Int32.ofNat e &&& 31) = Int32.ofNat (p / 2 ^ e) := by
  have h2 : p / 2 ^ e ≤ p := Nat.div_le_self _ _
  apply Int32.toInt_inj.mp
  rw [nm_sar _ he, nm_toInt hp, nm_toInt (by omega)]
  rfl
theorem zo_exp {s : am_Z} {p : Nat} (hs : s.1 2 = Int32.ofNat p) (hp : p ≤ 192000) (x1 x2 : Int32) : ∀ (d e f g : Nat), e + d = 17 → d < f → d < g → ∃ k : Nat, k ≤ 17 ∧ fz_wr_startOther_2 f x1 x2 (Int32.ofNat e) s = fz_wr_startOther_27 x1 x2 (Int32.ofNat k) s ∧ fz_mo_greatest_2 g (Int32.ofNat p) (Int32.ofNat e) = some (Int32.ofNat k) := by
  intro d
  induction d with
  | zero =>
    intro e f g he hf hg
    obtain ⟨f, rfl⟩ : ∃ g, f = g + 1 := ⟨f - 1, by omega⟩
    obtain ⟨g, rfl⟩ : ∃ f, g = f + 1 := ⟨g - 1, by omega⟩
    have e17 : e = 17 := by omega
    subst e17
    refine ⟨17, by omega, ?_, ?_⟩
    · unfold fz_wr_startOther_2
      rw [if_pos (show (17 : Int32) ≤ Int32.ofNat 17 by decide)]
    · unfold fz_mo_greatest_2
      rw [show Int32.ofNat 17 + (1 : Int32) = Int32.ofNat 18 from rfl, nm_shr (by omega) (by omega), if_pos (by
        rw [show (0 : Int32) = Int32.ofNat 0 from rfl, nm_le (by omega) (by omega)]
        omega)]
  | succ d ih =>
    intro e f g he hf hg
    obtain ⟨f, rfl⟩ : ∃ g, f = g + 1 := ⟨f - 1, by omega⟩
    obtain ⟨g, rfl⟩ : ∃ f, g = f + 1 := ⟨g - 1, by omega⟩
    have hq : p / 2 ^ (e + 1) = p / 2 ^ e / 2 := by rw [Nat.pow_succ, Nat.div_div_eq_div_mul]
    have hq2 : p / 2 ^ e ≤ p := Nat.div_le_self _ _
    have e1 : Int32.ofNat e + (1 : Int32) = Int32.ofNat (e + 1) := nm_add e 1
    have c17 : ¬ (17 : Int32) ≤ Int32.ofNat e := by
      rw [show (17 : Int32) = Int32.ofNat 17 from rfl, nm_le (by omega) (by omega)]
      omega
    have cc : Int32.ofNat p >>> (Int32.ofNat e &&& 31) ≤ (1 : Int32) ↔ p / 2 ^ e ≤ 1 := by
      rw [nm_shr (by omega) (by omega), show (1 : Int32) = Int32.ofNat 1 from rfl, nm_le (by omega) (by omega)]
    have cr : Int32.ofNat p >>> ((Int32.ofNat e + (1 : Int32)) &&& 31) ≤ (0 : Int32) ↔ p / 2 ^ e ≤ 1 := by
      rw [e1, nm_shr (by omega) (by omega), show (0 : Int32) = Int32.ofNat 0 from rfl, nm_le (by omega) (by omega)]
      omega
    unfold fz_wr_startOther_2 fz_mo_greatest_2
    rw [if_neg c17, hs]
    by_cases c : p / 2 ^ e ≤ 1
    · rw [if_pos (cc.mpr c), if_pos (cr.mpr c)]
      exact ⟨e, by omega, rfl, rfl⟩
    · rw [if_neg (fun hh => c (cc.mp hh)), if_neg (fun hh => c (cr.mp hh)), e1]
      exact ih (e + 1) f g (by omega) (by omega) (by omega)
def zo_V (sz : Int32) : List Int32 := zf_be (Int32.toInt64 (((38 : Int32) + sz) + (sz - sz / (2 : Int32) * (2 : Int32)))) 4
def zo_B (cnt pace b e sz : Int32) : List Int32 := zf_be 1095321158 4 ++ zf_be 1129270605 4 ++ zf_be 18 4 ++ zf_be 1 2 ++ zf_be (Int32.toInt64 cnt) 4 ++ zf_be (Int32.toInt64 b) 2 ++ zf_be (Int32.toInt64 ((16383 : Int32) + e)) 2 ++ zf_be ((Int32.toInt64 pace) <<< (Int32.toInt64 ((63 : Int32) - e) &&& 63)) 8 ++ zf_be 1397968452 4 ++ zf_be (Int32.toInt64 sz) 4 ++ zf_be 0 8
def zo_e (row : Nat → Int32) (b W : Int32) (w i : Nat) : List Int32 := zf_be (Int32.toInt64 ((row i >>> (((16 : Int32) - b) &&& 31)) <<< ((W - b) &&& 31))) w
def zo_d (row : Nat → Int32) (b W : Int32) (w : Nat) : Nat → Nat → List Int32
  | 0, _ => []
  | d + 1, i => zo_e row b W w i ++ zo_d row b W w d (i + 1)
theorem zo_d_len (row : Nat → Int32) (b W : Int32) (w : Nat) : ∀ (d i : Nat), (zo_d row b W w d i).length = w * d := by
  intro d
  induction d with
  | zero => intro i; rfl
  | succ d ih => intro i; simp only [zo_d, zo_e, List.length_append, ih, zf_be_len, Nat.mul_succ]; omega
theorem zo_d_by (row : Nat → Int32) (b W : Int32) (w : Nat) : ∀ (d i : Nat), zf_by (zo_d row b W w d i) := by
  intro d
  induction d with
  | zero => intro i; exact zf_by_nil
  | succ d ih => intro i; exact zf_by_app (zf_by_be _ _) (ih (i + 1))
theorem zo_d_congr {r r' : Nat → Int32} (b W : Int32) (w : Nat) : ∀ (d i : Nat), (∀ j, i ≤ j → j < i + d → r j = r' j) → zo_d r b W w d i = zo_d r' b W w d i := by
  intro d
  induction d with
  | zero => intro i _; rfl
  | succ d ih =>
    intro i hh
    simp only [zo_d, zo_e]
    rw [hh i (by omega) (by omega), ih (i + 1) (fun j h1 h2 => hh j (by omega) (by omega))]
theorem zo_B_len (cnt pace b e sz : Int32) : (zo_B cnt pace b e sz).length = 46 := by simp [zo_B, zf_be_len]
theorem zo_B_by (cnt pace b e sz : Int32) : zf_by (zo_B cnt pace b e sz) := by
  unfold zo_B
  exact zf_by_app (zf_by_app (zf_by_app (zf_by_app (zf_by_app (zf_by_app (zf_by_app (zf_by_app (zf_by_app (zf_by_app (zf_by_be _ _) (zf_by_be _ _)) (zf_by_be _ _)) (zf_by_be _ _)) (zf_by_be _ _)) (zf_by_be _ _)) (zf_by_be _ _)) (zf_by_be _ _)) (zf_by_be _ _)) (zf_by_be _ _)) (zf_by_be _ _)
theorem za_other {S : am_Z} (h : zf_n 3 S 0) {b W x3 : Int32} {n w : Nat} (h1 : S.1 1 = Int32.ofNat n) (hn : n ≤ 64) (hW : W / (8 : Int32) = Int32.ofNat w) (hw : w ≤ 2) : ∀ (d i f : Nat) (l : List Int32), i + d = n → d < f → l.length + 2 * d < 390 → fz_wr_writeOther_70 f b W x3 (Int32.ofNat i) (zf_a 3 S l) = some (zf_a 3 S (l ++ zo_d (S.2.2 0) b W w d i ++ zw_p x3)) := by
  have g1 : ∀ l, (zf_a 3 S l).1 1 = Int32.ofNat n := fun l => (zf_a_i 3 (by decide) S).trans h1
  have gr : ∀ l, (zf_a 3 S l).2.2 0 = S.2.2 0 := fun l => zf_a_r 3 (by decide) S
  intro d
  induction d with
  | zero =>
    intro i f l hi hf hl
    obtain ⟨f, rfl⟩ : ∃ g, f = g + 1 := ⟨f - 1, by omega⟩
    unfold fz_wr_writeOther_70
    rw [g1, if_pos (by rw [nm_le (by omega) (by omega)]; omega), za_pad h _ _ (by omega)]
    simp only [Option.bind_some, zo_d, List.append_nil]
  | succ d ih =>
    intro i f l hi hf hl
    obtain ⟨f, rfl⟩ : ∃ g, f = g + 1 := ⟨f - 1, by omega⟩
    have hr' : ¬ (Int32.ofNat i < 0 ∨ 64 ≤ i) := fun hh => hh.elim (nm_nneg (by omega)) (by omega)
    have e1 : Int32.ofNat i + (1 : Int32) = Int32.ofNat (i + 1) := nm_add i 1
    unfold fz_wr_writeOther_70
    rw [g1, if_neg (by rw [nm_le (by omega) (by omega)]; omega), gr, nm_clamp (by omega), if_neg hr', za_big h _ _ hW (by omega) (by omega)]
    simp only [Option.bind_some]
    rw [e1, ih (i + 1) f _ (by omega) (by omega) (by simp [zf_be_len]; omega)]
    simp only [zo_d, zo_e, List.append_assoc]
theorem zm_other {S : am_Z} (h : zf_n 4 S 0) {b W x2 : Int32} {n w : Nat} (h1 : S.1 1 = Int32.ofNat n) (hn : n ≤ 64) (hx : x2 = Int32.ofNat w) (hW : (8 : Int32) * x2 = W) (hw : w ≤ 2) : ∀ (d i f : Nat) (l : List Int32), i + d = n → d < f → l.length + 2 * d < 390 → fz_mo_writeOther_154 f b x2 (Int32.ofNat i) (zf_a 4 S l) = some (zf_a 4 S (l ++ zo_d (S.2.2 0) b W w d i ++ zf_be 0 (w * n % 2))) := by
  have g1 : ∀ l, (zf_a 4 S l).1 1 = Int32.ofNat n := fun l => (zf_a_i 4 (by decide) S).trans h1
  have gr : ∀ l, (zf_a 4 S l).2.2 0 = S.2.2 0 := fun l => zf_a_r 4 (by decide) S
  have hwn : w * n ≤ 2 * 64 := Nat.mul_le_mul hw hn
  intro d
  induction d with
  | zero =>
    intro i f l hi hf hl
    obtain ⟨f, rfl⟩ : ∃ g, f = g + 1 := ⟨f - 1, by omega⟩
    unfold fz_mo_writeOther_154
    rw [g1, if_pos (by rw [nm_le (by omega) (by omega)]; omega), hx, nm_mul, nm_m2 (by omega), zb_big h _ _ rfl (by omega) (by omega)]
    simp only [Option.bind_some, zo_d, List.append_nil]
  | succ d ih =>
    intro i f l hi hf hl
    obtain ⟨f, rfl⟩ : ∃ g, f = g + 1 := ⟨f - 1, by omega⟩
    have hr' : ¬ (Int32.ofNat i < 0 ∨ 64 ≤ i) := fun hh => hh.elim (nm_nneg (by omega)) (by omega)
    have e1 : Int32.ofNat i + (1 : Int32) = Int32.ofNat (i + 1) := nm_add i 1
    unfold fz_mo_writeOther_154
    rw [g1, if_neg (by rw [nm_le (by omega) (by omega)]; omega), gr, nm_clamp (by omega), if_neg hr', hW, zb_big h _ _ hx (by omega) (by omega)]
    simp only [Option.bind_some]
    rw [e1, ih (i + 1) f _ (by omega) (by omega) (by simp [zf_be_len]; omega)]
    simp only [zo_d, zo_e, List.append_assoc]
theorem za_start27 (s : am_Z) (b sz e : Int32) : fz_wr_startOther_27 b sz e s = some (zf_a 3 (zz_i s 3 0) (zf_be 1179603533 4 ++ zo_V sz ++ (zf_be 1095321158 4 ++ zf_be 1129270605 4 ++ zf_be 18 4 ++ zf_be 1 2 ++ zf_be (Int32.toInt64 (s.1 1)) 4 ++ zf_be (Int32.toInt64 b) 2 ++ zf_be (Int32.toInt64 ((16383 : Int32) + e)) 2 ++ zf_be ((Int32.toInt64 (s.1 2)) <<< (Int32.toInt64 ((63 : Int32) - e) &&& 63)) 8))) := by
  have h : zf_n 3 (zz_i s 3 0) 0 := ⟨rfl, by decide⟩
  have g1 : ∀ l, (zf_a 3 (zz_i s 3 0) l).1 1 = s.1 1 := fun l => zf_a_i 3 (by decide) _
  have g2 : ∀ l, (zf_a 3 (zz_i s 3 0) l).1 2 = s.1 2 := fun l => zf_a_i 3 (by decide) _
  unfold fz_wr_startOther_27
  rw [show fz_by_putBig (zz_i s 3 0) 1179603533 4 = some (zf_a 3 (zz_i s 3 0) ([] ++ zf_be 1179603533 4)) from za_b4 h [] _ (by decide)]
  simp only [Option.bind_some, List.nil_append]
  rw [za_b4 h _ _ (by simp [zf_be_len])]
  simp only [Option.bind_some]
  rw [za_b4 h _ _ (by simp [zf_be_len])]
  simp only [Option.bind_some]
  rw [za_b4 h _ _ (by simp [zf_be_len])]
  simp only [Option.bind_some]
  rw [za_b4 h _ _ (by simp [zf_be_len])]
  simp only [Option.bind_some]
  rw [za_b2 h _ _ (by simp [zf_be_len])]
  simp only [Option.bind_some, g1]
  rw [za_b4 h _ _ (by simp [zf_be_len])]
  simp only [Option.bind_some]
  rw [za_b2 h _ _ (by simp [zf_be_len])]
  simp only [Option.bind_some]
  rw [za_b2 h _ _ (by simp [zf_be_len])]
  simp only [Option.bind_some, g2]
  rw [za_b8 h _ _ (by simp [zf_be_len])]
  simp only [Option.bind_some, zo_V, List.append_assoc]
theorem zc_other1 {s m : am_Z} (hz : zv s m) {b W x2 : Int32} {w : Nat} (hw : w ≤ 2) (hW : W / (8 : Int32) = Int32.ofNat w) (hx : x2 = Int32.ofNat w) (hWx : (8 : Int32) * x2 = W) : ∃ (S M : am_Z) (N : Nat), fz_wr_writeOther_13 b W s = some S ∧ fz_mo_writeOther_11 b x2 (zz_i (zz_i m 0 0) 4 0) = some M ∧ 8 ≤ N ∧ zx s m S M N (zf_be (Int32.toInt64 (Int32.ofNat (N - 8))) 4) := by
  obtain ⟨⟨n, hn, h1, h2, h3⟩, ⟨r1, r2, r3⟩, -, -⟩ := hz
  obtain ⟨p, hp, ep⟩ : ∃ p : Nat, p ≤ 192000 ∧ s.1 2 = Int32.ofNat p := by
    rcases nm_cases (s.1 2) with c | ⟨k, hk, e⟩
    · rw [Int32.lt_iff_toInt_lt] at c
      have : (0 : Int32).toInt = 0 := rfl
      omega
    · refine ⟨k, ?_, e⟩
      rw [e, nm_toInt hk] at r3
      omega
  have hwn : w * n ≤ 2 * 64 := Nat.mul_le_mul hw hn
  have ez : (8 : Int32) + (s.1 1 * (W / (8 : Int32))) = Int32.ofNat (8 + w * n) := by
    rw [hW, h1, nm_mul, show (8 : Int32) = Int32.ofNat 8 from rfl, nm_add, Nat.mul_comm n w]
  have ez2 : (8 : Int32) + (x2 * m.1 1) = Int32.ofNat (8 + w * n) := by
    rw [hx, h2, nm_mul, show (8 : Int32) = Int32.ofNat 8 from rfl, nm_add]
  obtain ⟨e, he, k1, k2⟩ := zo_exp ep hp b (Int32.ofNat (8 + w * n)) 17 0 fz_fu fz_fu (by omega) (by decide) (by decide)
  have hS : zf_n 3 (zz_i s 3 0) 0 := ⟨rfl, by decide⟩
  have hM : zf_n 4 (zz_i (zz_i m 0 0) 4 0) 0 := ⟨rfl, by decide⟩
  have g1 : ∀ l, (zf_a 4 (zz_i (zz_i m 0 0) 4 0) l).1 1 = s.1 1 := fun l => (zf_a_i 4 (by decide) _).trans (h2.trans h1.symm)
  have g3 : ∀ l, (zf_a 4 (zz_i (zz_i m 0 0) 4 0) l).1 3 = s.1 2 := fun l => (zf_a_i 4 (by decide) _).trans r1.symm
  have ezs : (8 : Int32) + (x2 * s.1 1) = Int32.ofNat (8 + w * n) := by rw [h1, ← h2]; exact ez2
  have kg : fz_mo_greatest (s.1 2) = some (Int32.ofNat e) := by rw [ep]; exact k2
  have hC : fz_wr_writeOther_13 b W s = some (zf_a 3 (zz_i s 3 0) (zf_be 1179603533 4 ++ zo_V (Int32.ofNat (8 + w * n)) ++ (zo_B (s.1 1) (s.1 2) b (Int32.ofNat e) (Int32.ofNat (8 + w * n)) ++ zo_d (s.2.2 0) b W w n 0 ++ zw_p (Int32.ofNat (8 + w * n))))) := by
    unfold fz_wr_writeOther_13
    rw [ez]
    unfold fz_wr_startOther
    rw [show (0 : Int32) = Int32.ofNat 0 from rfl, k1, za_start27]
    simp only [Option.bind_some]
    rw [show Int32.ofNat 0 = (0 : Int32) from rfl]
    rw [za_b4 hS _ _ (by simp [zf_be_len, zo_V])]
    simp only [Option.bind_some]
    rw [za_b4 hS _ _ (by simp [zf_be_len, zo_V])]
    simp only [Option.bind_some]
    rw [za_b8 hS _ _ (by simp [zf_be_len, zo_V])]
    simp only [Option.bind_some]
    have hh : ∀ l : List Int32, 0 + n = n → n < fz_fu → l.length + 2 * n < 390 → fz_wr_writeOther_70 fz_fu b W (Int32.ofNat (8 + w * n)) 0 (zf_a 3 (zz_i s 3 0) l) = some (zf_a 3 (zz_i s 3 0) (l ++ zo_d (s.2.2 0) b W w n 0 ++ zw_p (Int32.ofNat (8 + w * n)))) := za_other hS (b := b) (W := W) (x3 := Int32.ofNat (8 + w * n)) (n := n) (w := w) h1 hn hW hw n 0 fz_fu
    rw [hh _ (by omega) (by show n < 1000; omega) (by simp [zf_be_len, zo_V]; omega)]
    simp only [zo_B, List.append_assoc]
  have hR : fz_mo_writeOther_11 b x2 (zz_i (zz_i m 0 0) 4 0) = some (zf_a 4 (zz_i (zz_i m 0 0) 4 0) (zf_be 1179603533 4 ++ zf_be 0 4 ++ (zo_B (s.1 1) (s.1 2) b (Int32.ofNat e) (Int32.ofNat (8 + w * n)) ++ zo_d (m.2.2 0) b W w n 0 ++ zf_be 0 (w * n % 2)))) := by
    unfold fz_mo_writeOther_11
    rw [show fz_mo_put (zz_i (zz_i m 0 0) 4 0) 1179603533 4 1 = some (zf_a 4 (zz_i (zz_i m 0 0) 4 0) ([] ++ zf_be 1179603533 4)) from zb_b4 hM [] _ (by decide)]
    simp only [Option.bind_some, List.nil_append]
    rw [zb_b4 hM _ _ (by simp [zf_be_len])]
    simp only [Option.bind_some]
    rw [zb_b4 hM _ _ (by simp [zf_be_len])]
    simp only [Option.bind_some]
    rw [zb_b4 hM _ _ (by simp [zf_be_len])]
    simp only [Option.bind_some]
    rw [zb_b4 hM _ _ (by simp [zf_be_len])]
    simp only [Option.bind_some]
    rw [zb_b2 hM _ _ (by simp [zf_be_len])]
    simp only [Option.bind_some, g1]
    rw [zb_b4 hM _ _ (by simp [zf_be_len])]
    simp only [Option.bind_some]
    rw [zb_b2 hM _ _ (by simp [zf_be_len])]
    simp only [Option.bind_some, g3, kg]
    rw [zb_b2 hM _ _ (by simp [zf_be_len])]
    simp only [Option.bind_some, g3]
    rw [zb_b8 hM _ _ (by simp [zf_be_len])]
    simp only [Option.bind_some]
    rw [zb_b4 hM _ _ (by simp [zf_be_len])]
    simp only [Option.bind_some, g1, ezs]
    rw [zb_b4 hM _ _ (by simp [zf_be_len])]
    simp only [Option.bind_some]
    rw [zb_b8 hM _ _ (by simp [zf_be_len])]
    simp only [Option.bind_some]
    have hh : ∀ l : List Int32, 0 + n = n → n < fz_fu → l.length + 2 * n < 390 → fz_mo_writeOther_154 fz_fu b x2 0 (zf_a 4 (zz_i (zz_i m 0 0) 4 0) l) = some (zf_a 4 (zz_i (zz_i m 0 0) 4 0) (l ++ zo_d (m.2.2 0) b W w n 0 ++ zf_be 0 (w * n % 2))) := zm_other hM (b := b) (W := W) (x2 := x2) (n := n) (w := w) h2 hn hx hWx hw n 0 fz_fu
    rw [hh _ (by omega) (by show n < 1000; omega) (by simp [zf_be_len]; omega)]
    simp only [zo_B, List.append_assoc]
  have epd : zw_p (Int32.ofNat (8 + w * n)) = zf_be 0 (w * n % 2) := by
    rw [zw_p_le (by omega), show (8 + w * n) % 2 = w * n % 2 by omega]
    rcases Nat.mod_two_eq_zero_or_one (w * n) with h | h
    · rw [h]; rfl
    · rw [h]; rfl
  have eL : (zf_be 1179603533 4 ++ zo_V (Int32.ofNat (8 + w * n)) ++ (zo_B (s.1 1) (s.1 2) b (Int32.ofNat e) (Int32.ofNat (8 + w * n)) ++ zo_d (s.2.2 0) b W w n 0 ++ zf_be 0 (w * n % 2))).length = 54 + w * n + w * n % 2 := by
    simp only [List.length_append, zf_be_len, zo_V, zo_B_len, zo_d_len]
    omega
  have hV : zo_V (Int32.ofNat (8 + w * n)) = zf_be (Int32.toInt64 (Int32.ofNat (54 + w * n + w * n % 2 - 8))) 4 := by
    unfold zo_V
    rw [nm_m2 (by omega), show (38 : Int32) = Int32.ofNat 38 from rfl, nm_add, nm_add, show 38 + (8 + w * n) + (8 + w * n) % 2 = 54 + w * n + w * n % 2 - 8 by omega]
  rw [epd] at hC
  rw [zo_d_congr (r := m.2.2 0) (r' := s.2.2 0) b W w n 0 (fun j _ hj => ((h3 j (by omega)).1).symm)] at hR
  have hx0 := zx_0 (s := s) (m := m) (A := zf_be 1179603533 4) (V := zo_V (Int32.ofNat (8 + w * n))) (Z := zf_be 0 4) (B := zo_B (s.1 1) (s.1 2) b (Int32.ofNat e) (Int32.ofNat (8 + w * n)) ++ zo_d (s.2.2 0) b W w n 0 ++ zf_be 0 (w * n % 2)) hS hM (zf_be_len _ _) (zf_be_len _ _) (zf_be_len _ _) (by rw [eL]; omega) (zf_by_app (zf_by_app (zf_by_be _ _) (zf_by_be _ _)) (zf_by_app (zf_by_app (zo_B_by _ _ _ _ _) (zo_d_by _ _ _ _ _ _)) (zf_by_be _ _))) ⟨rfl, rfl, rfl, rfl⟩ ⟨rfl, rfl, rfl, rfl⟩ rfl
  rw [eL] at hx0
  refine ⟨_, _, 54 + w * n + w * n % 2, hC, hR, by omega, ?_⟩
  rw [← hV]
  exact hx0
theorem zc_other (sc : am_S) {s m : am_Z} (hz : zv s m) (o : Nat → Int64) (t : am_H) {b : Int32} (hb1 : ¬ b < (1 : Int32)) (hb2 : ¬ (16 : Int32) < b) : zq s m o t (fz_la_write sc s m o t 4 b) (fz_mo_write m 4 b) := by
  have hg : fz_mo_write m 4 b = fz_mo_write_56 4 b 1 0 m := by
    unfold fz_mo_write
    rw [show fz_mo_within (Int32.toInt64 4) 0 4 = some 1 by decide]
    simp only [Option.bind_some]
    rw [if_neg (show ¬ (1 : Int32) = 0 by decide), if_neg (show ¬ (4 : Int32) < 2 by decide), if_neg (not_not_intro trivial)]
    unfold fz_mo_write_34
    rw [show (1 : Int64) = Int32.toInt64 1 by decide, show (16 : Int64) = Int32.toInt64 16 by decide, zw_32, if_neg (fun hh => hh.elim hb1 hb2)]
    simp only [Option.bind_some]
    rw [if_neg (show ¬ (1 : Int32) = 0 by decide), zm_40]
  have hw : fz_sh_isWritable 4 b = some 1 := by
    unfold fz_sh_isWritable
    rw [if_neg (by decide), if_neg (by decide), if_neg (by decide), if_neg (by decide), if_neg (by decide), if_pos rfl, if_neg hb1, if_neg hb2]
  have hc : ∀ S, fz_wr_writeOther s b = some S → fz_sh_write s 4 b = some (.inr (S.1 3, S)) := by
    intro S hS
    unfold fz_sh_write
    rw [hw]
    simp only [Option.bind_some]
    rw [if_pos (show ¬ (1 : Int32) = 0 by decide), if_pos (show (Int32.toInt 4 < 0 ∨ 3 < Int32.toInt 4) by decide), hS]
    rfl
  by_cases c : (8 : Int32) < b
  · obtain ⟨S, M, N, h1, h2, h3, h4⟩ := zc_other1 hz (b := b) (W := 16) (x2 := 2) (w := 2) (by omega) (by decide) (by decide) (by decide)
    refine zx_other sc hz o t hg ?_ (hc S ?_) h3 h4
    · unfold fz_mo_writeOther
      rw [if_neg ((nm_nle _ _).mpr c), h2]
    · unfold fz_wr_writeOther
      rw [if_pos c, h1]
  · obtain ⟨S, M, N, h1, h2, h3, h4⟩ := zc_other1 hz (b := b) (W := 8) (x2 := 1) (w := 1) (by omega) (by decide) (by decide) (by decide)
    refine zx_other sc hz o t hg ?_ (hc S ?_) h3 h4
    · unfold fz_mo_writeOther
      rw [if_pos ((nm_nlt _ _).mp c), h2]
    · unfold fz_wr_writeOther
      rw [if_neg c, h1]
