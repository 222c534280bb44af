/-! Reading: the samples of a file, all of them (printed by wip/gen/genRb.py). -/
theorem zr_p1 : ∀ v : Fin 256, (256 : Int32) * (Int32.ofNat v.1 - (128 : Int32)) = (Int32.ofNat v.1 - (128 : Int32)) * (256 : Int32) ∧ -32768 ≤ ((Int32.ofNat v.1 - (128 : Int32)) * (256 : Int32)).toInt ∧ ((Int32.ofNat v.1 - (128 : Int32)) * (256 : Int32)).toInt ≤ 32767 := by decide +kernel
/-- a sample of a plain file -/
theorem zr_ps {s m S M : am_Z} {N P c i al : Nat} (hv : zv_f s m N) (h : zr s m N 0 S M P) (hal : al = 1 ∨ al = 2) (hP : P + al ≤ N) (hic : i < c) (hd : zr_d S M c i) (h24 : S.1 24 = Int32.ofNat al) (h12 : M.1 12 = 1) (h13 : M.1 13 = Int32.ofNat al) (x5 : Int32) (f g : Nat) : ∃ S' M', fz_rd_takePlain_2 (f + 1) (Int32.ofNat i) S = fz_rd_takePlain_2 f (Int32.ofNat (i + 1)) S' ∧ fz_mo_readData_137 (g + 1) x5 (Int32.ofNat i) M = fz_mo_readData_137 g x5 (Int32.ofNat (i + 1)) M' ∧ zr s m N 0 S' M' (P + al) ∧ zr_d S' M' c (i + 1) ∧ zr_sg S S' ∧ zr_mg M M' := by
  have eN : N ≤ 400 := hv.1
  have hc64 := hd.1
  have hle : ¬ Int32.ofNat c ≤ Int32.ofNat i := fun hh => by
    have := (nm_le (a := c) (b := i) (by omega) (by omega)).mp hh
    omega
  have h8 : ¬ ¬ M.1 8 = 0 := not_not_intro h.2.2.2.2.2.1
  have h20 : S.1 20 = Int32.ofNat i := by
    rw [hd.2.2.2.1, show min i c = i by omega]
  have ei : Int32.ofNat i + (1 : Int32) = Int32.ofNat (i + 1) := nm_add i 1
  have hrr : ¬ (Int32.ofNat i < 0 ∨ 64 ≤ i) := fun h => h.elim (nm_nneg (by omega)) (by omega)
  have hpb : ∀ Z : am_Z, Z.1 12 = 1 → fz_mo_perBlock Z = some 1 := by
    intro Z hZ
    unfold fz_mo_perBlock
    rw [hZ, if_pos (show ¬ (1 : Int32) = 17 by decide), if_pos (show ¬ (1 : Int32) = 2 by decide)]
  -- what is kept
  have K : ∀ v : Int32, -32768 ≤ v.toInt → v.toInt ≤ 32767 → (fz_rd_takePlain_2 (f + 1) (Int32.ofNat i) S = ((fz_so_append_11 S v).bind fun q2 => fz_rd_takePlain_81 (fz_rd_takePlain_2 f) (Int32.ofNat i) q2)) → (fz_mo_readData_137 (g + 1) x5 (Int32.ofNat i) M = fz_mo_readData_238 (fz_mo_readData_137 g) x5 (Int32.ofNat i) v (Int32.ofNat i) (zz_i M 7 (Int32.ofNat (P + al)))) → ∃ S' M', fz_rd_takePlain_2 (f + 1) (Int32.ofNat i) S = fz_rd_takePlain_2 f (Int32.ofNat (i + 1)) S' ∧ fz_mo_readData_137 (g + 1) x5 (Int32.ofNat i) M = fz_mo_readData_137 g x5 (Int32.ofNat (i + 1)) M' ∧ zr s m N 0 S' M' (P + al) ∧ zr_d S' M' c (i + 1) ∧ zr_sg S S' ∧ zr_mg M M' := by
    intro v v1 v2 hC hD
    obtain ⟨S1, hS1⟩ : ∃ Z, Z = zz_i (zz_r S 3 (upd (S.2.2 3) i v)) 20 (Int32.ofNat (i + 1)) := ⟨_, rfl⟩
    have f1 : zr_sf S S1 := by rw [hS1]; exact zr_sf_app _ _ _ _
    have ap : fz_so_append_11 S v = some S1 := by rw [hS1]; exact zr_app (by omega) h20 v
    have s14 : S1.1 14 = Int32.ofNat P := (f1.1 14 (by decide)).trans h.2.2.1
    have s24 : S1.1 24 = Int32.ofNat al := (f1.1 24 (by decide)).trans h24
    refine ⟨zz_i S1 14 (Int32.ofNat (P + al)), zz_r (zz_i M 7 (Int32.ofNat (P + al))) 2 (upd (M.2.2 2) i v), ?_, ?_, ?_, ?_, ?_, ?_⟩
    · rw [hC, ap]
      simp only [zbs]
      unfold fz_rd_takePlain_81
      rw [s14, s24, nm_add, ei]
    · rw [hD]
      unfold fz_mo_readData_238 fz_mo_readData_239
      rw [nm_clamp (a := i) (by omega), if_neg hrr, hpb (zz_r (zz_i M 7 (Int32.ofNat (P + al))) 2 (upd ((zz_i M 7 (Int32.ofNat (P + al))).2.2 2) i v)) h12]
      simp only [zbs]
      rw [ei]
      rfl
    · exact zr_sm (zr_up h hP) ⟨fun j hj => by
        show zz_u S1.1 14 _ j = zz_u S.1 14 _ j
        by_cases cj : j = 14
        · subst cj
          rw [zz_u_s, zz_u_s]
        · rw [zz_u_n _ _ cj, zz_u_n _ _ cj]
          exact f1.1 j hj, f1.2.1, f1.2.2⟩ (zr_mf_r _ _)
    · obtain ⟨d1, d2, d3, d4, d5⟩ := hd
      refine ⟨d1, (f1.1 18 (by decide)).trans d2, d3, ?_, ?_⟩
      · show S1.1 20 = _
        rw [hS1, show min (i + 1) c = i + 1 by omega]
        rfl
      · rw [show min (i + 1) c = i + 1 by omega]
        rw [show min i c = i by omega] at d5
        intro j hj
        have e3 : (zz_i S1 14 (Int32.ofNat (P + al))).2.2 3 = upd (S.2.2 3) i v := by
          rw [hS1]
          show zz_u S.2.2 3 _ 3 = _
          exact zz_u_s _ _ _
        have e2 : (zz_r (zz_i M 7 (Int32.ofNat (P + al))) 2 (upd (M.2.2 2) i v)).2.2 2 = upd (M.2.2 2) i v := by
          show zz_u M.2.2 2 _ 2 = _
          exact zz_u_s _ _ _
        rw [e3, e2]
        by_cases cj : j < i
        · rw [zs_un _ _ cj, zs_un _ _ cj]
          exact d5 j cj
        · have ej : j = i := by omega
          subst ej
          rw [zs_us, zs_us]
          exact ⟨rfl, v1, v2⟩
    · intro j j1 j2 j3
      show zz_u S1.1 14 _ j = _
      rw [zz_u_n _ _ (by omega)]
      exact f1.1 j j3
    · intro j j1 j2
      show zz_u M.1 7 _ j = _
      rw [zz_u_n _ _ (by omega)]
  have e17 : ¬ (1 : Int32) = 17 := by decide
  have e2 : ¬ (1 : Int32) = 2 := by decide
  rcases hal with rfl | rfl
  · have hu : fz_by_numberAt S (Int32.ofNat P) 1 0 = some (if P + 1 ≤ N then Int64.ofNat (zn (zb s) P 1 (zfl 0)) else 0) := zr_num hv h (n := 1) (by omega) 0
    rw [if_pos hP] at hu
    have hb : zn (zb s) P 1 (zfl 0) < 256 := by
      have : zn (zb s) P 1 (zfl 0) < 256 ^ 1 := zn_lt (fun i _ hi => ((zv_B hv).1.2.2 i (by omega)).1)
      omega
    have ha : fz_mo_ask M 1 0 0 65535 = some (Int64.ofNat (zn (zb s) P 1 (zfl 0)), zz_i M 7 (Int32.ofNat (P + 1))) := by
      rcases zr_ask hv h (n := 1) (by omega) 0 0 65535 with ⟨-, -, -, a4⟩ | ⟨a1, -⟩
      · exact a4
      · exact absurd ⟨hP, by
          rw [Int64.le_iff_toInt_le, nm_jtoInt (by omega)]
          have : (0 : Int64).toInt = 0 := rfl
          omega, by
          rw [Int64.le_iff_toInt_le, nm_jtoInt (by omega)]
          have : (65535 : Int64).toInt = 65535 := by decide
          omega⟩ a1
    obtain ⟨p1, p2, p3⟩ := zr_p1 ⟨_, hb⟩
    have h13' : M.1 13 = 1 := h13
    have h24' : S.1 24 = 1 := h24
    refine K _ p2 p3 ?_ ?_
    · conv => lhs; unfold fz_rd_takePlain_2
      rw [hd.2.1, if_neg hle, h24', if_neg (show ¬ ¬ (1 : Int32) = 1 by decide), h.2.2.1, h.2.2.2.1, hu]
      simp only [zbs]
      rw [nm_l2i]
    · conv => lhs; unfold fz_mo_readData_137
      rw [hd.2.2.1, if_neg hle, if_neg h8, h12, if_pos e17, if_pos e2, h13', ha]
      simp only [zbs]
      rw [show (zz_i M 7 (Int32.ofNat (P + 1))).1 13 = 1 from h13', if_neg (show ¬ ¬ (1 : Int32) = 1 by decide), nm_l2i]
      rw [show (256 : Int32) * (Int32.ofNat (zn (zb s) P 1 (zfl 0)) - (128 : Int32)) = (Int32.ofNat (zn (zb s) P 1 (zfl 0)) - (128 : Int32)) * (256 : Int32) from p1]
  · obtain ⟨w, hw, -, w2⟩ := zr_word hv h hP
    have hu : fz_by_numberAt S (Int32.ofNat P) 2 0 = some (if P + 2 ≤ N then Int64.ofNat (zn (zb s) P 2 (zfl 0)) else 0) := zr_num hv h (n := 2) (by omega) 0
    rw [if_pos hP] at hu
    have hw' : zn (zb s) P 2 (zfl 0) < 65536 := by
      have : zn (zb s) P 2 (zfl 0) < 256 ^ 2 := zn_lt (fun i _ hi => ((zv_B hv).1.2.2 i (by omega)).1)
      omega
    have ha : fz_mo_ask M 2 0 0 65535 = some (Int64.ofNat (zn (zb s) P 2 (zfl 0)), zz_i M 7 (Int32.ofNat (P + 2))) := by
      rcases zr_ask hv h (n := 2) (by omega) 0 0 65535 with ⟨-, -, -, a4⟩ | ⟨a1, -⟩
      · exact a4
      · exact absurd ⟨hP, by
          rw [Int64.le_iff_toInt_le, nm_jtoInt (by omega)]
          have : (0 : Int64).toInt = 0 := rfl
          omega, by
          rw [Int64.le_iff_toInt_le, nm_jtoInt (by omega)]
          have : (65535 : Int64).toInt = 65535 := by decide
          omega⟩ a1
    obtain ⟨p2, p3⟩ := zr_w_le hw'
    have h13' : M.1 13 = 2 := h13
    have h24' : S.1 24 = 2 := h24
    refine K _ p2 p3 ?_ ?_
    · conv => lhs; unfold fz_rd_takePlain_2
      rw [hd.2.1, if_neg hle, h24', if_pos (show ¬ (2 : Int32) = 1 by decide), h.2.2.1, h.2.2.2.1, hu]
      simp only [zbs]
      rw [zr_w_s hw']
    · conv => lhs; unfold fz_mo_readData_137
      rw [hd.2.2.1, if_neg hle, if_neg h8, h12, if_pos e17, if_pos e2, h13', ha]
      simp only [zbs]
      rw [show (zz_i M 7 (Int32.ofNat (P + 2))).1 13 = 2 from h13', if_pos (show ¬ (2 : Int32) = 1 by decide), zr_w_m hw']
      simp only [zbs]
theorem zr_rpl {s m : am_Z} {N c al : Nat} (hv : zv_f s m N) (hal : al = 1 ∨ al = 2) (x5 : Int32) : ∀ (d i f g P : Nat) (S M : am_Z), i + d = c → d < f → d < g → zr s m N 0 S M P → P + d * al ≤ N → zr_d S M c i → S.1 24 = Int32.ofNat al → M.1 12 = 1 → M.1 13 = Int32.ofNat al → ∃ S' M', fz_rd_takePlain_2 f (Int32.ofNat i) S = some S' ∧ fz_mo_readData_137 g x5 (Int32.ofNat i) M = fz_mo_readData_251 x5 M' ∧ zr s m N 0 S' M' (P + d * al) ∧ zr_d S' M' c c ∧ zr_sg S S' ∧ zr_mg M M' := by
  intro d
  induction d with
  | zero =>
    intro i f g P S M hi hf hg h hP hd h24 h12 h13
    obtain ⟨f, rfl⟩ : ∃ g, f = g + 1 := ⟨f - 1, by omega⟩
    obtain ⟨g, rfl⟩ : ∃ f, g = f + 1 := ⟨g - 1, by omega⟩
    have hc64 := hd.1
    have e : c = i := by omega
    subst e
    have hle : Int32.ofNat c ≤ Int32.ofNat c := (nm_le (by omega) (by omega)).mpr (by omega)
    refine ⟨S, M, ?_, ?_, ?_, hd, fun _ _ _ _ => rfl, fun _ _ _ => rfl⟩
    · unfold fz_rd_takePlain_2
      rw [hd.2.1, if_pos hle]
    · unfold fz_mo_readData_137
      rw [hd.2.2.1, if_pos hle]
    · rw [Nat.zero_mul, Nat.add_zero]
      exact h
  | succ d ih =>
    intro i f g P S M hi hf hg h hP hd h24 h12 h13
    obtain ⟨f, rfl⟩ : ∃ g, f = g + 1 := ⟨f - 1, by omega⟩
    obtain ⟨g, rfl⟩ : ∃ f, g = f + 1 := ⟨g - 1, by omega⟩
    rw [Nat.add_mul, Nat.one_mul] at hP ⊢
    obtain ⟨S1, M1, k1, k2, k3, k4, k5, k6⟩ := zr_ps hv h hal (Nat.le_trans (Nat.add_le_add_left (Nat.le_add_left _ _) _) hP) (by omega) hd h24 h12 h13 x5 f g
    obtain ⟨S', M', l1, l2, l3, l4, l5, l6⟩ := ih (i + 1) f g (P + al) S1 M1 (by omega) (by omega) (by omega) k3 (by omega) k4 ((k5 24 (by omega) (by omega) (by decide)).trans h24) ((k6 12 (by omega) (by omega)).trans h12) ((k6 13 (by omega) (by omega)).trans h13)
    refine ⟨S', M', k1.trans l1, k2.trans l2, ?_, l4, zr_sg_t k5 l5, zr_mg_t k6 l6⟩
    rw [show P + (d * al + al) = P + al + d * al by omega]
    exact l3
theorem zs_rdat {s m : am_Z} {N c q : Nat} (hv : zv_f s m N) (hq8 : q ≤ 8) (x5 : Int32) : ∀ (d a f g P : Nat) (S M : am_Z), c ≤ a + d → a ≤ 100 → d < f → d < g → zr s m N 0 S M P → P + zn_bl c a (2 * q + 1) * (4 + q) ≤ N → zr_d S M c a → S.1 24 - S.1 23 = Int32.ofNat q → S.1 25 = Int32.ofNat (2 * q + 1) → M.1 12 = 17 → (∀ Z : am_Z, Z.1 12 = M.1 12 → Z.1 13 = M.1 13 → fz_mo_perBlock Z = some (Int32.ofNat (2 * q + 1))) → (∃ S' M', fz_rd_takeStepped_2 f (Int32.ofNat a) S = some (1, S') ∧ fz_mo_readData_137 g x5 (Int32.ofNat a) M = fz_mo_readData_251 x5 M' ∧ zr s m N 0 S' M' (P + zn_bl c a (2 * q + 1) * (4 + q)) ∧ zr_d S' M' c c ∧ zr_sg S S' ∧ zr_mg M M') ∨ (∃ S' M', fz_rd_takeStepped_2 f (Int32.ofNat a) S = some (0, S') ∧ fz_mo_readData_137 g x5 (Int32.ofNat a) M = some (zz_i M' 8 1) ∧ zr_F s m S' (zz_i M' 8 1)) := by
  have fin : ∀ (a f g P : Nat) (S M : am_Z), c ≤ a → a ≤ 100 → zr s m N 0 S M P → zr_d S M c a → (∃ S' M', fz_rd_takeStepped_2 (f + 1) (Int32.ofNat a) S = some (1, S') ∧ fz_mo_readData_137 (g + 1) x5 (Int32.ofNat a) M = fz_mo_readData_251 x5 M' ∧ zr s m N 0 S' M' (P + zn_bl c a (2 * q + 1) * (4 + q)) ∧ zr_d S' M' c c ∧ zr_sg S S' ∧ zr_mg M M') := by
    intro a f g P S M hca ha h hd
    have hc64 := hd.1
    have hle : Int32.ofNat c ≤ Int32.ofNat a := (nm_le (by omega) (by omega)).mpr hca
    refine ⟨S, M, ?_, ?_, ?_, ?_, fun _ _ _ _ => rfl, fun _ _ _ => rfl⟩
    · unfold fz_rd_takeStepped_2
      rw [hd.2.1, if_pos hle]
    · unfold fz_mo_readData_137
      rw [hd.2.2.1, if_pos hle]
    · rw [zn_bl0 hca (by omega), Nat.zero_mul, Nat.add_zero]
      exact h
    · obtain ⟨h1, h2, h3, h4, h5⟩ := hd
      refine ⟨h1, h2, h3, ?_, ?_⟩
      · rw [h4, show min c c = min a c by omega]
      · rw [show min c c = min a c by omega]
        exact h5
  intro d
  induction d with
  | zero =>
    intro a f g P S M hca ha hf hg h hP hd hbn h25 h12 hpb
    obtain ⟨f, rfl⟩ : ∃ g, f = g + 1 := ⟨f - 1, by omega⟩
    obtain ⟨g, rfl⟩ : ∃ f, g = f + 1 := ⟨g - 1, by omega⟩
    exact Or.inl (fin a f g P S M (by omega) ha h hd)
  | succ d ih =>
    intro a f g P S M hca ha hf hg h hP hd hbn h25 h12 hpb
    obtain ⟨f, rfl⟩ : ∃ g, f = g + 1 := ⟨f - 1, by omega⟩
    obtain ⟨g, rfl⟩ : ∃ f, g = f + 1 + 1 := ⟨g - 2, by omega⟩
    by_cases cc : c ≤ a
    · exact Or.inl (fin a f (g + 1) P S M cc ha h hd)
    · have hc64 := hd.1
      have hle : ¬ Int32.ofNat c ≤ Int32.ofNat a := fun hh => cc ((nm_le (by omega) (by omega)).mp hh)
      have h8 : ¬ ¬ M.1 8 = 0 := not_not_intro h.2.2.2.2.2.1
      have eb := zn_bl1 (n := c) (a := a) (b := 2 * q + 1) (by omega) (by omega)
      have em : zn_bl c a (2 * q + 1) * (4 + q) = zn_bl c (a + (2 * q + 1)) (2 * q + 1) * (4 + q) + (4 + q) := by rw [eb, Nat.add_mul, Nat.one_mul]
      rw [em] at hP ⊢
      have D : ∀ M', fz_mo_readStepped M (Int32.ofNat a) = some M' → fz_mo_readData_137 (g + 1 + 1) x5 (Int32.ofNat a) M = ((fz_mo_perBlock M').bind fun q1 => fz_mo_readData_137 (g + 1) x5 (Int32.ofNat a + q1) M') := by
        intro M' hM'
        conv => lhs; unfold fz_mo_readData_137
        rw [hd.2.2.1, if_neg hle, if_neg h8, h12, if_neg (show ¬ ¬ (17 : Int32) = 17 by decide), hM']
        simp only [zbs]
        rfl
      rcases zs_rblk hv hq8 h (Nat.le_trans (Nat.add_le_add_left (Nat.le_add_left _ _) _) hP) (by omega) hd hbn h25 hpb f with ⟨S', M', k1, k2, k3, k4, k5, k6⟩ | ⟨S', M', k1, k2, k3⟩
      · have e12 : M'.1 12 = M.1 12 := k6 12 (by omega) (by omega)
        have e13 : M'.1 13 = M.1 13 := k6 13 (by omega) (by omega)
        have D' := D M' k2
        rw [hpb M' e12 e13] at D'
        simp only [zbs] at D'
        rw [nm_add] at D'
        have hstep := ih (a + (2 * q + 1)) f (g + 1) (P + (4 + q)) S' M' (by omega) (by omega) (by omega) (by omega) k3 (by omega) k4 (by
          rw [k5 24 (by omega) (by omega) (by decide), k5 23 (by omega) (by omega) (by decide)]
          exact hbn) (by
          rw [k5 25 (by omega) (by omega) (by decide)]
          exact h25) (e12.trans h12) (fun Z z12 z13 => hpb Z (z12.trans e12) (z13.trans e13))
        rw [k1, D']
        rcases hstep with ⟨S2, M2, l1, l2, l3, l4, l5, l6⟩ | hF
        · left
          refine ⟨S2, M2, l1, l2, ?_, l4, zr_sg_t k5 l5, zr_mg_t k6 l6⟩
          rw [show P + (zn_bl c (a + (2 * q + 1)) (2 * q + 1) * (4 + q) + (4 + q)) = P + (4 + q) + zn_bl c (a + (2 * q + 1)) (2 * q + 1) * (4 + q) by omega]
          exact l3
        · exact Or.inr hF
      · right
        obtain ⟨b, hb⟩ := zr_pb (zz_i M' 8 1)
        have D' := D _ k2
        rw [hb] at D'
        simp only [zbs] at D'
        rw [zF_137] at D'
        exact ⟨S', M', k1, D', k3⟩
theorem zp_rdat {s m : am_Z} {N c q : Nat} (hv : zv_f s m N) (hq8 : q ≤ 8) (x5 : Int32) : ∀ (d a f g P : Nat) (S M : am_Z), c ≤ a + d → a ≤ 100 → d < f → d < g → zr s m N 0 S M P → P + zn_bl c a (2 * q + 2) * (7 + q) ≤ N → zr_d S M c a → S.1 24 - S.1 23 = Int32.ofNat q → S.1 25 = Int32.ofNat (2 * q + 2) → M.1 12 = 2 → (∀ Z : am_Z, Z.1 12 = M.1 12 → Z.1 13 = M.1 13 → fz_mo_perBlock Z = some (Int32.ofNat (2 * q + 2))) → (∃ S' M', fz_rd_takePredicted_2 f (Int32.ofNat a) S = some (1, S') ∧ fz_mo_readData_137 g x5 (Int32.ofNat a) M = fz_mo_readData_251 x5 M' ∧ zr s m N 0 S' M' (P + zn_bl c a (2 * q + 2) * (7 + q)) ∧ zr_d S' M' c c ∧ zr_sg S S' ∧ zr_mg M M') ∨ (∃ S' M', fz_rd_takePredicted_2 f (Int32.ofNat a) S = some (0, S') ∧ fz_mo_readData_137 g x5 (Int32.ofNat a) M = some (zz_i M' 8 1) ∧ zr_F s m S' (zz_i M' 8 1)) := by
  have fin : ∀ (a f g P : Nat) (S M : am_Z), c ≤ a → a ≤ 100 → zr s m N 0 S M P → zr_d S M c a → (∃ S' M', fz_rd_takePredicted_2 (f + 1) (Int32.ofNat a) S = some (1, S') ∧ fz_mo_readData_137 (g + 1) x5 (Int32.ofNat a) M = fz_mo_readData_251 x5 M' ∧ zr s m N 0 S' M' (P + zn_bl c a (2 * q + 2) * (7 + q)) ∧ zr_d S' M' c c ∧ zr_sg S S' ∧ zr_mg M M') := by
    intro a f g P S M hca ha h hd
    have hc64 := hd.1
    have hle : Int32.ofNat c ≤ Int32.ofNat a := (nm_le (by omega) (by omega)).mpr hca
    refine ⟨S, M, ?_, ?_, ?_, ?_, fun _ _ _ _ => rfl, fun _ _ _ => rfl⟩
    · unfold fz_rd_takePredicted_2
      rw [hd.2.1, if_pos hle]
    · unfold fz_mo_readData_137
      rw [hd.2.2.1, if_pos hle]
    · rw [zn_bl0 hca (by omega), Nat.zero_mul, Nat.add_zero]
      exact h
    · obtain ⟨h1, h2, h3, h4, h5⟩ := hd
      refine ⟨h1, h2, h3, ?_, ?_⟩
      · rw [h4, show min c c = min a c by omega]
      · rw [show min c c = min a c by omega]
        exact h5
  intro d
  induction d with
  | zero =>
    intro a f g P S M hca ha hf hg h hP hd hbn h25 h12 hpb
    obtain ⟨f, rfl⟩ : ∃ g, f = g + 1 := ⟨f - 1, by omega⟩
    obtain ⟨g, rfl⟩ : ∃ f, g = f + 1 := ⟨g - 1, by omega⟩
    exact Or.inl (fin a f g P S M (by omega) ha h hd)
  | succ d ih =>
    intro a f g P S M hca ha hf hg h hP hd hbn h25 h12 hpb
    obtain ⟨f, rfl⟩ : ∃ g, f = g + 1 := ⟨f - 1, by omega⟩
    obtain ⟨g, rfl⟩ : ∃ f, g = f + 1 + 1 := ⟨g - 2, by omega⟩
    by_cases cc : c ≤ a
    · exact Or.inl (fin a f (g + 1) P S M cc ha h hd)
    · have hc64 := hd.1
      have hle : ¬ Int32.ofNat c ≤ Int32.ofNat a := fun hh => cc ((nm_le (by omega) (by omega)).mp hh)
      have h8 : ¬ ¬ M.1 8 = 0 := not_not_intro h.2.2.2.2.2.1
      have eb := zn_bl1 (n := c) (a := a) (b := 2 * q + 2) (by omega) (by omega)
      have em : zn_bl c a (2 * q + 2) * (7 + q) = zn_bl c (a + (2 * q + 2)) (2 * q + 2) * (7 + q) + (7 + q) := by rw [eb, Nat.add_mul, Nat.one_mul]
      rw [em] at hP ⊢
      have D : ∀ M', fz_mo_readPredicted M (Int32.ofNat a) = some M' → fz_mo_readData_137 (g + 1 + 1) x5 (Int32.ofNat a) M = ((fz_mo_perBlock M').bind fun q1 => fz_mo_readData_137 (g + 1) x5 (Int32.ofNat a + q1) M') := by
        intro M' hM'
        conv => lhs; unfold fz_mo_readData_137
        rw [hd.2.2.1, if_neg hle, if_neg h8, h12, if_pos (show ¬ (2 : Int32) = 17 by decide), if_neg (show ¬ ¬ (2 : Int32) = 2 by decide), hM']
        simp only [zbs]
        rfl
      rcases zp_rblk hv hq8 h (Nat.le_trans (Nat.add_le_add_left (Nat.le_add_left _ _) _) hP) (by omega) hd hbn h25 hpb f with ⟨S', M', k1, k2, k3, k4, k5, k6⟩ | ⟨S', M', k1, k2, k3⟩
      · have e12 : M'.1 12 = M.1 12 := k6 12 (by omega) (by omega)
        have e13 : M'.1 13 = M.1 13 := k6 13 (by omega) (by omega)
        have D' := D M' k2
        rw [hpb M' e12 e13] at D'
        simp only [zbs] at D'
        rw [nm_add] at D'
        have hstep := ih (a + (2 * q + 2)) f (g + 1) (P + (7 + q)) S' M' (by omega) (by omega) (by omega) (by omega) k3 (by omega) k4 (by
          rw [k5 24 (by omega) (by omega) (by decide), k5 23 (by omega) (by omega) (by decide)]
          exact hbn) (by
          rw [k5 25 (by omega) (by omega) (by decide)]
          exact h25) (e12.trans h12) (fun Z z12 z13 => hpb Z (z12.trans e12) (z13.trans e13))
        rw [k1, D']
        rcases hstep with ⟨S2, M2, l1, l2, l3, l4, l5, l6⟩ | hF
        · left
          refine ⟨S2, M2, l1, l2, ?_, l4, zr_sg_t k5 l5, zr_mg_t k6 l6⟩
          rw [show P + (zn_bl c (a + (2 * q + 2)) (2 * q + 2) * (7 + q) + (7 + q)) = P + (7 + q) + zn_bl c (a + (2 * q + 2)) (2 * q + 2) * (7 + q) by omega]
          exact l3
        · exact Or.inr hF
      · right
        obtain ⟨b, hb⟩ := zr_pb (zz_i M' 8 1)
        have D' := D _ k2
        rw [hb] at D'
        simp only [zbs] at D'
        rw [zF_137] at D'
        exact ⟨S', M', k1, D', k3⟩
