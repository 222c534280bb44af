/-! Reading: the head of the file, and the whole. -/
def zr_S0 (s : am_Z) : am_Z := zz_i (zz_i (zz_i (zz_i (zz_i (zz_i s 14 0) 16 0) 17 0) 22 0) 23 0) 20 0
def zr_M0 (m : am_Z) : am_Z := zz_i (zz_i (zz_i (zz_i (zz_i m 0 0) 8 0) 7 0) 15 0) 16 0
theorem zr_h0 {s m : am_Z} {N : Nat} (g : Int32) : zr s m N g (zz_i (zr_S0 s) 15 g) (zr_M0 m) 0 := by
  refine ⟨⟨fun i hi => ?_, fun r hr => rfl⟩, ⟨rfl, rfl, rfl, rfl, rfl, rfl, rfl⟩, rfl, rfl, rfl, rfl, Nat.zero_le _⟩
  show zz_u (zz_u (zz_u (zz_u (zz_u (zz_u (zz_u s.1 14 _) 16 _) 17 _) 22 _) 23 _) 20 _) 15 _ i = _
  rw [zz_u_n _ _ (by omega), zz_u_n _ _ (by omega), zz_u_n _ _ (by omega), zz_u_n _ _ (by omega), zz_u_n _ _ (by omega), zz_u_n _ _ (by omega), zz_u_n _ _ (by omega)]
theorem zr_h00 {s m : am_Z} {N : Nat} : zr s m N ((zr_S0 s).1 15) (zr_S0 s) (zr_M0 m) 0 := by
  refine ⟨⟨fun i hi => ?_, fun r hr => rfl⟩, ⟨rfl, rfl, rfl, rfl, rfl, rfl, rfl⟩, rfl, rfl, rfl, rfl, Nat.zero_le _⟩
  show zz_u (zz_u (zz_u (zz_u (zz_u (zz_u s.1 14 _) 16 _) 17 _) 22 _) 23 _) 20 _ i = _
  rw [zz_u_n _ _ (by omega), zz_u_n _ _ (by omega), zz_u_n _ _ (by omega), zz_u_n _ _ (by omega), zz_u_n _ _ (by omega), zz_u_n _ _ (by omega)]
theorem zr_rf (s : am_Z) : fz_rd_readFile s = (fz_rd_takeHead (zr_S0 s)).bind fun q2 => fz_rd_readFile_38 fz_fu q2.1 0 q2.2 := by
  unfold fz_rd_readFile fz_fm_setTag_13
  rw [if_pos (show ¬ (0 : Int32) = 17 by decide), if_pos (show ¬ (0 : Int32) = 2 by decide)]
  simp only [zbs]
  rfl
/-- the head -/
theorem zr_head {s m : am_Z} {N : Nat} (hv : zv_f s m N) {g : Int32} {k1 k2 : Nat} (hg : g = 0 ∧ k1 = 1380533830 ∧ k2 = 1463899717 ∨ g = 1 ∧ k1 = 1179603533 ∧ k2 = 1095321158) (h4 : 0 + 4 ≤ N) (hid : zn (zb s) 0 4 true = k1) {F : am_Z → am_Z → Prop} (L : ∀ S M, zr s m N g S M 12 → (∀ i, 16 ≤ i → S.1 i = (zr_S0 s).1 i) → (∀ i, 9 ≤ i → M.1 i = (zr_M0 m).1 i) → zr_O s m N g F (fz_rd_readFile_38 fz_fu 1 0 S) (if g = 0 then fz_mo_readWave M else fz_mo_readOther M)) : ∃ B, fz_mo_read_64 g (zr_M0 m) = B.bind (fun q => fz_mo_read_132 g q) ∧ zr_O s m N g F ((fz_rd_takeHead_55 (Int32.ofNat k1) (zz_i (zr_S0 s) 15 g)).bind fun q2 => fz_rd_readFile_38 fz_fu q2.1 0 q2.2) B := by
  have eN : N ≤ 400 := hv.1
  have z1 : ¬ (1 : Int32) = 0 := by decide
  have h0 := zr_h0 (s := s) (m := m) (N := N) g
  have hk2 : k2 < 2147483648 := by rcases hg with ⟨-, -, rfl⟩ | ⟨-, -, rfl⟩ <;> omega
  have hg01 : g = 0 ∨ g = 1 := by
    rcases hg with ⟨h, -⟩ | ⟨h, -⟩
    · exact Or.inl h
    · exact Or.inr h
  have hi := zr_tid hv h0 h4 (id := Int32.ofNat k1) (by rw [hid])
  have h1 := zr_up h0 h4
  obtain ⟨S1, hS1⟩ : ∃ Z, Z = zz_i (zz_i (zr_S0 s) 15 g) 14 (Int32.ofNat (0 + 4)) := ⟨_, rfl⟩
  obtain ⟨M1, hM1⟩ : ∃ Z, Z = zz_i (zr_M0 m) 7 (Int32.ofNat (0 + 4)) := ⟨_, rfl⟩
  rw [← hS1] at hi h1
  rw [← hM1] at h1
  have e3 : S1.1 3 = Int32.ofNat N := (zr_B hv h1).1.2.1
  have e4 : (zr_M0 m).1 4 = Int32.ofNat N := (zr_B hv h0).2.1.2.1
  have fail : ∀ S Z, fz_rd_takeHead_55 (Int32.ofNat k1) (zz_i (zr_S0 s) 15 g) = some (0, S) → zr_F s m S (zz_i Z 8 1) → fz_mo_read_64 g (zr_M0 m) = fz_mo_read_132 g (zz_i Z 8 1) → ∃ B, fz_mo_read_64 g (zr_M0 m) = B.bind (fun q => fz_mo_read_132 g q) ∧ zr_O s m N g F ((fz_rd_takeHead_55 (Int32.ofNat k1) (zz_i (zr_S0 s) 15 g)).bind fun q2 => fz_rd_readFile_38 fz_fu q2.1 0 q2.2) B := by
    intro S Z hC hF hR
    refine ⟨some (zz_i Z 8 1), ?_, ?_⟩
    · rw [hR]
      simp only [zbs]
    · rw [hC]
      simp only [zbs]
      exact Or.inl ⟨S, _, zr_38f 999 0 S, rfl, Or.inl hF⟩
  have f121 : ∀ Z, fz_mo_read_121 g (zz_i Z 8 1) = fz_mo_read_132 g (zz_i Z 8 1) := by
    intro Z
    unfold fz_mo_read_121
    rw [if_pos (zF_8 Z)]
  -- the reference's second half
  have R64 : ∀ Z, fz_mo_exact M1 4 g (Int32.toInt64 (Int32.ofNat N - (8 : Int32))) = some Z → fz_mo_read_64 g (zr_M0 m) = fz_mo_read_100 g (Int64.ofNat k2) 1 4 Z := by
    intro Z hZ
    have hZ' : fz_mo_exact (zz_i (zr_M0 m) 7 4) 4 g (Int32.toInt64 (Int32.ofNat N - (8 : Int32))) = some Z := by
      rw [hM1] at hZ
      exact hZ
    unfold fz_mo_read_64
    rw [e4, hZ']
    simp only [zbs]
    rcases hg with ⟨rfl, -, rfl⟩ | ⟨rfl, -, rfl⟩
    · rw [if_pos (show (0 : Int32) = 0 from rfl)]
      rfl
    · rw [if_neg z1]
      rfl
  rcases zr_take hv h1 (n := 4) (by omega) g rfl (Int32.toInt64 (Int32.ofNat N - (8 : Int32))) with ⟨a0, -, a3, a4, a5⟩ | ⟨-, a3, a4⟩
  · have a3' : fz_rd_take S1 4 (Int32.toInt64 (Int32.ofNat N - (8 : Int32))) = some (1, zz_i S1 14 (Int32.ofNat (0 + 4 + 4))) := a3
    have a4' : fz_mo_exact M1 4 g (Int32.toInt64 (Int32.ofNat N - (8 : Int32))) = some (zz_i M1 7 (Int32.ofNat (0 + 4 + 4))) := a4
    obtain ⟨S2, hS2⟩ : ∃ Z, Z = zz_i S1 14 (Int32.ofNat (0 + 4 + 4)) := ⟨_, rfl⟩
    obtain ⟨M2, hM2⟩ : ∃ Z, Z = zz_i M1 7 (Int32.ofNat (0 + 4 + 4)) := ⟨_, rfl⟩
    rw [← hS2] at a3' a5
    rw [← hM2] at a4' a5
    have C95 : fz_rd_takeHead_55 (Int32.ofNat k1) (zz_i (zr_S0 s) 15 g) = fz_rd_takeHead_95 (Int32.ofNat k2) S2 := by
      unfold fz_rd_takeHead_55
      rw [hi]
      simp only [zbs]
      rw [if_neg z1, e3, a3']
      simp only [zbs]
      rw [if_neg z1, a5.2.2.2.1]
      rcases hg with ⟨rfl, -, rfl⟩ | ⟨rfl, -, rfl⟩
      · rw [if_pos (show (0 : Int32) = 0 from rfl)]
        rfl
      · rw [if_neg z1]
        rfl
    have R := R64 _ a4'
    have hz1 : zfl 1 = true := by decide
    by_cases cw : 0 + 4 + 4 + 4 ≤ N ∧ zn (zb s) (0 + 4 + 4) 4 true = k2
    · -- both go on
      have ha : fz_mo_ask M2 4 1 (Int64.ofNat k2) (Int64.ofNat k2) = some (Int64.ofNat k2, zz_i M2 7 (Int32.ofNat (0 + 4 + 4 + 4))) := by
        rcases zr_ask hv a5 (n := 4) (by omega) 1 (Int64.ofNat k2) (Int64.ofNat k2) with ⟨-, -, -, b4⟩ | ⟨b1, -⟩
        · rw [hz1, cw.2] at b4
          exact b4
        · rw [hz1, cw.2] at b1
          exact absurd ⟨cw.1, Int64.le_refl _, Int64.le_refl _⟩ b1
      have hx : fz_mo_exact M2 4 1 (Int64.ofNat k2) = some (zz_i M2 7 (Int32.ofNat (0 + 4 + 4 + 4))) := zr_ex_t ha a5.2.2.2.2.2.1
      have ht := zr_tid hv a5 cw.1 (id := Int32.ofNat k2) (by rw [cw.2])
      have h3 := zr_up a5 cw.1
      obtain ⟨S3, hS3⟩ : ∃ Z, Z = zz_i S2 14 (Int32.ofNat (0 + 4 + 4 + 4)) := ⟨_, rfl⟩
      obtain ⟨M3, hM3⟩ : ∃ Z, Z = zz_i M2 7 (Int32.ofNat (0 + 4 + 4 + 4)) := ⟨_, rfl⟩
      rw [← hS3] at ht h3
      rw [← hM3] at hx h3
      have C : fz_rd_takeHead_55 (Int32.ofNat k1) (zz_i (zr_S0 s) 15 g) = some (1, S3) := by
        rw [C95]
        unfold fz_rd_takeHead_95
        rw [ht]
        simp only [zbs]
        rw [if_neg z1]
      have n8 : ¬ ¬ M3.1 8 = 0 := not_not_intro h3.2.2.2.2.2.1
      refine ⟨if g = 0 then fz_mo_readWave M3 else fz_mo_readOther M3, ?_, ?_⟩
      · rw [R]
        unfold fz_mo_read_100
        rw [hx]
        simp only [zbs]
        rw [if_neg n8]
        rcases hg01 with rfl | rfl
        · rw [if_pos (show (0 : Int32) = 0 from rfl), if_pos (show (0 : Int32) = 0 from rfl)]
          unfold fz_mo_read_121
          rw [if_neg n8]
        · rw [if_neg z1, if_neg z1]
      · rw [C]
        simp only [zbs]
        refine L S3 M3 h3 (fun i hi => ?_) (fun i hi => ?_)
        · rw [hS3, hS2, hS1]
          show zz_u (zz_u (zz_u (zz_u (zr_S0 s).1 15 _) 14 _) 14 _) 14 _ i = _
          rw [zz_u_n _ _ (by omega), zz_u_n _ _ (by omega), zz_u_n _ _ (by omega), zz_u_n _ _ (by omega)]
        · rw [hM3, hM2, hM1]
          show zz_u (zz_u (zz_u (zr_M0 m).1 7 _) 7 _) 7 _ i = _
          rw [zz_u_n _ _ (by omega), zz_u_n _ _ (by omega), zz_u_n _ _ (by omega)]
    · -- refused
      have ha : fz_mo_ask M2 4 1 (Int64.ofNat k2) (Int64.ofNat k2) = some (0, zz_i M2 8 1) := by
        rcases zr_ask hv a5 (n := 4) (by omega) 1 (Int64.ofNat k2) (Int64.ofNat k2) with ⟨b1, b2, b3, -⟩ | ⟨-, b2⟩
        · rw [hz1] at b2 b3
          have hlt := zr_lt hv (P := 0 + 4 + 4) (n := 4) (by omega) b1 true
          have := (nm_jinj (by omega) (by omega)).mp (Int64.le_antisymm b3 b2)
          exact absurd ⟨b1, this⟩ cw
        · exact b2
      have hx : fz_mo_exact M2 4 1 (Int64.ofNat k2) = some (zz_i M2 8 1) := zr_ex_f ha
      have ht := zr_tid0 hv a5 (id := Int32.ofNat k2) (fun hc => cw ⟨hc.1, (nm_inj32 (zr_lt hv (P := 0 + 4 + 4) (n := 4) (by omega) hc.1 true) (by omega)).mp hc.2⟩)
      refine fail S2 M2 ?_ (zr_f hv a5) ?_
      · rw [C95]
        unfold fz_rd_takeHead_95 fz_rd_takeHead_105
        rw [ht]
        simp only [zbs]
        rw [if_pos trivial]
      · rw [R]
        unfold fz_mo_read_100
        rw [hx]
        simp only [zbs]
        rw [if_pos (zF_8 M2), f121]
  · have a3' : fz_rd_take S1 4 (Int32.toInt64 (Int32.ofNat N - (8 : Int32))) = some (0, S1) := a3
    have a4' : fz_mo_exact M1 4 g (Int32.toInt64 (Int32.ofNat N - (8 : Int32))) = some (zz_i M1 8 1) := a4
    refine fail S1 M1 ?_ (zr_f hv h1) ?_
    · unfold fz_rd_takeHead_55 fz_rd_takeHead_105
      rw [hi]
      simp only [zbs]
      rw [if_neg z1, e3, a3']
      simp only [zbs]
      rw [if_pos trivial]
    · rw [R64 _ a4']
      unfold fz_mo_read_100
      rw [zF_exact]
      simp only [zbs]
      rw [if_pos (zF_8 M1), f121]
theorem zc_R : zl_R := by
  intro s m hz
  obtain ⟨N, hv⟩ := hz.2.2.1
  have eN : N ≤ 400 := hv.1
  have z1 : ¬ (1 : Int32) = 0 := by decide
  have z10 : ¬ ¬ (0 : Int32) = 0 := by decide
  have h00 := zr_h00 (s := s) (m := m) (N := N)
  have T : fz_sh_read s = (fz_rd_readFile s).bind fun q1 => if ¬ q1.1 = (-1 : Int32) then some (q1.1, q1.2) else (fz_so_copyFrom_1_11 q1.2).bind fun q2 => (fz_rd_formOfFile q2).bind fun q3 => some (q1.1, zz_i q2 0 q3) := rfl
  have bad : fz_rd_takeHead (zr_S0 s) = fz_rd_takeHead_36 (zr_S0 s) → fz_rd_takeId (zz_i (zr_S0 s) 15 0) 1380533830 = some (0, zz_i (zr_S0 s) 15 0) → fz_mo_read m = some (0, zr_M0 m) → ∃ (a : Int32) (s' m' : am_Z), fz_sh_read s = some (a, s') ∧ fz_mo_read m = some (a, m') ∧ zv s' m' := by
    intro h1 h2 h3
    have h0 := zr_h0 (s := s) (m := m) (N := N) 0
    refine ⟨0, zz_i (zr_S0 s) 15 0, zr_M0 m, ?_, h3, zr_zv hz h0.1 h0.2.1⟩
    rw [T, zr_rf, h1]
    unfold fz_rd_takeHead_36 fz_rd_takeHead_37 fz_rd_takeHead_55 fz_rd_takeHead_105
    rw [if_neg (show ¬ ¬ ((0 : Int32) = 0 ∨ (0 : Int32) = 1) by decide), if_pos (show (0 : Int32) = 0 from rfl), h2]
    simp only [zbs]
    rw [if_pos trivial]
    simp only [zbs]
    rw [show fz_rd_readFile_38 fz_fu 0 0 (zz_i (zr_S0 s) 15 0) = some ((zz_i (zr_S0 s) 15 0).1 14, zz_i (zr_S0 s) 15 0) from zr_38f 999 0 _]
    simp only [zbs]
    rw [show (zz_i (zr_S0 s) 15 0).1 14 = 0 from rfl, if_pos (show ¬ (0 : Int32) = -1 by decide)]
  by_cases h4 : 0 + 4 ≤ N
  · obtain ⟨v, hvv, hv32, hh, hi4, hpk⟩ := zr_at hv h00 h4
    have hpk' : fz_mo_peek (zr_M0 m) 0 4 1 = some (Int64.ofNat v) := hpk
    have kR : lg_cmp (Int64.ofNat v) (1380533830 : Int64) = 0 ↔ v = 1380533830 := zw_k (k := 1380533830) hv32 (by omega)
    have kF : lg_cmp (Int64.ofNat v) (1179603533 : Int64) = 0 ↔ v = 1179603533 := zw_k (k := 1179603533) hv32 (by omega)
    have iF : Int32.ofNat v = (1179603533 : Int32) ↔ v = 1179603533 := nm_inj32 (b := 1179603533) hv32 (by omega)
    have D : fz_mo_read m = if lg_cmp (Int64.ofNat v) (1380533830 : Int64) = 0 then fz_mo_read_51 (Int64.ofNat v) (zr_M0 m) else if lg_cmp (Int64.ofNat v) (1179603533 : Int64) = 0 then fz_mo_read_51 (Int64.ofNat v) (zr_M0 m) else some (0, zr_M0 m) := by
      have D0 : fz_mo_read m = (fz_mo_peek (zr_M0 m) 0 4 1).bind fun q1 => if lg_cmp q1 (1380533830 : Int64) = 0 then fz_mo_read_51 q1 (zr_M0 m) else if lg_cmp q1 (1179603533 : Int64) = 0 then fz_mo_read_51 q1 (zr_M0 m) else some (0, zr_M0 m) := rfl
      rw [D0, hpk']
      simp only [zbs]
    have C : fz_rd_takeHead (zr_S0 s) = if ¬ Int32.ofNat v = (1179603533 : Int32) then fz_rd_takeHead_36 (zr_S0 s) else fz_rd_takeHead_37 1 (zr_S0 s) := by
      unfold fz_rd_takeHead
      rw [hh]
      simp only [zbs]
      rw [if_neg z1, hi4]
      simp only [zbs]
    by_cases cF : v = 1179603533
    · rw [if_neg (not_not_intro (iF.mpr cF))] at C
      rw [if_neg (fun hc => by have := kR.mp hc; omega), if_pos (kF.mpr cF)] at D
      have D2 : fz_mo_read m = fz_mo_read_64 1 (zr_M0 m) := by
        rw [D]
        unfold fz_mo_read_51
        rw [if_neg (not_not_intro (kF.mpr cF))]
      have C2 : fz_rd_takeHead (zr_S0 s) = fz_rd_takeHead_55 (Int32.ofNat 1179603533) (zz_i (zr_S0 s) 15 1) := by
        rw [C]
        unfold fz_rd_takeHead_37
        rw [if_neg (show ¬ ¬ ((1 : Int32) = 0 ∨ (1 : Int32) = 1) by decide), if_neg z1]
        rfl
      obtain ⟨B, b1, b2⟩ := zr_head hv (g := 1) (k1 := 1179603533) (k2 := 1095321158) (F := zr_YO) (Or.inr ⟨rfl, rfl, rfl⟩) h4 (by rw [← hvv]; exact cF) (fun S M hS hs hm => by
        rw [if_neg z1]
        exact zo_loop hv 50 0 fz_fu fz_fu 12 S M (by omega) (by omega) (by decide) (by decide) hS ⟨hs 20 (by omega), Or.inl ⟨hs 17 (by omega), hm 15 (by omega)⟩⟩)
      rw [T, zr_rf, C2, D2, b1]
      exact zr_fin hz hv b2 zr_Yo
    · rw [if_pos (fun hc => cF (iF.mp hc))] at C
      by_cases cR : v = 1380533830
      · rw [if_pos (kR.mpr cR)] at D
        have D2 : fz_mo_read m = fz_mo_read_64 0 (zr_M0 m) := by
          rw [D]
          unfold fz_mo_read_51
          rw [if_pos (fun hc => cF (kF.mp hc))]
        have C2 : fz_rd_takeHead (zr_S0 s) = fz_rd_takeHead_55 (Int32.ofNat 1380533830) (zz_i (zr_S0 s) 15 0) := by
          rw [C]
          unfold fz_rd_takeHead_36 fz_rd_takeHead_37
          rw [if_neg (show ¬ ¬ ((0 : Int32) = 0 ∨ (0 : Int32) = 1) by decide), if_pos (show (0 : Int32) = 0 from rfl)]
          rfl
        obtain ⟨B, b1, b2⟩ := zr_head hv (g := 0) (k1 := 1380533830) (k2 := 1463899717) (F := zr_Y) (Or.inl ⟨rfl, rfl, rfl⟩) h4 (by rw [← hvv]; exact cR) (fun S M hS hs hm => by
          rw [if_pos (show (0 : Int32) = 0 from rfl)]
          exact zw_loop hv 50 0 fz_fu fz_fu 12 S M (by omega) (by omega) (by decide) (by decide) hS ⟨hs 20 (by omega), Or.inl ⟨hs 22 (by omega), hm 15 (by omega)⟩, Or.inl ⟨hs 16 (by omega), hm 16 (by omega)⟩⟩)
        rw [T, zr_rf, C2, D2, b1]
        exact zr_fin hz hv b2 zr_Yw
      · refine bad C ?_ ?_
        · exact zr_tid0 hv (zr_h0 (s := s) (m := m) (N := N) 0) (fun hc => cR ((nm_inj32 (b := 1380533830) hv32 (by omega)).mp (by rw [hvv]; exact hc.2)))
        · rw [D, if_neg (fun hc => cR (kR.mp hc)), if_neg (fun hc => cF (kF.mp hc))]
  · obtain ⟨hh, hpk, -⟩ := zr_at0 hv h00 h4
    have hpk' : fz_mo_peek (zr_M0 m) 0 4 1 = some (-1) := hpk
    refine bad ?_ ?_ ?_
    · unfold fz_rd_takeHead
      rw [hh]
      simp only [zbs]
      rw [if_pos trivial]
    · exact zr_tid0 hv (zr_h0 (s := s) (m := m) (N := N) 0) (fun hc => h4 hc.1)
    · have D0 : fz_mo_read m = (fz_mo_peek (zr_M0 m) 0 4 1).bind fun q1 => if lg_cmp q1 (1380533830 : Int64) = 0 then fz_mo_read_51 q1 (zr_M0 m) else if lg_cmp q1 (1179603533 : Int64) = 0 then fz_mo_read_51 q1 (zr_M0 m) else some (0, zr_M0 m) := rfl
      rw [D0, hpk']
      simp only [zbs]
      rw [if_neg (show ¬ lg_cmp (-1 : Int64) (1380533830 : Int64) = 0 by rw [nm_cmp0]; decide), if_neg (show ¬ lg_cmp (-1 : Int64) (1179603533 : Int64) = 0 by rw [nm_cmp0]; decide)]
