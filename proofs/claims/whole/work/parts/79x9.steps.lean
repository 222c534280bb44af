/-! Reading: the blocks with steps. -/
theorem zF_137 (g : Nat) (x5 x6 : Int32) (M : am_Z) : fz_mo_readData_137 (g + 1) x5 x6 (zz_i M 8 1) = some (zz_i M 8 1) := by
  unfold fz_mo_readData_137 fz_mo_readData_251
  by_cases c : (zz_i M 8 1).1 10 ≤ x6
  · rw [if_pos c, zF_pad]
    simp only [zbs]
  · rw [if_neg c, if_pos (zF_8 M), zF_pad]
    simp only [zbs]
theorem zF_keep {M : am_Z} {c a : Nat} (h10 : M.1 10 = Int32.ofNat c) (hc : c ≤ 64) (ha : a ≤ 200) : ∃ M', fz_mo_keep (zz_i M 8 1) (Int32.ofNat a) = some (zz_i M' 8 1) ∧ zr_q M M' ∧ M'.1 10 = Int32.ofNat c := by
  have e10 : (zz_i M 8 1).1 10 = Int32.ofNat c := h10
  by_cases ci : c ≤ a
  · have hle : Int32.ofNat c ≤ Int32.ofNat a := (nm_le (by omega) (by omega)).mpr ci
    refine ⟨M, ?_, ⟨rfl, fun m h => h⟩, h10⟩
    unfold fz_mo_keep
    rw [e10, if_pos hle]
  · have hle : ¬ Int32.ofNat c ≤ Int32.ofNat a := fun hh => ci ((nm_le (by omega) (by omega)).mp hh)
    have hrr : ¬ (Int32.ofNat a < 0 ∨ 64 ≤ a) := fun h => h.elim (nm_nneg (by omega)) (by omega)
    refine ⟨zz_r M 2 (upd (M.2.2 2) a (M.1 17)), ?_, ⟨rfl, fun m h => h⟩, h10⟩
    unfold fz_mo_keep
    rw [e10, if_neg hle, nm_clamp (a := a) (by omega), if_neg hrr]
    rfl
theorem zF_48 (f : Nat) (x1 x2 : Int32) (M : am_Z) : fz_mo_readStepped_48 (f + 1) x1 x2 (zz_i M 8 1) = some (zz_i M 8 1) := by
  obtain ⟨b, hb⟩ := zr_pb (zz_i M 8 1)
  unfold fz_mo_readStepped_48
  rw [hb]
  simp only [zbs]
  by_cases c : b ≤ x2
  · rw [if_pos c]
  · rw [if_neg c, if_pos (zF_8 M)]
theorem zF_rs {M : am_Z} {c a : Nat} (h10 : M.1 10 = Int32.ofNat c) (hc : c ≤ 64) (ha : a ≤ 200) : ∃ M', ((fz_mo_keep (zz_i M 8 1) (Int32.ofNat a)).bind fun q5 => fz_mo_readStepped_48 fz_fu (Int32.ofNat a) (1 : Int32) q5) = some (zz_i M' 8 1) ∧ zr_q M M' := by
  obtain ⟨M', h1, h2, -⟩ := zF_keep h10 hc ha
  refine ⟨M', ?_, h2⟩
  rw [h1]
  simp only [zbs]
  exact zF_48 999 _ _ _
theorem zr_word {s m S M : am_Z} {N P : Nat} (hv : zv_f s m N) (h : zr s m N 0 S M P) (hP : P + 2 ≤ N) : ∃ w : Nat, w < 65536 ∧ fz_rd_takeWord S = some (zr_w w, zz_i S 14 (Int32.ofNat (P + 2))) ∧ fz_mo_ask M 2 0 0 65535 = some (Int64.ofNat w, zz_i M 7 (Int32.ofNat (P + 2))) := by
  have hu : fz_by_numberAt S (Int32.ofNat P) 2 0 = some (if P + 2 ≤ N then Int64.ofNat (zn (zb s) P 2 (zfl 0)) else 0) := zr_num hv h (n := 2) (by omega) 0
  rw [if_pos hP] at hu
  have hw : zn (zb s) P 2 (zfl 0) < 65536 := by
    have : zn (zb s) P 2 (zfl 0) < 256 ^ 2 := zn_lt (fun i _ hi => ((zv_B hv).1.2.2 i (by omega)).1)
    omega
  have ep : Int32.ofNat P + (2 : Int32) = Int32.ofNat (P + 2) := nm_add P 2
  refine ⟨_, hw, ?_, ?_⟩
  · unfold fz_rd_takeWord
    rw [h.2.2.1, h.2.2.2.1, hu]
    simp only [zbs]
    rw [zr_w_s hw, ep]
  · rcases zr_ask hv h (n := 2) (by omega) 0 0 65535 with ⟨-, -, -, a4⟩ | ⟨a1, -⟩
    · exact a4
    · exact absurd ⟨hP, by
        rw [Int64.le_iff_toInt_le, nm_jtoInt (by omega)]
        have : (0 : Int64).toInt = 0 := rfl
        omega, by
        rw [Int64.le_iff_toInt_le, nm_jtoInt (by omega)]
        have : (65535 : Int64).toInt = 65535 := by decide
        omega⟩ a1
theorem zs_rblk {s m S M : am_Z} {N P c q a : Nat} (hv : zv_f s m N) (hq : q ≤ 8) (h : zr s m N 0 S M P) (hP : P + (4 + q) ≤ N) (hac : a < c) (hd : zr_d S M c a) (hbn : S.1 24 - S.1 23 = Int32.ofNat q) (h25 : S.1 25 = Int32.ofNat (2 * q + 1)) (hpb : ∀ Z : am_Z, Z.1 12 = M.1 12 → Z.1 13 = M.1 13 → fz_mo_perBlock Z = some (Int32.ofNat (2 * q + 1))) (f : Nat) : (∃ S' M', fz_rd_takeStepped_2 (f + 1) (Int32.ofNat a) S = fz_rd_takeStepped_2 f (Int32.ofNat (a + (2 * q + 1))) S' ∧ fz_mo_readStepped M (Int32.ofNat a) = some M' ∧ zr s m N 0 S' M' (P + (4 + q)) ∧ zr_d S' M' c (a + (2 * q + 1)) ∧ zr_sg S S' ∧ zr_mg M M') ∨ (∃ S' M', fz_rd_takeStepped_2 (f + 1) (Int32.ofNat a) S = some (0, S') ∧ fz_mo_readStepped M (Int32.ofNat a) = some (zz_i M' 8 1) ∧ zr_F s m S' (zz_i M' 8 1)) := by
  have eN : N ≤ 400 := hv.1
  have hc64 : c ≤ 64 := hd.1
  have z1 : ¬ (1 : Int32) = 0 := by decide
  have hca : ¬ Int32.ofNat c ≤ Int32.ofNat a := fun hh => by
    have := (nm_le (a := c) (b := a) (by omega) (by omega)).mp hh
    omega
  obtain ⟨w, hw, w1, w2⟩ := zr_word hv h (by omega)
  obtain ⟨v1, v2⟩ := zr_w_le hw
  have hup := zr_up h (Q := P + 2) (by omega)
  have h1 : zr s m N 0 (zz_i S 14 (Int32.ofNat (P + 2))) (zz_i (zz_i M 7 (Int32.ofNat (P + 2))) 17 (zr_w w)) (P + 2) := hup
  have C : ∀ A, ((fz_rd_takeWithin (zz_i S 14 (Int32.ofNat (P + 2))) (1 : Int32) (0 : Int64) (88 : Int64)).bind fun q2 => if ¬ q2.1 = 0 then (fz_sp_start_14 q2.2 (zr_w w) (Int64.toInt32 (q2.2.2.1 0))).bind fun q3 => (fz_rd_take q3 (1 : Int32) (0 : Int64)).bind fun q4 => if ¬ q4.1 = 0 then (fz_rd_appendPromised q4.2 (zr_w w)).bind fun q5 => (fz_rd_takeNibbles_10_14 q5 (0 : Int32) (4 : Int32)).bind fun q6 => fz_rd_takeStepped_2 f (Int32.ofNat a + (q6.1 25)) q6 else some ((0 : Int32), q4.2) else some ((0 : Int32), q2.2)) = A → fz_rd_takeStepped_2 (f + 1) (Int32.ofNat a) S = A := by
    intro A hA
    conv => lhs; unfold fz_rd_takeStepped_2
    rw [hd.2.1, if_neg hca, w1]
    simp only [zbs]
    exact hA
  have D : fz_mo_readStepped M (Int32.ofNat a) = ((fz_mo_ask (zz_i (zz_i M 7 (Int32.ofNat (P + 2))) 17 (zr_w w)) (1 : Int32) (0 : Int32) (0 : Int64) (88 : Int64)).bind fun q3 => (fz_mo_exact (zz_i q3.2 19 (Int64.toInt32 q3.1)) (1 : Int32) (0 : Int32) (0 : Int64)).bind fun q4 => (fz_mo_keep q4 (Int32.ofNat a)).bind fun q5 => fz_mo_readStepped_48 fz_fu (Int32.ofNat a) (1 : Int32) q5) := by
    unfold fz_mo_readStepped
    rw [w2]
    simp only [zbs]
    rw [zr_w_m hw]
    simp only [zbs]
  have f10 : (zz_i (zz_i M 7 (Int32.ofNat (P + 2))) 17 (zr_w w)).1 10 = Int32.ofNat c := hd.2.2.1
  have ff : fz_mo_ask (zz_i (zz_i M 7 (Int32.ofNat (P + 2))) 17 (zr_w w)) 1 0 0 88 = some (0, zz_i (zz_i (zz_i M 7 (Int32.ofNat (P + 2))) 17 (zr_w w)) 8 1) → ∃ M', fz_mo_readStepped M (Int32.ofNat a) = some (zz_i M' 8 1) ∧ zr_q (zz_i (zz_i M 7 (Int32.ofNat (P + 2))) 17 (zr_w w)) M' := by
    intro ha
    obtain ⟨M', k1, k2⟩ := zF_rs (M := zz_i (zz_i (zz_i M 7 (Int32.ofNat (P + 2))) 17 (zr_w w)) 19 (Int64.toInt32 0)) (c := c) (a := a) f10 hc64 (by omega)
    refine ⟨M', ?_, zr_q_t (b := zz_i (zz_i (zz_i M 7 (Int32.ofNat (P + 2))) 17 (zr_w w)) 19 (Int64.toInt32 0)) ⟨rfl, fun m h => h⟩ k2⟩
    rw [D, ha]
    simp only [zbs]
    rw [zF_c _ (by decide), zF_exact]
    simp only [zbs]
    exact k1
  rcases zr_within hv h1 (n := 1) (by omega) 0 88 with ⟨i, -, hi, c1, c2, c3, a4, a5, a6⟩ | ⟨L, a4, a5⟩ | ⟨a4, a5⟩
  · have a4' : fz_rd_takeWithin (zz_i S 14 (Int32.ofNat (P + 2))) 1 0 88 = some (1, zz_i (zz_l (zz_i S 14 (Int32.ofNat (P + 2))) 0 (Int64.ofNat i)) 14 (Int32.ofNat (P + 2 + 1))) := a4
    have a5' : fz_mo_ask (zz_i (zz_i M 7 (Int32.ofNat (P + 2))) 17 (zr_w w)) 1 0 0 88 = some (Int64.ofNat i, zz_i (zz_i (zz_i M 7 (Int32.ofNat (P + 2))) 17 (zr_w w)) 7 (Int32.ofNat (P + 2 + 1))) := a5
    have hi88 : i < 89 := by
      rw [Int64.le_iff_toInt_le, nm_jtoInt (by omega)] at c3
      have : (88 : Int64).toInt = 88 := by decide
      omega
    obtain ⟨S2, hS2⟩ : ∃ Z, Z = zz_i (zz_l (zz_i S 14 (Int32.ofNat (P + 2))) 0 (Int64.ofNat i)) 14 (Int32.ofNat (P + 2 + 1)) := ⟨_, rfl⟩
    obtain ⟨M2, hM2⟩ : ∃ Z, Z = zz_i (zz_i (zz_i M 7 (Int32.ofNat (P + 2))) 17 (zr_w w)) 7 (Int32.ofNat (P + 2 + 1)) := ⟨_, rfl⟩
    rw [← hS2] at a4' a6
    rw [← hM2] at a5' a6
    have tl : S2.2.1 0 = Int64.ofNat i := by rw [hS2]; rfl
    have h2 : zr s m N 0 (zz_i (zz_i S2 26 (zr_w w)) 27 (Int32.ofNat i)) (zz_i M2 19 (Int32.ofNat i)) (P + 2 + 1) := zr_si (zr_si a6 (i := 26) (by omega) _) (i := 27) (by omega) _
    have hst : fz_sp_start_14 S2 (zr_w w) (Int32.ofNat i) = some (zz_i (zz_i S2 26 (zr_w w)) 27 (Int32.ofNat i)) := by
      have q0 : (0 : Int32) ≤ Int32.ofNat i := (nm_nlt _ _).mp (nm_nneg (by omega))
      have q88 : Int32.ofNat i ≤ (88 : Int32) := (nm_le (a := i) (b := 88) (by omega) (by omega)).mpr (by omega)
      unfold fz_sp_start_14 fz_sh_limit
      rw [if_pos q0, if_pos q88]
      simp only [zbs]
    rcases zr_take hv h2 (n := 1) (by omega) 0 rfl 0 with ⟨b0, -, b3, b4, b5⟩ | ⟨-, b3, b4⟩
    · have b3' : fz_rd_take (zz_i (zz_i S2 26 (zr_w w)) 27 (Int32.ofNat i)) 1 0 = some (1, zz_i (zz_i (zz_i S2 26 (zr_w w)) 27 (Int32.ofNat i)) 14 (Int32.ofNat (P + 2 + 1 + 1))) := b3
      have b4' : fz_mo_exact (zz_i M2 19 (Int32.ofNat i)) 1 0 0 = some (zz_i (zz_i M2 19 (Int32.ofNat i)) 7 (Int32.ofNat (P + 2 + 1 + 1))) := b4
      obtain ⟨S4, hS4⟩ : ∃ Z, Z = zz_i (zz_i (zz_i S2 26 (zr_w w)) 27 (Int32.ofNat i)) 14 (Int32.ofNat (P + 2 + 1 + 1)) := ⟨_, rfl⟩
      obtain ⟨M4, hM4⟩ : ∃ Z, Z = zz_i (zz_i M2 19 (Int32.ofNat i)) 7 (Int32.ofNat (P + 2 + 1 + 1)) := ⟨_, rfl⟩
      rw [← hS4] at b3' b5
      rw [← hM4] at b4' b5
      have hd4 : zr_d S4 M4 c a := by
        rw [hS4, hM4, hS2, hM2]
        exact hd
      have g17 : M4.1 17 = zr_w w := by rw [hM4, hM2]; rfl
      obtain ⟨S5, M5, k1, k2, k3, k4, k5⟩ := zr_keep hd4 (by omega) g17 v1 v2
      have h5 := zr_sm b5 k4 k5
      have he : zs_es14 S5 (zr_w w, i) := ⟨by rw [k4.1 26 (by decide), hS4]; rfl, by rw [k4.1 27 (by decide), hS4]; rfl, hi88⟩
      have hm : zs_em (-1) M5 (zr_w w, i) := ⟨rfl, by rw [k5.1]; exact g17, by rw [k5.1, hM4]; rfl, hi88⟩
      have fs : zr_sg S S5 := by
        intro j j1 j2 j3
        rw [k4.1 j j3, hS4, hS2]
        show zz_u (zz_u (zz_u (zz_u (zz_u S.1 14 _) 14 _) 26 _) 27 _) 14 _ j = _
        rw [zz_u_n _ _ (by omega), zz_u_n _ _ (by omega), zz_u_n _ _ (by omega), zz_u_n _ _ (by omega), zz_u_n _ _ (by omega)]
      have fm : zr_mg M M5 := by
        intro j j1 j2
        rw [k5.1, hM4, hM2]
        show zz_u (zz_u (zz_u (zz_u (zz_u M.1 7 _) 17 _) 7 _) 19 _) 7 _ j = _
        rw [zz_u_n _ _ (by omega), zz_u_n _ _ (by omega), zz_u_n _ _ (by omega), zz_u_n _ _ (by omega), zz_u_n _ _ (by omega)]
      obtain ⟨S6, M6, n1, n2, n3, n4, n5, n6⟩ := zs_nib (a := a) (x := -1) hv hq (by omega) q 0 fz_fu fz_fu (P + 2 + 1 + 1) S5 M5 (zr_w w, i) (by omega) (by show q < 1000; omega) (by show q < 1000; omega) h5 (by omega) k3 he hm (by rw [fs 24 (by omega) (by omega) (by decide), fs 23 (by omega) (by omega) (by decide)]; exact hbn) (fun Z z12 z13 => hpb Z (z12.trans (fm 12 (by omega) (by omega))) (z13.trans (fm 13 (by omega) (by omega))))
      left
      have e25 : S6.1 25 = Int32.ofNat (2 * q + 1) := (n5 25 (by omega) (by omega) (by decide)).trans ((fs 25 (by omega) (by omega) (by decide)).trans h25)
      refine ⟨S6, M6, C _ ?_, ?_, ?_, ?_, zr_sg_t fs n5, zr_mg_t fm n6⟩
      · rw [a4']
        simp only [zbs]
        rw [if_pos z1, tl, nm_l2i, hst]
        simp only [zbs]
        rw [b3']
        simp only [zbs]
        rw [if_pos z1, k1]
        simp only [zbs]
        have n1' : fz_rd_takeNibbles_10_14 S5 0 4 = some S6 := n1
        rw [n1']
        simp only [zbs]
        rw [e25, nm_add]
      · rw [D, a5']
        simp only [zbs]
        rw [nm_l2i, b4']
        simp only [zbs]
        rw [k2]
        simp only [zbs]
        exact n2
      · rw [show P + (4 + q) = P + 2 + 1 + 1 + q by omega]
        exact n3
      · rw [show a + (2 * q + 1) = a + 1 + 2 * q by omega]
        exact n4
    · right
      have b3' : fz_rd_take (zz_i (zz_i S2 26 (zr_w w)) 27 (Int32.ofNat i)) 1 0 = some (0, zz_i (zz_i S2 26 (zr_w w)) 27 (Int32.ofNat i)) := b3
      have b4' : fz_mo_exact (zz_i M2 19 (Int32.ofNat i)) 1 0 0 = some (zz_i (zz_i M2 19 (Int32.ofNat i)) 8 1) := b4
      obtain ⟨M', k1, k2⟩ := zF_rs (M := zz_i M2 19 (Int32.ofNat i)) (c := c) (a := a) (by rw [hM2]; exact f10) hc64 (by omega)
      refine ⟨_, M', C _ ?_, ?_, zr_fz hv h2 k2⟩
      · rw [a4']
        simp only [zbs]
        rw [if_pos z1, tl, nm_l2i, hst]
        simp only [zbs]
        rw [b3']
        simp only [zbs]
        rw [if_neg (not_not_intro trivial)]
      · rw [D, a5']
        simp only [zbs]
        rw [nm_l2i, b4']
        simp only [zbs]
        exact k1
  · right
    have a4' : fz_rd_takeWithin (zz_i S 14 (Int32.ofNat (P + 2))) 1 0 88 = some (0, zz_l (zz_i S 14 (Int32.ofNat (P + 2))) 0 L) := a4
    obtain ⟨M', k1, k2⟩ := ff a5
    refine ⟨_, M', C _ ?_, k1, zr_fz hv (S := zz_l (zz_i S 14 (Int32.ofNat (P + 2))) 0 L) h1 k2⟩
    rw [a4']
    simp only [zbs]
    rw [if_neg (not_not_intro trivial)]
  · right
    have a4' : fz_rd_takeWithin (zz_i S 14 (Int32.ofNat (P + 2))) 1 0 88 = some (0, zz_i S 14 (Int32.ofNat (P + 2))) := a4
    obtain ⟨M', k1, k2⟩ := ff a5
    refine ⟨_, M', C _ ?_, k1, zr_fz hv h1 k2⟩
    rw [a4']
    simp only [zbs]
    rw [if_neg (not_not_intro trivial)]
