/-! Reading: the blocks with pairs. -/
theorem zF_90 (f : Nat) (x1 x2 x4 : Int32) (M : am_Z) : fz_mo_readPredicted_90 (f + 1) x1 x2 x4 (zz_i M 8 1) = some (zz_i M 8 1) := by
  obtain ⟨b, hb⟩ := zr_pb (zz_i M 8 1)
  unfold fz_mo_readPredicted_90
  rw [hb]
  simp only [zbs]
  by_cases c : b ≤ x4
  · rw [if_pos c]
  · rw [if_neg c, if_pos (zF_8 M)]
/-- the reference behind the delta -/
def zr_rp (pp : Int32) (a : Int32) (Z : am_Z) : Option am_Z := (fz_mo_ask Z (2 : Int32) (0 : Int32) (0 : Int64) (65535 : Int64)).bind fun q3 => (fz_mo_signed q3.1 (16 : Int32)).bind fun q4 => (fz_mo_ask q3.2 (2 : Int32) (0 : Int32) (0 : Int64) (65535 : Int64)).bind fun q5 => (fz_mo_signed q5.1 (16 : Int32)).bind fun q6 => (fz_mo_keep (zz_i (zz_i q5.2 17 q6) 18 q6) a).bind fun q7 => (fz_mo_keep (zz_i q7 17 q4) (a + (1 : Int32))).bind fun q8 => fz_mo_readPredicted_90 fz_fu a pp (2 : Int32) q8
theorem zF_rp {M : am_Z} {c a : Nat} (h10 : M.1 10 = Int32.ofNat c) (hc : c ≤ 64) (ha : a ≤ 100) (pp : Int32) : ∃ M', zr_rp pp (Int32.ofNat a) (zz_i M 8 1) = some (zz_i M' 8 1) ∧ zr_q M M' := by
  have hs0 : fz_mo_signed 0 16 = some (zr_w 0) := zr_w_m (v := 0) (by omega)
  have ea : Int32.ofNat a + (1 : Int32) = Int32.ofNat (a + 1) := nm_add a 1
  obtain ⟨M1, k1, k2, k3⟩ := zF_keep (M := zz_i (zz_i M 17 (zr_w 0)) 18 (zr_w 0)) (c := c) (a := a) h10 hc (by omega)
  obtain ⟨M2, l1, l2, -⟩ := zF_keep (M := zz_i M1 17 (zr_w 0)) (c := c) (a := a + 1) k3 hc (by omega)
  refine ⟨M2, ?_, zr_q_t (b := zz_i (zz_i M 17 (zr_w 0)) 18 (zr_w 0)) ⟨rfl, fun m h => h⟩ (zr_q_t k2 (zr_q_t (b := zz_i M1 17 (zr_w 0)) ⟨rfl, fun m h => h⟩ l2))⟩
  unfold zr_rp
  rw [zF_ask]
  simp only [zbs]
  rw [hs0]
  simp only [zbs]
  rw [zF_ask]
  simp only [zbs]
  rw [hs0]
  simp only [zbs]
  rw [zF_c _ (by decide), zF_c _ (by decide), k1]
  simp only [zbs]
  rw [zF_c _ (by decide), ea, l1]
  simp only [zbs]
  exact zF_90 999 _ _ _ _
theorem zp_rblk {s m S M : am_Z} {N P c q a : Nat} (hv : zv_f s m N) (hq : q ≤ 8) (h : zr s m N 0 S M P) (hP : P + (7 + q) ≤ N) (hac : a < c) (hd : zr_d S M c a) (hbn : S.1 24 - S.1 23 = Int32.ofNat q) (h25 : S.1 25 = Int32.ofNat (2 * q + 2)) (hpb : ∀ Z : am_Z, Z.1 12 = M.1 12 → Z.1 13 = M.1 13 → fz_mo_perBlock Z = some (Int32.ofNat (2 * q + 2))) (f : Nat) : (∃ S' M', fz_rd_takePredicted_2 (f + 1) (Int32.ofNat a) S = fz_rd_takePredicted_2 f (Int32.ofNat (a + (2 * q + 2))) S' ∧ fz_mo_readPredicted M (Int32.ofNat a) = some M' ∧ zr s m N 0 S' M' (P + (7 + q)) ∧ zr_d S' M' c (a + (2 * q + 2)) ∧ zr_sg S S' ∧ zr_mg M M') ∨ (∃ S' M', fz_rd_takePredicted_2 (f + 1) (Int32.ofNat a) S = some (0, S') ∧ fz_mo_readPredicted M (Int32.ofNat a) = some (zz_i M' 8 1) ∧ zr_F s m S' (zz_i M' 8 1)) := by
  have eN : N ≤ 400 := hv.1
  have hc64 : c ≤ 64 := hd.1
  have z1 : ¬ (1 : Int32) = 0 := by decide
  have hca : ¬ Int32.ofNat c ≤ Int32.ofNat a := fun hh => by
    have := (nm_le (a := c) (b := a) (by omega) (by omega)).mp hh
    omega
  have h10 : M.1 10 = Int32.ofNat c := hd.2.2.1
  have D : fz_mo_readPredicted M (Int32.ofNat a) = ((fz_mo_ask M (1 : Int32) (0 : Int32) (0 : Int64) (6 : Int64)).bind fun q1 => (fz_mo_ask q1.2 (2 : Int32) (0 : Int32) (1 : Int64) (65535 : Int64)).bind fun q2 => zr_rp (Int64.toInt32 q1.1) (Int32.ofNat a) (zz_i q2.2 20 (Int64.toInt32 q2.1))) := rfl
  have C : ∀ A, ((fz_rd_takeWithin S (1 : Int32) (0 : Int64) (6 : Int64)).bind fun q1 => if ¬ q1.1 = 0 then (fz_rd_takeWithin q1.2 (2 : Int32) (1 : Int64) (65535 : Int64)).bind fun q2 => if ¬ q2.1 = 0 then (fz_rd_takeWord q2.2).bind fun q3 => (fz_rd_takeWord q3.2).bind fun q4 => (fz_pr_start_15 q4.2 q4.1 q3.1 (Int64.toInt32 (q2.2.2.1 0)) (Int64.toInt32 (q1.2.2.1 0))).bind fun q5 => (fz_rd_appendPromised q5 q4.1).bind fun q6 => (fz_rd_appendPromised q6 q3.1).bind fun q7 => (fz_rd_takeNibbles_10_15 q7 (4 : Int32) (0 : Int32)).bind fun q8 => fz_rd_takePredicted_2 f (Int32.ofNat a + (q8.1 25)) q8 else some ((0 : Int32), q2.2) else some ((0 : Int32), q1.2)) = A → fz_rd_takePredicted_2 (f + 1) (Int32.ofNat a) S = A := by
    intro A hA
    conv => lhs; unfold fz_rd_takePredicted_2
    rw [hd.2.1, if_neg hca]
    exact hA
  have f1 : fz_mo_ask M 1 0 0 6 = some (0, zz_i M 8 1) → ∃ M', fz_mo_readPredicted M (Int32.ofNat a) = some (zz_i M' 8 1) ∧ zr_q M M' := by
    intro ha
    obtain ⟨M', k1, k2⟩ := zF_rp (M := zz_i M 20 (Int64.toInt32 0)) (c := c) (a := a) h10 hc64 (by omega) (Int64.toInt32 0)
    refine ⟨M', ?_, zr_q_t (b := zz_i M 20 (Int64.toInt32 0)) ⟨rfl, fun m h => h⟩ k2⟩
    rw [D, ha]
    simp only [zbs]
    rw [zF_ask]
    simp only [zbs]
    rw [zF_c _ (by decide)]
    exact k1
  rcases zr_within hv h (n := 1) (by omega) 0 6 with ⟨p, -, hp, c1, c2, c3, a4, a5, a6⟩ | ⟨L, a4, a5⟩ | ⟨a4, a5⟩
  · have a4' : fz_rd_takeWithin S 1 0 6 = some (1, zz_i (zz_l S 0 (Int64.ofNat p)) 14 (Int32.ofNat (P + 1))) := a4
    have a5' : fz_mo_ask M 1 0 0 6 = some (Int64.ofNat p, zz_i M 7 (Int32.ofNat (P + 1))) := a5
    have hp7 : p < 7 := by
      rw [Int64.le_iff_toInt_le, nm_jtoInt (by omega)] at c3
      have : (6 : Int64).toInt = 6 := by decide
      omega
    obtain ⟨S1, hS1⟩ : ∃ Z, Z = zz_i (zz_l S 0 (Int64.ofNat p)) 14 (Int32.ofNat (P + 1)) := ⟨_, rfl⟩
    obtain ⟨M1, hM1⟩ : ∃ Z, Z = zz_i M 7 (Int32.ofNat (P + 1)) := ⟨_, rfl⟩
    rw [← hS1] at a4' a6
    rw [← hM1] at a5' a6
    have t1 : S1.2.1 0 = Int64.ofNat p := by rw [hS1]; rfl
    have m10 : M1.1 10 = Int32.ofNat c := by rw [hM1]; exact h10
    have f2 : fz_mo_ask M1 2 0 1 65535 = some (0, zz_i M1 8 1) → ∃ M', fz_mo_readPredicted M (Int32.ofNat a) = some (zz_i M' 8 1) ∧ zr_q M1 M' := by
      intro ha
      obtain ⟨M', k1, k2⟩ := zF_rp (M := zz_i M1 20 (Int64.toInt32 0)) (c := c) (a := a) m10 hc64 (by omega) (Int64.toInt32 (Int64.ofNat p))
      refine ⟨M', ?_, zr_q_t (b := zz_i M1 20 (Int64.toInt32 0)) ⟨rfl, fun m h => h⟩ k2⟩
      rw [D, a5']
      simp only [zbs]
      rw [ha]
      simp only [zbs]
      rw [zF_c _ (by decide)]
      exact k1
    rcases zr_within hv a6 (n := 2) (by omega) 1 65535 with ⟨d, -, hdl, e1, e2, e3, b4, b5, b6⟩ | ⟨L, b4, b5⟩ | ⟨b4, b5⟩
    · have b4' : fz_rd_takeWithin S1 2 1 65535 = some (1, zz_i (zz_l S1 0 (Int64.ofNat d)) 14 (Int32.ofNat (P + 1 + 2))) := b4
      have b5' : fz_mo_ask M1 2 0 1 65535 = some (Int64.ofNat d, zz_i M1 7 (Int32.ofNat (P + 1 + 2))) := b5
      obtain ⟨S2, hS2⟩ : ∃ Z, Z = zz_i (zz_l S1 0 (Int64.ofNat d)) 14 (Int32.ofNat (P + 1 + 2)) := ⟨_, rfl⟩
      obtain ⟨M2, hM2⟩ : ∃ Z, Z = zz_i (zz_i M1 7 (Int32.ofNat (P + 1 + 2))) 20 (Int32.ofNat d) := ⟨_, rfl⟩
      have t2 : S2.2.1 0 = Int64.ofNat d := by rw [hS2]; rfl
      rw [← hS2] at b4' b6
      have b7 : zr s m N 0 S2 M2 (P + 1 + 2) := by
        rw [hM2]
        exact b6
      obtain ⟨w1, hw1, u1, u2⟩ := zr_word hv b7 (by omega)
      have b8 := zr_up b7 (Q := P + 1 + 2 + 2) (by omega)
      obtain ⟨w2, hw2, y1, y2⟩ := zr_word hv b8 (by omega)
      rw [zz_ii] at y1 y2
      have b9 := zr_up b7 (Q := P + 1 + 2 + 2 + 2) (by omega)
      obtain ⟨v11, v12⟩ := zr_w_le hw1
      obtain ⟨v21, v22⟩ := zr_w_le hw2
      obtain ⟨S4, hS4⟩ : ∃ Z, Z = zz_i S2 14 (Int32.ofNat (P + 1 + 2 + 2 + 2)) := ⟨_, rfl⟩
      obtain ⟨M4, hM4⟩ : ∃ Z, Z = zz_i M2 7 (Int32.ofNat (P + 1 + 2 + 2 + 2)) := ⟨_, rfl⟩
      rw [← hS4] at y1 b9
      rw [← hM4] at y2 b9
      obtain ⟨S5, hS5⟩ : ∃ Z, Z = zz_i (zz_i (zz_i (zz_i S4 29 (zr_w w2)) 28 (zr_w w1)) 30 (Int32.ofNat d)) 31 (Int32.ofNat p) := ⟨_, rfl⟩
      obtain ⟨M5, hM5⟩ : ∃ Z, Z = zz_i (zz_i M4 17 (zr_w w2)) 18 (zr_w w2) := ⟨_, rfl⟩
      have hst : fz_pr_start_15 S4 (zr_w w2) (zr_w w1) (Int32.ofNat d) (Int32.ofNat p) = some S5 := by
        have q0 : (0 : Int32) ≤ Int32.ofNat p := (nm_nlt _ _).mp (nm_nneg (by omega))
        have q6 : Int32.ofNat p ≤ (6 : Int32) := (nm_le (a := p) (b := 6) (by omega) (by omega)).mpr (by omega)
        unfold fz_pr_start_15 fz_sh_limit
        rw [if_pos q0, if_pos q6]
        simp only [zbs]
        rw [hS5]
      have h5 : zr s m N 0 S5 M5 (P + 1 + 2 + 2 + 2) := by
        rw [hS5, hM5]
        exact zr_si (zr_si (zr_si (zr_si b9 (i := 29) (by omega) _) (i := 28) (by omega) _) (i := 30) (by omega) _) (i := 31) (by omega) _
      have hd5 : zr_d S5 M5 c a := by
        rw [hS5, hM5, hS4, hM4, hS2, hM2, hS1, hM1]
        exact hd
      obtain ⟨S6, M6, k1, k2, k3, k4, k5⟩ := zr_keep hd5 (by omega) (show M5.1 17 = zr_w w2 by rw [hM5]; rfl) v21 v22
      have h6 := zr_sm h5 k4 k5
      obtain ⟨M6', hM6⟩ : ∃ Z, Z = zz_i M6 17 (zr_w w1) := ⟨_, rfl⟩
      have h6' : zr s m N 0 S6 M6' (P + 1 + 2 + 2 + 2) := by
        rw [hM6]
        exact h6
      have k3' : zr_d S6 M6' c (a + 1) := by
        rw [hM6]
        exact k3
      obtain ⟨S7, M7, l1, l2, l3, l4, l5⟩ := zr_keep k3' (by omega) (show M6'.1 17 = zr_w w1 by rw [hM6]; rfl) v11 v12
      have h7 := zr_sm h6' l4 l5
      have s7 : ∀ j, j ≠ 20 → S7.1 j = S5.1 j := fun j hj => (l4.1 j hj).trans (k4.1 j hj)
      have he : zp_es15 S7 (zr_w w1, zr_w w2, Int32.ofNat d, p) := ⟨by rw [s7 28 (by decide), hS5]; rfl, by rw [s7 29 (by decide), hS5]; rfl, by rw [s7 30 (by decide), hS5]; rfl, by rw [s7 31 (by decide), hS5]; rfl, hp7⟩
      have m18 : M6.1 18 = zr_w w2 := by rw [k5.1, hM5]; rfl
      have m20 : M6.1 20 = Int32.ofNat d := by rw [k5.1, hM5, hM4, hM2]; rfl
      have hm : zp_em (Int32.ofNat p) M7 (zr_w w1, zr_w w2, Int32.ofNat d, p) := ⟨rfl, by rw [l5.1, hM6]; rfl, by rw [l5.1, hM6]; exact m18, by rw [l5.1, hM6]; exact m20, hp7⟩
      have fs : zr_sg S S7 := by
        intro j j1 j2 j3
        rw [s7 j j3, hS5, hS4, hS2, hS1]
        show zz_u (zz_u (zz_u (zz_u (zz_u (zz_u (zz_u S.1 14 _) 14 _) 14 _) 29 _) 28 _) 30 _) 31 _ j = _
        rw [zz_u_n _ _ (by omega), zz_u_n _ _ (by omega), zz_u_n _ _ (by omega), zz_u_n _ _ (by omega), zz_u_n _ _ (by omega), zz_u_n _ _ (by omega), zz_u_n _ _ (by omega)]
      have fm : zr_mg M M7 := by
        intro j j1 j2
        rw [l5.1, hM6]
        show zz_u M6.1 17 _ j = _
        rw [zz_u_n _ _ (by omega), k5.1, hM5, hM4, hM2, hM1]
        show zz_u (zz_u (zz_u (zz_u (zz_u (zz_u M.1 7 _) 7 _) 20 _) 7 _) 17 _) 18 _ j = _
        rw [zz_u_n _ _ (by omega), zz_u_n _ _ (by omega), zz_u_n _ _ (by omega), zz_u_n _ _ (by omega), zz_u_n _ _ (by omega), zz_u_n _ _ (by omega)]
      obtain ⟨S8, M8, n1, n2, n3, n4, n5, n6⟩ := zp_nib (a := a) (x := Int32.ofNat p) hv hq (by omega) q 0 fz_fu fz_fu (P + 1 + 2 + 2 + 2) S7 M7 (zr_w w1, zr_w w2, Int32.ofNat d, p) (by omega) (by show q < 1000; omega) (by show q < 1000; omega) h7 (by omega) l3 he hm (by rw [fs 24 (by omega) (by omega) (by decide), fs 23 (by omega) (by omega) (by decide)]; exact hbn) (fun Z z12 z13 => hpb Z (z12.trans (fm 12 (by omega) (by omega))) (z13.trans (fm 13 (by omega) (by omega))))
      left
      have e25 : S8.1 25 = Int32.ofNat (2 * q + 2) := (n5 25 (by omega) (by omega) (by decide)).trans ((fs 25 (by omega) (by omega) (by decide)).trans h25)
      have ea : Int32.ofNat a + (1 : Int32) = Int32.ofNat (a + 1) := nm_add a 1
      refine ⟨S8, M8, C _ ?_, ?_, ?_, ?_, zr_sg_t fs n5, zr_mg_t fm n6⟩
      · rw [a4']
        simp only [zbs]
        rw [if_pos z1, b4']
        simp only [zbs]
        rw [if_pos z1, u1]
        simp only [zbs]
        rw [y1]
        simp only [zbs]
        rw [t1, t2, nm_l2i, nm_l2i, hst]
        simp only [zbs]
        rw [k1]
        simp only [zbs]
        rw [l1]
        simp only [zbs]
        have n1' : fz_rd_takeNibbles_10_15 S7 4 0 = some S8 := n1
        rw [n1']
        simp only [zbs]
        rw [e25, nm_add]
      · rw [D, a5']
        simp only [zbs]
        rw [b5']
        simp only [zbs]
        rw [nm_l2i, nm_l2i, ← hM2]
        unfold zr_rp
        rw [u2]
        simp only [zbs]
        rw [zr_w_m hw1]
        simp only [zbs]
        rw [y2]
        simp only [zbs]
        rw [zr_w_m hw2]
        simp only [zbs]
        rw [← hM5, k2]
        simp only [zbs]
        rw [← hM6, ea, l2]
        simp only [zbs]
        exact n2
      · rw [show P + (7 + q) = P + 1 + 2 + 2 + 2 + q by omega]
        exact n3
      · rw [show a + (2 * q + 2) = a + 2 + 2 * q by omega]
        exact n4
    · right
      have b4' : fz_rd_takeWithin S1 2 1 65535 = some (0, zz_l S1 0 L) := b4
      obtain ⟨M', k1, k2⟩ := f2 b5
      refine ⟨_, M', C _ ?_, k1, zr_fz hv (S := zz_l S1 0 L) a6 k2⟩
      rw [a4']
      simp only [zbs]
      rw [if_pos z1, b4']
      simp only [zbs]
      rw [if_neg (not_not_intro trivial)]
    · right
      have b4' : fz_rd_takeWithin S1 2 1 65535 = some (0, S1) := b4
      obtain ⟨M', k1, k2⟩ := f2 b5
      refine ⟨_, M', C _ ?_, k1, zr_fz hv a6 k2⟩
      rw [a4']
      simp only [zbs]
      rw [if_pos z1, b4']
      simp only [zbs]
      rw [if_neg (not_not_intro trivial)]
  · right
    have a4' : fz_rd_takeWithin S 1 0 6 = some (0, zz_l S 0 L) := a4
    obtain ⟨M', k1, k2⟩ := f1 a5
    refine ⟨_, M', C _ ?_, k1, zr_fz hv (S := zz_l S 0 L) h k2⟩
    rw [a4']
    simp only [zbs]
    rw [if_neg (not_not_intro trivial)]
  · right
    have a4' : fz_rd_takeWithin S 1 0 6 = some (0, S) := a4
    obtain ⟨M', k1, k2⟩ := f1 a5
    refine ⟨_, M', C _ ?_, k1, zr_fz hv h k2⟩
    rw [a4']
    simp only [zbs]
    rw [if_neg (not_not_intro trivial)]
