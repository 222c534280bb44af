/-! Reading: "fmt " as a whole. -/
theorem zr_si {s m S M : am_Z} {N P : Nat} {g : Int32} (h : zr s m N g S M P) {i : Nat} (hi : 15 < i) (v : Int32) : zr s m N g (zz_i S i v) M P := by
  obtain ⟨⟨k1, k2⟩, hm, h14, h15, h7, h8, hP⟩ := h
  refine ⟨⟨fun j hj => ?_, k2⟩, hm, ?_, ?_, h7, h8, hP⟩
  · show zz_u S.1 i v j = _
    rw [zz_u_n _ _ (by omega)]
    exact k1 j hj
  · show zz_u S.1 i v 14 = _
    rw [zz_u_n _ _ (by omega)]
    exact h14
  · show zz_u S.1 i v 15 = _
    rw [zz_u_n _ _ (by omega)]
    exact h15
theorem zr_ki {s S : am_Z} (h : zr_k s S) {i : Nat} (hi : 13 < i) (v : Int32) : zr_k s (zz_i S i v) := by
  refine ⟨fun j hj => ?_, h.2⟩
  show zz_u S.1 i v j = _
  rw [zz_u_n _ _ (by omega)]
  exact h.1 j hj
/-- what is known behind "fmt " -/
def zr_fm (S M : am_Z) : Prop := ∃ (T : Int32) (hd q ib : Nat), ((T = 1 ∧ hd = 0 ∧ q ≤ 2 ∧ ib = 1) ∨ (T = 17 ∧ hd = 4 ∧ q ≤ 8 ∧ ib = 2 * q + 1) ∨ (T = 2 ∧ hd = 7 ∧ q ≤ 8 ∧ ib = 2 * q + 2)) ∧ 1 ≤ q ∧ S.1 22 = T ∧ S.1 23 = Int32.ofNat hd ∧ S.1 24 = Int32.ofNat (hd + q) ∧ S.1 25 = Int32.ofNat ib ∧ M.1 12 = T ∧ M.1 13 = Int32.ofNat (hd + q)
def zr_fr (S S' M M' : am_Z) : Prop := S'.1 16 = S.1 16 ∧ S'.1 17 = S.1 17 ∧ S'.1 18 = S.1 18 ∧ S'.1 20 = S.1 20 ∧ S'.1 21 = S.1 21 ∧ S'.2.2 = S.2.2 ∧ M'.1 10 = M.1 10 ∧ M'.1 11 = M.1 11 ∧ M'.1 16 = M.1 16 ∧ M'.1 15 = 1
def zr_cl (S : am_Z) (W : Int32) : Option (Int32 × am_Z) := (fz_rd_takeAlign S).bind fun q10 => if q10.1 = 0 then fz_rd_takeFmt_166 q10.2 else (fz_rd_takeMoreOfFmt q10.2).bind fun q11 => if q11.1 = 0 then fz_rd_takeFmt_166 q11.2 else (fz_rd_isSpeedRight q11.2 W).bind fun q12 => if q12.1 = 0 then fz_rd_takeFmt_166 q12.2 else some ((1 : Int32), q12.2)
theorem zr_cl1 {S S1 S2 S3 : am_Z} {W k : Int32} (h1 : fz_rd_takeAlign S = some (1, S1)) (h2 : fz_rd_takeMoreOfFmt S1 = some (1, S2)) (h3 : fz_rd_isSpeedRight S2 W = some (k, S3)) (hk : k = 0 ∨ k = 1) : zr_cl S W = some (k, S3) := by
  unfold zr_cl
  rw [h1]
  simp only [zbs]
  rw [if_neg (show ¬ (1 : Int32) = 0 by decide), h2]
  simp only [zbs]
  rw [if_neg (show ¬ (1 : Int32) = 0 by decide), h3]
  simp only [zbs]
  unfold fz_rd_takeFmt_166
  rcases hk with rfl | rfl
  · rw [if_pos rfl]
  · rw [if_neg (show ¬ (1 : Int32) = 0 by decide)]
theorem zr_cl0b {S S1 S2 : am_Z} {W : Int32} (h1 : fz_rd_takeAlign S = some (1, S1)) (h2 : fz_rd_takeMoreOfFmt S1 = some (0, S2)) : zr_cl S W = some (0, S2) := by
  unfold zr_cl fz_rd_takeFmt_166
  rw [h1]
  simp only [zbs]
  rw [if_neg (show ¬ (1 : Int32) = 0 by decide), h2]
  simp only [zbs]
  rw [if_pos trivial]
theorem zr_cl0a {S S1 : am_Z} {W : Int32} (h1 : fz_rd_takeAlign S = some (0, S1)) : zr_cl S W = some (0, S1) := by
  unfold zr_cl fz_rd_takeFmt_166
  rw [h1]
  simp only [zbs]
  rw [if_pos trivial]
theorem zr_fz {s m S M : am_Z} {N P : Nat} {g : Int32} (hv : zv_f s m N) (h : zr s m N g S M P) {M' : am_Z} (hq : zr_q M M') : zr_F s m S (zz_i M' 8 1) := ⟨h.1, hq.2 m h.2.1, rfl, h.2.2.1.trans (h.2.2.2.2.1.symm.trans hq.1.symm), by
  have hN : N ≤ 400 := hv.1
  have hP := h.2.2.2.2.2.2
  rw [h.2.2.1]
  exact nm_n1 (by omega)⟩
/-- the align of a plain file, and on to the end -/
theorem zr_fin1 {s m S M : am_Z} {N P W : Nat} (hv : zv_f s m N) (h : zr s m N 0 S M P) (h22 : S.1 22 = 1) (h23 : S.1 23 = 0) (h12 : M.1 12 = 1) (h21 : S.1 21 = M.1 11) (hW : W + 4 ≤ N) : zr_E s m N 0 (fun S' M' P' => P ≤ P' ∧ zr_fm S' M' ∧ zr_fr S S' M M') (zr_cl S (Int32.ofNat W)) (fz_mo_readFormat_124 (Int32.ofNat W) (Int64.ofNat (zn (zb s) W 4 (zfl 0))) 1 0 2 M) := by
  have z1 : ¬ (1 : Int32) = 0 := by decide
  have hb : ∀ Z : am_Z, Z.1 22 = 1 → fz_fm_hasBlocks_13 Z = some 0 := by
    intro Z hZ
    unfold fz_fm_hasBlocks_13
    rw [hZ, if_neg (show ¬ (1 : Int32) = 17 by decide), if_pos (show ¬ (1 : Int32) = 2 by decide)]
  have hlo : fz_fm_leastAlign_13 S = some 1 := by
    unfold fz_fm_leastAlign_13
    rw [h23]
    rfl
  have hhi : fz_fm_mostAlign_13 S = some 2 := by
    unfold fz_fm_mostAlign_13
    rw [hb S h22]
    simp only [zbs]
    rw [if_pos trivial, h23]
    rfl
  have e1 : Int32.toInt64 1 = 1 := by decide
  have e2 : Int32.toInt64 2 = 2 := by decide
  have D : fz_mo_readFormat_124 (Int32.ofNat W) (Int64.ofNat (zn (zb s) W 4 (zfl 0))) 1 0 2 M = fz_mo_readFormat_156 (Int32.ofNat W) (Int64.ofNat (zn (zb s) W 4 (zfl 0))) 2 1 0 2 M := by
    unfold fz_mo_readFormat_124
    rw [if_neg (not_not_intro h12)]
  rw [D]
  have fa : fz_mo_ask M 2 0 1 2 = some (0, zz_i M 8 1) → ∃ M', fz_mo_readFormat_156 (Int32.ofNat W) (Int64.ofNat (zn (zb s) W 4 (zfl 0))) 2 1 0 2 M = some (zz_i M' 8 1) ∧ zr_q M M' := by
    intro ha
    refine ⟨zz_i (zz_i M 13 (Int64.toInt32 0)) 15 1, ?_, ⟨rfl, fun m h => h⟩⟩
    unfold fz_mo_readFormat_156
    rw [ha]
    simp only [zbs]
    rw [if_neg (not_not_intro (show (zz_i M 8 1).1 12 = 1 from h12)), zF_c _ (by decide), zF_188]
  have fc : ∀ Z, fz_rd_takeWithin S 2 1 2 = some (0, Z) → fz_rd_takeAlign S = some (0, Z) := by
    intro Z hZ
    unfold fz_rd_takeAlign
    rw [hlo]
    simp only [zbs]
    rw [hhi]
    simp only [zbs]
    rw [e1, e2, hZ]
    simp only [zbs]
    rw [if_neg (not_not_intro trivial)]
  rcases zr_within hv h (n := 2) (by omega) 1 2 with ⟨v, -, hv2, c1, c2, c3, a4, a5, a6⟩ | ⟨L, a4, a5⟩ | ⟨a4, a5⟩
  · have a4' : fz_rd_takeWithin S 2 1 2 = some (1, zz_i (zz_l S 0 (Int64.ofNat v)) 14 (Int32.ofNat (P + 2))) := a4
    have a5' : fz_mo_ask M 2 0 1 2 = some (Int64.ofNat v, zz_i M 7 (Int32.ofNat (P + 2))) := a5
    have hv12 : 1 ≤ v ∧ v ≤ 2 := by
      rw [Int64.le_iff_toInt_le, nm_jtoInt (by omega)] at c2 c3
      have t1 : (1 : Int64).toInt = 1 := by decide
      have t2 : (2 : Int64).toInt = 2 := by decide
      omega
    obtain ⟨S1, hS1⟩ : ∃ Z, Z = zz_i (zz_l S 0 (Int64.ofNat v)) 14 (Int32.ofNat (P + 2)) := ⟨_, rfl⟩
    have t22 : S1.1 22 = 1 := by rw [hS1]; exact h22
    have tl : S1.2.1 0 = Int64.ofNat v := by rw [hS1]; rfl
    have e22 : (zz_i (zz_i S1 24 (Int32.ofNat v)) 25 1).1 22 = 1 := t22
    have hset : fz_fm_setAlign_13 S1 (Int32.ofNat v) = some (zz_i (zz_i S1 24 (Int32.ofNat v)) 25 1) := by
      unfold fz_fm_setAlign_13
      rw [hb _ e22]
      simp only [zbs]
      rw [if_pos trivial]
    have hbits : fz_fm_bits_13 (zz_i (zz_i S1 24 (Int32.ofNat v)) 25 1) = some ((8 : Int32) * Int32.ofNat v) := by
      unfold fz_fm_bits_13
      rw [hb _ e22]
      simp only [zbs]
      rw [if_pos trivial]
      rfl
    have h1 : zr s m N 0 (zz_i (zz_i S1 24 (Int32.ofNat v)) 25 1) (zz_i (zz_i M 7 (Int32.ofNat (P + 2))) 13 (Int32.ofNat v)) (P + 2) := by
      rw [← hS1] at a6
      exact zr_si (zr_si a6 (i := 24) (by omega) _) (i := 25) (by omega) _
    have CA : ∀ (k : Int32) (Z : am_Z), (k = 0 ∨ k = 1) → fz_rd_take (zz_i (zz_i S1 24 (Int32.ofNat v)) 25 1) 2 (Int32.toInt64 ((8 : Int32) * Int32.ofNat v)) = some (k, Z) → fz_rd_takeAlign S = some (k, Z) := by
      intro k Z hk hZ
      unfold fz_rd_takeAlign
      rw [hlo]
      simp only [zbs]
      rw [hhi]
      simp only [zbs]
      rw [e1, e2, a4', ← hS1]
      simp only [zbs]
      rw [if_pos z1, tl, nm_l2i, hset]
      simp only [zbs]
      rw [hbits]
      simp only [zbs]
      rw [hZ]
      simp only [zbs]
      rw [if_neg (not_not_intro hk)]
    have RA : fz_mo_readFormat_156 (Int32.ofNat W) (Int64.ofNat (zn (zb s) W 4 (zfl 0))) 2 1 0 2 M = fz_mo_readFormat_188 (Int32.ofNat W) (Int64.ofNat (zn (zb s) W 4 (zfl 0))) (Int32.toInt64 ((8 : Int32) * Int32.ofNat v)) 0 2 (zz_i (zz_i M 7 (Int32.ofNat (P + 2))) 13 (Int32.ofNat v)) := by
      unfold fz_mo_readFormat_156
      rw [a5']
      simp only [zbs]
      rw [if_neg (not_not_intro (show (zz_i M 7 (Int32.ofNat (P + 2))).1 12 = 1 from h12)), nm_l2i]
    rw [RA]
    rcases zr_take hv h1 (n := 2) (by omega) 0 rfl (Int32.toInt64 ((8 : Int32) * Int32.ofNat v)) with ⟨b0, -, b3, b4, b5⟩ | ⟨-, b3, b4⟩
    · obtain ⟨S2, hS2⟩ : ∃ Z, Z = zz_i (zz_i (zz_i S1 24 (Int32.ofNat v)) 25 1) 14 (Int32.ofNat (P + 2 + 2)) := ⟨_, rfl⟩
      obtain ⟨M2, hM2⟩ : ∃ Z, Z = zz_i (zz_i (zz_i M 7 (Int32.ofNat (P + 2))) 13 (Int32.ofNat v)) 7 (Int32.ofNat (P + 2 + 2)) := ⟨_, rfl⟩
      rw [← hS2, ← hM2] at b5
      rw [← hS2] at b3
      rw [← hM2] at b4
      have b4' : fz_mo_exact (zz_i (zz_i M 7 (Int32.ofNat (P + 2))) 13 (Int32.ofNat v)) 2 0 (Int32.toInt64 ((8 : Int32) * Int32.ofNat v)) = some M2 := b4
      have i22 : S2.1 22 = 1 := by rw [hS2]; exact t22
      have i23 : S2.1 23 = 0 := by rw [hS2, hS1]; exact h23
      have i24 : S2.1 24 = Int32.ofNat v := by rw [hS2]; rfl
      have i25 : S2.1 25 = 1 := by rw [hS2]; rfl
      have i21 : S2.1 21 = S.1 21 := by rw [hS2, hS1]; rfl
      have j12 : M2.1 12 = 1 := by rw [hM2]; exact h12
      have j13 : M2.1 13 = Int32.ofNat v := by rw [hM2]; rfl
      have j11 : M2.1 11 = M.1 11 := by rw [hM2]; rfl
      have RB : fz_mo_readFormat_188 (Int32.ofNat W) (Int64.ofNat (zn (zb s) W 4 (zfl 0))) (Int32.toInt64 ((8 : Int32) * Int32.ofNat v)) 0 2 (zz_i (zz_i M 7 (Int32.ofNat (P + 2))) 13 (Int32.ofNat v)) = fz_mo_readFormat_294 (Int32.ofNat W) (Int64.ofNat (zn (zb s) W 4 (zfl 0))) M2 := by
        unfold fz_mo_readFormat_188 fz_mo_readFormat_234
        rw [b4']
        simp only [zbs]
        rw [if_pos j12, j12, if_pos (show ¬ (1 : Int32) = 2 by decide)]
      rw [RB]
      have pb : fz_mo_perBlock M2 = some (S2.1 25) := by
        unfold fz_mo_perBlock
        rw [j12, i25, if_pos (show ¬ (1 : Int32) = 17 by decide), if_pos (show ¬ (1 : Int32) = 2 by decide)]
      rcases zr_spd (W := W) hv b5 hW (by rw [i21, j11]; exact h21) (by rw [i24, j13]) pb (by rw [i25]; decide) with ⟨d1, d2⟩ | ⟨d1, d2⟩
      · left
        refine ⟨S2, zz_i M2 15 1, P + 2 + 2, zr_cl1 (CA 1 _ (Or.inr rfl) b3) (zr_mo1 i22) d1 (Or.inr rfl), d2, b5, by omega, ⟨1, 0, v, 1, Or.inl ⟨rfl, rfl, hv12.2, rfl⟩, hv12.1, i22, i23, ?_, i25, j12, ?_⟩, ?_, ?_, ?_, ?_, i21, ?_, ?_, j11, ?_, rfl⟩
        · rw [i24, Nat.zero_add]
        · show M2.1 13 = _
          rw [j13, Nat.zero_add]
        · rw [hS2, hS1]; rfl
        · rw [hS2, hS1]; rfl
        · rw [hS2, hS1]; rfl
        · rw [hS2, hS1]; rfl
        · rw [hS2, hS1]; rfl
        · show M2.1 10 = _
          rw [hM2]; rfl
        · show M2.1 16 = _
          rw [hM2]; rfl
      · right
        refine ⟨zz_i S2 14 (Int32.ofNat W), _, zr_cl1 (CA 1 _ (Or.inr rfl) b3) (zr_mo1 i22) d1 (Or.inl rfl), d2, zr_ki b5.1 (by omega) _, b5.2.1, rfl, rfl, nm_n1 (P := W) (by have := hv.1; omega)⟩
    · right
      have b4' : fz_mo_exact (zz_i (zz_i M 7 (Int32.ofNat (P + 2))) 13 (Int32.ofNat v)) 2 0 (Int32.toInt64 ((8 : Int32) * Int32.ofNat v)) = some (zz_i (zz_i (zz_i M 7 (Int32.ofNat (P + 2))) 13 (Int32.ofNat v)) 8 1) := b4
      refine ⟨_, _, zr_cl0a (CA 0 _ (Or.inl rfl) b3), ?_, zr_fz hv h1 (M' := zz_i (zz_i (zz_i M 7 (Int32.ofNat (P + 2))) 13 (Int32.ofNat v)) 15 1) ⟨rfl, fun m h => h⟩⟩
      unfold fz_mo_readFormat_188
      rw [b4']
      simp only [zbs]
      rw [if_pos (show (zz_i (zz_i (zz_i M 7 (Int32.ofNat (P + 2))) 13 (Int32.ofNat v)) 8 1).1 12 = 1 from h12), zF_234]
  · right
    obtain ⟨M', f1, f2⟩ := fa a5
    exact ⟨_, _, zr_cl0a (fc _ a4), f1, zr_fz hv (S := zz_l S 0 L) h f2⟩
  · right
    obtain ⟨M', f1, f2⟩ := fa a5
    exact ⟨_, _, zr_cl0a (fc _ a4), f1, zr_fz hv h f2⟩
theorem zr_hb {Z : am_Z} {T : Int32} (hT : T = 17 ∨ T = 2) (h : Z.1 22 = T) : fz_fm_hasBlocks_13 Z = some 1 := by
  unfold fz_fm_hasBlocks_13 fz_fm_hasBlocks_13_17
  rcases hT with rfl | rfl
  · rw [if_pos h]
  · rw [h, if_neg (show ¬ (2 : Int32) = 17 by decide), if_neg (show ¬ ¬ (2 : Int32) = 2 by decide)]
/-- the align of a file with blocks, and on to the end -/
theorem zr_finb {s m S M : am_Z} {N P W : Nat} (hv : zv_f s m N) (h : zr s m N 0 S M P) {T : Int32} {hd ic : Nat} {lo hi mo : Int64} (hT : T = 17 ∧ hd = 4 ∧ ic = 1 ∧ lo = 5 ∧ hi = 12 ∧ mo = 2 ∨ T = 2 ∧ hd = 7 ∧ ic = 2 ∧ lo = 8 ∧ hi = 15 ∧ mo = 32) (h22 : S.1 22 = T) (h23 : S.1 23 = Int32.ofNat hd) (h12 : M.1 12 = T) (h21 : S.1 21 = M.1 11) (hW : W + 4 ≤ N) : zr_E s m N 0 (fun S' M' P' => P ≤ P' ∧ zr_fm S' M' ∧ zr_fr S S' M M') (zr_cl S (Int32.ofNat W)) (fz_mo_readFormat_124 (Int32.ofNat W) (Int64.ofNat (zn (zb s) W 4 (zfl 0))) lo 0 2 M) := by
  have z1 : ¬ (1 : Int32) = 0 := by decide
  have hT2 : T = 17 ∨ T = 2 := by
    rcases hT with ⟨h, -⟩ | ⟨h, -⟩
    · exact Or.inl h
    · exact Or.inr h
  have hT1 : ¬ T = 1 := by
    rcases hT2 with rfl | rfl <;> decide
  have hd9 : hd ≤ 7 ∧ 1 ≤ ic ∧ ic ≤ 2 := by
    rcases hT with ⟨-, rfl, rfl, -⟩ | ⟨-, rfl, rfl, -⟩ <;> omega
  have elo : Int32.toInt64 (Int32.ofNat hd + 1) = lo := by
    rcases hT with ⟨-, rfl, -, rfl, -⟩ | ⟨-, rfl, -, rfl, -⟩ <;> decide
  have ehi : Int32.toInt64 (Int32.ofNat hd + 8) = hi := by
    rcases hT with ⟨-, rfl, -, -, rfl, -⟩ | ⟨-, rfl, -, -, rfl, -⟩ <;> decide
  have hlo : fz_fm_leastAlign_13 S = some (Int32.ofNat hd + 1) := by
    unfold fz_fm_leastAlign_13
    rw [h23]
  have hhi : fz_fm_mostAlign_13 S = some (Int32.ofNat hd + 8) := by
    unfold fz_fm_mostAlign_13
    rw [zr_hb hT2 h22]
    simp only [zbs]
    rw [if_neg z1, h23]
  have D : fz_mo_readFormat_124 (Int32.ofNat W) (Int64.ofNat (zn (zb s) W 4 (zfl 0))) lo 0 2 M = fz_mo_readFormat_156 (Int32.ofNat W) (Int64.ofNat (zn (zb s) W 4 (zfl 0))) hi lo 0 2 M := by
    unfold fz_mo_readFormat_124
    rw [h12, if_pos hT1]
    rcases hT with ⟨rfl, -, -, -, rfl, -⟩ | ⟨rfl, -, -, -, rfl, -⟩
    · rw [if_neg (show ¬ ¬ (17 : Int32) = 17 by decide)]
    · rw [if_pos (show ¬ (2 : Int32) = 17 by decide)]
  rw [D]
  have fa : fz_mo_ask M 2 0 lo hi = some (0, zz_i M 8 1) → ∃ M', fz_mo_readFormat_156 (Int32.ofNat W) (Int64.ofNat (zn (zb s) W 4 (zfl 0))) hi lo 0 2 M = some (zz_i M' 8 1) ∧ zr_q M M' := by
    intro ha
    refine ⟨zz_i (zz_i M 13 (Int64.toInt32 0)) 15 1, ?_, ⟨rfl, fun m h => h⟩⟩
    unfold fz_mo_readFormat_156
    rw [ha]
    simp only [zbs]
    rw [if_pos (show ¬ (zz_i M 8 1).1 12 = 1 by show ¬ M.1 12 = 1; rw [h12]; exact hT1), zF_c _ (by decide), zF_188]
  have fc : ∀ Z, fz_rd_takeWithin S 2 lo hi = some (0, Z) → fz_rd_takeAlign S = some (0, Z) := by
    intro Z hZ
    unfold fz_rd_takeAlign
    rw [hlo]
    simp only [zbs]
    rw [hhi]
    simp only [zbs]
    rw [elo, ehi, hZ]
    simp only [zbs]
    rw [if_neg (not_not_intro trivial)]
  rcases zr_within hv h (n := 2) (by omega) lo hi with ⟨v, -, hv2, c1, c2, c3, a4, a5, a6⟩ | ⟨L, a4, a5⟩ | ⟨a4, a5⟩
  · have a4' : fz_rd_takeWithin S 2 lo hi = some (1, zz_i (zz_l S 0 (Int64.ofNat v)) 14 (Int32.ofNat (P + 2))) := a4
    have a5' : fz_mo_ask M 2 0 lo hi = some (Int64.ofNat v, zz_i M 7 (Int32.ofNat (P + 2))) := a5
    obtain ⟨q, hq1, hq8, hvq⟩ : ∃ q, 1 ≤ q ∧ q ≤ 8 ∧ v = hd + q := by
      rw [Int64.le_iff_toInt_le, nm_jtoInt (by omega)] at c2 c3
      have t5 : (5 : Int64).toInt = 5 := by decide
      have t12 : (12 : Int64).toInt = 12 := by decide
      have t8 : (8 : Int64).toInt = 8 := by decide
      have t15 : (15 : Int64).toInt = 15 := by decide
      rcases hT with ⟨-, rfl, -, rfl, rfl, -⟩ | ⟨-, rfl, -, rfl, rfl, -⟩
      · exact ⟨v - 4, by omega, by omega, by omega⟩
      · exact ⟨v - 7, by omega, by omega, by omega⟩
    subst hvq
    obtain ⟨S1, hS1⟩ : ∃ Z, Z = zz_i (zz_l S 0 (Int64.ofNat (hd + q))) 14 (Int32.ofNat (P + 2)) := ⟨_, rfl⟩
    have t22 : S1.1 22 = T := by rw [hS1]; exact h22
    have t23 : S1.1 23 = Int32.ofNat hd := by rw [hS1]; exact h23
    have tl : S1.2.1 0 = Int64.ofNat (hd + q) := by rw [hS1]; rfl
    have e22 : (zz_i (zz_i S1 24 (Int32.ofNat (hd + q))) 25 1).1 22 = T := t22
    have ebn : fz_fm_bytesOfNibbles_13 (zz_i (zz_i S1 24 (Int32.ofNat (hd + q))) 25 1) = some (Int32.ofNat q) := by
      have : fz_fm_bytesOfNibbles_13 (zz_i (zz_i S1 24 (Int32.ofNat (hd + q))) 25 1) = some (Int32.ofNat (hd + q) - S1.1 23) := rfl
      rw [this, t23, nm_sub (by omega), Nat.add_sub_cancel_left]
    have e2q : (2 : Int32) * Int32.ofNat q = Int32.ofNat (2 * q) := nm_mul 2 q
    have eic : Int32.ofNat (2 * q) + Int32.ofNat ic = Int32.ofNat (2 * q + ic) := nm_add _ _
    have emx : fz_ma_max 1 (Int32.ofNat (2 * q + ic)) = some (Int32.ofNat (2 * q + ic)) := by
      have q1 : (1 : Int32) < Int32.ofNat (2 * q + ic) := (nm_lt (a := 1) (b := 2 * q + ic) (by omega) (by omega)).mpr (by omega)
      unfold fz_ma_max
      rw [if_pos q1]
    have h39 : fz_fm_setAlign_13_39 (Int32.ofNat ic) ((2 : Int32) * Int32.ofNat q) 1 (zz_i (zz_i S1 24 (Int32.ofNat (hd + q))) 25 1) = some (zz_i (zz_i S1 24 (Int32.ofNat (hd + q))) 25 (Int32.ofNat (2 * q + ic))) := by
      unfold fz_fm_setAlign_13_39
      rw [e2q, eic, emx]
      simp only [zbs]
      rw [zz_ii]
    have hset : fz_fm_setAlign_13 S1 (Int32.ofNat (hd + q)) = some (zz_i (zz_i S1 24 (Int32.ofNat (hd + q))) 25 (Int32.ofNat (2 * q + ic))) := by
      unfold fz_fm_setAlign_13
      rw [zr_hb hT2 e22]
      simp only [zbs]
      rw [if_neg z1, ebn]
      simp only [zbs]
      rw [t22]
      rcases hT with ⟨rfl, -, rfl, -⟩ | ⟨rfl, -, rfl, -⟩
      · rw [if_neg (show ¬ ¬ (17 : Int32) = 17 by decide)]
        exact h39
      · rw [if_pos (show ¬ (2 : Int32) = 17 by decide)]
        exact h39
    obtain ⟨S2, hS2⟩ : ∃ Z, Z = zz_i (zz_i S1 24 (Int32.ofNat (hd + q))) 25 (Int32.ofNat (2 * q + ic)) := ⟨_, rfl⟩
    rw [← hS2] at hset
    have u22 : S2.1 22 = T := by rw [hS2]; exact t22
    have u23 : S2.1 23 = Int32.ofNat hd := by rw [hS2]; exact t23
    have u24 : S2.1 24 = Int32.ofNat (hd + q) := by rw [hS2]; rfl
    have u25 : S2.1 25 = Int32.ofNat (2 * q + ic) := by rw [hS2]; rfl
    have hbits : fz_fm_bits_13 S2 = some 4 := by
      unfold fz_fm_bits_13
      rw [zr_hb hT2 u22]
      simp only [zbs]
      rw [if_neg z1]
    obtain ⟨M1, hM1⟩ : ∃ Z, Z = zz_i (zz_i M 7 (Int32.ofNat (P + 2))) 13 (Int32.ofNat (hd + q)) := ⟨_, rfl⟩
    have h1 : zr s m N 0 S2 M1 (P + 2) := by
      rw [← hS1] at a6
      rw [hS2, hM1]
      exact zr_si (zr_si a6 (i := 24) (by omega) _) (i := 25) (by omega) _
    have l12 : M1.1 12 = T := by rw [hM1]; exact h12
    have l13 : M1.1 13 = Int32.ofNat (hd + q) := by rw [hM1]; rfl
    have CA : ∀ (k : Int32) (Z : am_Z), (k = 0 ∨ k = 1) → fz_rd_take S2 2 4 = some (k, Z) → fz_rd_takeAlign S = some (k, Z) := by
      intro k Z hk hZ
      unfold fz_rd_takeAlign
      rw [hlo]
      simp only [zbs]
      rw [hhi]
      simp only [zbs]
      rw [elo, ehi, a4', ← hS1]
      simp only [zbs]
      rw [if_pos z1, tl, nm_l2i, hset]
      simp only [zbs]
      rw [hbits]
      simp only [zbs]
      rw [show Int32.toInt64 4 = 4 by decide, hZ]
      simp only [zbs]
      rw [if_neg (not_not_intro hk)]
    have RA : fz_mo_readFormat_156 (Int32.ofNat W) (Int64.ofNat (zn (zb s) W 4 (zfl 0))) hi lo 0 2 M = fz_mo_readFormat_188 (Int32.ofNat W) (Int64.ofNat (zn (zb s) W 4 (zfl 0))) 4 0 2 M1 := by
      unfold fz_mo_readFormat_156
      rw [a5']
      simp only [zbs]
      rw [if_pos (show ¬ (zz_i M 7 (Int32.ofNat (P + 2))).1 12 = 1 by show ¬ M.1 12 = 1; rw [h12]; exact hT1), nm_l2i, ← hM1]
    rw [RA]
    rcases zr_take hv h1 (n := 2) (by omega) 0 rfl 4 with ⟨b0, -, b3, b4, b5⟩ | ⟨-, b3, b4⟩
    · have b4' : fz_mo_exact M1 2 0 4 = some (zz_i M1 7 (Int32.ofNat (P + 2 + 2))) := b4
      have RB : fz_mo_readFormat_188 (Int32.ofNat W) (Int64.ofNat (zn (zb s) W 4 (zfl 0))) 4 0 2 M1 = fz_mo_readFormat_220 (Int32.ofNat W) (Int64.ofNat (zn (zb s) W 4 (zfl 0))) mo 0 2 (zz_i M1 7 (Int32.ofNat (P + 2 + 2))) := by
        unfold fz_mo_readFormat_188
        rw [b4']
        simp only [zbs]
        rw [show (zz_i M1 7 (Int32.ofNat (P + 2 + 2))).1 12 = T from l12, if_neg hT1]
        rcases hT with ⟨rfl, -, -, -, -, rfl⟩ | ⟨rfl, -, -, -, -, rfl⟩
        · rw [if_neg (show ¬ ¬ (17 : Int32) = 17 by decide)]
        · rw [if_pos (show ¬ (2 : Int32) = 17 by decide)]
      rw [RB]
      have pb : ∀ Z : am_Z, Z.1 12 = T → Z.1 13 = Int32.ofNat (hd + q) → fz_mo_perBlock Z = some (Int32.ofNat (2 * q + ic)) := by
        intro Z k12 k13
        unfold fz_mo_perBlock
        rw [k12, k13]
        rcases hT with ⟨rfl, rfl, rfl, -⟩ | ⟨rfl, rfl, rfl, -⟩
        · rw [if_neg (show ¬ ¬ (17 : Int32) = 17 by decide), show Int32.ofNat (4 + q) - (4 : Int32) = Int32.ofNat q by
            rw [show Int32.ofNat (4 + q) - (4 : Int32) = Int32.ofNat (4 + q - 4) from nm_sub (b := 4) (by omega), Nat.add_sub_cancel_left], e2q]
          exact congrArg some eic
        · rw [if_pos (show ¬ (2 : Int32) = 17 by decide), if_neg (show ¬ ¬ (2 : Int32) = 2 by decide), show Int32.ofNat (7 + q) - (7 : Int32) = Int32.ofNat q by
            rw [show Int32.ofNat (7 + q) - (7 : Int32) = Int32.ofNat (7 + q - 7) from nm_sub (b := 7) (by omega), Nat.add_sub_cancel_left], e2q]
          exact congrArg some eic
      have hTm : T = 17 ∧ mo = 2 ∨ T = 2 ∧ mo = 32 := by
        rcases hT with ⟨h1, -, -, -, -, h2⟩ | ⟨h1, -, -, -, -, h2⟩
        · exact Or.inl ⟨h1, h2⟩
        · exact Or.inr ⟨h1, h2⟩
      obtain ⟨P', hP', hh⟩ := zr_mo hv b5 hTm u22 l12 (fun Q => (pb _ l12 l13).trans (by rw [show (zz_i S2 14 (Int32.ofNat (P + 2 + 2))).1 25 = Int32.ofNat (2 * q + ic) from u25])) (Int32.ofNat W) (Int64.ofNat (zn (zb s) W 4 (zfl 0)))
      rw [zz_ii, zz_ii] at hh
      have h3 := zr_up h1 hP'.2
      rcases hh with ⟨d1, d2⟩ | ⟨d1, d2⟩
      · rw [d2]
        rcases zr_spd (W := W) hv h3 hW (by show S2.1 21 = M1.1 11; rw [hS2, hS1, hM1]; exact h21) (by show S2.1 24 = M1.1 13; rw [u24, l13]) (by show fz_mo_perBlock _ = some (S2.1 25); rw [u25]; exact pb _ l12 l13) (by show ¬ S2.1 25 = 0; rw [u25, show (0 : Int32) = Int32.ofNat 0 from rfl, nm_inj (by omega) (by omega)]; omega) with ⟨e1, e2⟩ | ⟨e1, e2⟩
        · left
          refine ⟨_, _, P', zr_cl1 (CA 1 _ (Or.inr rfl) b3) d1 e1 (Or.inr rfl), e2, h3, ?_, ⟨T, hd, q, 2 * q + ic, Or.inr ?_, hq1, u22, u23, u24, u25, l12, l13⟩, ?_⟩
          · have := hP'.1
            omega
          · rcases hT with ⟨h1, h2, h3, -⟩ | ⟨h1, h2, h3, -⟩
            · exact Or.inl ⟨h1, h2, hq8, by rw [h3]⟩
            · exact Or.inr ⟨h1, h2, hq8, by rw [h3]⟩
          · rw [hS2, hS1, hM1]
            exact ⟨rfl, rfl, rfl, rfl, rfl, rfl, rfl, rfl, rfl, rfl⟩
        · right
          exact ⟨_, _, zr_cl1 (CA 1 _ (Or.inr rfl) b3) d1 e1 (Or.inl rfl), e2, zr_ki h3.1 (by omega) _, h3.2.1, rfl, rfl, nm_n1 (P := W) (by have := hv.1; omega)⟩
      · right
        refine ⟨_, _, zr_cl0b (CA 1 _ (Or.inr rfl) b3) d1, d2, zr_fz hv h3 (M' := zz_i (zz_i M1 7 (Int32.ofNat P')) 15 1) ⟨rfl, fun m h => h⟩⟩
    · right
      have b4' : fz_mo_exact M1 2 0 4 = some (zz_i M1 8 1) := b4
      refine ⟨_, _, zr_cl0a (CA 0 _ (Or.inl rfl) b3), ?_, zr_fz hv h1 (M' := zz_i M1 15 1) ⟨rfl, fun m h => h⟩⟩
      unfold fz_mo_readFormat_188
      rw [b4']
      simp only [zbs]
      rw [show (zz_i M1 8 1).1 12 = T from l12, if_neg hT1]
      rcases hT with ⟨rfl, -⟩ | ⟨rfl, -⟩
      · rw [if_neg (show ¬ ¬ (17 : Int32) = 17 by decide), zF_220]
      · rw [if_pos (show ¬ (2 : Int32) = 17 by decide), zF_220]
  · right
    obtain ⟨M', f1, f2⟩ := fa a5
    exact ⟨_, _, zr_cl0a (fc _ a4), f1, zr_fz hv (S := zz_l S 0 L) h f2⟩
  · right
    obtain ⟨M', f1, f2⟩ := fa a5
    exact ⟨_, _, zr_cl0a (fc _ a4), f1, zr_fz hv h f2⟩
def zr_c3 (S : am_Z) : Option (Int32 × am_Z) := (fz_rd_take S (2 : Int32) (Int32.toInt64 (S.1 22))).bind fun q7 => if q7.1 = 0 then some ((0 : Int32), q7.2) else (fz_rd_take q7.2 (2 : Int32) (1 : Int64)).bind fun q8 => if q8.1 = 0 then some ((0 : Int32), q8.2) else (fz_rd_takeWithin q8.2 (4 : Int32) (1 : Int64) (192000 : Int64)).bind fun q9 => if ¬ q9.1 = 0 then zr_cl (zz_i (zz_i q9.2 21 (Int64.toInt32 (q9.2.2.1 0))) 14 ((q9.2.1 14) + (4 : Int32))) (q9.2.1 14) else some ((0 : Int32), q9.2)
/-- what stays and what is new behind "fmt " -/
def zr_fs (S S' M M' : am_Z) : Prop := S'.1 16 = S.1 16 ∧ S'.1 17 = S.1 17 ∧ S'.1 18 = S.1 18 ∧ S'.1 20 = S.1 20 ∧ S'.2.2 = S.2.2 ∧ M'.1 10 = M.1 10 ∧ M'.1 16 = M.1 16 ∧ M'.1 15 = 1 ∧ ∃ r : Nat, 1 ≤ r ∧ r ≤ 192000 ∧ S'.1 21 = Int32.ofNat r ∧ M'.1 11 = Int32.ofNat r
theorem zr_fmtT {s m S M : am_Z} {N P : Nat} (hv : zv_f s m N) (h : zr s m N 0 S M P) (h16 : P + 12 ≤ N) {T : Int32} {hd : Nat} (hT : T = 1 ∧ hd = 0 ∨ T = 17 ∧ hd = 4 ∨ T = 2 ∧ hd = 7) (h22 : S.1 22 = T) (h23 : S.1 23 = Int32.ofNat hd) : zr_E s m N 0 (fun S' M' P' => P ≤ P' ∧ zr_fm S' M' ∧ zr_fs S S' M M') (zr_c3 S) (fz_mo_readFormat_37 T M) := by
  have z1 : ¬ (1 : Int32) = 0 := by decide
  have eN : N ≤ 400 := hv.1
  rcases zr_take hv h (n := 2) (by omega) 0 rfl (Int32.toInt64 T) with ⟨a0, -, a3, a4, a5⟩ | ⟨-, a3, a4⟩
  · have a3' : fz_rd_take S 2 (Int32.toInt64 T) = some (1, zz_i S 14 (Int32.ofNat (P + 2))) := a3
    have a4' : fz_mo_exact M 2 0 (Int32.toInt64 T) = some (zz_i M 7 (Int32.ofNat (P + 2))) := a4
    have a6 : zr s m N 0 (zz_i S 14 (Int32.ofNat (P + 2))) (zz_i (zz_i M 7 (Int32.ofNat (P + 2))) 12 T) (P + 2) := a5
    rcases zr_take hv a6 (n := 2) (by omega) 0 rfl 1 with ⟨b0, -, b3, b4, b5⟩ | ⟨-, b3, b4⟩
    · have b3' : fz_rd_take (zz_i S 14 (Int32.ofNat (P + 2))) 2 1 = some (1, zz_i (zz_i S 14 (Int32.ofNat (P + 2))) 14 (Int32.ofNat (P + 2 + 2))) := b3
      have b4' : fz_mo_exact (zz_i (zz_i M 7 (Int32.ofNat (P + 2))) 12 T) 2 0 1 = some (zz_i (zz_i (zz_i M 7 (Int32.ofNat (P + 2))) 12 T) 7 (Int32.ofNat (P + 2 + 2))) := b4
      obtain ⟨S2, hS2⟩ : ∃ Z, Z = zz_i (zz_i S 14 (Int32.ofNat (P + 2))) 14 (Int32.ofNat (P + 2 + 2)) := ⟨_, rfl⟩
      obtain ⟨M2, hM2⟩ : ∃ Z, Z = zz_i (zz_i (zz_i M 7 (Int32.ofNat (P + 2))) 12 T) 7 (Int32.ofNat (P + 2 + 2)) := ⟨_, rfl⟩
      rw [← hS2] at b3'
      rw [← hM2] at b4'
      rw [← hS2, ← hM2] at b5
      have C : zr_c3 S = ((fz_rd_takeWithin S2 (4 : Int32) (1 : Int64) (192000 : Int64)).bind fun q9 => if ¬ q9.1 = 0 then zr_cl (zz_i (zz_i q9.2 21 (Int64.toInt32 (q9.2.2.1 0))) 14 ((q9.2.1 14) + (4 : Int32))) (q9.2.1 14) else some ((0 : Int32), q9.2)) := by
        unfold zr_c3
        rw [h22, a3']
        simp only [zbs]
        rw [if_neg z1, b3']
        simp only [zbs]
        rw [if_neg z1]
      have D : fz_mo_readFormat_37 T M = ((fz_mo_ask M2 (4 : Int32) (0 : Int32) (1 : Int64) (192000 : Int64)).bind fun q3 => (fz_mo_ask (zz_i q3.2 11 (Int64.toInt32 q3.1)) (4 : Int32) (0 : Int32) (0 : Int64) (4294967295 : Int64)).bind fun q4 => if ¬ (q4.2.1 12) = (1 : Int32) then if ¬ (q4.2.1 12) = (17 : Int32) then fz_mo_readFormat_124 (q3.2.1 7) q4.1 (8 : Int64) (0 : Int32) (2 : Int32) q4.2 else fz_mo_readFormat_124 (q3.2.1 7) q4.1 (5 : Int64) (0 : Int32) (2 : Int32) q4.2 else fz_mo_readFormat_124 (q3.2.1 7) q4.1 (1 : Int64) (0 : Int32) (2 : Int32) q4.2) := by
        unfold fz_mo_readFormat_37
        rw [a4']
        simp only [zbs]
        rw [b4']
        simp only [zbs]
      rw [C, D]
      have ff : fz_mo_ask M2 4 0 1 192000 = some (0, zz_i M2 8 1) → ∃ M', ((fz_mo_ask M2 (4 : Int32) (0 : Int32) (1 : Int64) (192000 : Int64)).bind fun q3 => (fz_mo_ask (zz_i q3.2 11 (Int64.toInt32 q3.1)) (4 : Int32) (0 : Int32) (0 : Int64) (4294967295 : Int64)).bind fun q4 => if ¬ (q4.2.1 12) = (1 : Int32) then if ¬ (q4.2.1 12) = (17 : Int32) then fz_mo_readFormat_124 (q3.2.1 7) q4.1 (8 : Int64) (0 : Int32) (2 : Int32) q4.2 else fz_mo_readFormat_124 (q3.2.1 7) q4.1 (5 : Int64) (0 : Int32) (2 : Int32) q4.2 else fz_mo_readFormat_124 (q3.2.1 7) q4.1 (1 : Int64) (0 : Int32) (2 : Int32) q4.2) = some (zz_i M' 8 1) ∧ zr_q M2 M' := by
        intro ha
        obtain ⟨M', h1, h2⟩ := zF_37b T M2
        refine ⟨M', ?_, h2⟩
        rw [zF_ask] at h1
        rw [ha]
        exact h1
      rcases zr_within hv b5 (n := 4) (by omega) 1 192000 with ⟨r, -, hr, c1, c2, c3, d4, d5, d6⟩ | ⟨L, d4, d5⟩ | ⟨d4, d5⟩
      · have d4' : fz_rd_takeWithin S2 4 1 192000 = some (1, zz_i (zz_l S2 0 (Int64.ofNat r)) 14 (Int32.ofNat (P + 2 + 2 + 4))) := d4
        have d5' : fz_mo_ask M2 4 0 1 192000 = some (Int64.ofNat r, zz_i M2 7 (Int32.ofNat (P + 2 + 2 + 4))) := d5
        have hr2 : 1 ≤ r ∧ r ≤ 192000 := by
          rw [Int64.le_iff_toInt_le, nm_jtoInt (by omega)] at c2 c3
          have t1 : (1 : Int64).toInt = 1 := by decide
          have t2 : (192000 : Int64).toInt = 192000 := by decide
          omega
        have e6 : zr s m N 0 (zz_i (zz_l S2 0 (Int64.ofNat r)) 14 (Int32.ofNat (P + 2 + 2 + 4))) (zz_i (zz_i M2 7 (Int32.ofNat (P + 2 + 2 + 4))) 11 (Int32.ofNat r)) (P + 2 + 2 + 4) := d6
        have e7 := zr_up (zr_si e6 (i := 21) (by omega) (Int32.ofNat r)) (Q := P + 2 + 2 + 4 + 4) (by omega)
        rcases zr_ask hv e6 (n := 4) (by omega) 0 0 4294967295 with ⟨-, -, -, g4⟩ | ⟨g1, -⟩
        · have g4' : fz_mo_ask (zz_i (zz_i M2 7 (Int32.ofNat (P + 2 + 2 + 4))) 11 (Int32.ofNat r)) 4 0 0 4294967295 = some (Int64.ofNat (zn (zb s) (P + 2 + 2 + 4) 4 (zfl 0)), zz_i (zz_i (zz_i M2 7 (Int32.ofNat (P + 2 + 2 + 4))) 11 (Int32.ofNat r)) 7 (Int32.ofNat (P + 2 + 2 + 4 + 4))) := g4
          obtain ⟨S4, hS4⟩ : ∃ Z, Z = zz_i (zz_i (zz_i (zz_l S2 0 (Int64.ofNat r)) 14 (Int32.ofNat (P + 2 + 2 + 4))) 21 (Int32.ofNat r)) 14 (Int32.ofNat (P + 2 + 2 + 4 + 4)) := ⟨_, rfl⟩
          obtain ⟨M4, hM4⟩ : ∃ Z, Z = zz_i (zz_i (zz_i M2 7 (Int32.ofNat (P + 2 + 2 + 4))) 11 (Int32.ofNat r)) 7 (Int32.ofNat (P + 2 + 2 + 4 + 4)) := ⟨_, rfl⟩
          rw [← hS4, ← hM4] at e7
          rw [← hM4] at g4'
          have ep : Int32.ofNat (P + 2 + 2 + 4) + (4 : Int32) = Int32.ofNat (P + 2 + 2 + 4 + 4) := nm_add _ 4
          have tl : (zz_i (zz_l S2 0 (Int64.ofNat r)) 14 (Int32.ofNat (P + 2 + 2 + 4))).2.1 0 = Int64.ofNat r := rfl
          have t14 : (zz_i (zz_l S2 0 (Int64.ofNat r)) 14 (Int32.ofNat (P + 2 + 2 + 4))).1 14 = Int32.ofNat (P + 2 + 2 + 4) := rfl
          have i22 : S4.1 22 = T := by rw [hS4, hS2]; exact h22
          have i23 : S4.1 23 = Int32.ofNat hd := by rw [hS4, hS2]; exact h23
          have i21 : S4.1 21 = Int32.ofNat r := by rw [hS4]; rfl
          have j12 : M4.1 12 = T := by rw [hM4, hM2]; rfl
          have j11 : M4.1 11 = Int32.ofNat r := by rw [hM4]; rfl
          have j7 : (zz_i M2 7 (Int32.ofNat (P + 2 + 2 + 4))).1 7 = Int32.ofNat (P + 2 + 2 + 4) := rfl
          rw [d4', d5']
          simp only [zbs]
          rw [if_pos z1, tl, t14, nm_l2i, ep, ← hS4, g4']
          simp only [zbs]
          rw [j12, j7]
          have fin : ∀ B : Option am_Z, zr_E s m N 0 (fun S' M' P' => P + 2 + 2 + 4 + 4 ≤ P' ∧ zr_fm S' M' ∧ zr_fr S4 S' M4 M') (zr_cl S4 (Int32.ofNat (P + 2 + 2 + 4))) B → zr_E s m N 0 (fun S' M' P' => P ≤ P' ∧ zr_fm S' M' ∧ zr_fs S S' M M') (zr_cl S4 (Int32.ofNat (P + 2 + 2 + 4))) B := by
            intro B hB
            rcases hB with ⟨S', M', P', k1, k2, k3, k4, k5, k6⟩ | hB
            · left
              obtain ⟨m1, m2, m3, m4, m5, m6, m7, m8, m9, m10⟩ := k6
              refine ⟨S', M', P', k1, k2, k3, by omega, k5, m1.trans ?_, m2.trans ?_, m3.trans ?_, m4.trans ?_, m6.trans ?_, m7.trans ?_, m9.trans ?_, m10, r, hr2.1, hr2.2, m5.trans i21, m8.trans j11⟩
              · rw [hS4, hS2]; rfl
              · rw [hS4, hS2]; rfl
              · rw [hS4, hS2]; rfl
              · rw [hS4, hS2]; rfl
              · rw [hS4, hS2]; rfl
              · rw [hM4, hM2]; rfl
              · rw [hM4, hM2]; rfl
            · exact Or.inr hB
          rcases hT with ⟨rfl, rfl⟩ | ⟨rfl, rfl⟩ | ⟨rfl, rfl⟩
          · rw [if_neg (show ¬ ¬ (1 : Int32) = 1 by decide)]
            exact fin _ (zr_fin1 hv e7 i22 i23 j12 (i21.trans j11.symm) (by omega))
          · rw [if_pos (show ¬ (17 : Int32) = 1 by decide), if_neg (show ¬ ¬ (17 : Int32) = 17 by decide)]
            exact fin _ (zr_finb hv e7 (Or.inl ⟨rfl, rfl, rfl, rfl, rfl, rfl⟩) i22 i23 j12 (i21.trans j11.symm) (by omega))
          · rw [if_pos (show ¬ (2 : Int32) = 1 by decide), if_pos (show ¬ (2 : Int32) = 17 by decide)]
            exact fin _ (zr_finb hv e7 (Or.inr ⟨rfl, rfl, rfl, rfl, rfl, rfl⟩) i22 i23 j12 (i21.trans j11.symm) (by omega))
        · have hlt := zr_lt hv (P := P + 2 + 2 + 4) (n := 4) (by omega) (by omega) (zfl 0)
          exact absurd ⟨by omega, by
            rw [Int64.le_iff_toInt_le, nm_jtoInt (by omega)]
            have : (0 : Int64).toInt = 0 := rfl
            omega, by
            rw [Int64.le_iff_toInt_le, nm_jtoInt (by omega)]
            have : (4294967295 : Int64).toInt = 4294967295 := by decide
            omega⟩ g1
      · right
        have d4' : fz_rd_takeWithin S2 4 1 192000 = some (0, zz_l S2 0 L) := d4
        obtain ⟨M', f1, f2⟩ := ff d5
        refine ⟨zz_l S2 0 L, zz_i M' 8 1, ?_, f1, zr_fz hv (S := zz_l S2 0 L) b5 f2⟩
        rw [d4']
        simp only [zbs]
        rw [if_neg (not_not_intro trivial)]
      · right
        have d4' : fz_rd_takeWithin S2 4 1 192000 = some (0, S2) := d4
        obtain ⟨M', f1, f2⟩ := ff d5
        refine ⟨S2, zz_i M' 8 1, ?_, f1, zr_fz hv b5 f2⟩
        rw [d4']
        simp only [zbs]
        rw [if_neg (not_not_intro trivial)]
    · right
      have b3' : fz_rd_take (zz_i S 14 (Int32.ofNat (P + 2))) 2 1 = some (0, zz_i S 14 (Int32.ofNat (P + 2))) := b3
      have b4' : fz_mo_exact (zz_i (zz_i M 7 (Int32.ofNat (P + 2))) 12 T) 2 0 1 = some (zz_i (zz_i (zz_i M 7 (Int32.ofNat (P + 2))) 12 T) 8 1) := b4
      obtain ⟨M', f1, f2⟩ := zF_37b T (zz_i (zz_i M 7 (Int32.ofNat (P + 2))) 12 T)
      refine ⟨_, _, ?_, ?_, zr_fz hv a6 f2⟩
      · unfold zr_c3
        rw [h22, a3']
        simp only [zbs]
        rw [if_neg z1, b3']
        simp only [zbs]
        rw [if_pos trivial]
      · unfold fz_mo_readFormat_37
        rw [a4']
        simp only [zbs]
        rw [b4']
        simp only [zbs]
        exact f1
  · right
    have a3' : fz_rd_take S 2 (Int32.toInt64 T) = some (0, S) := a3
    have a4' : fz_mo_exact M 2 0 (Int32.toInt64 T) = some (zz_i M 8 1) := a4
    obtain ⟨M', f1, f2⟩ := zF_37b T (zz_i M 12 T)
    refine ⟨_, _, ?_, ?_, zr_fz hv h (zr_q_t (b := zz_i M 12 T) ⟨rfl, fun m h => h⟩ f2)⟩
    · unfold zr_c3
      rw [h22, a3']
      simp only [zbs]
      rw [if_pos trivial]
    · unfold fz_mo_readFormat_37
      rw [a4']
      simp only [zbs]
      rw [zF_c _ (by decide), zF_exact]
      simp only [zbs]
      exact f1
