/-! Reading: the chunk with the samples. -/
def zr_D (S M : am_Z) (c : Nat) (S' M' : am_Z) (_ : Nat) : Prop := zr_d S' M' c c ∧ zr_sg S S' ∧ zr_mg M M'
theorem zr_end {s m S M S' M' : am_Z} {N P c z : Nat} {g : Int32} (hv : zv_f s m N) (h : zr s m N g S' M' P) (hz : z < 2147483648) (hd : zr_d S' M' c c) (hs : zr_sg S S') (hm : zr_mg M M') : ∃ (k : Int32) (Z : am_Z), fz_rd_takeByteBehind S' (Int64.ofNat z) = some (k, Z) ∧ (k = 0 ∨ k = 1) ∧ zr_E s m N g (zr_D S M c) (some (k, Z)) (fz_mo_readData_251 (Int32.ofNat z) M') := by
  have e : ∀ Z, fz_mo_pad M' (Int32.ofNat z) = some Z → fz_mo_readData_251 (Int32.ofNat z) M' = some Z := by
    intro Z hZ
    unfold fz_mo_readData_251
    rw [hZ]
    simp only [zbs]
  rcases zr_pad hv h hz with ⟨a1, a2, a3⟩ | ⟨a1, a2⟩
  · refine ⟨1, _, a1, Or.inr rfl, Or.inl ⟨_, _, _, rfl, e _ a2, a3, hd, ?_, ?_⟩⟩
    · intro j j1 j2 j3
      show zz_u S'.1 14 _ j = _
      rw [zz_u_n _ _ (by omega)]
      exact hs j j1 j2 j3
    · intro j j1 j2
      show zz_u M'.1 7 _ j = _
      rw [zz_u_n _ _ (by omega)]
      exact hm j j1 j2
  · exact ⟨0, _, a1, Or.inl rfl, Or.inr ⟨_, _, rfl, e _ a2, zr_f hv h⟩⟩
theorem zr_plain {s m S M : am_Z} {N P c al z : Nat} (hv : zv_f s m N) (h : zr s m N 0 S M P) (hal : al = 1 ∨ al = 2) (hz : z = c * al) (hc : c ≤ 64) (hP : P + z ≤ N) (h18 : S.1 18 = Int32.ofNat c) (h10 : M.1 10 = Int32.ofNat c) (h20 : S.1 20 = 0) (h24 : S.1 24 = Int32.ofNat al) (h12 : M.1 12 = 1) (h13 : M.1 13 = Int32.ofNat al) : zr_E s m N 0 (zr_D S M c) ((fz_rd_takePlain S).bind fun q5 => (fz_rd_takeByteBehind q5 (Int64.ofNat z)).bind fun q6 => if ¬ (q6.1 = 0 ∨ q6.1 = 1) then none else some (q6.1, q6.2)) (fz_mo_readData_134 (Int32.ofNat z) M) := by
  have hd0 : zr_d S M c 0 := ⟨hc, h18, h10, by rw [h20, Nat.zero_min]; rfl, fun j hj => by rw [Nat.zero_min] at hj; exact absurd hj (Nat.not_lt_zero j)⟩
  have hz2 : z < 2147483648 := by
    rcases hal with rfl | rfl <;> omega
  obtain ⟨S', M', l1, l2, l3, l4, l5, l6⟩ := zr_rpl hv hal (Int32.ofNat z) c 0 fz_fu fz_fu P S M (by omega) (by show c < 1000; omega) (by show c < 1000; omega) h (by rw [← hz]; exact hP) hd0 h24 h12 h13
  obtain ⟨k, Z, a1, a2, a3⟩ := zr_end (S := S) (M := M) hv l3 hz2 l4 l5 l6
  have l1' : fz_rd_takePlain S = some S' := l1
  have l2' : fz_mo_readData_134 (Int32.ofNat z) M = fz_mo_readData_251 (Int32.ofNat z) M' := l2
  rw [l1', l2']
  simp only [zbs]
  rw [a1]
  simp only [zbs]
  rw [if_neg (not_not_intro a2)]
  exact a3
theorem zr_173 {s m S' : am_Z} {N z : Nat} {F : am_Z → am_Z → Nat → Prop} {k : Int32} {Z : am_Z} {B : Option am_Z} (hz : z < 2147483648) (h1 : fz_rd_takeByteBehind S' (Int64.ofNat z) = some (k, Z)) (hk : k = 0 ∨ k = 1) (h : zr_E s m N 0 F (some (k, Z)) B) : zr_E s m N 0 F (fz_rd_takeData_173 (Int32.ofNat z) S') B := by
  have e : fz_rd_takeData_173 (Int32.ofNat z) S' = some (k, Z) := by
    unfold fz_rd_takeData_173 fz_rd_takeData_186
    rw [nm_i2l hz, h1]
    simp only [zbs]
    rcases hk with rfl | rfl
    · rw [if_pos rfl]
    · rw [if_neg (show ¬ (1 : Int32) = 0 by decide)]
  rw [e]
  exact h
theorem zr_blks {s m S M : am_Z} {N P c q z hd ic : Nat} {T : Int32} (hT : T = 17 ∧ hd = 4 ∧ ic = 1 ∨ T = 2 ∧ hd = 7 ∧ ic = 2) (hv : zv_f s m N) (h : zr s m N 0 S M P) (hq8 : q ≤ 8) (hz : z = zn_bl c 0 (2 * q + ic) * (hd + q)) (hz2 : z < 2147483648) (hc : c ≤ 64) (hP : P + z ≤ N) (h18 : S.1 18 = Int32.ofNat c) (h10 : M.1 10 = Int32.ofNat c) (h20 : S.1 20 = 0) (h22 : S.1 22 = T) (hbn : S.1 24 - S.1 23 = Int32.ofNat q) (h25 : S.1 25 = Int32.ofNat (2 * q + ic)) (h12 : M.1 12 = T) (hpb : ∀ Z : am_Z, Z.1 12 = M.1 12 → Z.1 13 = M.1 13 → fz_mo_perBlock Z = some (Int32.ofNat (2 * q + ic))) : zr_E s m N 0 (zr_D S M c) (if ¬ S.1 22 = (17 : Int32) then (fz_rd_takePredicted S).bind fun q3 => if q3.1 = 0 then fz_rd_takeData_186 q3.2 else fz_rd_takeData_173 (Int32.ofNat z) q3.2 else (fz_rd_takeStepped S).bind fun q4 => if q4.1 = 0 then fz_rd_takeData_186 q4.2 else fz_rd_takeData_173 (Int32.ofNat z) q4.2) (fz_mo_readData_134 (Int32.ofNat z) M) := by
  have hd0 : zr_d S M c 0 := ⟨hc, h18, h10, by rw [h20, Nat.zero_min]; rfl, fun j hj => by rw [Nat.zero_min] at hj; exact absurd hj (Nat.not_lt_zero j)⟩
  have z1 : ¬ (1 : Int32) = 0 := by decide
  rw [h22]
  rcases hT with ⟨rfl, rfl, rfl⟩ | ⟨rfl, rfl, rfl⟩
  · rw [if_neg (show ¬ ¬ (17 : Int32) = 17 by decide)]
    rcases zs_rdat hv hq8 (Int32.ofNat z) c 0 fz_fu fz_fu P S M (by omega) (by omega) (by show c < 1000; omega) (by show c < 1000; omega) h (by rw [← hz]; exact hP) hd0 hbn h25 h12 hpb with ⟨S', M', l1, l2, l3, l4, l5, l6⟩ | ⟨S', M', l1, l2, l3⟩
    · obtain ⟨k, Z, a1, a2, a3⟩ := zr_end (S := S) (M := M) hv l3 hz2 l4 l5 l6
      have l1' : fz_rd_takeStepped S = some (1, S') := l1
      have l2' : fz_mo_readData_134 (Int32.ofNat z) M = fz_mo_readData_251 (Int32.ofNat z) M' := l2
      rw [l1', l2']
      simp only [zbs]
      rw [if_neg z1]
      exact zr_173 hz2 a1 a2 a3
    · have l1' : fz_rd_takeStepped S = some (0, S') := l1
      right
      refine ⟨S', _, ?_, l2, l3⟩
      unfold fz_rd_takeData_186
      rw [l1']
      simp only [zbs]
      rw [if_pos trivial]
  · rw [if_pos (show ¬ (2 : Int32) = 17 by decide)]
    rcases zp_rdat hv hq8 (Int32.ofNat z) c 0 fz_fu fz_fu P S M (by omega) (by omega) (by show c < 1000; omega) (by show c < 1000; omega) h (by rw [← hz]; exact hP) hd0 hbn h25 h12 hpb with ⟨S', M', l1, l2, l3, l4, l5, l6⟩ | ⟨S', M', l1, l2, l3⟩
    · obtain ⟨k, Z, a1, a2, a3⟩ := zr_end (S := S) (M := M) hv l3 hz2 l4 l5 l6
      have l1' : fz_rd_takePredicted S = some (1, S') := l1
      have l2' : fz_mo_readData_134 (Int32.ofNat z) M = fz_mo_readData_251 (Int32.ofNat z) M' := l2
      rw [l1', l2']
      simp only [zbs]
      rw [if_neg z1]
      exact zr_173 hz2 a1 a2 a3
    · have l1' : fz_rd_takePredicted S = some (0, S') := l1
      right
      refine ⟨S', _, ?_, l2, l3⟩
      unfold fz_rd_takeData_186
      rw [l1']
      simp only [zbs]
      rw [if_pos trivial]
/-- "data" with blocks -/
theorem zr_datb {s m S M : am_Z} {N P c q hd ic : Nat} {T : Int32} (hT : T = 17 ∧ hd = 4 ∧ ic = 1 ∨ T = 2 ∧ hd = 7 ∧ ic = 2) (hv : zv_f s m N) (h : zr s m N 0 S M P) (h4 : P + 4 ≤ N) (hid : Int32.ofNat (zn (zb s) P 4 true) = 1684108385) (hq1 : 1 ≤ q) (hq8 : q ≤ 8) (hc : c ≤ 64) (h18 : S.1 18 = Int32.ofNat c) (h10 : M.1 10 = Int32.ofNat c) (h20 : S.1 20 = 0) (h22 : S.1 22 = T) (h23 : S.1 23 = Int32.ofNat hd) (h24 : S.1 24 = Int32.ofNat (hd + q)) (h25 : S.1 25 = Int32.ofNat (2 * q + ic)) (h12 : M.1 12 = T) (h13 : M.1 13 = Int32.ofNat (hd + q)) : zr_E s m N 0 (zr_D S M c) (fz_rd_takeData_33 1 S) (fz_mo_readData (zz_i M 7 (Int32.ofNat (P + 4)))) := by
  have eN : N ≤ 400 := hv.1
  have z1 : ¬ (1 : Int32) = 0 := by decide
  have hT1 : ¬ T = 1 := by
    rcases hT with ⟨rfl, -⟩ | ⟨rfl, -⟩ <;> decide
  have hic : 1 ≤ ic ∧ ic ≤ 2 ∧ hd ≤ 7 := by
    rcases hT with ⟨-, rfl, rfl⟩ | ⟨-, rfl, rfl⟩ <;> omega
  have h1 := zr_up h h4
  have hh : fz_by_has (zz_i S 14 (Int32.ofNat (P + 4))) (Int32.ofNat (P + 4)) 4 = some (if P + 4 + 4 ≤ N then 1 else 0) := zr_has hv h1 (n := 4) (by omega)
  have hpk : fz_mo_peek (zz_i M 7 (Int32.ofNat (P + 4))) (Int32.ofNat (P + 4)) 4 0 = some (if P + 4 + 4 ≤ N then Int64.ofNat (zn (zb s) (P + 4) 4 (zfl 0)) else -1) := zr_peek hv h1 (p := P + 4) (n := 4) (by omega) (by omega) 0
  have t14 : (zz_i S 14 (Int32.ofNat (P + 4))).1 14 = Int32.ofNat (P + 4) := rfl
  have t22 : ¬ (zz_i S 14 (Int32.ofNat (P + 4))).1 22 = 1 := by
    show ¬ S.1 22 = 1
    rw [h22]
    exact hT1
  have m12 : ¬ (zz_i M 7 (Int32.ofNat (P + 4))).1 12 = 1 := by
    show ¬ M.1 12 = 1
    rw [h12]
    exact hT1
  have m7 : (zz_i M 7 (Int32.ofNat (P + 4))).1 7 = Int32.ofNat (P + 4) := rfl
  have hpb : ∀ Z : am_Z, Z.1 12 = M.1 12 → Z.1 13 = M.1 13 → fz_mo_perBlock Z = some (Int32.ofNat (2 * q + ic)) := by
    intro Z k12 k13
    have e2q : (2 : Int32) * Int32.ofNat q = Int32.ofNat (2 * q) := nm_mul 2 q
    have eic : Int32.ofNat (2 * q) + Int32.ofNat ic = Int32.ofNat (2 * q + ic) := nm_add _ _
    unfold fz_mo_perBlock
    rw [k12, k13, h12, h13]
    rcases hT with ⟨rfl, rfl, rfl⟩ | ⟨rfl, rfl, rfl⟩
    · rw [if_neg (show ¬ ¬ (17 : Int32) = 17 by decide), show Int32.ofNat (4 + q) - (4 : Int32) = Int32.ofNat q by
        rw [show Int32.ofNat (4 + q) - (4 : Int32) = Int32.ofNat (4 + q - 4) from nm_sub (b := 4) (by omega), Nat.add_sub_cancel_left], e2q]
      exact congrArg some eic
    · rw [if_pos (show ¬ (2 : Int32) = 17 by decide), if_neg (show ¬ ¬ (2 : Int32) = 2 by decide), show Int32.ofNat (7 + q) - (7 : Int32) = Int32.ofNat q by
        rw [show Int32.ofNat (7 + q) - (7 : Int32) = Int32.ofNat (7 + q - 7) from nm_sub (b := 7) (by omega), Nat.add_sub_cancel_left], e2q]
      exact congrArg some eic
  have hbn : S.1 24 - S.1 23 = Int32.ofNat q := by
    rw [h24, h23, nm_sub (by omega), Nat.add_sub_cancel_left]
  -- the size
  have hib0 : ¬ Int32.ofNat (2 * q + ic) = 0 := by
    rw [show (0 : Int32) = Int32.ofNat 0 from rfl, nm_inj (by omega) (by omega)]
    omega
  obtain ⟨b, hb⟩ : ∃ b, b = zn_bl c 0 (2 * q + ic) := ⟨_, rfl⟩
  have hb64 : b ≤ c := by
    rw [hb]
    unfold zn_bl
    rw [Nat.sub_zero]
    exact Nat.le_of_lt_succ (Nat.div_lt_of_lt_mul (by
      have : (2 * q + ic) * (c + 1) = (2 * q + ic) * c + (2 * q + ic) := by rw [Nat.mul_add, Nat.mul_one]
      have h3 : 1 * c ≤ (2 * q + ic) * c := Nat.mul_le_mul_right c (by omega)
      show c + (2 * q + ic) - 1 < (2 * q + ic) * (c + 1)
      omega))
  have hbm : b * (hd + q) ≤ 64 * 15 := Nat.mul_le_mul (by omega) (by omega)
  have ediv : (Int32.ofNat c + Int32.ofNat (2 * q + ic) - (1 : Int32)) / Int32.ofNat (2 * q + ic) = Int32.ofNat b := by
    rw [nm_add, show (1 : Int32) = Int32.ofNat 1 from rfl, nm_sub (by omega), nm_div (by omega) (by omega), hb]
    unfold zn_bl
    rw [Nat.sub_zero]
  obtain ⟨z, hz⟩ : ∃ z, z = b * (hd + q) := ⟨_, rfl⟩
  have hz1000 : z ≤ 960 := by rw [hz]; exact hbm
  have hsz : fz_fm_sizeOfData_13 (zz_i S 14 (Int32.ofNat (P + 4))) ((zz_i S 14 (Int32.ofNat (P + 4))).1 18) = some (Int32.ofNat z) := by
    unfold fz_fm_sizeOfData_13
    rw [show (zz_i S 14 (Int32.ofNat (P + 4))).1 25 = Int32.ofNat (2 * q + ic) from h25, show (zz_i S 14 (Int32.ofNat (P + 4))).1 24 = Int32.ofNat (hd + q) from h24, show (zz_i S 14 (Int32.ofNat (P + 4))).1 18 = Int32.ofNat c from h18, if_neg hib0, ediv, nm_mul, hz]
  have hmz : (zz_i M 7 (Int32.ofNat (P + 4))).1 13 * Int32.ofNat b = Int32.ofNat z := by
    rw [show (zz_i M 7 (Int32.ofNat (P + 4))).1 13 = Int32.ofNat (hd + q) from h13, nm_mul, hz, Nat.mul_comm]
  have hbl : fz_mo_blocks ((zz_i M 7 (Int32.ofNat (P + 4))).1 10) (Int32.ofNat (2 * q + ic)) = some (Int32.ofNat b) := by
    unfold fz_mo_blocks
    rw [show (zz_i M 7 (Int32.ofNat (P + 4))).1 10 = Int32.ofNat c from h10, if_neg hib0, ediv]
  have hi := zr_tid hv h h4 hid
  have D : ∀ V : Int64, fz_mo_peek (zz_i M 7 (Int32.ofNat (P + 4))) (Int32.ofNat (P + 4)) 4 0 = some V → fz_mo_readData (zz_i M 7 (Int32.ofNat (P + 4))) = if ¬ lg_cmp V (Int64.ofNat z) = 0 then fz_mo_readData_96 V 0 0 (zz_i M 7 (Int32.ofNat (P + 4))) else fz_mo_readData_96 V 0 1 (zz_i M 7 (Int32.ofNat (P + 4))) := by
    intro V hV
    unfold fz_mo_readData fz_mo_readData_24
    rw [m7, hV]
    simp only [zbs]
    rw [if_pos m12, if_pos trivial, hpb (zz_i M 7 (Int32.ofNat (P + 4))) rfl rfl]
    simp only [zbs]
    rw [hbl]
    simp only [zbs]
    rw [hmz, nm_i2l (by omega)]
  have f96 : ∀ V : Int64, fz_mo_readData_96 V 0 0 (zz_i M 7 (Int32.ofNat (P + 4))) = some (zz_i (zz_i M 7 (Int32.ofNat (P + 4))) 8 1) := by
    intro V
    unfold fz_mo_readData_96
    rw [if_neg (show ¬ ¬ (0 : Int32) = 0 by decide)]
  by_cases c8 : P + 4 + 4 ≤ N
  · rw [if_pos c8] at hh hpk
    have hlt := zr_lt hv (n := 4) (by omega) c8 (zfl 0)
    obtain ⟨v, hvv⟩ : ∃ v, v = zn (zb s) (P + 4) 4 (zfl 0) := ⟨_, rfl⟩
    rw [← hvv] at hlt hpk
    have C : fz_rd_takeData_33 1 S = ((fz_rd_takeSize (zz_i S 14 (Int32.ofNat (P + 4))) (Int64.ofNat z)).bind fun q2 => if ¬ q2.1 = 0 then if ¬ (q2.2.1 22) = (1 : Int32) then if ¬ (q2.2.1 22) = (17 : Int32) then (fz_rd_takePredicted q2.2).bind fun q3 => if q3.1 = 0 then fz_rd_takeData_186 q3.2 else fz_rd_takeData_173 (Int32.ofNat z) q3.2 else (fz_rd_takeStepped q2.2).bind fun q4 => if q4.1 = 0 then fz_rd_takeData_186 q4.2 else fz_rd_takeData_173 (Int32.ofNat z) q4.2 else (fz_rd_takePlain q2.2).bind fun q5 => (fz_rd_takeByteBehind q5 (Int64.ofNat z)).bind fun q6 => if ¬ (q6.1 = 0 ∨ q6.1 = 1) then none else some (q6.1, q6.2) else some ((0 : Int32), q2.2)) := by
      unfold fz_rd_takeData_33
      rw [if_neg z1, hi]
      simp only [zbs]
      rw [if_neg z1, t14, hh]
      simp only [zbs]
      rw [if_pos z1, if_pos t22]
      unfold fz_rd_takeData_99
      rw [hsz]
      simp only [zbs]
      rw [nm_i2l (by omega)]
    rw [C, D _ hpk]
    rcases zr_sz hv h1 (x := z) (by omega) with ⟨-, b2, a3, a4⟩ | ⟨a1, a4⟩
    · have evz : v = z := hvv.trans b2.symm
      subst evz
      rw [a4]
      simp only [zbs]
      rcases zr_op hv h1 (Int64.ofNat v) (Int64.ofNat v) (Int64.ofNat v) with ⟨w, d1, -, -, -, -, d6⟩ | ⟨d1, -⟩
      · rw [← hvv] at d1
        subst d1
        rw [zz_ii] at d6
        have h2 := zr_up h (Q := P + 4 + 4) (by omega)
        rw [if_pos z1, if_neg (not_not_intro ((nm_cmp0 _ _).mpr rfl)), zz_ii, if_pos (show ¬ (zz_i S 14 (Int32.ofNat (P + 4 + 4))).1 22 = 1 from t22)]
        have R : fz_mo_readData_96 (Int64.ofNat w) 0 1 (zz_i M 7 (Int32.ofNat (P + 4))) = fz_mo_readData_134 (Int32.ofNat w) (zz_i M 7 (Int32.ofNat (P + 4 + 4))) := by
          unfold fz_mo_readData_96
          rw [if_pos z1, d6]
          simp only [zbs]
          rw [if_pos trivial]
        rw [R]
        rcases zr_blks (c := c) (z := w) hT hv h2 hq8 (by rw [hz, hb]) (by omega) hc (by omega) h18 h10 h20 h22 hbn h25 h12 hpb with ⟨S', M', P', k1, k2, k3, k4, k5, k6⟩ | hF
        · left
          refine ⟨S', M', P', k1, k2, k3, k4, fun j j1 j2 j3 => ?_, fun j j1 j2 => ?_⟩
          · rw [k5 j j1 j2 j3]
            show zz_u S.1 14 _ j = _
            rw [zz_u_n _ _ (by omega)]
          · rw [k6 j j1 j2]
            show zz_u M.1 7 _ j = _
            rw [zz_u_n _ _ (by omega)]
        · exact Or.inr hF
      · exact absurd ⟨c8, Or.inl (by rw [← hvv]), by rw [← hvv]; exact a3⟩ d1
    · right
      rw [a4]
      simp only [zbs]
      refine ⟨zz_i S 14 (Int32.ofNat (P + 4)), zz_i (zz_i M 7 (Int32.ofNat (P + 4))) 8 1, ?_, ?_, zr_f hv h1⟩
      · rw [if_neg (not_not_intro trivial)]
      · by_cases cv : v = z
        · subst cv
          rw [if_neg (not_not_intro ((nm_cmp0 _ _).mpr rfl))]
          rcases zr_op hv h1 (Int64.ofNat v) (Int64.ofNat v) (Int64.ofNat v) with ⟨w, d1, -, -, -, d5, -⟩ | ⟨-, d6⟩
          · rw [← hvv] at d1
            subst d1
            exact absurd ⟨c8, hvv, d5⟩ a1
          · unfold fz_mo_readData_96 fz_mo_readData_134
            rw [if_pos z1, d6]
            simp only [zbs]
            rw [if_pos trivial]
            exact zF_137 999 _ _ _
        · rw [if_pos (fun hc => cv ((nm_jinj (by omega) (by omega)).mp ((nm_cmp0 _ _).mp hc))), f96]
  · right
    rw [if_neg c8] at hh hpk
    refine ⟨zz_i S 14 (Int32.ofNat (P + 4)), zz_i (zz_i M 7 (Int32.ofNat (P + 4))) 8 1, ?_, ?_, zr_f hv h1⟩
    · unfold fz_rd_takeData_33
      rw [if_neg z1, hi]
      simp only [zbs]
      rw [if_neg z1, t14, hh]
      simp only [zbs]
      rw [if_neg (not_not_intro trivial)]
    · rw [D _ hpk, if_pos, f96]
      rw [nm_cmp0]
      intro hc
      have : (-1 : Int64).toInt = (Int64.ofNat z).toInt := by rw [hc]
      rw [nm_jtoInt (by omega)] at this
      have e : (-1 : Int64).toInt = -1 := by decide
      omega
