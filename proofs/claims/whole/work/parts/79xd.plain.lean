/-! Reading: the samples of a plain file. -/
theorem zr_sop {S : am_Z} {al v : Nat} (hal : al = 1 ∨ al = 2) (h24 : S.1 24 = Int32.ofNat al) (hv : v < 4294967296) : fz_rd_samplesOfPlain S (Int64.ofNat v) = some (Int32.ofNat (min 64 (v / al))) := by
  have key : ∀ w : Nat, w < 4294967296 → fz_rd_samplesOfPlain_23 S (Int64.ofNat w) 64 = some (Int32.ofNat (min 64 w)) := by
    intro w hw
    have ec : 0 < lg_cmp (64 : Int64) (Int64.ofNat w) ↔ w < 64 := by
      rw [nm_cmpgt]
      exact nm_jlt (a := w) (b := 64) (by omega) (by omega)
    unfold fz_rd_samplesOfPlain_23 fz_ma_minL
    by_cases c : w < 64
    · rw [if_pos (ec.mpr c)]
      simp only [zbs]
      rw [nm_l2i, show min 64 w = w by omega]
    · rw [if_neg (fun hh => c (ec.mp hh))]
      simp only [zbs]
      rw [show min 64 w = 64 by omega]
      rfl
  unfold fz_rd_samplesOfPlain
  rw [h24]
  rcases hal with rfl | rfl
  · rw [if_pos (show ¬ Int32.ofNat 1 = 2 by decide), key v hv, Nat.div_one]
  · have e : Int64.ofNat v / (2 : Int64) = Int64.ofNat (v / 2) := nm_jdiv (b := 2) (by omega) (by omega)
    rw [if_neg (show ¬ ¬ Int32.ofNat 2 = 2 by decide), e, key _ (by omega)]
theorem zr_dat1 {s m S M : am_Z} {N P al : Nat} (hv : zv_f s m N) (h : zr s m N 0 S M P) (h4 : P + 4 ≤ N) (hid : Int32.ofNat (zn (zb s) P 4 true) = 1684108385) (hal : al = 1 ∨ al = 2) (h20 : S.1 20 = 0) (h22 : S.1 22 = 1) (h24 : S.1 24 = Int32.ofNat al) (h25 : S.1 25 = 1) (h12 : M.1 12 = 1) (h13 : M.1 13 = Int32.ofNat al) : zr_E s m N 0 (fun S' M' _ => ∃ c, zr_d S' M' c c ∧ (∀ i, 15 ≤ i → i ≤ 25 → i ≠ 20 → i ≠ 18 → S'.1 i = S.1 i) ∧ (∀ i, 8 ≤ i → i ≤ 16 → i ≠ 10 → M'.1 i = M.1 i)) (fz_rd_takeData_33 1 S) (fz_mo_readData (zz_i M 7 (Int32.ofNat (P + 4)))) := by
  have eN : N ≤ 400 := hv.1
  have z1 : ¬ (1 : Int32) = 0 := by decide
  have z10 : ¬ ¬ (0 : Int32) = 0 := by decide
  have hal2 : 1 ≤ al ∧ al ≤ 2 := by rcases hal with rfl | rfl <;> omega
  have h1 := zr_up h h4
  have hh : fz_by_has (zz_i S 14 (Int32.ofNat (P + 4))) (Int32.ofNat (P + 4)) 4 = some (if P + 4 + 4 ≤ N then 1 else 0) := zr_has hv h1 (n := 4) (by omega)
  have hu : fz_by_numberAt (zz_i S 14 (Int32.ofNat (P + 4))) (Int32.ofNat (P + 4)) 4 0 = some (if P + 4 + 4 ≤ N then Int64.ofNat (zn (zb s) (P + 4) 4 (zfl 0)) else 0) := zr_num hv h1 (n := 4) (by omega) 0
  have hpk : fz_mo_peek (zz_i M 7 (Int32.ofNat (P + 4))) (Int32.ofNat (P + 4)) 4 0 = some (if P + 4 + 4 ≤ N then Int64.ofNat (zn (zb s) (P + 4) 4 (zfl 0)) else -1) := zr_peek hv h1 (p := P + 4) (n := 4) (by omega) (by omega) 0
  have t14 : (zz_i S 14 (Int32.ofNat (P + 4))).1 14 = Int32.ofNat (P + 4) := rfl
  have t15 : (zz_i S 14 (Int32.ofNat (P + 4))).1 15 = 0 := h.2.2.2.1
  have t22 : (zz_i S 14 (Int32.ofNat (P + 4))).1 22 = 1 := h22
  have t24 : (zz_i S 14 (Int32.ofNat (P + 4))).1 24 = Int32.ofNat al := h24
  have m12 : (zz_i M 7 (Int32.ofNat (P + 4))).1 12 = 1 := h12
  have m13 : (zz_i M 7 (Int32.ofNat (P + 4))).1 13 = Int32.ofNat al := h13
  have m7 : (zz_i M 7 (Int32.ofNat (P + 4))).1 7 = Int32.ofNat (P + 4) := rfl
  have hi := zr_tid hv h h4 hid
  have f96 : ∀ V : Int64, fz_mo_readData_96 V 1 0 (zz_i M 7 (Int32.ofNat (P + 4))) = some (zz_i (zz_i M 7 (Int32.ofNat (P + 4))) 8 1) := by
    intro V
    unfold fz_mo_readData_96
    rw [if_neg z10]
  have al0 : ¬ Int32.toInt64 (Int32.ofNat al) = 0 := by
    rw [nm_i2l (by omega), show (0 : Int64) = Int64.ofNat 0 from rfl, nm_jinj (by omega) (by omega)]
    omega
  have al0' : ¬ Int32.ofNat al = 0 := by
    rw [show (0 : Int32) = Int32.ofNat 0 from rfl, nm_inj (by omega) (by omega)]
    omega
  by_cases c8 : P + 4 + 4 ≤ N
  · rw [if_pos c8] at hh hpk hu
    have hlt := zr_lt hv (n := 4) (by omega) c8 (zfl 0)
    obtain ⟨v, hvv⟩ : ∃ v, v = zn (zb s) (P + 4) 4 (zfl 0) := ⟨_, rfl⟩
    rw [← hvv] at hlt hpk hu
    obtain ⟨pr, hpr⟩ : ∃ pr, pr = min 64 (v / al) := ⟨_, rfl⟩
    obtain ⟨z, hz⟩ : ∃ z, z = pr * al := ⟨_, rfl⟩
    have hz128 : z ≤ 128 := by
      have : pr * al ≤ 64 * 2 := Nat.mul_le_mul (by omega) hal2.2
      omega
    have hsop := zr_sop (S := zz_i S 14 (Int32.ofNat (P + 4))) hal t24 hlt
    rw [← hpr] at hsop
    obtain ⟨S2, hS2⟩ : ∃ Z, Z = zz_i (zz_i S 14 (Int32.ofNat (P + 4))) 18 (Int32.ofNat pr) := ⟨_, rfl⟩
    have h2 : zr s m N 0 S2 (zz_i M 7 (Int32.ofNat (P + 4))) (P + 4) := by
      rw [hS2]
      exact zr_si h1 (i := 18) (by omega) _
    have u18 : S2.1 18 = Int32.ofNat pr := by rw [hS2]; rfl
    have u22 : S2.1 22 = 1 := by rw [hS2]; exact h22
    have u24 : S2.1 24 = Int32.ofNat al := by rw [hS2]; exact h24
    have u25 : S2.1 25 = 1 := by rw [hS2]; exact h25
    have u20 : S2.1 20 = 0 := by rw [hS2]; exact h20
    have hsz : fz_fm_sizeOfData_13 S2 (S2.1 18) = some (Int32.ofNat z) := by
      unfold fz_fm_sizeOfData_13
      rw [u25, u24, u18, if_neg z1, nm_addsub, nm_div1, nm_mul, hz]
    have C : fz_rd_takeData_33 1 S = ((fz_rd_takeSize S2 (Int64.ofNat z)).bind fun q2 => if ¬ q2.1 = 0 then if ¬ (q2.2.1 22) = (1 : Int32) then if ¬ (q2.2.1 22) = (17 : Int32) then (fz_rd_takePredicted q2.2).bind fun q3 => if q3.1 = 0 then fz_rd_takeData_186 q3.2 else fz_rd_takeData_173 (Int32.ofNat z) q3.2 else (fz_rd_takeStepped q2.2).bind fun q4 => if q4.1 = 0 then fz_rd_takeData_186 q4.2 else fz_rd_takeData_173 (Int32.ofNat z) q4.2 else (fz_rd_takePlain q2.2).bind fun q5 => (fz_rd_takeByteBehind q5 (Int64.ofNat z)).bind fun q6 => if ¬ (q6.1 = 0 ∨ q6.1 = 1) then none else some (q6.1, q6.2) else some ((0 : Int32), q2.2)) := by
      unfold fz_rd_takeData_33
      rw [if_neg z1, hi]
      simp only [zbs]
      rw [if_neg z1, t14, hh]
      simp only [zbs]
      rw [if_pos z1, if_neg (not_not_intro t22), t15, hu]
      simp only [zbs]
      rw [hsop]
      simp only [zbs]
      rw [← hS2]
      unfold fz_rd_takeData_99
      rw [hsz]
      simp only [zbs]
      rw [nm_i2l (by omega)]
    have n0 : ¬ lg_cmp (Int64.ofNat v) (0 : Int64) < 0 := by
      rw [nm_cmplt, Int64.lt_iff_toInt_lt, nm_jtoInt (by omega)]
      have : (0 : Int64).toInt = 0 := rfl
      omega
    have hvl : v / al * al ≤ v := Nat.div_mul_le_self v al
    have hva : v / al ≤ v := Nat.div_le_self v al
    have em : Int64.ofNat v - Int64.ofNat v / Int32.toInt64 (Int32.ofNat al) * Int32.toInt64 (Int32.ofNat al) = Int64.ofNat (v - v / al * al) := by
      rw [nm_i2l (by omega), nm_jdiv (by omega) (by omega), nm_jmul, nm_jsub hvl]
    have ed : Int64.ofNat v / Int32.toInt64 (Int32.ofNat al) = Int64.ofNat (v / al) := by
      rw [nm_i2l (by omega), nm_jdiv (by omega) (by omega)]
    have D : fz_mo_readData (zz_i M 7 (Int32.ofNat (P + 4))) = if v - v / al * al = 0 ∧ v / al ≤ 64 then fz_mo_readData_96 (Int64.ofNat v) 1 1 (zz_i M 7 (Int32.ofNat (P + 4))) else some (zz_i (zz_i M 7 (Int32.ofNat (P + 4))) 8 1) := by
      unfold fz_mo_readData fz_mo_readData_24 fz_mo_readData_65
      rw [m7, hpk]
      simp only [zbs]
      rw [if_neg (not_not_intro m12), if_neg z1, if_neg n0, m13, if_neg al0, em, ed]
      by_cases k1 : v - v / al * al = 0
      · have q1 : lg_cmp (Int64.ofNat (v - v / al * al)) 0 = 0 := (nm_cmp0 _ _).mpr (by rw [k1]; rfl)
        rw [if_neg (not_not_intro q1), if_neg al0]
        by_cases k2 : v / al ≤ 64
        · have q2 : ¬ 0 < lg_cmp (Int64.ofNat (v / al)) 64 := by
            rw [nm_cmpgt]
            intro hc
            have := (nm_jlt (a := 64) (b := v / al) (by omega) (by omega)).mp hc
            omega
          rw [if_neg q2, if_pos ⟨k1, k2⟩]
        · have q2 : 0 < lg_cmp (Int64.ofNat (v / al)) 64 := by
            rw [nm_cmpgt]
            exact (nm_jlt (a := 64) (b := v / al) (by omega) (by omega)).mpr (by omega)
          rw [if_pos q2, if_neg (fun hc => k2 hc.2), f96]
      · have q1 : ¬ lg_cmp (Int64.ofNat (v - v / al * al)) 0 = 0 := by
          rw [nm_cmp0, show (0 : Int64) = Int64.ofNat 0 from rfl, nm_jinj (by omega) (by omega)]
          exact k1
        rw [if_pos q1, if_neg (fun hc => k1 hc.1), f96]
    rw [C, D]
    by_cases g : v - v / al * al = 0 ∧ v / al ≤ 64
    · have epr : pr = v / al := by omega
      have ezv : z = v := by
        rw [hz, epr]
        omega
      have hzv : Int32.ofNat v / Int32.ofNat al = Int32.ofNat pr := by
        rw [nm_div (by omega) (by omega), epr]
      rw [if_pos g]
      subst ezv
      rcases zr_sz hv h2 (x := z) (by omega) with ⟨-, -, a3, a4⟩ | ⟨a1, a4⟩
      · rcases zr_op hv h1 (Int64.ofNat z) (Int64.ofNat z) (Int64.ofNat z) with ⟨w, d1, -, -, -, -, d6⟩ | ⟨d1, -⟩
        · rw [← hvv] at d1
          subst d1
          rw [zz_ii] at d6
          rw [a4]
          simp only [zbs]
          have h3 := zr_up h2 (Q := P + 4 + 4) (by omega)
          rw [zz_ii] at h3
          have h3' : zr s m N 0 (zz_i S2 14 (Int32.ofNat (P + 4 + 4))) (zz_i (zz_i M 7 (Int32.ofNat (P + 4 + 4))) 10 (Int32.ofNat pr)) (P + 4 + 4) := h3
          rw [if_pos z1, if_neg (not_not_intro (show (zz_i S2 14 (Int32.ofNat (P + 4 + 4))).1 22 = 1 from u22))]
          have R : fz_mo_readData_96 (Int64.ofNat w) 1 1 (zz_i M 7 (Int32.ofNat (P + 4))) = fz_mo_readData_134 (Int32.ofNat w) (zz_i (zz_i M 7 (Int32.ofNat (P + 4 + 4))) 10 (Int32.ofNat pr)) := by
            unfold fz_mo_readData_96
            rw [if_pos z1, d6]
            simp only [zbs]
            rw [if_neg z1, show (zz_i M 7 (Int32.ofNat (P + 4 + 4))).1 13 = Int32.ofNat al from h13, if_neg al0', hzv]
          rw [R]
          rcases zr_plain (c := pr) (z := w) hv h3' hal hz (by omega) (by omega) u18 rfl u20 u24 h12 h13 with ⟨S', M', P', k1, k2, k3, k4, k5, k6⟩ | hF
          · left
            refine ⟨S', M', P', k1, k2, k3, pr, k4, fun j j1 j2 j3 j4 => ?_, fun j j1 j2 j3 => ?_⟩
            · rw [k5 j j1 j2 j3, hS2]
              show zz_u (zz_u (zz_u S.1 14 _) 18 _) 14 _ j = _
              rw [zz_u_n _ _ (by omega), zz_u_n _ _ (by omega), zz_u_n _ _ (by omega)]
            · rw [k6 j j1 j2]
              show zz_u (zz_u M.1 7 _) 10 _ j = _
              rw [zz_u_n _ _ (by omega), zz_u_n _ _ (by omega)]
          · exact Or.inr hF
        · exact absurd ⟨c8, Or.inl (by rw [← hvv]), by rw [← hvv]; exact a3⟩ d1
      · right
        rw [a4]
        simp only [zbs]
        rcases zr_op hv h1 (Int64.ofNat z) (Int64.ofNat z) (Int64.ofNat z) with ⟨w, d1, -, -, -, d5, -⟩ | ⟨-, d6⟩
        · rw [← hvv] at d1
          subst d1
          exact absurd ⟨c8, hvv, d5⟩ a1
        · refine ⟨S2, zz_i (zz_i (zz_i M 7 (Int32.ofNat (P + 4))) 10 ((0 : Int32) / Int32.ofNat al)) 8 1, ?_, ?_, zr_fz hv h2 ⟨rfl, fun m h => h⟩⟩
          · rw [if_neg (not_not_intro trivial)]
          · unfold fz_mo_readData_96 fz_mo_readData_134
            rw [if_pos z1, d6]
            simp only [zbs]
            rw [if_neg z1, show (zz_i (zz_i M 7 (Int32.ofNat (P + 4))) 8 1).1 13 = Int32.ofNat al from h13, if_neg al0', zF_c _ (by decide)]
            exact zF_137 999 _ _ _
    · right
      rw [if_neg g]
      rcases zr_sz hv h2 (x := z) (by omega) with ⟨-, b2, -, -⟩ | ⟨-, a4⟩
      · exfalso
        rw [← hvv] at b2
        apply g
        rcases hal with rfl | rfl <;> omega
      · refine ⟨S2, _, ?_, rfl, zr_f hv h2⟩
        rw [a4]
        simp only [zbs]
        rw [if_neg (not_not_intro trivial)]
  · right
    rw [if_neg c8] at hh hpk
    have n0 : lg_cmp (-1 : Int64) (0 : Int64) < 0 := by
      rw [nm_cmplt]
      decide
    refine ⟨zz_i S 14 (Int32.ofNat (P + 4)), zz_i (zz_i M 7 (Int32.ofNat (P + 4))) 8 1, ?_, ?_, zr_f hv h1⟩
    · unfold fz_rd_takeData_33
      rw [if_neg z1, hi]
      simp only [zbs]
      rw [if_neg z1, t14, hh]
      simp only [zbs]
      rw [if_neg (not_not_intro trivial)]
    · unfold fz_mo_readData fz_mo_readData_24 fz_mo_readData_65
      rw [m7, hpk]
      simp only [zbs]
      rw [if_neg (not_not_intro m12), if_neg z1, if_pos n0, f96]
