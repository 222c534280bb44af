/-! Reading: "COMM". -/
theorem zF_115 (x1 x2 : Int32) (x3 y0 : Int64) (M : am_Z) : fz_mo_readCommon_115 x1 x2 x3 y0 (zz_i M 8 1) = some (zz_i (zz_i M 15 1) 8 1) := by
  unfold fz_mo_readCommon_115 fz_mo_readCommon_226
  rw [if_pos (zF_8 M), zF_c _ (by decide)]
theorem zF_91 (x1 x2 : Int32) (y0 : Int64) (M : am_Z) : fz_mo_readCommon_91 x1 x2 y0 (zz_i M 8 1) = some (zz_i (zz_i M 15 1) 8 1) := by
  unfold fz_mo_readCommon_91
  rw [if_neg (zF_8 M), zF_115]
def zr_cm3 (x1 : Int32) (Z : am_Z) : Option am_Z := (fz_mo_ask Z (2 : Int32) (1 : Int32) (16383 : Int64) (16400 : Int64)).bind fun q5 => if (q5.2.1 8) = 0 then (fz_mo_peek q5.2 (q5.2.1 7) (4 : Int32) (1 : Int32)).bind fun q6 => fz_mo_readCommon_91 x1 ((Int64.toInt32 q5.1) - (16383 : Int32)) q6 q5.2 else fz_mo_readCommon_91 x1 ((Int64.toInt32 q5.1) - (16383 : Int32)) (0 : Int64) q5.2
def zr_cm2 (x1 : Int32) (Z : am_Z) : Option am_Z := (fz_mo_ask Z (2 : Int32) (1 : Int32) (1 : Int64) (16 : Int64)).bind fun q4 => zr_cm3 x1 (zz_i q4.2 14 (Int64.toInt32 q4.1))
def zr_cm1 (x1 : Int32) (Z : am_Z) : Option am_Z := (fz_mo_exact Z (2 : Int32) (1 : Int32) (1 : Int64)).bind fun q2 => (fz_mo_ask q2 (4 : Int32) (1 : Int32) (0 : Int64) (64 : Int64)).bind fun q3 => zr_cm2 x1 (zz_i q3.2 10 (Int64.toInt32 q3.1))
theorem zr_cm (Z : am_Z) : fz_mo_readCommon Z = (fz_mo_open Z (1 : Int32) (18 : Int64) (18 : Int64) (18 : Int64)).bind fun q1 => zr_cm1 q1.1 q1.2 := rfl
theorem zF_cm3 (x1 : Int32) (M : am_Z) : zr_cm3 x1 (zz_i M 8 1) = some (zz_i (zz_i M 15 1) 8 1) := by
  unfold zr_cm3
  rw [zF_ask]
  simp only [zbs]
  rw [if_neg (zF_8 M), zF_91]
theorem zF_cm2 (x1 : Int32) (M : am_Z) : ∃ M', zr_cm2 x1 (zz_i M 8 1) = some (zz_i M' 8 1) ∧ zr_q M M' := by
  refine ⟨zz_i (zz_i M 14 (Int64.toInt32 0)) 15 1, ?_, ⟨rfl, fun m h => h⟩⟩
  unfold zr_cm2
  rw [zF_ask]
  simp only [zbs]
  rw [zF_c _ (by decide), zF_cm3]
theorem zF_cm1 (x1 : Int32) (M : am_Z) : ∃ M', zr_cm1 x1 (zz_i M 8 1) = some (zz_i M' 8 1) ∧ zr_q M M' := by
  obtain ⟨M', h1, h2⟩ := zF_cm2 x1 (zz_i M 10 (Int64.toInt32 0))
  refine ⟨M', ?_, zr_q_t (b := zz_i M 10 (Int64.toInt32 0)) ⟨rfl, fun m h => h⟩ h2⟩
  unfold zr_cm1
  rw [zF_exact]
  simp only [zbs]
  rw [zF_ask]
  simp only [zbs]
  rw [zF_c _ (by decide)]
  exact h1
theorem zr_lr {s m S M : am_Z} {N P : Nat} (hv : zv_f s m N) (h : zr s m N 1 S M P) (hP : P + 10 ≤ N) : zr_E s m N 1 (fun S' M' P' => P ≤ P' ∧ ∃ r : Nat, 1 ≤ r ∧ r ≤ 192000 ∧ S'.1 21 = Int32.ofNat r ∧ M'.1 11 = Int32.ofNat r ∧ M'.1 15 = 1 ∧ (∀ i, 15 ≤ i → i ≤ 20 → S'.1 i = S.1 i) ∧ S'.2.2 = S.2.2 ∧ M'.1 10 = M.1 10 ∧ M'.1 14 = M.1 14) (fz_rd_takeLongRate S) (zr_cm3 18 M) := by
  have eN : N ≤ 400 := hv.1
  have z1 : ¬ (1 : Int32) = 0 := by decide
  have hz1 : zfl 1 = true := by decide
  rcases zr_within hv h (n := 2) (by omega) 16383 16400 with ⟨v, -, hv2, c1, c2, c3, a4, a5, a6⟩ | ⟨L, a4, a5⟩ | ⟨a4, a5⟩
  · have a4' : fz_rd_takeWithin S 2 16383 16400 = some (1, zz_i (zz_l S 0 (Int64.ofNat v)) 14 (Int32.ofNat (P + 2))) := a4
    have a5' : fz_mo_ask M 2 1 16383 16400 = some (Int64.ofNat v, zz_i M 7 (Int32.ofNat (P + 2))) := a5
    obtain ⟨e, he, hve⟩ : ∃ e, e ≤ 17 ∧ v = 16383 + e := by
      rw [Int64.le_iff_toInt_le, nm_jtoInt (by omega)] at c2 c3
      have t1 : (16383 : Int64).toInt = 16383 := by decide
      have t2 : (16400 : Int64).toInt = 16400 := by decide
      exact ⟨v - 16383, by omega, by omega⟩
    subst hve
    obtain ⟨S1, hS1⟩ : ∃ Z, Z = zz_i (zz_l S 0 (Int64.ofNat (16383 + e))) 14 (Int32.ofNat (P + 2)) := ⟨_, rfl⟩
    obtain ⟨M1, hM1⟩ : ∃ Z, Z = zz_i M 7 (Int32.ofNat (P + 2)) := ⟨_, rfl⟩
    rw [← hS1] at a4' a6
    rw [← hM1] at a5' a6
    have tl : S1.2.1 0 = Int64.ofNat (16383 + e) := by rw [hS1]; rfl
    have hh : fz_by_has S1 (Int32.ofNat (P + 2)) 8 = some (if P + 2 + 8 ≤ N then 1 else 0) := zr_has hv a6 (n := 8) (by omega)
    have hu : fz_by_numberAt S1 (Int32.ofNat (P + 2)) 8 1 = some (if P + 2 + 8 ≤ N then Int64.ofNat (zn (zb s) (P + 2) 8 (zfl 1)) else 0) := zr_num hv a6 (n := 8) (by omega) 1
    have hp1 : fz_mo_peek M1 (Int32.ofNat (P + 2)) 4 1 = some (if P + 2 + 4 ≤ N then Int64.ofNat (zn (zb s) (P + 2) 4 (zfl 1)) else -1) := zr_peek hv a6 (p := P + 2) (n := 4) (by omega) (by omega) 1
    have hp2 : fz_mo_peek M1 (Int32.ofNat (P + 2 + 4)) 4 1 = some (if P + 2 + 4 + 4 ≤ N then Int64.ofNat (zn (zb s) (P + 2 + 4) 4 (zfl 1)) else -1) := zr_peek hv a6 (p := P + 2 + 4) (n := 4) (by omega) (by omega) 1
    have b1 := zr_lt hv (P := P + 2) (n := 4) (by omega) (by omega) true
    have b2 := zr_lt hv (P := P + 2 + 4) (n := 4) (by omega) (by omega) true
    rw [if_pos (by omega), hz1] at hu hp1 hp2
    rw [if_pos (by omega)] at hh
    rw [zn_8] at hu
    generalize zn (zb s) (P + 2) 4 true = hi at b1 hu hp1
    generalize zn (zb s) (P + 2 + 4) 4 true = lo at b2 hu hp2
    obtain ⟨r1, r2⟩ := zr_rt (hi := hi) b2 he
    obtain ⟨n, hn⟩ : ∃ n, n = hi * 4294967296 + lo := ⟨_, rfl⟩
    obtain ⟨r, hr⟩ : ∃ r, r = hi / 2 ^ (31 - e) := ⟨_, rfl⟩
    rw [← hn] at hu r1 r2
    rw [← hr] at r1 r2
    have hrh : r * 2 ^ (31 - e) ≤ hi := by rw [hr]; exact Nat.div_mul_le_self _ _
    have hrn : r * 2 ^ (63 - e) ≤ n := by rw [← r1]; exact Nat.div_mul_le_self _ _
    have hr32 : r ≤ hi := by rw [hr]; exact Nat.div_le_self _ _
    have i1 : Int64.toInt32 (Int64.ofNat (16383 + e)) - (16383 : Int32) = Int32.ofNat e := by
      rw [nm_l2i, show Int32.ofNat (16383 + e) - (16383 : Int32) = Int32.ofNat (16383 + e - 16383) from nm_sub (b := 16383) (by omega), Nat.add_sub_cancel_left]
    have i2 : (63 : Int32) - Int32.ofNat e = Int32.ofNat (63 - e) := nm_sub (a := 63) (by omega)
    have i3 : (31 : Int32) - Int32.ofNat e = Int32.ofNat (31 - e) := nm_sub (a := 31) (by omega)
    have j2 : Int32.toInt64 (Int32.ofNat (63 - e)) = Int64.ofNat (63 - e) := nm_i2l (by omega)
    have j3 : Int32.toInt64 (Int32.ofNat (31 - e)) = Int64.ofNat (31 - e) := nm_i2l (by omega)
    have ru : UInt64.toInt64 (Int64.toUInt64 (Int64.ofNat n) >>> (Int64.toUInt64 (Int64.ofNat (63 - e)) &&& Int64.toUInt64 63)) = Int64.ofNat r := by
      rw [nm_ushr (by omega) (by omega), r1]
    have rm : Int64.ofNat hi >>> (Int64.ofNat (31 - e) &&& 63) = Int64.ofNat r := by
      rw [nm_jshr (by omega) (by omega), hr]
    have q1 : lg_cmp (Int64.ofNat r <<< (Int64.ofNat (63 - e) &&& 63)) (Int64.ofNat n) = 0 ↔ (lo = 0 ∧ r * 2 ^ (31 - e) = hi) := by
      rw [nm_cmp0, nm_jshl (by omega), nm_jinj64 (by omega) (by omega)]
      exact r2
    have q2 : lg_cmp (Int64.ofNat r <<< (Int64.ofNat (31 - e) &&& 63)) (Int64.ofNat hi) = 0 ↔ r * 2 ^ (31 - e) = hi := by
      rw [nm_cmp0, nm_jshl (by omega), nm_jinj64 (by omega) (by omega)]
    have q3 : lg_cmp (Int64.ofNat lo) (0 : Int64) = 0 ↔ lo = 0 := by
      rw [nm_cmp0]
      exact nm_jinj (a := lo) (b := 0) (by omega) (by omega)
    have q4 : lg_cmp (Int64.ofNat r) (192000 : Int64) ≤ 0 ↔ r ≤ 192000 := by
      rw [nm_cmple]
      exact nm_jle (a := r) (b := 192000) (by omega) (by omega)
    have q5 : 0 < lg_cmp (Int64.ofNat r) (192000 : Int64) ↔ 192000 < r := by
      rw [nm_cmpgt]
      exact nm_jlt (a := 192000) (b := r) (by omega) (by omega)
    have ep : Int32.ofNat (P + 2) + (8 : Int32) = Int32.ofNat (P + 2 + 8) := nm_add _ 8
    have ep4 : Int32.ofNat (P + 2) + (4 : Int32) = Int32.ofNat (P + 2 + 4) := nm_add _ 4
    have g7 : M1.1 7 = Int32.ofNat (P + 2) := a6.2.2.2.2.1
    have g8 : M1.1 8 = 0 := a6.2.2.2.2.2.1
    -- the class
    have C : fz_rd_takeLongRate S = if (lo = 0 ∧ r * 2 ^ (31 - e) = hi) ∧ lg_cmp (Int64.ofNat r >>> (Int32.toInt64 (Int32.ofNat e) &&& 63)) (1 : Int64) = 0 ∧ r ≤ 192000 then some (1, zz_i (zz_i S1 21 (Int32.ofNat r)) 14 (Int32.ofNat (P + 2 + 8))) else some (0, S1) := by
      unfold fz_rd_takeLongRate
      rw [a4']
      simp only [zbs]
      rw [if_neg z1, a6.2.2.1, hh]
      simp only [zbs]
      rw [if_pos z1, a6.2.2.2.1, hu]
      simp only [zbs]
      rw [tl, i1, i2, j2, ru, nm_l2i, ep]
      by_cases k1 : lo = 0 ∧ r * 2 ^ (31 - e) = hi
      · rw [if_neg (not_not_intro (q1.mpr k1))]
        by_cases k2 : lg_cmp (Int64.ofNat r >>> (Int32.toInt64 (Int32.ofNat e) &&& 63)) (1 : Int64) = 0
        · rw [if_neg (not_not_intro k2)]
          by_cases k3 : r ≤ 192000
          · rw [if_pos (q4.mpr k3), if_pos ⟨k1, k2, k3⟩]
          · rw [if_neg (fun hc => k3 (q4.mp hc)), if_neg (fun hc => k3 hc.2.2)]
        · rw [if_pos k2, if_neg (fun hc => k2 hc.2.1)]
      · rw [if_pos (fun hc => k1 (q1.mp hc)), if_neg (fun hc => k1 hc.1)]
    -- the reference
    have f179 : fz_mo_readCommon_179 (Int64.ofNat r) M1 = some (zz_i (zz_i (zz_i M1 11 (Int32.ofNat r)) 15 1) 8 1) := by
      unfold fz_mo_readCommon_179 fz_mo_readCommon_180 fz_mo_readCommon_193 fz_mo_readCommon_223 fz_mo_readCommon_226
      rw [if_neg (show ¬ ¬ (0 : Int32) = 0 by decide), if_neg (show ¬ ¬ ((1 : Int32) = 0 ∨ (1 : Int32) = 1) by decide), if_pos (show (0 : Int32) = 0 from rfl), nm_l2i, zF_c _ (by decide), zF_c _ (by decide), zF_c _ (by decide)]
      rw [zz_same (s := zz_i M1 11 (Int32.ofNat r)) (i := 7) (v := M1.1 7) rfl]
    have f180 : fz_mo_readCommon_180 (Int64.ofNat r) 1 M1 = some (zz_i (zz_i (zz_i M1 11 (Int32.ofNat r)) 7 (Int32.ofNat (P + 2 + 8))) 15 1) := by
      unfold fz_mo_readCommon_180 fz_mo_readCommon_193 fz_mo_readCommon_223 fz_mo_readCommon_226
      rw [if_pos z1, if_neg (show ¬ ¬ ((0 : Int32) = 0 ∨ (0 : Int32) = 1) by decide), if_neg z1, nm_l2i, g7, ep, zz_same g8]
    have D : zr_cm3 18 M = if (lo = 0 ∧ r * 2 ^ (31 - e) = hi) ∧ lg_cmp (Int64.ofNat r >>> (Int32.toInt64 (Int32.ofNat e) &&& 63)) (1 : Int64) = 0 ∧ r ≤ 192000 then some (zz_i (zz_i (zz_i M1 11 (Int32.ofNat r)) 7 (Int32.ofNat (P + 2 + 8))) 15 1) else some (zz_i (zz_i (zz_i M1 11 (Int32.ofNat r)) 15 1) 8 1) := by
      unfold zr_cm3
      rw [a5']
      simp only [zbs]
      rw [if_pos g8, g7, hp1]
      simp only [zbs]
      unfold fz_mo_readCommon_91
      rw [if_pos g8, g7, ep4, hp2]
      simp only [zbs]
      unfold fz_mo_readCommon_115
      rw [if_neg (not_not_intro g8), if_neg (show ¬ ¬ (18 : Int32) = 18 by decide), i1, i3, j3, rm, f179, f180]
      by_cases k0 : lo = 0
      · rw [if_neg (not_not_intro (q3.mpr k0))]
        by_cases k1 : r * 2 ^ (31 - e) = hi
        · rw [if_neg (not_not_intro (q2.mpr k1))]
          by_cases k2 : lg_cmp (Int64.ofNat r >>> (Int32.toInt64 (Int32.ofNat e) &&& 63)) (1 : Int64) = 0
          · rw [if_neg (not_not_intro k2)]
            by_cases k3 : r ≤ 192000
            · rw [if_neg (fun hc => by have := q5.mp hc; omega), if_pos ⟨⟨k0, k1⟩, k2, k3⟩]
            · rw [if_pos (q5.mpr (by omega)), if_neg (fun hc => k3 hc.2.2)]
          · rw [if_pos k2, if_neg (fun hc => k2 hc.2.1)]
        · rw [if_pos (fun hc => k1 (q2.mp hc)), if_neg (fun hc => k1 hc.1.2)]
      · rw [if_pos (fun hc => k0 (q3.mp hc)), if_neg (fun hc => k0 hc.1.1)]
    rw [C, D]
    by_cases G : (lo = 0 ∧ r * 2 ^ (31 - e) = hi) ∧ lg_cmp (Int64.ofNat r >>> (Int32.toInt64 (Int32.ofNat e) &&& 63)) (1 : Int64) = 0 ∧ r ≤ 192000
    · rw [if_pos G, if_pos G]
      left
      have hr1 : 1 ≤ r := by
        have k2 := G.2.1
        rw [nm_cmp0, nm_i2l (by omega), nm_jshr (by omega) (by omega)] at k2
        have k3 : r / 2 ^ e = 1 := (nm_jinj (b := 1) (by have := Nat.div_le_self r (2 ^ e); omega) (by omega)).mp k2
        rcases Nat.eq_zero_or_pos r with h0 | h0
        · rw [h0, Nat.zero_div] at k3
          omega
        · exact h0
      have hup := zr_up (zr_si a6 (i := 21) (by omega) (Int32.ofNat r)) (Q := P + 2 + 8) (by omega)
      refine ⟨_, _, P + 2 + 8, rfl, rfl, hup, by omega, r, hr1, G.2.2, rfl, rfl, rfl, fun i i1 i2 => ?_, ?_, ?_, ?_⟩
      · rw [hS1]
        show zz_u (zz_u (zz_u S.1 14 _) 21 _) 14 _ i = _
        rw [zz_u_n _ _ (by omega), zz_u_n _ _ (by omega), zz_u_n _ _ (by omega)]
      · rw [hS1]; rfl
      · rw [hM1]; rfl
      · rw [hM1]; rfl
    · rw [if_neg G, if_neg G]
      right
      exact ⟨_, _, rfl, rfl, zr_fz hv a6 (M' := zz_i (zz_i M1 11 (Int32.ofNat r)) 15 1) ⟨rfl, fun m h => h⟩⟩
  · right
    have a4' : fz_rd_takeWithin S 2 16383 16400 = some (0, zz_l S 0 L) := a4
    have a5' : fz_mo_ask M 2 1 16383 16400 = some (0, zz_i M 8 1) := a5
    refine ⟨zz_l S 0 L, zz_i (zz_i M 15 1) 8 1, ?_, ?_, zr_fz hv (S := zz_l S 0 L) h ⟨rfl, fun m h => h⟩⟩
    · unfold fz_rd_takeLongRate
      rw [a4']
      simp only [zbs]
      rw [if_pos trivial]
    · unfold zr_cm3
      rw [a5']
      simp only [zbs]
      rw [if_neg (zF_8 M), zF_91]
  · right
    have a4' : fz_rd_takeWithin S 2 16383 16400 = some (0, S) := a4
    have a5' : fz_mo_ask M 2 1 16383 16400 = some (0, zz_i M 8 1) := a5
    refine ⟨S, zz_i (zz_i M 15 1) 8 1, ?_, ?_, zr_fz hv h ⟨rfl, fun m h => h⟩⟩
    · unfold fz_rd_takeLongRate
      rw [a4']
      simp only [zbs]
      rw [if_pos trivial]
    · unfold zr_cm3
      rw [a5']
      simp only [zbs]
      rw [if_neg (zF_8 M), zF_91]
