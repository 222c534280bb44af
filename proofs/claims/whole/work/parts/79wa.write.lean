/-! Writing, as a whole (printed by wip/gen/genW9.py). -/
theorem zw_V17_len (z : Nat) : (zw_V17 z).length = 4 := zf_le_len _ _
theorem zc_st17 (sc : am_S) {s m : am_Z} (hz : zv s m) (o : Nat → Int64) (t : am_H) {q : Nat} (hq1 : 1 ≤ q) (hq8 : q ≤ 8) : zq s m o t (fz_la_write sc s m o t 2 (Int32.ofNat q)) (fz_mo_write m 2 (Int32.ofNat q)) := by
  obtain ⟨⟨n, hzs⟩, ⟨r1, r2, r3⟩, -, -⟩ := id hz
  obtain ⟨hn, h1, h2, h3⟩ := id hzs
  obtain ⟨z, hz0⟩ : ∃ z, z = zw_z17 n q := ⟨_, rfl⟩
  have hzl : z ≤ 120 := by
    rw [hz0]
    exact zw_z17_le hn hq1 hq8
  have hm : zf_n 4 (zz_i (zz_i m 0 0) 4 0) 0 := ⟨rfl, by decide⟩
  have hS : zf_n 3 (zw_S17 s q) 0 := ⟨rfl, by decide⟩
  have hC := za_start17 h1 hn hq1 hq8
  have hM := zm_start17 hm (n := n) (q := q) h2 hn hq1 hq8
  have eB : zw_B17 ((zz_i (zz_i m 0 0) 4 0).1 3) (Int32.ofNat (4 + q)) (Int32.ofNat (2 * q + 1)) ((zz_i (zz_i m 0 0) 4 0).1 1) (Int32.ofNat (zw_z17 n q)) = zw_B17 (s.1 2) (Int32.ofNat (4 + q)) (Int32.ofNat (2 * q + 1)) (s.1 1) (Int32.ofNat (zw_z17 n q)) := by
    show zw_B17 (m.1 3) (Int32.ofNat (4 + q)) (Int32.ofNat (2 * q + 1)) (m.1 1) (Int32.ofNat (zw_z17 n q)) = _
    rw [h2, ← h1, r1]
  rw [eB, ← hz0] at hM
  rw [← hz0] at hC
  have hx0 := zx_0 (s := s) (m := m) (A := zf_be 1380533830 4) (V := zw_V17 z) (Z := zf_le 0 4) (B := zw_B17 (s.1 2) (Int32.ofNat (4 + q)) (Int32.ofNat (2 * q + 1)) (s.1 1) (Int32.ofNat z)) hS hm (zf_be_len _ _) (zf_le_len _ _) (zw_V17_len z) (by
    rw [List.length_append, List.length_append, zf_be_len, zw_V17_len, zw_B17_len]
    decide) (zf_by_app (zf_by_app (zf_by_be _ _) (zf_by_le _ _)) (zw_B17_by _ _ _ _ _)) ⟨rfl, rfl, rfl, rfl⟩ ⟨rfl, rfl, rfl, rfl⟩ rfl
  have eL : (zf_be 1380533830 4 ++ zw_V17 z ++ zw_B17 (s.1 2) (Int32.ofNat (4 + q)) (Int32.ofNat (2 * q + 1)) (s.1 1) (Int32.ofNat z)).length = 60 := by
    have l1 := zf_be_len 1380533830 4
    have l2 := zw_V17_len z
    have l3 := zw_B17_len (s.1 2) (Int32.ofNat (4 + q)) (Int32.ofNat (2 * q + 1)) (s.1 1) (Int32.ofNat z)
    rw [List.length_append, List.length_append]
    omega
  rw [eL] at hx0
  have hf0 : zn_f (zf_a 3 (zw_S17 s q) (zf_be 1380533830 4 ++ zw_V17 z ++ zw_B17 (s.1 2) (Int32.ofNat (4 + q)) (Int32.ofNat (2 * q + 1)) (s.1 1) (Int32.ofNat z))) 4 q (2 * q + 1) := zn_f_a (S := zw_S17 s q) ⟨rfl, rfl, rfl⟩ _
  obtain ⟨S0, hS0⟩ : ∃ Z, Z = zf_a 3 (zw_S17 s q) (zf_be 1380533830 4 ++ zw_V17 z ++ zw_B17 (s.1 2) (Int32.ofNat (4 + q)) (Int32.ofNat (2 * q + 1)) (s.1 1) (Int32.ofNat z)) := ⟨_, rfl⟩
  obtain ⟨M0, hM0⟩ : ∃ Z, Z = zf_a 4 (zz_i (zz_i m 0 0) 4 0) (zf_be 1380533830 4 ++ zf_le 0 4 ++ zw_B17 (s.1 2) (Int32.ofNat (4 + q)) (Int32.ofNat (2 * q + 1)) (s.1 1) (Int32.ofNat z)) := ⟨_, rfl⟩
  rw [← hS0] at hC hf0
  rw [← hM0] at hM
  rw [← hS0, ← hM0] at hx0
  have ez : zn_bl n 0 (2 * q + 1) * (4 + q) = z := by
    unfold zn_bl
    rw [hz0]
    unfold zw_z17
    rw [show n - 0 + (2 * q + 1) - 1 = n + 2 * q + 1 - 1 by omega]
  obtain ⟨S', M', k1, k2, k3, k4⟩ := zs_blocks (V := zw_V17 z) hzs hq8 n 0 fz_fu 60 0 S0 (zz_i M0 19 0) 0 (by omega) (by omega) (by show n < 1000; omega) hx0 (by omega) (by rw [ez]; omega) hf0 (fun _ => ⟨by omega, rfl, rfl⟩)
  have k3' : fz_wr_writeStepped_13 fz_fu 0 0 S0 = _ := k3
  have k4' : fz_mo_writeStepped_7 fz_fu (Int32.ofNat q) 0 (zz_i M0 19 0) = _ := k4
  rw [ez] at k1
  have hzd : (Int32.ofNat n + Int32.ofNat (2 * q + 1) - (1 : Int32)) / Int32.ofNat (2 * q + 1) * Int32.ofNat (4 + q) = Int32.ofNat z := by rw [zw_d17 hn hq8, hz0]
  have hsz := zn_size k2 (by omega) (by omega) (k1.2.2.2.2.1.2.1.trans h1) hzd
  have hcw : fz_wr_writeStepped s (Int32.ofNat q) = some (zf_a 3 S' (zw_p (Int32.ofNat z))) := by
    have ea : (4 : Int32) + Int32.ofNat q = Int32.ofNat (4 + q) := nm_add 4 q
    unfold fz_wr_writeStepped
    rw [ea, hC]
    simp only [zbs]
    rw [k3', hsz]
    simp only [zbs]
    rw [zn_pad (zx_n3 k1) (by omega)]
    simp only [zbs]
  have hW : fz_mo_writeWave (zz_i (zz_i m 0 0) 4 0) 2 (Int32.ofNat q) = some (zf_a 4 M' (zw_p (Int32.ofNat z))) := by
    rw [hM]
    unfold fz_mo_writeStepped
    rw [k4']
    simp only [zbs]
    rw [zn_padm (zx_n4 k1) (by omega) (by omega)]
  have ep : (zw_p (Int32.ofNat z)).length = z % 2 := by rw [zw_p_le (by omega), zf_le_len]
  have x9 := zx_a k1 (l := zw_p (Int32.ofNat z)) (by omega) (zf_by_p _) (by omega)
  rw [ep] at x9
  have hV : zw_V17 z = zf_le (Int32.toInt64 (Int32.ofNat (60 + z + z % 2 - 8))) 4 := by
    unfold zw_V17
    rw [nm_m2 (by omega), show (((12 : Int32) + 20) + 12) = Int32.ofNat 44 from rfl, show (8 : Int32) = Int32.ofNat 8 from rfl, nm_add, nm_add, nm_add, show 44 + (8 + z + z % 2) = 60 + z + z % 2 - 8 by omega]
  rw [hV] at x9
  have hq1' : ¬ Int32.ofNat q < (1 : Int32) := fun h => by
    have := (nm_lt (b := 1) (by omega) (by omega)).mp h
    omega
  have hq8' : ¬ (8 : Int32) < Int32.ofNat q := fun h => by
    have := (nm_lt (a := 8) (by omega) (by omega)).mp h
    omega
  have hg : fz_mo_write m 2 (Int32.ofNat q) = fz_mo_write_56 2 (Int32.ofNat q) 1 0 m := by
    unfold fz_mo_write
    rw [show fz_mo_within (Int32.toInt64 2) 0 4 = some 1 by decide]
    simp only [zbs]
    rw [if_neg (show ¬ (1 : Int32) = 0 by decide), if_neg (show ¬ (2 : Int32) < 2 by decide), if_pos (show ¬ (2 : Int32) = 4 by decide)]
    unfold fz_mo_write_34
    rw [show (1 : Int64) = Int32.toInt64 1 by decide, show (8 : Int64) = Int32.toInt64 8 by decide, zw_32, if_neg (fun hh => hh.elim hq1' hq8')]
    simp only [zbs]
    rw [if_neg (show ¬ (1 : Int32) = 0 by decide), zm_40]
  have hw : fz_sh_isWritable 2 (Int32.ofNat q) = some 1 := by
    unfold fz_sh_isWritable fz_sh_isWritable_38
    rw [if_neg (by decide), if_neg (by decide), if_neg (by decide), if_pos rfl, if_neg hq1', if_neg hq8']
  refine zx_wave sc hz o t (x := 2) (y := Int32.ofNat q) (by decide) hg hW ?_ (by omega) x9
  unfold fz_sh_write
  rw [hw]
  simp only [zbs]
  rw [if_pos (show ¬ (1 : Int32) = 0 by decide), if_neg (show ¬ (Int32.toInt 2 < 0 ∨ 3 < Int32.toInt 2) by decide), if_neg (show ¬ (2 : Int32) = 0 by decide), if_neg (show ¬ (2 : Int32) = 1 by decide), if_pos trivial, hcw]
  simp only [zbs]
theorem zw_V2_len (z : Nat) : (zw_V2 z).length = 4 := zf_le_len _ _
theorem zc_st2 (sc : am_S) {s m : am_Z} (hz : zv s m) (o : Nat → Int64) (t : am_H) {q : Nat} (hq1 : 1 ≤ q) (hq8 : q ≤ 8) : zq s m o t (fz_la_write sc s m o t 3 (Int32.ofNat q)) (fz_mo_write m 3 (Int32.ofNat q)) := by
  obtain ⟨⟨n, hzs⟩, ⟨r1, r2, r3⟩, -, -⟩ := id hz
  obtain ⟨hn, h1, h2, h3⟩ := id hzs
  obtain ⟨z, hz0⟩ : ∃ z, z = zw_z2 n q := ⟨_, rfl⟩
  have hzl : z ≤ 140 := by
    rw [hz0]
    exact zw_z2_le hn hq1 hq8
  have hm : zf_n 4 (zz_i (zz_i m 0 0) 4 0) 0 := ⟨rfl, by decide⟩
  have hS : zf_n 3 (zw_S2 s q) 0 := ⟨rfl, by decide⟩
  have hC := za_start2 h1 hn hq1 hq8
  have hM := zm_start2 hm (n := n) (q := q) h2 hn hq1 hq8
  have eB : zw_B2 ((zz_i (zz_i m 0 0) 4 0).1 3) (Int32.ofNat (7 + q)) (Int32.ofNat (2 * q + 2)) ((zz_i (zz_i m 0 0) 4 0).1 1) (Int32.ofNat (zw_z2 n q)) = zw_B2 (s.1 2) (Int32.ofNat (7 + q)) (Int32.ofNat (2 * q + 2)) (s.1 1) (Int32.ofNat (zw_z2 n q)) := by
    show zw_B2 (m.1 3) (Int32.ofNat (7 + q)) (Int32.ofNat (2 * q + 2)) (m.1 1) (Int32.ofNat (zw_z2 n q)) = _
    rw [h2, ← h1, r1]
  rw [eB, ← hz0] at hM
  rw [← hz0] at hC
  have hx0 := zx_0 (s := s) (m := m) (A := zf_be 1380533830 4) (V := zw_V2 z) (Z := zf_le 0 4) (B := zw_B2 (s.1 2) (Int32.ofNat (7 + q)) (Int32.ofNat (2 * q + 2)) (s.1 1) (Int32.ofNat z)) hS hm (zf_be_len _ _) (zf_le_len _ _) (zw_V2_len z) (by
    rw [List.length_append, List.length_append, zf_be_len, zw_V2_len, zw_B2_len]
    decide) (zf_by_app (zf_by_app (zf_by_be _ _) (zf_by_le _ _)) (zw_B2_by _ _ _ _ _)) ⟨rfl, rfl, rfl, rfl⟩ ⟨rfl, rfl, rfl, rfl⟩ rfl
  have eL : (zf_be 1380533830 4 ++ zw_V2 z ++ zw_B2 (s.1 2) (Int32.ofNat (7 + q)) (Int32.ofNat (2 * q + 2)) (s.1 1) (Int32.ofNat z)).length = 90 := by
    have l1 := zf_be_len 1380533830 4
    have l2 := zw_V2_len z
    have l3 := zw_B2_len (s.1 2) (Int32.ofNat (7 + q)) (Int32.ofNat (2 * q + 2)) (s.1 1) (Int32.ofNat z)
    rw [List.length_append, List.length_append]
    omega
  rw [eL] at hx0
  have hf0 : zn_f (zf_a 3 (zw_S2 s q) (zf_be 1380533830 4 ++ zw_V2 z ++ zw_B2 (s.1 2) (Int32.ofNat (7 + q)) (Int32.ofNat (2 * q + 2)) (s.1 1) (Int32.ofNat z))) 7 q (2 * q + 2) := zn_f_a (S := zw_S2 s q) ⟨rfl, rfl, rfl⟩ _
  obtain ⟨S0, hS0⟩ : ∃ Z, Z = zf_a 3 (zw_S2 s q) (zf_be 1380533830 4 ++ zw_V2 z ++ zw_B2 (s.1 2) (Int32.ofNat (7 + q)) (Int32.ofNat (2 * q + 2)) (s.1 1) (Int32.ofNat z)) := ⟨_, rfl⟩
  obtain ⟨M0, hM0⟩ : ∃ Z, Z = zf_a 4 (zz_i (zz_i m 0 0) 4 0) (zf_be 1380533830 4 ++ zf_le 0 4 ++ zw_B2 (s.1 2) (Int32.ofNat (7 + q)) (Int32.ofNat (2 * q + 2)) (s.1 1) (Int32.ofNat z)) := ⟨_, rfl⟩
  rw [← hS0] at hC hf0
  rw [← hM0] at hM
  rw [← hS0, ← hM0] at hx0
  have ez : zn_bl n 0 (2 * q + 2) * (7 + q) = z := by
    unfold zn_bl
    rw [hz0]
    unfold zw_z2
    rw [show n - 0 + (2 * q + 2) - 1 = n + 2 * q + 2 - 1 by omega]
  obtain ⟨S', M', k1, k2, k3, k4⟩ := zp_blocks (V := zw_V2 z) hzs hq8 n 0 fz_fu 90 S0 M0 16 16 (by omega) (by omega) (by show n < 1000; omega) hx0 (by omega) (by rw [ez]; omega) hf0 (fun _ => rfl)
  have k3' : fz_wr_writePredicted_14 fz_fu 16 0 S0 = _ := k3
  have k4' : fz_mo_writePredicted_5 fz_fu (Int32.ofNat q) 16 0 M0 = _ := k4
  rw [ez] at k1
  have hzd : (Int32.ofNat n + Int32.ofNat (2 * q + 2) - (1 : Int32)) / Int32.ofNat (2 * q + 2) * Int32.ofNat (7 + q) = Int32.ofNat z := by rw [zw_d2 hn hq8, hz0]
  have hsz := zn_size k2 (by omega) (by omega) (k1.2.2.2.2.1.2.1.trans h1) hzd
  have hcw : fz_wr_writePredicted s (Int32.ofNat q) = some (zf_a 3 S' (zw_p (Int32.ofNat z))) := by
    have ea : (7 : Int32) + Int32.ofNat q = Int32.ofNat (7 + q) := nm_add 7 q
    unfold fz_wr_writePredicted
    rw [ea, hC]
    simp only [zbs]
    rw [k3', hsz]
    simp only [zbs]
    rw [zn_pad (zx_n3 k1) (by omega)]
    simp only [zbs]
  have hW : fz_mo_writeWave (zz_i (zz_i m 0 0) 4 0) 3 (Int32.ofNat q) = some (zf_a 4 M' (zw_p (Int32.ofNat z))) := by
    rw [hM]
    unfold fz_mo_writePredicted
    rw [k4']
    simp only [zbs]
    rw [zn_padm (zx_n4 k1) (by omega) (by omega)]
  have ep : (zw_p (Int32.ofNat z)).length = z % 2 := by rw [zw_p_le (by omega), zf_le_len]
  have x9 := zx_a k1 (l := zw_p (Int32.ofNat z)) (by omega) (zf_by_p _) (by omega)
  rw [ep] at x9
  have hV : zw_V2 z = zf_le (Int32.toInt64 (Int32.ofNat (90 + z + z % 2 - 8))) 4 := by
    unfold zw_V2
    rw [nm_m2 (by omega), show (((12 : Int32) + 50) + 12) = Int32.ofNat 74 from rfl, show (8 : Int32) = Int32.ofNat 8 from rfl, nm_add, nm_add, nm_add, show 74 + (8 + z + z % 2) = 90 + z + z % 2 - 8 by omega]
  rw [hV] at x9
  have hq1' : ¬ Int32.ofNat q < (1 : Int32) := fun h => by
    have := (nm_lt (b := 1) (by omega) (by omega)).mp h
    omega
  have hq8' : ¬ (8 : Int32) < Int32.ofNat q := fun h => by
    have := (nm_lt (a := 8) (by omega) (by omega)).mp h
    omega
  have hg : fz_mo_write m 3 (Int32.ofNat q) = fz_mo_write_56 3 (Int32.ofNat q) 1 0 m := by
    unfold fz_mo_write
    rw [show fz_mo_within (Int32.toInt64 3) 0 4 = some 1 by decide]
    simp only [zbs]
    rw [if_neg (show ¬ (1 : Int32) = 0 by decide), if_neg (show ¬ (3 : Int32) < 2 by decide), if_pos (show ¬ (3 : Int32) = 4 by decide)]
    unfold fz_mo_write_34
    rw [show (1 : Int64) = Int32.toInt64 1 by decide, show (8 : Int64) = Int32.toInt64 8 by decide, zw_32, if_neg (fun hh => hh.elim hq1' hq8')]
    simp only [zbs]
    rw [if_neg (show ¬ (1 : Int32) = 0 by decide), zm_40]
  have hw : fz_sh_isWritable 3 (Int32.ofNat q) = some 1 := by
    unfold fz_sh_isWritable fz_sh_isWritable_38
    rw [if_neg (by decide), if_neg (by decide), if_neg (by decide), if_neg (by decide), if_pos rfl, if_neg hq1', if_neg hq8']
  refine zx_wave sc hz o t (x := 3) (y := Int32.ofNat q) (by decide) hg hW ?_ (by omega) x9
  unfold fz_sh_write
  rw [hw]
  simp only [zbs]
  rw [if_pos (show ¬ (1 : Int32) = 0 by decide), if_neg (show ¬ (Int32.toInt 3 < 0 ∨ 3 < Int32.toInt 3) by decide), if_neg (show ¬ (3 : Int32) = 0 by decide), if_neg (show ¬ (3 : Int32) = 1 by decide), if_neg (show ¬ (3 : Int32) = 2 by decide), if_pos trivial, hcw]
  simp only [zbs]
/-- a call that is refused -/
theorem zc_bad (sc : am_S) {s m : am_Z} (hz : zv s m) (o : Nat → Int64) (t : am_H) {x y : Int32} (hw : fz_sh_isWritable x y = some 0) (hg : fz_mo_write m x y = fz_mo_write_44 x y m) : zq s m o t (fz_la_write sc s m o t x y) (fz_mo_write m x y) := by
  have e1 : fz_sh_write s x y = some (.inl 9) := by
    unfold fz_sh_write
    rw [hw]
    simp only [zbs]
    rw [if_neg (not_not_intro trivial)]
  have e2 : fz_mo_write m x y = some (0, zz_i m 0 1) := by
    rw [hg]
    unfold fz_mo_write_44 fz_mo_write_45 fz_mo_write_56
    rw [if_pos (show (0 : Int32) = 0 from rfl), if_neg (show ¬ ¬ (0 : Int32) = 0 by decide)]
  have e3 : fz_la_write sc s m o t x y = some (1, s, m, o, t ++ [.inl (9, [])]) := by
    unfold fz_la_write
    rw [e1]
    simp only [zbs, zz_el]
    rw [if_pos trivial]
  rw [e2, e3]
  exact ⟨1, s, o, _, 0, zz_i m 0 1, rfl, rfl, rfl, fun h => absurd h (by decide), hz, zt_x t 9 (by decide) (by decide)⟩
theorem zc_W : zl_W := by
  intro sc s m o t x y hz
  have h0 : (0 : Int32).toInt = 0 := rfl
  have h4 : (4 : Int32).toInt = 4 := by decide
  by_cases cx : Int32.toInt x < 0 ∨ 4 < Int32.toInt x
  · refine zc_bad sc hz o t ?_ ?_
    · unfold fz_sh_isWritable
      rw [if_pos cx]
    · have c : x < 0 ∨ (4 : Int32) < x := by
        rw [Int32.lt_iff_toInt_lt, Int32.lt_iff_toInt_lt, h0, h4]
        exact cx
      unfold fz_mo_write
      rw [show (0 : Int64) = Int32.toInt64 0 by decide, show (4 : Int64) = Int32.toInt64 4 by decide, zw_32, if_pos c]
      simp only [zbs]
      rw [if_pos trivial]
  · have hx : x = 0 ∨ x = 1 ∨ x = 2 ∨ x = 3 ∨ x = 4 := by
      rcases nm_cases x with c | ⟨k, hk, rfl⟩
      · rw [Int32.lt_iff_toInt_lt, h0] at c
        omega
      · rw [nm_toInt hk] at cx
        have : k = 0 ∨ k = 1 ∨ k = 2 ∨ k = 3 ∨ k = 4 := by omega
        rcases this with rfl | rfl | rfl | rfl | rfl
        · exact Or.inl rfl
        · exact Or.inr (Or.inl rfl)
        · exact Or.inr (Or.inr (Or.inl rfl))
        · exact Or.inr (Or.inr (Or.inr (Or.inl rfl)))
        · exact Or.inr (Or.inr (Or.inr (Or.inr rfl)))
    have size : ∀ W : Int32, (W = 2 ∨ W = 3) → (y < (1 : Int32) ∨ (8 : Int32) < y) → zq s m o t (fz_la_write sc s m o t W y) (fz_mo_write m W y) := by
      intro W hW hy
      refine zc_bad sc hz o t ?_ ?_
      · have e38 : fz_sh_isWritable_38 y = some 0 := by
          unfold fz_sh_isWritable_38 fz_sh_isWritable_53
          rcases hy with hy | hy
          · rw [if_pos hy]
          · by_cases c : y < (1 : Int32)
            · rw [if_pos c]
            · rw [if_neg c, if_pos hy]
        rcases hW with rfl | rfl
        · unfold fz_sh_isWritable
          rw [if_neg (by decide), if_neg (by decide), if_neg (by decide), if_pos rfl, e38]
        · unfold fz_sh_isWritable
          rw [if_neg (by decide), if_neg (by decide), if_neg (by decide), if_neg (by decide), if_pos rfl, e38]
      · have e34 : fz_mo_write_34 W y 8 1 (Int32.toInt64 y) m = fz_mo_write_44 W y m := by
          unfold fz_mo_write_34
          rw [show (1 : Int64) = Int32.toInt64 1 by decide, show (8 : Int64) = Int32.toInt64 8 by decide, zw_32, if_pos hy]
          simp only [zbs]
          rw [if_pos trivial]
        rw [← e34]
        unfold fz_mo_write
        rcases hW with rfl | rfl
        · rw [show fz_mo_within (Int32.toInt64 2) 0 4 = some 1 by decide]
          simp only [zbs]
          rw [if_neg (show ¬ (1 : Int32) = 0 by decide), if_neg (show ¬ (2 : Int32) < 2 by decide), if_pos (show ¬ (2 : Int32) = 4 by decide)]
        · rw [show fz_mo_within (Int32.toInt64 3) 0 4 = some 1 by decide]
          simp only [zbs]
          rw [if_neg (show ¬ (1 : Int32) = 0 by decide), if_neg (show ¬ (3 : Int32) < 2 by decide), if_pos (show ¬ (3 : Int32) = 4 by decide)]
    have good : ¬ (y < (1 : Int32) ∨ (8 : Int32) < y) → ∃ q : Nat, 1 ≤ q ∧ q ≤ 8 ∧ y = Int32.ofNat q := by
      intro hy
      have h1 : (1 : Int32).toInt = 1 := by decide
      have h8 : (8 : Int32).toInt = 8 := by decide
      rw [Int32.lt_iff_toInt_lt, Int32.lt_iff_toInt_lt, h1, h8] at hy
      rcases nm_cases y with c | ⟨k, hk, rfl⟩
      · rw [Int32.lt_iff_toInt_lt, h0] at c
        omega
      · rw [nm_toInt hk] at hy
        exact ⟨k, by omega, by omega, rfl⟩
    rcases hx with rfl | rfl | rfl | rfl | rfl
    · exact zc_plain sc hz o t (al := 1) (Or.inl ⟨rfl, rfl⟩) y
    · exact zc_plain sc hz o t (al := 2) (Or.inr ⟨rfl, rfl⟩) y
    · by_cases hy : y < (1 : Int32) ∨ (8 : Int32) < y
      · exact size 2 (Or.inl rfl) hy
      · obtain ⟨q, hq1, hq8, rfl⟩ := good hy
        exact zc_st17 sc hz o t hq1 hq8
    · by_cases hy : y < (1 : Int32) ∨ (8 : Int32) < y
      · exact size 3 (Or.inr rfl) hy
      · obtain ⟨q, hq1, hq8, rfl⟩ := good hy
        exact zc_st2 sc hz o t hq1 hq8
    · by_cases hy : y < (1 : Int32) ∨ (16 : Int32) < y
      · refine zc_bad sc hz o t ?_ ?_
        · unfold fz_sh_isWritable fz_sh_isWritable_70
          rw [if_neg (by decide), if_neg (by decide), if_neg (by decide), if_neg (by decide), if_neg (by decide), if_pos rfl]
          rcases hy with hy | hy
          · rw [if_pos hy]
          · by_cases c : y < (1 : Int32)
            · rw [if_pos c]
            · rw [if_neg c, if_pos hy]
        · unfold fz_mo_write
          rw [show fz_mo_within (Int32.toInt64 4) 0 4 = some 1 by decide]
          simp only [zbs]
          rw [if_neg (show ¬ (1 : Int32) = 0 by decide), if_neg (show ¬ (4 : Int32) < 2 by decide), if_neg (not_not_intro trivial)]
          unfold fz_mo_write_34
          rw [show (1 : Int64) = Int32.toInt64 1 by decide, show (16 : Int64) = Int32.toInt64 16 by decide, zw_32, if_pos hy]
          simp only [zbs]
          rw [if_pos trivial]
      · exact zc_other sc hz o t (fun h => hy (Or.inl h)) (fun h => hy (Or.inr h))
