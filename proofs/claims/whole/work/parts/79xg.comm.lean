/-! Reading: "COMM" as a chunk. -/
def zr_co (S M : am_Z) : Prop := ∃ c b r : Nat, c ≤ 64 ∧ 1 ≤ b ∧ b ≤ 16 ∧ 1 ≤ r ∧ r ≤ 192000 ∧ S.1 17 = 1 ∧ M.1 15 = 1 ∧ S.1 18 = Int32.ofNat c ∧ M.1 10 = Int32.ofNat c ∧ S.1 19 = Int32.ofNat b ∧ M.1 14 = Int32.ofNat b ∧ S.1 21 = Int32.ofNat r ∧ M.1 11 = Int32.ofNat r
theorem zr_comm {s m S M : am_Z} {N P : Nat} (hv : zv_f s m N) (h : zr s m N 1 S M P) (h4 : P + 4 ≤ N) (hid : Int32.ofNat (zn (zb s) P 4 true) = 1129270605) : zr_E s m N 1 (fun S' M' P' => P + 8 ≤ P' ∧ zr_co S' M' ∧ S'.1 20 = S.1 20) (fz_rd_takeComm S) (fz_mo_readCommon (zz_i M 7 (Int32.ofNat (P + 4)))) := by
  have eN : N ≤ 400 := hv.1
  have z1 : ¬ (1 : Int32) = 0 := by decide
  have h1 := zr_up h h4
  have hi := zr_tid hv h h4 hid
  rw [zr_cm]
  rcases zr_sz hv h1 (x := 18) (by omega) with ⟨c8, e18, a3, a4⟩ | ⟨a1, a4⟩
  · have a4' : fz_rd_takeSize (zz_i S 14 (Int32.ofNat (P + 4))) 18 = some (1, zz_i (zz_i S 14 (Int32.ofNat (P + 4))) 14 (Int32.ofNat (P + 4 + 4))) := a4
    rw [zz_ii] at a4'
    rcases zr_op hv h1 18 18 18 with ⟨w, b1, -, -, -, -, b6⟩ | ⟨b1, -⟩
    · rw [← e18] at b1
      subst b1
      rw [zz_ii] at b6
      have b6' : fz_mo_open (zz_i M 7 (Int32.ofNat (P + 4))) 1 18 18 18 = some (18, zz_i M 7 (Int32.ofNat (P + 4 + 4))) := b6
      have h2 := zr_up h (Q := P + 4 + 4) (by omega)
      obtain ⟨S2, hS2⟩ : ∃ Z, Z = zz_i S 14 (Int32.ofNat (P + 4 + 4)) := ⟨_, rfl⟩
      obtain ⟨M2, hM2⟩ : ∃ Z, Z = zz_i M 7 (Int32.ofNat (P + 4 + 4)) := ⟨_, rfl⟩
      rw [← hS2] at a4' h2
      rw [← hM2] at b6' h2
      rw [b6']
      simp only [zbs]
      have C : fz_rd_takeComm S = ((fz_rd_take S2 (2 : Int32) (1 : Int64)).bind fun q3 => if q3.1 = 0 then some ((0 : Int32), q3.2) else (fz_rd_takeWithin q3.2 (4 : Int32) (0 : Int64) (64 : Int64)).bind fun q4 => if ¬ q4.1 = 0 then (fz_rd_takeWithin (zz_i q4.2 18 (Int64.toInt32 (q4.2.2.1 0))) (2 : Int32) (1 : Int64) (16 : Int64)).bind fun q5 => if ¬ q5.1 = 0 then (fz_rd_takeLongRate (zz_i (zz_i q5.2 19 (Int64.toInt32 (q5.2.2.1 0))) 17 (1 : Int32))).bind fun q6 => if ¬ (q6.1 = 0 ∨ q6.1 = 1) then none else some (q6.1, q6.2) else some ((0 : Int32), q5.2) else some ((0 : Int32), q4.2)) := by
        unfold fz_rd_takeComm
        rw [hi]
        simp only [zbs]
        rw [if_neg z1, a4']
        simp only [zbs]
        rw [if_neg z1]
      rw [C]
      unfold zr_cm1
      rcases zr_take hv h2 (n := 2) (by omega) 1 rfl 1 with ⟨c0, -, c3, c4, c5⟩ | ⟨-, c3, c4⟩
      · have c3' : fz_rd_take S2 2 1 = some (1, zz_i S2 14 (Int32.ofNat (P + 4 + 4 + 2))) := c3
        have c4' : fz_mo_exact M2 2 1 1 = some (zz_i M2 7 (Int32.ofNat (P + 4 + 4 + 2))) := c4
        obtain ⟨S3, hS3⟩ : ∃ Z, Z = zz_i S2 14 (Int32.ofNat (P + 4 + 4 + 2)) := ⟨_, rfl⟩
        obtain ⟨M3, hM3⟩ : ∃ Z, Z = zz_i M2 7 (Int32.ofNat (P + 4 + 4 + 2)) := ⟨_, rfl⟩
        rw [← hS3] at c3' c5
        rw [← hM3] at c4' c5
        rw [c3', c4']
        simp only [zbs]
        rw [if_neg z1]
        rcases zr_within hv c5 (n := 4) (by omega) 0 64 with ⟨c, -, hc, k1, k2, k3, d4, d5, d6⟩ | ⟨L, d4, d5⟩ | ⟨d4, d5⟩
        · have d4' : fz_rd_takeWithin S3 4 0 64 = some (1, zz_i (zz_l S3 0 (Int64.ofNat c)) 14 (Int32.ofNat (P + 4 + 4 + 2 + 4))) := d4
          have d5' : fz_mo_ask M3 4 1 0 64 = some (Int64.ofNat c, zz_i M3 7 (Int32.ofNat (P + 4 + 4 + 2 + 4))) := d5
          have hc64 : c ≤ 64 := by
            rw [Int64.le_iff_toInt_le, nm_jtoInt (by omega)] at k3
            have : (64 : Int64).toInt = 64 := by decide
            omega
          have tl : (zz_i (zz_l S3 0 (Int64.ofNat c)) 14 (Int32.ofNat (P + 4 + 4 + 2 + 4))).2.1 0 = Int64.ofNat c := rfl
          obtain ⟨S4, hS4⟩ : ∃ Z, Z = zz_i (zz_i (zz_l S3 0 (Int64.ofNat c)) 14 (Int32.ofNat (P + 4 + 4 + 2 + 4))) 18 (Int32.ofNat c) := ⟨_, rfl⟩
          obtain ⟨M4, hM4⟩ : ∃ Z, Z = zz_i (zz_i M3 7 (Int32.ofNat (P + 4 + 4 + 2 + 4))) 10 (Int32.ofNat c) := ⟨_, rfl⟩
          have h4' : zr s m N 1 S4 M4 (P + 4 + 4 + 2 + 4) := by
            rw [hS4, hM4]
            exact zr_si d6 (i := 18) (by omega) _
          rw [d4', d5']
          simp only [zbs]
          rw [if_pos z1, tl, nm_l2i, ← hS4, ← hM4]
          unfold zr_cm2
          rcases zr_within hv h4' (n := 2) (by omega) 1 16 with ⟨b, -, hb, m1, m2, m3, n4, n5, n6⟩ | ⟨L, n4, n5⟩ | ⟨n4, n5⟩
          · have n4' : fz_rd_takeWithin S4 2 1 16 = some (1, zz_i (zz_l S4 0 (Int64.ofNat b)) 14 (Int32.ofNat (P + 4 + 4 + 2 + 4 + 2))) := n4
            have n5' : fz_mo_ask M4 2 1 1 16 = some (Int64.ofNat b, zz_i M4 7 (Int32.ofNat (P + 4 + 4 + 2 + 4 + 2))) := n5
            have hb16 : 1 ≤ b ∧ b ≤ 16 := by
              rw [Int64.le_iff_toInt_le, nm_jtoInt (by omega)] at m2 m3
              have t1 : (1 : Int64).toInt = 1 := by decide
              have t2 : (16 : Int64).toInt = 16 := by decide
              omega
            have tl2 : (zz_i (zz_l S4 0 (Int64.ofNat b)) 14 (Int32.ofNat (P + 4 + 4 + 2 + 4 + 2))).2.1 0 = Int64.ofNat b := rfl
            obtain ⟨S5, hS5⟩ : ∃ Z, Z = zz_i (zz_i (zz_i (zz_l S4 0 (Int64.ofNat b)) 14 (Int32.ofNat (P + 4 + 4 + 2 + 4 + 2))) 19 (Int32.ofNat b)) 17 1 := ⟨_, rfl⟩
            obtain ⟨M5, hM5⟩ : ∃ Z, Z = zz_i (zz_i M4 7 (Int32.ofNat (P + 4 + 4 + 2 + 4 + 2))) 14 (Int32.ofNat b) := ⟨_, rfl⟩
            have h5 : zr s m N 1 S5 M5 (P + 4 + 4 + 2 + 4 + 2) := by
              rw [hS5, hM5]
              exact zr_si (zr_si n6 (i := 19) (by omega) _) (i := 17) (by omega) _
            rw [n4', n5']
            simp only [zbs]
            rw [if_pos z1, tl2, nm_l2i, ← hS5, ← hM5]
            rcases zr_lr hv h5 (by omega) with ⟨S', M', P', o1, o2, o3, o4, r, o5, o6, o7, o8, o9, o10, o11, o12, o13⟩ | ⟨S', M', o1, o2, o3⟩
            · left
              rw [o1, o2]
              refine ⟨S', M', P', ?_, rfl, o3, by omega, ⟨c, b, r, hc64, hb16.1, hb16.2, o5, o6, ?_, o9, ?_, ?_, ?_, ?_, o7, o8⟩, ?_⟩
              · simp only [zbs]
                rw [if_neg (not_not_intro (Or.inr trivial))]
              · rw [o10 17 (by omega) (by omega), hS5]; rfl
              · rw [o10 18 (by omega) (by omega), hS5, hS4]; rfl
              · rw [o12, hM5, hM4]; rfl
              · rw [o10 19 (by omega) (by omega), hS5]; rfl
              · rw [o13, hM5]; rfl
              · rw [o10 20 (by omega) (by omega), hS5, hS4, hS3, hS2]; rfl
            · right
              rw [o1, o2]
              refine ⟨S', M', ?_, rfl, o3⟩
              simp only [zbs]
              rw [if_neg (not_not_intro (Or.inl trivial))]
          · right
            have n4' : fz_rd_takeWithin S4 2 1 16 = some (0, zz_l S4 0 L) := n4
            have n5' : fz_mo_ask M4 2 1 1 16 = some (0, zz_i M4 8 1) := n5
            rw [n4', n5']
            simp only [zbs]
            refine ⟨zz_l S4 0 L, zz_i (zz_i (zz_i M4 14 (Int64.toInt32 0)) 15 1) 8 1, ?_, ?_, zr_fz hv (S := zz_l S4 0 L) h4' ⟨rfl, fun m h => h⟩⟩
            · rw [if_neg (not_not_intro trivial)]
            · rw [zF_c _ (by decide), zF_cm3]
          · right
            have n4' : fz_rd_takeWithin S4 2 1 16 = some (0, S4) := n4
            have n5' : fz_mo_ask M4 2 1 1 16 = some (0, zz_i M4 8 1) := n5
            rw [n4', n5']
            simp only [zbs]
            refine ⟨S4, zz_i (zz_i (zz_i M4 14 (Int64.toInt32 0)) 15 1) 8 1, ?_, ?_, zr_fz hv h4' ⟨rfl, fun m h => h⟩⟩
            · rw [if_neg (not_not_intro trivial)]
            · rw [zF_c _ (by decide), zF_cm3]
        · right
          have d4' : fz_rd_takeWithin S3 4 0 64 = some (0, zz_l S3 0 L) := d4
          have d5' : fz_mo_ask M3 4 1 0 64 = some (0, zz_i M3 8 1) := d5
          obtain ⟨M', f1, f2⟩ := zF_cm2 18 (zz_i M3 10 (Int64.toInt32 0))
          rw [d4', d5']
          simp only [zbs]
          refine ⟨zz_l S3 0 L, zz_i M' 8 1, ?_, ?_, zr_fz hv (S := zz_l S3 0 L) c5 (zr_q_t (b := zz_i M3 10 (Int64.toInt32 0)) ⟨rfl, fun m h => h⟩ f2)⟩
          · rw [if_neg (not_not_intro trivial)]
          · rw [zF_c _ (by decide)]
            exact f1
        · right
          have d4' : fz_rd_takeWithin S3 4 0 64 = some (0, S3) := d4
          have d5' : fz_mo_ask M3 4 1 0 64 = some (0, zz_i M3 8 1) := d5
          obtain ⟨M', f1, f2⟩ := zF_cm2 18 (zz_i M3 10 (Int64.toInt32 0))
          rw [d4', d5']
          simp only [zbs]
          refine ⟨S3, zz_i M' 8 1, ?_, ?_, zr_fz hv c5 (zr_q_t (b := zz_i M3 10 (Int64.toInt32 0)) ⟨rfl, fun m h => h⟩ f2)⟩
          · rw [if_neg (not_not_intro trivial)]
          · rw [zF_c _ (by decide)]
            exact f1
      · right
        have c3' : fz_rd_take S2 2 1 = some (0, S2) := c3
        have c4' : fz_mo_exact M2 2 1 1 = some (zz_i M2 8 1) := c4
        obtain ⟨M', f1, f2⟩ := zF_cm2 18 (zz_i M2 10 (Int64.toInt32 0))
        rw [c3', c4']
        simp only [zbs]
        refine ⟨S2, zz_i M' 8 1, ?_, ?_, zr_fz hv h2 (zr_q_t (b := zz_i M2 10 (Int64.toInt32 0)) ⟨rfl, fun m h => h⟩ f2)⟩
        · rw [if_pos trivial]
        · rw [zF_ask]
          simp only [zbs]
          rw [zF_c _ (by decide)]
          exact f1
    · exact absurd ⟨c8, Or.inl (by rw [← e18]; rfl), by rw [← e18]; exact a3⟩ b1
  · right
    have a4' : fz_rd_takeSize (zz_i S 14 (Int32.ofNat (P + 4))) 18 = some (0, zz_i S 14 (Int32.ofNat (P + 4))) := a4
    rcases zr_op hv h1 18 18 18 with ⟨w, b1, b2, b3, b4, b5, -⟩ | ⟨-, b6⟩
    · exfalso
      have e : w = 18 := by
        rcases b4 with b4 | b4 | b4 <;> exact (nm_jinj (b := 18) (by omega) (by omega)).mp b4
      subst e
      exact a1 ⟨b3, b1, b5⟩
    · obtain ⟨M', f1, f2⟩ := zF_cm1 0 (zz_i M 7 (Int32.ofNat (P + 4)))
      refine ⟨_, zz_i M' 8 1, ?_, ?_, zr_fz hv h1 f2⟩
      · unfold fz_rd_takeComm
        rw [hi]
        simp only [zbs]
        rw [if_neg z1, a4']
        simp only [zbs]
        rw [if_pos trivial]
      · rw [b6]
        simp only [zbs]
        exact f1
