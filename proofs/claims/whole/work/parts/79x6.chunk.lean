/-! Reading: "fmt " and "fact" as chunks. -/
theorem zr_tag0 {v : Nat} (hv : v < 4294967296) : (v = 16 ∧ fz_fm_tagOfSize (Int64.ofNat v) = some 1) ∨ (v = 20 ∧ fz_fm_tagOfSize (Int64.ofNat v) = some 17) ∨ (v = 50 ∧ fz_fm_tagOfSize (Int64.ofNat v) = some 2) ∨ (¬ v = 16 ∧ ¬ v = 20 ∧ ¬ v = 50 ∧ fz_fm_tagOfSize (Int64.ofNat v) = some 0) := by
  have e : ∀ k : Nat, k < 100 → (lg_cmp (Int64.ofNat v) (Int64.ofNat k) = 0 ↔ v = k) := by
    intro k hk
    rw [nm_cmp0, nm_jinj (by omega) (by omega)]
  have e16 : lg_cmp (Int64.ofNat v) 16 = 0 ↔ v = 16 := e 16 (by omega)
  have e20 : lg_cmp (Int64.ofNat v) 20 = 0 ↔ v = 20 := e 20 (by omega)
  have e50 : lg_cmp (Int64.ofNat v) 50 = 0 ↔ v = 50 := e 50 (by omega)
  unfold fz_fm_tagOfSize
  by_cases c1 : v = 16
  · left
    refine ⟨c1, ?_⟩
    rw [if_neg (not_not_intro (e16.mpr c1))]
  · rw [if_pos (fun h => c1 (e16.mp h))]
    by_cases c2 : v = 20
    · right; left
      refine ⟨c2, ?_⟩
      rw [if_neg (not_not_intro (e20.mpr c2))]
    · rw [if_pos (fun h => c2 (e20.mp h))]
      by_cases c3 : v = 50
      · right; right; left
        refine ⟨c3, ?_⟩
        rw [if_neg (not_not_intro (e50.mpr c3))]
      · right; right; right
        refine ⟨c1, c2, c3, ?_⟩
        rw [if_pos (fun h => c3 (e50.mp h))]
theorem zr_fmt {s m S M : am_Z} {N P : Nat} (hv : zv_f s m N) (h : zr s m N 0 S M P) (h4 : P + 4 ≤ N) (hid : Int32.ofNat (zn (zb s) P 4 true) = 1718449184) : zr_E s m N 0 (fun S' M' P' => P + 8 ≤ P' ∧ zr_fm S' M' ∧ zr_fs S S' M M') (fz_rd_takeFmt S) (fz_mo_readFormat (zz_i M 7 (Int32.ofNat (P + 4)))) := by
  have z1 : ¬ (1 : Int32) = 0 := by decide
  have h1 := zr_up h h4
  have hh : fz_by_has (zz_i S 14 (Int32.ofNat (P + 4))) (Int32.ofNat (P + 4)) 4 = some (if P + 4 + 4 ≤ N then 1 else 0) := zr_has hv h1 (n := 4) (by omega)
  have hu : fz_by_numberAt (zz_i S 14 (Int32.ofNat (P + 4))) (Int32.ofNat (P + 4)) 4 0 = some (if P + 4 + 4 ≤ N then Int64.ofNat (zn (zb s) (P + 4) 4 (zfl 0)) else 0) := zr_num hv h1 (n := 4) (by omega) 0
  have t14 : (zz_i S 14 (Int32.ofNat (P + 4))).1 14 = Int32.ofNat (P + 4) := rfl
  have t15 : (zz_i S 14 (Int32.ofNat (P + 4))).1 15 = 0 := h.2.2.2.1
  have hi := zr_tid hv h h4 hid
  -- the reference, once refused at the size
  have fm : fz_mo_open (zz_i M 7 (Int32.ofNat (P + 4))) 0 16 20 50 = some (0, zz_i (zz_i M 7 (Int32.ofNat (P + 4))) 8 1) → ∃ M', fz_mo_readFormat (zz_i M 7 (Int32.ofNat (P + 4))) = some (zz_i M' 8 1) ∧ zr_q (zz_i M 7 (Int32.ofNat (P + 4))) M' := by
    intro ho
    obtain ⟨M', f1, f2⟩ := zF_37 2 (zz_i M 7 (Int32.ofNat (P + 4)))
    refine ⟨M', ?_, f2⟩
    unfold fz_mo_readFormat
    rw [ho]
    simp only [zbs]
    rw [if_pos (show ¬ (0 : Int32) = 16 by decide), if_pos (show ¬ (0 : Int32) = 20 by decide)]
    exact f1
  by_cases c8 : P + 4 + 4 ≤ N
  · rw [if_pos c8] at hh hu
    have hlt := zr_lt hv (n := 4) (by omega) c8 (zfl 0)
    obtain ⟨v, hvv⟩ : ∃ v, v = zn (zb s) (P + 4) 4 (zfl 0) := ⟨_, rfl⟩
    rw [← hvv] at hlt hu
    -- the class up to the tag
    have C : ∀ T Z, fz_fm_tagOfSize (Int64.ofNat v) = some T → fz_fm_setTag_13 (zz_i S 14 (Int32.ofNat (P + 4))) T = some Z → fz_rd_takeFmt S = if Z.1 22 = 0 then some (0, Z) else (fz_rd_takeSize Z (Int64.ofNat v)).bind fun q6 => if ¬ q6.1 = 0 then zr_c3 q6.2 else some (0, q6.2) := by
      intro T Z hT hZ
      unfold fz_rd_takeFmt
      rw [hi]
      simp only [zbs]
      rw [if_neg z1, t14, hh]
      simp only [zbs]
      rw [if_pos z1, t15, hu]
      simp only [zbs]
      rw [hT]
      simp only [zbs]
      rw [hZ]
      simp only [zbs]
      rfl
    have good : ∀ (T : Int32) (hd : Nat), (T = 1 ∧ hd = 0 ∨ T = 17 ∧ hd = 4 ∨ T = 2 ∧ hd = 7) → 16 ≤ v → (Int64.ofNat v = 16 ∨ Int64.ofNat v = 20 ∨ Int64.ofNat v = 50) → fz_fm_tagOfSize (Int64.ofNat v) = some T → fz_fm_setTag_13 (zz_i S 14 (Int32.ofNat (P + 4))) T = some (zz_i (zz_i (zz_i S 14 (Int32.ofNat (P + 4))) 22 T) 23 (Int32.ofNat hd)) → (∀ Z, fz_mo_open (zz_i M 7 (Int32.ofNat (P + 4))) 0 16 20 50 = some (Int32.ofNat v, Z) → fz_mo_readFormat (zz_i M 7 (Int32.ofNat (P + 4))) = fz_mo_readFormat_37 T Z) → zr_E s m N 0 (fun S' M' P' => P + 8 ≤ P' ∧ zr_fm S' M' ∧ zr_fs S S' M M') (fz_rd_takeFmt S) (fz_mo_readFormat (zz_i M 7 (Int32.ofNat (P + 4)))) := by
      intro T hd hTd hv16 hvs hT hZ hR
      rw [C T _ hT hZ]
      have e22 : (zz_i (zz_i (zz_i S 14 (Int32.ofNat (P + 4))) 22 T) 23 (Int32.ofNat hd)).1 22 = T := rfl
      have hT0 : ¬ (zz_i (zz_i (zz_i S 14 (Int32.ofNat (P + 4))) 22 T) 23 (Int32.ofNat hd)).1 22 = 0 := by
        rw [e22]
        rcases hTd with ⟨rfl, -⟩ | ⟨rfl, -⟩ | ⟨rfl, -⟩ <;> decide
      rw [if_neg hT0]
      have h2 := zr_si (zr_si h1 (i := 22) (by omega) T) (i := 23) (by omega) (Int32.ofNat hd)
      rcases zr_sz hv h2 (x := v) (by omega) with ⟨-, -, a3, a4⟩ | ⟨a1, a4⟩
      · rcases zr_op hv h1 16 20 50 with ⟨w, b1, -, -, -, -, b6⟩ | ⟨b1, -⟩
        · rw [← hvv] at b1
          subst b1
          rw [hR _ b6, a4]
          simp only [zbs]
          rw [if_pos z1]
          have h3 := zr_up h2 (Q := P + 4 + 4) (by omega)
          rw [zz_ii] at h3 ⊢
          rcases zr_fmtT hv h3 (by omega) hTd rfl rfl with ⟨S', M', P', k1, k2, k3, k4, k5, k6⟩ | hF
          · left
            exact ⟨S', M', P', k1, k2, k3, by omega, k5, k6⟩
          · exact Or.inr hF
        · exact absurd ⟨c8, by rw [← hvv]; exact hvs, by rw [← hvv]; exact a3⟩ b1
      · right
        rcases zr_op hv h1 16 20 50 with ⟨w, b1, -, -, -, b5, -⟩ | ⟨-, b6⟩
        · rw [← hvv] at b1
          subst b1
          exact absurd ⟨c8, hvv, b5⟩ a1
        · obtain ⟨M', f1, f2⟩ := fm b6
          refine ⟨_, _, ?_, f1, zr_fz hv h2 f2⟩
          rw [a4]
          simp only [zbs]
          rw [if_neg (not_not_intro trivial)]
    rcases zr_tag0 hlt with ⟨e, ht⟩ | ⟨e, ht⟩ | ⟨e, ht⟩ | ⟨n1, n2, n3, ht⟩
    · refine good 1 0 (Or.inl ⟨rfl, rfl⟩) (by omega) (Or.inl (by rw [e]; rfl)) ht ?_ ?_
      · unfold fz_fm_setTag_13
        rw [if_pos (show ¬ (1 : Int32) = 17 by decide), if_pos (show ¬ (1 : Int32) = 2 by decide)]
        rfl
      · intro Z hZ
        unfold fz_mo_readFormat
        rw [hZ, e]
        simp only [zbs]
        rw [if_neg (show ¬ ¬ Int32.ofNat 16 = 16 by decide)]
    · refine good 17 4 (Or.inr (Or.inl ⟨rfl, rfl⟩)) (by omega) (Or.inr (Or.inl (by rw [e]; rfl))) ht ?_ ?_
      · unfold fz_fm_setTag_13
        rw [if_neg (show ¬ ¬ (17 : Int32) = 17 by decide)]
        rfl
      · intro Z hZ
        unfold fz_mo_readFormat
        rw [hZ, e]
        simp only [zbs]
        rw [if_pos (show ¬ Int32.ofNat 20 = 16 by decide), if_neg (show ¬ ¬ Int32.ofNat 20 = 20 by decide)]
    · refine good 2 7 (Or.inr (Or.inr ⟨rfl, rfl⟩)) (by omega) (Or.inr (Or.inr (by rw [e]; rfl))) ht ?_ ?_
      · unfold fz_fm_setTag_13
        rw [if_pos (show ¬ (2 : Int32) = 17 by decide), if_neg (show ¬ ¬ (2 : Int32) = 2 by decide)]
        rfl
      · intro Z hZ
        unfold fz_mo_readFormat
        rw [hZ, e]
        simp only [zbs]
        rw [if_pos (show ¬ Int32.ofNat 50 = 16 by decide), if_pos (show ¬ Int32.ofNat 50 = 20 by decide)]
    · right
      have hZ : fz_fm_setTag_13 (zz_i S 14 (Int32.ofNat (P + 4))) 0 = some (zz_i (zz_i (zz_i S 14 (Int32.ofNat (P + 4))) 22 0) 23 0) := by
        unfold fz_fm_setTag_13
        rw [if_pos (show ¬ (0 : Int32) = 17 by decide), if_pos (show ¬ (0 : Int32) = 2 by decide)]
      rcases zr_op hv h1 16 20 50 with ⟨w, b1, b2, -, b4, -, -⟩ | ⟨-, b6⟩
      · rw [← hvv] at b1
        subst b1
        exfalso
        rcases b4 with b4 | b4 | b4
        · exact n1 ((nm_jinj (b := 16) (by omega) (by omega)).mp b4)
        · exact n2 ((nm_jinj (b := 20) (by omega) (by omega)).mp b4)
        · exact n3 ((nm_jinj (b := 50) (by omega) (by omega)).mp b4)
      · obtain ⟨M', f1, f2⟩ := fm b6
        have h2 := zr_si (zr_si h1 (i := 22) (by omega) 0) (i := 23) (by omega) 0
        refine ⟨_, _, ?_, f1, zr_fz hv h2 f2⟩
        rw [C 0 _ ht hZ, if_pos (show (zz_i (zz_i (zz_i S 14 (Int32.ofNat (P + 4))) 22 0) 23 0).1 22 = 0 from rfl)]
  · right
    rw [if_neg c8] at hh
    rcases zr_op hv h1 16 20 50 with ⟨w, -, -, b3, -⟩ | ⟨-, b6⟩
    · exact absurd b3 c8
    · obtain ⟨M', f1, f2⟩ := fm b6
      refine ⟨_, _, ?_, f1, zr_fz hv h1 f2⟩
      unfold fz_rd_takeFmt
      rw [hi]
      simp only [zbs]
      rw [if_neg z1, t14, hh]
      simp only [zbs]
      rw [if_neg (not_not_intro trivial)]
/-- "fact" -/
theorem zr_fact {s m S M : am_Z} {N P : Nat} (hv : zv_f s m N) (h : zr s m N 0 S M P) (h4 : P + 4 ≤ N) (hid : Int32.ofNat (zn (zb s) P 4 true) = 1717658484) : zr_E s m N 0 (fun S' M' P' => P + 8 ≤ P' ∧ ∃ c : Nat, c ≤ 64 ∧ S' = zz_i (zz_i S' 18 (Int32.ofNat c)) 16 1 ∧ M'.1 10 = Int32.ofNat c ∧ M'.1 16 = 1 ∧ (∀ i, i ≠ 14 → i ≠ 16 → i ≠ 18 → S'.1 i = S.1 i) ∧ S'.2.2 = S.2.2 ∧ (∀ i, i ≠ 7 → i ≠ 10 → i ≠ 16 → M'.1 i = M.1 i)) (fz_rd_takeFact S) (fz_mo_readCount (zz_i M 7 (Int32.ofNat (P + 4)))) := by
  have z1 : ¬ (1 : Int32) = 0 := by decide
  have h1 := zr_up h h4
  have hi := zr_tid hv h h4 hid
  rcases zr_sz hv h1 (x := 4) (by omega) with ⟨c8, e4, a3, a4⟩ | ⟨a1, a4⟩
  · have a4' : fz_rd_takeSize (zz_i S 14 (Int32.ofNat (P + 4))) 4 = some (1, zz_i (zz_i S 14 (Int32.ofNat (P + 4))) 14 (Int32.ofNat (P + 4 + 4))) := a4
    rw [zz_ii] at a4'
    rcases zr_op hv h1 4 4 4 with ⟨w, b1, -, -, -, -, b6⟩ | ⟨b1, -⟩
    · rw [← e4] at b1
      subst b1
      rw [zz_ii] at b6
      have h2 := zr_up h (Q := P + 4 + 4) (by omega)
      have D : fz_mo_readCount (zz_i M 7 (Int32.ofNat (P + 4))) = ((fz_mo_ask (zz_i M 7 (Int32.ofNat (P + 4 + 4))) 4 0 0 64).bind fun q2 => fz_mo_readCount_36 (Int64.toInt32 q2.1) q2.2) := by
        unfold fz_mo_readCount
        rw [b6]
        simp only [zbs]
        rw [if_neg (show ¬ ¬ Int32.ofNat 4 = 4 by decide)]
      have C : ∀ A, ((fz_rd_takeWithin (zz_i S 14 (Int32.ofNat (P + 4 + 4))) (4 : Int32) (0 : Int64) (64 : Int64)).bind fun q3 => if ¬ q3.1 = 0 then some ((1 : Int32), (zz_i (zz_i q3.2 18 (Int64.toInt32 (q3.2.2.1 0))) 16 (1 : Int32))) else some ((0 : Int32), q3.2)) = A → fz_rd_takeFact S = A := by
        intro A hA
        unfold fz_rd_takeFact
        rw [hi]
        simp only [zbs]
        rw [if_neg z1, a4']
        simp only [zbs]
        rw [if_neg z1]
        exact hA
      rw [D]
      rcases zr_within hv h2 (n := 4) (by omega) 0 64 with ⟨v, -, hv2, c1, c2, c3, d4, d5, d6⟩ | ⟨L, d4, d5⟩ | ⟨d4, d5⟩
      · have d4' : fz_rd_takeWithin (zz_i S 14 (Int32.ofNat (P + 4 + 4))) 4 0 64 = some (1, zz_i (zz_l (zz_i S 14 (Int32.ofNat (P + 4 + 4))) 0 (Int64.ofNat v)) 14 (Int32.ofNat (P + 4 + 4 + 4))) := d4
        have d5' : fz_mo_ask (zz_i M 7 (Int32.ofNat (P + 4 + 4))) 4 0 0 64 = some (Int64.ofNat v, zz_i (zz_i M 7 (Int32.ofNat (P + 4 + 4))) 7 (Int32.ofNat (P + 4 + 4 + 4))) := d5
        have hv64 : v ≤ 64 := by
          rw [Int64.le_iff_toInt_le, nm_jtoInt (by omega)] at c3
          have : (64 : Int64).toInt = 64 := by decide
          omega
        left
        refine ⟨zz_i (zz_i (zz_i (zz_l (zz_i S 14 (Int32.ofNat (P + 4 + 4))) 0 (Int64.ofNat v)) 14 (Int32.ofNat (P + 4 + 4 + 4))) 18 (Int32.ofNat v)) 16 1, zz_i (zz_i (zz_i (zz_i M 7 (Int32.ofNat (P + 4 + 4))) 7 (Int32.ofNat (P + 4 + 4 + 4))) 10 (Int32.ofNat v)) 16 1, P + 4 + 4 + 4, C _ ?_, ?_, ?_, by omega, v, hv64, ?_, rfl, rfl, ?_, rfl, ?_⟩
        · rw [d4']
          simp only [zbs]
          rw [if_pos z1, show (zz_i (zz_l (zz_i S 14 (Int32.ofNat (P + 4 + 4))) 0 (Int64.ofNat v)) 14 (Int32.ofNat (P + 4 + 4 + 4))).2.1 0 = Int64.ofNat v from rfl, nm_l2i]
        · rw [d5']
          simp only [zbs]
          unfold fz_mo_readCount_36
          rw [nm_l2i]
        · exact zr_si (zr_si d6 (i := 18) (by omega) _) (i := 16) (by omega) _
        · rw [zz_comm _ (i := 16) (j := 18) (by decide), zz_ii, zz_ii]
        · intro i i1 i2 i3
          show zz_u (zz_u (zz_u (zz_u S.1 14 _) 14 _) 18 _) 16 _ i = _
          rw [zz_u_n _ _ i2, zz_u_n _ _ i3, zz_u_n _ _ i1, zz_u_n _ _ i1]
        · intro i i1 i2 i3
          show zz_u (zz_u (zz_u (zz_u M.1 7 _) 7 _) 10 _) 16 _ i = _
          rw [zz_u_n _ _ i3, zz_u_n _ _ i2, zz_u_n _ _ i1, zz_u_n _ _ i1]
      · right
        have d4' : fz_rd_takeWithin (zz_i S 14 (Int32.ofNat (P + 4 + 4))) 4 0 64 = some (0, zz_l (zz_i S 14 (Int32.ofNat (P + 4 + 4))) 0 L) := d4
        have d5' : fz_mo_ask (zz_i M 7 (Int32.ofNat (P + 4 + 4))) 4 0 0 64 = some (0, zz_i (zz_i M 7 (Int32.ofNat (P + 4 + 4))) 8 1) := d5
        refine ⟨zz_l (zz_i S 14 (Int32.ofNat (P + 4 + 4))) 0 L, zz_i (zz_i (zz_i (zz_i M 7 (Int32.ofNat (P + 4 + 4))) 10 (Int64.toInt32 0)) 16 1) 8 1, C _ ?_, ?_, zr_fz hv (S := zz_l (zz_i S 14 (Int32.ofNat (P + 4 + 4))) 0 L) h2 ⟨rfl, fun m h => h⟩⟩
        · rw [d4']
          simp only [zbs]
          rw [if_neg (not_not_intro trivial)]
        · rw [d5']
          simp only [zbs]
          unfold fz_mo_readCount_36
          rw [zF_c _ (by decide), zF_c _ (by decide)]
      · right
        have d4' : fz_rd_takeWithin (zz_i S 14 (Int32.ofNat (P + 4 + 4))) 4 0 64 = some (0, zz_i S 14 (Int32.ofNat (P + 4 + 4))) := d4
        have d5' : fz_mo_ask (zz_i M 7 (Int32.ofNat (P + 4 + 4))) 4 0 0 64 = some (0, zz_i (zz_i M 7 (Int32.ofNat (P + 4 + 4))) 8 1) := d5
        refine ⟨_, zz_i (zz_i (zz_i (zz_i M 7 (Int32.ofNat (P + 4 + 4))) 10 (Int64.toInt32 0)) 16 1) 8 1, C _ ?_, ?_, zr_fz hv h2 ⟨rfl, fun m h => h⟩⟩
        · rw [d4']
          simp only [zbs]
          rw [if_neg (not_not_intro trivial)]
        · rw [d5']
          simp only [zbs]
          unfold fz_mo_readCount_36
          rw [zF_c _ (by decide), zF_c _ (by decide)]
    · exact absurd ⟨c8, Or.inl (by rw [← e4]; rfl), by rw [← e4]; exact a3⟩ b1
  · right
    have a4' : fz_rd_takeSize (zz_i S 14 (Int32.ofNat (P + 4))) 4 = some (0, zz_i S 14 (Int32.ofNat (P + 4))) := a4
    rcases zr_op hv h1 4 4 4 with ⟨w, b1, b2, b3, b4, b5, -⟩ | ⟨-, b6⟩
    · exfalso
      have e : w = 4 := by
        rcases b4 with b4 | b4 | b4 <;> exact (nm_jinj (b := 4) (by omega) (by omega)).mp b4
      subst e
      exact a1 ⟨b3, b1, b5⟩
    · refine ⟨_, zz_i (zz_i (zz_i (zz_i M 7 (Int32.ofNat (P + 4))) 10 0) 16 1) 8 1, ?_, ?_, zr_fz hv h1 ⟨rfl, fun m h => h⟩⟩
      · unfold fz_rd_takeFact
        rw [hi]
        simp only [zbs]
        rw [if_neg z1, a4']
        simp only [zbs]
        rw [if_pos trivial]
      · unfold fz_mo_readCount fz_mo_readCount_36
        rw [b6]
        simp only [zbs]
        rw [if_pos (show ¬ (0 : Int32) = 4 by decide), zF_c _ (by decide), zF_c _ (by decide)]
