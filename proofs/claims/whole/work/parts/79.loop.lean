/-! The law's loop (printed by wip/gen/genL.py), given what write and read do. -/
theorem nm_and15 (x : Int32) : ∃ b : Nat, b < 16 ∧ x &&& (15 : Int32) = Int32.ofNat b := by
  refine ⟨(x &&& (15 : Int32)).toBitVec.toNat, ?_, ?_⟩
  · rw [Int32.toBitVec_and, BitVec.toNat_and]
    have h : (15 : Int32).toBitVec.toNat = 15 := rfl
    rw [h]
    exact Nat.lt_of_le_of_lt Nat.and_le_right (by decide)
  · apply Int32.toBitVec_inj.mp
    rw [Int32.toBitVec_ofNat', BitVec.ofNat_toNat, BitVec.setWidth_eq]
theorem zt_len {t t' : am_H} (h : zt t t') (hs : am_sz t = 6 * t.length) : t'.length ≤ t.length + 1 ∧ am_sz t' = 6 * t'.length := by
  rcases h with rfl | ⟨c, h1, h2, rfl⟩
  · exact ⟨by omega, hs⟩
  · have e9 : am_cz (.inl (c, [])) = 6 := by
      rcases (show c = 9 ∨ c = 10 ∨ c = 11 ∨ c = 12 by omega) with rfl | rfl | rfl | rfl <;> rfl
    rw [am_sz_app, e9, List.length_append, List.length_singleton]
    exact ⟨Nat.le_refl _, by omega⟩
def zl_ok (r : Int32 × am_Z × am_Z × (Nat → Int64) × am_H) : Prop := r.1 = 1 ∧ r.2.2.2.2.length ≤ 512 ∧ am_sz r.2.2.2.2 ≤ 3072
def zl_W : Prop := ∀ (sc : am_S) (s m : am_Z) (o : Nat → Int64) (t : am_H) (x y : Int32), zv s m → zq s m o t (fz_la_write sc s m o t x y) (fz_mo_write m x y)
def zl_R : Prop := ∀ (s m : am_Z), zv s m → ∃ (a : Int32) (s' m' : am_Z), fz_sh_read s = some (a, s') ∧ fz_mo_read m = some (a, m') ∧ zv s' m'
set_option maxRecDepth 20000 in
set_option maxHeartbeats 8000000 in
theorem zl_loop (HW : zl_W) (HR : zl_R) (sc : am_S) (hsc : sc.1 ≤ 2048) : ∀ (d i f : Nat) (s m : am_Z) (o : Nat → Int64) (t : am_H), sc.1 < i + 4 + 4 * d → i ≤ 3000 → d < f → zv s m → t.length + d ≤ 512 → am_sz t = 6 * t.length → ∃ r, fz_la_law_23 sc f (Int32.ofNat i) s m o t = some r ∧ zl_ok r := by
  have hend : ∀ i : Nat, i ≤ 3000 → ((Int32.ofNat sc.1 - (4 : Int32)) < Int32.ofNat i ↔ sc.1 < i + 4) := by
    intro i hi
    rw [Int32.lt_iff_toInt_lt, show (4 : Int32) = Int32.ofNat 4 from rfl, zh_sub (by omega) (by omega), nm_toInt (by omega)]
    omega
  intro d
  induction d with
  | zero =>
    intro i f s m o t hd hi hf hz ht hs
    obtain ⟨f, rfl⟩ : ∃ g, f = g + 1 := ⟨f - 1, by omega⟩
    unfold fz_la_law_23
    rw [if_pos ((hend i hi).mpr (by omega))]
    exact ⟨_, rfl, rfl, by show t.length ≤ 512; omega, by show am_sz t ≤ 3072; omega⟩
  | succ d ih =>
    intro i f s m o t hd hi hf hz ht hs
    obtain ⟨f, rfl⟩ : ∃ g, f = g + 1 := ⟨f - 1, by omega⟩
    by_cases hfin : sc.1 < i + 4
    · unfold fz_la_law_23
      rw [if_pos ((hend i hi).mpr hfin)]
      exact ⟨_, rfl, rfl, by show t.length ≤ 512; omega, by show am_sz t ≤ 3072; omega⟩
    · have rr : ∀ (c : Nat) (x : Int32), c < 4 → x = Int32.ofNat (i + c) → ¬ (x < 0 ∨ sc.1 ≤ Int32.toNatClampNeg x) := by
        intro c x hc hx
        rw [hx, nm_clamp (by omega)]
        exact fun h => h.elim (nm_nneg (by omega)) (by omega)
      have r0 := rr 0 (Int32.ofNat i) (by omega) rfl
      have r1 := rr 1 (Int32.ofNat i + (1 : Int32)) (by omega) (nm_add i 1)
      have r2 := rr 2 (Int32.ofNat i + (2 : Int32)) (by omega) (nm_add i 2)
      have r3 := rr 3 (Int32.ofNat i + (3 : Int32)) (by omega) (nm_add i 3)
      have next : ∀ (s' m' : am_Z) (o' : Nat → Int64) (t' : am_H), zv s' m' → zt t t' → ∃ r, fz_la_law_23 sc f (Int32.ofNat i + (4 : Int32)) s' m' o' t' = some r ∧ zl_ok r := by
        intro s' m' o' t' hz' htt
        obtain ⟨l1, l2⟩ := zt_len htt hs
        rw [show Int32.ofNat i + (4 : Int32) = Int32.ofNat (i + 4) from nm_add i 4]
        exact ih (i + 4) f s' m' o' t' (by omega) (by omega) (by omega) hz' (by omega) l2
      obtain ⟨k, hk, hop⟩ := nm_and15 (sc.2 (Int32.toNatClampNeg (Int32.ofNat i)))
      unfold fz_la_law_23
      rw [if_neg (fun hh => hfin ((hend i hi).mp hh)), if_neg r0]
      simp only [hop]
      clear hop
      rcases (show k = 0 ∨ k = 1 ∨ k = 2 ∨ k = 3 ∨ k = 4 ∨ k = 5 ∨ k = 6 ∨ k = 7 ∨ k = 8 ∨ k = 9 ∨ k = 10 ∨ k = 11 ∨ k = 12 ∨ k = 13 ∨ k = 14 ∨ k = 15 by omega) with rfl | rfl | rfl | rfl | rfl | rfl | rfl | rfl | rfl | rfl | rfl | rfl | rfl | rfl | rfl | rfl
      · rw [if_neg (show ¬ (Int32.toInt (Int32.ofNat 0) < 0 ∨ 15 < Int32.toInt (Int32.ofNat 0)) by decide), if_pos (show Int32.ofNat 0 = 0 by decide)]
        obtain ⟨k9, s9, o9, t9, b9, m9, e1, e2, e3, e4, e5, e6⟩ := zc_add sc hz o t (sc.2 (Int32.toNatClampNeg (Int32.ofNat i + (1 : Int32))))
        rw [if_neg r1, e1]
        simp only [Option.bind_some]
        rw [if_neg r1, e2]
        simp only [Option.bind_some, fz_mo_thrown]
        rw [if_pos e3]
        by_cases k0 : k9 = 0
        · rw [if_neg (not_not_intro k0), if_pos (show lg_cmp (o9 (Int32.toNatClampNeg (0 : Int32))) b9.toInt64 = 0 from (nm_cmp0 _ _).mpr ((congrArg o9 (show Int32.toNatClampNeg (0 : Int32) = 0 by decide)).trans (e4 k0)))]
          exact next s9 m9 o9 t9 e5 e6
        · rw [if_pos k0]
          exact next s9 m9 o9 t9 e5 e6
      · rw [if_neg (show ¬ (Int32.toInt (Int32.ofNat 1) < 0 ∨ 15 < Int32.toInt (Int32.ofNat 1)) by decide), if_neg (show ¬ Int32.ofNat 1 = 0 by decide), if_pos (show Int32.ofNat 1 = 1 by decide)]
        obtain ⟨a9, s9, m9, e1, e2, e5⟩ := zc_clear hz
        rw [e1]
        simp only [Option.bind_some]
        rw [e2]
        simp only [Option.bind_some]
        rw [if_pos trivial]
        exact next s9 m9 o t e5 (Or.inl rfl)
      · rw [if_neg (show ¬ (Int32.toInt (Int32.ofNat 2) < 0 ∨ 15 < Int32.toInt (Int32.ofNat 2)) by decide), if_neg (show ¬ Int32.ofNat 2 = 0 by decide), if_neg (show ¬ Int32.ofNat 2 = 1 by decide), if_pos (show Int32.ofNat 2 = 2 by decide)]
        obtain ⟨⟨n9, hn9, h1, h2, -⟩, ⟨hrr, -, -⟩, ⟨N9, hN9, f1, f2, -⟩, -⟩ := id hz
        simp only [fz_sh_samples, fz_mo_samples, Option.bind_some]
        rw [if_pos (h1.trans h2.symm)]
        exact next s _ o t (zv_code hz 0) (Or.inl rfl)
      · rw [if_neg (show ¬ (Int32.toInt (Int32.ofNat 3) < 0 ∨ 15 < Int32.toInt (Int32.ofNat 3)) by decide), if_neg (show ¬ Int32.ofNat 3 = 0 by decide), if_neg (show ¬ Int32.ofNat 3 = 1 by decide), if_neg (show ¬ Int32.ofNat 3 = 2 by decide), if_pos (show Int32.ofNat 3 = 3 by decide)]
        obtain ⟨k9, s9, o9, t9, b9, m9, e1, e2, e3, e4, e5, e6⟩ := zc_at sc hz o t (sc.2 (Int32.toNatClampNeg (Int32.ofNat i + (1 : Int32))))
        rw [if_neg r1, e1]
        simp only [Option.bind_some]
        rw [if_neg r1, e2]
        simp only [Option.bind_some, fz_mo_thrown]
        rw [if_pos e3]
        by_cases k0 : k9 = 0
        · rw [if_neg (not_not_intro k0), if_pos (show lg_cmp (o9 (Int32.toNatClampNeg (0 : Int32))) b9.toInt64 = 0 from (nm_cmp0 _ _).mpr ((congrArg o9 (show Int32.toNatClampNeg (0 : Int32) = 0 by decide)).trans (e4 k0)))]
          exact next s9 m9 o9 t9 e5 e6
        · rw [if_pos k0]
          exact next s9 m9 o9 t9 e5 e6
      · rw [if_neg (show ¬ (Int32.toInt (Int32.ofNat 4) < 0 ∨ 15 < Int32.toInt (Int32.ofNat 4)) by decide), if_neg (show ¬ Int32.ofNat 4 = 0 by decide), if_neg (show ¬ Int32.ofNat 4 = 1 by decide), if_neg (show ¬ Int32.ofNat 4 = 2 by decide), if_neg (show ¬ Int32.ofNat 4 = 3 by decide), if_pos (show Int32.ofNat 4 = 4 by decide)]
        obtain ⟨k9, s9, o9, t9, b9, m9, e1, e2, e3, e4, e5, e6⟩ := zc_tune sc hz o t (sc.2 (Int32.toNatClampNeg (Int32.ofNat i + (1 : Int32))))
        rw [if_neg r1, e1]
        simp only [Option.bind_some]
        rw [if_neg r1, e2]
        simp only [Option.bind_some, fz_mo_thrown]
        rw [if_pos e3]
        by_cases k0 : k9 = 0
        · rw [if_neg (not_not_intro k0), if_pos (show lg_cmp (o9 (Int32.toNatClampNeg (0 : Int32))) b9.toInt64 = 0 from (nm_cmp0 _ _).mpr ((congrArg o9 (show Int32.toNatClampNeg (0 : Int32) = 0 by decide)).trans (e4 k0)))]
          exact next s9 m9 o9 t9 e5 e6
        · rw [if_pos k0]
          exact next s9 m9 o9 t9 e5 e6
      · rw [if_neg (show ¬ (Int32.toInt (Int32.ofNat 5) < 0 ∨ 15 < Int32.toInt (Int32.ofNat 5)) by decide), if_neg (show ¬ Int32.ofNat 5 = 0 by decide), if_neg (show ¬ Int32.ofNat 5 = 1 by decide), if_neg (show ¬ Int32.ofNat 5 = 2 by decide), if_neg (show ¬ Int32.ofNat 5 = 3 by decide), if_neg (show ¬ Int32.ofNat 5 = 4 by decide), if_pos (show Int32.ofNat 5 = 5 by decide)]
        obtain ⟨⟨n9, hn9, h1, h2, -⟩, ⟨hrr, -, -⟩, ⟨N9, hN9, f1, f2, -⟩, -⟩ := id hz
        simp only [fz_sh_rate, fz_mo_rate, Option.bind_some]
        rw [if_pos (hrr)]
        exact next s _ o t (zv_code hz 0) (Or.inl rfl)
      · rw [if_neg (show ¬ (Int32.toInt (Int32.ofNat 6) < 0 ∨ 15 < Int32.toInt (Int32.ofNat 6)) by decide), if_neg (show ¬ Int32.ofNat 6 = 0 by decide), if_neg (show ¬ Int32.ofNat 6 = 1 by decide), if_neg (show ¬ Int32.ofNat 6 = 2 by decide), if_neg (show ¬ Int32.ofNat 6 = 3 by decide), if_neg (show ¬ Int32.ofNat 6 = 4 by decide), if_neg (show ¬ Int32.ofNat 6 = 5 by decide), if_pos (show Int32.ofNat 6 = 6 by decide)]
        obtain ⟨k9, s9, o9, t9, b9, m9, e1, e2, e3, e4, e5, e6⟩ := HW sc s m o t (sc.2 (Int32.toNatClampNeg (Int32.ofNat i + (1 : Int32)))) (sc.2 (Int32.toNatClampNeg (Int32.ofNat i + (2 : Int32)))) hz
        rw [if_neg r1, if_neg r2, e1]
        simp only [Option.bind_some]
        rw [if_neg r1, if_neg r2, e2]
        simp only [Option.bind_some, fz_mo_thrown]
        rw [if_pos e3]
        by_cases k0 : k9 = 0
        · rw [if_neg (not_not_intro k0), if_pos (show lg_cmp (o9 (Int32.toNatClampNeg (0 : Int32))) b9.toInt64 = 0 from (nm_cmp0 _ _).mpr ((congrArg o9 (show Int32.toNatClampNeg (0 : Int32) = 0 by decide)).trans (e4 k0)))]
          exact next s9 m9 o9 t9 e5 e6
        · rw [if_pos k0]
          exact next s9 m9 o9 t9 e5 e6
      · rw [if_neg (show ¬ (Int32.toInt (Int32.ofNat 7) < 0 ∨ 15 < Int32.toInt (Int32.ofNat 7)) by decide), if_neg (show ¬ Int32.ofNat 7 = 0 by decide), if_neg (show ¬ Int32.ofNat 7 = 1 by decide), if_neg (show ¬ Int32.ofNat 7 = 2 by decide), if_neg (show ¬ Int32.ofNat 7 = 3 by decide), if_neg (show ¬ Int32.ofNat 7 = 4 by decide), if_neg (show ¬ Int32.ofNat 7 = 5 by decide), if_neg (show ¬ Int32.ofNat 7 = 6 by decide), if_pos (show Int32.ofNat 7 = 7 by decide)]
        obtain ⟨a9, s9, m9, e1, e2, e5⟩ := HR s m hz
        rw [e1]
        simp only [Option.bind_some]
        rw [e2]
        simp only [Option.bind_some]
        rw [if_pos trivial]
        exact next s9 m9 o t e5 (Or.inl rfl)
      · rw [if_neg (show ¬ (Int32.toInt (Int32.ofNat 8) < 0 ∨ 15 < Int32.toInt (Int32.ofNat 8)) by decide), if_neg (show ¬ Int32.ofNat 8 = 0 by decide), if_neg (show ¬ Int32.ofNat 8 = 1 by decide), if_neg (show ¬ Int32.ofNat 8 = 2 by decide), if_neg (show ¬ Int32.ofNat 8 = 3 by decide), if_neg (show ¬ Int32.ofNat 8 = 4 by decide), if_neg (show ¬ Int32.ofNat 8 = 5 by decide), if_neg (show ¬ Int32.ofNat 8 = 6 by decide), if_neg (show ¬ Int32.ofNat 8 = 7 by decide), if_pos (show Int32.ofNat 8 = 8 by decide)]
        obtain ⟨k9, s9, o9, t9, b9, m9, e1, e2, e3, e4, e5, e6⟩ := zc_form sc hz o t
        rw [e1]
        simp only [Option.bind_some]
        rw [e2]
        simp only [Option.bind_some, fz_mo_thrown]
        rw [if_pos e3]
        by_cases k0 : k9 = 0
        · rw [if_neg (not_not_intro k0), if_pos (show lg_cmp (o9 (Int32.toNatClampNeg (0 : Int32))) b9.toInt64 = 0 from (nm_cmp0 _ _).mpr ((congrArg o9 (show Int32.toNatClampNeg (0 : Int32) = 0 by decide)).trans (e4 k0)))]
          exact next s9 m9 o9 t9 e5 e6
        · rw [if_pos k0]
          exact next s9 m9 o9 t9 e5 e6
      · rw [if_neg (show ¬ (Int32.toInt (Int32.ofNat 9) < 0 ∨ 15 < Int32.toInt (Int32.ofNat 9)) by decide), if_neg (show ¬ Int32.ofNat 9 = 0 by decide), if_neg (show ¬ Int32.ofNat 9 = 1 by decide), if_neg (show ¬ Int32.ofNat 9 = 2 by decide), if_neg (show ¬ Int32.ofNat 9 = 3 by decide), if_neg (show ¬ Int32.ofNat 9 = 4 by decide), if_neg (show ¬ Int32.ofNat 9 = 5 by decide), if_neg (show ¬ Int32.ofNat 9 = 6 by decide), if_neg (show ¬ Int32.ofNat 9 = 7 by decide), if_neg (show ¬ Int32.ofNat 9 = 8 by decide), if_pos (show Int32.ofNat 9 = 9 by decide)]
        obtain ⟨⟨n9, hn9, h1, h2, -⟩, ⟨hrr, -, -⟩, ⟨N9, hN9, f1, f2, -⟩, -⟩ := id hz
        simp only [fz_sh_size, fz_mo_size, Option.bind_some]
        rw [if_pos (f1.trans f2.symm)]
        exact next s _ o t (zv_code hz 0) (Or.inl rfl)
      · rw [if_neg (show ¬ (Int32.toInt (Int32.ofNat 10) < 0 ∨ 15 < Int32.toInt (Int32.ofNat 10)) by decide), if_neg (show ¬ Int32.ofNat 10 = 0 by decide), if_neg (show ¬ Int32.ofNat 10 = 1 by decide), if_neg (show ¬ Int32.ofNat 10 = 2 by decide), if_neg (show ¬ Int32.ofNat 10 = 3 by decide), if_neg (show ¬ Int32.ofNat 10 = 4 by decide), if_neg (show ¬ Int32.ofNat 10 = 5 by decide), if_neg (show ¬ Int32.ofNat 10 = 6 by decide), if_neg (show ¬ Int32.ofNat 10 = 7 by decide), if_neg (show ¬ Int32.ofNat 10 = 8 by decide), if_neg (show ¬ Int32.ofNat 10 = 9 by decide), if_pos (show Int32.ofNat 10 = 10 by decide)]
        obtain ⟨k9, s9, o9, t9, b9, m9, e1, e2, e3, e4, e5, e6⟩ := zc_byteAt sc hz o t (sc.2 (Int32.toNatClampNeg (Int32.ofNat i + (1 : Int32))))
        rw [if_neg r1, e1]
        simp only [Option.bind_some]
        rw [if_neg r1, e2]
        simp only [Option.bind_some, fz_mo_thrown]
        rw [if_pos e3]
        by_cases k0 : k9 = 0
        · rw [if_neg (not_not_intro k0), if_pos (show lg_cmp (o9 (Int32.toNatClampNeg (0 : Int32))) b9.toInt64 = 0 from (nm_cmp0 _ _).mpr ((congrArg o9 (show Int32.toNatClampNeg (0 : Int32) = 0 by decide)).trans (e4 k0)))]
          exact next s9 m9 o9 t9 e5 e6
        · rw [if_pos k0]
          exact next s9 m9 o9 t9 e5 e6
      · rw [if_neg (show ¬ (Int32.toInt (Int32.ofNat 11) < 0 ∨ 15 < Int32.toInt (Int32.ofNat 11)) by decide), if_neg (show ¬ Int32.ofNat 11 = 0 by decide), if_neg (show ¬ Int32.ofNat 11 = 1 by decide), if_neg (show ¬ Int32.ofNat 11 = 2 by decide), if_neg (show ¬ Int32.ofNat 11 = 3 by decide), if_neg (show ¬ Int32.ofNat 11 = 4 by decide), if_neg (show ¬ Int32.ofNat 11 = 5 by decide), if_neg (show ¬ Int32.ofNat 11 = 6 by decide), if_neg (show ¬ Int32.ofNat 11 = 7 by decide), if_neg (show ¬ Int32.ofNat 11 = 8 by decide), if_neg (show ¬ Int32.ofNat 11 = 9 by decide), if_neg (show ¬ Int32.ofNat 11 = 10 by decide), if_pos (show Int32.ofNat 11 = 11 by decide)]
        obtain ⟨k9, s9, t9, m9, e1, e2, e3, e5, e6⟩ := zc_poke sc hz o t (sc.2 (Int32.toNatClampNeg (Int32.ofNat i + (1 : Int32)))) (sc.2 (Int32.toNatClampNeg (Int32.ofNat i + (2 : Int32))))
        rw [if_neg r1, if_neg r2, e1]
        simp only [Option.bind_some]
        rw [if_neg r1, if_neg r2, e2]
        simp only [Option.bind_some, fz_mo_thrown]
        rw [if_pos e3]
        exact next s9 m9 o t9 e5 e6
      · rw [if_neg (show ¬ (Int32.toInt (Int32.ofNat 12) < 0 ∨ 15 < Int32.toInt (Int32.ofNat 12)) by decide), if_neg (show ¬ Int32.ofNat 12 = 0 by decide), if_neg (show ¬ Int32.ofNat 12 = 1 by decide), if_neg (show ¬ Int32.ofNat 12 = 2 by decide), if_neg (show ¬ Int32.ofNat 12 = 3 by decide), if_neg (show ¬ Int32.ofNat 12 = 4 by decide), if_neg (show ¬ Int32.ofNat 12 = 5 by decide), if_neg (show ¬ Int32.ofNat 12 = 6 by decide), if_neg (show ¬ Int32.ofNat 12 = 7 by decide), if_neg (show ¬ Int32.ofNat 12 = 8 by decide), if_neg (show ¬ Int32.ofNat 12 = 9 by decide), if_neg (show ¬ Int32.ofNat 12 = 10 by decide), if_neg (show ¬ Int32.ofNat 12 = 11 by decide), if_pos (show Int32.ofNat 12 = 12 by decide)]
        obtain ⟨k9, s9, o9, t9, b9, m9, e1, e2, e3, e4, e5, e6⟩ := zc_type sc hz o t (((Int32.toInt64 (sc.2 (Int32.toNatClampNeg (Int32.ofNat i + (1 : Int32))))) <<< (Int32.toInt64 (32 : Int32) &&& 63)) ||| ((Int32.toInt64 (sc.2 (Int32.toNatClampNeg (Int32.ofNat i + (2 : Int32))))) &&& (4294967295 : Int64))) (sc.2 (Int32.toNatClampNeg (Int32.ofNat i + (3 : Int32))))
        rw [if_neg r1, if_neg r2, if_neg r3, e1]
        simp only [Option.bind_some]
        rw [if_neg r1, if_neg r2, if_neg r3, e2]
        simp only [Option.bind_some, fz_mo_thrown]
        rw [if_pos e3]
        by_cases k0 : k9 = 0
        · rw [if_neg (not_not_intro k0), if_pos (show lg_cmp (o9 (Int32.toNatClampNeg (0 : Int32))) b9.toInt64 = 0 from (nm_cmp0 _ _).mpr ((congrArg o9 (show Int32.toNatClampNeg (0 : Int32) = 0 by decide)).trans (e4 k0)))]
          exact next s9 m9 o9 t9 e5 e6
        · rw [if_pos k0]
          exact next s9 m9 o9 t9 e5 e6
      · rw [if_neg (show ¬ (Int32.toInt (Int32.ofNat 13) < 0 ∨ 15 < Int32.toInt (Int32.ofNat 13)) by decide), if_neg (show ¬ Int32.ofNat 13 = 0 by decide), if_neg (show ¬ Int32.ofNat 13 = 1 by decide), if_neg (show ¬ Int32.ofNat 13 = 2 by decide), if_neg (show ¬ Int32.ofNat 13 = 3 by decide), if_neg (show ¬ Int32.ofNat 13 = 4 by decide), if_neg (show ¬ Int32.ofNat 13 = 5 by decide), if_neg (show ¬ Int32.ofNat 13 = 6 by decide), if_neg (show ¬ Int32.ofNat 13 = 7 by decide), if_neg (show ¬ Int32.ofNat 13 = 8 by decide), if_neg (show ¬ Int32.ofNat 13 = 9 by decide), if_neg (show ¬ Int32.ofNat 13 = 10 by decide), if_neg (show ¬ Int32.ofNat 13 = 11 by decide), if_neg (show ¬ Int32.ofNat 13 = 12 by decide), if_pos (show Int32.ofNat 13 = 13 by decide)]
        obtain ⟨k9, s9, t9, m9, e1, e2, e3, e5, e6⟩ := zc_cut sc hz o t (sc.2 (Int32.toNatClampNeg (Int32.ofNat i + (1 : Int32))))
        rw [if_neg r1, e1]
        simp only [Option.bind_some]
        rw [if_neg r1, e2]
        simp only [Option.bind_some, fz_mo_thrown]
        rw [if_pos e3]
        exact next s9 m9 o t9 e5 e6
      · rw [if_neg (show ¬ (Int32.toInt (Int32.ofNat 14) < 0 ∨ 15 < Int32.toInt (Int32.ofNat 14)) by decide), if_neg (show ¬ Int32.ofNat 14 = 0 by decide), if_neg (show ¬ Int32.ofNat 14 = 1 by decide), if_neg (show ¬ Int32.ofNat 14 = 2 by decide), if_neg (show ¬ Int32.ofNat 14 = 3 by decide), if_neg (show ¬ Int32.ofNat 14 = 4 by decide), if_neg (show ¬ Int32.ofNat 14 = 5 by decide), if_neg (show ¬ Int32.ofNat 14 = 6 by decide), if_neg (show ¬ Int32.ofNat 14 = 7 by decide), if_neg (show ¬ Int32.ofNat 14 = 8 by decide), if_neg (show ¬ Int32.ofNat 14 = 9 by decide), if_neg (show ¬ Int32.ofNat 14 = 10 by decide), if_neg (show ¬ Int32.ofNat 14 = 11 by decide), if_neg (show ¬ Int32.ofNat 14 = 12 by decide), if_neg (show ¬ Int32.ofNat 14 = 13 by decide), if_pos (show Int32.ofNat 14 = 14 by decide)]
        obtain ⟨a9, m9, e1, e2, e5⟩ := zc_chunks hz
        rw [e1]
        simp only [Option.bind_some]
        rw [e2]
        simp only [Option.bind_some]
        rw [if_pos trivial]
        exact next s m9 o t e5 (Or.inl rfl)
      · rw [if_neg (show ¬ (Int32.toInt (Int32.ofNat 15) < 0 ∨ 15 < Int32.toInt (Int32.ofNat 15)) by decide), if_neg (show ¬ Int32.ofNat 15 = 0 by decide), if_neg (show ¬ Int32.ofNat 15 = 1 by decide), if_neg (show ¬ Int32.ofNat 15 = 2 by decide), if_neg (show ¬ Int32.ofNat 15 = 3 by decide), if_neg (show ¬ Int32.ofNat 15 = 4 by decide), if_neg (show ¬ Int32.ofNat 15 = 5 by decide), if_neg (show ¬ Int32.ofNat 15 = 6 by decide), if_neg (show ¬ Int32.ofNat 15 = 7 by decide), if_neg (show ¬ Int32.ofNat 15 = 8 by decide), if_neg (show ¬ Int32.ofNat 15 = 9 by decide), if_neg (show ¬ Int32.ofNat 15 = 10 by decide), if_neg (show ¬ Int32.ofNat 15 = 11 by decide), if_neg (show ¬ Int32.ofNat 15 = 12 by decide), if_neg (show ¬ Int32.ofNat 15 = 13 by decide), if_neg (show ¬ Int32.ofNat 15 = 14 by decide), if_pos (show Int32.ofNat 15 = 15 by decide)]
        obtain ⟨k9, s9, o9, t9, b9, m9, e1, e2, e3, e4, e5, e6⟩ := zc_chunk sc hz o t (sc.2 (Int32.toNatClampNeg (Int32.ofNat i + (1 : Int32)))) (sc.2 (Int32.toNatClampNeg (Int32.ofNat i + (2 : Int32))))
        rw [if_neg r1, if_neg r2, e1]
        simp only [Option.bind_some]
        rw [if_neg r1, if_neg r2, e2]
        simp only [Option.bind_some, fz_mo_thrown]
        rw [if_pos e3]
        by_cases k0 : k9 = 0
        · rw [if_neg (not_not_intro k0), if_pos (show lg_cmp (o9 (Int32.toNatClampNeg (0 : Int32))) b9.toInt64 = 0 from (nm_cmp0 _ _).mpr ((congrArg o9 (show Int32.toNatClampNeg (0 : Int32) = 0 by decide)).trans (e4 k0)))]
          exact next s9 m9 o9 t9 e5 e6
        · rw [if_pos k0]
          exact next s9 m9 o9 t9 e5 e6
theorem zl_law (HW : zl_W) (HR : zl_R) (sc : am_S) (h : sc.1 ≤ 2048) : ∃ r : Int32 × am_Z × am_Z × (Nat → Int64) × am_H, fz_la_law_23 sc fz_fu (0 : Int32) zz_c0 zz_m0 (fun _ => 0) [] = some r ∧ r.1 = 1 ∧ r.2.2.2.2.length ≤ 512 ∧ am_sz r.2.2.2.2 ≤ 3072 := by
  have hz : zv zz_c0 zz_m0 := ⟨⟨0, by decide, rfl, rfl, fun i hi => absurd hi (Nat.not_lt_zero i)⟩, ⟨rfl, by decide, by decide⟩, ⟨0, by decide, rfl, rfl, fun i hi => absurd hi (Nat.not_lt_zero i)⟩, rfl, by decide⟩
  exact zl_loop HW HR sc h 512 0 fz_fu zz_c0 zz_m0 (fun _ => 0) [] (by omega) (by omega) (by decide) hz (by simp) rfl
