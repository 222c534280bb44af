/-! Reading, as a whole. -/
theorem zr_zv {s m S M : am_Z} (hz : zv s m) (hk : zr_k s S) (hm : zr_km m M) : zv S M := by
  obtain ⟨⟨n, hn, h1, h2, h3⟩, ⟨r1, r2, r3⟩, ⟨N, hN, f1, f2, f3⟩, k1, k2⟩ := hz
  obtain ⟨c1, c2⟩ := hk
  obtain ⟨m0, m1, m3, m4, m6, w0, w1⟩ := hm
  refine ⟨⟨n, hn, (c1 1 (by omega)).trans h1, m1.trans h2, fun i hi => ?_⟩, ⟨?_, ?_, ?_⟩, ⟨N, hN, (c1 3 (by omega)).trans f1, m4.trans f2, fun i hi => ?_⟩, ?_, ?_⟩
  · rw [c2 0 (by omega), w0]; exact h3 i hi
  · rw [c1 2 (by omega), m3]; exact r1
  · rw [c1 2 (by omega)]; exact r2
  · rw [c1 2 (by omega)]; exact r3
  · rw [c2 1 (by omega), w1]; exact f3 i hi
  · rw [c1 0 (by omega), m6]; exact k1
  · rw [c1 0 (by omega)]; exact k2
/-- the reference lays what it found -/
theorem zr_cp {c : Nat} (hc : c ≤ 64) : ∀ (d i f : Nat) (M : am_Z), i + d = c → d < f → M.1 1 = Int32.ofNat c → ∃ M', fz_mo_read_217 f (Int32.ofNat i) M = some (-1, M') ∧ M'.1 = M.1 ∧ (∀ r, r ≠ 0 → M'.2.2 r = M.2.2 r) ∧ ∀ j, j < c → M'.2.2 0 j = if i ≤ j then M.2.2 2 j else M.2.2 0 j := by
  intro d
  induction d with
  | zero =>
    intro i f M hi hf h1
    obtain ⟨f, rfl⟩ : ∃ g, f = g + 1 := ⟨f - 1, by omega⟩
    have e : c = i := by omega
    subst e
    refine ⟨M, ?_, rfl, fun _ _ => rfl, fun j hj => by rw [if_neg (by omega)]⟩
    unfold fz_mo_read_217
    rw [h1, if_pos ((nm_le (by omega) (by omega)).mpr (by omega))]
  | succ d ih =>
    intro i f M hi hf h1
    obtain ⟨f, rfl⟩ : ∃ g, f = g + 1 := ⟨f - 1, by omega⟩
    have hle : ¬ Int32.ofNat c ≤ Int32.ofNat i := fun hh => by
      have := (nm_le (a := c) (b := i) (by omega) (by omega)).mp hh
      omega
    have hr : ¬ (Int32.ofNat i < 0 ∨ 64 ≤ i) := fun h => h.elim (nm_nneg (by omega)) (by omega)
    have e1 : Int32.ofNat i + (1 : Int32) = Int32.ofNat (i + 1) := nm_add i 1
    obtain ⟨M', k1, k2, k3, k4⟩ := ih (i + 1) f (zz_r M 0 (upd (M.2.2 0) i (M.2.2 2 i))) (by omega) (by omega) h1
    refine ⟨M', ?_, k2, fun r hr => ?_, fun j hj => ?_⟩
    · unfold fz_mo_read_217
      rw [h1, if_neg hle, nm_clamp (a := i) (by omega), if_neg hr, if_neg hr, e1]
      exact k1
    · rw [k3 r hr]
      show zz_u M.2.2 0 _ r = _
      exact zz_u_n _ _ hr
    · have e0 : (zz_r M 0 (upd (M.2.2 0) i (M.2.2 2 i))).2.2 0 = upd (M.2.2 0) i (M.2.2 2 i) := by
        show zz_u M.2.2 0 _ 0 = _
        exact zz_u_s _ _ _
      have e2 : (zz_r M 0 (upd (M.2.2 0) i (M.2.2 2 i))).2.2 2 = M.2.2 2 := rfl
      rw [k4 j hj, e0, e2]
      by_cases c1 : i + 1 ≤ j
      · rw [if_pos c1, if_pos (by omega)]
      · rw [if_neg c1]
        by_cases c2 : i ≤ j
        · have ej : j = i := by omega
          subst ej
          rw [if_pos c2, zs_us]
        · rw [if_neg c2, zs_un _ _ (by omega)]
/-- the class takes over what it read, and so does the reference -/
theorem zr_over {s m S M : am_Z} {N c : Nat} {g k : Int32} (hz : zv s m) (h : zr s m N g S M N) (hd : zr_d S M c c) (hr : zr_rr S M) (hf : ∀ Z : am_Z, Z.1 15 = S.1 15 → Z.1 22 = S.1 22 → Z.1 24 = S.1 24 → fz_rd_formOfFile Z = some k) (hk : -1 ≤ k.toInt) : ∃ s' m', ((fz_so_copyFrom_1_11 S).bind fun q2 => (fz_rd_formOfFile q2).bind fun q3 => some ((-1 : Int32), zz_i q2 0 q3)) = some (-1, s') ∧ fz_mo_read_195 k M = some (-1, m') ∧ zv s' m' := by
  obtain ⟨hc, h18, h10, h20, hrow⟩ := hd
  rw [show min c c = c by omega] at h20 hrow
  obtain ⟨r, r1, r2, s21, m11⟩ := hr
  obtain ⟨-, -, ⟨N', hN', f1, f2, f3⟩, -, -⟩ := hz
  obtain ⟨⟨c1, c2⟩, ⟨m0, m1, m3, m4, m6, w0, w1⟩, -, -, -, -, -⟩ := h
  have e0 : Int32.toNatClampNeg (0 : Int32) = 0 := by decide
  have nc : ¬ ((0 : Int32) < 0 ∨ (0 : Int32) < 0 ∨ Int32.ofNat c < 0 ∨ 64 < 0 + c ∨ 64 < 0 + c ∨ 12 = 2) := by
    intro hh
    rcases hh with hh | hh | hh | hh | hh | hh
    · exact absurd hh (by decide)
    · exact absurd hh (by decide)
    · exact nm_nneg (by omega) hh
    · omega
    · omega
    · omega
  have C : fz_so_copyFrom_1_11 S = some (zz_i (zz_i (zz_r S 0 (va_cpy (S.2.2 3) (S.2.2 0) 0 0 c)) 1 (Int32.ofNat c)) 2 (S.1 21)) := by
    unfold fz_so_copyFrom_1_11
    rw [h20, e0, nm_clamp (a := c) (by omega), if_neg nc]
  obtain ⟨M', k1, k2, k3, k4⟩ := zr_cp hc c 0 fz_fu (zz_i (zz_i (zz_i M 6 k) 3 (M.1 11)) 1 (M.1 10)) (by omega) (by show c < 1000; omega) h10
  have k1' : fz_mo_read_195 k M = some (-1, M') := k1
  rw [C]
  simp only [zbs]
  rw [hf (zz_i (zz_i (zz_r S 0 (va_cpy (S.2.2 3) (S.2.2 0) 0 0 c)) 1 (Int32.ofNat c)) 2 (S.1 21)) rfl rfl rfl]
  simp only [zbs]
  refine ⟨_, M', rfl, k1', ⟨c, hc, rfl, ?_, fun i hi => ?_⟩, ⟨?_, ?_, ?_⟩, ⟨N', hN', ?_, ?_, fun i hi => ?_⟩, ?_, ?_⟩
  · rw [k2]
    exact h10
  · have e1 : (zz_i (zz_i (zz_i (zz_r S 0 (va_cpy (S.2.2 3) (S.2.2 0) 0 0 c)) 1 (Int32.ofNat c)) 2 (S.1 21)) 0 k).2.2 0 i = S.2.2 3 i := by
      show va_cpy (S.2.2 3) (S.2.2 0) 0 0 c i = _
      unfold va_cpy
      rw [if_pos (by omega), Nat.zero_add, Nat.sub_zero]
    have e2 : M'.2.2 0 i = M.2.2 2 i := by
      rw [k4 i hi, if_pos (by omega)]
      rfl
    rw [e1, e2]
    exact hrow i hi
  · show S.1 21 = M'.1 3
    rw [k2, s21]
    exact m11.symm
  · show 1 ≤ (S.1 21).toInt
    rw [s21, nm_toInt (by omega)]
    omega
  · show (S.1 21).toInt ≤ 192000
    rw [s21, nm_toInt (by omega)]
    omega
  · show S.1 3 = _
    rw [c1 3 (by omega)]
    exact f1
  · rw [k2]
    show M.1 4 = _
    rw [m4]
    exact f2
  · have e1 : (zz_i (zz_i (zz_i (zz_r S 0 (va_cpy (S.2.2 3) (S.2.2 0) 0 0 c)) 1 (Int32.ofNat c)) 2 (S.1 21)) 0 k).2.2 1 = s.2.2 1 := c2 1 (by omega)
    have e2 : M'.2.2 1 = m.2.2 1 := (k3 1 (by decide)).trans w1
    rw [e1, e2]
    exact f3 i hi
  · show k = M'.1 6
    rw [k2]
    rfl
  · exact hk
/-- how read ends -/
theorem zr_fin {s m : am_Z} {N : Nat} {g : Int32} {F : am_Z → am_Z → Prop} {A : Option (Int32 × am_Z)} {B : Option am_Z} (hz : zv s m) (hv : zv_f s m N) (h : zr_O s m N g F A B) (hY : ∀ S M, zr s m N g S M N → F S M → ∃ (c : Nat) (k : Int32), zr_d S M c c ∧ zr_rr S M ∧ (∀ Z : am_Z, Z.1 15 = S.1 15 → Z.1 22 = S.1 22 → Z.1 24 = S.1 24 → fz_rd_formOfFile Z = some k) ∧ -1 ≤ k.toInt ∧ (if g = 0 then (if ¬ M.1 12 = (17 : Int32) then (if ¬ M.1 12 = (2 : Int32) then M.1 13 - (1 : Int32) else 3) else 2) else 4) = k) : ∃ (a : Int32) (s' m' : am_Z), (A.bind fun q1 => if ¬ q1.1 = (-1 : Int32) then some (q1.1, q1.2) else (fz_so_copyFrom_1_11 q1.2).bind fun q2 => (fz_rd_formOfFile q2).bind fun q3 => some (q1.1, zz_i q2 0 q3)) = some (a, s') ∧ (B.bind fun q => fz_mo_read_132 g q) = some (a, m') ∧ zv s' m' := by
  have eN : N ≤ 400 := hv.1
  rcases h with ⟨S, M, h1, h2, h3⟩ | ⟨S, M, h1, h2, h3, h4⟩
  · rw [h1, h2]
    simp only [zbs]
    rcases h3 with h3 | ⟨P, hP, h3⟩
    · refine ⟨S.1 14, S, M, ?_, ?_, zr_zv hz h3.1 h3.2.1⟩
      · rw [if_pos h3.2.2.2.2]
      · unfold fz_mo_read_132
        rw [if_pos (by rw [h3.2.2.1]; decide), h3.2.2.2.1]
    · refine ⟨S.1 14, S, M, ?_, ?_, zr_zv hz h3.1 h3.2.1⟩
      · rw [if_pos (by rw [h3.2.2.1]; exact nm_n1 (by omega))]
      · have e4 : M.1 4 = Int32.ofNat N := (zr_B hv h3).2.1.2.1
        have nl : ¬ M.1 4 ≤ M.1 7 := by
          rw [e4, h3.2.2.2.2.1, nm_le (by omega) (by omega)]
          omega
        unfold fz_mo_read_132
        rw [if_neg (not_not_intro h3.2.2.2.2.2.1), if_neg nl, h3.2.2.1, h3.2.2.2.2.1]
  · rw [h1, h2]
    simp only [zbs]
    obtain ⟨c, k, k1, k2, k3, k4, k5⟩ := hY S M h3 h4
    obtain ⟨s', m', l1, l2, l3⟩ := zr_over hz h3 k1 k2 k3 k4
    refine ⟨-1, s', m', ?_, ?_, l3⟩
    · rw [if_neg (not_not_intro trivial)]
      exact l1
    · have e4 : M.1 4 = Int32.ofNat N := (zr_B hv h3).2.1.2.1
      have nl : M.1 4 ≤ M.1 7 := by
        rw [e4, h3.2.2.2.2.1]
        exact (nm_le (by omega) (by omega)).mpr (by omega)
      unfold fz_mo_read_132
      rw [if_neg (not_not_intro h3.2.2.2.2.2.1), if_pos nl]
      by_cases c0 : g = 0
      · rw [if_pos c0] at k5 ⊢
        by_cases c1 : M.1 12 = 17
        · rw [if_neg (not_not_intro c1)] at k5 ⊢
          rw [k5]
          exact l2
        · rw [if_pos c1] at k5 ⊢
          by_cases c2 : M.1 12 = 2
          · rw [if_neg (not_not_intro c2)] at k5 ⊢
            rw [k5]
            exact l2
          · rw [if_pos c2] at k5 ⊢
            rw [k5]
            exact l2
      · rw [if_neg c0] at k5 ⊢
        rw [k5]
        exact l2
theorem zr_Yw {s m : am_Z} {N : Nat} (S M : am_Z) (h : zr s m N 0 S M N) (hY : zr_Y S M) : ∃ (c : Nat) (k : Int32), zr_d S M c c ∧ zr_rr S M ∧ (∀ Z : am_Z, Z.1 15 = S.1 15 → Z.1 22 = S.1 22 → Z.1 24 = S.1 24 → fz_rd_formOfFile Z = some k) ∧ -1 ≤ k.toInt ∧ (if (0 : Int32) = 0 then (if ¬ M.1 12 = (17 : Int32) then (if ¬ M.1 12 = (2 : Int32) then M.1 13 - (1 : Int32) else 3) else 2) else 4) = k := by
  obtain ⟨c, h1, h2, h3⟩ := hY
  obtain ⟨T, hd, q, ib, hT, hq1, f22, f23, f24, f25, g12, g13⟩ := h2
  have z1 : ¬ (1 : Int32) = 0 := by decide
  rw [if_pos rfl]
  rcases hT with ⟨rfl, rfl, hq2, rfl⟩ | ⟨rfl, rfl, hq8, rfl⟩ | ⟨rfl, rfl, hq8, rfl⟩
  · rw [Nat.zero_add] at f24 g13
    have hb : ∀ Z : am_Z, Z.1 22 = S.1 22 → fz_fm_hasBlocks_13 Z = some 0 := by
      intro Z k22
      unfold fz_fm_hasBlocks_13
      rw [k22, f22, if_neg (show ¬ (1 : Int32) = 17 by decide), if_pos (show ¬ (1 : Int32) = 2 by decide)]
    have hq12 : q = 1 ∨ q = 2 := by omega
    rcases hq12 with rfl | rfl
    · refine ⟨c, 0, h1, h3, fun Z k15 k22 k24 => ?_, by decide, ?_⟩
      · unfold fz_rd_formOfFile
        rw [k15, h.2.2.2.1, if_pos rfl, hb Z k22]
        simp only [zbs]
        rw [if_pos trivial, k24, f24, if_neg (show ¬ ¬ Int32.ofNat 1 = 1 by decide)]
      · rw [g12, g13]
        decide
    · refine ⟨c, 1, h1, h3, fun Z k15 k22 k24 => ?_, by decide, ?_⟩
      · unfold fz_rd_formOfFile
        rw [k15, h.2.2.2.1, if_pos rfl, hb Z k22]
        simp only [zbs]
        rw [if_pos trivial, k24, f24, if_pos (show ¬ Int32.ofNat 2 = 1 by decide)]
      · rw [g12, g13]
        decide
  · refine ⟨c, 2, h1, h3, fun Z k15 k22 k24 => ?_, by decide, ?_⟩
    · unfold fz_rd_formOfFile
      rw [k15, h.2.2.2.1, if_pos rfl, zr_hb (Or.inl rfl) (k22.trans f22)]
      simp only [zbs]
      rw [if_neg z1, k22, f22, if_neg (show ¬ ¬ (17 : Int32) = 17 by decide)]
    · rw [g12, if_neg (show ¬ ¬ (17 : Int32) = 17 by decide)]
  · refine ⟨c, 3, h1, h3, fun Z k15 k22 k24 => ?_, by decide, ?_⟩
    · unfold fz_rd_formOfFile
      rw [k15, h.2.2.2.1, if_pos rfl, zr_hb (Or.inr rfl) (k22.trans f22)]
      simp only [zbs]
      rw [if_neg z1, k22, f22, if_pos (show ¬ (2 : Int32) = 17 by decide)]
    · rw [g12, if_pos (show ¬ (2 : Int32) = 17 by decide), if_neg (show ¬ ¬ (2 : Int32) = 2 by decide)]
theorem zr_Yo {s m : am_Z} {N : Nat} (S M : am_Z) (h : zr s m N 1 S M N) (hY : zr_YO S M) : ∃ (c : Nat) (k : Int32), zr_d S M c c ∧ zr_rr S M ∧ (∀ Z : am_Z, Z.1 15 = S.1 15 → Z.1 22 = S.1 22 → Z.1 24 = S.1 24 → fz_rd_formOfFile Z = some k) ∧ -1 ≤ k.toInt ∧ (if (1 : Int32) = 0 then (if ¬ M.1 12 = (17 : Int32) then (if ¬ M.1 12 = (2 : Int32) then M.1 13 - (1 : Int32) else 3) else 2) else 4) = k := by
  obtain ⟨c, h1, h3⟩ := hY
  have z1 : ¬ (1 : Int32) = 0 := by decide
  rw [if_neg z1]
  refine ⟨c, 4, h1, h3, fun Z k15 k22 k24 => ?_, by decide, rfl⟩
  unfold fz_rd_formOfFile
  rw [k15, h.2.2.2.1, if_neg z1]
