/-! The simple calls, on. -/
theorem nm_pred {n : Nat} (h : n ≤ 400) : (Int32.ofNat n - (1 : Int32)).toInt = (n : Int) - 1 := by
  cases n with
  | zero => decide
  | succ k =>
    have e : Int32.ofNat (k + 1) - (1 : Int32) = Int32.ofNat k := nm_sub (b := 1) (by omega)
    rw [e, nm_toInt (by omega)]
    omega
/-- an index: outside, or a natural number below n -/
theorem zw_ix (x : Int32) {n : Nat} (h : n ≤ 400) : ((x < 0 ∨ Int32.ofNat n - (1 : Int32) < x) ∧ (x < 0 ∨ ¬ x < Int32.ofNat n)) ∨ (∃ k : Nat, k < n ∧ x = Int32.ofNat k ∧ ¬ (x < 0 ∨ Int32.ofNat n - (1 : Int32) < x) ∧ ¬ x < 0 ∧ x < Int32.ofNat n ∧ Int32.toNatClampNeg x = k) := by
  rcases nm_cases x with hx | ⟨k, hk, rfl⟩
  · exact Or.inl ⟨Or.inl hx, Or.inl hx⟩
  · have hp := nm_pred h
    by_cases hkn : k < n
    · right
      refine ⟨k, hkn, rfl, ?_, nm_nneg hk, by rw [nm_lt hk (by omega)]; exact hkn, nm_clamp hk⟩
      rintro (h1 | h1)
      · exact nm_nneg hk h1
      · rw [Int32.lt_iff_toInt_lt, hp, nm_toInt hk] at h1
        omega
    · left
      refine ⟨Or.inr ?_, Or.inr ?_⟩
      · rw [Int32.lt_iff_toInt_lt, hp, nm_toInt hk]
        omega
      · rw [nm_lt hk (by omega)]
        exact hkn
theorem zc_at (sc : am_S) {s m : am_Z} (h : zv s m) (o : Nat → Int64) (t : am_H) (x : Int32) : zq s m o t (fz_la_at sc s m o t x) (fz_mo_at m x) := by
  have h0 := h
  obtain ⟨⟨n, hn, h1, h2, h3⟩, hr, hf, hk⟩ := h
  unfold fz_la_at fz_mo_at fz_sh_at fz_sh_at_15
  rw [show (0 : Int64) = Int32.toInt64 0 by decide, zw_32, h1, h2]
  rcases zw_ix x (show n ≤ 400 by omega) with ⟨c1, c2⟩ | ⟨k, hkn, rfl, c1, c2, c3, c4⟩
  · rw [if_pos c1]
    have e1 : (if x < 0 then some (.inl 11) else if x < Int32.ofNat n then if x < 0 ∨ 64 ≤ Int32.toNatClampNeg x then none else some (.inr (s.2.2 0 (Int32.toNatClampNeg x))) else some (.inl 11) : Option (Nat ⊕ Int32)) = some (.inl 11) := by
      rcases c2 with c2 | c2
      · rw [if_pos c2]
      · by_cases c3 : x < 0
        · rw [if_pos c3]
        · rw [if_neg c3, if_neg c2]
    rw [e1]
    exact ⟨1, s, o, _, 0, zz_i m 0 1, rfl, rfl, rfl, fun h => absurd h (by decide), h0, zt_x t 11 (by decide) (by decide)⟩
  · have c5 : ¬ (Int32.ofNat k < 0 ∨ 64 ≤ Int32.toNatClampNeg (Int32.ofNat k)) := by
      rw [c4]
      exact fun h => h.elim c2 (by omega)
    rw [if_neg c1, if_neg c2, if_pos c3, if_neg c5]
    simp only [Option.bind_some, zz_el]
    rw [if_neg (by decide)]
    unfold fz_mo_at_22
    rw [if_pos (by decide), if_neg c5]
    refine ⟨0, s, _, t, _, _, rfl, rfl, rfl, fun _ => ?_, h0, Or.inl rfl⟩
    rw [zo_0, c4, (h3 k hkn).1]
theorem zc_tune (sc : am_S) {s m : am_Z} (h : zv s m) (o : Nat → Int64) (t : am_H) (x : Int32) : zq s m o t (fz_la_tune sc s m o t x) (fz_mo_tune m x) := by
  have h0 := h
  obtain ⟨hs, ⟨hr, hr1, hr2⟩, hf, hk⟩ := h
  unfold fz_la_tune fz_mo_tune fz_sh_tune fz_sh_tune_11
  rw [show (1 : Int64) = Int32.toInt64 1 by decide, show (192000 : Int64) = Int32.toInt64 192000 by decide, zw_32]
  by_cases c1 : x < (1 : Int32)
  · rw [if_pos c1, if_pos (Or.inl c1)]
    exact ⟨1, s, o, _, 0, zz_i m 0 1, rfl, rfl, rfl, fun h => absurd h (by decide), h0, zt_x t 9 (by decide) (by decide)⟩
  · rw [if_neg c1]
    by_cases c2 : x ≤ (192000 : Int32)
    · rw [if_pos c2, if_neg (fun h => h.elim c1 (fun h => (nm_nle _ _).mpr h c2))]
      refine ⟨0, zz_i s 2 x, _, t, m.1 3, zz_i (zz_i m 0 0) 3 x, rfl, rfl, rfl, fun _ => ?_, ⟨hs, ⟨rfl, ?_, ?_⟩, hf, hk⟩, Or.inl rfl⟩
      · rw [zo_0]
        show Int32.toInt64 (s.1 2) = _
        rw [hr]
      · show 1 ≤ x.toInt
        rw [Int32.lt_iff_toInt_lt] at c1
        have : (1 : Int32).toInt = 1 := by decide
        omega
      · show x.toInt ≤ 192000
        rw [Int32.le_iff_toInt_le] at c2
        have : (192000 : Int32).toInt = 192000 := by decide
        omega
    · rw [if_neg c2, if_pos (Or.inr ((nm_nle _ _).mp c2))]
      exact ⟨1, s, o, _, 0, zz_i m 0 1, rfl, rfl, rfl, fun h => absurd h (by decide), h0, zt_x t 9 (by decide) (by decide)⟩
theorem zc_form (sc : am_S) {s m : am_Z} (h : zv s m) (o : Nat → Int64) (t : am_H) : zq s m o t (fz_la_form sc s m o t) (fz_mo_form m) := by
  have h0 := h
  obtain ⟨hs, hr, hf, hk, hk1⟩ := h
  unfold fz_la_form fz_mo_form fz_sh_form
  have em : (-1 : Int32).toInt = -1 := by decide
  by_cases c1 : s.1 0 = (-1 : Int32)
  · rw [if_neg (fun hh => hh c1), if_neg (by rw [← hk, c1]; decide)]
    exact ⟨1, s, o, _, 0, zz_i m 0 1, rfl, rfl, rfl, fun h => absurd h (by decide), h0, zt_x t 10 (by decide) (by decide)⟩
  · have c2 : (0 : Int32) ≤ m.1 6 := by
      rw [← hk, Int32.le_iff_toInt_le]
      have h1 : (s.1 0).toInt ≠ -1 := fun hh => c1 (Int32.toInt_inj.mp (hh.trans em.symm))
      have h2 : (0 : Int32).toInt = 0 := rfl
      omega
    rw [if_pos c1, if_pos c2]
    refine ⟨0, s, _, t, m.1 6, zz_i m 0 0, rfl, rfl, rfl, fun _ => ?_, h0, Or.inl rfl⟩
    rw [zo_0, hk]
theorem zc_byteAt (sc : am_S) {s m : am_Z} (h : zv s m) (o : Nat → Int64) (t : am_H) (x : Int32) : zq s m o t (fz_la_byteAt sc s m o t x) (fz_mo_byteAt m x) := by
  have h0 := h
  obtain ⟨hs, hr, ⟨n, hn, h1, h2, h3⟩, hk⟩ := h
  unfold fz_la_byteAt fz_mo_byteAt fz_sh_byteAt fz_sh_byteAt_15
  rw [show (0 : Int64) = Int32.toInt64 0 by decide, zw_32, h1, h2]
  rcases zw_ix x hn with ⟨c1, c2⟩ | ⟨k, hkn, rfl, c1, c2, c3, c4⟩
  · rw [if_pos c1]
    have e1 : (if x < 0 then some (.inl 11) else if x < Int32.ofNat n then if x < 0 ∨ 400 ≤ Int32.toNatClampNeg x then none else some (.inr (s.2.2 1 (Int32.toNatClampNeg x))) else some (.inl 11) : Option (Nat ⊕ Int32)) = some (.inl 11) := by
      rcases c2 with c2 | c2
      · rw [if_pos c2]
      · by_cases c3 : x < 0
        · rw [if_pos c3]
        · rw [if_neg c3, if_neg c2]
    rw [e1]
    exact ⟨1, s, o, _, 0, zz_i m 0 1, rfl, rfl, rfl, fun h => absurd h (by decide), h0, zt_x t 11 (by decide) (by decide)⟩
  · have c5 : ¬ (Int32.ofNat k < 0 ∨ 400 ≤ Int32.toNatClampNeg (Int32.ofNat k)) := by
      rw [c4]
      exact fun h => h.elim c2 (by omega)
    rw [if_neg c1, if_neg c2, if_pos c3, if_neg c5]
    simp only [Option.bind_some, zz_el]
    rw [if_neg (by decide)]
    unfold fz_mo_byteAt_22
    rw [if_pos (by decide), if_neg c5]
    refine ⟨0, s, _, t, _, _, rfl, rfl, rfl, fun _ => ?_, h0, Or.inl rfl⟩
    rw [zo_0, c4, (h3 k hkn).1]
theorem zc_cut (sc : am_S) {s m : am_Z} (h : zv s m) (o : Nat → Int64) (t : am_H) (x : Int32) : zq0 s m o t (fz_la_cut sc s m o t x) (fz_mo_cut m x) := by
  have h0 := h
  obtain ⟨hs, hr, ⟨n, hn, h1, h2, h3⟩, hk⟩ := h
  unfold fz_la_cut fz_mo_cut fz_sh_cut fz_sh_cut_15
  rw [show (0 : Int64) = Int32.toInt64 0 by decide, zw_32, h1, h2]
  rcases nm_cases x with c1 | ⟨k, hk9, rfl⟩
  · rw [if_pos c1, if_pos (Or.inl c1)]
    exact ⟨1, s, _, zz_i (zz_i m 0 1) 4 (m.1 4), rfl, rfl, rfl, ⟨hs, hr, ⟨n, hn, h1, h2, h3⟩, hk⟩, zt_x t 9 (by decide) (by decide)⟩
  · have c1 := nm_nneg hk9
    rw [if_neg c1]
    by_cases c2 : k ≤ n
    · rw [if_pos (by rw [nm_le hk9 (by omega)]; exact c2), if_neg (fun h => h.elim c1 (fun h => by rw [nm_lt (by omega) hk9] at h; omega))]
      exact ⟨0, zz_i s 3 (Int32.ofNat k), t, zz_i (zz_i m 0 0) 4 (Int32.ofNat k), rfl, rfl, rfl, ⟨hs, hr, ⟨k, by omega, rfl, rfl, fun i hi => h3 i (by omega)⟩, hk⟩, Or.inl rfl⟩
    · rw [if_neg (by rw [nm_le hk9 (by omega)]; exact c2), if_pos (Or.inr (by rw [nm_lt (by omega) hk9]; omega))]
      exact ⟨1, s, _, zz_i (zz_i m 0 1) 4 (m.1 4), rfl, rfl, rfl, ⟨hs, hr, ⟨n, hn, h1, h2, h3⟩, hk⟩, zt_x t 9 (by decide) (by decide)⟩
theorem zc_poke (sc : am_S) {s m : am_Z} (h : zv s m) (o : Nat → Int64) (t : am_H) (x y : Int32) : zq0 s m o t (fz_la_poke sc s m o t x y) (fz_mo_poke m x y) := by
  have h0 := h
  obtain ⟨hs, hr, ⟨n, hn, h1, h2, h3⟩, hk⟩ := h
  unfold fz_la_poke fz_mo_poke fz_sh_poke fz_sh_poke_15 fz_sh_poke_36
  rw [show (0 : Int64) = Int32.toInt64 0 by decide, zw_32, h1, h2]
  rcases zw_ix x hn with ⟨c1, c2⟩ | ⟨k, hkn, rfl, c1, c2, c3, c4⟩
  · rw [if_pos c1]
    have e1 : ∀ B : Option (Nat ⊕ am_Z), (if x < 0 then some (.inl 11) else if x < Int32.ofNat n then B else some (.inl 11)) = some (.inl 11) := by
      intro B
      rcases c2 with c2 | c2
      · rw [if_pos c2]
      · by_cases c3 : x < 0
        · rw [if_pos c3]
        · rw [if_neg c3, if_neg c2]
    rw [e1]
    exact ⟨1, s, _, zz_i m 0 1, rfl, rfl, rfl, h0, zt_x t 11 (by decide) (by decide)⟩
  · have c5 : ¬ (Int32.ofNat k < 0 ∨ 400 ≤ Int32.toNatClampNeg (Int32.ofNat k)) := by
      rw [c4]
      exact fun h => h.elim c2 (by omega)
    rw [if_neg c1, if_neg c2, if_pos c3]
    simp only [Option.bind_some]
    rw [if_pos (show ¬ (1 : Int32) = 0 by decide), show (255 : Int64) = Int32.toInt64 255 by decide, zw_32]
    rcases nm_cases y with d1 | ⟨b, hb, rfl⟩
    · rw [if_pos d1, if_pos (Or.inl d1)]
      exact ⟨2, s, _, zz_i m 0 2, rfl, rfl, rfl, h0, zt_x t 9 (by decide) (by decide)⟩
    · have d1 := nm_nneg hb
      have e255 : (255 : Int32) = Int32.ofNat 255 := rfl
      by_cases d2 : b ≤ 255
      · rw [if_neg d1, if_pos (by rw [e255, nm_le hb (by omega)]; exact d2), if_neg c5, if_neg (fun h => h.elim d1 (fun h => by rw [e255, nm_lt (by omega) hb] at h; omega))]
        simp only [Option.bind_some, zz_el]
        rw [if_neg (by decide)]
        unfold fz_mo_poke_38
        rw [if_neg (by decide), if_neg c5]
        refine ⟨0, _, t, _, rfl, rfl, rfl, ⟨hs, hr, ⟨n, hn, h1, h2, fun i hi => ?_⟩, hk⟩, Or.inl rfl⟩
        show upd (s.2.2 1) (Int32.toNatClampNeg (Int32.ofNat k)) (Int32.ofNat b) i = upd (m.2.2 1) (Int32.toNatClampNeg (Int32.ofNat k)) (Int32.ofNat b) i ∧ ∃ b' : Nat, b' < 256 ∧ upd (s.2.2 1) (Int32.toNatClampNeg (Int32.ofNat k)) (Int32.ofNat b) i = Int32.ofNat b'
        rw [c4]
        unfold upd
        by_cases hin : i = k
        · rw [if_pos hin, if_pos hin]
          exact ⟨rfl, b, by omega, rfl⟩
        · rw [if_neg hin, if_neg hin]
          exact h3 i hi
      · rw [if_neg d1, if_neg (by rw [e255, nm_le hb (by omega)]; exact d2), if_pos (Or.inr (by rw [e255, nm_lt (by omega) hb]; omega))]
        exact ⟨2, s, _, zz_i m 0 2, rfl, rfl, rfl, h0, zt_x t 9 (by decide) (by decide)⟩
