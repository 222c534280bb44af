/-! The class's state beside the reference's; the simple calls. -/
theorem nm_cmplt (x y : Int64) : lg_cmp x y < 0 ↔ x < y := by
  unfold lg_cmp
  split
  · rename_i h
    exact ⟨fun h1 => absurd h1 (by decide), fun h1 => absurd h1 (lg_lt_not h)⟩
  · split
    · rename_i h
      exact ⟨fun h1 => absurd h1 (by decide), fun h1 => absurd h (lg_lt_ne h1)⟩
    · rename_i h1 h2
      refine ⟨fun _ => ?_, fun _ => by decide⟩
      rcases lg_tri x y with h | h | h
      · exact h
      · exact absurd h h2
      · exact absurd h h1
theorem nm_cmpgt (x y : Int64) : 0 < lg_cmp x y ↔ y < x := by
  unfold lg_cmp
  split
  · rename_i h
    exact ⟨fun _ => h, fun _ => by decide⟩
  · rename_i h1
    split
    · rename_i h
      exact ⟨fun h2 => absurd h2 (by decide), fun h2 => absurd h2 h1⟩
    · exact ⟨fun h2 => absurd h2 (by decide), fun h2 => absurd h2 h1⟩
theorem nm_lt64 (x y : Int32) : x.toInt64 < y.toInt64 ↔ x < y := by
  rw [Int64.lt_iff_toInt_lt, Int32.toInt_toInt64, Int32.toInt_toInt64, Int32.lt_iff_toInt_lt]
theorem nm_nlt (x y : Int32) : ¬ x < y ↔ y ≤ x := by
  rw [Int32.lt_iff_toInt_lt, Int32.le_iff_toInt_le]
  omega
theorem nm_nle (x y : Int32) : ¬ x ≤ y ↔ y < x := by
  rw [Int32.lt_iff_toInt_lt, Int32.le_iff_toInt_le]
  omega
theorem nm_cases (x : Int32) : x < 0 ∨ ∃ k : Nat, k < 2147483648 ∧ x = Int32.ofNat k := by
  by_cases h : x < 0
  · exact Or.inl h
  · right
    have h1 : 0 ≤ x.toInt := by
      rw [Int32.lt_iff_toInt_lt] at h
      have : (0 : Int32).toInt = 0 := rfl
      omega
    have h2 := x.toInt_lt
    refine ⟨x.toInt.toNat, by omega, ?_⟩
    apply Int32.toInt_inj.mp
    rw [nm_toInt (by omega)]
    omega
/-- 'within' of ints -/
theorem zw_32 (x lo hi : Int32) : fz_mo_within x.toInt64 lo.toInt64 hi.toInt64 = some (if x < lo ∨ hi < x then 0 else 1) := by
  unfold fz_mo_within fz_mo_within_17
  by_cases h1 : x < lo
  · rw [if_pos (by rw [nm_cmplt, nm_lt64]; exact h1), if_pos (Or.inl h1)]
  · rw [if_neg (by rw [nm_cmplt, nm_lt64]; exact h1)]
    by_cases h2 : hi < x
    · rw [if_pos (by rw [nm_cmpgt, nm_lt64]; exact h2), if_pos (Or.inr h2)]
    · rw [if_neg (by rw [nm_cmpgt, nm_lt64]; exact h2), if_neg (fun h => h.elim h1 h2)]
/-- the samples -/
def zv_s (s m : am_Z) (n : Nat) : Prop := n ≤ 64 ∧ s.1 1 = Int32.ofNat n ∧ m.1 1 = Int32.ofNat n ∧ ∀ i, i < n → s.2.2 0 i = m.2.2 0 i ∧ -32768 ≤ (s.2.2 0 i).toInt ∧ (s.2.2 0 i).toInt ≤ 32767
/-- the file -/
def zv_f (s m : am_Z) (N : Nat) : Prop := N ≤ 400 ∧ s.1 3 = Int32.ofNat N ∧ m.1 4 = Int32.ofNat N ∧ ∀ i, i < N → s.2.2 1 i = m.2.2 1 i ∧ ∃ b : Nat, b < 256 ∧ s.2.2 1 i = Int32.ofNat b
def zv_r (s m : am_Z) : Prop := s.1 2 = m.1 3 ∧ 1 ≤ (s.1 2).toInt ∧ (s.1 2).toInt ≤ 192000
def zv_k (s m : am_Z) : Prop := s.1 0 = m.1 6 ∧ -1 ≤ (s.1 0).toInt
def zv (s m : am_Z) : Prop := (∃ n, zv_s s m n) ∧ zv_r s m ∧ (∃ N, zv_f s m N) ∧ zv_k s m
/-- the exceptions made so far -/
def zt (t t' : am_H) : Prop := t' = t ∨ ∃ c : Nat, 9 ≤ c ∧ c < 13 ∧ t' = t ++ [.inl (c, [])]
/-- a call that may throw, class and reference side by side -/
def zq (s m : am_Z) (o : Nat → Int64) (t : am_H) (A : Option (Int32 × am_Z × am_Z × (Nat → Int64) × am_H)) (B : Option (Int32 × am_Z)) : Prop :=
  ∃ (k : Int32) (s' : am_Z) (o' : Nat → Int64) (t' : am_H) (b : Int32) (m' : am_Z), A = some (k, s', m, o', t') ∧ B = some (b, m') ∧ m'.1 0 = k ∧ (k = 0 → o' 0 = b.toInt64) ∧ zv s' m' ∧ zt t t'
def zq0 (s m : am_Z) (o : Nat → Int64) (t : am_H) (A : Option (Int32 × am_Z × am_Z × (Nat → Int64) × am_H)) (B : Option am_Z) : Prop :=
  ∃ (k : Int32) (s' : am_Z) (t' : am_H) (m' : am_Z), A = some (k, s', m, o, t') ∧ B = some m' ∧ m'.1 0 = k ∧ zv s' m' ∧ zt t t'
theorem zv_code {s m : am_Z} (h : zv s m) (v : Int32) : zv s (zz_i m 0 v) := h
theorem zt_x (t : am_H) (c : Nat) (h1 : 9 ≤ c) (h2 : c < 13) : zt t (t ++ [.inl (c, [])]) := Or.inr ⟨c, h1, h2, rfl⟩
theorem zo_0 (o : Nat → Int64) (v : Int64) : vp_updL o (Int32.toNatClampNeg (0 : Int32)) v 0 = v := by
  have e : Int32.toNatClampNeg (0 : Int32) = 0 := by decide
  rw [e]
  simp [vp_updL]
theorem zc_add (sc : am_S) {s m : am_Z} (h : zv s m) (o : Nat → Int64) (t : am_H) (x : Int32) : zq s m o t (fz_la_add sc s m o t x) (fz_mo_add m x) := by
  obtain ⟨⟨n, hn, h1, h2, h3⟩, hr, hf, hk⟩ := h
  unfold fz_la_add fz_mo_add fz_sh_add fz_sh_add_14
  rw [show (-32768 : Int64) = Int32.toInt64 (-32768) by decide, show (32767 : Int64) = Int32.toInt64 32767 by decide, zw_32]
  by_cases c1 : x < (-32768 : Int32)
  · rw [if_pos c1, if_pos (Or.inl c1)]
    exact ⟨1, s, o, _, 0, zz_i m 0 1, rfl, rfl, rfl, fun h => absurd h (by decide), ⟨⟨n, hn, h1, h2, h3⟩, hr, hf, hk⟩, zt_x t 9 (by decide) (by decide)⟩
  · rw [if_neg c1]
    by_cases c2 : x ≤ (32767 : Int32)
    · have c3 : ¬ (x < (-32768 : Int32) ∨ (32767 : Int32) < x) := fun h => h.elim c1 (fun h => (nm_nle _ _).mpr h c2)
      rw [if_pos c2, if_neg c3]
      by_cases c4 : n < 64
      · have e64 : (64 : Int32) = Int32.ofNat 64 := rfl
        have c5 : s.1 1 < (64 : Int32) := by rw [h1, e64, nm_lt (by omega) (by omega)]; exact c4
        have c6 : ¬ (64 : Int32) ≤ s.1 1 := (nm_nle _ _).mpr c5
        have c7 : ¬ (s.1 1 < 0 ∨ 64 ≤ Int32.toNatClampNeg (s.1 1)) := by
          rw [h1, nm_clamp (by omega)]
          exact fun h => h.elim (nm_nneg (by omega)) (by omega)
        have c8 : ¬ (m.1 1 < 0 ∨ 64 ≤ Int32.toNatClampNeg (m.1 1)) := by rw [h2, ← h1]; exact c7
        have c9 : ¬ m.1 1 = (64 : Int32) := by rw [h2, e64, nm_inj (by omega) (by omega)]; omega
        unfold fz_so_append_1
        rw [if_pos c5, if_neg c6, if_neg c7]
        simp only [Option.bind_some, zz_el]
        rw [if_pos (by decide), if_pos c9]
        unfold fz_mo_add_33
        rw [if_pos (by decide), if_neg c8]
        refine ⟨0, _, _, t, _, _, rfl, rfl, rfl, fun _ => ?_, ⟨⟨n + 1, by omega, ?_, ?_, fun i hi => ?_⟩, hr, hf, hk⟩, Or.inl rfl⟩
        · rw [zo_0]
          show Int32.toInt64 (s.1 1 + 1) = Int32.toInt64 (m.1 1 + 1)
          rw [h1, h2]
        · show s.1 1 + 1 = _
          rw [h1]
          exact nm_add n 1
        · show m.1 1 + 1 = _
          rw [h2]
          exact nm_add n 1
        · show upd (s.2.2 0) (Int32.toNatClampNeg (s.1 1)) x i = upd (m.2.2 0) (Int32.toNatClampNeg (m.1 1)) x i ∧ -32768 ≤ (upd (s.2.2 0) (Int32.toNatClampNeg (s.1 1)) x i).toInt ∧ (upd (s.2.2 0) (Int32.toNatClampNeg (s.1 1)) x i).toInt ≤ 32767
          rw [h1, h2, nm_clamp (by omega)]
          unfold upd
          by_cases hin : i = n
          · rw [if_pos hin, if_pos hin]
            rw [Int32.lt_iff_toInt_lt] at c1
            rw [Int32.le_iff_toInt_le] at c2
            have g1 : (-32768 : Int32).toInt = -32768 := by decide
            have g2 : (32767 : Int32).toInt = 32767 := by decide
            exact ⟨rfl, by omega, by omega⟩
          · rw [if_neg hin, if_neg hin]
            exact h3 i (by omega)
      · have en : n = 64 := by omega
        subst en
        have c5 : ¬ s.1 1 < (64 : Int32) := by rw [h1]; decide
        rw [if_neg c5]
        simp only [Option.bind_some, zz_el]
        rw [if_neg (by decide), if_pos trivial, if_pos (by decide), if_neg (fun hh => hh h2)]
        exact ⟨2, s, o, _, 0, zz_i m 0 2, rfl, rfl, rfl, fun h => absurd h (by decide), ⟨⟨64, hn, h1, h2, h3⟩, hr, hf, hk⟩, zt_x t 10 (by decide) (by decide)⟩
    · rw [if_neg c2, if_pos (Or.inr ((nm_nle _ _).mp c2))]
      exact ⟨1, s, o, _, 0, zz_i m 0 1, rfl, rfl, rfl, fun h => absurd h (by decide), ⟨⟨n, hn, h1, h2, h3⟩, hr, hf, hk⟩, zt_x t 9 (by decide) (by decide)⟩
theorem zc_clear {s m : am_Z} (h : zv s m) : ∃ (a : Int32) (s' m' : am_Z), fz_sh_clear s = some (a, s') ∧ fz_mo_clear m = some (a, m') ∧ zv s' m' := by
  obtain ⟨⟨n, hn, h1, h2, h3⟩, hr, hf, hk⟩ := h
  have e1 : fz_sh_clear s = some (s.1 1, zz_i s 1 0) := rfl
  have e2 : fz_mo_clear m = some (m.1 1, zz_i (zz_i m 0 0) 1 0) := rfl
  exact ⟨s.1 1, zz_i s 1 0, zz_i (zz_i m 0 0) 1 0, e1, by rw [e2, h1, h2], ⟨0, by decide, rfl, rfl, fun i hi => absurd hi (Nat.not_lt_zero i)⟩, hr, hf, hk⟩
