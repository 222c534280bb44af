/-! Bytes put behind both files; the call type. -/
theorem nm_and255 (x : Int32) : ∃ b : Nat, b < 256 ∧ x &&& (255 : Int32) = Int32.ofNat b := by
  refine ⟨(x &&& (255 : Int32)).toBitVec.toNat, ?_, ?_⟩
  · rw [Int32.toBitVec_and, BitVec.toNat_and]
    have h : (255 : Int32).toBitVec.toNat = 255 := rfl
    rw [h]
    exact Nat.lt_of_le_of_lt Nat.and_le_right (by decide)
  · apply Int32.toBitVec_inj.mp
    rw [Int32.toBitVec_ofNat', BitVec.ofNat_toNat, BitVec.setWidth_eq]
def zf_by (l : List Int32) : Prop := ∀ x ∈ l, ∃ b : Nat, b < 256 ∧ x = Int32.ofNat b
theorem zf_by_be (v : Int64) (n : Nat) : zf_by (zf_be v n) := by
  intro x hx
  obtain ⟨k, -, rfl⟩ := List.mem_map.mp hx
  exact nm_and255 _
theorem zf_by_le (v : Int64) (n : Nat) : zf_by (zf_le v n) := by
  intro x hx
  obtain ⟨k, -, rfl⟩ := List.mem_map.mp hx
  exact nm_and255 _
theorem zf_by_app {l m : List Int32} (h1 : zf_by l) (h2 : zf_by m) : zf_by (l ++ m) := by
  intro x hx
  rcases List.mem_append.mp hx with hx | hx
  · exact h1 x hx
  · exact h2 x hx
theorem zf_a_get {ci : Nat} {l : List Int32} : ∀ {s : am_Z} {n : Nat}, zf_n ci s n → n + l.length ≤ 400 → ∀ i, i < n + l.length → (zf_a ci s l).2.2 1 i = if i < n then s.2.2 1 i else l.getD (i - n) 0 := by
  induction l with
  | nil =>
    intro s n h hl i hi
    rw [if_pos (by simpa using hi)]
    rfl
  | cons b l ih =>
    intro s n h hl i hi
    simp only [List.length_cons] at hl hi
    rw [zf_a_cons, ih (zf_1_n h (by omega) b) (by omega) i (by omega)]
    have e : (zf_1 ci s b).2.2 1 = upd (s.2.2 1) n b := by
      show zz_u s.2.2 1 (upd (s.2.2 1) (Int32.toNatClampNeg (s.1 ci)) b) 1 = _
      rw [zz_u_s, h.1, nm_clamp (by omega)]
    rw [e]
    unfold upd
    by_cases h1 : i < n
    · rw [if_pos (by omega), if_pos h1, if_neg (by omega)]
    · by_cases h2 : i = n
      · subst h2
        rw [if_pos (by omega), if_neg h1, if_pos rfl]
        simp
      · rw [if_neg (by omega), if_neg h1]
        have e3 : i - n = (i - (n + 1)) + 1 := by omega
        rw [e3]
        rfl
/-- the same bytes behind both files -/
theorem zv_app {s m : am_Z} {N : Nat} {l : List Int32} (h : zv s m) (hN : s.1 3 = Int32.ofNat N ∧ N ≤ 400) (hb : zf_by l) (hl : N + l.length ≤ 400) : zv (zf_a 3 s l) (zf_a 4 m l) ∧ (zf_a 3 s l).1 3 = Int32.ofNat (N + l.length) ∧ (zf_a 4 m l).1 4 = Int32.ofNat (N + l.length) := by
  obtain ⟨⟨n, hn, h1, h2, h3⟩, ⟨hr, hr1, hr2⟩, ⟨N', hN', f1, f2, f3⟩, hk, hk1⟩ := h
  have eN : N' = N := by
    have := f1.symm.trans hN.1
    rw [nm_inj (by omega) (by omega)] at this
    exact this
  subst eN
  have a1 := zf_a_n (l := l) (show zf_n 3 s N' from ⟨f1, hN'⟩) hl
  have a2 := zf_a_n (l := l) (show zf_n 4 m N' from ⟨f2, hN'⟩) hl
  refine ⟨⟨⟨n, hn, ?_, ?_, fun i hi => ?_⟩, ⟨?_, ?_, ?_⟩, ⟨N' + l.length, hl, a1.1, a2.1, fun i hi => ?_⟩, ?_, ?_⟩, a1.1, a2.1⟩
  · rw [zf_a_i 3 (by decide)]; exact h1
  · rw [zf_a_i 4 (by decide)]; exact h2
  · rw [zf_a_r 3 (by decide), zf_a_r 4 (by decide)]; exact h3 i hi
  · rw [zf_a_i 3 (by decide), zf_a_i 4 (by decide)]; exact hr
  · rw [zf_a_i 3 (by decide)]; exact hr1
  · rw [zf_a_i 3 (by decide)]; exact hr2
  · rw [zf_a_get ⟨f1, hN'⟩ hl i hi, zf_a_get ⟨f2, hN'⟩ hl i hi]
    by_cases h9 : i < N'
    · rw [if_pos h9, if_pos h9]; exact f3 i h9
    · rw [if_neg h9, if_neg h9]
      refine ⟨rfl, ?_⟩
      have hlt : i - N' < l.length := by omega
      rw [List.getD_eq_getElem?_getD, List.getElem?_eq_getElem hlt]
      exact hb _ (List.getElem_mem hlt)
  · rw [zf_a_i 3 (by decide), zf_a_i 4 (by decide)]; exact hk
  · rw [zf_a_i 3 (by decide)]; exact hk1
theorem zc_type (sc : am_S) {s m : am_Z} (h : zv s m) (o : Nat → Int64) (t : am_H) (v : Int64) (x : Int32) : zq s m o t (fz_la_type sc s m o t v x) (fz_mo_type m v x) := by
  have h0 := h
  obtain ⟨hs, hr, ⟨n, hn, h1, h2, h3⟩, hk⟩ := h
  unfold fz_la_type fz_mo_type fz_sh_type fz_sh_type_11
  rw [show (1 : Int64) = Int32.toInt64 1 by decide, show (8 : Int64) = Int32.toInt64 8 by decide, zw_32]
  by_cases c1 : x < (1 : Int32)
  · rw [if_pos c1, if_pos (Or.inl c1)]
    exact ⟨1, s, o, _, 0, zz_i m 0 1, rfl, rfl, rfl, fun h => absurd h (by decide), h0, zt_x t 9 (by decide) (by decide)⟩
  · rw [if_neg c1]
    by_cases c2 : x ≤ (8 : Int32)
    · have c5 : ¬ (x < (1 : Int32) ∨ (8 : Int32) < x) := fun h => h.elim c1 (fun h => (nm_nle _ _).mpr h c2)
      rw [if_pos c2, if_neg c5]
      obtain ⟨k, hk9, rfl⟩ : ∃ k : Nat, k ≤ 8 ∧ x = Int32.ofNat k := by
        rcases nm_cases x with d | ⟨k, d, rfl⟩
        · exfalso
          rw [Int32.lt_iff_toInt_lt] at d c1
          have e1 : (1 : Int32).toInt = 1 := by decide
          have e0 : (0 : Int32).toInt = 0 := by decide
          omega
        · rw [show (8 : Int32) = Int32.ofNat 8 from rfl, nm_le d (by omega)] at c2
          exact ⟨k, c2, rfl⟩
      simp only [Option.bind_some]
      rw [if_pos (show ¬ (1 : Int32) = 0 by decide), h1, h2, nm_add, show (400 : Int32) = Int32.ofNat 400 from rfl]
      by_cases c3 : n + k ≤ 400
      · have c4 : Int32.ofNat (n + k) ≤ Int32.ofNat 400 := by rw [nm_le (by omega) (by omega)]; exact c3
        rw [if_pos c4, if_pos c4]
        unfold fz_mo_type_34
        rw [if_pos (by decide), zf_putBig ⟨h1, hn⟩ v hk9 c3, zm_big (s := zz_i m 0 0) (n := n) ⟨h2, hn⟩ v hk9 c3]
        simp only [Option.bind_some, zz_el]
        obtain ⟨z1, z2, z3⟩ := zv_app (l := zf_be v k) (zv_code h0 0) ⟨h1, hn⟩ (zf_by_be v k) (by rw [zf_be_len]; exact c3)
        refine ⟨0, _, _, t, _, _, rfl, rfl, ?_, fun _ => ?_, z1, Or.inl rfl⟩
        · show (zf_a 4 (zz_i m 0 0) (zf_be v k)).1 0 = 0
          rw [zf_a_i 4 (by decide)]
          rfl
        · rw [zo_0, z2, z3]
      · have c4 : ¬ Int32.ofNat (n + k) ≤ Int32.ofNat 400 := by rw [nm_le (by omega) (by omega)]; exact c3
        rw [if_neg c4, if_neg c4]
        exact ⟨2, s, o, _, 0, zz_i m 0 2, rfl, rfl, rfl, fun h => absurd h (by decide), h0, zt_x t 10 (by decide) (by decide)⟩
    · rw [if_neg c2, if_pos (Or.inr ((nm_nle _ _).mp c2))]
      exact ⟨1, s, o, _, 0, zz_i m 0 1, rfl, rfl, rfl, fun h => absurd h (by decide), h0, zt_x t 9 (by decide) (by decide)⟩
