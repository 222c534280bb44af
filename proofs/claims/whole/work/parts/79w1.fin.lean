/-! Writing: from the bytes that both put to the call's answer. -/
theorem zf_a_out {ci : Nat} {l : List Int32} : ∀ {s : am_Z} {n : Nat}, zf_n ci s n → n + l.length ≤ 400 → ∀ i, n + l.length ≤ i → (zf_a ci s l).2.2 1 i = s.2.2 1 i := by
  induction l with
  | nil => intro s n h hl i hi; rfl
  | cons b l ih =>
    intro s n h hl i hi
    simp only [List.length_cons] at hl hi
    rw [zf_a_cons, ih (zf_1_n h (by omega) b) (by omega) i (by omega)]
    show zz_u s.2.2 1 (upd (s.2.2 1) (Int32.toNatClampNeg (s.1 ci)) b) 1 i = _
    rw [zz_u_s, h.1, nm_clamp (by omega)]
    unfold upd
    rw [if_neg (by omega)]
/-- the bytes of a file that was begun anew -/
theorem zf_a_at {ci : Nat} {s : am_Z} {l : List Int32} (h : zf_n ci s 0) (hl : l.length ≤ 400) {i : Nat} (hi : i < l.length) : (zf_a ci s l).2.2 1 i = l.getD i 0 := by
  rw [zf_a_get h (by omega) i (by omega), if_neg (by omega)]
  rfl
/-- the size that is written at last -/
theorem zm_patch {m0 : am_Z} (h : zf_n 4 m0 0) {A Z V B : List Int32} (hA : A.length = 4) (hZ : Z.length = 4) (hV : V.length = 4) (hl : (A ++ Z ++ B).length ≤ 400) (len : Int32) : ∀ i, i < (A ++ Z ++ B).length → (zz_i (zf_a 4 (zz_i (zf_a 4 m0 (A ++ Z ++ B)) 4 4) V) 4 len).2.2 1 i = (A ++ V ++ B).getD i 0 := by
  intro i hi
  have h4 : zf_n 4 (zz_i (zf_a 4 m0 (A ++ Z ++ B)) 4 4) 4 := ⟨rfl, by omega⟩
  show (zf_a 4 (zz_i (zf_a 4 m0 (A ++ Z ++ B)) 4 4) V).2.2 1 i = _
  have hM : ∀ j, j < (A ++ Z ++ B).length → (zz_i (zf_a 4 m0 (A ++ Z ++ B)) 4 4).2.2 1 j = (A ++ Z ++ B).getD j 0 := fun j hj => zf_a_at h hl hj
  simp only [List.length_append] at hi
  by_cases c1 : i < 8
  · rw [zf_a_get h4 (by omega) i (by omega)]
    by_cases c2 : i < 4
    · rw [if_pos c2, hM i (by simp only [List.length_append]; omega)]
      simp only [List.getD_eq_getElem?_getD, List.append_assoc]
      rw [List.getElem?_append_left (by omega), List.getElem?_append_left (by omega)]
    · rw [if_neg c2]
      simp only [List.getD_eq_getElem?_getD, List.append_assoc]
      rw [List.getElem?_append_right (by omega), List.getElem?_append_left (by omega), hA]
  · rw [zf_a_out h4 (by omega) i (by omega), hM i (by simp only [List.length_append]; omega)]
    simp only [List.getD_eq_getElem?_getD]
    rw [List.getElem?_append_right (by simp only [List.length_append]; omega), List.getElem?_append_right (by simp only [List.length_append]; omega)]
    simp only [List.length_append, hZ, hV]
/-- what writing leaves alone -/
def zw_keep (s s' : am_Z) : Prop := s'.1 0 = s.1 0 ∧ s'.1 1 = s.1 1 ∧ s'.1 2 = s.1 2 ∧ s'.2.2 0 = s.2.2 0
def zw_keepM (m m' : am_Z) : Prop := m'.1 6 = m.1 6 ∧ m'.1 1 = m.1 1 ∧ m'.1 3 = m.1 3 ∧ m'.2.2 0 = m.2.2 0
/-- a file written by both -/
theorem zw_fin (sc : am_S) {s m s' m0 : am_Z} (hz : zv s m) (o : Nat → Int64) (t : am_H) {x y : Int32} {A V Z B : List Int32} (hA : A.length = 4) (hZ : Z.length = 4) (hV : V.length = 4) (hl : (A ++ V ++ B).length ≤ 400) (hb : zf_by (A ++ V ++ B)) (hm0 : zf_n 4 m0 0) (hk : zw_keep s s') (hkm : zw_keepM m m0) (hm00 : m0.1 0 = 0)
    (hs1 : s'.1 3 = Int32.ofNat (A ++ V ++ B).length) (hs2 : ∀ i, i < (A ++ V ++ B).length → s'.2.2 1 i = (A ++ V ++ B).getD i 0)
    (hc : fz_sh_write s x y = some (.inr (s'.1 3, s'))) (hr : fz_mo_write m x y = some (Int32.ofNat (A ++ V ++ B).length, zz_i (zf_a 4 (zz_i (zf_a 4 m0 (A ++ Z ++ B)) 4 4) V) 4 (Int32.ofNat (A ++ V ++ B).length))) : zq s m o t (fz_la_write sc s m o t x y) (fz_mo_write m x y) := by
  obtain ⟨⟨n, hn, h1, h2, h3⟩, ⟨r1, r2, r3⟩, ⟨N, hN, f1, f2, f3⟩, k1, k2⟩ := hz
  obtain ⟨a0, a1, a2, a3⟩ := hk
  obtain ⟨b0, b1, b2, b3⟩ := hkm
  have eL : (A ++ Z ++ B).length = (A ++ V ++ B).length := by simp only [List.length_append]; omega
  have h4 : zf_n 4 (zz_i (zf_a 4 m0 (A ++ Z ++ B)) 4 4) 4 := ⟨rfl, by omega⟩
  have keep : ∀ i, i ≠ 4 → (zz_i (zf_a 4 (zz_i (zf_a 4 m0 (A ++ Z ++ B)) 4 4) V) 4 (Int32.ofNat (A ++ V ++ B).length)).1 i = m0.1 i := by
    intro i hi
    show zz_u _ 4 _ i = _
    rw [zz_u_n _ _ hi, zf_a_i 4 hi]
    show zz_u _ 4 _ i = _
    rw [zz_u_n _ _ hi, zf_a_i 4 hi]
  have keepR : (zz_i (zf_a 4 (zz_i (zf_a 4 m0 (A ++ Z ++ B)) 4 4) V) 4 (Int32.ofNat (A ++ V ++ B).length)).2.2 0 = m0.2.2 0 := by
    show (zf_a 4 (zz_i (zf_a 4 m0 (A ++ Z ++ B)) 4 4) V).2.2 0 = _
    rw [zf_a_r 4 (by decide)]
    show (zf_a 4 m0 (A ++ Z ++ B)).2.2 0 = _
    rw [zf_a_r 4 (by decide)]
  unfold fz_la_write
  rw [hc, hr]
  refine ⟨0, s', _, t, _, _, rfl, rfl, ?_, fun _ => ?_, ⟨⟨n, hn, ?_, ?_, fun i hi => ?_⟩, ⟨?_, ?_, ?_⟩, ⟨(A ++ V ++ B).length, hl, hs1, ?_, fun i hi => ?_⟩, ?_, ?_⟩, Or.inl rfl⟩
  · rw [keep 0 (by decide)]; exact hm00
  · rw [zo_0, hs1]
  · rw [a1]; exact h1
  · rw [keep 1 (by decide), b1]; exact h2
  · rw [a3, keepR, b3]; exact h3 i hi
  · rw [a2, keep 3 (by decide), b2]; exact r1
  · rw [a2]; exact r2
  · rw [a2]; exact r3
  · simp only [zz_i]
    exact zz_u_s _ _ _
  · rw [hs2 i hi, zm_patch hm0 hA hZ hV (by omega) _ i (by omega)]
    refine ⟨rfl, ?_⟩
    rw [List.getD_eq_getElem?_getD, List.getElem?_eq_getElem hi]
    exact hb _ (List.getElem_mem hi)
  · rw [a0, keep 6 (by decide), b0]; exact k1
  · rw [a0]; exact k2
