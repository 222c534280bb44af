/-! Writing: both files side by side while they are written. -/
def zx (s m S M : am_Z) (n : Nat) (V : List Int32) : Prop :=
  n ≤ 400 ∧ S.1 3 = Int32.ofNat n ∧ M.1 4 = Int32.ofNat n ∧ (∀ i, i < n → (∃ b : Nat, b < 256 ∧ S.2.2 1 i = Int32.ofNat b) ∧ (i < 4 ∨ 8 ≤ i → S.2.2 1 i = M.2.2 1 i) ∧ (4 ≤ i → i < 8 → S.2.2 1 i = V.getD (i - 4) 0)) ∧ zw_keep s S ∧ zw_keepM m M ∧ M.1 0 = 0
theorem zx_0 {s m S0 M0 : am_Z} {A V Z B : List Int32} (hS : zf_n 3 S0 0) (hM : zf_n 4 M0 0) (hA : A.length = 4) (hZ : Z.length = 4) (hV : V.length = 4) (hl : (A ++ V ++ B).length ≤ 400) (hb : zf_by (A ++ V ++ B)) (hk : zw_keep s S0) (hkm : zw_keepM m M0) (h0 : M0.1 0 = 0) : zx s m (zf_a 3 S0 (A ++ V ++ B)) (zf_a 4 M0 (A ++ Z ++ B)) (A ++ V ++ B).length V := by
  have eL : (A ++ Z ++ B).length = (A ++ V ++ B).length := by simp only [List.length_append]; omega
  have n1 := zf_a_n (l := A ++ V ++ B) hS (by omega)
  have n2 := zf_a_n (l := A ++ Z ++ B) hM (by omega)
  obtain ⟨a0, a1, a2, a3⟩ := hk
  obtain ⟨b0, b1, b2, b3⟩ := hkm
  refine ⟨hl, ?_, ?_, fun i hi => ⟨?_, fun h => ?_, fun h4 h8 => ?_⟩, ⟨?_, ?_, ?_, ?_⟩, ⟨?_, ?_, ?_, ?_⟩, ?_⟩
  · rw [n1.1, Nat.zero_add]
  · rw [n2.1, Nat.zero_add, eL]
  · rw [zf_a_at hS hl hi, List.getD_eq_getElem?_getD, List.getElem?_eq_getElem hi]
    exact hb _ (List.getElem_mem hi)
  · rw [zf_a_at hS hl hi, zf_a_at hM (by omega) (by omega)]
    simp only [List.getD_eq_getElem?_getD]
    rcases h with h | h
    · rw [List.append_assoc, List.append_assoc, List.getElem?_append_left (by omega), List.getElem?_append_left (by omega)]
    · rw [List.getElem?_append_right (by simp only [List.length_append]; omega), List.getElem?_append_right (by simp only [List.length_append]; omega)]
      simp only [List.length_append, hZ, hV]
  · rw [zf_a_at hS hl hi]
    simp only [List.getD_eq_getElem?_getD]
    rw [List.append_assoc, List.getElem?_append_right (by omega), List.getElem?_append_left (by omega), hA]
  · rw [zf_a_i 3 (by decide)]; exact a0
  · rw [zf_a_i 3 (by decide)]; exact a1
  · rw [zf_a_i 3 (by decide)]; exact a2
  · rw [zf_a_r 3 (by decide)]; exact a3
  · rw [zf_a_i 4 (by decide)]; exact b0
  · rw [zf_a_i 4 (by decide)]; exact b1
  · rw [zf_a_i 4 (by decide)]; exact b2
  · rw [zf_a_r 4 (by decide)]; exact b3
  · rw [zf_a_i 4 (by decide)]; exact h0
/-- the same bytes behind both -/
theorem zx_a {s m S M : am_Z} {n : Nat} {V l : List Int32} (h : zx s m S M n V) (h8 : 8 ≤ n) (hb : zf_by l) (hl : n + l.length ≤ 400) : zx s m (zf_a 3 S l) (zf_a 4 M l) (n + l.length) V := by
  obtain ⟨hn, h1, h2, h3, ⟨a0, a1, a2, a3⟩, ⟨b0, b1, b2, b3⟩, h0⟩ := h
  have n1 := zf_a_n (l := l) (ci := 3) ⟨h1, hn⟩ hl
  have n2 := zf_a_n (l := l) (ci := 4) ⟨h2, hn⟩ hl
  refine ⟨hl, n1.1, n2.1, fun i hi => ?_, ⟨?_, ?_, ?_, ?_⟩, ⟨?_, ?_, ?_, ?_⟩, ?_⟩
  · rw [zf_a_get ⟨h1, hn⟩ hl i hi, zf_a_get ⟨h2, hn⟩ hl i hi]
    by_cases c : i < n
    · rw [if_pos c, if_pos c]
      exact h3 i c
    · rw [if_neg c, if_neg c]
      have hj : i - n < l.length := by omega
      refine ⟨?_, fun _ => rfl, fun _ h => by omega⟩
      rw [List.getD_eq_getElem?_getD, List.getElem?_eq_getElem hj]
      exact hb _ (List.getElem_mem hj)
  · rw [zf_a_i 3 (by decide)]; exact a0
  · rw [zf_a_i 3 (by decide)]; exact a1
  · rw [zf_a_i 3 (by decide)]; exact a2
  · rw [zf_a_r 3 (by decide)]; exact a3
  · rw [zf_a_i 4 (by decide)]; exact b0
  · rw [zf_a_i 4 (by decide)]; exact b1
  · rw [zf_a_i 4 (by decide)]; exact b2
  · rw [zf_a_r 4 (by decide)]; exact b3
  · rw [zf_a_i 4 (by decide)]; exact h0
/-- the end of write -/
theorem zx_fin (sc : am_S) {s m S M : am_Z} (hz : zv s m) (o : Nat → Int64) (t : am_H) {x y : Int32} {n : Nat} {V : List Int32} (hx : zx s m S M n V) (hV : V.length = 4) (h8 : 8 ≤ n) (hc : fz_sh_write s x y = some (.inr (S.1 3, S))) (hr : fz_mo_write m x y = some (Int32.ofNat n, zz_i (zf_a 4 (zz_i M 4 4) V) 4 (Int32.ofNat n))) : zq s m o t (fz_la_write sc s m o t x y) (fz_mo_write m x y) := by
  obtain ⟨⟨k, hk, h1, h2, h3⟩, ⟨r1, r2, r3⟩, -, k1, k2⟩ := hz
  obtain ⟨hn, x1, x2, x3, ⟨a0, a1, a2, a3⟩, ⟨b0, b1, b2, b3⟩, h0⟩ := hx
  have h4 : zf_n 4 (zz_i M 4 4) 4 := ⟨rfl, by omega⟩
  have keep : ∀ i, i ≠ 4 → (zz_i (zf_a 4 (zz_i M 4 4) V) 4 (Int32.ofNat n)).1 i = M.1 i := by
    intro i hi
    show zz_u _ 4 _ i = _
    rw [zz_u_n _ _ hi, zf_a_i 4 hi]
    exact zz_u_n _ _ hi
  have keepR : (zz_i (zf_a 4 (zz_i M 4 4) V) 4 (Int32.ofNat n)).2.2 0 = M.2.2 0 := by
    show (zf_a 4 (zz_i M 4 4) V).2.2 0 = _
    rw [zf_a_r 4 (by decide)]
    rfl
  unfold fz_la_write
  rw [hc, hr]
  refine ⟨0, S, _, t, _, _, rfl, rfl, ?_, fun _ => ?_, ⟨⟨k, hk, ?_, ?_, fun i hi => ?_⟩, ⟨?_, ?_, ?_⟩, ⟨n, hn, x1, ?_, fun i hi => ?_⟩, ?_, ?_⟩, Or.inl rfl⟩
  · rw [keep 0 (by decide)]; exact h0
  · rw [zo_0, x1]
  · rw [a1]; exact h1
  · rw [keep 1 (by decide), b1]; exact h2
  · rw [a3, keepR, b3]; exact h3 i hi
  · rw [a2, keep 3 (by decide), b2]; exact r1
  · rw [a2]; exact r2
  · rw [a2]; exact r3
  · simp only [zz_i]
    exact zz_u_s _ _ _
  · obtain ⟨y1, y2, y3⟩ := x3 i hi
    refine ⟨?_, y1⟩
    show S.2.2 1 i = (zf_a 4 (zz_i M 4 4) V).2.2 1 i
    by_cases c8 : i < 8
    · rw [zf_a_get h4 (by omega) i (by omega)]
      by_cases c4 : i < 4
      · rw [if_pos c4, y2 (Or.inl c4)]
        rfl
      · rw [if_neg c4]
        exact y3 (by omega) c8
    · rw [zf_a_out h4 (by omega) i (by omega), y2 (Or.inr (by omega))]
      rfl
  · rw [a0, keep 6 (by decide), b0]; exact k1
  · rw [a0]; exact k2
/-- a good call of the reference's write -/
theorem zx_89 {s m S M : am_Z} {n : Nat} {V : List Int32} (hx : zx s m S M n V) (h8 : 8 ≤ n) {x : Int32} (h4 : ¬ x = 4) : fz_mo_write_89 x M = some (Int32.ofNat n, zz_i (zf_a 4 (zz_i M 4 4) (zf_le (Int32.toInt64 (Int32.ofNat (n - 8))) 4)) 4 (Int32.ofNat n)) := by
  obtain ⟨hn, x1, x2, -⟩ := hx
  have hz : zf_n 4 (zz_i M 4 4) 4 := ⟨rfl, by omega⟩
  have e8 : Int32.ofNat n - (8 : Int32) = Int32.ofNat (n - 8) := nm_sub h8
  unfold fz_mo_write_89 fz_mo_write_118
  rw [if_pos h4, x2, e8, show (4 : Int32) = Int32.ofNat 4 from rfl, zm_little (s := zz_i M 4 (Int32.ofNat 4)) (n := 4) hz _ (by decide) (by decide)]
  rfl
theorem zx_89b {s m S M : am_Z} {n : Nat} {V : List Int32} (hx : zx s m S M n V) (h8 : 8 ≤ n) : fz_mo_write_89 4 M = some (Int32.ofNat n, zz_i (zf_a 4 (zz_i M 4 4) (zf_be (Int32.toInt64 (Int32.ofNat (n - 8))) 4)) 4 (Int32.ofNat n)) := by
  obtain ⟨hn, x1, x2, -⟩ := hx
  have hz : zf_n 4 (zz_i M 4 4) 4 := ⟨rfl, by omega⟩
  have e8 : Int32.ofNat n - (8 : Int32) = Int32.ofNat (n - 8) := nm_sub h8
  unfold fz_mo_write_89 fz_mo_write_118
  rw [if_neg (not_not_intro rfl), x2, e8, show (4 : Int32) = Int32.ofNat 4 from rfl, zm_big (s := zz_i M 4 (Int32.ofNat 4)) (n := 4) hz _ (by decide) (by decide)]
  rfl
theorem zx_wave (sc : am_S) {s m S M : am_Z} (hz : zv s m) (o : Nat → Int64) (t : am_H) {x y : Int32} {n : Nat} (h4 : ¬ x = 4) (hg : fz_mo_write m x y = fz_mo_write_56 x y 1 0 m) (hW : fz_mo_writeWave (zz_i (zz_i m 0 0) 4 0) x y = some M) (hc : fz_sh_write s x y = some (.inr (S.1 3, S))) (h8 : 8 ≤ n) (hx : zx s m S M n (zf_le (Int32.toInt64 (Int32.ofNat (n - 8))) 4)) : zq s m o t (fz_la_write sc s m o t x y) (fz_mo_write m x y) := by
  refine zx_fin sc hz o t hx (zf_le_len _ _) h8 hc ?_
  rw [hg]
  unfold fz_mo_write_56
  rw [if_pos (show ¬ (1 : Int32) = 0 by decide), if_pos h4, hW]
  exact zx_89 hx h8 h4
theorem zx_other (sc : am_S) {s m S M : am_Z} (hz : zv s m) (o : Nat → Int64) (t : am_H) {y : Int32} {n : Nat} (hg : fz_mo_write m 4 y = fz_mo_write_56 4 y 1 0 m) (hW : fz_mo_writeOther (zz_i (zz_i m 0 0) 4 0) y = some M) (hc : fz_sh_write s 4 y = some (.inr (S.1 3, S))) (h8 : 8 ≤ n) (hx : zx s m S M n (zf_be (Int32.toInt64 (Int32.ofNat (n - 8))) 4)) : zq s m o t (fz_la_write sc s m o t 4 y) (fz_mo_write m 4 y) := by
  refine zx_fin sc hz o t hx (zf_be_len _ _) h8 hc ?_
  rw [hg]
  unfold fz_mo_write_56
  rw [if_pos (show ¬ (1 : Int32) = 0 by decide), if_neg (not_not_intro rfl), hW]
  exact zx_89b hx h8
