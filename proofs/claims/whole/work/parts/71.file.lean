/-! The file as a list of bytes (of the class: count at 3; of the reference: count at 4; both have the bytes in row 1); putting bytes behind it. -/
theorem zz_u_s {α : Type} (f : Nat → α) (i : Nat) (v : α) : zz_u f i v i = v := by simp [zz_u]
theorem zz_u_n {α : Type} (f : Nat → α) {i j : Nat} (v : α) (h : j ≠ i) : zz_u f i v j = f j := by
  unfold zz_u
  cases hb : Nat.beq j i with
  | true => exact absurd (Nat.eq_of_beq_eq_true hb) h
  | false => rfl
def zf_1 (ci : Nat) (s : am_Z) (b : Int32) : am_Z := zz_i (zz_r s 1 (upd (s.2.2 1) (Int32.toNatClampNeg (s.1 ci)) b)) ci ((s.1 ci) + (1 : Int32))
def zf_a (ci : Nat) (s : am_Z) (l : List Int32) : am_Z := l.foldl (zf_1 ci) s
def zf_l (ci : Nat) (s : am_Z) : List Int32 := (List.range (Int32.toNatClampNeg (s.1 ci))).map (s.2.2 1)
/-- the file has n bytes -/
def zf_n (ci : Nat) (s : am_Z) (n : Nat) : Prop := s.1 ci = Int32.ofNat n ∧ n ≤ 400
theorem zf_a_nil (ci : Nat) (s : am_Z) : zf_a ci s [] = s := rfl
theorem zf_a_cons (ci : Nat) (s : am_Z) (b : Int32) (l : List Int32) : zf_a ci s (b :: l) = zf_a ci (zf_1 ci s b) l := rfl
theorem zf_a_app (ci : Nat) (s : am_Z) (l m : List Int32) : zf_a ci s (l ++ m) = zf_a ci (zf_a ci s l) m := List.foldl_append
theorem zf_1_n {ci : Nat} {s : am_Z} {n : Nat} (h : zf_n ci s n) (hn : n < 400) (b : Int32) : zf_n ci (zf_1 ci s b) (n + 1) := by
  refine ⟨?_, by omega⟩
  show zz_u s.1 ci (s.1 ci + 1) ci = _
  rw [zz_u_s, h.1]
  exact nm_add n 1
theorem zf_a_n {ci : Nat} {l : List Int32} : ∀ {s : am_Z} {n : Nat}, zf_n ci s n → n + l.length ≤ 400 → zf_n ci (zf_a ci s l) (n + l.length) := by
  induction l with
  | nil => intro s n h _; exact h
  | cons b l ih =>
    intro s n h hl
    simp only [List.length_cons] at hl
    have := ih (zf_1_n h (by omega) b) (by omega)
    rw [zf_a_cons, show n + (b :: l).length = n + 1 + l.length by simp; omega]
    exact this
/-- what stays -/
theorem zf_1_i (ci : Nat) (s : am_Z) (b : Int32) {i : Nat} (h : i ≠ ci) : (zf_1 ci s b).1 i = s.1 i := zz_u_n _ _ h
theorem zf_a_i (ci : Nat) {l : List Int32} {i : Nat} (h : i ≠ ci) : ∀ s : am_Z, (zf_a ci s l).1 i = s.1 i := by
  induction l with
  | nil => intro s; rfl
  | cons b l ih => intro s; rw [zf_a_cons, ih, zf_1_i ci s b h]
theorem zf_a_j (ci : Nat) {l : List Int32} : ∀ s : am_Z, (zf_a ci s l).2.1 = s.2.1 := by
  induction l with
  | nil => intro s; rfl
  | cons b l ih => intro s; rw [zf_a_cons, ih]; rfl
theorem zf_a_r (ci : Nat) {l : List Int32} {r : Nat} (h : r ≠ 1) : ∀ s : am_Z, (zf_a ci s l).2.2 r = s.2.2 r := by
  induction l with
  | nil => intro s; rfl
  | cons b l ih =>
    intro s
    rw [zf_a_cons, ih]
    exact zz_u_n _ _ h
theorem zf_l_len {ci : Nat} {s : am_Z} {n : Nat} (h : zf_n ci s n) : (zf_l ci s).length = n := by
  unfold zf_l
  rw [h.1, nm_clamp (by have := h.2; omega)]
  simp
theorem zf_l_1 {ci : Nat} {s : am_Z} {n : Nat} (h : zf_n ci s n) (hn : n < 400) (b : Int32) : zf_l ci (zf_1 ci s b) = zf_l ci s ++ [b] := by
  have h1 := zf_1_n h hn b
  unfold zf_l
  rw [h1.1, h.1, nm_clamp (by omega), nm_clamp (by omega), List.range_succ, List.map_append]
  have e : (zf_1 ci s b).2.2 1 = upd (s.2.2 1) n b := by
    show zz_u s.2.2 1 (upd (s.2.2 1) (Int32.toNatClampNeg (s.1 ci)) b) 1 = _
    rw [zz_u_s, h.1, nm_clamp (by omega)]
  rw [e]
  congr 1
  · apply List.map_congr_left
    intro j hj
    have hj' := List.mem_range.mp hj
    unfold upd
    rw [if_neg (by omega)]
  · simp [upd]
theorem zf_l_a {ci : Nat} {l : List Int32} : ∀ {s : am_Z} {n : Nat}, zf_n ci s n → n + l.length ≤ 400 → zf_l ci (zf_a ci s l) = zf_l ci s ++ l := by
  induction l with
  | nil => intro s n h _; simp [zf_a]
  | cons b l ih =>
    intro s n h hl
    simp only [List.length_cons] at hl
    rw [zf_a_cons, ih (zf_1_n h (by omega) b) (by omega), zf_l_1 h (by omega)]
    simp
/-- the bytes of a number -/
def zf_b (v : Int64) (k : Nat) : Int32 := (Int64.toInt32 (v >>> (Int32.toInt64 ((8 : Int32) * Int32.ofNat k) &&& 63))) &&& (255 : Int32)
def zf_le (v : Int64) (n : Nat) : List Int32 := (List.range n).map (zf_b v)
def zf_be (v : Int64) (n : Nat) : List Int32 := (List.range n).reverse.map (zf_b v)
theorem zf_le_len (v : Int64) (n : Nat) : (zf_le v n).length = n := by simp [zf_le]
theorem zf_be_len (v : Int64) (n : Nat) : (zf_be v n).length = n := by simp [zf_be]
theorem zf_put {s : am_Z} {n : Nat} (h : zf_n 3 s n) (hn : n < 400) (x : Int32) : fz_by_put s x = some (zf_1 3 s (x &&& (255 : Int32))) := by
  unfold fz_by_put
  have e400 : (400 : Int32) = Int32.ofNat 400 := rfl
  rw [if_neg (by rw [h.1, e400, nm_le (by omega) (by omega)]; omega), if_neg (by
    rw [h.1, nm_clamp (by omega)]
    intro hh
    rcases hh with hh | hh
    · exact nm_nneg (by omega) hh
    · omega)]
  rfl
theorem zf_putLittle_loop {v : Int64} {N : Nat} (hN : N ≤ 8) : ∀ (d : Nat) (i : Nat) (f : Nat) (s : am_Z) (n : Nat), i + d = N → d < f → zf_n 3 s n → n + d ≤ 400 → fz_by_putLittle_3 f v (Int32.ofNat N) (Int32.ofNat i) s = some (zf_a 3 s (((List.range N).drop i).map (zf_b v))) := by
  intro d
  induction d with
  | zero =>
    intro i f s n hi hf h hn
    obtain ⟨f, rfl⟩ : ∃ g, f = g + 1 := ⟨f - 1, by omega⟩
    have e : i = N := by omega
    subst e
    unfold fz_by_putLittle_3
    rw [if_pos (by rw [nm_le (by omega) (by omega)]; omega), List.drop_eq_nil_of_le (by simp)]
    rfl
  | succ d ih =>
    intro i f s n hi hf h hn
    obtain ⟨f, rfl⟩ : ∃ g, f = g + 1 := ⟨f - 1, by omega⟩
    unfold fz_by_putLittle_3
    rw [if_neg (by rw [nm_le (by omega) (by omega)]; omega), zf_put h (by omega)]
    simp only [Option.bind_some]
    have e1 : Int32.ofNat i + (1 : Int32) = Int32.ofNat (i + 1) := nm_add i 1
    rw [e1, ih (i + 1) f _ (n + 1) (by omega) (by omega) (zf_1_n h (by omega) _) (by omega)]
    rw [List.drop_eq_getElem_cons (show i < (List.range N).length by simp; omega)]
    simp only [List.getElem_range, List.map_cons, zf_a_cons]
    rfl
theorem zf_putLittle {s : am_Z} {n : Nat} (h : zf_n 3 s n) (v : Int64) {N : Nat} (hN : N ≤ 8) (hn : n + N ≤ 400) : fz_by_putLittle s v (Int32.ofNat N) = some (zf_a 3 s (zf_le v N)) := by
  unfold fz_by_putLittle
  rw [show (0 : Int32) = Int32.ofNat 0 from rfl, zf_putLittle_loop hN N 0 fz_fu s n (by omega) (by show N < 1000; omega) h hn]
  rfl
theorem zf_putBig_loop {v : Int64} : ∀ (i : Nat) (f : Nat) (s : am_Z) (n : Nat), i ≤ 8 → i < f → zf_n 3 s n → n + i ≤ 400 → fz_by_putBig_5 f v (Int32.ofNat i - (1 : Int32)) s = some (zf_a 3 s (zf_be v i)) := by
  intro i
  induction i with
  | zero =>
    intro f s n h8 hf h hn
    obtain ⟨f, rfl⟩ : ∃ g, f = g + 1 := ⟨f - 1, by omega⟩
    unfold fz_by_putBig_5
    rw [if_pos (by decide)]
    rfl
  | succ i ih =>
    intro f s n h8 hf h hn
    obtain ⟨f, rfl⟩ : ∃ g, f = g + 1 := ⟨f - 1, by omega⟩
    have e1 : Int32.ofNat (i + 1) - (1 : Int32) = Int32.ofNat i := nm_sub (b := 1) (by omega)
    unfold fz_by_putBig_5
    rw [e1, if_neg (nm_nneg (by omega)), zf_put h (by omega)]
    simp only [Option.bind_some]
    have e2 : Int32.ofNat i + (-1 : Int32) = Int32.ofNat i - (1 : Int32) := by rw [Int32.sub_eq_add_neg]
    rw [e2, ih f _ (n + 1) (by omega) (by omega) (zf_1_n h (by omega) _) (by omega)]
    unfold zf_be
    rw [List.range_succ, List.reverse_append]
    rfl
theorem zf_putBig {s : am_Z} {n : Nat} (h : zf_n 3 s n) (v : Int64) {N : Nat} (hN : N ≤ 8) (hn : n + N ≤ 400) : fz_by_putBig s v (Int32.ofNat N) = some (zf_a 3 s (zf_be v N)) := by
  unfold fz_by_putBig
  exact zf_putBig_loop N fz_fu s n hN (by show N < 1000; omega) h hn
/-- the same of the reference -/
theorem zm_put1 {K : Int64 → Int32 → Int32 → Int32 → am_Z → Option am_Z} {s : am_Z} {n : Nat} (h : zf_n 4 s n) (hn : n < 400) (v : Int64) (x3 x4 x5 y : Int32) : fz_mo_put_31 K v x3 x4 x5 y s = K v x3 x4 (x5 + (1 : Int32)) (zf_1 4 s ((Int64.toInt32 (v >>> (Int32.toInt64 y &&& 63))) &&& (255 : Int32))) := by
  unfold fz_mo_put_31
  rw [if_neg (by
    rw [h.1, nm_clamp (by omega)]
    intro hh
    rcases hh with hh | hh
    · exact nm_nneg (by omega) hh
    · omega)]
  rfl
theorem zm_put_little {v : Int64} {N : Nat} (hN : N ≤ 8) : ∀ (d i f : Nat) (s : am_Z) (n : Nat), i + d = N → d < f → zf_n 4 s n → n + d ≤ 400 → fz_mo_put_3 f v (Int32.ofNat N) 0 (Int32.ofNat i) s = some (zf_a 4 s (((List.range N).drop i).map (zf_b v))) := by
  intro d
  induction d with
  | zero =>
    intro i f s n hi hf h hn
    obtain ⟨f, rfl⟩ : ∃ g, f = g + 1 := ⟨f - 1, by omega⟩
    have e : i = N := by omega
    subst e
    unfold fz_mo_put_3
    rw [if_pos (by rw [nm_le (by omega) (by omega)]; omega), List.drop_eq_nil_of_le (by simp)]
    rfl
  | succ d ih =>
    intro i f s n hi hf h hn
    obtain ⟨f, rfl⟩ : ∃ g, f = g + 1 := ⟨f - 1, by omega⟩
    unfold fz_mo_put_3
    rw [if_neg (by rw [nm_le (by omega) (by omega)]; omega), if_pos rfl, zm_put1 h (by omega)]
    have e1 : Int32.ofNat i + (1 : Int32) = Int32.ofNat (i + 1) := nm_add i 1
    rw [e1, ih (i + 1) f _ (n + 1) (by omega) (by omega) (zf_1_n h (by omega) _) (by omega)]
    rw [List.drop_eq_getElem_cons (show i < (List.range N).length by simp; omega)]
    simp only [List.getElem_range, List.map_cons, zf_a_cons]
    rfl
theorem zm_put_big {v : Int64} {N : Nat} (hN : N ≤ 8) : ∀ (d i f : Nat) (s : am_Z) (n : Nat), i + d = N → d < f → zf_n 4 s n → n + d ≤ 400 → fz_mo_put_3 f v (Int32.ofNat N) 1 (Int32.ofNat i) s = some (zf_a 4 s (zf_be v d)) := by
  intro d
  induction d with
  | zero =>
    intro i f s n hi hf h hn
    obtain ⟨f, rfl⟩ : ∃ g, f = g + 1 := ⟨f - 1, by omega⟩
    have e : i = N := by omega
    subst e
    unfold fz_mo_put_3
    rw [if_pos (by rw [nm_le (by omega) (by omega)]; omega)]
    rfl
  | succ d ih =>
    intro i f s n hi hf h hn
    obtain ⟨f, rfl⟩ : ∃ g, f = g + 1 := ⟨f - 1, by omega⟩
    unfold fz_mo_put_3
    rw [if_neg (by rw [nm_le (by omega) (by omega)]; omega), if_neg (by decide), zm_put1 h (by omega)]
    have e1 : Int32.ofNat i + (1 : Int32) = Int32.ofNat (i + 1) := nm_add i 1
    have e2 : (Int32.ofNat N - (1 : Int32)) - Int32.ofNat i = Int32.ofNat d := by
      rw [show (1 : Int32) = Int32.ofNat 1 from rfl, nm_sub (by omega), nm_sub (by omega)]
      congr 1
      omega
    rw [e1, e2, ih (i + 1) f _ (n + 1) (by omega) (by omega) (zf_1_n h (by omega) _) (by omega)]
    have e3 : zf_be v (d + 1) = zf_b v d :: zf_be v d := by
      unfold zf_be
      rw [List.range_succ, List.reverse_append]
      rfl
    rw [e3]
    rfl
theorem zm_little {s : am_Z} {n : Nat} (h : zf_n 4 s n) (v : Int64) {N : Nat} (hN : N ≤ 8) (hn : n + N ≤ 400) : fz_mo_put s v (Int32.ofNat N) 0 = some (zf_a 4 s (zf_le v N)) := by
  unfold fz_mo_put
  rw [show (0 : Int32) = Int32.ofNat 0 from rfl]
  exact zm_put_little hN N 0 fz_fu s n (by omega) (by show N < 1000; omega) h hn
theorem zm_big {s : am_Z} {n : Nat} (h : zf_n 4 s n) (v : Int64) {N : Nat} (hN : N ≤ 8) (hn : n + N ≤ 400) : fz_mo_put s v (Int32.ofNat N) 1 = some (zf_a 4 s (zf_be v N)) := by
  unfold fz_mo_put
  rw [show (0 : Int32) = Int32.ofNat 0 from rfl]
  exact zm_put_big hN N 0 fz_fu s n (by omega) (by show N < 1000; omega) h hn
