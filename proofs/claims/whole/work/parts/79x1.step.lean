/-! Reading: the steps of both side by side. -/
theorem zz_same {s : am_Z} {i : Nat} {v : Int32} (h : s.1 i = v) : zz_i s i v = s := by
  unfold zz_i
  refine Prod.ext ?_ rfl
  funext j
  show zz_u s.1 i v j = s.1 j
  by_cases c : j = i
  · subst c
    rw [zz_u_s, h]
  · rw [zz_u_n _ _ c]
theorem zz_comm (s : am_Z) {i j : Nat} (h : i ≠ j) (a b : Int32) : zz_i (zz_i s i a) j b = zz_i (zz_i s j b) i a := by
  unfold zz_i
  refine Prod.ext ?_ rfl
  funext k
  show zz_u (zz_u s.1 i a) j b k = zz_u (zz_u s.1 j b) i a k
  by_cases c : k = j
  · subst c
    rw [zz_u_s, zz_u_n _ _ (Ne.symm h), zz_u_s]
  · by_cases d : k = i
    · subst d
      rw [zz_u_s, zz_u_n _ _ c, zz_u_s]
    · rw [zz_u_n _ _ c, zz_u_n _ _ d, zz_u_n _ _ d, zz_u_n _ _ c]
/-- what reading leaves alone -/
def zr_k (s S : am_Z) : Prop := (∀ i, i < 14 → S.1 i = s.1 i) ∧ ∀ r, r < 3 → S.2.2 r = s.2.2 r
def zr_km (m M : am_Z) : Prop := M.1 0 = 0 ∧ M.1 1 = m.1 1 ∧ M.1 3 = m.1 3 ∧ M.1 4 = m.1 4 ∧ M.1 6 = m.1 6 ∧ M.2.2 0 = m.2.2 0 ∧ M.2.2 1 = m.2.2 1
/-- both at place P -/
def zr (s m : am_Z) (N : Nat) (g : Int32) (S M : am_Z) (P : Nat) : Prop := zr_k s S ∧ zr_km m M ∧ S.1 14 = Int32.ofNat P ∧ S.1 15 = g ∧ M.1 7 = Int32.ofNat P ∧ M.1 8 = 0 ∧ P ≤ N
/-- both refused at the same place -/
def zr_F (s m S M : am_Z) : Prop := zr_k s S ∧ zr_km m M ∧ M.1 8 = 1 ∧ S.1 14 = M.1 7 ∧ ¬ S.1 14 = (-1 : Int32)
theorem nm_n1 {P : Nat} (h : P ≤ 400) : ¬ Int32.ofNat P = (-1 : Int32) := by
  intro hc
  have h1 : (Int32.ofNat P).toInt = (-1 : Int32).toInt := by rw [hc]
  have h2 : (-1 : Int32).toInt = -1 := by decide
  rw [nm_toInt (by omega), h2] at h1
  omega
theorem zr_B {s m S M : am_Z} {N P : Nat} {g : Int32} (hv : zv_f s m N) (h : zr s m N g S M P) : zf_B 3 S N ∧ zf_B 4 M N ∧ zb S = zb s ∧ ∀ i, i < N → zb M i = zb s i := by
  obtain ⟨⟨b1, b2, b3⟩, ⟨c1, c2, c3⟩, hb⟩ := zv_B hv
  obtain ⟨⟨k1, k2⟩, ⟨-, -, -, l4, -, -, l6⟩, -⟩ := h
  have e : zb S = zb s := by
    funext i
    unfold zb
    rw [k2 1 (by omega)]
  have e' : zb M = zb m := by
    funext i
    unfold zb
    rw [l6]
  refine ⟨⟨b1, (k1 3 (by omega)).trans b2, fun i hi => ?_⟩, ⟨c1, l4.trans c2, fun i hi => ?_⟩, e, fun i hi => ?_⟩
  · rw [e, k2 1 (by omega)]
    exact b3 i hi
  · rw [e', l6]
    exact c3 i hi
  · rw [e']
    exact (hb i hi).symm
theorem zr_lt {s m : am_Z} {N P n : Nat} (hv : zv_f s m N) (hn : n ≤ 4) (hp : P + n ≤ N) (y : Bool) : zn (zb s) P n y < 4294967296 := by
  have h1 : zn (zb s) P n y < 256 ^ n := zn_lt (fun i _ hi => ((zv_B hv).1.2.2 i (by omega)).1)
  have h2 : 256 ^ n ≤ 256 ^ 4 := Nat.pow_le_pow_right (by decide) hn
  have h3 : 256 ^ 4 = 4294967296 := by decide
  omega
theorem zr_has {s m S M : am_Z} {N P : Nat} {g : Int32} (hv : zv_f s m N) (h : zr s m N g S M P) {n : Nat} (hn : n ≤ 8) : fz_by_has S (Int32.ofNat P) (Int32.ofNat n) = some (if P + n ≤ N then 1 else 0) := zh_has (zr_B hv h).1 (by have := h.2.2.2.2.2.2; have := hv.1; omega) (by omega)
theorem zr_num {s m S M : am_Z} {N P : Nat} {g : Int32} (hv : zv_f s m N) (h : zr s m N g S M P) {n : Nat} (hn : n ≤ 8) (x : Int32) : fz_by_numberAt S (Int32.ofNat P) (Int32.ofNat n) x = some (if P + n ≤ N then Int64.ofNat (zn (zb s) P n (zfl x)) else 0) := by
  rw [← (zr_B hv h).2.2.1]
  exact zh_number (zr_B hv h).1 (by have := h.2.2.2.2.2.2; have := hv.1; omega) hn x
theorem zr_id {s m S M : am_Z} {N P : Nat} {g : Int32} (hv : zv_f s m N) (h : zr s m N g S M P) : fz_by_idAt S (Int32.ofNat P) = some (if P + 4 ≤ N then Int32.ofNat (zn (zb s) P 4 true) else 0) := by
  rw [← (zr_B hv h).2.2.1]
  exact zh_id (zr_B hv h).1 (by have := h.2.2.2.2.2.2; have := hv.1; omega)
theorem zr_peek {s m S M : am_Z} {N P : Nat} {g : Int32} (hv : zv_f s m N) (h : zr s m N g S M P) {p n : Nat} (hp : p < 100000) (hn : n ≤ 8) (x : Int32) : fz_mo_peek M (Int32.ofNat p) (Int32.ofNat n) x = some (if p + n ≤ N then Int64.ofNat (zn (zb s) p n (zfl x)) else -1) := by
  rw [zp_peek (zr_B hv h).2.1 (by omega) hn x]
  by_cases c : p + n ≤ N
  · rw [if_pos c, if_pos c, zn_congr (fun i _ hi => (zr_B hv h).2.2.2 i (by omega))]
  · rw [if_neg c, if_neg c]
theorem zr_up {s m S M : am_Z} {N P Q : Nat} {g : Int32} (h : zr s m N g S M P) (hQ : Q ≤ N) : zr s m N g (zz_i S 14 (Int32.ofNat Q)) (zz_i M 7 (Int32.ofNat Q)) Q := by
  obtain ⟨⟨k1, k2⟩, hm, h14, h15, h7, h8, hP⟩ := h
  refine ⟨⟨fun i hi => ?_, k2⟩, hm, rfl, h15, rfl, h8, hQ⟩
  show zz_u S.1 14 _ i = _
  rw [zz_u_n _ _ (by omega)]
  exact k1 i hi
theorem zr_f {s m S M : am_Z} {N P : Nat} {g : Int32} (hv : zv_f s m N) (h : zr s m N g S M P) : zr_F s m S (zz_i M 8 1) := by
  obtain ⟨hk, hm, h14, h15, h7, h8, hP⟩ := h
  have hN : N ≤ 400 := hv.1
  exact ⟨hk, hm, rfl, h14.trans h7.symm, by rw [h14]; exact nm_n1 (by omega)⟩
/-- a number that is asked for -/
theorem zr_ask {s m S M : am_Z} {N P : Nat} {g : Int32} (hv : zv_f s m N) (h : zr s m N g S M P) {n : Nat} (hn : n ≤ 4) (y : Int32) (lo hi : Int64) : (P + n ≤ N ∧ lo ≤ Int64.ofNat (zn (zb s) P n (zfl y)) ∧ Int64.ofNat (zn (zb s) P n (zfl y)) ≤ hi ∧ fz_mo_ask M (Int32.ofNat n) y lo hi = some (Int64.ofNat (zn (zb s) P n (zfl y)), zz_i M 7 (Int32.ofNat (P + n)))) ∨ (¬ (P + n ≤ N ∧ lo ≤ Int64.ofNat (zn (zb s) P n (zfl y)) ∧ Int64.ofNat (zn (zb s) P n (zfl y)) ≤ hi) ∧ fz_mo_ask M (Int32.ofNat n) y lo hi = some (0, zz_i M 8 1)) := by
  have hpk := zr_peek hv h (p := P) (n := n) (by have := h.2.2.2.2.2.2; have := hv.1; omega) (by omega) y
  have e7 := h.2.2.2.2.1
  have e8 := h.2.2.2.2.2.1
  by_cases c1 : P + n ≤ N
  · have hlt := zr_lt hv hn c1 (zfl y)
    obtain ⟨v, hvv⟩ : ∃ v, v = zn (zb s) P n (zfl y) := ⟨_, rfl⟩
    rw [← hvv] at hlt hpk ⊢
    rw [if_pos c1] at hpk
    have n0 : ¬ lg_cmp (Int64.ofNat v) (0 : Int64) < 0 := by
      rw [nm_cmplt, Int64.lt_iff_toInt_lt, nm_jtoInt (by omega)]
      have : (0 : Int64).toInt = 0 := rfl
      omega
    by_cases c2 : lo ≤ Int64.ofNat v
    · have n2 : ¬ lg_cmp (Int64.ofNat v) lo < 0 := by
        rw [nm_cmplt, Int64.lt_iff_toInt_lt]
        rw [Int64.le_iff_toInt_le] at c2
        omega
      by_cases c3 : Int64.ofNat v ≤ hi
      · left
        refine ⟨c1, c2, c3, ?_⟩
        unfold fz_mo_ask fz_mo_ask_23
        rw [if_pos e8, e7, hpk]
        simp only [zbs]
        rw [if_neg n0, if_neg n2, if_pos ((nm_cmple _ _).mpr c3), nm_add]
      · right
        refine ⟨fun hh => c3 hh.2.2, ?_⟩
        unfold fz_mo_ask fz_mo_ask_23 fz_mo_ask_47
        rw [if_pos e8, e7, hpk]
        simp only [zbs]
        rw [if_neg n0, if_neg n2, if_neg (fun hh => c3 ((nm_cmple _ _).mp hh))]
    · right
      refine ⟨fun hh => c2 hh.2.1, ?_⟩
      have n2 : lg_cmp (Int64.ofNat v) lo < 0 := by
        rw [nm_cmplt, Int64.lt_iff_toInt_lt]
        rw [Int64.le_iff_toInt_le] at c2
        omega
      unfold fz_mo_ask fz_mo_ask_23 fz_mo_ask_47
      rw [if_pos e8, e7, hpk]
      simp only [zbs]
      rw [if_neg n0, if_pos n2]
  · right
    refine ⟨fun hh => c1 hh.1, ?_⟩
    rw [if_neg c1] at hpk
    have n0 : lg_cmp (-1 : Int64) (0 : Int64) < 0 := by
      rw [nm_cmplt]
      decide
    unfold fz_mo_ask fz_mo_ask_23 fz_mo_ask_47
    rw [if_pos e8, e7, hpk]
    simp only [zbs]
    rw [if_pos n0]
theorem zr_ex_t {M M' : am_Z} {n y : Int32} {x : Int64} (h : fz_mo_ask M n y x x = some (x, M')) (h8 : M'.1 8 = 0) : fz_mo_exact M n y x = some M' := by
  unfold fz_mo_exact
  rw [h]
  simp only [zbs]
  rw [if_neg (not_not_intro h8), if_pos ((nm_cmp0 _ _).mpr rfl)]
  unfold fz_mo_exact_30
  rw [if_neg (show ¬ ¬ ((0 : Int32) = 0 ∨ (0 : Int32) = 1) by decide), zz_same h8]
theorem zr_ex_f {M : am_Z} {n y : Int32} {x : Int64} (h : fz_mo_ask M n y x x = some (0, zz_i M 8 1)) : fz_mo_exact M n y x = some (zz_i M 8 1) := by
  have e8 : ¬ (zz_i M 8 1).1 8 = 0 := by
    show ¬ (1 : Int32) = 0
    decide
  unfold fz_mo_exact
  rw [h]
  simp only [zbs]
  rw [if_pos e8]
  unfold fz_mo_exact_25 fz_mo_exact_30
  rw [if_neg (show ¬ ¬ ((1 : Int32) = 0 ∨ (1 : Int32) = 1) by decide), zz_ii]
/-- a number that must be there -/
theorem zr_take {s m S M : am_Z} {N P : Nat} {g : Int32} (hv : zv_f s m N) (h : zr s m N g S M P) {n : Nat} (hn : n ≤ 4) (y : Int32) (hy : zn (zb s) P n (zfl y) = zn (zb s) P n (zfl g)) (x : Int64) : (P + n ≤ N ∧ x = Int64.ofNat (zn (zb s) P n (zfl g)) ∧ fz_rd_take S (Int32.ofNat n) x = some (1, zz_i S 14 (Int32.ofNat (P + n))) ∧ fz_mo_exact M (Int32.ofNat n) y x = some (zz_i M 7 (Int32.ofNat (P + n))) ∧ zr s m N g (zz_i S 14 (Int32.ofNat (P + n))) (zz_i M 7 (Int32.ofNat (P + n))) (P + n)) ∨ (¬ (P + n ≤ N ∧ x = Int64.ofNat (zn (zb s) P n (zfl g))) ∧ fz_rd_take S (Int32.ofNat n) x = some (0, S) ∧ fz_mo_exact M (Int32.ofNat n) y x = some (zz_i M 8 1)) := by
  have hh := zr_has hv h (n := n) (by omega)
  have hu := zr_num hv h (n := n) (by omega) g
  have e14 := h.2.2.1
  have e15 := h.2.2.2.1
  have e8 : (zz_i M 7 (Int32.ofNat (P + n))).1 8 = 0 := h.2.2.2.2.2.1
  by_cases c1 : P + n ≤ N
  · rw [if_pos c1] at hh hu
    by_cases c2 : x = Int64.ofNat (zn (zb s) P n (zfl g))
    · left
      refine ⟨c1, c2, ?_, ?_, zr_up h c1⟩
      · unfold fz_rd_take
        rw [e14, hh]
        simp only [zbs]
        rw [if_neg (show ¬ (1 : Int32) = 0 by decide), e15, hu]
        simp only [zbs]
        rw [if_pos ((nm_cmp0 _ _).mpr c2.symm), nm_add]
      · rcases zr_ask hv h hn y x x with ⟨-, -, -, a4⟩ | ⟨a1, -⟩
        · rw [hy, ← c2] at a4
          exact zr_ex_t a4 e8
        · exact absurd ⟨c1, by rw [hy, c2]; exact Int64.le_refl _, by rw [hy, c2]; exact Int64.le_refl _⟩ a1
    · right
      refine ⟨fun hc => c2 hc.2, ?_, ?_⟩
      · unfold fz_rd_take
        rw [e14, hh]
        simp only [zbs]
        rw [if_neg (show ¬ (1 : Int32) = 0 by decide), e15, hu]
        simp only [zbs]
        rw [if_neg (fun hc => c2 ((nm_cmp0 _ _).mp hc).symm)]
      · rcases zr_ask hv h hn y x x with ⟨-, a2, a3, -⟩ | ⟨-, a2⟩
        · rw [hy] at a2 a3
          exact absurd (Int64.le_antisymm a2 a3) c2
        · exact zr_ex_f a2
  · right
    rw [if_neg c1] at hh
    refine ⟨fun hc => c1 hc.1, ?_, ?_⟩
    · unfold fz_rd_take
      rw [e14, hh]
      simp only [zbs]
      rw [if_pos trivial]
    · rcases zr_ask hv h hn y x x with ⟨a1, -⟩ | ⟨-, a2⟩
      · exact absurd a1 c1
      · exact zr_ex_f a2
/-- a number within bounds -/
theorem zr_within {s m S M : am_Z} {N P : Nat} {g : Int32} (hv : zv_f s m N) (h : zr s m N g S M P) {n : Nat} (hn : n ≤ 4) (lo hi : Int64) : (∃ v : Nat, v = zn (zb s) P n (zfl g) ∧ v < 4294967296 ∧ P + n ≤ N ∧ lo ≤ Int64.ofNat v ∧ Int64.ofNat v ≤ hi ∧ fz_rd_takeWithin S (Int32.ofNat n) lo hi = some (1, zz_i (zz_l S 0 (Int64.ofNat v)) 14 (Int32.ofNat (P + n))) ∧ fz_mo_ask M (Int32.ofNat n) g lo hi = some (Int64.ofNat v, zz_i M 7 (Int32.ofNat (P + n))) ∧ zr s m N g (zz_i (zz_l S 0 (Int64.ofNat v)) 14 (Int32.ofNat (P + n))) (zz_i M 7 (Int32.ofNat (P + n))) (P + n)) ∨ (∃ L : Int64, fz_rd_takeWithin S (Int32.ofNat n) lo hi = some (0, zz_l S 0 L) ∧ fz_mo_ask M (Int32.ofNat n) g lo hi = some (0, zz_i M 8 1)) ∨ (fz_rd_takeWithin S (Int32.ofNat n) lo hi = some (0, S) ∧ fz_mo_ask M (Int32.ofNat n) g lo hi = some (0, zz_i M 8 1)) := by
  have hh := zr_has hv h (n := n) (by omega)
  have hu := zr_num hv h (n := n) (by omega) g
  have e14 := h.2.2.1
  have e15 := h.2.2.2.1
  rcases zr_ask hv h hn g lo hi with ⟨c1, c2, c3, a4⟩ | ⟨a1, a2⟩
  · left
    refine ⟨_, rfl, zr_lt hv hn c1 _, c1, c2, c3, ?_, a4, zr_up h c1⟩
    rw [if_pos c1] at hh hu
    have n2 : ¬ lg_cmp (Int64.ofNat (zn (zb s) P n (zfl g))) lo < 0 := by
      rw [nm_cmplt, Int64.lt_iff_toInt_lt]
      rw [Int64.le_iff_toInt_le] at c2
      omega
    unfold fz_rd_takeWithin
    rw [e14, hh]
    simp only [zbs]
    rw [if_pos (show ¬ (1 : Int32) = 0 by decide), e15, hu]
    simp only [zbs]
    rw [if_neg n2, if_pos ((nm_cmple _ _).mpr c3), nm_add]
  · right
    by_cases c1 : P + n ≤ N
    · left
      refine ⟨Int64.ofNat (zn (zb s) P n (zfl g)), ?_, a2⟩
      rw [if_pos c1] at hh hu
      unfold fz_rd_takeWithin
      rw [e14, hh]
      simp only [zbs]
      rw [if_pos (show ¬ (1 : Int32) = 0 by decide), e15, hu]
      simp only [zbs]
      by_cases c2 : lg_cmp (Int64.ofNat (zn (zb s) P n (zfl g))) lo < 0
      · rw [if_pos c2]
      · rw [if_neg c2, if_neg]
        intro c3
        refine a1 ⟨c1, ?_, (nm_cmple _ _).mp c3⟩
        rw [nm_cmplt, Int64.lt_iff_toInt_lt] at c2
        rw [Int64.le_iff_toInt_le]
        omega
    · right
      refine ⟨?_, a2⟩
      rw [if_neg c1] at hh
      unfold fz_rd_takeWithin
      rw [e14, hh]
      simp only [zbs]
      rw [if_neg (not_not_intro trivial)]
/-- once refused -/
theorem zF_8 (M : am_Z) : ¬ (zz_i M 8 1).1 8 = 0 := by
  show ¬ (1 : Int32) = 0
  decide
theorem zF_ask (M : am_Z) (n y : Int32) (lo hi : Int64) : fz_mo_ask (zz_i M 8 1) n y lo hi = some (0, zz_i M 8 1) := by
  have n0 : lg_cmp (-1 : Int64) (0 : Int64) < 0 := by
    rw [nm_cmplt]
    decide
  unfold fz_mo_ask fz_mo_ask_23 fz_mo_ask_47
  rw [if_neg (zF_8 M), if_pos n0, zz_ii]
theorem zF_exact (M : am_Z) (n y : Int32) (x : Int64) : fz_mo_exact (zz_i M 8 1) n y x = some (zz_i M 8 1) := by
  have h := zr_ex_f (M := zz_i M 8 1) (n := n) (y := y) (x := x) (by rw [zF_ask, zz_ii])
  rw [h, zz_ii]
theorem zF_open (M : am_Z) (y : Int32) (a b c : Int64) : fz_mo_open (zz_i M 8 1) y a b c = some (0, zz_i M 8 1) := by
  have n0 : lg_cmp (-1 : Int64) (0 : Int64) < 0 := by
    rw [nm_cmplt]
    decide
  unfold fz_mo_open fz_mo_open_23 fz_mo_open_85 fz_mo_open_86
  rw [if_neg (zF_8 M), if_pos n0, if_neg (show ¬ ¬ (0 : Int32) = 0 by decide), zz_ii]
theorem zF_pad (M : am_Z) (x : Int32) : fz_mo_pad (zz_i M 8 1) x = some (zz_i M 8 1) := by
  unfold fz_mo_pad
  by_cases c : x - x / (2 : Int32) * (2 : Int32) = (1 : Int32)
  · rw [if_neg (not_not_intro c), zF_exact]
    simp only [zbs]
  · rw [if_pos c]
theorem zF_c (M : am_Z) {i : Nat} (h : i ≠ 8) (v : Int32) : zz_i (zz_i M 8 1) i v = zz_i (zz_i M i v) 8 1 := zz_comm M (Ne.symm h) 1 v
