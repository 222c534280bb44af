/-! Reading: sizes, bytes behind, chunks passed over. -/
theorem zr_sz {s m S M : am_Z} {N P : Nat} {g : Int32} (hv : zv_f s m N) (h : zr s m N g S M P) {x : Nat} (hx : x < 8589934592) : (P + 4 ≤ N ∧ x = zn (zb s) P 4 (zfl g) ∧ P + 4 + x + x % 2 ≤ N ∧ fz_rd_takeSize S (Int64.ofNat x) = some (1, zz_i S 14 (Int32.ofNat (P + 4)))) ∨ (¬ (P + 4 ≤ N ∧ x = zn (zb s) P 4 (zfl g) ∧ P + 4 + x + x % 2 ≤ N) ∧ fz_rd_takeSize S (Int64.ofNat x) = some (0, S)) := by
  have hh := zr_has hv h (n := 4) (by omega)
  have e14 := h.2.2.1
  have eN : N ≤ 400 := hv.1
  have e3 : S.1 3 = Int32.ofNat N := (zr_B hv h).1.2.1
  have hh' : fz_by_has S (Int32.ofNat P) 4 = some (if P + 4 ≤ N then 1 else 0) := hh
  by_cases c1 : P + 4 ≤ N
  · rw [if_pos c1] at hh'
    have ed : Int32.ofNat N - Int32.ofNat P - (4 : Int32) = Int32.ofNat (N - P - 4) := by
      rw [nm_sub (by omega)]
      exact nm_sub (b := 4) (by omega)
    have ec : (0 < lg_cmp (Int64.ofNat x + (Int64.ofNat x - Int64.ofNat x / (2 : Int64) * (2 : Int64))) (Int32.toInt64 (Int32.ofNat N - Int32.ofNat P - (4 : Int32)))) ↔ N - P - 4 < x + x % 2 := by
      rw [nm_jm2 (by omega), nm_jadd, ed, nm_i2l (by omega), nm_cmpgt, nm_jlt (by omega) (by omega)]
    by_cases c2 : P + 4 + x + x % 2 ≤ N
    · have n2 : ¬ (0 < lg_cmp (Int64.ofNat x + (Int64.ofNat x - Int64.ofNat x / (2 : Int64) * (2 : Int64))) (Int32.toInt64 (Int32.ofNat N - Int32.ofNat P - (4 : Int32)))) := by
        rw [ec]
        omega
      rcases zr_take hv h (n := 4) (by omega) g rfl (Int64.ofNat x) with ⟨-, a2, a3, -, -⟩ | ⟨a1, a3, -⟩
      · left
        have exv : x = zn (zb s) P 4 (zfl g) := (nm_jinj (by omega) (by have := zr_lt hv (n := 4) (by omega) c1 (zfl g); omega)).mp a2
        have a3' : fz_rd_take S 4 (Int64.ofNat x) = some (1, zz_i S 14 (Int32.ofNat (P + 4))) := a3
        refine ⟨c1, exv, c2, ?_⟩
        unfold fz_rd_takeSize
        rw [e14, hh']
        simp only [zbs]
        rw [if_neg (show ¬ (1 : Int32) = 0 by decide), e3, if_neg n2, a3']
        simp only [zbs]
        rw [if_neg (show ¬ (1 : Int32) = 0 by decide)]
      · right
        have a3' : fz_rd_take S 4 (Int64.ofNat x) = some (0, S) := a3
        refine ⟨fun hc => a1 ⟨hc.1, by rw [← hc.2.1]⟩, ?_⟩
        unfold fz_rd_takeSize fz_rd_takeSize_54
        rw [e14, hh']
        simp only [zbs]
        rw [if_neg (show ¬ (1 : Int32) = 0 by decide), e3, if_neg n2, a3']
        simp only [zbs]
        rw [if_pos trivial]
    · right
      refine ⟨fun hc => c2 hc.2.2, ?_⟩
      have n2 : 0 < lg_cmp (Int64.ofNat x + (Int64.ofNat x - Int64.ofNat x / (2 : Int64) * (2 : Int64))) (Int32.toInt64 (Int32.ofNat N - Int32.ofNat P - (4 : Int32))) := by
        rw [ec]
        omega
      unfold fz_rd_takeSize fz_rd_takeSize_54
      rw [e14, hh']
      simp only [zbs]
      rw [if_neg (show ¬ (1 : Int32) = 0 by decide), e3, if_pos n2]
  · right
    rw [if_neg c1] at hh'
    refine ⟨fun hc => c1 hc.1, ?_⟩
    unfold fz_rd_takeSize fz_rd_takeSize_54
    rw [e14, hh']
    simp only [zbs]
    rw [if_pos trivial]
theorem zr_op {s m S M : am_Z} {N P : Nat} {g : Int32} (hv : zv_f s m N) (h : zr s m N g S M P) (a b c : Int64) : (∃ v : Nat, v = zn (zb s) P 4 (zfl g) ∧ v < 4294967296 ∧ P + 4 ≤ N ∧ (Int64.ofNat v = a ∨ Int64.ofNat v = b ∨ Int64.ofNat v = c) ∧ P + 4 + v + v % 2 ≤ N ∧ fz_mo_open M g a b c = some (Int32.ofNat v, zz_i M 7 (Int32.ofNat (P + 4)))) ∨ (¬ (P + 4 ≤ N ∧ (Int64.ofNat (zn (zb s) P 4 (zfl g)) = a ∨ Int64.ofNat (zn (zb s) P 4 (zfl g)) = b ∨ Int64.ofNat (zn (zb s) P 4 (zfl g)) = c) ∧ P + 4 + zn (zb s) P 4 (zfl g) + zn (zb s) P 4 (zfl g) % 2 ≤ N) ∧ fz_mo_open M g a b c = some (0, zz_i M 8 1)) := by
  have eN : N ≤ 400 := hv.1
  have hP := h.2.2.2.2.2.2
  have hpk := zr_peek hv h (p := P) (n := 4) (by omega) (by omega) g
  have e7 := h.2.2.2.2.1
  have e8 := h.2.2.2.2.2.1
  have e4 : M.1 4 = Int32.ofNat N := (zr_B hv h).2.1.2.1
  have z10 : ¬ ¬ (0 : Int32) = 0 := by decide
  have z11 : ¬ (1 : Int32) = 0 := by decide
  by_cases c1 : P + 4 ≤ N
  · have hlt := zr_lt hv (n := 4) (by omega) c1 (zfl g)
    obtain ⟨v, hvv⟩ : ∃ v, v = zn (zb s) P 4 (zfl g) := ⟨_, rfl⟩
    rw [← hvv] at hlt hpk ⊢
    rw [if_pos c1] at hpk
    have hpk' : fz_mo_peek M (Int32.ofNat P) 4 g = some (Int64.ofNat v) := hpk
    have n0 : ¬ lg_cmp (Int64.ofNat v) (0 : Int64) < 0 := by
      rw [nm_cmplt, Int64.lt_iff_toInt_lt, nm_jtoInt (by omega)]
      have : (0 : Int64).toInt = 0 := rfl
      omega
    have ep : Int32.ofNat P + (4 : Int32) = Int32.ofNat (P + 4) := nm_add P 4
    have ec : (0 < lg_cmp (Int32.toInt64 (Int32.ofNat P + (4 : Int32)) + Int64.ofNat v + (Int64.ofNat v - Int64.ofNat v / (2 : Int64) * (2 : Int64))) (Int32.toInt64 (Int32.ofNat N))) ↔ N < P + 4 + v + v % 2 := by
      rw [nm_jm2 (by omega), ep, nm_i2l (by omega), nm_jadd, nm_jadd, nm_i2l (by omega), nm_cmpgt, nm_jlt (by omega) (by omega)]
    have h55 : fz_mo_open_55 (Int64.ofNat v) M = if P + 4 + v + v % 2 ≤ N then some (Int32.ofNat v, zz_i M 7 (Int32.ofNat (P + 4))) else some (0, zz_i M 8 1) := by
      unfold fz_mo_open_55 fz_mo_open_85 fz_mo_open_86
      rw [e7, e4]
      by_cases c2 : P + 4 + v + v % 2 ≤ N
      · rw [if_neg (fun hc => by have := ec.mp hc; omega), if_pos c2, if_pos z11, nm_l2i, ep]
      · rw [if_pos (ec.mpr (by omega)), if_neg c2, if_neg z10]
    have h23 : fz_mo_open M g a b c = if (Int64.ofNat v = a ∨ Int64.ofNat v = b ∨ Int64.ofNat v = c) then fz_mo_open_55 (Int64.ofNat v) M else some (0, zz_i M 8 1) := by
      unfold fz_mo_open fz_mo_open_23
      rw [if_pos e8, e7, hpk']
      simp only [zbs]
      rw [if_neg n0]
      by_cases ca : Int64.ofNat v = a
      · rw [if_pos ((nm_cmp0 _ _).mpr ca), if_pos (Or.inl ca)]
      · rw [if_neg (fun hc => ca ((nm_cmp0 _ _).mp hc))]
        by_cases cb : Int64.ofNat v = b
        · rw [if_pos ((nm_cmp0 _ _).mpr cb), if_pos (Or.inr (Or.inl cb))]
        · rw [if_neg (fun hc => cb ((nm_cmp0 _ _).mp hc))]
          by_cases cc : Int64.ofNat v = c
          · rw [if_neg (not_not_intro ((nm_cmp0 _ _).mpr cc)), if_pos (Or.inr (Or.inr cc))]
          · rw [if_pos (fun hc => cc ((nm_cmp0 _ _).mp hc)), if_neg (fun hc => hc.elim ca (fun hc => hc.elim cb cc))]
            unfold fz_mo_open_85 fz_mo_open_86
            rw [if_neg z10]
    by_cases c2 : (Int64.ofNat v = a ∨ Int64.ofNat v = b ∨ Int64.ofNat v = c)
    · by_cases c3 : P + 4 + v + v % 2 ≤ N
      · left
        refine ⟨v, rfl, hlt, c1, c2, c3, ?_⟩
        rw [h23, if_pos c2, h55, if_pos c3]
      · right
        refine ⟨fun hc => c3 hc.2.2, ?_⟩
        rw [h23, if_pos c2, h55, if_neg c3]
    · right
      refine ⟨fun hc => c2 hc.2.1, ?_⟩
      rw [h23, if_neg c2]
  · right
    rw [if_neg c1] at hpk
    have hpk' : fz_mo_peek M (Int32.ofNat P) 4 g = some (-1) := hpk
    refine ⟨fun hc => c1 hc.1, ?_⟩
    have n0 : lg_cmp (-1 : Int64) (0 : Int64) < 0 := by
      rw [nm_cmplt]
      decide
    unfold fz_mo_open fz_mo_open_23 fz_mo_open_85 fz_mo_open_86
    rw [if_pos e8, e7, hpk']
    simp only [zbs]
    rw [if_pos n0, if_neg (not_not_intro trivial)]
theorem zn_1 (b : Nat → Nat) (P : Nat) (x y : Bool) : zn b P 1 x = zn b P 1 y := by
  cases x <;> cases y <;> rfl
/-- the byte behind -/
theorem zr_pad {s m S M : am_Z} {N P : Nat} {g : Int32} (hv : zv_f s m N) (h : zr s m N g S M P) {z : Nat} (hz : z < 2147483648) : (fz_rd_takeByteBehind S (Int64.ofNat z) = some (1, zz_i S 14 (Int32.ofNat (P + z % 2))) ∧ fz_mo_pad M (Int32.ofNat z) = some (zz_i M 7 (Int32.ofNat (P + z % 2))) ∧ zr s m N g (zz_i S 14 (Int32.ofNat (P + z % 2))) (zz_i M 7 (Int32.ofNat (P + z % 2))) (P + z % 2)) ∨ (fz_rd_takeByteBehind S (Int64.ofNat z) = some (0, S) ∧ fz_mo_pad M (Int32.ofNat z) = some (zz_i M 8 1)) := by
  rcases Nat.mod_two_eq_zero_or_one z with h2 | h2
  · left
    refine ⟨?_, ?_, ?_⟩
    · unfold fz_rd_takeByteBehind fz_rd_takeByteBehind_19
      rw [nm_jm2 (by omega), h2, if_pos ((nm_cmp0 (Int64.ofNat 0) 0).mpr rfl), Nat.add_zero, zz_same h.2.2.1]
    · unfold fz_mo_pad
      rw [nm_m2 hz, h2, if_pos (show ¬ Int32.ofNat 0 = 1 by decide), Nat.add_zero, zz_same h.2.2.2.2.1]
    · rw [h2]
      exact zr_up h h.2.2.2.2.2.2
  · have hc : ¬ lg_cmp (Int64.ofNat z - Int64.ofNat z / (2 : Int64) * (2 : Int64)) (0 : Int64) = 0 := by
      rw [nm_jm2 (by omega), h2, nm_cmp0]
      decide
    have hc2 : ¬ ¬ (Int32.ofNat z - Int32.ofNat z / (2 : Int32) * (2 : Int32)) = (1 : Int32) := by
      rw [nm_m2 hz, h2]
      decide
    rcases zr_take hv h (n := 1) (by omega) 0 (zn_1 _ _ _ _) 0 with ⟨-, -, a3, a4, a5⟩ | ⟨-, a3, a4⟩
    · left
      rw [h2]
      refine ⟨?_, ?_, a5⟩
      · have a3' : fz_rd_take S 1 0 = some (1, zz_i S 14 (Int32.ofNat (P + 1))) := a3
        unfold fz_rd_takeByteBehind fz_rd_takeByteBehind_19
        rw [if_neg hc, a3']
        simp only [zbs]
        rw [if_neg (show ¬ (1 : Int32) = 0 by decide)]
      · have a4' : fz_mo_exact M 1 0 0 = some (zz_i M 7 (Int32.ofNat (P + 1))) := a4
        unfold fz_mo_pad
        rw [if_neg hc2, a4']
        simp only [zbs]
    · right
      refine ⟨?_, ?_⟩
      · have a3' : fz_rd_take S 1 0 = some (0, S) := a3
        unfold fz_rd_takeByteBehind
        rw [if_neg hc, a3']
        simp only [zbs]
        rw [if_pos trivial]
      · have a4' : fz_mo_exact M 1 0 0 = some (zz_i M 8 1) := a4
        unfold fz_mo_pad
        rw [if_neg hc2, a4']
        simp only [zbs]
/-- how a step ends -/
def zr_E (s m : am_Z) (N : Nat) (g : Int32) (F : am_Z → am_Z → Nat → Prop) (A : Option (Int32 × am_Z)) (B : Option am_Z) : Prop := (∃ (S M : am_Z) (P : Nat), A = some (1, S) ∧ B = some M ∧ zr s m N g S M P ∧ F S M P) ∨ ∃ (S M : am_Z), A = some (0, S) ∧ B = some M ∧ zr_F s m S M
theorem zr_pass {s m S M : am_Z} {N P : Nat} {g : Int32} (hv : zv_f s m N) (h : zr s m N g S M P) (hP4 : P + 4 ≤ N) : zr_E s m N g (fun S' M' P' => P + 8 ≤ P' ∧ S' = zz_i S 14 (Int32.ofNat P') ∧ M' = zz_i M 7 (Int32.ofNat P')) (fz_rd_passOver S) (fz_mo_passOver (zz_i M 7 (Int32.ofNat (P + 4))) g) := by
  have eN : N ≤ 400 := hv.1
  have h1 := zr_up h hP4
  have e14 := h.2.2.1
  have ep : Int32.ofNat P + (4 : Int32) = Int32.ofNat (P + 4) := nm_add P 4
  have hpk := zr_peek hv h1 (p := P + 4) (n := 4) (by omega) (by omega) g
  have hpk' : fz_mo_peek (zz_i M 7 (Int32.ofNat (P + 4))) (Int32.ofNat (P + 4)) 4 g = some (if P + 4 + 4 ≤ N then Int64.ofNat (zn (zb s) (P + 4) 4 (zfl g)) else -1) := hpk
  have hh : fz_by_has (zz_i S 14 (Int32.ofNat (P + 4))) (Int32.ofNat (P + 4)) 4 = some (if P + 4 + 4 ≤ N then 1 else 0) := zr_has hv h1 (n := 4) (by omega)
  have hu : fz_by_numberAt (zz_i S 14 (Int32.ofNat (P + 4))) (Int32.ofNat (P + 4)) 4 g = some (if P + 4 + 4 ≤ N then Int64.ofNat (zn (zb s) (P + 4) 4 (zfl g)) else 0) := zr_num hv h1 (n := 4) (by omega) g
  have e15 := h.2.2.2.1
  have z0 : ¬ ((0 : Int32) - (0 : Int32) / (2 : Int32) * (2 : Int32)) = (1 : Int32) := by decide
  -- the reference, once its size is refused
  have fm : ∀ x : Int64, fz_mo_open (zz_i M 7 (Int32.ofNat (P + 4))) g x x x = some (0, zz_i (zz_i M 7 (Int32.ofNat (P + 4))) 8 1) → fz_mo_peek (zz_i M 7 (Int32.ofNat (P + 4))) (Int32.ofNat (P + 4)) 4 g = some x → fz_mo_passOver (zz_i M 7 (Int32.ofNat (P + 4))) g = some (zz_i (zz_i M 7 (Int32.ofNat (P + 4))) 8 1) := by
    intro x ho hp
    unfold fz_mo_passOver
    rw [show (zz_i M 7 (Int32.ofNat (P + 4))).1 7 = Int32.ofNat (P + 4) from rfl, hp]
    simp only [zbs]
    rw [ho]
    simp only [zbs]
    rw [show (zz_i (zz_i M 7 (Int32.ofNat (P + 4))) 8 1).1 7 = Int32.ofNat (P + 4) from rfl, Int32.add_zero, zF_c _ (by decide), zz_ii, zF_pad]
    simp only [zbs]
  by_cases c1 : P + 4 + 4 ≤ N
  · rw [if_pos c1] at hpk' hh hu
    have hlt := zr_lt hv (n := 4) (by omega) c1 (zfl g)
    obtain ⟨v, hvv⟩ : ∃ v, v = zn (zb s) (P + 4) 4 (zfl g) := ⟨_, rfl⟩
    rw [← hvv] at hlt hpk' hu
    rcases zr_sz hv h1 (x := v) (by omega) with ⟨-, -, a3, a4⟩ | ⟨a1, a4⟩
    · rcases zr_op hv h1 (Int64.ofNat v) (Int64.ofNat v) (Int64.ofNat v) with ⟨w, b1, -, -, -, -, b6⟩ | ⟨b1, -⟩
      · rw [← hvv] at b1
        subst b1
        have h2 : zr s m N g (zz_i S 14 (Int32.ofNat (P + 4 + 4 + w))) (zz_i M 7 (Int32.ofNat (P + 4 + 4 + w))) (P + 4 + 4 + w) := zr_up h (by omega)
        have ev : Int32.ofNat (P + 4 + 4) + Int32.ofNat w = Int32.ofNat (P + 4 + 4 + w) := nm_add _ _
        have eR : fz_mo_passOver (zz_i M 7 (Int32.ofNat (P + 4))) g = fz_mo_pad (zz_i M 7 (Int32.ofNat (P + 4 + 4 + w))) (Int32.ofNat w) := by
          unfold fz_mo_passOver
          rw [show (zz_i M 7 (Int32.ofNat (P + 4))).1 7 = Int32.ofNat (P + 4) from rfl, hpk']
          simp only [zbs]
          rw [b6]
          simp only [zbs]
          rw [show (zz_i (zz_i M 7 (Int32.ofNat (P + 4))) 7 (Int32.ofNat (P + 4 + 4))).1 7 = Int32.ofNat (P + 4 + 4) from rfl, ev, zz_ii, zz_ii]
          cases fz_mo_pad (zz_i M 7 (Int32.ofNat (P + 4 + 4 + w))) (Int32.ofNat w) <;> rfl
        have eC : ∀ (k : Int32) (Z : am_Z), (k = 0 ∨ k = 1) → fz_rd_takeByteBehind (zz_i S 14 (Int32.ofNat (P + 4 + 4 + w))) (Int64.ofNat w) = some (k, Z) → fz_rd_passOver S = some (k, Z) := by
          intro k Z hk hb
          unfold fz_rd_passOver
          rw [e14, ep, hh]
          simp only [zbs]
          rw [if_pos (show ¬ (1 : Int32) = 0 by decide), e15, hu]
          simp only [zbs]
          rw [a4]
          simp only [zbs]
          rw [if_pos (show ¬ (1 : Int32) = 0 by decide), show (zz_i (zz_i S 14 (Int32.ofNat (P + 4))) 14 (Int32.ofNat (P + 4 + 4))).1 14 = Int32.ofNat (P + 4 + 4) from rfl, nm_l2i, ev, zz_ii, zz_ii, hb]
          simp only [zbs]
          rw [if_neg (not_not_intro hk)]
        rcases zr_pad hv h2 (z := w) (by omega) with ⟨d1, d2, d3⟩ | ⟨d1, d2⟩
        · left
          refine ⟨_, _, _, eC 1 _ (Or.inr rfl) d1, eR.trans d2, d3, by omega, ?_, ?_⟩
          · rw [zz_ii]
          · rw [zz_ii]
        · right
          exact ⟨_, _, eC 0 _ (Or.inl rfl) d1, eR.trans d2, zr_f hv h2⟩
      · exact absurd ⟨c1, Or.inl (by rw [hvv]), by rw [← hvv]; exact a3⟩ b1
    · right
      rcases zr_op hv h1 (Int64.ofNat v) (Int64.ofNat v) (Int64.ofNat v) with ⟨w, b1, -, -, -, b5, -⟩ | ⟨-, b6⟩
      · rw [← hvv] at b1
        subst b1
        exact absurd ⟨c1, hvv, b5⟩ a1
      · refine ⟨_, _, ?_, fm _ b6 hpk', zr_f hv h1⟩
        unfold fz_rd_passOver
        rw [e14, ep, hh]
        simp only [zbs]
        rw [if_pos (show ¬ (1 : Int32) = 0 by decide), e15, hu]
        simp only [zbs]
        rw [a4]
        simp only [zbs]
        rw [if_neg (not_not_intro trivial)]
  · right
    rw [if_neg c1] at hpk' hh
    rcases zr_op hv h1 (-1) (-1) (-1) with ⟨w, -, -, b3, -⟩ | ⟨-, b6⟩
    · exact absurd b3 c1
    · refine ⟨_, _, ?_, fm _ b6 hpk', zr_f hv h1⟩
      unfold fz_rd_passOver
      rw [e14, ep, hh]
      simp only [zbs]
      rw [if_neg (not_not_intro trivial)]
