/-! Reading: the chunks of a wave file, both. -/
def zr_rr (S M : am_Z) : Prop := ∃ r : Nat, 1 ≤ r ∧ r ≤ 192000 ∧ S.1 21 = Int32.ofNat r ∧ M.1 11 = Int32.ofNat r
def zr_H (S M : am_Z) : Prop := S.1 20 = 0 ∧ ((S.1 22 = 0 ∧ M.1 15 = 0) ∨ (M.1 15 = 1 ∧ zr_fm S M ∧ zr_rr S M)) ∧ ((S.1 16 = 0 ∧ M.1 16 = 0) ∨ (S.1 16 = 1 ∧ M.1 16 = 1 ∧ ∃ c : Nat, c ≤ 64 ∧ S.1 18 = Int32.ofNat c ∧ M.1 10 = Int32.ofNat c))
/-- how reading ends -/
def zr_O (s m : am_Z) (N : Nat) (g : Int32) (F : am_Z → am_Z → Prop) (A : Option (Int32 × am_Z)) (B : Option am_Z) : Prop := (∃ S M : am_Z, A = some (S.1 14, S) ∧ B = some M ∧ (zr_F s m S M ∨ ∃ P, P < N ∧ zr s m N g S M P)) ∨ ∃ S M : am_Z, A = some (-1, S) ∧ B = some M ∧ zr s m N g S M N ∧ F S M
theorem zr_66 (S : am_Z) : fz_rd_readFile_66 0 S = some (S.1 14, S) := by
  unfold fz_rd_readFile_66 fz_rd_readFile_112 fz_rd_readFile_113
  rw [if_pos (show (0 : Int32) = 0 from rfl), if_pos (show (0 : Int32) = 0 from rfl)]
theorem zr_38f (f : Nat) (x : Int32) (S : am_Z) : fz_rd_readFile_38 (f + 1) 0 x S = some (S.1 14, S) := by
  unfold fz_rd_readFile_38
  rw [zr_66]
  by_cases c : (50 : Int32) ≤ x
  · rw [if_pos c]
  · rw [if_neg c, if_pos (show (0 : Int32) = 0 from rfl)]
theorem zr_112 (S : am_Z) : fz_rd_readFile_112 S = some (S.1 14, S) := by
  unfold fz_rd_readFile_112 fz_rd_readFile_113
  rw [if_pos (show (0 : Int32) = 0 from rfl)]
theorem zr_94 {s m S M : am_Z} {N P : Nat} {g : Int32} {F : am_Z → am_Z → Prop} (hv : zv_f s m N) (h : zr s m N g S M P) (hF : F S M) : zr_O s m N g F (fz_rd_readFile_94 S) (some M) := by
  have eN : N ≤ 400 := hv.1
  have hP := h.2.2.2.2.2.2
  have e3 : S.1 3 = Int32.ofNat N := (zr_B hv h).1.2.1
  unfold fz_rd_readFile_94
  rw [h.2.2.1, e3]
  by_cases c : P = N
  · right
    subst c
    refine ⟨S, M, ?_, rfl, h, hF⟩
    unfold fz_rd_readFile_113
    rw [if_neg (show ¬ ¬ Int32.ofNat P = Int32.ofNat P from not_not_intro rfl), if_neg (show ¬ (1 : Int32) = 0 by decide)]
  · left
    refine ⟨S, M, ?_, rfl, Or.inr ⟨P, by omega, h⟩⟩
    rw [if_pos (fun hc => c ((nm_inj (by omega) (by omega)).mp hc)), zr_112]
theorem zr_wrap {s m : am_Z} {N : Nat} {g : Int32} {F : am_Z → am_Z → Nat → Prop} {A : Option (Int32 × am_Z)} {B : Option am_Z} (h : zr_E s m N g F A B) (f : am_Z → Option (Int32 × am_Z)) (hf : ∀ Z, f Z = some (0, Z)) : zr_E s m N g F (A.bind fun q1 => if q1.1 = 0 then f q1.2 else some (1, q1.2)) B := by
  rcases h with ⟨S, M, P, h1, h2, h3, h4⟩ | ⟨S, M, h1, h2, h3⟩
  · left
    refine ⟨S, M, P, ?_, h2, h3, h4⟩
    rw [h1]
    simp only [zbs]
    rw [if_neg (show ¬ (1 : Int32) = 0 by decide)]
  · right
    refine ⟨S, M, ?_, h2, h3⟩
    rw [h1]
    simp only [zbs]
    rw [if_pos trivial, hf]
theorem zr_wrap2 {s m : am_Z} {N : Nat} {g : Int32} {F : am_Z → am_Z → Nat → Prop} {A : Option (Int32 × am_Z)} {B : Option am_Z} (h : zr_E s m N g F A B) : zr_E s m N g F (A.bind fun q1 => if ¬ (q1.1 = 0 ∨ q1.1 = 1) then none else some (q1.1, q1.2)) B := by
  rcases h with ⟨S, M, P, h1, h2, h3, h4⟩ | ⟨S, M, h1, h2, h3⟩
  · left
    refine ⟨S, M, P, ?_, h2, h3, h4⟩
    rw [h1]
    simp only [zbs]
    rw [if_neg (not_not_intro (Or.inr trivial))]
  · right
    refine ⟨S, M, ?_, h2, h3⟩
    rw [h1]
    simp only [zbs]
    rw [if_neg (not_not_intro (Or.inl trivial))]
/-- what both find at a place -/
theorem zr_at {s m S M : am_Z} {N P : Nat} {g : Int32} (hv : zv_f s m N) (h : zr s m N g S M P) (h4 : P + 4 ≤ N) : ∃ v : Nat, v = zn (zb s) P 4 true ∧ v < 4294967296 ∧ fz_by_has S (S.1 14) 4 = some 1 ∧ fz_by_idAt S (S.1 14) = some (Int32.ofNat v) ∧ fz_mo_peek M (M.1 7) 4 1 = some (Int64.ofNat v) := by
  have hh : fz_by_has S (Int32.ofNat P) 4 = some (if P + 4 ≤ N then 1 else 0) := zr_has hv h (n := 4) (by omega)
  have hi := zr_id hv h
  have hp : fz_mo_peek M (Int32.ofNat P) 4 1 = some (if P + 4 ≤ N then Int64.ofNat (zn (zb s) P 4 (zfl 1)) else -1) := zr_peek hv h (p := P) (n := 4) (by have := hv.1; omega) (by omega) 1
  rw [if_pos h4] at hh hi hp
  rw [show zfl 1 = true by decide] at hp
  refine ⟨_, rfl, zr_lt hv (n := 4) (by omega) h4 true, ?_, ?_, ?_⟩
  · rw [h.2.2.1]; exact hh
  · rw [h.2.2.1]; exact hi
  · rw [h.2.2.2.2.1]; exact hp
theorem zr_at0 {s m S M : am_Z} {N P : Nat} {g : Int32} (hv : zv_f s m N) (h : zr s m N g S M P) (h4 : ¬ P + 4 ≤ N) : fz_by_has S (S.1 14) 4 = some 0 ∧ fz_mo_peek M (M.1 7) 4 1 = some (-1) ∧ M.1 4 < M.1 7 + (4 : Int32) := by
  have eN : N ≤ 400 := hv.1
  have hP := h.2.2.2.2.2.2
  have hh : fz_by_has S (Int32.ofNat P) 4 = some (if P + 4 ≤ N then 1 else 0) := zr_has hv h (n := 4) (by omega)
  have hp : fz_mo_peek M (Int32.ofNat P) 4 1 = some (if P + 4 ≤ N then Int64.ofNat (zn (zb s) P 4 (zfl 1)) else -1) := zr_peek hv h (p := P) (n := 4) (by omega) (by omega) 1
  have e4 : M.1 4 = Int32.ofNat N := (zr_B hv h).2.1.2.1
  have ep : Int32.ofNat P + (4 : Int32) = Int32.ofNat (P + 4) := nm_add P 4
  rw [if_neg h4] at hh hp
  refine ⟨?_, ?_, ?_⟩
  · rw [h.2.2.1]; exact hh
  · rw [h.2.2.2.2.1]; exact hp
  · rw [h.2.2.2.2.1, e4, ep, nm_lt (by omega) (by omega)]
    omega
/-- on with the next chunk -/
theorem zw_next {s m S : am_Z} {N : Nat} {F : am_Z → am_Z → Nat → Prop} {Y : am_Z → am_Z → Prop} {B : Option am_Z} {i f g : Nat} (hE : zr_E s m N 0 F (fz_rd_takeChunk S) B) (hi : i < 50) (h15 : fz_rd_isAtSamples S = some 0) (K : ∀ S' M' P', zr s m N 0 S' M' P' → F S' M' P' → zr_O s m N 0 Y (fz_rd_readFile_38 (f + 1) 1 (Int32.ofNat (i + 1)) S') (fz_mo_readWave_2 (g + 1) 0 M')) : zr_O s m N 0 Y (fz_rd_readFile_38 (f + 1 + 1) 1 (Int32.ofNat i) S) (B.bind fun q => fz_mo_readWave_2 (g + 1) 0 q) := by
  have h50 : ¬ (50 : Int32) ≤ Int32.ofNat i := fun hc => by
    have := (nm_le (a := 50) (b := i) (by omega) (by omega)).mp hc
    omega
  have e1 : Int32.ofNat i + (1 : Int32) = Int32.ofNat (i + 1) := nm_add i 1
  have C : fz_rd_readFile_38 (f + 1 + 1) 1 (Int32.ofNat i) S = ((fz_rd_takeChunk S).bind fun q2 => fz_rd_readFile_38 (f + 1) q2.1 (Int32.ofNat (i + 1)) q2.2) := by
    conv => lhs; unfold fz_rd_readFile_38
    rw [if_neg h50, if_neg (show ¬ (1 : Int32) = 0 by decide), h15]
    simp only [zbs]
    rw [if_neg (not_not_intro trivial), e1]
  rw [C]
  rcases hE with ⟨S', M', P', h1, h2, h3, h4⟩ | ⟨S', M', h1, h2, h3⟩
  · rw [h1, h2]
    simp only [zbs]
    exact K S' M' P' h3 h4
  · rw [h1, h2]
    simp only [zbs]
    rw [zr_38f, zF_w2 g 0 M' (by rw [h3.2.2.1]; decide)]
    exact Or.inl ⟨S', M', rfl, rfl, Or.inl h3⟩
def zr_Y (S M : am_Z) : Prop := ∃ c : Nat, zr_d S M c c ∧ zr_fm S M ∧ zr_rr S M
theorem zr_fm_t {S M S' M' : am_Z} (h : zr_fm S M) (h22 : S'.1 22 = S.1 22) (h23 : S'.1 23 = S.1 23) (h24 : S'.1 24 = S.1 24) (h25 : S'.1 25 = S.1 25) (h12 : M'.1 12 = M.1 12) (h13 : M'.1 13 = M.1 13) : zr_fm S' M' := by
  obtain ⟨T, hd, q, ib, a1, a2, a3, a4, a5, a6, a7, a8⟩ := h
  exact ⟨T, hd, q, ib, a1, a2, h22.trans a3, h23.trans a4, h24.trans a5, h25.trans a6, h12.trans a7, h13.trans a8⟩
theorem zr_rr_t {S M S' M' : am_Z} (h : zr_rr S M) (h21 : S'.1 21 = S.1 21) (h11 : M'.1 11 = M.1 11) : zr_rr S' M' := by
  obtain ⟨r, a1, a2, a3, a4⟩ := h
  exact ⟨r, a1, a2, h21.trans a3, h11.trans a4⟩
/-- the samples at last -/
theorem zw_dat {s m S M : am_Z} {N P : Nat} (hv : zv_f s m N) (h : zr s m N 0 S M P) (h4 : P + 4 ≤ N) (hid : Int32.ofNat (zn (zb s) P 4 true) = 1684108385) (hH : zr_H S M) (g : Nat) : zr_O s m N 0 zr_Y (fz_rd_readFile_66 1 S) (if (if M.1 15 = 0 ∨ (¬ M.1 12 = 1 ∧ M.1 16 = 0) then (1 : Int32) else 0) = 0 then (fz_mo_readData (zz_i M 7 (Int32.ofNat (P + 4)))).bind fun q4 => fz_mo_readWave_2 (g + 1) 1 q4 else some (zz_i M 8 1)) := by
  have z1 : ¬ (1 : Int32) = 0 := by decide
  obtain ⟨h20, hf, hc⟩ := hH
  have C : fz_rd_readFile_66 1 S = ((fz_rd_takeData S).bind fun q1 => if q1.1 = 0 then fz_rd_readFile_112 q1.2 else fz_rd_readFile_94 q1.2) := by
    unfold fz_rd_readFile_66
    rw [if_neg z1, if_pos h.2.2.2.1]
  have bad : fz_rd_takeData S = some (0, S) → zr_O s m N 0 zr_Y (fz_rd_readFile_66 1 S) (some (zz_i M 8 1)) := by
    intro hd
    rw [C, hd]
    simp only [zbs]
    rw [if_pos trivial, zr_112]
    exact Or.inl ⟨S, _, rfl, rfl, Or.inl (zr_f hv h)⟩
  have good : ∀ F : am_Z → am_Z → Nat → Prop, zr_E s m N 0 F (fz_rd_takeData_33 1 S) (fz_mo_readData (zz_i M 7 (Int32.ofNat (P + 4)))) → fz_rd_takeData S = fz_rd_takeData_33 1 S → (∀ S' M' P', F S' M' P' → zr_Y S' M') → zr_O s m N 0 zr_Y (fz_rd_readFile_66 1 S) ((fz_mo_readData (zz_i M 7 (Int32.ofNat (P + 4)))).bind fun q4 => fz_mo_readWave_2 (g + 1) 1 q4) := by
    intro F hE hd hY
    rw [C, hd]
    rcases hE with ⟨S', M', P', h1, h2, h3, h4⟩ | ⟨S', M', h1, h2, h3⟩
    · rw [h1, h2]
      simp only [zbs]
      rw [if_neg z1, zw_done g M' h3.2.2.2.2.2.1]
      exact zr_94 hv h3 (hY S' M' P' h4)
    · rw [h1, h2]
      simp only [zbs]
      rw [if_pos trivial, zr_112, zF_w2 g 1 M' (by rw [h3.2.2.1]; decide)]
      exact Or.inl ⟨S', M', rfl, rfl, Or.inl h3⟩
  rcases hf with ⟨h22, h15⟩ | ⟨h15, hfm, hrr⟩
  · rw [if_pos (show (M.1 15 = 0 ∨ (¬ M.1 12 = 1 ∧ M.1 16 = 0)) from Or.inl h15), if_neg z1]
    apply bad
    unfold fz_rd_takeData fz_rd_takeData_32 fz_rd_takeData_33 fz_fm_hasBlocks_13
    rw [h22, if_neg (show ¬ (0 : Int32) = 1 by decide), if_neg (show ¬ (0 : Int32) = 17 by decide), if_pos (show ¬ (0 : Int32) = 2 by decide)]
    simp only [zbs]
    rw [if_pos trivial, if_pos trivial]
  · have n15 : ¬ M.1 15 = 0 := by rw [h15]; exact z1
    obtain ⟨T, hd, q, ib, hT, hq1, f22, f23, f24, f25, g12, g13⟩ := id hfm
    rcases hT with ⟨rfl, rfl, hq2, rfl⟩ | hT
    · rw [if_neg (show ¬ (M.1 15 = 0 ∨ (¬ M.1 12 = 1 ∧ M.1 16 = 0)) from fun hc => hc.elim n15 (fun hc => hc.1 g12)), if_pos rfl]
      have hal : q = 1 ∨ q = 2 := by omega
      rw [Nat.zero_add] at f24 g13
      refine good _ (zr_dat1 hv h h4 hid hal h20 f22 f24 f25 g12 g13) ?_ ?_
      · unfold fz_rd_takeData fz_rd_takeData_28
        rw [if_pos f22]
      · rintro S' M' P' ⟨c, k1, k2, k3⟩
        exact ⟨c, k1, zr_fm_t hfm (k2 22 (by omega) (by omega) (by decide) (by decide)) (k2 23 (by omega) (by omega) (by decide) (by decide)) (k2 24 (by omega) (by omega) (by decide) (by decide)) (k2 25 (by omega) (by omega) (by decide) (by decide)) (k3 12 (by omega) (by omega) (by decide)) (k3 13 (by omega) (by omega) (by decide)), zr_rr_t hrr (k2 21 (by omega) (by omega) (by decide) (by decide)) (k3 11 (by omega) (by omega) (by decide))⟩
    · have hT2 : ∃ ic, (T = 17 ∧ hd = 4 ∧ ic = 1 ∨ T = 2 ∧ hd = 7 ∧ ic = 2) ∧ q ≤ 8 ∧ ib = 2 * q + ic := by
        rcases hT with ⟨a, b, c, d⟩ | ⟨a, b, c, d⟩
        · exact ⟨1, Or.inl ⟨a, b, rfl⟩, c, d⟩
        · exact ⟨2, Or.inr ⟨a, b, rfl⟩, c, d⟩
      obtain ⟨ic, hTi, hq8, hib⟩ := hT2
      subst hib
      have hT17 : T = 17 ∨ T = 2 := by
        rcases hTi with ⟨a, -⟩ | ⟨a, -⟩
        · exact Or.inl a
        · exact Or.inr a
      have n12 : ¬ M.1 12 = 1 := by
        rw [g12]
        rcases hT17 with rfl | rfl <;> decide
      have n22 : ¬ S.1 22 = 1 := by
        rw [f22]
        rcases hT17 with rfl | rfl <;> decide
      rcases hc with ⟨c16, d16⟩ | ⟨c16, d16, c, hc64, c18, d10⟩
      · rw [if_pos (show (M.1 15 = 0 ∨ (¬ M.1 12 = 1 ∧ M.1 16 = 0)) from Or.inr ⟨n12, d16⟩), if_neg z1]
        apply bad
        unfold fz_rd_takeData fz_rd_takeData_32 fz_rd_takeData_33
        rw [if_neg n22, zr_hb hT17 f22]
        simp only [zbs]
        rw [if_neg z1, if_pos c16, if_pos trivial]
      · have n16 : ¬ M.1 16 = 0 := by rw [d16]; exact z1
        rw [if_neg (show ¬ (M.1 15 = 0 ∨ (¬ M.1 12 = 1 ∧ M.1 16 = 0)) from fun hc => hc.elim n15 (fun hc => n16 hc.2)), if_pos rfl]
        refine good _ (zr_datb hTi hv h h4 hid hq1 hq8 hc64 c18 d10 h20 f22 f23 f24 f25 g12 g13) ?_ ?_
        · unfold fz_rd_takeData fz_rd_takeData_28
          rw [if_neg n22, zr_hb hT17 f22]
          simp only [zbs]
          rw [if_neg z1, c16, if_neg z1]
        · rintro S' M' P' ⟨k1, k2, k3⟩
          exact ⟨c, k1, zr_fm_t hfm (k2 22 (by omega) (by omega) (by decide)) (k2 23 (by omega) (by omega) (by decide)) (k2 24 (by omega) (by omega) (by decide)) (k2 25 (by omega) (by omega) (by decide)) (k3 12 (by omega) (by omega)) (k3 13 (by omega) (by omega)), zr_rr_t hrr (k2 21 (by omega) (by omega) (by decide)) (k3 11 (by omega) (by omega))⟩
