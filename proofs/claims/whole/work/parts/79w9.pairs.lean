/-! Writing: the blocks with pairs, of both (text: wip/gen/genW8p.txt). -/
/-- a block with pairs -/
def zp_w (R : Nat → Int32) (n a : Nat) : Int32 := R (if n ≤ a + 1 then a else a + 1)
theorem zp_2nd {S : am_Z} {n a : Nat} (hn : n ≤ 64) (ha : a < n) (h1 : S.1 1 = Int32.ofNat n) : fz_wr_secondOfBlock S (Int32.ofNat a) = some (zp_w (S.2.2 0) n a) := by
  have ea1 : Int32.ofNat a + (1 : Int32) = Int32.ofNat (a + 1) := nm_add a 1
  have hra : ¬ (Int32.ofNat a < 0 ∨ 64 ≤ a) := fun h => h.elim (nm_nneg (by omega)) (by omega)
  unfold fz_wr_secondOfBlock fz_wr_secondOfBlock_27 zp_w
  rw [ea1, h1]
  by_cases c : n ≤ a + 1
  · have hc : Int32.ofNat n ≤ Int32.ofNat (a + 1) := (nm_le (by omega) (by omega)).mpr c
    rw [if_pos hc, if_pos c, nm_clamp (a := a) (by omega), if_neg hra]
  · have hc : ¬ Int32.ofNat n ≤ Int32.ofNat (a + 1) := fun h => c ((nm_le (by omega) (by omega)).mp h)
    have hra1 : ¬ (Int32.ofNat (a + 1) < 0 ∨ 64 ≤ a + 1) := fun h => h.elim (nm_nneg (by omega)) (by omega)
    rw [if_neg hc, if_neg c, nm_clamp (a := a + 1) (by omega), if_neg hra1]
theorem zp_stS {S : am_Z} {n a p : Nat} (hn : n ≤ 64) (ha : a < n) (hp : p < 7) (h1 : S.1 1 = Int32.ofNat n) (d : Int32) : fz_wr_startPair S (Int32.ofNat a) d (Int32.ofNat p) = some (zz_i (zz_i (zz_i (zz_i S 11 (S.2.2 0 a)) 10 (zp_w (S.2.2 0) n a)) 12 d) 13 (Int32.ofNat p)) := by
  have hra : ¬ (Int32.ofNat a < 0 ∨ 64 ≤ a) := fun h => h.elim (nm_nneg (by omega)) (by omega)
  have hlim : fz_sh_limit (Int32.ofNat p) 0 6 = some (Int32.ofNat p) := by
    have q0 : (0 : Int32) ≤ Int32.ofNat p := (nm_nlt _ _).mp (nm_nneg (by omega))
    have q6 : Int32.ofNat p ≤ (6 : Int32) := (nm_le (a := p) (b := 6) (by omega) (by omega)).mpr (by omega)
    unfold fz_sh_limit
    rw [if_pos q0, if_pos q6]
  unfold fz_wr_startPair fz_pr_start_8
  rw [nm_clamp (a := a) (by omega), if_neg hra, zp_2nd hn ha h1]
  simp only [zbs]
  rw [hlim]
  simp only [zbs]
theorem zp_stM {M : am_Z} {n a : Nat} (hn : n ≤ 64) (ha : a < n) (h1 : M.1 1 = Int32.ofNat n) (d : Int32) : fz_mo_startPredicted M (Int32.ofNat a) d = some (zz_i (zz_i (zz_i M 18 (M.2.2 0 a)) 17 (zp_w (M.2.2 0) n a)) 20 d) := by
  have ea1 : Int32.ofNat a + (1 : Int32) = Int32.ofNat (a + 1) := nm_add a 1
  have hra : ¬ (Int32.ofNat a < 0 ∨ 64 ≤ a) := fun h => h.elim (nm_nneg (by omega)) (by omega)
  unfold fz_mo_startPredicted fz_mo_startPredicted_36 zp_w
  rw [nm_clamp (a := a) (by omega), if_neg hra, ea1, h1]
  by_cases c : n ≤ a + 1
  · have hc : Int32.ofNat n ≤ Int32.ofNat (a + 1) := (nm_le (by omega) (by omega)).mpr c
    rw [if_pos hc, if_pos c]
  · have hc : ¬ Int32.ofNat n ≤ Int32.ofNat (a + 1) := fun h => c ((nm_le (by omega) (by omega)).mp h)
    have hra1 : ¬ (Int32.ofNat (a + 1) < 0 ∨ 64 ≤ a + 1) := fun h => h.elim (nm_nneg (by omega)) (by omega)
    rw [if_neg hc, if_neg c, nm_clamp (a := a + 1) (by omega), if_neg hra1]
theorem zp_w_c {R R' : Nat → Int32} {n a : Nat} (ha : a < n) (h : ∀ i, i < n → R i = R' i) : zp_w R n a = zp_w R' n a := by
  unfold zp_w
  by_cases c : n ≤ a + 1
  · rw [if_pos c]
    exact h _ ha
  · rw [if_neg c]
    exact h _ (by omega)
theorem zp_ff {s m S M : am_Z} {V : List Int32} {n q nn a b : Nat} {x : Int32} {c : zp_C} (hz : zv_s s m n) (hq8 : q ≤ 8) (ha : a < n) (hx : zx s m S M nn V) (hf : zn_f S 7 q b) (hS : zp_es8 S c) (hM : zp_em x M c) : ∃ (t : Nat) (S' M' : am_Z) (e e' : zp_C), t ≤ 65535 * (2 * q) ∧ fz_wr_chooseNibbles_5_8 S (Int32.ofNat (a + 2)) = some (Int32.ofNat t, S') ∧ fz_mo_follow M (Int32.ofNat (a + 2)) ((2 : Int32) * Int32.ofNat q) x = some (Int32.ofNat t, M') ∧ zp_es8 S' e ∧ zp_em x M' e' ∧ (a + 2 + 2 * q ≤ n → e = e') ∧ zx s m S' M' nn V ∧ zn_f S' 7 q b ∧ zs_rw S' M' (2 * q) := by
  obtain ⟨hn, h1, h2, h3⟩ := hz
  obtain ⟨-, -, -, -, ⟨-, c1, -, c3⟩, ⟨-, d1, -, d3⟩, -⟩ := id hx
  obtain ⟨t, S5, M5, e, e', r0, r1, r2, r3, r4, r5, r6, r7, r8⟩ := zp_lup (R := s.2.2 0) (n := n) (N := 2 * q) (a := a + 2) (x := x) hn (by omega) (by omega) (fun i hi => (h3 i hi).2) (2 * q) 0 fz_fu 0 S M c c (by omega) (by show 2 * q < 1000; omega) (by omega) hS hM (fun _ => rfl) (c1.trans h1) (d1.trans h2) (fun j _ => by rw [c3]) (fun j hj => by rw [d3, (h3 j hj).1]) (fun j hj => absurd hj (Nat.not_lt_zero j))
  exact ⟨t, S5, M5, e, e', r0, zp_ch hq8 hf r1, zn_fo r2, r3, r4, r5, zx_k hx r6 r7, zn_f_k hf r6, r8⟩
/-- the start of both coders -/
theorem zp_two {s m S M : am_Z} {V : List Int32} {n q nn a p b : Nat} {d : Int32} (hz : zv_s s m n) (ha : a < n) (hp : p < 7) (hx : zx s m S M nn V) (hf : zn_f S 7 q b) : ∃ (S' M' : am_Z), fz_wr_startPair S (Int32.ofNat a) d (Int32.ofNat p) = some S' ∧ fz_mo_startPredicted M (Int32.ofNat a) d = some M' ∧ zx s m S' M' nn V ∧ zn_f S' 7 q b ∧ zp_es8 S' (zp_w (s.2.2 0) n a, s.2.2 0 a, d, p) ∧ zp_em (Int32.ofNat p) M' (zp_w (s.2.2 0) n a, s.2.2 0 a, d, p) := by
  obtain ⟨hn, h1, h2, h3⟩ := hz
  obtain ⟨-, -, -, -, ⟨-, c1, -, c3⟩, ⟨-, d1, -, d3⟩, -⟩ := id hx
  have e1 := zp_stS hn ha hp (c1.trans h1) d
  have e2 := zp_stM hn ha (d1.trans h2) d
  have ew : zp_w (M.2.2 0) n a = zp_w (s.2.2 0) n a := by
    rw [d3]
    exact zp_w_c ha (fun i hi => ((h3 i hi).1).symm)
  have ev : M.2.2 0 a = s.2.2 0 a := by rw [d3, (h3 a ha).1]
  rw [c3] at e1
  rw [ew, ev] at e2
  exact ⟨_, _, e1, e2, hx, hf, ⟨rfl, rfl, rfl, rfl, hp⟩, ⟨rfl, rfl, rfl, rfl, hp⟩⟩
/-- the best pair -/
theorem zp_best {s m : am_Z} {V : List Int32} {n q nn a b : Nat} {d : Int32} (hz : zv_s s m n) (hq8 : q ≤ 8) (ha : a < n) (K5 : Int32 → Int32 → Int32 → am_Z → Option am_Z) : ∀ (e p f g k : Nat) (T : Int32) (S M : am_Z), p + e = 7 → e < f → e < g → k < 7 → zx s m S M nn V → zn_f S 7 q b → ∃ (k' g' : Nat) (T' : Int32) (S' M' : am_Z), k' < 7 ∧ zx s m S' M' nn V ∧ zn_f S' 7 q b ∧ fz_wr_bestPair_8 f (Int32.ofNat a) d (Int32.ofNat k) T (Int32.ofNat p) S = some (Int32.ofNat k', S') ∧ fz_mo_writePredicted_22 K5 g (Int32.ofNat q) d (Int32.ofNat a) (Int32.ofNat k) T (Int32.ofNat p) M = fz_mo_writePredicted_22 K5 (g' + 1) (Int32.ofNat q) d (Int32.ofNat a) (Int32.ofNat k') T' 7 M' := by
  intro e
  induction e with
  | zero =>
    intro p f g k T S M hp hf hg hk hx hff
    obtain ⟨f, rfl⟩ : ∃ g, f = g + 1 := ⟨f - 1, by omega⟩
    obtain ⟨g, rfl⟩ : ∃ f, g = f + 1 := ⟨g - 1, by omega⟩
    have e7 : p = 7 := by omega
    subst e7
    refine ⟨k, g, T, S, M, hk, hx, hff, ?_, rfl⟩
    unfold fz_wr_bestPair_8
    rw [if_pos (show (6 : Int32) < Int32.ofNat 7 by decide)]
  | succ e ih =>
    intro p f g k T S M hp hf hg hk hx hff
    obtain ⟨f, rfl⟩ : ∃ g, f = g + 1 := ⟨f - 1, by omega⟩
    obtain ⟨g, rfl⟩ : ∃ f, g = f + 1 := ⟨g - 1, by omega⟩
    have h6 : ¬ (6 : Int32) < Int32.ofNat p := fun h => by
      have := (nm_lt (a := 6) (b := p) (by omega) (by omega)).mp h
      omega
    have h7 : ¬ (7 : Int32) ≤ Int32.ofNat p := fun h => by
      have := (nm_le (a := 7) (b := p) (by omega) (by omega)).mp h
      omega
    have ea2 : Int32.ofNat a + (2 : Int32) = Int32.ofNat (a + 2) := nm_add a 2
    have ep1 : Int32.ofNat p + (1 : Int32) = Int32.ofNat (p + 1) := nm_add p 1
    obtain ⟨S1, M1, k1, k2, k3, k4, k5, k6⟩ := zp_two (p := p) (d := d) hz ha (by omega) hx hff
    obtain ⟨t, S2, M2, c, c', r0, r1, r2, -, -, -, r6, r7, -⟩ := zp_ff hz hq8 ha k3 k4 k5 k6
    have C : ∀ (y : Option (Int32 × am_Z)), (if Int32.ofNat p = 0 then fz_wr_bestPair_48 (fz_wr_bestPair_8 f) (Int32.ofNat a) d (Int32.ofNat p) (Int32.ofNat t) S2 else if T ≤ Int32.ofNat t then fz_wr_bestPair_55 (fz_wr_bestPair_8 f) (Int32.ofNat a) d (Int32.ofNat k) T (Int32.ofNat p) S2 else fz_wr_bestPair_48 (fz_wr_bestPair_8 f) (Int32.ofNat a) d (Int32.ofNat p) (Int32.ofNat t) S2) = y → fz_wr_bestPair_8 (f + 1) (Int32.ofNat a) d (Int32.ofNat k) T (Int32.ofNat p) S = y := by
      intro y hy
      unfold fz_wr_bestPair_8
      rw [if_neg h6, k1]
      simp only [zbs]
      rw [ea2, r1]
      simp only [zbs]
      exact hy
    have D : ∀ (y : Option am_Z), (if Int32.ofNat p = 0 then fz_mo_writePredicted_61 K5 (fz_mo_writePredicted_22 K5 g) (Int32.ofNat q) d (Int32.ofNat a) T (Int32.ofNat p) (Int32.ofNat t) M2 else if T ≤ Int32.ofNat t then fz_mo_writePredicted_68 K5 (fz_mo_writePredicted_22 K5 g) (Int32.ofNat q) d (Int32.ofNat a) T (Int32.ofNat p) (Int32.ofNat t) (Int32.ofNat k) M2 else fz_mo_writePredicted_61 K5 (fz_mo_writePredicted_22 K5 g) (Int32.ofNat q) d (Int32.ofNat a) T (Int32.ofNat p) (Int32.ofNat t) M2) = y → fz_mo_writePredicted_22 K5 (g + 1) (Int32.ofNat q) d (Int32.ofNat a) (Int32.ofNat k) T (Int32.ofNat p) M = y := by
      intro y hy
      unfold fz_mo_writePredicted_22
      rw [if_neg h7, k2]
      simp only [zbs]
      rw [ea2, r2]
      simp only [zbs]
      exact hy
    by_cases p0 : p = 0
    · subst p0
      obtain ⟨k', g', T', S', M', j1, j2, j3, j4, j5⟩ := ih (0 + 1) f g 0 (Int32.ofNat t) S2 M2 (by omega) (by omega) (by omega) (by omega) r6 r7
      have z0 : Int32.ofNat 0 = 0 := rfl
      refine ⟨k', g', T', S', M', j1, j2, j3, C _ ?_, D _ ?_⟩
      · rw [if_pos z0]
        unfold fz_wr_bestPair_48 fz_wr_bestPair_55
        rw [ep1]
        exact j4
      · rw [if_pos z0]
        unfold fz_mo_writePredicted_61 fz_mo_writePredicted_68 fz_mo_writePredicted_82 fz_mo_writePredicted_89
        rw [if_pos z0, ep1]
        exact j5
    · have z0 : ¬ Int32.ofNat p = 0 := by
        rw [show (0 : Int32) = Int32.ofNat 0 from rfl, nm_inj (by omega) (by omega)]
        exact p0
      by_cases cT : T ≤ Int32.ofNat t
      · obtain ⟨k', g', T', S', M', j1, j2, j3, j4, j5⟩ := ih (p + 1) f g k T S2 M2 (by omega) (by omega) (by omega) hk r6 r7
        refine ⟨k', g', T', S', M', j1, j2, j3, C _ ?_, D _ ?_⟩
        · rw [if_neg z0, if_pos cT]
          unfold fz_wr_bestPair_55
          rw [ep1]
          exact j4
        · rw [if_neg z0, if_pos cT]
          unfold fz_mo_writePredicted_68 fz_mo_writePredicted_89
          rw [if_neg z0, if_pos cT, ep1]
          exact j5
      · obtain ⟨k', g', T', S', M', j1, j2, j3, j4, j5⟩ := ih (p + 1) f g p (Int32.ofNat t) S2 M2 (by omega) (by omega) (by omega) (by omega) r6 r7
        refine ⟨k', g', T', S', M', j1, j2, j3, C _ ?_, D _ ?_⟩
        · rw [if_neg z0, if_neg cT]
          unfold fz_wr_bestPair_48 fz_wr_bestPair_55
          rw [ep1]
          exact j4
        · rw [if_neg z0, if_neg cT]
          unfold fz_mo_writePredicted_61 fz_mo_writePredicted_68 fz_mo_writePredicted_82 fz_mo_writePredicted_89
          rw [if_neg z0, if_neg cT, ep1]
          exact j5
theorem zp_blk {s m S M : am_Z} {V : List Int32} {n q nn a : Nat} {d : Int32} (hz : zv_s s m n) (hq8 : q ≤ 8) (hx : zx s m S M nn V) (h8 : 8 ≤ nn) (hl : nn + (7 + q) ≤ 400) (ha : a < n) (hf : zn_f S 7 q (2 * q + 2)) (f : Nat) : ∃ (S' M' : am_Z) (x y : Int32), zx s m S' M' (nn + (7 + q)) V ∧ zn_f S' 7 q (2 * q + 2) ∧ fz_wr_writePredicted_14 (f + 1) d (Int32.ofNat a) S = fz_wr_writePredicted_14 f x (Int32.ofNat (a + (2 * q + 2))) S' ∧ fz_mo_writePredicted_5 (f + 1) (Int32.ofNat q) d (Int32.ofNat a) M = fz_mo_writePredicted_5 f (Int32.ofNat q) y (Int32.ofNat (a + (2 * q + 2))) M' ∧ (a + (2 * q + 2) ≤ n → x = y) := by
  have hn : n ≤ 64 := hz.1
  have h3 := hz.2.2.2
  have eS1 : S.1 1 = Int32.ofNat n := hx.2.2.2.2.1.2.1.trans hz.2.1
  have eM1 : M.1 1 = Int32.ofNat n := hx.2.2.2.2.2.1.2.1.trans hz.2.2.1
  have hna : ¬ Int32.ofNat n ≤ Int32.ofNat a := by
    rw [nm_le (by omega) (by omega)]
    omega
  have hra : ¬ (Int32.ofNat a < 0 ∨ 64 ≤ a) := fun h => h.elim (nm_nneg (by omega)) (by omega)
  have ea2 : Int32.ofNat a + (2 : Int32) = Int32.ofNat (a + 2) := nm_add a 2
  have e2q : (2 : Int32) * Int32.ofNat q = Int32.ofNat (2 * q) := nm_mul 2 q
  have e2q2 : Int32.ofNat (2 * q) + (2 : Int32) = Int32.ofNat (2 * q + 2) := nm_add _ 2
  obtain ⟨p, g, T, S1, M1, hp, x1, f1, j4, j5⟩ := zp_best (d := d) hz hq8 ha (fz_mo_writePredicted_5 f) 7 0 fz_fu fz_fu 0 0 S M (by omega) (by show 7 < 1000; omega) (by show 7 < 1000; omega) (by omega) hx hf
  have hbest : fz_wr_bestPair S (Int32.ofNat a) d = some (Int32.ofNat p, S1) := by
    unfold fz_wr_bestPair
    exact j4
  obtain ⟨v, hv⟩ : ∃ v, v = s.2.2 0 a := ⟨_, rfl⟩
  obtain ⟨w, hw⟩ : ∃ w, w = zp_w (s.2.2 0) n a := ⟨_, rfl⟩
  have k2 := zp_stM hn ha (x1.2.2.2.2.2.1.2.1.trans hz.2.2.1) d
  have ew : zp_w (M1.2.2 0) n a = w := by
    rw [x1.2.2.2.2.2.1.2.2.2, hw]
    exact zp_w_c ha (fun i hi => ((h3 i hi).1).symm)
  have ev : M1.2.2 0 a = v := by rw [x1.2.2.2.2.2.1.2.2.2, hv, (h3 a ha).1]
  rw [ew, ev] at k2
  have x2' : zx s m S1 (zz_i (zz_i (zz_i M1 18 v) 17 w) 20 d) nn V := x1
  obtain ⟨M2, hM2⟩ : ∃ Z, Z = zz_i (zz_i (zz_i M1 18 v) 17 w) 20 d := ⟨_, rfl⟩
  rw [← hM2] at k2 x2'
  have q2 : M2.1 17 = w := by rw [hM2]; rfl
  have q3 : M2.1 18 = v := by rw [hM2]; rfl
  have q4 : M2.1 20 = d := by rw [hM2]; rfl
  obtain ⟨L1, hL1⟩ : ∃ L, L = [Int32.ofNat p &&& (255 : Int32)] := ⟨_, rfl⟩
  obtain ⟨L2, hL2⟩ : ∃ L, L = zf_le (Int32.toInt64 d) 2 := ⟨_, rfl⟩
  obtain ⟨L3, hL3⟩ : ∃ L, L = zf_le (Int32.toInt64 w) 2 := ⟨_, rfl⟩
  obtain ⟨L4, hL4⟩ : ∃ L, L = zf_le (Int32.toInt64 v) 2 := ⟨_, rfl⟩
  have n1 : L1.length = 1 := by rw [hL1]; rfl
  have n2 : L2.length = 2 := by rw [hL2, zf_le_len]
  have n3 : L3.length = 2 := by rw [hL3, zf_le_len]
  have n4 : L4.length = 2 := by rw [hL4, zf_le_len]
  have y1 := zx_a x2' (l := L1) h8 (by rw [hL1]; exact zf_by_1 _) (by omega)
  rw [n1] at y1
  have y2 := zx_a y1 (l := L2) (by omega) (by rw [hL2]; exact zf_by_le _ _) (by omega)
  rw [n2] at y2
  have y3 := zx_a y2 (l := L3) (by omega) (by rw [hL3]; exact zf_by_le _ _) (by omega)
  rw [n3] at y3
  have y4 := zx_a y3 (l := L4) (by omega) (by rw [hL4]; exact zf_by_le _ _) (by omega)
  rw [n4] at y4
  obtain ⟨S5, hS5⟩ : ∃ Z, Z = zf_a 3 (zf_a 3 (zf_a 3 (zf_a 3 S1 L1) L2) L3) L4 := ⟨_, rfl⟩
  obtain ⟨M5, hM5⟩ : ∃ Z, Z = zf_a 4 (zf_a 4 (zf_a 4 (zf_a 4 M2 L1) L2) L3) L4 := ⟨_, rfl⟩
  have f5 : zn_f S5 7 q (2 * q + 2) := by
    rw [hS5]
    exact zn_f_a (zn_f_a (zn_f_a (zn_f_a f1 _) _) _) _
  have gM : ∀ j, j ≠ 4 → M5.1 j = M2.1 j := by
    intro j hj
    rw [hM5, zf_a_i 4 hj, zf_a_i 4 hj, zf_a_i 4 hj, zf_a_i 4 hj]
  have y4' : zx s m S5 M5 (nn + 1 + 2 + 2 + 2) V := by
    rw [hS5, hM5]
    exact y4
  have gS3 : ∀ (Z : am_Z) (k : Nat) (Y : am_Z), zx s m Z Y k V → Z.1 1 = Int32.ofNat n ∧ Z.2.2 0 = s.2.2 0 := fun Z k Y h => ⟨h.2.2.2.2.1.2.1.trans hz.2.1, h.2.2.2.2.1.2.2.2⟩
  have k1 := zp_stS hn ha hp (gS3 _ _ _ y4').1 d
  rw [(gS3 _ _ _ y4').2, ← hv, ← hw] at k1
  have y5 : zx s m (zz_i (zz_i (zz_i (zz_i S5 11 v) 10 w) 12 d) 13 (Int32.ofNat p)) M5 (nn + 1 + 2 + 2 + 2) V := y4'
  have f6 : zn_f (zz_i (zz_i (zz_i (zz_i S5 11 v) 10 w) 12 d) 13 (Int32.ofNat p)) 7 q (2 * q + 2) := f5
  obtain ⟨t, S7, M7, e, e', r0, r1, r2, r3, r4, r5, r6, r7, r8⟩ := zp_ff (c := (w, v, d, p)) (x := Int32.ofNat p) hz hq8 ha y5 f6 ⟨rfl, rfl, rfl, rfl, hp⟩ ⟨rfl, (gM 17 (by decide)).trans q2, (gM 18 (by decide)).trans q3, (gM 20 (by decide)).trans q4, hp⟩
  obtain ⟨l, hll, hlb, p1, p2⟩ := zn_pn2 hq8 (zx_n3 r6) (zx_n4 r6) (by omega) r7 r8
  have x8 := zx_a r6 (l := l) (by omega) hlb (by omega)
  rw [show nn + 1 + 2 + 2 + 2 + l.length = nn + (7 + q) by omega] at x8
  refine ⟨zf_a 3 S7 l, zf_a 4 M7 l, (zf_a 3 S7 l).1 12, (zf_a 4 M7 l).1 20, x8, zn_f_a r7 l, ?_, ?_, fun hh => ?_⟩
  · have e7 : (zf_a 3 S7 l).1 7 = Int32.ofNat (2 * q + 2) := (zn_f_a r7 l).2.2
    have esec := zp_2nd hn ha (gS3 _ _ _ y2).1
    rw [(gS3 _ _ _ y2).2, ← hw] at esec
    have eva : (zf_a 3 (zf_a 3 (zf_a 3 S1 L1) L2) L3).2.2 0 a = v := by rw [(gS3 _ _ _ y3).2, hv]
    conv => lhs; unfold fz_wr_writePredicted_14
    rw [eS1, if_neg hna, hbest]
    simp only [zbs]
    rw [zn_p (zx_n3 x2') (by omega), ← hL1]
    simp only [zbs]
    rw [zn_l2 (zx_n3 y1) (by omega), ← hL2]
    simp only [zbs]
    rw [esec]
    simp only [zbs]
    rw [zn_l2 (zx_n3 y2) (by omega), ← hL3]
    simp only [zbs]
    rw [nm_clamp (a := a) (by omega), if_neg hra, eva, zn_l2 (zx_n3 y3) (by omega), ← hL4, ← hS5]
    simp only [zbs]
    rw [k1]
    simp only [zbs]
    rw [ea2, r1]
    simp only [zbs]
    rw [p1]
    simp only [zbs]
    rw [e7, nm_add]
  · have h20 : (zf_a 4 M2 L1).1 20 = d := (zf_a_i 4 (by decide) _).trans q4
    have h17 : (zf_a 4 (zf_a 4 M2 L1) L2).1 17 = w := by rw [zf_a_i 4 (by decide), zf_a_i 4 (by decide)]; exact q2
    have h18 : (zf_a 4 (zf_a 4 (zf_a 4 M2 L1) L2) L3).1 18 = v := by rw [zf_a_i 4 (by decide), zf_a_i 4 (by decide), zf_a_i 4 (by decide)]; exact q3
    have ht : 0 ≤ Int32.ofNat t := (nm_nlt _ _).mp (nm_nneg (by omega))
    have j5' : fz_mo_writePredicted_22 (fz_mo_writePredicted_5 f) fz_fu (Int32.ofNat q) d (Int32.ofNat a) 0 0 0 M = _ := j5
    conv => lhs; unfold fz_mo_writePredicted_5
    rw [eM1, if_neg hna, j5']
    conv => lhs; unfold fz_mo_writePredicted_22
    rw [if_pos (show (7 : Int32) ≤ 7 by decide), k2]
    simp only [zbs]
    rw [zn_m1 (zx_n4 x2') (by omega), ← hL1]
    simp only [zbs]
    rw [h20, zn_m2 (zx_n4 y1) (by omega), ← hL2]
    simp only [zbs]
    rw [h17, zn_m2 (zx_n4 y2) (by omega), ← hL3]
    simp only [zbs]
    rw [h18, zn_m2 (zx_n4 y3) (by omega), ← hL4, ← hM5]
    simp only [zbs]
    rw [ea2, r2]
    simp only [zbs]
    rw [if_pos ht]
    unfold fz_mo_writePredicted_167
    rw [p2]
    simp only [zbs]
    rw [e2q, e2q2, nm_add]
  · rw [zf_a_i 3 (by decide), zf_a_i 4 (by decide), r3.2.2.1, r4.2.2.2.1, r5 (by omega)]
theorem zp_blocks {s m : am_Z} {V : List Int32} {n q : Nat} (hz : zv_s s m n) (hq8 : q ≤ 8) : ∀ (d a f nn : Nat) (S M : am_Z) (x y : Int32), n ≤ a + d → a ≤ 100 → d < f → zx s m S M nn V → 8 ≤ nn → nn + zn_bl n a (2 * q + 2) * (7 + q) ≤ 400 → zn_f S 7 q (2 * q + 2) → (a < n → x = y) → ∃ (S' M' : am_Z), zx s m S' M' (nn + zn_bl n a (2 * q + 2) * (7 + q)) V ∧ zn_f S' 7 q (2 * q + 2) ∧ fz_wr_writePredicted_14 f x (Int32.ofNat a) S = ((fz_fm_sizeOfData_6 S' (S'.1 1)).bind fun q1 => (fz_wr_putByteBehind S' q1).bind fun q2 => some q2) ∧ fz_mo_writePredicted_5 f (Int32.ofNat q) y (Int32.ofNat a) M = some M' := by
  have hn : n ≤ 64 := hz.1
  have fin : ∀ (a f nn : Nat) (S M : am_Z) (x y : Int32), n ≤ a → a ≤ 100 → zx s m S M nn V → zn_f S 7 q (2 * q + 2) → ∃ (S' M' : am_Z), zx s m S' M' (nn + zn_bl n a (2 * q + 2) * (7 + q)) V ∧ zn_f S' 7 q (2 * q + 2) ∧ fz_wr_writePredicted_14 (f + 1) x (Int32.ofNat a) S = ((fz_fm_sizeOfData_6 S' (S'.1 1)).bind fun q1 => (fz_wr_putByteBehind S' q1).bind fun q2 => some q2) ∧ fz_mo_writePredicted_5 (f + 1) (Int32.ofNat q) y (Int32.ofNat a) M = some M' := by
    intro a f nn S M x y hna ha hx hf
    have eS1 : S.1 1 = Int32.ofNat n := hx.2.2.2.2.1.2.1.trans hz.2.1
    have eM1 : M.1 1 = Int32.ofNat n := hx.2.2.2.2.2.1.2.1.trans hz.2.2.1
    have hle : Int32.ofNat n ≤ Int32.ofNat a := (nm_le (by omega) (by omega)).mpr hna
    refine ⟨S, M, ?_, hf, ?_, ?_⟩
    · rw [zn_bl0 hna (by omega), Nat.zero_mul, Nat.add_zero]
      exact hx
    · unfold fz_wr_writePredicted_14
      rw [if_pos (by rw [eS1]; exact hle)]
    · unfold fz_mo_writePredicted_5
      rw [if_pos (by rw [eM1]; exact hle)]
  intro d
  induction d with
  | zero =>
    intro a f nn S M x y hna ha hf hx h8 hl hff hi
    obtain ⟨f, rfl⟩ : ∃ g, f = g + 1 := ⟨f - 1, by omega⟩
    exact fin a f nn S M x y (by omega) ha hx hff
  | succ d ih =>
    intro a f nn S M x y hna ha hf hx h8 hl hff hi
    obtain ⟨f, rfl⟩ : ∃ g, f = g + 1 := ⟨f - 1, by omega⟩
    by_cases c : n ≤ a
    · exact fin a f nn S M x y c ha hx hff
    · have eb := zn_bl1 (n := n) (a := a) (b := 2 * q + 2) (by omega) (by omega)
      have em : zn_bl n a (2 * q + 2) * (7 + q) = zn_bl n (a + (2 * q + 2)) (2 * q + 2) * (7 + q) + (7 + q) := by rw [eb, Nat.add_mul, Nat.one_mul]
      rw [em] at hl ⊢
      have hxy := hi (by omega)
      subst hxy
      obtain ⟨S', M', x', y', k1, k2, k3, k4, k5⟩ := zp_blk (a := a) (d := x) hz hq8 hx h8 (Nat.le_trans (Nat.add_le_add_left (Nat.le_add_left _ _) _) hl) (by omega) hff f
      obtain ⟨S2, M2, l1, l2, l3, l4⟩ := ih (a + (2 * q + 2)) f (nn + (7 + q)) S' M' x' y' (by omega) (by omega) (by omega) k1 (by omega) (by omega) k2 (fun h => k5 (by omega))
      refine ⟨S2, M2, ?_, l2, k3.trans l3, k4.trans l4⟩
      rw [show nn + (zn_bl n (a + (2 * q + 2)) (2 * q + 2) * (7 + q) + (7 + q)) = nn + (7 + q) + zn_bl n (a + (2 * q + 2)) (2 * q + 2) * (7 + q) by omega]
      exact l1
