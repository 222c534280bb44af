/-! Reading: samples out of nibbles (printed by wip/gen/genR8.py). -/
def zr_sg (S S' : am_Z) : Prop := ∀ i, 15 ≤ i → i ≤ 25 → i ≠ 20 → S'.1 i = S.1 i
def zr_mg (M M' : am_Z) : Prop := ∀ i, 8 ≤ i → i ≤ 16 → M'.1 i = M.1 i
theorem zr_sg_t {a b c : am_Z} (h : zr_sg a b) (k : zr_sg b c) : zr_sg a c := fun i h1 h2 h3 => (k i h1 h2 h3).trans (h i h1 h2 h3)
theorem zr_mg_t {a b c : am_Z} (h : zr_mg a b) (k : zr_mg b c) : zr_mg a c := fun i h1 h2 => (k i h1 h2).trans (h i h1 h2)
theorem zr_ack {s S S' : am_Z} (h : zr_k s S) (hs : S'.2 = S.2) (hs1 : ∀ i, i < 26 → S'.1 i = S.1 i) : zr_k s S' := by
  refine ⟨fun i hi => ?_, fun r hr => ?_⟩
  · rw [hs1 i (by omega)]; exact h.1 i hi
  · rw [hs]; exact h.2 r hr
theorem zr_ackm {m M M' : am_Z} (h : zr_km m M) (hm : M'.2 = M.2) (hm1 : ∀ i, i < 17 → M'.1 i = M.1 i) : zr_km m M' := by
  obtain ⟨l0, l1, l3, l4, l6, l7, l8⟩ := h
  refine ⟨?_, ?_, ?_, ?_, ?_, ?_, ?_⟩
  · rw [hm1 0 (by omega)]; exact l0
  · rw [hm1 1 (by omega)]; exact l1
  · rw [hm1 3 (by omega)]; exact l3
  · rw [hm1 4 (by omega)]; exact l4
  · rw [hm1 6 (by omega)]; exact l6
  · rw [hm]; exact l7
  · rw [hm]; exact l8
theorem zr_sfk {s S S' : am_Z} (h : zr_k s S) (hs : zr_sf S S') : zr_k s S' := by
  refine ⟨fun i hi => ?_, fun r hr => ?_⟩
  · rw [hs.1 i (by omega)]; exact h.1 i hi
  · rw [hs.2.2 r (by omega)]; exact h.2 r hr
theorem zr_mfk {m M M' : am_Z} (h : zr_km m M) (hm : zr_mf M M') : zr_km m M' := by
  obtain ⟨l0, l1, l3, l4, l6, l7, l8⟩ := h
  obtain ⟨m1, m2, m3⟩ := hm
  refine ⟨?_, ?_, ?_, ?_, ?_, ?_, ?_⟩
  · rw [m1]; exact l0
  · rw [m1]; exact l1
  · rw [m1]; exact l3
  · rw [m1]; exact l4
  · rw [m1]; exact l6
  · rw [m3 0 (by decide)]; exact l7
  · rw [m3 1 (by decide)]; exact l8
theorem zr_dac {S M S' M' : am_Z} {c i : Nat} (h : zr_d S M c i) (hs : S'.2 = S.2) (hs1 : ∀ i, i < 26 → S'.1 i = S.1 i) (hm : M'.2 = M.2) (hm1 : ∀ i, i < 17 → M'.1 i = M.1 i) : zr_d S' M' c i := by
  obtain ⟨hc, h18, h10, h20, hr⟩ := h
  refine ⟨hc, ?_, ?_, ?_, ?_⟩
  · rw [hs1 18 (by omega)]; exact h18
  · rw [hm1 10 (by omega)]; exact h10
  · rw [hs1 20 (by omega)]; exact h20
  · rw [hs, hm]; exact hr
theorem zr_b4 : ∀ b : Fin 256, ((Int32.ofNat b.1 >>> ((0 : Int32) &&& 31)) &&& (15 : Int32)) = Int32.ofNat (b.1 % 16) ∧ ((Int32.ofNat b.1 >>> ((4 : Int32) &&& 31)) &&& (15 : Int32)) = Int32.ofNat (b.1 / 16) ∧ (Int32.ofNat b.1 - Int32.ofNat b.1 / (16 : Int32) * (16 : Int32)) = Int32.ofNat (b.1 % 16) ∧ Int32.ofNat b.1 / (16 : Int32) = Int32.ofNat (b.1 / 16) := by decide +kernel
/-- one sample -/
theorem zs_one {s m S M : am_Z} {c i k : Nat} {x : Int32} {cc : (Int32 × Nat)} (hks : zr_k s S) (hkm : zr_km m M) (hd : zr_d S M c i) (hi : i ≤ 200) (he : zs_es14 S cc) (hm : zs_em x M cc) (hk : k < 16) : ∃ S1 S' M1 M', fz_sp_next_14 S (Int32.ofNat k) = some (zs_Q cc k) ∧ fz_sp_accept_14 S (Int32.ofNat k) (zs_Q cc k) = some S1 ∧ fz_rd_appendPromised S1 (zs_Q cc k) = some S' ∧ fz_mo_goStepped M (Int32.ofNat k) = some M1 ∧ fz_mo_keep M1 (Int32.ofNat i) = some M' ∧ zr_k s S' ∧ zr_km m M' ∧ zr_d S' M' c (i + 1) ∧ zs_es14 S' (zs_N cc k) ∧ zs_em x M' (zs_N cc k) ∧ (∀ i, 14 ≤ i → i ≤ 25 → i ≠ 20 → S'.1 i = S.1 i) ∧ ∀ i, 7 ≤ i → i ≤ 16 → M'.1 i = M.1 i := by
  obtain ⟨S1, a1, a2, a3, a4⟩ := zs_ac14 he hk
  obtain ⟨M1, b1, b2, b3, b4⟩ := zs_go_m hm hk
  have hs1 : ∀ i, i < 26 → S1.1 i = S.1 i := fun i hi => a4 i (by omega)
  have hm1 : ∀ i, i < 17 → M1.1 i = M.1 i := fun i hi => b4 i (by omega)
  have hd1 := zr_dac hd a3 hs1 b3 hm1
  obtain ⟨S', M', d1, d2, d3, d4, d5⟩ := zr_keep hd1 hi b2.2.1 (zs_Q_le cc k).1 (zs_Q_le cc k).2
  refine ⟨S1, S', M1, M', zs_nx14 he hk, a1, d1, b1, d2, zr_sfk (zr_ack hks a3 hs1) d4, zr_mfk (zr_ackm hkm b3 hm1) d5, d3, ?_, ?_, ?_, ?_⟩
  · exact ⟨(d4.1 26 (by decide)).trans a2.1, (d4.1 27 (by decide)).trans a2.2.1, a2.2.2⟩
  · exact ⟨b2.1, by rw [d5.1]; exact b2.2.1, by rw [d5.1]; exact b2.2.2.1, b2.2.2.2⟩
  · intro i i1 i2 i3
    rw [d4.1 i i3, hs1 i (by omega)]
  · intro i i1 i2
    rw [d5.1, hm1 i (by omega)]
theorem zs_37 {K : Int32 → Int32 → Int32 → am_Z → Option am_Z} {S Sa1 Sa Sb1 Sb : am_Z} {b k1 k2 : Nat} {v1 v2 : Int32} (f : Nat) (x4 : Int32) (e1 : ((Int32.ofNat b >>> ((0 : Int32) &&& 31)) &&& (15 : Int32)) = Int32.ofNat k1) (e2 : ((Int32.ofNat b >>> ((4 : Int32) &&& 31)) &&& (15 : Int32)) = Int32.ofNat k2) (n1 : fz_sp_next_14 S (Int32.ofNat k1) = some v1) (a1 : fz_sp_accept_14 S (Int32.ofNat k1) v1 = some Sa1) (p1 : fz_rd_appendPromised Sa1 v1 = some Sa) (n2 : fz_sp_next_14 Sa (Int32.ofNat k2) = some v2) (a2 : fz_sp_accept_14 Sa (Int32.ofNat k2) v2 = some Sb1) (p2 : fz_rd_appendPromised Sb1 v2 = some Sb) : fz_rd_takeNibbles_10_14_37 K (f + 1 + 1 + 1) 0 4 x4 (Int32.ofNat b) 0 S = K 0 4 (x4 + (1 : Int32)) (zz_i Sb 14 ((Sb.1 14) + (1 : Int32))) := by
  unfold fz_rd_takeNibbles_10_14_37
  rw [if_neg (show ¬ (2 : Int32) ≤ 0 by decide), if_neg (show ¬ ¬ (0 : Int32) = 0 by decide)]
  unfold fz_rd_takeNibbles_10_14_55
  rw [e1, n1]
  simp only [zbs]
  rw [a1]
  simp only [zbs]
  rw [p1]
  simp only [zbs]
  rw [show (0 : Int32) + 1 = 1 by decide]
  unfold fz_rd_takeNibbles_10_14_37
  rw [if_neg (show ¬ (2 : Int32) ≤ 1 by decide), if_pos (show ¬ (1 : Int32) = 0 by decide)]
  unfold fz_rd_takeNibbles_10_14_55
  rw [e2, n2]
  simp only [zbs]
  rw [a2]
  simp only [zbs]
  rw [p2]
  simp only [zbs]
  rw [show (1 : Int32) + 1 = 2 by decide]
  unfold fz_rd_takeNibbles_10_14_37
  rw [if_pos (show (2 : Int32) ≤ 2 by decide)]
/-- the nibbles of a block -/
theorem zs_nib {s m : am_Z} {N c q a : Nat} {x : Int32} (hv : zv_f s m N) (hq : q ≤ 8) (ha : a ≤ 100) : ∀ (d k f f' P : Nat) (S M : am_Z) (cc : (Int32 × Nat)), k + d = q → d < f → d < f' → zr s m N 0 S M P → P + d ≤ N → zr_d S M c (a + 1 + 2 * k) → zs_es14 S cc → zs_em x M cc → S.1 24 - S.1 23 = Int32.ofNat q → (∀ Z : am_Z, Z.1 12 = M.1 12 → Z.1 13 = M.1 13 → fz_mo_perBlock Z = some (Int32.ofNat (2 * q + 1))) → ∃ S' M', fz_rd_takeNibbles_10_14_3 f 0 4 (Int32.ofNat k) S = some S' ∧ fz_mo_readStepped_48 f' (Int32.ofNat a) (Int32.ofNat (1 + 2 * k)) M = some M' ∧ zr s m N 0 S' M' (P + d) ∧ zr_d S' M' c (a + 1 + 2 * q) ∧ zr_sg S S' ∧ zr_mg M M' := by
  intro d
  induction d with
  | zero =>
    intro k f f' P S M cc hk hf hf' h hP hd he hm hbn hpb
    obtain ⟨f, rfl⟩ : ∃ g, f = g + 1 := ⟨f - 1, by omega⟩
    obtain ⟨f', rfl⟩ : ∃ g, f' = g + 1 := ⟨f' - 1, by omega⟩
    have e : q = k := by omega
    subst e
    have h1 : Int32.ofNat q ≤ Int32.ofNat q := (nm_le (by omega) (by omega)).mpr (by omega)
    have h2 : Int32.ofNat (2 * q + 1) ≤ Int32.ofNat (1 + 2 * q) := (nm_le (by omega) (by omega)).mpr (by omega)
    refine ⟨S, M, ?_, ?_, h, hd, fun _ _ _ _ => rfl, fun _ _ _ => rfl⟩
    · unfold fz_rd_takeNibbles_10_14_3 fz_fm_bytesOfNibbles_13
      rw [hbn]
      simp only [zbs]
      rw [if_pos h1]
    · unfold fz_mo_readStepped_48
      rw [hpb M rfl rfl]
      simp only [zbs]
      rw [if_pos h2]
  | succ d ih =>
    intro k f f' P S M cc hk hf hf' h hP hd he hm hbn hpb
    obtain ⟨f, rfl⟩ : ∃ g, f = g + 1 := ⟨f - 1, by omega⟩
    obtain ⟨f', rfl⟩ : ∃ g, f' = g + 1 := ⟨f' - 1, by omega⟩
    have eN : N ≤ 400 := hv.1
    have h1 : ¬ Int32.ofNat q ≤ Int32.ofNat k := fun hh => by
      have := (nm_le (a := q) (b := k) (by omega) (by omega)).mp hh
      omega
    have h2 : ¬ Int32.ofNat (2 * q + 1) ≤ Int32.ofNat (1 + 2 * k) := fun hh => by
      have := (nm_le (a := 2 * q + 1) (b := 1 + 2 * k) (by omega) (by omega)).mp hh
      omega
    have hu : fz_by_numberAt S (Int32.ofNat P) 1 0 = some (if P + 1 ≤ N then Int64.ofNat (zn (zb s) P 1 (zfl 0)) else 0) := zr_num hv h (n := 1) (by omega) 0
    have hP1 : P + 1 ≤ N := by omega
    rw [if_pos hP1] at hu
    have hb256 : zn (zb s) P 1 (zfl 0) < 256 := by
      have : zn (zb s) P 1 (zfl 0) < 256 ^ 1 := zn_lt (fun i _ hi => ((zv_B hv).1.2.2 i (by omega)).1)
      omega
    have hask : fz_mo_ask M 1 0 0 255 = some (Int64.ofNat (zn (zb s) P 1 (zfl 0)), zz_i M 7 (Int32.ofNat (P + 1))) := by
      rcases zr_ask hv h (n := 1) (by omega) 0 0 255 with ⟨-, -, -, a4⟩ | ⟨a1, -⟩
      · exact a4
      · exact absurd ⟨hP1, by
          rw [Int64.le_iff_toInt_le, nm_jtoInt (by omega)]
          have : (0 : Int64).toInt = 0 := rfl
          omega, by
          rw [Int64.le_iff_toInt_le, nm_jtoInt (by omega)]
          have : (255 : Int64).toInt = 255 := by decide
          omega⟩ a1
    obtain ⟨b, hb⟩ : ∃ b, b = zn (zb s) P 1 (zfl 0) := ⟨_, rfl⟩
    rw [← hb] at hu hb256 hask
    obtain ⟨n1, n2, n3, n4⟩ := zr_b4 ⟨b, hb256⟩
    have n1' : ((Int32.ofNat b >>> ((0 : Int32) &&& 31)) &&& (15 : Int32)) = Int32.ofNat (b % 16) := n1
    have n2' : ((Int32.ofNat b >>> ((4 : Int32) &&& 31)) &&& (15 : Int32)) = Int32.ofNat (b / 16) := n2
    have n3' : (Int32.ofNat b - Int32.ofNat b / (16 : Int32) * (16 : Int32)) = Int32.ofNat (b % 16) := n3
    have n4' : Int32.ofNat b / (16 : Int32) = Int32.ofNat (b / 16) := n4
    obtain ⟨hk0, hkm0, h14, h15, h7, h8, hPN⟩ := id h
    obtain ⟨Sa1, Sa, Ma1, Ma, a1, a2, a3, a4, a5, a6, a7, a8, a9, a10, a11, a12⟩ := zs_one (M := zz_i M 7 (Int32.ofNat (P + 1))) (x := x) hk0 hkm0 hd (by omega) he hm (k := b % 16) (by omega)
    obtain ⟨Sb1, Sb, Mb1, Mb, b1, b2, b3, b4, b5, b6, b7, b8, b9, b10, b11, b12⟩ := zs_one a6 a7 a8 (by omega) a9 a10 (k := b / 16) (by omega)
    have s14 : Sb.1 14 = Int32.ofNat P := (b11 14 (by omega) (by omega) (by decide)).trans ((a11 14 (by omega) (by omega) (by decide)).trans h14)
    have s15 : Sb.1 15 = 0 := (b11 15 (by omega) (by omega) (by decide)).trans ((a11 15 (by omega) (by omega) (by decide)).trans h15)
    have m7 : Mb.1 7 = Int32.ofNat (P + 1) := (b12 7 (by omega) (by omega)).trans (a12 7 (by omega) (by omega))
    have m8 : Mb.1 8 = 0 := (b12 8 (by omega) (by omega)).trans ((a12 8 (by omega) (by omega)).trans h8)
    have fs : zr_sg S (zz_i Sb 14 (Int32.ofNat (P + 1))) := by
      intro i i1 i2 i3
      show zz_u Sb.1 14 _ i = _
      rw [zz_u_n _ _ (by omega)]
      exact (b11 i (by omega) i2 i3).trans (a11 i (by omega) i2 i3)
    have fm : zr_mg M Mb := by
      intro i i1 i2
      refine (b12 i (by omega) i2).trans ((a12 i (by omega) i2).trans ?_)
      show zz_u M.1 7 _ i = _
      rw [zz_u_n _ _ (by omega)]
    have hz : zr s m N 0 (zz_i Sb 14 (Int32.ofNat (P + 1))) Mb (P + 1) := ⟨zr_ki b6 (by omega) _, b7, rfl, s15, m7, m8, hP1⟩
    have hd' : zr_d (zz_i Sb 14 (Int32.ofNat (P + 1))) Mb c (a + 1 + 2 * (k + 1)) := b8
    obtain ⟨S', M', r1, r2, r3, r4, r5, r6⟩ := ih (k + 1) f f' (P + 1) (zz_i Sb 14 (Int32.ofNat (P + 1))) Mb (zs_N (zs_N cc (b % 16)) (b / 16)) (by omega) (by omega) (by omega) hz (by omega) hd' b9 b10 (by
      rw [fs 24 (by omega) (by omega) (by decide), fs 23 (by omega) (by omega) (by decide)]
      exact hbn) (fun Z z12 z13 => hpb Z (z12.trans (fm 12 (by omega) (by omega))) (z13.trans (fm 13 (by omega) (by omega))))
    have ep : Int32.ofNat P + (1 : Int32) = Int32.ofNat (P + 1) := nm_add P 1
    have ek : Int32.ofNat k + (1 : Int32) = Int32.ofNat (k + 1) := nm_add k 1
    have ea : Int32.ofNat a + Int32.ofNat (1 + 2 * k) = Int32.ofNat (a + 1 + 2 * k) := by
      rw [nm_add, Nat.add_assoc]
    have ea1 : Int32.ofNat (a + 1 + 2 * k) + (1 : Int32) = Int32.ofNat (a + 1 + 2 * k + 1) := nm_add _ 1
    have eo : Int32.ofNat (1 + 2 * k) + (2 : Int32) = Int32.ofNat (1 + 2 * (k + 1)) := nm_add _ 2
    refine ⟨S', M', ?_, ?_, ?_, r4, zr_sg_t fs r5, zr_mg_t fm r6⟩
    · have h37 := zs_37 (K := fz_rd_takeNibbles_10_14_3 f) 997 (Int32.ofNat k) n1' n2' a1 a2 a3 b1 b2 b3
      have h37' : fz_rd_takeNibbles_10_14_37 (fz_rd_takeNibbles_10_14_3 f) fz_fu 0 4 (Int32.ofNat k) (Int32.ofNat b) 0 S = fz_rd_takeNibbles_10_14_3 f 0 4 (Int32.ofNat k + (1 : Int32)) (zz_i Sb 14 ((Sb.1 14) + (1 : Int32))) := h37
      rw [s14, ep, ek] at h37'
      unfold fz_rd_takeNibbles_10_14_3 fz_fm_bytesOfNibbles_13
      rw [hbn]
      simp only [zbs]
      rw [if_neg h1, h14, h15, hu]
      simp only [zbs]
      rw [nm_l2i, h37']
      exact r1
    · unfold fz_mo_readStepped_48
      rw [hpb M rfl rfl]
      simp only [zbs]
      rw [if_neg h2, if_neg (not_not_intro h8), hask]
      simp only [zbs]
      rw [nm_l2i, n3', a4]
      simp only [zbs]
      rw [ea, a5]
      simp only [zbs]
      rw [n4', b4]
      simp only [zbs]
      rw [ea1, b5]
      simp only [zbs]
      rw [eo]
      exact r2
    · rw [show P + (d + 1) = P + 1 + d by omega]
      exact r3
/-- one sample -/
theorem zp_one {s m S M : am_Z} {c i k : Nat} {x : Int32} {cc : zp_C} (hks : zr_k s S) (hkm : zr_km m M) (hd : zr_d S M c i) (hi : i ≤ 200) (he : zp_es15 S cc) (hm : zp_em x M cc) (hk : k < 16) : ∃ S1 S' M1 M', fz_pr_next_15 S (Int32.ofNat k) = some (zp_Q cc k) ∧ fz_pr_accept_15 S (Int32.ofNat k) (zp_Q cc k) = some S1 ∧ fz_rd_appendPromised S1 (zp_Q cc k) = some S' ∧ fz_mo_goPredicted M (Int32.ofNat k) x = some M1 ∧ fz_mo_keep M1 (Int32.ofNat i) = some M' ∧ zr_k s S' ∧ zr_km m M' ∧ zr_d S' M' c (i + 1) ∧ zp_es15 S' (zp_N cc k) ∧ zp_em x M' (zp_N cc k) ∧ (∀ i, 14 ≤ i → i ≤ 25 → i ≠ 20 → S'.1 i = S.1 i) ∧ ∀ i, 7 ≤ i → i ≤ 16 → M'.1 i = M.1 i := by
  obtain ⟨S1, a1, a2, a3, a4⟩ := zp_ac15 he hk
  obtain ⟨M1, b1, b2, b3, b4⟩ := zp_go_m hm hk
  have hs1 : ∀ i, i < 26 → S1.1 i = S.1 i := fun i hi => a4 i (by omega)
  have hm1 : ∀ i, i < 17 → M1.1 i = M.1 i := fun i hi => b4 i (by omega)
  have hd1 := zr_dac hd a3 hs1 b3 hm1
  obtain ⟨S', M', d1, d2, d3, d4, d5⟩ := zr_keep hd1 hi b2.2.1 (zp_Q_le cc k).1 (zp_Q_le cc k).2
  refine ⟨S1, S', M1, M', zp_nx15 he hk, a1, d1, b1, d2, zr_sfk (zr_ack hks a3 hs1) d4, zr_mfk (zr_ackm hkm b3 hm1) d5, d3, ?_, ?_, ?_, ?_⟩
  · exact ⟨(d4.1 28 (by decide)).trans a2.1, (d4.1 29 (by decide)).trans a2.2.1, (d4.1 30 (by decide)).trans a2.2.2.1, (d4.1 31 (by decide)).trans a2.2.2.2.1, a2.2.2.2.2⟩
  · exact ⟨b2.1, by rw [d5.1]; exact b2.2.1, by rw [d5.1]; exact b2.2.2.1, by rw [d5.1]; exact b2.2.2.2.1, b2.2.2.2.2⟩
  · intro i i1 i2 i3
    rw [d4.1 i i3, hs1 i (by omega)]
  · intro i i1 i2
    rw [d5.1, hm1 i (by omega)]
theorem zp_37 {K : Int32 → Int32 → Int32 → am_Z → Option am_Z} {S Sa1 Sa Sb1 Sb : am_Z} {b k1 k2 : Nat} {v1 v2 : Int32} (f : Nat) (x4 : Int32) (e1 : ((Int32.ofNat b >>> ((4 : Int32) &&& 31)) &&& (15 : Int32)) = Int32.ofNat k1) (e2 : ((Int32.ofNat b >>> ((0 : Int32) &&& 31)) &&& (15 : Int32)) = Int32.ofNat k2) (n1 : fz_pr_next_15 S (Int32.ofNat k1) = some v1) (a1 : fz_pr_accept_15 S (Int32.ofNat k1) v1 = some Sa1) (p1 : fz_rd_appendPromised Sa1 v1 = some Sa) (n2 : fz_pr_next_15 Sa (Int32.ofNat k2) = some v2) (a2 : fz_pr_accept_15 Sa (Int32.ofNat k2) v2 = some Sb1) (p2 : fz_rd_appendPromised Sb1 v2 = some Sb) : fz_rd_takeNibbles_10_15_37 K (f + 1 + 1 + 1) 4 0 x4 (Int32.ofNat b) 0 S = K 4 0 (x4 + (1 : Int32)) (zz_i Sb 14 ((Sb.1 14) + (1 : Int32))) := by
  unfold fz_rd_takeNibbles_10_15_37
  rw [if_neg (show ¬ (2 : Int32) ≤ 0 by decide), if_neg (show ¬ ¬ (0 : Int32) = 0 by decide)]
  unfold fz_rd_takeNibbles_10_15_55
  rw [e1, n1]
  simp only [zbs]
  rw [a1]
  simp only [zbs]
  rw [p1]
  simp only [zbs]
  rw [show (0 : Int32) + 1 = 1 by decide]
  unfold fz_rd_takeNibbles_10_15_37
  rw [if_neg (show ¬ (2 : Int32) ≤ 1 by decide), if_pos (show ¬ (1 : Int32) = 0 by decide)]
  unfold fz_rd_takeNibbles_10_15_55
  rw [e2, n2]
  simp only [zbs]
  rw [a2]
  simp only [zbs]
  rw [p2]
  simp only [zbs]
  rw [show (1 : Int32) + 1 = 2 by decide]
  unfold fz_rd_takeNibbles_10_15_37
  rw [if_pos (show (2 : Int32) ≤ 2 by decide)]
/-- the nibbles of a block -/
theorem zp_nib {s m : am_Z} {N c q a : Nat} {x : Int32} (hv : zv_f s m N) (hq : q ≤ 8) (ha : a ≤ 100) : ∀ (d k f f' P : Nat) (S M : am_Z) (cc : zp_C), k + d = q → d < f → d < f' → zr s m N 0 S M P → P + d ≤ N → zr_d S M c (a + 2 + 2 * k) → zp_es15 S cc → zp_em x M cc → S.1 24 - S.1 23 = Int32.ofNat q → (∀ Z : am_Z, Z.1 12 = M.1 12 → Z.1 13 = M.1 13 → fz_mo_perBlock Z = some (Int32.ofNat (2 * q + 2))) → ∃ S' M', fz_rd_takeNibbles_10_15_3 f 4 0 (Int32.ofNat k) S = some S' ∧ fz_mo_readPredicted_90 f' (Int32.ofNat a) x (Int32.ofNat (2 + 2 * k)) M = some M' ∧ zr s m N 0 S' M' (P + d) ∧ zr_d S' M' c (a + 2 + 2 * q) ∧ zr_sg S S' ∧ zr_mg M M' := by
  intro d
  induction d with
  | zero =>
    intro k f f' P S M cc hk hf hf' h hP hd he hm hbn hpb
    obtain ⟨f, rfl⟩ : ∃ g, f = g + 1 := ⟨f - 1, by omega⟩
    obtain ⟨f', rfl⟩ : ∃ g, f' = g + 1 := ⟨f' - 1, by omega⟩
    have e : q = k := by omega
    subst e
    have h1 : Int32.ofNat q ≤ Int32.ofNat q := (nm_le (by omega) (by omega)).mpr (by omega)
    have h2 : Int32.ofNat (2 * q + 2) ≤ Int32.ofNat (2 + 2 * q) := (nm_le (by omega) (by omega)).mpr (by omega)
    refine ⟨S, M, ?_, ?_, h, hd, fun _ _ _ _ => rfl, fun _ _ _ => rfl⟩
    · unfold fz_rd_takeNibbles_10_15_3 fz_fm_bytesOfNibbles_13
      rw [hbn]
      simp only [zbs]
      rw [if_pos h1]
    · unfold fz_mo_readPredicted_90
      rw [hpb M rfl rfl]
      simp only [zbs]
      rw [if_pos h2]
  | succ d ih =>
    intro k f f' P S M cc hk hf hf' h hP hd he hm hbn hpb
    obtain ⟨f, rfl⟩ : ∃ g, f = g + 1 := ⟨f - 1, by omega⟩
    obtain ⟨f', rfl⟩ : ∃ g, f' = g + 1 := ⟨f' - 1, by omega⟩
    have eN : N ≤ 400 := hv.1
    have h1 : ¬ Int32.ofNat q ≤ Int32.ofNat k := fun hh => by
      have := (nm_le (a := q) (b := k) (by omega) (by omega)).mp hh
      omega
    have h2 : ¬ Int32.ofNat (2 * q + 2) ≤ Int32.ofNat (2 + 2 * k) := fun hh => by
      have := (nm_le (a := 2 * q + 2) (b := 2 + 2 * k) (by omega) (by omega)).mp hh
      omega
    have hu : fz_by_numberAt S (Int32.ofNat P) 1 0 = some (if P + 1 ≤ N then Int64.ofNat (zn (zb s) P 1 (zfl 0)) else 0) := zr_num hv h (n := 1) (by omega) 0
    have hP1 : P + 1 ≤ N := by omega
    rw [if_pos hP1] at hu
    have hb256 : zn (zb s) P 1 (zfl 0) < 256 := by
      have : zn (zb s) P 1 (zfl 0) < 256 ^ 1 := zn_lt (fun i _ hi => ((zv_B hv).1.2.2 i (by omega)).1)
      omega
    have hask : fz_mo_ask M 1 0 0 255 = some (Int64.ofNat (zn (zb s) P 1 (zfl 0)), zz_i M 7 (Int32.ofNat (P + 1))) := by
      rcases zr_ask hv h (n := 1) (by omega) 0 0 255 with ⟨-, -, -, a4⟩ | ⟨a1, -⟩
      · exact a4
      · exact absurd ⟨hP1, by
          rw [Int64.le_iff_toInt_le, nm_jtoInt (by omega)]
          have : (0 : Int64).toInt = 0 := rfl
          omega, by
          rw [Int64.le_iff_toInt_le, nm_jtoInt (by omega)]
          have : (255 : Int64).toInt = 255 := by decide
          omega⟩ a1
    obtain ⟨b, hb⟩ : ∃ b, b = zn (zb s) P 1 (zfl 0) := ⟨_, rfl⟩
    rw [← hb] at hu hb256 hask
    obtain ⟨n1, n2, n3, n4⟩ := zr_b4 ⟨b, hb256⟩
    have n1' : ((Int32.ofNat b >>> ((0 : Int32) &&& 31)) &&& (15 : Int32)) = Int32.ofNat (b % 16) := n1
    have n2' : ((Int32.ofNat b >>> ((4 : Int32) &&& 31)) &&& (15 : Int32)) = Int32.ofNat (b / 16) := n2
    have n3' : (Int32.ofNat b - Int32.ofNat b / (16 : Int32) * (16 : Int32)) = Int32.ofNat (b % 16) := n3
    have n4' : Int32.ofNat b / (16 : Int32) = Int32.ofNat (b / 16) := n4
    obtain ⟨hk0, hkm0, h14, h15, h7, h8, hPN⟩ := id h
    obtain ⟨Sa1, Sa, Ma1, Ma, a1, a2, a3, a4, a5, a6, a7, a8, a9, a10, a11, a12⟩ := zp_one (M := zz_i M 7 (Int32.ofNat (P + 1))) (x := x) hk0 hkm0 hd (by omega) he hm (k := b / 16) (by omega)
    obtain ⟨Sb1, Sb, Mb1, Mb, b1, b2, b3, b4, b5, b6, b7, b8, b9, b10, b11, b12⟩ := zp_one a6 a7 a8 (by omega) a9 a10 (k := b % 16) (by omega)
    have s14 : Sb.1 14 = Int32.ofNat P := (b11 14 (by omega) (by omega) (by decide)).trans ((a11 14 (by omega) (by omega) (by decide)).trans h14)
    have s15 : Sb.1 15 = 0 := (b11 15 (by omega) (by omega) (by decide)).trans ((a11 15 (by omega) (by omega) (by decide)).trans h15)
    have m7 : Mb.1 7 = Int32.ofNat (P + 1) := (b12 7 (by omega) (by omega)).trans (a12 7 (by omega) (by omega))
    have m8 : Mb.1 8 = 0 := (b12 8 (by omega) (by omega)).trans ((a12 8 (by omega) (by omega)).trans h8)
    have fs : zr_sg S (zz_i Sb 14 (Int32.ofNat (P + 1))) := by
      intro i i1 i2 i3
      show zz_u Sb.1 14 _ i = _
      rw [zz_u_n _ _ (by omega)]
      exact (b11 i (by omega) i2 i3).trans (a11 i (by omega) i2 i3)
    have fm : zr_mg M Mb := by
      intro i i1 i2
      refine (b12 i (by omega) i2).trans ((a12 i (by omega) i2).trans ?_)
      show zz_u M.1 7 _ i = _
      rw [zz_u_n _ _ (by omega)]
    have hz : zr s m N 0 (zz_i Sb 14 (Int32.ofNat (P + 1))) Mb (P + 1) := ⟨zr_ki b6 (by omega) _, b7, rfl, s15, m7, m8, hP1⟩
    have hd' : zr_d (zz_i Sb 14 (Int32.ofNat (P + 1))) Mb c (a + 2 + 2 * (k + 1)) := b8
    obtain ⟨S', M', r1, r2, r3, r4, r5, r6⟩ := ih (k + 1) f f' (P + 1) (zz_i Sb 14 (Int32.ofNat (P + 1))) Mb (zp_N (zp_N cc (b / 16)) (b % 16)) (by omega) (by omega) (by omega) hz (by omega) hd' b9 b10 (by
      rw [fs 24 (by omega) (by omega) (by decide), fs 23 (by omega) (by omega) (by decide)]
      exact hbn) (fun Z z12 z13 => hpb Z (z12.trans (fm 12 (by omega) (by omega))) (z13.trans (fm 13 (by omega) (by omega))))
    have ep : Int32.ofNat P + (1 : Int32) = Int32.ofNat (P + 1) := nm_add P 1
    have ek : Int32.ofNat k + (1 : Int32) = Int32.ofNat (k + 1) := nm_add k 1
    have ea : Int32.ofNat a + Int32.ofNat (2 + 2 * k) = Int32.ofNat (a + 2 + 2 * k) := by
      rw [nm_add, Nat.add_assoc]
    have ea1 : Int32.ofNat (a + 2 + 2 * k) + (1 : Int32) = Int32.ofNat (a + 2 + 2 * k + 1) := nm_add _ 1
    have eo : Int32.ofNat (2 + 2 * k) + (2 : Int32) = Int32.ofNat (2 + 2 * (k + 1)) := nm_add _ 2
    refine ⟨S', M', ?_, ?_, ?_, r4, zr_sg_t fs r5, zr_mg_t fm r6⟩
    · have h37 := zp_37 (K := fz_rd_takeNibbles_10_15_3 f) 997 (Int32.ofNat k) n2' n1' a1 a2 a3 b1 b2 b3
      have h37' : fz_rd_takeNibbles_10_15_37 (fz_rd_takeNibbles_10_15_3 f) fz_fu 4 0 (Int32.ofNat k) (Int32.ofNat b) 0 S = fz_rd_takeNibbles_10_15_3 f 4 0 (Int32.ofNat k + (1 : Int32)) (zz_i Sb 14 ((Sb.1 14) + (1 : Int32))) := h37
      rw [s14, ep, ek] at h37'
      unfold fz_rd_takeNibbles_10_15_3 fz_fm_bytesOfNibbles_13
      rw [hbn]
      simp only [zbs]
      rw [if_neg h1, h14, h15, hu]
      simp only [zbs]
      rw [nm_l2i, h37']
      exact r1
    · unfold fz_mo_readPredicted_90
      rw [hpb M rfl rfl]
      simp only [zbs]
      rw [if_neg h2, if_neg (not_not_intro h8), hask]
      simp only [zbs]
      rw [nm_l2i, n3', n4', a4]
      simp only [zbs]
      rw [ea, a5]
      simp only [zbs]
      rw [b4]
      simp only [zbs]
      rw [ea1, b5]
      simp only [zbs]
      rw [eo]
      exact r2
    · rw [show P + (d + 1) = P + 1 + d by omega]
      exact r3
