/-! Reading: samples kept by both. -/
theorem nm_jsh63 : ∀ e : Fin 64, ((Int64.ofNat e.1 &&& 63).toBitVec.smod 64).toNat = e.1 := by decide
theorem nm_jsar (x : Int64) {e : Nat} (he : e < 64) : (x >>> (Int64.ofNat e &&& 63)).toInt = x.toInt / ((2 ^ e : Nat) : Int) := by
  have h := nm_jsh63 ⟨e, he⟩
  show (x >>> (Int64.ofNat e &&& 63)).toBitVec.toInt = _
  rw [Int64.toBitVec_shiftRight]
  show (BitVec.sshiftRight _ _).toInt = _
  rw [h, BitVec.toInt_sshiftRight, Int.shiftRight_eq_div_pow]
  rfl
theorem nm_jshr {p e : Nat} (hp : p < 9223372036854775808) (he : e < 64) : Int64.ofNat p >>> (Int64.ofNat e &&& 63) = Int64.ofNat (p / 2 ^ e) := by
  have h2 : p / 2 ^ e ≤ p := Nat.div_le_self _ _
  apply Int64.toInt_inj.mp
  rw [nm_jsar _ he, nm_jtoInt hp, nm_jtoInt (by omega)]
  rfl
/-- a word with its sign -/
def zr_w (v : Nat) : Int32 := if v < 32768 then Int32.ofNat v else Int32.ofNat v - (65536 : Int32)
theorem zr_w_int {v : Nat} (hv : v < 65536) : (zr_w v).toInt = if v < 32768 then (v : Int) else (v : Int) - 65536 := by
  unfold zr_w
  by_cases c : v < 32768
  · rw [if_pos c, if_pos c, nm_toInt (by omega)]
  · rw [if_neg c, if_neg c]
    exact zh_sub (a := v) (b := 65536) (by omega) (by omega)
theorem zr_w_le {v : Nat} (hv : v < 65536) : -32768 ≤ (zr_w v).toInt ∧ (zr_w v).toInt ≤ 32767 := by
  rw [zr_w_int hv]
  by_cases c : v < 32768
  · rw [if_pos c]; omega
  · rw [if_neg c]; omega
theorem zr_w_s {v : Nat} (hv : v < 65536) : Int16.toInt32 (Int32.toInt16 (Int64.toInt32 (Int64.ofNat v))) = zr_w v := by
  apply Int32.toInt_inj.mp
  rw [zr_w_int hv, nm_l2i, Int16.toInt_toInt32, Int32.toInt_toInt16, nm_toInt (by omega)]
  by_cases c : v < 32768
  · rw [if_pos c]
    exact Int.bmod_eq_of_le (by omega) (by omega)
  · rw [if_neg c, show ((v : Int)) = ((v : Int) - 65536) + 65536 by omega]
    have e : (((v : Int) - 65536) + 65536).bmod (2 ^ 16) = ((v : Int) - 65536).bmod (2 ^ 16) := by
      have := Int.add_bmod_right ((v : Int) - 65536) (2 ^ 16)
      exact this
    rw [e, Int.bmod_eq_of_le (by omega) (by omega)]
    omega
theorem zr_w_m {v : Nat} (hv : v < 65536) : fz_mo_signed (Int64.ofNat v) 16 = some (zr_w v) := by
  have e15 : (Int32.toInt64 ((16 : Int32) - (1 : Int32)) &&& 63) = (Int64.ofNat 15 &&& 63) := by decide
  have e16 : ((1 : Int64) <<< (Int32.toInt64 (16 : Int32) &&& 63)) = Int64.ofNat 65536 := by decide
  have h1 : (1 : Int64) = Int64.ofNat 1 := rfl
  unfold fz_mo_signed zr_w
  rw [e15, nm_jshr (by omega) (by omega), e16]
  by_cases c : v < 32768
  · have n1 : ¬ lg_cmp (Int64.ofNat (v / 2 ^ 15)) 1 = 0 := by
      rw [nm_cmp0, h1, nm_jinj (by omega) (by omega)]
      omega
    rw [if_pos n1, if_pos c, nm_l2i]
  · have n1 : lg_cmp (Int64.ofNat (v / 2 ^ 15)) 1 = 0 := by
      rw [nm_cmp0, h1, nm_jinj (by omega) (by omega)]
      omega
    rw [if_neg (not_not_intro n1), if_neg c, Int64.toInt32_sub, nm_l2i, nm_l2i]
    rfl
/-- both drafts: the first i samples, but not more than promised -/
def zr_d (S M : am_Z) (c i : Nat) : Prop := c ≤ 64 ∧ S.1 18 = Int32.ofNat c ∧ M.1 10 = Int32.ofNat c ∧ S.1 20 = Int32.ofNat (min i c) ∧ ∀ j, j < min i c → S.2.2 3 j = M.2.2 2 j ∧ -32768 ≤ (S.2.2 3 j).toInt ∧ (S.2.2 3 j).toInt ≤ 32767
/-- what keeping a sample changes -/
def zr_sf (S S' : am_Z) : Prop := (∀ i, i ≠ 20 → S'.1 i = S.1 i) ∧ S'.2.1 = S.2.1 ∧ ∀ r, r ≠ 3 → S'.2.2 r = S.2.2 r
def zr_mf (M M' : am_Z) : Prop := M'.1 = M.1 ∧ M'.2.1 = M.2.1 ∧ ∀ r, r ≠ 2 → M'.2.2 r = M.2.2 r
theorem zr_app {S : am_Z} {k : Nat} (hk : k < 64) (h : S.1 20 = Int32.ofNat k) (v : Int32) : fz_so_append_11 S v = some (zz_i (zz_r S 3 (upd (S.2.2 3) k v)) 20 (Int32.ofNat (k + 1))) := by
  have h64 : ¬ (64 : Int32) ≤ Int32.ofNat k := fun hc => by
    have := (nm_le (a := 64) (b := k) (by omega) (by omega)).mp hc
    omega
  have hr : ¬ (Int32.ofNat k < 0 ∨ 64 ≤ k) := fun h => h.elim (nm_nneg (by omega)) (by omega)
  have e1 : Int32.ofNat k + (1 : Int32) = Int32.ofNat (k + 1) := nm_add k 1
  unfold fz_so_append_11
  rw [h, if_neg h64, nm_clamp (a := k) (by omega), if_neg hr, e1]
theorem zr_sf_app (S : am_Z) (k : Nat) (v w : Int32) : zr_sf S (zz_i (zz_r S 3 (upd (S.2.2 3) k v)) 20 w) := by
  refine ⟨fun i hi => ?_, rfl, fun r hr => ?_⟩
  · show zz_u S.1 20 _ i = _
    exact zz_u_n _ _ hi
  · show zz_u S.2.2 3 _ r = _
    exact zz_u_n _ _ hr
theorem zr_mf_r (M : am_Z) (f : Nat → Int32) : zr_mf M (zz_r M 2 f) := by
  refine ⟨rfl, rfl, fun r hr => ?_⟩
  show zz_u M.2.2 2 _ r = _
  exact zz_u_n _ _ hr
theorem zr_keep {S M : am_Z} {c i : Nat} {v : Int32} (h : zr_d S M c i) (hi : i ≤ 200) (h17 : M.1 17 = v) (v1 : -32768 ≤ v.toInt) (v2 : v.toInt ≤ 32767) : ∃ S' M', fz_rd_appendPromised S v = some S' ∧ fz_mo_keep M (Int32.ofNat i) = some M' ∧ zr_d S' M' c (i + 1) ∧ zr_sf S S' ∧ zr_mf M M' := by
  obtain ⟨hc, h18, h10, h20, hr⟩ := h
  by_cases ci : c ≤ i
  · have hle : Int32.ofNat c ≤ Int32.ofNat (min i c) := (nm_le (by omega) (by omega)).mpr (by omega)
    have hle2 : Int32.ofNat c ≤ Int32.ofNat i := (nm_le (by omega) (by omega)).mpr ci
    refine ⟨S, M, ?_, ?_, ⟨hc, h18, h10, ?_, ?_⟩, ⟨fun _ _ => rfl, rfl, fun _ _ => rfl⟩, ⟨rfl, rfl, fun _ _ => rfl⟩⟩
    · unfold fz_rd_appendPromised
      rw [h18, h20, if_pos hle]
    · unfold fz_mo_keep
      rw [h10, if_pos hle2]
    · rw [h20, show min (i + 1) c = min i c by omega]
    · rw [show min (i + 1) c = min i c by omega]
      exact hr
  · have em : min i c = i := by omega
    have em1 : min (i + 1) c = i + 1 := by omega
    rw [em] at h20 hr
    have hle : ¬ Int32.ofNat c ≤ Int32.ofNat i := fun hh => ci ((nm_le (by omega) (by omega)).mp hh)
    have hrr : ¬ (Int32.ofNat i < 0 ∨ 64 ≤ i) := fun h => h.elim (nm_nneg (by omega)) (by omega)
    refine ⟨zz_i (zz_r S 3 (upd (S.2.2 3) i v)) 20 (Int32.ofNat (i + 1)), zz_r M 2 (upd (M.2.2 2) i v), ?_, ?_, ⟨hc, h18, h10, ?_, ?_⟩, zr_sf_app _ _ _ _, zr_mf_r _ _⟩
    · unfold fz_rd_appendPromised
      rw [h18, h20, if_neg hle, zr_app (by omega) h20]
      simp only [zbs]
    · unfold fz_mo_keep
      rw [h10, if_neg hle, nm_clamp (a := i) (by omega), if_neg hrr, h17]
    · rw [em1]
      rfl
    · rw [em1]
      intro j hj
      have e3 : (zz_i (zz_r S 3 (upd (S.2.2 3) i v)) 20 (Int32.ofNat (i + 1))).2.2 3 = upd (S.2.2 3) i v := by
        show zz_u S.2.2 3 _ 3 = _
        exact zz_u_s _ _ _
      have e2 : (zz_r M 2 (upd (M.2.2 2) i v)).2.2 2 = upd (M.2.2 2) i v := by
        show zz_u M.2.2 2 _ 2 = _
        exact zz_u_s _ _ _
      rw [e3, e2]
      by_cases cj : j < i
      · rw [zs_un _ _ cj, zs_un _ _ cj]
        exact hr j cj
      · have ej : j = i := by omega
        subst ej
        rw [zs_us, zs_us]
        exact ⟨rfl, v1, v2⟩
/-- the relation of reading, over what keeping a sample changes -/
theorem zr_sm {s m S M S' M' : am_Z} {N P : Nat} {g : Int32} (h : zr s m N g S M P) (hs : zr_sf S S') (hm : zr_mf M M') : zr s m N g S' M' P := by
  obtain ⟨⟨k1, k2⟩, ⟨l0, l1, l3, l4, l6, l7, l8⟩, h14, h15, h7, h8, hP⟩ := h
  obtain ⟨s1, s2, s3⟩ := hs
  obtain ⟨m1, m2, m3⟩ := hm
  refine ⟨⟨fun i hi => ?_, fun r hr => ?_⟩, ⟨?_, ?_, ?_, ?_, ?_, ?_, ?_⟩, ?_, ?_, ?_, ?_, hP⟩
  · rw [s1 i (by omega)]; exact k1 i hi
  · rw [s3 r (by omega)]; exact k2 r hr
  · rw [m1]; exact l0
  · rw [m1]; exact l1
  · rw [m1]; exact l3
  · rw [m1]; exact l4
  · rw [m1]; exact l6
  · rw [m3 0 (by decide)]; exact l7
  · rw [m3 1 (by decide)]; exact l8
  · rw [s1 14 (by decide)]; exact h14
  · rw [s1 15 (by decide)]; exact h15
  · rw [m1]; exact h7
  · rw [m1]; exact h8
