/-! Reading: "SSND". -/
theorem nm_and (a b : Nat) : Int32.ofNat a &&& Int32.ofNat b = Int32.ofNat (a &&& b) := by
  apply Int32.toBitVec_inj.mp
  rw [Int32.toBitVec_and, Int32.toBitVec_ofNat', Int32.toBitVec_ofNat', Int32.toBitVec_ofNat', BitVec.ofNat_and]
theorem nm_jand (a b : Nat) : Int64.ofNat a &&& Int64.ofNat b = Int64.ofNat (a &&& b) := by
  apply Int64.toBitVec_inj.mp
  rw [Int64.toBitVec_and, Int64.toBitVec_ofNat', Int64.toBitVec_ofNat', Int64.toBitVec_ofNat', BitVec.ofNat_and]
theorem zr_mk : ∀ k : Fin 8, ((1 : Int32) <<< (Int32.ofNat k.1 &&& 31)) - (1 : Int32) = Int32.ofNat (2 ^ k.1 - 1) ∧ ((1 : Int64) <<< (Int32.toInt64 (Int32.ofNat k.1) &&& 63)) - (1 : Int64) = Int64.ofNat (2 ^ k.1 - 1) := by decide +kernel
def zr_s8 (v : Nat) : Int32 := if v < 128 then Int32.ofNat v else Int32.ofNat v - (256 : Int32)
theorem zr_v8 : ∀ v : Fin 256, fz_mo_signed (Int64.ofNat v.1) 8 = some (zr_s8 v.1) ∧ (256 : Int32) * zr_s8 v.1 = Int16.toInt32 (Int32.toInt16 (Int32.ofNat v.1 <<< (((16 : Int32) - (8 : Int32)) &&& 31))) ∧ -32768 ≤ ((256 : Int32) * zr_s8 v.1).toInt ∧ ((256 : Int32) * zr_s8 v.1).toInt ≤ 32767 := by decide +kernel
theorem zF_54 (g : Nat) (x1 x3 x4 : Int32) (M : am_Z) : fz_mo_readOtherData_54 (g + 1) x1 x3 x4 (zz_i M 8 1) = some (zz_i M 8 1) := by
  unfold fz_mo_readOtherData_54 fz_mo_readOtherData_162
  by_cases c : (zz_i M 8 1).1 10 ≤ x4
  · rw [if_pos c, zF_pad]
    simp only [zbs]
  · rw [if_neg c, if_pos (zF_8 M), zF_pad]
    simp only [zbs]
/-- one sample -/
theorem zr_s1 {s m S M : am_Z} {N P c i w b : Nat} {W : Int32} (hv : zv_f s m N) (hw : w = 1 ∧ W = 8 ∧ 1 ≤ b ∧ b ≤ 8 ∨ w = 2 ∧ W = 16 ∧ 9 ≤ b ∧ b ≤ 16) (h : zr s m N 1 S M P) (hP : P + w ≤ N) (hic : i < c) (hd : zr_d S M c i) (h19 : S.1 19 = Int32.ofNat b) (h14 : M.1 14 = Int32.ofNat b) (x : Int32) (f g : Nat) : (∃ S' M', fz_rd_takeSsnd_77 (f + 1) W x (Int32.ofNat i) S = fz_rd_takeSsnd_77 f W x (Int32.ofNat (i + 1)) S' ∧ fz_mo_readOtherData_54 (g + 1) (Int32.ofNat w) x (Int32.ofNat i) M = fz_mo_readOtherData_54 g (Int32.ofNat w) x (Int32.ofNat (i + 1)) M' ∧ zr s m N 1 S' M' (P + w) ∧ zr_d S' M' c (i + 1) ∧ zr_sg S S' ∧ zr_mg M M') ∨ (fz_rd_takeSsnd_77 (f + 1) W x (Int32.ofNat i) S = some (0, S) ∧ fz_mo_readOtherData_54 (g + 1) (Int32.ofNat w) x (Int32.ofNat i) M = some (zz_i M 8 1)) := by
  have eN : N ≤ 400 := hv.1
  have hc64 := hd.1
  have hw4 : 1 ≤ w ∧ w ≤ 2 := by rcases hw with ⟨rfl, -⟩ | ⟨rfl, -⟩ <;> omega
  have hle : ¬ Int32.ofNat c ≤ Int32.ofNat i := fun hh => by
    have := (nm_le (a := c) (b := i) (by omega) (by omega)).mp hh
    omega
  have h8 : ¬ ¬ M.1 8 = 0 := not_not_intro h.2.2.2.2.2.1
  have h20 : S.1 20 = Int32.ofNat i := by
    rw [hd.2.2.2.1, show min i c = i by omega]
  have ei : Int32.ofNat i + (1 : Int32) = Int32.ofNat (i + 1) := nm_add i 1
  have hrr : ¬ (Int32.ofNat i < 0 ∨ 64 ≤ i) := fun h => h.elim (nm_nneg (by omega)) (by omega)
  have eW : W / (8 : Int32) = Int32.ofNat w := by rcases hw with ⟨rfl, rfl, -⟩ | ⟨rfl, rfl, -⟩ <;> decide
  obtain ⟨k, hk, eWb, e8b⟩ : ∃ k, k < 8 ∧ W - Int32.ofNat b = Int32.ofNat k ∧ (8 : Int32) * Int32.ofNat w - Int32.ofNat b = Int32.ofNat k := by
    rcases hw with ⟨rfl, rfl, b1, b2⟩ | ⟨rfl, rfl, b1, b2⟩
    · refine ⟨8 - b, by omega, nm_sub (a := 8) (by omega), ?_⟩
      rw [show (8 : Int32) * Int32.ofNat 1 = Int32.ofNat 8 by decide, nm_sub (by omega)]
    · refine ⟨16 - b, by omega, nm_sub (a := 16) (by omega), ?_⟩
      rw [show (8 : Int32) * Int32.ofNat 2 = Int32.ofNat 16 by decide, nm_sub (by omega)]
  obtain ⟨k1, k2⟩ := zr_mk ⟨k, hk⟩
  have k1' : ((1 : Int32) <<< (Int32.ofNat k &&& 31)) - (1 : Int32) = Int32.ofNat (2 ^ k - 1) := k1
  have k2' : ((1 : Int64) <<< (Int32.toInt64 (Int32.ofNat k) &&& 63)) - (1 : Int64) = Int64.ofNat (2 ^ k - 1) := k2
  have hu := zr_num hv h (n := w) (by omega) 1
  have hpk := zr_peek hv h (p := P) (n := w) (by have := h.2.2.2.2.2.2; omega) (by omega) 1
  rw [if_pos hP] at hu hpk
  have hlt := zr_lt hv (n := w) (by omega) hP (zfl 1)
  have hvb : zn (zb s) P w (zfl 1) < 256 ^ w := zn_lt (fun i _ hi => ((zv_B hv).1.2.2 i (by omega)).1)
  obtain ⟨v, hvv⟩ : ∃ v, v = zn (zb s) P w (zfl 1) := ⟨_, rfl⟩
  rw [← hvv] at hu hpk hlt hvb
  have hv16 : v < 65536 := by
    rcases hw with ⟨rfl, -⟩ | ⟨rfl, -⟩
    · have : 256 ^ 1 = 256 := rfl
      omega
    · have : 256 ^ 2 = 65536 := rfl
      omega
  have ew7 : Int32.ofNat P + Int32.ofNat w = Int32.ofNat (P + w) := nm_add _ _
  have hak : v &&& (2 ^ k - 1) ≤ v := Nat.and_le_left
  -- what is kept
  have K : ∀ y : Int32, -32768 ≤ y.toInt → y.toInt ≤ 32767 → fz_rd_takeSsnd_77 (f + 1) W x (Int32.ofNat i) S = ((fz_so_append_11 S y).bind fun q3 => fz_rd_takeSsnd_77 f W x (Int32.ofNat i + (1 : Int32)) (zz_i q3 14 ((q3.1 14) + Int32.ofNat w))) → fz_mo_readOtherData_54 (g + 1) (Int32.ofNat w) x (Int32.ofNat i) M = fz_mo_readOtherData_155 (fz_mo_readOtherData_54 g) (Int32.ofNat w) x (Int32.ofNat i) y (Int32.ofNat i) (zz_i M 7 (Int32.ofNat (P + w))) → ∃ S' M', fz_rd_takeSsnd_77 (f + 1) W x (Int32.ofNat i) S = fz_rd_takeSsnd_77 f W x (Int32.ofNat (i + 1)) S' ∧ fz_mo_readOtherData_54 (g + 1) (Int32.ofNat w) x (Int32.ofNat i) M = fz_mo_readOtherData_54 g (Int32.ofNat w) x (Int32.ofNat (i + 1)) M' ∧ zr s m N 1 S' M' (P + w) ∧ zr_d S' M' c (i + 1) ∧ zr_sg S S' ∧ zr_mg M M' := by
    intro y v1 v2 hC hD
    obtain ⟨S1, hS1⟩ : ∃ Z, Z = zz_i (zz_r S 3 (upd (S.2.2 3) i y)) 20 (Int32.ofNat (i + 1)) := ⟨_, rfl⟩
    have f1 : zr_sf S S1 := by rw [hS1]; exact zr_sf_app _ _ _ _
    have ap : fz_so_append_11 S y = some S1 := by rw [hS1]; exact zr_app (by omega) h20 y
    have s14 : S1.1 14 = Int32.ofNat P := (f1.1 14 (by decide)).trans h.2.2.1
    refine ⟨zz_i S1 14 (Int32.ofNat (P + w)), zz_r (zz_i M 7 (Int32.ofNat (P + w))) 2 (upd (M.2.2 2) i y), ?_, ?_, ?_, ?_, ?_, ?_⟩
    · rw [hC, ap]
      simp only [zbs]
      rw [s14, ew7, ei]
    · rw [hD]
      unfold fz_mo_readOtherData_155
      rw [nm_clamp (a := i) (by omega), if_neg hrr, ei]
      rfl
    · exact zr_sm (zr_up h hP) ⟨fun j hj => by
        show zz_u S1.1 14 _ j = zz_u S.1 14 _ j
        by_cases cj : j = 14
        · subst cj
          rw [zz_u_s, zz_u_s]
        · rw [zz_u_n _ _ cj, zz_u_n _ _ cj]
          exact f1.1 j hj, f1.2.1, f1.2.2⟩ (zr_mf_r _ _)
    · obtain ⟨d1, d2, d3, d4, d5⟩ := hd
      refine ⟨d1, (f1.1 18 (by decide)).trans d2, d3, ?_, ?_⟩
      · show S1.1 20 = _
        rw [hS1, show min (i + 1) c = i + 1 by omega]
        rfl
      · rw [show min (i + 1) c = i + 1 by omega]
        rw [show min i c = i by omega] at d5
        intro j hj
        have e3 : (zz_i S1 14 (Int32.ofNat (P + w))).2.2 3 = upd (S.2.2 3) i y := by
          rw [hS1]
          show zz_u S.2.2 3 _ 3 = _
          exact zz_u_s _ _ _
        have e2 : (zz_r (zz_i M 7 (Int32.ofNat (P + w))) 2 (upd (M.2.2 2) i y)).2.2 2 = upd (M.2.2 2) i y := by
          show zz_u M.2.2 2 _ 2 = _
          exact zz_u_s _ _ _
        rw [e3, e2]
        by_cases cj : j < i
        · rw [zs_un _ _ cj, zs_un _ _ cj]
          exact d5 j cj
        · have ej : j = i := by omega
          subst ej
          rw [zs_us, zs_us]
          exact ⟨rfl, v1, v2⟩
    · intro j j1 j2 j3
      show zz_u S1.1 14 _ j = _
      rw [zz_u_n _ _ (by omega)]
      exact f1.1 j j3
    · intro j j1 j2
      show zz_u M.1 7 _ j = _
      rw [zz_u_n _ _ (by omega)]
  -- the bits that must be none
  have cS : (Int32.ofNat v &&& Int32.ofNat (2 ^ k - 1)) = 0 ↔ v &&& (2 ^ k - 1) = 0 := by
    rw [nm_and, show (0 : Int32) = Int32.ofNat 0 from rfl, nm_inj (by omega) (by omega)]
  have cM : lg_cmp (Int64.ofNat v &&& Int64.ofNat (2 ^ k - 1)) (0 : Int64) = 0 ↔ v &&& (2 ^ k - 1) = 0 := by
    rw [nm_cmp0, nm_jand, show (0 : Int64) = Int64.ofNat 0 from rfl, nm_jinj (by omega) (by omega)]
  by_cases cz : v &&& (2 ^ k - 1) = 0
  · left
    rcases hw with ⟨rfl, rfl, b1, b2⟩ | ⟨rfl, rfl, b1, b2⟩
    · have hv256 : v < 256 := by
        have : 256 ^ 1 = 256 := rfl
        omega
      obtain ⟨p1, p2, p3, p4⟩ := zr_v8 ⟨v, hv256⟩
      have p1' : fz_mo_signed (Int64.ofNat v) 8 = some (zr_s8 v) := p1
      have p2' : (256 : Int32) * zr_s8 v = Int16.toInt32 (Int32.toInt16 (Int32.ofNat v <<< (((16 : Int32) - (8 : Int32)) &&& 31))) := p2
      refine K _ p3 p4 ?_ ?_
      · conv => lhs; unfold fz_rd_takeSsnd_77
        rw [hd.2.1, if_neg hle, eW, h.2.2.1, h.2.2.2.1, hu]
        simp only [zbs]
        rw [nm_l2i, h19, eWb, k1', if_pos (cS.mpr cz), p2']
      · conv => lhs; unfold fz_mo_readOtherData_54
        rw [hd.2.2.1, if_neg hle, if_neg h8, h.2.2.2.2.1, hpk]
        simp only [zbs]
        rw [h14, e8b, k2', if_pos (cM.mpr cz), if_neg (show ¬ ¬ Int32.ofNat 1 = 1 by decide), p1']
        simp only [zbs]
        rw [ew7]
    · obtain ⟨p3, p4⟩ := zr_w_le hv16
      have e0 : (((16 : Int32) - (16 : Int32)) &&& 31) = 0 := by decide
      refine K _ p3 p4 ?_ ?_
      · conv => lhs; unfold fz_rd_takeSsnd_77
        rw [hd.2.1, if_neg hle, eW, h.2.2.1, h.2.2.2.1, hu]
        simp only [zbs]
        rw [← zr_w_s hv16, nm_l2i, h19, eWb, k1', if_pos (cS.mpr cz), e0, Int32.shiftLeft_zero]
      · conv => lhs; unfold fz_mo_readOtherData_54
        rw [hd.2.2.1, if_neg hle, if_neg h8, h.2.2.2.2.1, hpk]
        simp only [zbs]
        rw [h14, e8b, k2', if_pos (cM.mpr cz), if_pos (show ¬ Int32.ofNat 2 = 1 by decide), zr_w_m hv16]
        simp only [zbs]
        rw [ew7]
  · right
    refine ⟨?_, ?_⟩
    · unfold fz_rd_takeSsnd_77
      rw [hd.2.1, if_neg hle, eW, h.2.2.1, h.2.2.2.1, hu]
      simp only [zbs]
      rw [nm_l2i, h19, eWb, k1', if_neg (fun hc => cz (cS.mp hc))]
    · unfold fz_mo_readOtherData_54
      rw [hd.2.2.1, if_neg hle, if_neg h8, h.2.2.2.2.1, hpk]
      simp only [zbs]
      rw [h14, e8b, k2', if_neg (fun hc => cz (cM.mp hc))]
