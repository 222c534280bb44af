/-! Reading: the chunks of a wave file, the reference's dispatch. -/
theorem nm_inj32 {a b : Nat} (ha : a < 4294967296) (hb : b < 4294967296) : Int32.ofNat a = Int32.ofNat b ↔ a = b := by
  constructor
  · intro h
    have h2 : (Int32.ofNat a).toBitVec.toNat = (Int32.ofNat b).toBitVec.toNat := by rw [h]
    rw [Int32.toBitVec_ofNat', Int32.toBitVec_ofNat', BitVec.toNat_ofNat, BitVec.toNat_ofNat, Nat.mod_eq_of_lt (by omega), Nat.mod_eq_of_lt (by omega)] at h2
    exact h2
  · intro h
    rw [h]
theorem zw_k {v k : Nat} (hv : v < 4294967296) (hk : k < 4294967296) : lg_cmp (Int64.ofNat v) (Int64.ofNat k) = 0 ↔ v = k := by
  rw [nm_cmp0, nm_jinj (by omega) (by omega)]
/-- the reference at the end of the bytes -/
theorem zw_short {M : am_Z} {V : Int64} (g : Nat) (h8 : M.1 8 = 0) (hV : fz_mo_peek M (M.1 7) 4 1 = some V) (hV1 : V = -1) (hl : M.1 4 < M.1 7 + (4 : Int32)) : fz_mo_readWave_2 (g + 1) 0 M = some (zz_i M 8 1) := by
  have n0 : ¬ 0 ≤ lg_cmp V (0 : Int64) := by
    rw [hV1]
    intro hc
    have : lg_cmp (-1 : Int64) (0 : Int64) < 0 := by
      rw [nm_cmplt]
      decide
    rw [Int32.lt_iff_toInt_lt] at this
    rw [Int32.le_iff_toInt_le] at hc
    omega
  have n1 : ¬ lg_cmp V (1717658484 : Int64) = 0 := by
    rw [hV1, nm_cmp0]
    decide
  have h81 : ∀ K x4 y0, fz_mo_readWave_81 K 0 V x4 y0 M = some (zz_i M 8 1) := by
    intro K x4 y0
    unfold fz_mo_readWave_81 fz_mo_readWave_142
    rw [if_neg n0, if_pos hl]
  unfold fz_mo_readWave_2
  rw [if_neg (not_not_intro h8), if_neg (show ¬ ¬ (0 : Int32) = 0 by decide), hV]
  simp only [zbs]
  rw [if_pos n1]
  unfold fz_mo_readWave_51 fz_mo_readWave_52 fz_mo_readWave_76 fz_mo_readWave_80
  rw [h81, h81]
  by_cases c1 : M.1 15 = 0
  · rw [if_pos c1]
  · rw [if_neg c1]
    by_cases c2 : M.1 12 = 1
    · rw [if_pos c2]
    · rw [if_neg c2]
      by_cases c3 : M.1 16 = 0
      · rw [if_neg (not_not_intro c3)]
      · rw [if_pos c3]
/-- the reference at a chunk -/
theorem zw_go {M : am_Z} {v : Nat} (g : Nat) (h8 : M.1 8 = 0) (hv : v < 4294967296) (hV : fz_mo_peek M (M.1 7) 4 1 = some (Int64.ofNat v)) : fz_mo_readWave_2 (g + 1) 0 M = fz_mo_readWave_102 (fz_mo_readWave_2 g) 0 (Int64.ofNat v) (if v = 1717658484 ∧ ¬ M.1 15 = 0 ∧ ¬ M.1 12 = 1 then 1 else 0) (if M.1 15 = 0 ∨ (¬ M.1 12 = 1 ∧ M.1 16 = 0) then 1 else 0) M := by
  have n0 : 0 ≤ lg_cmp (Int64.ofNat v) (0 : Int64) := by
    apply (nm_nlt _ _).mp
    rw [nm_cmplt, Int64.lt_iff_toInt_lt, nm_jtoInt (by omega)]
    have : (0 : Int64).toInt = 0 := rfl
    omega
  have k : lg_cmp (Int64.ofNat v) (1717658484 : Int64) = 0 ↔ v = 1717658484 := zw_k (k := 1717658484) hv (by omega)
  have h81 : ∀ x4 y0, fz_mo_readWave_81 (fz_mo_readWave_2 g) 0 (Int64.ofNat v) x4 y0 M = fz_mo_readWave_102 (fz_mo_readWave_2 g) 0 (Int64.ofNat v) x4 y0 M := by
    intro x4 y0
    unfold fz_mo_readWave_81
    rw [if_pos n0]
  have h52 : ∀ y0, fz_mo_readWave_52 (fz_mo_readWave_2 g) 0 (Int64.ofNat v) y0 M = fz_mo_readWave_102 (fz_mo_readWave_2 g) 0 (Int64.ofNat v) y0 (if M.1 15 = 0 ∨ (¬ M.1 12 = 1 ∧ M.1 16 = 0) then 1 else 0) M := by
    intro y0
    unfold fz_mo_readWave_52 fz_mo_readWave_76 fz_mo_readWave_80
    rw [h81, h81]
    by_cases c1 : M.1 15 = 0
    · rw [if_pos c1, if_pos (Or.inl c1)]
    · rw [if_neg c1]
      by_cases c2 : M.1 12 = 1
      · rw [if_pos c2, if_neg (fun hc => hc.elim c1 (fun hc => hc.1 c2))]
      · rw [if_neg c2]
        by_cases c3 : M.1 16 = 0
        · rw [if_neg (not_not_intro c3), if_pos (Or.inr ⟨c2, c3⟩)]
        · rw [if_pos c3, if_neg (fun hc => hc.elim c1 (fun hc => c3 hc.2))]
  conv => lhs; unfold fz_mo_readWave_2
  rw [if_neg (not_not_intro h8), if_neg (show ¬ ¬ (0 : Int32) = 0 by decide), hV]
  simp only [zbs]
  unfold fz_mo_readWave_51
  rw [h52, h52]
  generalize (if M.1 15 = 0 ∨ (¬ M.1 12 = 1 ∧ M.1 16 = 0) then (1 : Int32) else 0) = e
  by_cases c0 : v = 1717658484
  · rw [if_neg (not_not_intro (k.mpr c0))]
    by_cases c1 : M.1 15 = 0
    · rw [if_pos c1, if_neg (fun hc => hc.2.1 c1)]
    · rw [if_neg c1]
      by_cases c2 : M.1 12 = 1
      · rw [if_pos c2, if_neg (fun hc => hc.2.2 c2)]
      · rw [if_neg c2, if_pos ⟨c0, c1, c2⟩]
  · rw [if_pos (fun hc => c0 (k.mp hc)), if_neg (fun hc => c0 hc.1)]
theorem zw_fmt {M : am_Z} {K : Int32 → am_Z → Option am_Z} {v : Nat} {e : Int32} (hv : v = 1718449184) : fz_mo_readWave_102 K 0 (Int64.ofNat v) 0 e M = if ¬ M.1 15 = 0 then some (zz_i M 8 1) else (fz_mo_readFormat (zz_i M 7 (M.1 7 + (4 : Int32)))).bind fun q4 => K 0 q4 := by
  have k1 : lg_cmp (Int64.ofNat v) (1718449184 : Int64) = 0 := (zw_k (k := 1718449184) (by omega) (by omega)).mpr hv
  have k2 : ¬ lg_cmp (Int64.ofNat v) (1684108385 : Int64) = 0 := fun hc => by
    have := (zw_k (k := 1684108385) (by omega) (by omega)).mp hc
    omega
  unfold fz_mo_readWave_102 fz_mo_readWave_142 fz_mo_readWave_117 fz_mo_readWave_129 fz_mo_readWave_148 fz_mo_readWave_207
  rw [if_neg (not_not_intro k1)]
  by_cases c : M.1 15 = 0
  · rw [if_neg (not_not_intro c), if_neg (not_not_intro c), if_pos (show (0 : Int32) = 0 from rfl), if_pos k2, if_neg (not_not_intro k1)]
  · rw [if_pos c, if_pos c]
theorem zw_data {M : am_Z} {K : Int32 → am_Z → Option am_Z} {v : Nat} {e : Int32} (hv : v = 1684108385) : fz_mo_readWave_102 K 0 (Int64.ofNat v) 0 e M = if e = 0 then (fz_mo_readData (zz_i M 7 (M.1 7 + (4 : Int32)))).bind fun q4 => K 1 q4 else some (zz_i M 8 1) := by
  have k1 : ¬ lg_cmp (Int64.ofNat v) (1718449184 : Int64) = 0 := fun hc => by
    have := (zw_k (k := 1718449184) (by omega) (by omega)).mp hc
    omega
  have k2 : lg_cmp (Int64.ofNat v) (1684108385 : Int64) = 0 := (zw_k (k := 1684108385) (by omega) (by omega)).mpr hv
  unfold fz_mo_readWave_102 fz_mo_readWave_142 fz_mo_readWave_117 fz_mo_readWave_129 fz_mo_readWave_148 fz_mo_readWave_207
  rw [if_pos k1, if_pos (show (0 : Int32) = 0 from rfl), if_neg (not_not_intro k2)]
  by_cases c : e = 0
  · rw [if_pos c, if_pos c, if_pos k1, if_pos (show (0 : Int32) = 0 from rfl), if_neg (not_not_intro k2)]
  · rw [if_neg c, if_neg c]
    rfl
theorem zw_fact {M : am_Z} {K : Int32 → am_Z → Option am_Z} {v : Nat} {e : Int32} (hv : v = 1717658484) : fz_mo_readWave_102 K 0 (Int64.ofNat v) 1 e M = if ¬ M.1 16 = 0 then some (zz_i M 8 1) else (fz_mo_readCount (zz_i M 7 (M.1 7 + (4 : Int32)))).bind fun q4 => K 0 q4 := by
  have k1 : ¬ lg_cmp (Int64.ofNat v) (1718449184 : Int64) = 0 := fun hc => by
    have := (zw_k (k := 1718449184) (by omega) (by omega)).mp hc
    omega
  have k2 : ¬ lg_cmp (Int64.ofNat v) (1684108385 : Int64) = 0 := fun hc => by
    have := (zw_k (k := 1684108385) (by omega) (by omega)).mp hc
    omega
  unfold fz_mo_readWave_102 fz_mo_readWave_142 fz_mo_readWave_117 fz_mo_readWave_129 fz_mo_readWave_148 fz_mo_readWave_207
  rw [if_pos k1, if_neg (show ¬ (1 : Int32) = 0 by decide)]
  by_cases c : M.1 16 = 0
  · rw [if_neg (not_not_intro c), if_neg (not_not_intro c), if_pos k2, if_pos k1, if_neg (show ¬ (1 : Int32) = 0 by decide)]
  · rw [if_pos c, if_pos c]
    rfl
theorem zw_pass {M : am_Z} {K : Int32 → am_Z → Option am_Z} {v : Nat} {e : Int32} (hv : v < 4294967296) (h1 : ¬ v = 1718449184) (h2 : ¬ v = 1684108385) : fz_mo_readWave_102 K 0 (Int64.ofNat v) 0 e M = (fz_mo_passOver (zz_i M 7 (M.1 7 + (4 : Int32))) 0).bind fun q4 => K 0 q4 := by
  have k1 : ¬ lg_cmp (Int64.ofNat v) (1718449184 : Int64) = 0 := fun hc => h1 ((zw_k (k := 1718449184) (by omega) (by omega)).mp hc)
  have k2 : ¬ lg_cmp (Int64.ofNat v) (1684108385 : Int64) = 0 := fun hc => h2 ((zw_k (k := 1684108385) (by omega) (by omega)).mp hc)
  unfold fz_mo_readWave_102 fz_mo_readWave_117 fz_mo_readWave_129 fz_mo_readWave_148 fz_mo_readWave_207
  rw [if_pos k1, if_pos (show (0 : Int32) = 0 from rfl), if_pos k2, if_pos k1, if_pos (show (0 : Int32) = 0 from rfl), if_pos k2]
theorem zF_w2 (g : Nat) (x : Int32) (M : am_Z) (h : ¬ M.1 8 = 0) : fz_mo_readWave_2 (g + 1) x M = some M := by
  unfold fz_mo_readWave_2
  rw [if_pos h]
theorem zw_done (g : Nat) (M : am_Z) (h : M.1 8 = 0) : fz_mo_readWave_2 (g + 1) 1 M = some M := by
  unfold fz_mo_readWave_2
  rw [if_neg (not_not_intro h), if_pos (show ¬ (1 : Int32) = 0 by decide)]
