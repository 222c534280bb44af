/-! Reading: "fmt ". -/
/-- the reference goes on, once refused: its place stays -/
def zr_q (M M' : am_Z) : Prop := M'.1 7 = M.1 7 ∧ ∀ m, zr_km m M → zr_km m M'
theorem zr_q_t {a b c : am_Z} (h : zr_q a b) (k : zr_q b c) : zr_q a c := ⟨k.1.trans h.1, fun m hm => k.2 m (h.2 m hm)⟩
theorem zF_294 (x3 : Int32) (x4 : Int64) (M : am_Z) : fz_mo_readFormat_294 x3 x4 (zz_i M 8 1) = some (zz_i (zz_i M 15 1) 8 1) := by
  unfold fz_mo_readFormat_294 fz_mo_readFormat_332
  rw [if_pos (zF_8 M), zF_c _ (by decide)]
theorem zF_254 (x3 : Int32) (x4 : Int64) (M : am_Z) : ∀ (d k f : Nat), k + d = 7 → d < f → fz_mo_readFormat_254 f x3 x4 (Int32.ofNat k) (zz_i M 8 1) = some (zz_i (zz_i M 15 1) 8 1) := by
  intro d
  induction d with
  | zero =>
    intro k f hk hf
    obtain ⟨f, rfl⟩ : ∃ g, f = g + 1 := ⟨f - 1, by omega⟩
    have e7 : k = 7 := by omega
    subst e7
    unfold fz_mo_readFormat_254
    rw [if_pos (show (7 : Int32) ≤ Int32.ofNat 7 by decide), zF_294]
  | succ d ih =>
    intro k f hk hf
    obtain ⟨f, rfl⟩ : ∃ g, f = g + 1 := ⟨f - 1, by omega⟩
    obtain ⟨p1, p2⟩ := zm_pair ⟨k, by omega⟩
    have q1 : fz_mo_first (Int32.ofNat k) = some (am_vPAIRS.getD (2 * k) 0) := p1
    have q2 : fz_mo_second (Int32.ofNat k) = some (am_vPAIRS.getD (2 * k + 1) 0) := p2
    have e1 : Int32.ofNat k + (1 : Int32) = Int32.ofNat (k + 1) := nm_add _ 1
    have h7 : ¬ (7 : Int32) ≤ Int32.ofNat k := fun h => by
      have := (nm_le (a := 7) (b := k) (by omega) (by omega)).mp h
      omega
    unfold fz_mo_readFormat_254
    rw [if_neg h7, q1]
    simp only [zbs]
    rw [zF_exact]
    simp only [zbs]
    rw [q2]
    simp only [zbs]
    rw [zF_exact]
    simp only [zbs]
    rw [e1, ih (k + 1) f (by omega) (by omega)]
theorem zF_234 (x3 : Int32) (x4 : Int64) (M : am_Z) : fz_mo_readFormat_234 x3 x4 (zz_i M 8 1) = some (zz_i (zz_i M 15 1) 8 1) := by
  have h : fz_mo_readFormat_254 fz_fu x3 x4 0 (zz_i M 8 1) = some (zz_i (zz_i M 15 1) 8 1) := zF_254 x3 x4 M 7 0 fz_fu (by omega) (by show 7 < 1000; omega)
  unfold fz_mo_readFormat_234
  by_cases c : (zz_i M 8 1).1 12 = (2 : Int32)
  · rw [if_neg (not_not_intro c), zF_exact]
    simp only [zbs]
    exact h
  · rw [if_pos c, zF_294]
theorem zr_pb (M : am_Z) : ∃ b : Int32, fz_mo_perBlock M = some b := by
  unfold fz_mo_perBlock
  by_cases c : M.1 12 = (17 : Int32)
  · rw [if_neg (not_not_intro c)]
    exact ⟨_, rfl⟩
  · rw [if_pos c]
    by_cases d : M.1 12 = (2 : Int32)
    · rw [if_neg (not_not_intro d)]
      exact ⟨_, rfl⟩
    · rw [if_pos d]
      exact ⟨_, rfl⟩
theorem zF_220 (x3 : Int32) (x4 y0 : Int64) (y1 y2 : Int32) (M : am_Z) : fz_mo_readFormat_220 x3 x4 y0 y1 y2 (zz_i M 8 1) = some (zz_i (zz_i M 15 1) 8 1) := by
  obtain ⟨b, hb⟩ := zr_pb (zz_i M 8 1)
  unfold fz_mo_readFormat_220
  rw [zF_exact]
  simp only [zbs]
  rw [hb]
  simp only [zbs]
  rw [zF_exact]
  simp only [zbs]
  rw [zF_234]
theorem zF_188 (x3 : Int32) (x4 y0 : Int64) (y1 y2 : Int32) (M : am_Z) : fz_mo_readFormat_188 x3 x4 y0 y1 y2 (zz_i M 8 1) = some (zz_i (zz_i M 15 1) 8 1) := by
  unfold fz_mo_readFormat_188
  rw [zF_exact]
  simp only [zbs]
  by_cases c : (zz_i M 8 1).1 12 = (1 : Int32)
  · rw [if_pos c, zF_234]
  · rw [if_neg c]
    by_cases d : (zz_i M 8 1).1 12 = (17 : Int32)
    · rw [if_neg (not_not_intro d), zF_220]
    · rw [if_pos d, zF_220]
theorem zF_156 (x3 : Int32) (x4 y0 y1 : Int64) (y2 y3 : Int32) (M : am_Z) : ∃ M', fz_mo_readFormat_156 x3 x4 y0 y1 y2 y3 (zz_i M 8 1) = some (zz_i M' 8 1) ∧ zr_q M M' := by
  refine ⟨zz_i (zz_i M 13 (Int64.toInt32 0)) 15 1, ?_, ⟨rfl, fun m h => h⟩⟩
  unfold fz_mo_readFormat_156
  rw [zF_ask]
  simp only [zbs]
  rw [zF_c _ (by decide)]
  by_cases c : (zz_i M 8 1).1 12 = (1 : Int32)
  · rw [if_neg (not_not_intro c), zF_188]
  · rw [if_pos c, zF_188]
theorem zF_124 (x3 : Int32) (x4 y0 : Int64) (y1 y2 : Int32) (M : am_Z) : ∃ M', fz_mo_readFormat_124 x3 x4 y0 y1 y2 (zz_i M 8 1) = some (zz_i M' 8 1) ∧ zr_q M M' := by
  unfold fz_mo_readFormat_124
  by_cases c : (zz_i M 8 1).1 12 = (1 : Int32)
  · rw [if_neg (not_not_intro c)]
    exact zF_156 _ _ _ _ _ _ _
  · rw [if_pos c]
    by_cases d : (zz_i M 8 1).1 12 = (17 : Int32)
    · rw [if_neg (not_not_intro d)]
      exact zF_156 _ _ _ _ _ _ _
    · rw [if_pos d]
      exact zF_156 _ _ _ _ _ _ _
/-- the three forms of the code behind the bytes a second -/
theorem zF_37c (x3 : Int32) (x4 : Int64) (M : am_Z) : ∃ M', (if ¬ (zz_i M 8 1).1 12 = (1 : Int32) then if ¬ (zz_i M 8 1).1 12 = (17 : Int32) then fz_mo_readFormat_124 x3 x4 (8 : Int64) (0 : Int32) (2 : Int32) (zz_i M 8 1) else fz_mo_readFormat_124 x3 x4 (5 : Int64) (0 : Int32) (2 : Int32) (zz_i M 8 1) else fz_mo_readFormat_124 x3 x4 (1 : Int64) (0 : Int32) (2 : Int32) (zz_i M 8 1)) = some (zz_i M' 8 1) ∧ zr_q M M' := by
  by_cases c : (zz_i M 8 1).1 12 = (1 : Int32)
  · rw [if_neg (not_not_intro c)]
    exact zF_124 _ _ _ _ _ _
  · rw [if_pos c]
    by_cases d : (zz_i M 8 1).1 12 = (17 : Int32)
    · rw [if_neg (not_not_intro d)]
      exact zF_124 _ _ _ _ _ _
    · rw [if_pos d]
      exact zF_124 _ _ _ _ _ _
/-- refused at the rate -/
theorem zF_37b (T : Int32) (M : am_Z) : ∃ M', ((fz_mo_ask (zz_i M 8 1) (4 : Int32) (0 : Int32) (1 : Int64) (192000 : Int64)).bind fun q3 => (fz_mo_ask (zz_i q3.2 11 (Int64.toInt32 q3.1)) (4 : Int32) (0 : Int32) (0 : Int64) (4294967295 : Int64)).bind fun q4 => if ¬ (q4.2.1 12) = (1 : Int32) then if ¬ (q4.2.1 12) = (17 : Int32) then fz_mo_readFormat_124 (q3.2.1 7) q4.1 (8 : Int64) (0 : Int32) (2 : Int32) q4.2 else fz_mo_readFormat_124 (q3.2.1 7) q4.1 (5 : Int64) (0 : Int32) (2 : Int32) q4.2 else fz_mo_readFormat_124 (q3.2.1 7) q4.1 (1 : Int64) (0 : Int32) (2 : Int32) q4.2) = some (zz_i M' 8 1) ∧ zr_q M M' := by
  rw [zF_ask]
  simp only [zbs]
  rw [zF_c _ (by decide), zF_ask]
  simp only [zbs]
  obtain ⟨M', h1, h2⟩ := zF_37c ((zz_i M 8 1).1 7) 0 (zz_i M 11 (Int64.toInt32 0))
  exact ⟨M', h1, zr_q_t (b := zz_i M 11 (Int64.toInt32 0)) ⟨rfl, fun m h => h⟩ h2⟩
theorem zF_37 (T : Int32) (M : am_Z) : ∃ M', fz_mo_readFormat_37 T (zz_i M 8 1) = some (zz_i M' 8 1) ∧ zr_q M M' := by
  unfold fz_mo_readFormat_37
  rw [zF_exact]
  simp only [zbs]
  rw [zF_c _ (by decide), zF_exact]
  simp only [zbs]
  obtain ⟨M', h1, h2⟩ := zF_37b T (zz_i M 12 T)
  exact ⟨M', h1, zr_q_t (b := zz_i M 12 T) ⟨rfl, fun m h => h⟩ h2⟩
/-- an id that is there -/
theorem zr_tid {s m S M : am_Z} {N P : Nat} {g id : Int32} (hv : zv_f s m N) (h : zr s m N g S M P) (h4 : P + 4 ≤ N) (hid : Int32.ofNat (zn (zb s) P 4 true) = id) : fz_rd_takeId S id = some (1, zz_i S 14 (Int32.ofNat (P + 4))) := by
  have hh : fz_by_has S (Int32.ofNat P) 4 = some (if P + 4 ≤ N then 1 else 0) := zr_has hv h (n := 4) (by omega)
  have hi := zr_id hv h
  rw [if_pos h4] at hh hi
  have ep : Int32.ofNat P + (4 : Int32) = Int32.ofNat (P + 4) := nm_add P 4
  unfold fz_rd_takeId
  rw [h.2.2.1, hh]
  simp only [zbs]
  rw [if_neg (show ¬ (1 : Int32) = 0 by decide), hi]
  simp only [zbs]
  rw [if_pos hid, ep]
theorem zr_tid0 {s m S M : am_Z} {N P : Nat} {g id : Int32} (hv : zv_f s m N) (h : zr s m N g S M P) (hid : ¬ (P + 4 ≤ N ∧ Int32.ofNat (zn (zb s) P 4 true) = id)) : fz_rd_takeId S id = some (0, S) := by
  have hh : fz_by_has S (Int32.ofNat P) 4 = some (if P + 4 ≤ N then 1 else 0) := zr_has hv h (n := 4) (by omega)
  have hi := zr_id hv h
  unfold fz_rd_takeId
  rw [h.2.2.1, hh]
  simp only [zbs]
  by_cases h4 : P + 4 ≤ N
  · rw [if_pos h4, if_neg (show ¬ (1 : Int32) = 0 by decide), hi, if_pos h4]
    simp only [zbs]
    rw [if_neg (fun hc => hid ⟨h4, hc⟩)]
  · rw [if_neg h4, if_pos (show (0 : Int32) = 0 from rfl)]
