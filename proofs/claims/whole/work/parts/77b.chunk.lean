/-! The call chunk, on: the answers. -/
theorem zw_2 (w : Int32) : (w = 0 ∨ w = 1 ∨ w = 2) ∨ (¬ w = 0 ∧ ¬ w = 1 ∧ ¬ w = 2 ∧ (w < 0 ∨ (2 : Int32) < w)) := by
  rcases nm_cases w with c | ⟨k, hk, rfl⟩
  · refine Or.inr ⟨?_, ?_, ?_, Or.inl c⟩
    · rintro rfl; exact absurd c (by decide)
    · rintro rfl; exact absurd c (by decide)
    · rintro rfl; exact absurd c (by decide)
  · by_cases h0 : k = 0
    · subst h0; exact Or.inl (Or.inl rfl)
    · by_cases h1 : k = 1
      · subst h1; exact Or.inl (Or.inr (Or.inl rfl))
      · by_cases h2 : k = 2
        · subst h2; exact Or.inl (Or.inr (Or.inr rfl))
        · refine Or.inr ⟨?_, ?_, ?_, Or.inr ?_⟩
          · rw [show (0 : Int32) = Int32.ofNat 0 from rfl, nm_inj hk (by omega)]; exact h0
          · rw [show (1 : Int32) = Int32.ofNat 1 from rfl, nm_inj hk (by omega)]; exact h1
          · rw [show (2 : Int32) = Int32.ofNat 2 from rfl, nm_inj hk (by omega)]; exact h2
          · rw [show (2 : Int32) = Int32.ofNat 2 from rfl, nm_lt (by omega) hk]; omega
/-- what the reference answers at a chunk that is there -/
theorem zp_78 {m : am_Z} {N p : Nat} (hm : zf_B 4 m N) (hp : p + 8 ≤ N) {w : Int32} (hw : w = 0 ∨ w = 1 ∨ w = 2) : fz_mo_chunk_78 w (Int32.ofNat p) 0 m = some ((if w = 0 then Int32.ofNat p else if w = 1 then Int32.ofNat (zn (zb m) p 4 true) else Int32.ofNat (zk_s (zb m) p)), zz_i m 0 0) := by
  have hN := hm.1
  have hm0 : zf_B 4 (zz_i m 0 0) N := hm
  have b0 := (hm.2.2 0 (by omega)).1
  have ht : zfl (1 : Int32) = true := by decide
  have hf : zfl (0 : Int32) = false := by decide
  have key : ∀ fl : Int32, fz_mo_peek (zz_i m 0 0) (Int32.ofNat p + (4 : Int32)) (4 : Int32) fl = some (Int64.ofNat (zn (zb m) (p + 4) 4 (zfl fl))) := by
    intro fl
    rw [show (4 : Int32) = Int32.ofNat 4 from rfl, nm_add, zp_peek hm0 (by omega) (by omega), if_pos (show p + 4 + 4 ≤ N by omega)]
    rfl
  have key2 : fz_mo_peek (zz_i m 0 0) (Int32.ofNat p) (4 : Int32) (1 : Int32) = some (Int64.ofNat (zn (zb m) p 4 true)) := by
    rw [show (4 : Int32) = Int32.ofNat 4 from rfl, zp_peek hm0 (by omega) (by omega), if_pos (show p + 4 ≤ N by omega), ht]
    rfl
  have h2 : m.2.2 1 (Int32.toNatClampNeg (0 : Int32)) = Int32.ofNat (zb m 0) := by
    rw [show Int32.toNatClampNeg (0 : Int32) = 0 by decide]
    exact (hm.2.2 0 (by omega)).2
  have e82 : Int32.ofNat (zb m 0) = (82 : Int32) ↔ zb m 0 = 82 := by rw [show (82 : Int32) = Int32.ofNat 82 from rfl, nm_inj (by omega) (by omega)]
  unfold fz_mo_chunk_78 fz_mo_chunk_126 fz_mo_chunk_129
  rw [if_pos (show (0 : Int32) ≤ 0 by decide), h2, key, key, key2]
  simp only [Option.bind_some, nm_l2i]
  unfold zk_s
  rcases hw with rfl | rfl | rfl
  · by_cases c : zb m 0 = 82
    · simp [e82, c]
    · simp [e82, c]
  · simp
  · by_cases c : zb m 0 = 82
    · simp [e82, c, hf]
    · simp [e82, c, ht]
/-- what the class answers there -/
theorem zh_24 {s : am_Z} {N p : Nat} (hs : zf_B 3 s N) {x w : Int32} (hx : ¬ x < 0) (hpl : zk_f (zb s) N (Int32.toNatClampNeg x) (some 12) = some p) (hp : p + 8 ≤ N) (hw : w = 0 ∨ w = 1 ∨ w = 2) : fz_sh_chunk_24 s x w = some (.inr (if w = 0 then Int32.ofNat p else if w = 1 then Int32.ofNat (zn (zb s) p 4 true) else Int32.ofNat (zk_s (zb s) p))) := by
  have hN := hs.1
  unfold fz_sh_chunk_24
  rw [zh_place hs, if_neg hx, hpl]
  simp only [Option.bind_some]
  rw [if_pos (zk_pos (by omega)).2, show zk_i (some p) = Int32.ofNat p from rfl, zh_size hs hp, zh_id hs (by omega), if_pos (show p + 4 ≤ N by omega)]
  simp only [Option.bind_some, nm_l2i]
  rcases hw with rfl | rfl | rfl
  · simp
  · simp
  · simp
theorem zc_chunk (sc : am_S) {s m : am_Z} (h : zv s m) (o : Nat → Int64) (t : am_H) (x w : Int32) : zq s m o t (fz_la_chunk sc s m o t x w) (fz_mo_chunk m x w) := by
  have h0 := h
  obtain ⟨hs, hr, ⟨N, hf⟩, hk⟩ := h
  obtain ⟨b1, b2, b3⟩ := zv_B hf
  have hN := b1.1
  have efg : ∀ d, zk_f (zb s) N d (some 12) = zk_f (zb m) N d (some 12) := by
    intro d
    have e9 : (fun p => (zk (zb s) N p).map (fun _ => p)) = (fun p => (zk (zb m) N p).map (fun _ => p)) := funext (fun p => by rw [zk_congr b3])
    unfold zk_f
    rw [zk_g_congr b3, e9]
  obtain ⟨pl, e1, e2⟩ := zp_chunk b2 x w
  rw [e1]
  unfold fz_la_chunk fz_sh_chunk fz_mo_chunk_49
  rw [show (0 : Int64) = Int32.toInt64 0 by decide, show (2 : Int64) = Int32.toInt64 2 by decide, zw_32]
  simp only [Option.bind_some]
  rcases zw_2 w with hw | ⟨w0, w1, w2, hw⟩
  · have hin : ¬ (w < 0 ∨ (2 : Int32) < w) := by rcases hw with rfl | rfl | rfl <;> decide
    have ecl : (if w = 0 then fz_sh_chunk_24 s x w else if w = 1 then fz_sh_chunk_24 s x w else if w = 2 then fz_sh_chunk_24 s x w else some (.inl 9)) = fz_sh_chunk_24 s x w := by
      rcases hw with rfl | rfl | rfl <;> simp
    rw [ecl, if_neg hin, if_pos (show ¬ (1 : Int32) = 0 by decide)]
    by_cases c : x < 0 ∨ zk_f (zb m) N (Int32.toNatClampNeg x) (some 12) = none
    · have e24 : fz_sh_chunk_24 s x w = some (.inl 12) := by
        unfold fz_sh_chunk_24
        rw [zh_place b1]
        simp only [Option.bind_some]
        have : (if x < 0 then (-1 : Int32) else zk_i (zk_f (zb s) N (Int32.toNatClampNeg x) (some 12))) = -1 := by
          by_cases cx : x < 0
          · rw [if_pos cx]
          · rw [if_neg cx, efg]
            rcases c with c | c
            · exact absurd c cx
            · rw [c]; rfl
        rw [this, if_neg (fun hh => hh rfl)]
      rw [e24, if_pos c, if_pos (show (0 : Int32) = 0 from rfl)]
      exact ⟨2, s, o, _, 0, zz_i m 0 2, rfl, rfl, rfl, fun h => absurd h (by decide), h0, zt_x t 12 (by decide) (by decide)⟩
    · have hx : ¬ x < 0 := fun hh => c (Or.inl hh)
      rw [if_neg c, if_neg (show ¬ (1 : Int32) = 0 by decide)]
      cases hz : zk_f (zb m) N (Int32.toNatClampNeg x) (some 12) with
      | none => exact absurd (Or.inr hz) c
      | some p =>
        have hp8 : p + 8 ≤ N := by
          unfold zk_f at hz
          obtain ⟨p', h1, h2⟩ := Option.bind_eq_some_iff.mp hz
          obtain ⟨e, h3, h4⟩ := Option.map_eq_some_iff.mp h2
          subst h4
          exact (zk_le h3).2.2
        rw [e2 p hx hz, zp_78 b2 hp8 hw, zh_24 b1 hx ((efg _).trans hz) hp8 hw]
        have ez : zk_s (zb s) p = zk_s (zb m) p := by
          unfold zk_s
          rw [b3 0 (by omega)]
          exact zn_congr (fun i h1 h2 => b3 i (by omega))
        have ei : zn (zb s) p 4 true = zn (zb m) p 4 true := zn_congr (fun i h1 h2 => b3 i (by omega))
        refine ⟨0, s, _, t, _, _, rfl, rfl, rfl, fun _ => ?_, zv_code h0 0, Or.inl rfl⟩
        rw [zo_0, ez, ei]
  · rw [if_neg w0, if_neg w1, if_neg w2, if_pos hw, if_neg (not_not_intro rfl)]
    exact ⟨1, s, o, _, 0, zz_i m 0 1, rfl, rfl, rfl, fun h => absurd h (by decide), h0, zt_x t 9 (by decide) (by decide)⟩
