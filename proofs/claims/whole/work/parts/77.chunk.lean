/-! The call chunk. -/
def zk_g (b : Nat → Nat) (N : Nat) : Nat → Option Nat → Option Nat
  | _, none => none
  | 0, some p => some p
  | d + 1, some p => zk_g b N d (zk b N p)
def zk_f (b : Nat → Nat) (N d : Nat) (q : Option Nat) : Option Nat := (zk_g b N d q).bind (fun p => (zk b N p).map (fun _ => p))
theorem zk_g_none (b : Nat → Nat) (N d : Nat) : zk_g b N d none = none := by cases d <;> rfl
theorem zk_g_le {b : Nat → Nat} {N : Nat} : ∀ (d p e : Nat), zk_g b N d (some p) = some e → p + 8 * d ≤ e ∧ (e = p ∨ e ≤ N) := by
  intro d
  induction d with
  | zero =>
    intro p e h
    simp only [zk_g, Option.some.injEq] at h
    exact ⟨by omega, Or.inl h.symm⟩
  | succ d ih =>
    intro p e h
    simp only [zk_g] at h
    cases hz : zk b N p with
    | none => rw [hz, zk_g_none] at h; cases h
    | some p' =>
      rw [hz] at h
      have h1 := zk_le hz
      have h2 := ih p' e h
      refine ⟨by omega, Or.inr ?_⟩
      rcases h2.2 with h3 | h3 <;> omega
theorem zk_g_congr {b c : Nat → Nat} {N : Nat} (h : ∀ i, i < N → b i = c i) : ∀ (d : Nat) (q : Option Nat), zk_g b N d q = zk_g c N d q := by
  intro d
  induction d with
  | zero => intro q; cases q <;> rfl
  | succ d ih =>
    intro q
    cases q with
    | none => rfl
    | some p =>
      simp only [zk_g]
      rw [zk_congr h, ih]
theorem zh_39 {s : am_Z} {N : Nat} (hs : zf_B 3 s N) {q : Option Nat} (hq : ∀ p, q = some p → p < 1000) : fz_sh_placeOfChunk_39 s (zk_i q) = some (zk_i (zk_f (zb s) N 0 q)) := by
  unfold fz_sh_placeOfChunk_39 fz_sh_placeOfChunk_53
  cases q with
  | none => rw [if_pos zk_neg.2]; rfl
  | some p =>
    have hp := hq p rfl
    rw [if_neg (zk_pos hp).2, show zk_i (some p) = Int32.ofNat p from rfl, zh_end hs hp]
    simp only [Option.bind_some]
    cases hz : zk (zb s) N p with
    | none =>
      rw [if_neg (fun hh => hh zk_neg.2)]
      simp [zk_f, zk_g, hz, zk_i]
    | some e =>
      have := zk_le hz
      rw [if_pos (zk_pos (by have := hs.1; omega)).2]
      simp [zk_f, zk_g, hz, zk_i]
theorem zh_walk {s : am_Z} {N : Nat} (hs : zf_B 3 s N) {k : Nat} (hk : k < 50) : ∀ (d i f : Nat) (q : Option Nat), (∀ p, q = some p → p < 1000) → i + d = k → d < f → fz_sh_placeOfChunk_17 s f (Int32.ofNat k) (zk_i q) (Int32.ofNat i) = some (zk_i (zk_f (zb s) N d q)) := by
  have hN := hs.1
  intro d
  induction d with
  | zero =>
    intro i f q hq hi hf
    obtain ⟨f, rfl⟩ : ∃ g, f = g + 1 := ⟨f - 1, by omega⟩
    unfold fz_sh_placeOfChunk_17
    rw [if_pos (by rw [nm_le (by omega) (by omega)]; omega)]
    exact zh_39 hs hq
  | succ d ih =>
    intro i f q hq hi hf
    obtain ⟨f, rfl⟩ : ∃ g, f = g + 1 := ⟨f - 1, by omega⟩
    unfold fz_sh_placeOfChunk_17
    rw [if_neg (by rw [nm_le (by omega) (by omega)]; omega)]
    cases q with
    | none =>
      rw [if_pos zk_neg.2, zh_39 hs hq]
      simp [zk_f, zk_g]
    | some p =>
      have hp := hq p rfl
      rw [if_neg (zk_pos hp).2, show zk_i (some p) = Int32.ofNat p from rfl, zh_end hs hp]
      simp only [Option.bind_some]
      rw [show Int32.ofNat i + (1 : Int32) = Int32.ofNat (i + 1) from nm_add i 1, ih (i + 1) f _ (fun p' hp' => by have := zk_le hp'; omega) (by omega) (by omega)]
      simp [zk_f, zk_g]
theorem zh_place {s : am_Z} {N : Nat} (hs : zf_B 3 s N) (x : Int32) : fz_sh_placeOfChunk s x = some (if x < 0 then -1 else zk_i (zk_f (zb s) N (Int32.toNatClampNeg x) (some 12))) := by
  have hN := hs.1
  unfold fz_sh_placeOfChunk
  rcases nm_cases x with c | ⟨k, hk, rfl⟩
  · rw [if_pos c, if_pos c]
  · rw [if_neg (nm_nneg hk), if_neg (nm_nneg hk), nm_clamp hk]
    by_cases c : k < 50
    · rw [if_pos (by rw [show (50 : Int32) = Int32.ofNat 50 from rfl, nm_lt hk (by omega)]; exact c)]
      exact zh_walk hs c k 0 fz_fu (some 12) (fun p hp => by cases hp; omega) (by omega) (by show k < 1000; omega)
    · rw [if_neg (by rw [show (50 : Int32) = Int32.ofNat 50 from rfl, nm_lt hk (by omega)]; exact c)]
      have e : zk_g (zb s) N k (some 12) = none := by
        cases hz : zk_g (zb s) N k (some 12) with
        | none => rfl
        | some e => have := zk_g_le k 12 e hz; omega
      simp [zk_f, e, zk_i]
theorem zp_walk {m : am_Z} {N : Nat} (hm : zf_B 4 m N) {k : Nat} (hk : k < 2147483648) (w : Int32) : ∀ (e i f : Nat) (q : Option Nat), (∀ p, q = some p → 12 + 8 * i ≤ p ∧ p ≤ 400 ∧ 400 < p + 8 * e) → i ≤ k → i ≤ 60 → e < f → fz_mo_chunk_6 f (Int32.ofNat k) w (zk_i q) (Int32.ofNat i) m = fz_mo_chunk_28 (Int32.ofNat k) w (zk_i (zk_g (zb m) N (k - i) q)) m := by
  have hN := hm.1
  intro e
  induction e with
  | zero =>
    intro i f q hq hi hi6 hf
    obtain ⟨f, rfl⟩ : ∃ g, f = g + 1 := ⟨f - 1, by omega⟩
    cases q with
    | none =>
      rw [zk_g_none]
      unfold fz_mo_chunk_6
      rw [if_pos zk_neg.1]
      split <;> rfl
    | some p => have := hq p rfl; omega
  | succ e ih =>
    intro i f q hq hi hi6 hf
    obtain ⟨f, rfl⟩ : ∃ g, f = g + 1 := ⟨f - 1, by omega⟩
    cases q with
    | none =>
      rw [zk_g_none]
      unfold fz_mo_chunk_6
      rw [if_pos zk_neg.1]
      split <;> rfl
    | some p =>
      obtain ⟨h1, h2, h3⟩ := hq p rfl
      unfold fz_mo_chunk_6
      by_cases c : k ≤ i
      · rw [if_pos (by rw [nm_le hk (by omega)]; exact c), show k - i = 0 by omega]
        rfl
      · rw [if_neg (by rw [nm_le hk (by omega)]; exact c), if_neg (zk_pos (by omega)).1, show zk_i (some p) = Int32.ofNat p from rfl, zp_end hm (by omega)]
        simp only [Option.bind_some]
        rw [show Int32.ofNat i + (1 : Int32) = Int32.ofNat (i + 1) from nm_add i 1, ih (i + 1) f _ (fun p' hp' => by have := zk_le hp'; omega) (by omega) (by omega) (by omega), show k - i = (k - (i + 1)) + 1 by omega]
        rfl
theorem zp_chunk {m : am_Z} {N : Nat} (hm : zf_B 4 m N) (x w : Int32) : ∃ pl : Int32, fz_mo_chunk m x w = fz_mo_chunk_49 w pl (if x < 0 ∨ zk_f (zb m) N (Int32.toNatClampNeg x) (some 12) = none then 0 else 1) m ∧ (∀ p, ¬ x < 0 → zk_f (zb m) N (Int32.toNatClampNeg x) (some 12) = some p → pl = Int32.ofNat p) := by
  have hN := hm.1
  unfold fz_mo_chunk
  rcases nm_cases x with c | ⟨k, hk, rfl⟩
  · refine ⟨12, ?_, fun p hx => absurd c hx⟩
    rw [if_pos (Or.inl c)]
    show fz_mo_chunk_6 (999 + 1) x w 12 0 m = _
    unfold fz_mo_chunk_6
    rw [if_pos (by rw [Int32.le_iff_toInt_le]; rw [Int32.lt_iff_toInt_lt] at c; omega)]
    unfold fz_mo_chunk_28
    rw [if_pos c]
    rfl
  · have hw := zp_walk hm hk w 60 0 fz_fu (some 12) (fun p hp => by cases hp; omega) (by omega) (by omega) (by decide)
    rw [show (12 : Int32) = zk_i (some 12) from rfl, show (0 : Int32) = Int32.ofNat 0 from rfl, hw, Nat.sub_zero, nm_clamp hk]
    refine ⟨zk_i (zk_g (zb m) N k (some 12)), ?_, fun p _ hp => ?_⟩
    · unfold fz_mo_chunk_28 fz_mo_chunk_48
      rw [if_neg (nm_nneg hk)]
      cases hz : zk_g (zb m) N k (some 12) with
      | none =>
        rw [if_pos zk_neg.1, if_pos (Or.inr (by simp [zk_f, hz]))]
        rfl
      | some p =>
        have hle := zk_g_le k 12 p hz
        have hp4 : p ≤ 400 := by rcases hle.2 with h | h <;> omega
        rw [if_neg (zk_pos (by omega)).1, show zk_i (some p) = Int32.ofNat p from rfl, zp_end hm (by omega)]
        simp only [Option.bind_some]
        cases hy : zk (zb m) N p with
        | none =>
          rw [if_pos zk_neg.1, if_pos (Or.inr (by simp [zk_f, hz, hy]))]
          rfl
        | some e =>
          have hye := zk_le hy
          rw [if_neg (zk_pos (by omega)).1, if_neg (fun hh => hh.elim (nm_nneg hk) (fun hh => by simp [zk_f, hz, hy] at hh))]
    · unfold zk_f at hp
      obtain ⟨p', h1, h2⟩ := Option.bind_eq_some_iff.mp hp
      obtain ⟨e, h3, h4⟩ := Option.map_eq_some_iff.mp h2
      rw [h1, h4]
      rfl
