/-! The chunks of the file: one walk of both. -/
theorem nm_jadd (a b : Nat) : Int64.ofNat a + Int64.ofNat b = Int64.ofNat (a + b) := (Int64.ofNat_add a b).symm
theorem nm_jsub {a b : Nat} (h : b ≤ a) : Int64.ofNat a - Int64.ofNat b = Int64.ofNat (a - b) := by
  have e : Int64.ofNat a = Int64.ofNat (a - b) + Int64.ofNat b := by rw [nm_jadd, Nat.sub_add_cancel h]
  rw [e, Int64.sub_eq_add_neg, Int64.add_assoc, Int64.add_right_neg, Int64.add_zero]
theorem nm_jmul (a b : Nat) : Int64.ofNat a * Int64.ofNat b = Int64.ofNat (a * b) := (Int64.ofNat_mul a b).symm
theorem nm_jdiv {a b : Nat} (ha : a < 9223372036854775808) (hb : b < 9223372036854775808) : Int64.ofNat a / Int64.ofNat b = Int64.ofNat (a / b) := by
  apply Int64.toInt_inj.mp
  have hd : a / b ≤ a := Nat.div_le_self a b
  rw [Int64.toInt_div, nm_jtoInt ha, nm_jtoInt hb, nm_jtoInt (by omega)]
  have e : (a : Int).tdiv (b : Int) = ((a / b : Nat) : Int) := rfl
  have e2 : ((a / b : Nat) : Int).bmod (2 ^ 64) = ((a / b : Nat) : Int) := by
    generalize a / b = q at hd
    exact Int.bmod_eq_of_le (by omega) (by omega)
  rw [e]
  exact e2
theorem nm_jm2 {z : Nat} (hz : z < 9223372036854775808) : Int64.ofNat z - Int64.ofNat z / (2 : Int64) * (2 : Int64) = Int64.ofNat (z % 2) := by
  rw [show (2 : Int64) = Int64.ofNat 2 from rfl, nm_jdiv hz (by omega), nm_jmul, nm_jsub (by omega)]
  congr 1
  omega
theorem nm_cmple (x y : Int64) : lg_cmp x y ≤ 0 ↔ x ≤ y := lg_cmp_le x y
def zk_s (b : Nat → Nat) (p : Nat) : Nat := zn b (p + 4) 4 (!(decide (b 0 = 82)))
def zk (b : Nat → Nat) (N p : Nat) : Option Nat := if p + 8 ≤ N ∧ p + 8 + zk_s b p + zk_s b p % 2 ≤ N then some (p + 8 + zk_s b p + zk_s b p % 2) else none
def zk_i : Option Nat → Int32
  | some e => Int32.ofNat e
  | none => -1
theorem zk_le {b : Nat → Nat} {N p e : Nat} (h : zk b N p = some e) : p + 8 ≤ e ∧ e ≤ N ∧ p + 8 ≤ N := by
  unfold zk at h
  split at h
  · rename_i hc
    cases h
    omega
  · cases h
theorem zk_s_lt {b : Nat → Nat} {N p : Nat} (hb : ∀ i, i < N → b i < 256) (hp : p + 8 ≤ N) : zk_s b p < 4294967296 := by
  have := zn_lt (b := b) (p := p + 4) (n := 4) (big := !(decide (b 0 = 82))) (fun i h1 h2 => hb i (by omega))
  unfold zk_s
  omega
theorem zk_congr {b c : Nat → Nat} {N p : Nat} (h : ∀ i, i < N → b i = c i) : zk b N p = zk c N p := by
  unfold zk
  by_cases h8 : p + 8 ≤ N
  · have e : zk_s b p = zk_s c p := by
      unfold zk_s
      rw [h 0 (by omega)]
      exact zn_congr (fun i h1 h2 => h i (by omega))
    rw [e]
  · rw [if_neg (fun hh => h8 hh.1), if_neg (fun hh => h8 hh.1)]
theorem zh_size {s : am_Z} {N : Nat} (h : zf_B 3 s N) {p : Nat} (hp : p + 8 ≤ N) : fz_sh_sizeOfChunk s (Int32.ofNat p) = some (Int64.ofNat (zk_s (zb s) p)) := by
  have hN := h.1
  have b0 := (h.2.2 0 (by omega)).1
  have key : ∀ fl : Int32, fz_sh_sizeOfChunk_49 s fl (4 : Int32) (Int32.ofNat p + (4 : Int32)) = some (Int64.ofNat (zn (zb s) (p + 4) 4 (zfl fl))) := by
    intro fl
    unfold fz_sh_sizeOfChunk_49
    rw [show (4 : Int32) = Int32.ofNat 4 from rfl, nm_add, zh_number h (by omega) (by omega), if_pos (show p + 4 + 4 ≤ N by omega)]
    rfl
  have h1 : fz_by_has s (0 : Int32) (1 : Int32) = some 1 := by
    rw [show (0 : Int32) = Int32.ofNat 0 from rfl, show (1 : Int32) = Int32.ofNat 1 from rfl, zh_has h (by omega) (by omega), if_pos (by omega)]
    rfl
  have h2 : s.2.2 1 (Int32.toNatClampNeg (0 : Int32)) = Int32.ofNat (zb s 0) := by
    rw [show Int32.toNatClampNeg (0 : Int32) = 0 by decide]
    exact (h.2.2 0 (by omega)).2
  unfold fz_sh_sizeOfChunk fz_sh_sizeOfChunk_30 fz_sh_sizeOfChunk_31
  rw [h1, h2]
  simp only [Option.bind_some]
  rw [if_neg (show ¬ (1 : Int32) = 0 by decide), key, key, if_neg (not_not_intro trivial), if_pos (show ¬ (1 : Int32) = 0 by decide)]
  unfold zk_s
  by_cases c : zb s 0 = 82
  · rw [if_neg (show ¬ ¬ Int32.ofNat (zb s 0) = (82 : Int32) from fun hh => hh (by rw [c]; rfl))]
    simp [c, zfl]
  · rw [if_pos (show ¬ Int32.ofNat (zb s 0) = (82 : Int32) by rw [show (82 : Int32) = Int32.ofNat 82 from rfl, nm_inj (by omega) (by omega)]; exact c)]
    simp [c, zfl]
theorem zh_end {s : am_Z} {N : Nat} (h : zf_B 3 s N) {p : Nat} (hp : p < 1000) : fz_sh_endOfChunk s (Int32.ofNat p) = some (zk_i (zk (zb s) N p)) := by
  have hN := h.1
  unfold fz_sh_endOfChunk
  rw [show (8 : Int32) = Int32.ofNat 8 from rfl, zh_has h (by omega) (by omega)]
  simp only [Option.bind_some]
  by_cases c : p + 8 ≤ N
  · have hs := zk_s_lt (b := zb s) (fun i hi => (h.2.2 i hi).1) c
    rw [if_pos c, if_pos (show ¬ (1 : Int32) = 0 by decide), zh_size h c]
    simp only [Option.bind_some]
    rw [nm_add, nm_i2l (by omega), nm_jm2 (by omega), nm_jadd, nm_jadd, h.2.1, nm_i2l (by omega), nm_l2i]
    have hcm : lg_cmp (Int64.ofNat (p + 8 + zk_s (zb s) p + zk_s (zb s) p % 2)) (Int64.ofNat N) ≤ 0 ↔ p + 8 + zk_s (zb s) p + zk_s (zb s) p % 2 ≤ N := by rw [nm_cmple, nm_jle (by omega) (by omega)]
    by_cases c2 : p + 8 + zk_s (zb s) p + zk_s (zb s) p % 2 ≤ N
    · rw [if_pos (hcm.mpr c2), zk, if_pos ⟨c, c2⟩]; rfl
    · rw [if_neg (fun hh => c2 (hcm.mp hh)), zk, if_neg (show ¬ (p + 8 ≤ N ∧ p + 8 + zk_s (zb s) p + zk_s (zb s) p % 2 ≤ N) from fun hh => c2 hh.2)]; rfl
  · rw [if_neg c, if_neg (show ¬ ¬ (0 : Int32) = 0 by decide), zk, if_neg (show ¬ (p + 8 ≤ N ∧ p + 8 + zk_s (zb s) p + zk_s (zb s) p % 2 ≤ N) from fun hh => c hh.1)]; rfl
theorem zp_end {s : am_Z} {N : Nat} (h : zf_B 4 s N) {p : Nat} (hp : p < 1000) : fz_mo_behind s (Int32.ofNat p) = some (zk_i (zk (zb s) N p)) := by
  have hN := h.1
  have key : ∀ (fl : Int32), (p + 8 ≤ N → zfl fl = !(decide (zb s 0 = 82))) → fz_mo_behind_21 s (Int32.ofNat p) fl (4 : Int32) (Int32.ofNat p + (4 : Int32)) = some (zk_i (zk (zb s) N p)) := by
    intro fl hfl
    unfold fz_mo_behind_21 fz_mo_behind_53
    rw [show (4 : Int32) = Int32.ofNat 4 from rfl, nm_add, zp_peek h (by omega) (by omega)]
    simp only [Option.bind_some]
    by_cases c : p + 8 ≤ N
    · have hs := zk_s_lt (b := zb s) (fun i hi => (h.2.2 i hi).1) c
      have e0 : zn (zb s) (p + 4) 4 (zfl fl) = zk_s (zb s) p := by unfold zk_s; rw [hfl c]
      rw [if_pos (show p + 4 + 4 ≤ N by omega), e0, if_neg (by
        rw [nm_cmplt, show (0 : Int64) = Int64.ofNat 0 from rfl, nm_jlt (by omega) (by omega)]
        omega)]
      rw [show (8 : Int32) = Int32.ofNat 8 from rfl, nm_add, nm_i2l (by omega), nm_jm2 (by omega), nm_jadd, nm_jadd, h.2.1, nm_i2l (by omega), nm_jadd, nm_l2i, nm_add]
      have hcm : lg_cmp (Int64.ofNat (p + 8 + zk_s (zb s) p + zk_s (zb s) p % 2)) (Int64.ofNat N) ≤ 0 ↔ p + 8 + zk_s (zb s) p + zk_s (zb s) p % 2 ≤ N := by rw [nm_cmple, nm_jle (by omega) (by omega)]
      by_cases c2 : p + 8 + zk_s (zb s) p + zk_s (zb s) p % 2 ≤ N
      · rw [if_pos (hcm.mpr c2), zk, if_pos ⟨c, c2⟩]
        show some (Int32.ofNat _) = some (Int32.ofNat _)
        congr 2
        omega
      · rw [if_neg (fun hh => c2 (hcm.mp hh)), zk, if_neg (show ¬ (p + 8 ≤ N ∧ p + 8 + zk_s (zb s) p + zk_s (zb s) p % 2 ≤ N) from fun hh => c2 hh.2)]; rfl
    · rw [if_neg (show ¬ p + 4 + 4 ≤ N by omega), if_pos (show lg_cmp (-1 : Int64) (0 : Int64) < 0 by decide), zk, if_neg (show ¬ (p + 8 ≤ N ∧ p + 8 + zk_s (zb s) p + zk_s (zb s) p % 2 ≤ N) from fun hh => c hh.1)]; rfl
  unfold fz_mo_behind
  rw [show Int32.toNatClampNeg (0 : Int32) = 0 by decide]
  by_cases c : s.2.2 1 0 = (82 : Int32)
  · rw [if_pos c]
    refine key 0 (fun h8 => ?_)
    have e : zb s 0 = 82 := by unfold zb; rw [c]; decide
    rw [e]
    decide
  · rw [if_neg c]
    refine key 1 (fun h8 => ?_)
    have e : ¬ zb s 0 = 82 := fun hh => c (by rw [(h.2.2 0 (by omega)).2, hh]; rfl)
    simp [e, zfl]
theorem zk_neg : (zk_i none < 0) ∧ zk_i none = (-1 : Int32) := ⟨by decide, rfl⟩
theorem zk_pos {e : Nat} (h : e < 1000) : ¬ zk_i (some e) < 0 ∧ ¬ zk_i (some e) = (-1 : Int32) := by
  refine ⟨nm_nneg (by omega), fun hh => ?_⟩
  have := nm_nneg (a := e) (by omega)
  rw [show Int32.ofNat e = (-1 : Int32) from hh] at this
  exact this (by decide)
theorem zh_chunks {s m : am_Z} {N : Nat} (hs : zf_B 3 s N) (hm : zf_B 4 m N) (hb : ∀ i, i < N → zb s i = zb m i) : ∀ (d c f : Nat) (q : Option Nat), (∀ p, q = some p → 20 + 8 * c ≤ p ∧ p ≤ N ∧ 400 < p + 8 * d) → d < f → ∃ r : Int32, fz_sh_chunks_9 s f (Int32.ofNat c) (zk_i q) = some r ∧ fz_mo_chunks_14 f (Int32.ofNat c) (zk_i q) m = some (r, m) := by
  have hN := hs.1
  intro d
  induction d with
  | zero =>
    intro c f q hq hf
    obtain ⟨f, rfl⟩ : ∃ g, f = g + 1 := ⟨f - 1, by omega⟩
    cases q with
    | none =>
      unfold fz_sh_chunks_9 fz_mo_chunks_14
      rw [if_pos zk_neg.2, if_pos zk_neg.1]
      exact ⟨_, rfl, rfl⟩
    | some p => have := hq p rfl; omega
  | succ d ih =>
    intro c f q hq hf
    obtain ⟨f, rfl⟩ : ∃ g, f = g + 1 := ⟨f - 1, by omega⟩
    cases q with
    | none =>
      unfold fz_sh_chunks_9 fz_mo_chunks_14
      rw [if_pos zk_neg.2, if_pos zk_neg.1]
      exact ⟨_, rfl, rfl⟩
    | some p =>
      obtain ⟨h1, h2, h3⟩ := hq p rfl
      unfold fz_sh_chunks_9 fz_mo_chunks_14
      obtain ⟨n1, n2⟩ := zk_pos (e := p) (by omega)
      rw [if_neg n2, if_neg n1, if_neg (by
        rw [show (50 : Int32) = Int32.ofNat 50 from rfl, nm_le (by omega) (by omega)]
        omega)]
      rw [show zk_i (some p) = Int32.ofNat p from rfl, zh_end hs (by omega), zp_end hm (by omega), zk_congr hb]
      simp only [Option.bind_some]
      rw [show Int32.ofNat c + (1 : Int32) = Int32.ofNat (c + 1) from nm_add c 1]
      refine ih (c + 1) f _ (fun p' hp' => ?_) (by omega)
      have := zk_le hp'
      omega
theorem zc_chunks {s m : am_Z} (h : zv s m) : ∃ (a : Int32) (m' : am_Z), fz_sh_chunks s = some a ∧ fz_mo_chunks m = some (a, m') ∧ zv s m' := by
  have h0 := h
  obtain ⟨hs, hr, ⟨N, hf⟩, hk⟩ := h
  obtain ⟨b1, b2, b3⟩ := zv_B hf
  have b2' : zf_B 4 (zz_i m 0 0) N := b2
  have b3' : ∀ i, i < N → zb s i = zb (zz_i m 0 0) i := b3
  have hN := b1.1
  unfold fz_sh_chunks fz_mo_chunks
  rw [show (12 : Int32) = Int32.ofNat 12 from rfl, zh_end b1 (by omega), zp_end b2' (by omega), zk_congr b3']
  simp only [Option.bind_some]
  obtain ⟨r, e1, e2⟩ := zh_chunks b1 b2' b3' 60 0 fz_fu (zk (zb (zz_i m 0 0)) N 12) (fun p hp => by have := zk_le hp; omega) (by decide)
  exact ⟨r, zz_i m 0 0, e1, e2, zv_code h0 0⟩
