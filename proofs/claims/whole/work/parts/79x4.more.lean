/-! Reading: "fmt ", of both (printed by wip/gen/genR4.py). -/
theorem zr_spd {s m S M : am_Z} {N E W : Nat} (hv : zv_f s m N) (h : zr s m N 0 S M E) (hW : W + 4 ≤ N) (h21 : S.1 21 = M.1 11) (h24 : S.1 24 = M.1 13) (hpb : fz_mo_perBlock M = some (S.1 25)) (hib : ¬ S.1 25 = 0) : (fz_rd_isSpeedRight S (Int32.ofNat W) = some (1, S) ∧ fz_mo_readFormat_294 (Int32.ofNat W) (Int64.ofNat (zn (zb s) W 4 (zfl 0))) M = some (zz_i M 15 1)) ∨ (fz_rd_isSpeedRight S (Int32.ofNat W) = some (0, zz_i S 14 (Int32.ofNat W)) ∧ fz_mo_readFormat_294 (Int32.ofNat W) (Int64.ofNat (zn (zb s) W 4 (zfl 0))) M = some (zz_i (zz_i (zz_i M 8 1) 7 (Int32.ofNat W)) 15 1)) := by
  have eb : fz_fm_bytesASecond_13 (zz_i S 14 (Int32.ofNat W)) (S.1 21) = some (S.1 21 * S.1 24 / S.1 25) := by
    unfold fz_fm_bytesASecond_13
    rw [if_neg (show ¬ (zz_i S 14 (Int32.ofNat W)).1 25 = 0 from hib)]
    rfl
  have e8 : ¬ ¬ M.1 8 = 0 := not_not_intro h.2.2.2.2.2.1
  have hw := zr_up h (Q := W) (by omega)
  rcases zr_take hv hw (n := 4) (by omega) 0 rfl (Int32.toInt64 (S.1 21 * S.1 24 / S.1 25)) with ⟨-, a2, a3, -, -⟩ | ⟨a1, a3, -⟩
  · left
    have a3' : fz_rd_take (zz_i S 14 (Int32.ofNat W)) 4 (Int32.toInt64 (S.1 21 * S.1 24 / S.1 25)) = some (1, zz_i (zz_i S 14 (Int32.ofNat W)) 14 (Int32.ofNat (W + 4))) := a3
    refine ⟨?_, ?_⟩
    · unfold fz_rd_isSpeedRight
      rw [eb]
      simp only [zbs]
      rw [a3']
      simp only [zbs]
      rw [if_pos (show ¬ (1 : Int32) = 0 by decide), zz_ii, zz_ii, zz_same rfl]
    · unfold fz_mo_readFormat_294 fz_mo_readFormat_332
      rw [if_neg e8, hpb]
      simp only [zbs]
      rw [if_neg hib, ← h21, ← h24, a2, if_pos ((nm_cmp0 _ _).mpr rfl)]
  · right
    have a3' : fz_rd_take (zz_i S 14 (Int32.ofNat W)) 4 (Int32.toInt64 (S.1 21 * S.1 24 / S.1 25)) = some (0, zz_i S 14 (Int32.ofNat W)) := a3
    refine ⟨?_, ?_⟩
    · unfold fz_rd_isSpeedRight
      rw [eb]
      simp only [zbs]
      rw [a3']
      simp only [zbs]
      rw [if_neg (not_not_intro trivial)]
    · unfold fz_mo_readFormat_294 fz_mo_readFormat_332
      rw [if_neg e8, hpb]
      simp only [zbs]
      rw [if_neg hib, ← h21, ← h24, if_neg (fun hc => a1 ⟨hW, ((nm_cmp0 _ _).mp hc).symm⟩)]
/-- the pairs told -/
theorem zr_79f (S : am_Z) : ∀ (d j f : Nat), j + d = 14 → d < f → fz_rd_takeMoreOfFmt_79 f 0 14 (Int32.ofNat j) S = some (0, S) := by
  intro d
  induction d with
  | zero =>
    intro j f hj hf
    obtain ⟨f, rfl⟩ : ∃ g, f = g + 1 := ⟨f - 1, by omega⟩
    have e : j = 14 := by omega
    subst e
    unfold fz_rd_takeMoreOfFmt_79
    rw [if_pos (show (14 : Int32) ≤ Int32.ofNat 14 by decide), if_neg (show ¬ ¬ ((0 : Int32) = 0 ∨ (0 : Int32) = 1) by decide)]
  | succ d ih =>
    intro j f hj hf
    obtain ⟨f, rfl⟩ : ∃ g, f = g + 1 := ⟨f - 1, by omega⟩
    have h14 : ¬ (14 : Int32) ≤ Int32.ofNat j := fun h => by
      have := (nm_le (a := 14) (b := j) (by omega) (by omega)).mp h
      omega
    have hr : ¬ (Int32.ofNat j < 0 ∨ 14 ≤ j) := fun h => h.elim (nm_nneg (by omega)) (by omega)
    have e1 : Int32.ofNat j + (1 : Int32) = Int32.ofNat (j + 1) := nm_add _ 1
    unfold fz_rd_takeMoreOfFmt_79
    rw [if_neg h14, nm_clamp (a := j) (by omega), if_neg hr, if_pos (show (0 : Int32) = 0 from rfl)]
    unfold fz_rd_takeMoreOfFmt_113 fz_rd_takeMoreOfFmt_114
    rw [e1, ih (j + 1) f (by omega) (by omega)]
theorem zr_pm : ∀ k : Fin 7, (am_vPAIRS.getD (2 * k.1) 0) &&& (65535 : Int32) = am_vPAIRS.getD (2 * k.1) 0 := by decide +kernel
theorem zr_prs {s m : am_Z} {N : Nat} (hv : zv_f s m N) (x3 : Int32) (x4 : Int64) : ∀ (d k f g P : Nat) (S M : am_Z), k + d = 7 → 2 * d < f → d < g → zr s m N 0 S M P → ∃ P', (P ≤ P' ∧ P' ≤ N) ∧ ((fz_rd_takeMoreOfFmt_79 f 1 14 (Int32.ofNat (2 * k)) S = some (1, zz_i S 14 (Int32.ofNat P')) ∧ fz_mo_readFormat_254 g x3 x4 (Int32.ofNat k) M = fz_mo_readFormat_294 x3 x4 (zz_i M 7 (Int32.ofNat P'))) ∨ (fz_rd_takeMoreOfFmt_79 f 1 14 (Int32.ofNat (2 * k)) S = some (0, zz_i S 14 (Int32.ofNat P')) ∧ fz_mo_readFormat_254 g x3 x4 (Int32.ofNat k) M = some (zz_i (zz_i (zz_i M 7 (Int32.ofNat P')) 15 1) 8 1))) := by
  intro d
  induction d with
  | zero =>
    intro k f g P S M hk hf hg h
    obtain ⟨f, rfl⟩ : ∃ g, f = g + 1 := ⟨f - 1, by omega⟩
    obtain ⟨g, rfl⟩ : ∃ f, g = f + 1 := ⟨g - 1, by omega⟩
    have e : k = 7 := by omega
    subst e
    refine ⟨P, ⟨by omega, h.2.2.2.2.2.2⟩, Or.inl ⟨?_, ?_⟩⟩
    · unfold fz_rd_takeMoreOfFmt_79
      rw [if_pos (show (14 : Int32) ≤ Int32.ofNat (2 * 7) by decide), if_neg (show ¬ ¬ ((1 : Int32) = 0 ∨ (1 : Int32) = 1) by decide), zz_same h.2.2.1]
    · unfold fz_mo_readFormat_254
      rw [if_pos (show (7 : Int32) ≤ Int32.ofNat 7 by decide), zz_same h.2.2.2.2.1]
  | succ d ih =>
    intro k f g P S M hk hf hg h
    obtain ⟨f, rfl⟩ : ∃ g, f = g + 1 + 1 := ⟨f - 2, by omega⟩
    obtain ⟨g, rfl⟩ : ∃ f, g = f + 1 := ⟨g - 1, by omega⟩
    obtain ⟨p1, p2⟩ := zm_pair ⟨k, by omega⟩
    have q1 : fz_mo_first (Int32.ofNat k) = some (am_vPAIRS.getD (2 * k) 0) := p1
    have q2 : fz_mo_second (Int32.ofNat k) = some (am_vPAIRS.getD (2 * k + 1) 0) := p2
    have q3 : (am_vPAIRS.getD (2 * k) 0) &&& (65535 : Int32) = am_vPAIRS.getD (2 * k) 0 := zr_pm ⟨k, by omega⟩
    have h14 : ∀ j, j < 14 → ¬ (14 : Int32) ≤ Int32.ofNat j := fun j hj h => by
      have := (nm_le (a := 14) (b := j) (by omega) (by omega)).mp h
      omega
    have h7 : ¬ (7 : Int32) ≤ Int32.ofNat k := fun h => by
      have := (nm_le (a := 7) (b := k) (by omega) (by omega)).mp h
      omega
    have hr : ∀ j, j < 14 → ¬ (Int32.ofNat j < 0 ∨ 14 ≤ j) := fun j hj h => h.elim (nm_nneg (by omega)) (by omega)
    have e1 : Int32.ofNat (2 * k) + (1 : Int32) = Int32.ofNat (2 * k + 1) := nm_add _ 1
    have e2 : Int32.ofNat (2 * k + 1) + (1 : Int32) = Int32.ofNat (2 * (k + 1)) := nm_add _ 1
    have e3 : Int32.ofNat k + (1 : Int32) = Int32.ofNat (k + 1) := nm_add _ 1
    have z1 : ¬ (1 : Int32) = 0 := by decide
    rcases zr_take hv h (n := 2) (by omega) 0 rfl (Int32.toInt64 (am_vPAIRS.getD (2 * k) 0)) with ⟨a0, -, a3, a4, a5⟩ | ⟨-, a3, a4⟩
    · have a3' : fz_rd_take S 2 (Int32.toInt64 (am_vPAIRS.getD (2 * k) 0)) = some (1, zz_i S 14 (Int32.ofNat (P + 2))) := a3
      have a4' : fz_mo_exact M 2 0 (Int32.toInt64 (am_vPAIRS.getD (2 * k) 0)) = some (zz_i M 7 (Int32.ofNat (P + 2))) := a4
      rcases zr_take hv a5 (n := 2) (by omega) 0 rfl (Int32.toInt64 ((am_vPAIRS.getD (2 * k + 1) 0) &&& (65535 : Int32))) with ⟨b0, -, b3, b4, b5⟩ | ⟨-, b3, b4⟩
      · have b3' : fz_rd_take (zz_i S 14 (Int32.ofNat (P + 2))) 2 (Int32.toInt64 ((am_vPAIRS.getD (2 * k + 1) 0) &&& (65535 : Int32))) = some (1, zz_i (zz_i S 14 (Int32.ofNat (P + 2))) 14 (Int32.ofNat (P + 2 + 2))) := b3
        have b4' : fz_mo_exact (zz_i M 7 (Int32.ofNat (P + 2))) 2 0 (Int32.toInt64 ((am_vPAIRS.getD (2 * k + 1) 0) &&& (65535 : Int32))) = some (zz_i (zz_i M 7 (Int32.ofNat (P + 2))) 7 (Int32.ofNat (P + 2 + 2))) := b4
        rw [zz_ii] at b3' b4'
        rw [zz_ii, zz_ii] at b5
        obtain ⟨P', hP', hh⟩ := ih (k + 1) f g (P + 2 + 2) _ _ (by omega) (by omega) (by omega) b5
        rw [zz_ii, zz_ii] at hh
        have C : fz_rd_takeMoreOfFmt_79 (f + 1 + 1) 1 14 (Int32.ofNat (2 * k)) S = fz_rd_takeMoreOfFmt_79 f 1 14 (Int32.ofNat (2 * (k + 1))) (zz_i S 14 (Int32.ofNat (P + 2 + 2))) := by
          conv => lhs; unfold fz_rd_takeMoreOfFmt_79
          rw [if_neg (h14 _ (by omega)), nm_clamp (a := 2 * k) (by omega), if_neg (hr _ (by omega)), if_neg z1, q3, a3']
          simp only [zbs]
          rw [if_neg z1]
          conv => lhs; unfold fz_rd_takeMoreOfFmt_114
          rw [e1]
          conv => lhs; unfold fz_rd_takeMoreOfFmt_79
          rw [if_neg (h14 _ (by omega)), nm_clamp (a := 2 * k + 1) (by omega), if_neg (hr _ (by omega)), if_neg z1, b3']
          simp only [zbs]
          rw [if_neg z1]
          conv => lhs; unfold fz_rd_takeMoreOfFmt_114
          rw [e2]
        have D : fz_mo_readFormat_254 (g + 1) x3 x4 (Int32.ofNat k) M = fz_mo_readFormat_254 g x3 x4 (Int32.ofNat (k + 1)) (zz_i M 7 (Int32.ofNat (P + 2 + 2))) := by
          conv => lhs; unfold fz_mo_readFormat_254
          rw [if_neg h7, q1]
          simp only [zbs]
          rw [a4']
          simp only [zbs]
          rw [q2]
          simp only [zbs]
          rw [b4']
          simp only [zbs]
          rw [e3]
        rw [C, D]
        exact ⟨P', ⟨by omega, hP'.2⟩, hh⟩
      · have b3' : fz_rd_take (zz_i S 14 (Int32.ofNat (P + 2))) 2 (Int32.toInt64 ((am_vPAIRS.getD (2 * k + 1) 0) &&& (65535 : Int32))) = some (0, zz_i S 14 (Int32.ofNat (P + 2))) := b3
        have b4' : fz_mo_exact (zz_i M 7 (Int32.ofNat (P + 2))) 2 0 (Int32.toInt64 ((am_vPAIRS.getD (2 * k + 1) 0) &&& (65535 : Int32))) = some (zz_i (zz_i M 7 (Int32.ofNat (P + 2))) 8 1) := b4
        refine ⟨P + 2, ⟨by omega, a0⟩, Or.inr ⟨?_, ?_⟩⟩
        · unfold fz_rd_takeMoreOfFmt_79
          rw [if_neg (h14 _ (by omega)), nm_clamp (a := 2 * k) (by omega), if_neg (hr _ (by omega)), if_neg z1, q3, a3']
          simp only [zbs]
          rw [if_neg z1]
          unfold fz_rd_takeMoreOfFmt_114
          rw [e1]
          unfold fz_rd_takeMoreOfFmt_79
          rw [if_neg (h14 _ (by omega)), nm_clamp (a := 2 * k + 1) (by omega), if_neg (hr _ (by omega)), if_neg z1, b3']
          simp only [zbs]
          rw [if_pos trivial]
          unfold fz_rd_takeMoreOfFmt_113 fz_rd_takeMoreOfFmt_114
          rw [e2, zr_79f _ (12 - 2 * k) _ f (by omega) (by omega)]
        · unfold fz_mo_readFormat_254
          rw [if_neg h7, q1]
          simp only [zbs]
          rw [a4']
          simp only [zbs]
          rw [q2]
          simp only [zbs]
          rw [b4']
          simp only [zbs]
          rw [e3, zF_254 x3 x4 _ d (k + 1) g (by omega) (by omega)]
    · have a3' : fz_rd_take S 2 (Int32.toInt64 (am_vPAIRS.getD (2 * k) 0)) = some (0, S) := a3
      have a4' : fz_mo_exact M 2 0 (Int32.toInt64 (am_vPAIRS.getD (2 * k) 0)) = some (zz_i M 8 1) := a4
      refine ⟨P, ⟨by omega, h.2.2.2.2.2.2⟩, Or.inr ⟨?_, ?_⟩⟩
      · unfold fz_rd_takeMoreOfFmt_79
        rw [if_neg (h14 _ (by omega)), nm_clamp (a := 2 * k) (by omega), if_neg (hr _ (by omega)), if_neg z1, q3, a3']
        simp only [zbs]
        rw [if_pos trivial]
        unfold fz_rd_takeMoreOfFmt_113 fz_rd_takeMoreOfFmt_114
        rw [e1, zr_79f _ (13 - 2 * k) _ (f + 1) (by omega) (by omega), zz_same h.2.2.1]
      · unfold fz_mo_readFormat_254
        rw [if_neg h7, q1]
        simp only [zbs]
        rw [a4']
        simp only [zbs]
        rw [q2]
        simp only [zbs]
        rw [zF_exact]
        simp only [zbs]
        rw [e3, zF_254 x3 x4 _ d (k + 1) g (by omega) (by omega), zz_same h.2.2.2.2.1]
/-- what stands in "fmt " behind the bits -/
theorem zr_mo1 {S : am_Z} (h22 : S.1 22 = 1) : fz_rd_takeMoreOfFmt S = some (1, S) := by
  unfold fz_rd_takeMoreOfFmt fz_fm_hasBlocks_13
  rw [h22, if_neg (show ¬ (1 : Int32) = 17 by decide), if_pos (show ¬ (1 : Int32) = 2 by decide)]
  simp only [zbs]
  rw [if_neg (not_not_intro trivial)]
theorem zr_mo {s m S M : am_Z} {N P : Nat} (hv : zv_f s m N) (h : zr s m N 0 S M P) {T : Int32} {mo : Int64} (hT : T = 17 ∧ mo = 2 ∨ T = 2 ∧ mo = 32) (h22 : S.1 22 = T) (h12 : M.1 12 = T) (hpb : ∀ Q, fz_mo_perBlock (zz_i M 7 Q) = some (S.1 25)) (x3 : Int32) (x4 : Int64) : ∃ P', (P ≤ P' ∧ P' ≤ N) ∧ ((fz_rd_takeMoreOfFmt S = some (1, zz_i S 14 (Int32.ofNat P')) ∧ fz_mo_readFormat_220 x3 x4 mo 0 2 M = fz_mo_readFormat_294 x3 x4 (zz_i M 7 (Int32.ofNat P'))) ∨ (fz_rd_takeMoreOfFmt S = some (0, zz_i S 14 (Int32.ofNat P')) ∧ fz_mo_readFormat_220 x3 x4 mo 0 2 M = some (zz_i (zz_i (zz_i M 7 (Int32.ofNat P')) 15 1) 8 1))) := by
  have z1 : ¬ (1 : Int32) = 0 := by decide
  have hb : fz_fm_hasBlocks_13 S = some 1 := by
    unfold fz_fm_hasBlocks_13 fz_fm_hasBlocks_13_17
    rcases hT with ⟨rfl, -⟩ | ⟨rfl, -⟩
    · rw [if_pos h22]
    · rw [h22, if_neg (show ¬ (2 : Int32) = 17 by decide), if_neg (show ¬ ¬ (2 : Int32) = 2 by decide)]
  have hm : ∃ w : Int32, fz_fm_sizeOfMore_13 S = some w ∧ Int32.toInt64 w = mo := by
    unfold fz_fm_sizeOfMore_13 fz_fm_sizeOfFmt_13
    rcases hT with ⟨rfl, rfl⟩ | ⟨rfl, rfl⟩
    · rw [h22, if_pos (show ¬ (17 : Int32) = 1 by decide), if_neg (show ¬ ¬ (17 : Int32) = 17 by decide)]
      simp only [zbs]
      exact ⟨_, rfl, by decide⟩
    · rw [h22, if_pos (show ¬ (2 : Int32) = 1 by decide), if_pos (show ¬ (2 : Int32) = 17 by decide)]
      simp only [zbs]
      exact ⟨_, rfl, by decide⟩
  obtain ⟨w, hw1, hw2⟩ := hm
  rcases zr_take hv h (n := 2) (by omega) 0 rfl mo with ⟨a0, -, a3, a4, a5⟩ | ⟨-, a3, a4⟩
  · have a3' : fz_rd_take S 2 mo = some (1, zz_i S 14 (Int32.ofNat (P + 2))) := a3
    have a4' : fz_mo_exact M 2 0 mo = some (zz_i M 7 (Int32.ofNat (P + 2))) := a4
    rcases zr_take hv a5 (n := 2) (by omega) 0 rfl (Int32.toInt64 (S.1 25)) with ⟨b0, -, b3, b4, b5⟩ | ⟨-, b3, b4⟩
    · have b3' : fz_rd_take (zz_i S 14 (Int32.ofNat (P + 2))) 2 (Int32.toInt64 (S.1 25)) = some (1, zz_i (zz_i S 14 (Int32.ofNat (P + 2))) 14 (Int32.ofNat (P + 2 + 2))) := b3
      have b4' : fz_mo_exact (zz_i M 7 (Int32.ofNat (P + 2))) 2 0 (Int32.toInt64 (S.1 25)) = some (zz_i (zz_i M 7 (Int32.ofNat (P + 2))) 7 (Int32.ofNat (P + 2 + 2))) := b4
      rw [zz_ii] at b3' b4'
      rw [zz_ii, zz_ii] at b5
      have eM : fz_mo_readFormat_220 x3 x4 mo 0 2 M = fz_mo_readFormat_234 x3 x4 (zz_i M 7 (Int32.ofNat (P + 2 + 2))) := by
        unfold fz_mo_readFormat_220
        rw [a4']
        simp only [zbs]
        rw [hpb]
        simp only [zbs]
        rw [b4']
        simp only [zbs]
      rcases hT with ⟨rfl, rfl⟩ | ⟨rfl, rfl⟩
      · refine ⟨P + 2 + 2, ⟨by omega, b0⟩, Or.inl ⟨?_, ?_⟩⟩
        · unfold fz_rd_takeMoreOfFmt
          rw [hb]
          simp only [zbs]
          rw [if_pos z1, hw1]
          simp only [zbs]
          rw [hw2, a3']
          simp only [zbs]
          rw [if_neg z1, show (zz_i S 14 (Int32.ofNat (P + 2))).1 25 = S.1 25 from rfl, b3']
          simp only [zbs]
          rw [if_pos z1, if_neg (not_not_intro (show (zz_i S 14 (Int32.ofNat (P + 2 + 2))).1 22 = 17 from h22))]
        · rw [eM]
          unfold fz_mo_readFormat_234
          rw [if_pos (show ¬ (zz_i M 7 (Int32.ofNat (P + 2 + 2))).1 12 = 2 by show ¬ M.1 12 = 2; rw [h12]; decide)]
      · have e22 : ¬ (zz_i S 14 (Int32.ofNat (P + 2 + 2))).1 22 = 17 := by
          show ¬ S.1 22 = 17
          rw [h22]
          decide
        have C : fz_rd_takeMoreOfFmt S = ((fz_rd_take (zz_i S 14 (Int32.ofNat (P + 2 + 2))) 2 7).bind fun q5 => fz_rd_takeMoreOfFmt_79 fz_fu q5.1 14 0 q5.2) := by
          unfold fz_rd_takeMoreOfFmt
          rw [hb]
          simp only [zbs]
          rw [if_pos z1, hw1]
          simp only [zbs]
          rw [hw2, a3']
          simp only [zbs]
          rw [if_neg z1, show (zz_i S 14 (Int32.ofNat (P + 2))).1 25 = S.1 25 from rfl, b3']
          simp only [zbs]
          rw [if_pos z1, if_pos e22]
        have D : fz_mo_readFormat_220 x3 x4 32 0 2 M = ((fz_mo_exact (zz_i M 7 (Int32.ofNat (P + 2 + 2))) 2 0 7).bind fun q1 => fz_mo_readFormat_254 fz_fu x3 x4 0 q1) := by
          rw [eM]
          unfold fz_mo_readFormat_234
          rw [if_neg (not_not_intro (show (zz_i M 7 (Int32.ofNat (P + 2 + 2))).1 12 = 2 from h12))]
        rw [C, D]
        rcases zr_take hv b5 (n := 2) (by omega) 0 rfl 7 with ⟨c0, -, c3, c4, c5⟩ | ⟨-, c3, c4⟩
        · have c3' : fz_rd_take (zz_i S 14 (Int32.ofNat (P + 2 + 2))) 2 7 = some (1, zz_i (zz_i S 14 (Int32.ofNat (P + 2 + 2))) 14 (Int32.ofNat (P + 2 + 2 + 2))) := c3
          have c4' : fz_mo_exact (zz_i M 7 (Int32.ofNat (P + 2 + 2))) 2 0 7 = some (zz_i (zz_i M 7 (Int32.ofNat (P + 2 + 2))) 7 (Int32.ofNat (P + 2 + 2 + 2))) := c4
          rw [zz_ii] at c3' c4'
          rw [zz_ii, zz_ii] at c5
          obtain ⟨P', hP', hh⟩ := zr_prs hv x3 x4 7 0 fz_fu fz_fu _ _ _ (by omega) (by show 14 < 1000; omega) (by show 7 < 1000; omega) c5
          rw [zz_ii, zz_ii] at hh
          rw [c3', c4']
          simp only [zbs]
          exact ⟨P', ⟨by omega, hP'.2⟩, hh⟩
        · have c3' : fz_rd_take (zz_i S 14 (Int32.ofNat (P + 2 + 2))) 2 7 = some (0, zz_i S 14 (Int32.ofNat (P + 2 + 2))) := c3
          have c4' : fz_mo_exact (zz_i M 7 (Int32.ofNat (P + 2 + 2))) 2 0 7 = some (zz_i (zz_i M 7 (Int32.ofNat (P + 2 + 2))) 8 1) := c4
          refine ⟨P + 2 + 2, ⟨by omega, b0⟩, Or.inr ⟨?_, ?_⟩⟩
          · rw [c3']
            simp only [zbs]
            exact zr_79f _ 14 0 fz_fu (by omega) (by show 14 < 1000; omega)
          · rw [c4']
            simp only [zbs]
            exact zF_254 x3 x4 _ 7 0 fz_fu (by omega) (by show 7 < 1000; omega)
    · have b3' : fz_rd_take (zz_i S 14 (Int32.ofNat (P + 2))) 2 (Int32.toInt64 (S.1 25)) = some (0, zz_i S 14 (Int32.ofNat (P + 2))) := b3
      have b4' : fz_mo_exact (zz_i M 7 (Int32.ofNat (P + 2))) 2 0 (Int32.toInt64 (S.1 25)) = some (zz_i (zz_i M 7 (Int32.ofNat (P + 2))) 8 1) := b4
      refine ⟨P + 2, ⟨by omega, a0⟩, Or.inr ⟨?_, ?_⟩⟩
      · unfold fz_rd_takeMoreOfFmt
        rw [hb]
        simp only [zbs]
        rw [if_pos z1, hw1]
        simp only [zbs]
        rw [hw2, a3']
        simp only [zbs]
        rw [if_neg z1, show (zz_i S 14 (Int32.ofNat (P + 2))).1 25 = S.1 25 from rfl, b3']
        simp only [zbs]
        rw [if_neg (not_not_intro trivial)]
      · unfold fz_mo_readFormat_220
        rw [a4']
        simp only [zbs]
        rw [hpb]
        simp only [zbs]
        rw [b4']
        simp only [zbs]
        rw [zF_234]
  · have a3' : fz_rd_take S 2 mo = some (0, S) := a3
    have a4' : fz_mo_exact M 2 0 mo = some (zz_i M 8 1) := a4
    obtain ⟨b, hpb'⟩ := zr_pb (zz_i M 8 1)
    refine ⟨P, ⟨by omega, h.2.2.2.2.2.2⟩, Or.inr ⟨?_, ?_⟩⟩
    · unfold fz_rd_takeMoreOfFmt
      rw [hb]
      simp only [zbs]
      rw [if_pos z1, hw1]
      simp only [zbs]
      rw [hw2, a3']
      simp only [zbs]
      rw [if_pos trivial, zz_same h.2.2.1]
    · unfold fz_mo_readFormat_220
      rw [a4']
      simp only [zbs]
      rw [hpb']
      simp only [zbs]
      rw [zF_exact]
      simp only [zbs]
      rw [zF_234, zz_same h.2.2.2.2.1]
