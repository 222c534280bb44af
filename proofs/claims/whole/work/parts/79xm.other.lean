/-! Reading: the chunks of a file of the other byte order, both. -/
theorem zF_o2 (g : Nat) (x : Int32) (M : am_Z) (h : ¬ M.1 8 = 0) : fz_mo_readOther_2 (g + 1) x M = some M := by
  unfold fz_mo_readOther_2
  rw [if_pos h]
theorem zo_done (g : Nat) (M : am_Z) (h : M.1 8 = 0) : fz_mo_readOther_2 (g + 1) 1 M = some M := by
  unfold fz_mo_readOther_2
  rw [if_neg (not_not_intro h), if_pos (show ¬ (1 : Int32) = 0 by decide)]
theorem zo_short {M : am_Z} {V : Int64} (g : Nat) (h8 : M.1 8 = 0) (hV : fz_mo_peek M (M.1 7) 4 1 = some V) (hl : M.1 4 < M.1 7 + (4 : Int32)) : fz_mo_readOther_2 (g + 1) 0 M = some (zz_i M 8 1) := by
  unfold fz_mo_readOther_2 fz_mo_readOther_67
  rw [if_neg (not_not_intro h8), if_neg (show ¬ ¬ (0 : Int32) = 0 by decide), hV]
  simp only [zbs]
  rw [if_pos hl]
theorem zo_go {M : am_Z} {v : Nat} (g : Nat) (h8 : M.1 8 = 0) (hv : v < 4294967296) (hV : fz_mo_peek M (M.1 7) 4 1 = some (Int64.ofNat v)) (hl : ¬ M.1 4 < M.1 7 + (4 : Int32)) : fz_mo_readOther_2 (g + 1) 0 M = if v = 1129270605 then (if ¬ M.1 15 = 0 then some (zz_i M 8 1) else (fz_mo_readCommon (zz_i M 7 (M.1 7 + (4 : Int32)))).bind fun q => fz_mo_readOther_2 g 0 q) else if v = 1397968452 then (if ¬ M.1 15 = 0 then (fz_mo_readOtherData (zz_i M 7 (M.1 7 + (4 : Int32)))).bind fun q => fz_mo_readOther_2 g 1 q else some (zz_i M 8 1)) else (fz_mo_passOver (zz_i M 7 (M.1 7 + (4 : Int32))) 1).bind fun q => fz_mo_readOther_2 g 0 q := by
  have kC : lg_cmp (Int64.ofNat v) (1129270605 : Int64) = 0 ↔ v = 1129270605 := zw_k (k := 1129270605) hv (by omega)
  have kS : lg_cmp (Int64.ofNat v) (1397968452 : Int64) = 0 ↔ v = 1397968452 := zw_k (k := 1397968452) hv (by omega)
  conv => lhs; unfold fz_mo_readOther_2
  rw [if_neg (not_not_intro h8), if_neg (show ¬ ¬ (0 : Int32) = 0 by decide), hV]
  simp only [zbs]
  rw [if_neg hl]
  unfold fz_mo_readOther_52 fz_mo_readOther_73 fz_mo_readOther_67 fz_mo_readOther_120
  by_cases cC : v = 1129270605
  · have nS : ¬ lg_cmp (Int64.ofNat v) (1397968452 : Int64) = 0 := fun hc => by
      have := kS.mp hc
      omega
    rw [if_neg (not_not_intro (kC.mpr cC)), if_pos cC]
    by_cases c : M.1 15 = 0
    · rw [if_neg (not_not_intro c), if_neg (not_not_intro c), if_pos nS, if_neg (not_not_intro (kC.mpr cC)), if_neg (not_not_intro c)]
    · rw [if_pos c, if_pos c]
  · have nC : ¬ lg_cmp (Int64.ofNat v) (1129270605 : Int64) = 0 := fun hc => cC (kC.mp hc)
    rw [if_pos nC, if_neg cC]
    by_cases cS : v = 1397968452
    · rw [if_neg (not_not_intro (kS.mpr cS)), if_pos cS]
      by_cases c : M.1 15 = 0
      · rw [if_neg (not_not_intro c), if_neg (not_not_intro c)]
      · rw [if_pos c, if_pos c, if_pos nC, if_neg (not_not_intro (kS.mpr cS))]
    · have nS : ¬ lg_cmp (Int64.ofNat v) (1397968452 : Int64) = 0 := fun hc => cS (kS.mp hc)
      rw [if_pos nS, if_neg cS, if_pos nC, if_pos nS]
theorem zo_next {s m S : am_Z} {N : Nat} {F : am_Z → am_Z → Nat → Prop} {Y : am_Z → am_Z → Prop} {B : Option am_Z} {i f g : Nat} (hE : zr_E s m N 1 F (fz_rd_takeChunk S) B) (hi : i < 50) (h15 : fz_rd_isAtSamples S = some 0) (K : ∀ S' M' P', zr s m N 1 S' M' P' → F S' M' P' → zr_O s m N 1 Y (fz_rd_readFile_38 (f + 1) 1 (Int32.ofNat (i + 1)) S') (fz_mo_readOther_2 (g + 1) 0 M')) : zr_O s m N 1 Y (fz_rd_readFile_38 (f + 1 + 1) 1 (Int32.ofNat i) S) (B.bind fun q => fz_mo_readOther_2 (g + 1) 0 q) := by
  have h50 : ¬ (50 : Int32) ≤ Int32.ofNat i := fun hc => by
    have := (nm_le (a := 50) (b := i) (by omega) (by omega)).mp hc
    omega
  have e1 : Int32.ofNat i + (1 : Int32) = Int32.ofNat (i + 1) := nm_add i 1
  have C : fz_rd_readFile_38 (f + 1 + 1) 1 (Int32.ofNat i) S = ((fz_rd_takeChunk S).bind fun q2 => fz_rd_readFile_38 (f + 1) q2.1 (Int32.ofNat (i + 1)) q2.2) := by
    conv => lhs; unfold fz_rd_readFile_38
    rw [if_neg h50, if_neg (show ¬ (1 : Int32) = 0 by decide), h15]
    simp only [zbs]
    rw [if_neg (not_not_intro trivial), e1]
  rw [C]
  rcases hE with ⟨S', M', P', h1, h2, h3, h4⟩ | ⟨S', M', h1, h2, h3⟩
  · rw [h1, h2]
    simp only [zbs]
    exact K S' M' P' h3 h4
  · rw [h1, h2]
    simp only [zbs]
    rw [zr_38f, zF_o2 g 0 M' (by rw [h3.2.2.1]; decide)]
    exact Or.inl ⟨S', M', rfl, rfl, Or.inl h3⟩
def zr_HO (S M : am_Z) : Prop := S.1 20 = 0 ∧ ((S.1 17 = 0 ∧ M.1 15 = 0) ∨ zr_co S M)
def zr_YO (S M : am_Z) : Prop := ∃ c : Nat, zr_d S M c c ∧ zr_rr S M
theorem zo_loop {s m : am_Z} {N : Nat} (hv : zv_f s m N) : ∀ (d i f g P : Nat) (S M : am_Z), N < P + 8 * d → 12 + 8 * i ≤ P → d < f → d < g → zr s m N 1 S M P → zr_HO S M → zr_O s m N 1 zr_YO (fz_rd_readFile_38 f 1 (Int32.ofNat i) S) (fz_mo_readOther_2 g 0 M) := by
  intro d
  induction d with
  | zero =>
    intro i f g P S M hd hi hf hg h hH
    have := h.2.2.2.2.2.2
    omega
  | succ d ih =>
    intro i f g P S M hd hi hf hg h hH
    have eN : N ≤ 400 := hv.1
    have hP := h.2.2.2.2.2.2
    have z1 : ¬ (1 : Int32) = 0 := by decide
    obtain ⟨f, rfl⟩ : ∃ g, f = g + 1 + 1 := ⟨f - 2, by omega⟩
    obtain ⟨g, rfl⟩ : ∃ f, g = f + 1 + 1 := ⟨g - 2, by omega⟩
    have h50 : ¬ (50 : Int32) ≤ Int32.ofNat i := fun hc => by
      have := (nm_le (a := 50) (b := i) (by omega) (by omega)).mp hc
      omega
    have e1 : Int32.ofNat i + (1 : Int32) = Int32.ofNat (i + 1) := nm_add i 1
    have ep : M.1 7 + (4 : Int32) = Int32.ofNat (P + 4) := by
      rw [h.2.2.2.2.1]
      exact nm_add P 4
    have h15 : ¬ S.1 15 = 0 := by rw [h.2.2.2.1]; exact z1
    by_cases h4 : P + 4 ≤ N
    · obtain ⟨v, hvv, hv32, hh, hi4, hpk⟩ := zr_at hv h h4
      have hl : ¬ M.1 4 < M.1 7 + (4 : Int32) := by
        rw [ep, (zr_B hv h).2.1.2.1, nm_lt (by omega) (by omega)]
        omega
      rw [zo_go (g + 1) h.2.2.2.2.2.1 hv32 hpk hl, ep]
      have iS : Int32.ofNat v = (1397968452 : Int32) ↔ v = 1397968452 := nm_inj32 (b := 1397968452) hv32 (by omega)
      have iC : Int32.ofNat v = (1129270605 : Int32) ↔ v = 1129270605 := nm_inj32 (b := 1129270605) hv32 (by omega)
      have hat : fz_rd_isAtSamples S = some (if v = 1397968452 then 1 else 0) := by
        unfold fz_rd_isAtSamples fz_rd_isAtSamples_40 fz_rd_isAtSamples_47
        rw [hh]
        simp only [zbs]
        rw [if_neg z1, hi4]
        simp only [zbs]
        rw [if_neg h15]
        by_cases c : v = 1397968452
        · rw [if_neg (not_not_intro (iS.mpr c)), if_pos c]
        · rw [if_pos (show ¬ Int32.ofNat v = (1397968452 : Int32) from fun hc => c (iS.mp hc)), if_neg c]
      have K : ∀ S' M' P', zr s m N 1 S' M' P' → P + 8 ≤ P' → zr_HO S' M' → zr_O s m N 1 zr_YO (fz_rd_readFile_38 (f + 1) 1 (Int32.ofNat (i + 1)) S') (fz_mo_readOther_2 (g + 1) 0 M') := fun S' M' P' k1 k2 k3 => ih (i + 1) (f + 1) (g + 1) P' S' M' (by omega) (by omega) (by omega) (by omega) k1 k3
      by_cases cC : v = 1129270605
      · rw [if_pos cC]
        rw [if_neg (show ¬ v = 1397968452 by omega)] at hat
        have C2 : fz_rd_takeChunk S = if ¬ S.1 17 = 0 then some (0, S) else (fz_rd_takeComm S).bind fun q1 => if q1.1 = 0 then fz_rd_takeChunk_60 q1.2 else some (1, q1.2) := by
          unfold fz_rd_takeChunk
          rw [hh]
          simp only [zbs]
          rw [if_pos z1, hi4]
          simp only [zbs]
          rw [if_neg h15, if_neg (not_not_intro (iC.mpr cC))]
          rfl
        rcases hH.2 with ⟨k17, k15⟩ | kco
        · rw [if_neg (not_not_intro k15)]
          rw [if_neg (not_not_intro k17)] at C2
          have hE := zr_wrap (zr_comm hv h h4 (by rw [← hvv]; exact iC.mpr cC)) fz_rd_takeChunk_60 (fun Z => rfl)
          rw [← C2] at hE
          refine zo_next (i := i) hE (by omega) hat (fun S' M' P' k1 k2 => K S' M' P' k1 k2.1 ⟨k2.2.2.trans hH.1, Or.inr k2.2.1⟩)
        · have n15 : ¬ M.1 15 = 0 := by
            obtain ⟨c, b, r, -, -, -, -, -, -, m15, -⟩ := kco
            rw [m15]
            exact z1
          have n17 : ¬ S.1 17 = 0 := by
            obtain ⟨c, b, r, -, -, -, -, -, s17, -⟩ := kco
            rw [s17]
            exact z1
          rw [if_pos n15]
          rw [if_pos n17] at C2
          have hE : zr_E s m N 1 (fun _ _ _ => False) (fz_rd_takeChunk S) (some (zz_i M 8 1)) := Or.inr ⟨S, _, C2, rfl, zr_f hv h⟩
          have := zo_next (i := i) (f := f) (g := g) (Y := zr_YO) hE (by omega) hat (fun _ _ _ _ hc => hc.elim)
          simp only [zbs] at this
          rw [zF_o2 g 0 _ (zF_8 M)] at this
          exact this
      · rw [if_neg cC]
        by_cases cS : v = 1397968452
        · rw [if_pos cS]
          rw [if_pos cS] at hat
          have C : fz_rd_readFile_38 (f + 1 + 1) 1 (Int32.ofNat i) S = ((fz_rd_takeSsnd S).bind fun q2 => if q2.1 = 0 then fz_rd_readFile_112 q2.2 else fz_rd_readFile_94 q2.2) := by
            conv => lhs; unfold fz_rd_readFile_38
            rw [if_neg h50, if_neg z1, hat]
            simp only [zbs]
            rw [if_pos z1]
            unfold fz_rd_readFile_66
            rw [if_neg z1, if_neg h15]
          rw [C]
          rcases hH.2 with ⟨k17, k15⟩ | kco
          · rw [if_neg (not_not_intro k15)]
            have e : fz_rd_takeSsnd S = some (0, S) := by
              unfold fz_rd_takeSsnd fz_rd_takeSsnd_16
              rw [k17]
              by_cases c : (8 : Int32) < S.1 19
              · rw [if_pos c, if_pos (show (0 : Int32) = 0 from rfl)]
              · rw [if_neg c, if_pos (show (0 : Int32) = 0 from rfl)]
            rw [e]
            simp only [zbs]
            rw [if_pos trivial, zr_112]
            exact Or.inl ⟨S, _, rfl, rfl, Or.inl (zr_f hv h)⟩
          · have n15 : ¬ M.1 15 = 0 := by
              obtain ⟨c, b, r, -, -, -, -, -, -, m15, -⟩ := kco
              rw [m15]
              exact z1
            rw [if_pos n15]
            rcases zr_ssnd hv h h4 (by rw [← hvv]; exact iS.mpr cS) kco hH.1 with ⟨S', M', P', h1, h2, h3, c, h5⟩ | ⟨S', M', h1, h2, h3⟩
            · rw [h1, h2]
              simp only [zbs]
              rw [if_neg z1, zo_done g M' h3.2.2.2.2.2.1]
              refine zr_94 hv h3 ⟨c, h5.1, ?_⟩
              obtain ⟨-, -, r, -, -, -, r1, r2, -, -, -, -, -, -, r3, r4⟩ := kco
              exact ⟨r, r1, r2, (h5.2.1 21 (by omega) (by omega) (by decide)).trans r3, (h5.2.2 11 (by omega) (by omega)).trans r4⟩
            · rw [h1, h2]
              simp only [zbs]
              rw [if_pos trivial, zr_112, zF_o2 g 1 M' (by rw [h3.2.2.1]; decide)]
              exact Or.inl ⟨S', M', rfl, rfl, Or.inl h3⟩
        · rw [if_neg cS]
          rw [if_neg cS] at hat
          have C2 : fz_rd_takeChunk S = ((fz_rd_passOver S).bind fun q1 => if ¬ (q1.1 = 0 ∨ q1.1 = 1) then none else some (q1.1, q1.2)) := by
            unfold fz_rd_takeChunk
            rw [hh]
            simp only [zbs]
            rw [if_pos z1, hi4]
            simp only [zbs]
            rw [if_neg h15, if_pos (show ¬ Int32.ofNat v = (1129270605 : Int32) from fun hc => cC (iC.mp hc))]
            unfold fz_rd_takeChunk_62 fz_rd_takeChunk_98 fz_rd_takeChunk_141
            rw [if_pos h15, if_pos h15]
          have hE := zr_wrap2 (zr_pass hv h h4)
          rw [← C2] at hE
          refine zo_next (i := i) hE (by omega) hat (fun S' M' P' k1 k2 => K S' M' P' k1 k2.1 ?_)
          obtain ⟨-, l2, l3⟩ := k2
          rw [l2, l3]
          exact hH
    · obtain ⟨hh, hpk, hl⟩ := zr_at0 hv h h4
      rw [zo_short (g + 1) h.2.2.2.2.2.1 hpk hl]
      have hat : fz_rd_isAtSamples S = some 0 := by
        unfold fz_rd_isAtSamples fz_rd_isAtSamples_47
        rw [hh]
        simp only [zbs]
        rw [if_pos trivial]
      have hE : zr_E s m N 1 (fun _ _ _ => False) (fz_rd_takeChunk S) (some (zz_i M 8 1)) := by
        refine Or.inr ⟨S, _, ?_, rfl, zr_f hv h⟩
        unfold fz_rd_takeChunk
        rw [hh]
        simp only [zbs]
        rw [if_neg (not_not_intro trivial)]
      have := zo_next (i := i) (f := f) (g := g) (Y := zr_YO) hE (by omega) hat (fun _ _ _ _ hc => hc.elim)
      simp only [zbs] at this
      rw [zF_o2 g 0 _ (zF_8 M)] at this
      exact this
