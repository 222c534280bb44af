/-! Reading: the loop over the chunks of a wave file. -/
theorem zw_loop {s m : am_Z} {N : Nat} (hv : zv_f s m N) : ∀ (d i f g P : Nat) (S M : am_Z), N < P + 8 * d → 12 + 8 * i ≤ P → d < f → d < g → zr s m N 0 S M P → zr_H S M → zr_O s m N 0 zr_Y (fz_rd_readFile_38 f 1 (Int32.ofNat i) S) (fz_mo_readWave_2 g 0 M) := by
  intro d
  induction d with
  | zero =>
    intro i f g P S M hd hi hf hg h hH
    have := h.2.2.2.2.2.2
    omega
  | succ d ih =>
    intro i f g P S M hd hi hf hg h hH
    have eN : N ≤ 400 := hv.1
    have hP := h.2.2.2.2.2.2
    have z1 : ¬ (1 : Int32) = 0 := by decide
    obtain ⟨f, rfl⟩ : ∃ g, f = g + 1 + 1 := ⟨f - 2, by omega⟩
    obtain ⟨g, rfl⟩ : ∃ f, g = f + 1 + 1 := ⟨g - 2, by omega⟩
    have h50 : ¬ (50 : Int32) ≤ Int32.ofNat i := fun hc => by
      have := (nm_le (a := 50) (b := i) (by omega) (by omega)).mp hc
      omega
    have e1 : Int32.ofNat i + (1 : Int32) = Int32.ofNat (i + 1) := nm_add i 1
    have ep : M.1 7 + (4 : Int32) = Int32.ofNat (P + 4) := by
      rw [h.2.2.2.2.1]
      exact nm_add P 4
    by_cases h4 : P + 4 ≤ N
    · obtain ⟨v, hvv, hv32, hh, hi4, hpk⟩ := zr_at hv h h4
      rw [zw_go (g + 1) h.2.2.2.2.2.1 hv32 hpk]
      have iD : Int32.ofNat v = (1684108385 : Int32) ↔ v = 1684108385 := nm_inj32 (b := 1684108385) hv32 (by omega)
      have iF : Int32.ofNat v = (1718449184 : Int32) ↔ v = 1718449184 := nm_inj32 (b := 1718449184) hv32 (by omega)
      have iT : Int32.ofNat v = (1717658484 : Int32) ↔ v = 1717658484 := nm_inj32 (b := 1717658484) hv32 (by omega)
      have hat : fz_rd_isAtSamples S = some (if v = 1684108385 then 1 else 0) := by
        unfold fz_rd_isAtSamples fz_rd_isAtSamples_40 fz_rd_isAtSamples_47
        rw [hh]
        simp only [zbs]
        rw [if_neg z1, hi4]
        simp only [zbs]
        rw [if_pos h.2.2.2.1]
        by_cases c : v = 1684108385
        · rw [if_neg (not_not_intro (iD.mpr c)), if_pos c]
        · rw [if_pos (show ¬ Int32.ofNat v = (1684108385 : Int32) from fun hc => c (iD.mp hc)), if_neg c]
      by_cases cD : v = 1684108385
      · rw [if_pos cD] at hat
        have nF : ¬ (v = 1717658484 ∧ ¬ M.1 15 = 0 ∧ ¬ M.1 12 = 1) := fun hc => by omega
        rw [if_neg nF, zw_data cD, ep]
        have C : fz_rd_readFile_38 (f + 1 + 1) 1 (Int32.ofNat i) S = fz_rd_readFile_66 1 S := by
          conv => lhs; unfold fz_rd_readFile_38
          rw [if_neg h50, if_neg z1, hat]
          simp only [zbs]
          rw [if_pos z1]
        rw [C]
        exact zw_dat hv h h4 (by rw [← hvv]; exact iD.mpr cD) hH g
      · rw [if_neg cD] at hat
        have K : ∀ S' M' P', zr s m N 0 S' M' P' → P + 8 ≤ P' → zr_H S' M' → zr_O s m N 0 zr_Y (fz_rd_readFile_38 (f + 1) 1 (Int32.ofNat (i + 1)) S') (fz_mo_readWave_2 (g + 1) 0 M') := fun S' M' P' k1 k2 k3 => ih (i + 1) (f + 1) (g + 1) P' S' M' (by omega) (by omega) (by omega) (by omega) k1 k3
        have C62 : fz_rd_takeChunk S = fz_rd_takeChunk_62 (Int32.ofNat v) S := by
          unfold fz_rd_takeChunk
          rw [hh]
          simp only [zbs]
          rw [if_pos z1, hi4]
          simp only [zbs]
          rw [if_pos h.2.2.2.1]
        have h15 : ¬ ¬ S.1 15 = 0 := not_not_intro h.2.2.2.1
        by_cases cF : v = 1718449184
        · have nF : ¬ (v = 1717658484 ∧ ¬ M.1 15 = 0 ∧ ¬ M.1 12 = 1) := fun hc => by omega
          have idF : Int32.ofNat v = (1718449184 : Int32) := iF.mpr cF
          rw [if_neg nF, zw_fmt cF, ep]
          have C2 : fz_rd_takeChunk S = if ¬ S.1 22 = 0 then some (0, S) else (fz_rd_takeFmt S).bind fun q1 => if q1.1 = 0 then fz_rd_takeChunk_96 q1.2 else some (1, q1.2) := by
            rw [C62]
            unfold fz_rd_takeChunk_62
            rw [if_neg h15, if_neg (not_not_intro idF)]
            rfl
          rcases hH.2.1 with ⟨k22, k15⟩ | ⟨k15, kfm, krr⟩
          · rw [if_neg (not_not_intro k15)]
            rw [if_neg (not_not_intro k22)] at C2
            have hE := zr_wrap (zr_fmt hv h h4 (by rw [← hvv]; exact idF)) fz_rd_takeChunk_96 (fun Z => rfl)
            rw [← C2] at hE
            refine zw_next (i := i) hE (by omega) hat (fun S' M' P' k1 k2 => K S' M' P' k1 k2.1 ?_)
            obtain ⟨-, l2, l3, l4, l5, l6, l7, l8, l9, l10, l11⟩ := k2
            refine ⟨l6.trans hH.1, Or.inr ⟨l10, l2, l11⟩, ?_⟩
            rcases hH.2.2 with ⟨o1, o2⟩ | ⟨o1, o2, c, o3, o4, o5⟩
            · exact Or.inl ⟨l3.trans o1, l9.trans o2⟩
            · exact Or.inr ⟨l3.trans o1, l9.trans o2, c, o3, l5.trans o4, l8.trans o5⟩
          · have n15 : ¬ M.1 15 = 0 := by rw [k15]; exact z1
            have n22 : ¬ S.1 22 = 0 := by
              obtain ⟨T, hd, q, ib, hT, -, f22, -⟩ := kfm
              rw [f22]
              rcases hT with ⟨rfl, -⟩ | ⟨rfl, -⟩ | ⟨rfl, -⟩ <;> decide
            rw [if_pos n15]
            rw [if_pos n22] at C2
            have hE : zr_E s m N 0 (fun _ _ _ => False) (fz_rd_takeChunk S) (some (zz_i M 8 1)) := Or.inr ⟨S, _, C2, rfl, zr_f hv h⟩
            have := zw_next (i := i) (f := f) (g := g) (Y := zr_Y) hE (by omega) hat (fun _ _ _ _ hc => hc.elim)
            simp only [zbs] at this
            rw [zF_w2 g 0 _ (zF_8 M)] at this
            exact this
        · have C98 : fz_rd_takeChunk S = fz_rd_takeChunk_98 (Int32.ofNat v) S := by
            rw [C62]
            unfold fz_rd_takeChunk_62
            rw [if_neg h15, if_pos (show ¬ Int32.ofNat v = (1718449184 : Int32) from fun hc => cF (iF.mp hc))]
          have pass : fz_rd_takeChunk S = fz_rd_takeChunk_141 S → ∀ e, zr_O s m N 0 zr_Y (fz_rd_readFile_38 (f + 1 + 1) 1 (Int32.ofNat i) S) (fz_mo_readWave_102 (fz_mo_readWave_2 (g + 1)) 0 (Int64.ofNat v) 0 e M) := by
            intro hc e
            rw [zw_pass hv32 cF cD, ep]
            have hE := zr_wrap2 (zr_pass hv h h4)
            have hc' : fz_rd_takeChunk S = ((fz_rd_passOver S).bind fun q1 => if ¬ (q1.1 = 0 ∨ q1.1 = 1) then none else some (q1.1, q1.2)) := hc
            rw [← hc'] at hE
            refine zw_next (i := i) hE (by omega) hat (fun S' M' P' k1 k2 => K S' M' P' k1 k2.1 ?_)
            obtain ⟨-, l2, l3⟩ := k2
            rw [l2, l3]
            exact hH
          by_cases cT : v = 1717658484
          · have idT : Int32.ofNat v = (1717658484 : Int32) := iT.mpr cT
            have C3 : fz_rd_takeChunk S = (fz_fm_hasBlocks_13 S).bind fun q1 => if q1 = 0 then fz_rd_takeChunk_141 S else if ¬ S.1 16 = 0 then fz_rd_takeChunk_139 S else (fz_rd_takeFact S).bind fun q2 => if q2.1 = 0 then fz_rd_takeChunk_139 q2.2 else some (1, q2.2) := by
              rw [C98]
              unfold fz_rd_takeChunk_98
              rw [if_neg h15, if_neg (not_not_intro idT)]
            rcases hH.2.1 with ⟨k22, k15⟩ | ⟨k15, kfm, krr⟩
            · rw [if_neg (show ¬ (v = 1717658484 ∧ ¬ M.1 15 = 0 ∧ ¬ M.1 12 = 1) from fun hc => hc.2.1 k15)]
              refine pass ?_ _
              rw [C3]
              unfold fz_fm_hasBlocks_13
              rw [k22, if_neg (show ¬ (0 : Int32) = 17 by decide), if_pos (show ¬ (0 : Int32) = 2 by decide)]
              simp only [zbs]
              rw [if_pos trivial]
            · have n15 : ¬ M.1 15 = 0 := by rw [k15]; exact z1
              obtain ⟨T, hd', q, ib, hT, -, f22, -, -, -, g12, -⟩ := id kfm
              by_cases cP : T = 1
              · rw [if_neg (show ¬ (v = 1717658484 ∧ ¬ M.1 15 = 0 ∧ ¬ M.1 12 = 1) from fun hc => hc.2.2 (g12.trans cP))]
                refine pass ?_ _
                rw [C3]
                unfold fz_fm_hasBlocks_13
                rw [f22, cP, if_neg (show ¬ (1 : Int32) = 17 by decide), if_pos (show ¬ (1 : Int32) = 2 by decide)]
                simp only [zbs]
                rw [if_pos trivial]
              · have hT17 : T = 17 ∨ T = 2 := by
                  rcases hT with ⟨a, -⟩ | ⟨a, -⟩ | ⟨a, -⟩
                  · exact absurd a cP
                  · exact Or.inl a
                  · exact Or.inr a
                rw [if_pos (show v = 1717658484 ∧ ¬ M.1 15 = 0 ∧ ¬ M.1 12 = 1 from ⟨cT, n15, fun hc => cP (g12.symm.trans hc)⟩), zw_fact cT, ep]
                rw [zr_hb hT17 f22] at C3
                simp only [zbs] at C3
                rw [if_neg z1] at C3
                rcases hH.2.2 with ⟨o1, o2⟩ | ⟨o1, o2, c, o3, o4, o5⟩
                · rw [if_neg (not_not_intro o2)]
                  rw [if_neg (not_not_intro o1)] at C3
                  have hE := zr_wrap (zr_fact hv h h4 (by rw [← hvv]; exact idT)) fz_rd_takeChunk_139 (fun Z => rfl)
                  rw [← C3] at hE
                  refine zw_next (i := i) hE (by omega) hat (fun S' M' P' k1 k2 => K S' M' P' k1 k2.1 ?_)
                  obtain ⟨-, c, l1, l2, l3, l4, l5, l6, l7⟩ := k2
                  refine ⟨(l5 20 (by decide) (by decide) (by decide)).trans hH.1, Or.inr ⟨(l7 15 (by decide) (by decide) (by decide)).trans k15, ?_, ?_⟩, Or.inr ⟨?_, l4, c, l1, ?_, l3⟩⟩
                  · exact zr_fm_t kfm (l5 22 (by decide) (by decide) (by decide)) (l5 23 (by decide) (by decide) (by decide)) (l5 24 (by decide) (by decide) (by decide)) (l5 25 (by decide) (by decide) (by decide)) (l7 12 (by decide) (by decide) (by decide)) (l7 13 (by decide) (by decide) (by decide))
                  · exact zr_rr_t krr (l5 21 (by decide) (by decide) (by decide)) (l7 11 (by decide) (by decide) (by decide))
                  · rw [l2]; rfl
                  · rw [l2]; rfl
                · have n16 : ¬ M.1 16 = 0 := by rw [o2]; exact z1
                  have n16' : ¬ S.1 16 = 0 := by rw [o1]; exact z1
                  rw [if_pos n16]
                  rw [if_pos n16'] at C3
                  have hE : zr_E s m N 0 (fun _ _ _ => False) (fz_rd_takeChunk S) (some (zz_i M 8 1)) := Or.inr ⟨S, _, C3, rfl, zr_f hv h⟩
                  have := zw_next (i := i) (f := f) (g := g) (Y := zr_Y) hE (by omega) hat (fun _ _ _ _ hc => hc.elim)
                  simp only [zbs] at this
                  rw [zF_w2 g 0 _ (zF_8 M)] at this
                  exact this
          · rw [if_neg (show ¬ (v = 1717658484 ∧ ¬ M.1 15 = 0 ∧ ¬ M.1 12 = 1) from fun hc => cT hc.1)]
            refine pass ?_ _
            rw [C98]
            unfold fz_rd_takeChunk_98
            rw [if_neg h15, if_pos (show ¬ Int32.ofNat v = (1717658484 : Int32) from fun hc => cT (iT.mp hc))]
    · obtain ⟨hh, hpk, hl⟩ := zr_at0 hv h h4
      rw [zw_short (g + 1) h.2.2.2.2.2.1 hpk rfl hl]
      have hat : fz_rd_isAtSamples S = some 0 := by
        unfold fz_rd_isAtSamples fz_rd_isAtSamples_47
        rw [hh]
        simp only [zbs]
        rw [if_pos trivial]
      have hE : zr_E s m N 0 (fun _ _ _ => False) (fz_rd_takeChunk S) (some (zz_i M 8 1)) := by
        refine Or.inr ⟨S, _, ?_, rfl, zr_f hv h⟩
        unfold fz_rd_takeChunk
        rw [hh]
        simp only [zbs]
        rw [if_neg (not_not_intro trivial)]
      have := zw_next (i := i) (f := f) (g := g) (Y := zr_Y) hE (by omega) hat (fun _ _ _ _ hc => hc.elim)
      simp only [zbs] at this
      rw [zF_w2 g 0 _ (zF_8 M)] at this
      exact this
