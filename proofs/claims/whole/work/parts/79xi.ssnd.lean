/-! Reading: "SSND" as a chunk. -/
theorem zr_ss {s m : am_Z} {N c w b : Nat} {W : Int32} (hv : zv_f s m N) (hw : w = 1 ∧ W = 8 ∧ 1 ≤ b ∧ b ≤ 8 ∨ w = 2 ∧ W = 16 ∧ 9 ≤ b ∧ b ≤ 16) {z : Nat} (hz : z < 2147483648) : ∀ (d i f g P : Nat) (S M : am_Z), i + d = c → d < f → d < g → zr s m N 1 S M P → P + d * w ≤ N → zr_d S M c i → S.1 19 = Int32.ofNat b → M.1 14 = Int32.ofNat b → (∃ S' M', fz_rd_takeSsnd_77 f W (Int32.ofNat z) (Int32.ofNat i) S = ((fz_rd_takeByteBehind S' (Int64.ofNat z)).bind fun q1 => if ¬ (q1.1 = 0 ∨ q1.1 = 1) then none else some (q1.1, q1.2)) ∧ fz_mo_readOtherData_54 g (Int32.ofNat w) (Int32.ofNat z) (Int32.ofNat i) M = fz_mo_readData_251 (Int32.ofNat z) M' ∧ zr s m N 1 S' M' (P + d * w) ∧ zr_d S' M' c c ∧ zr_sg S S' ∧ zr_mg M M') ∨ (∃ S' M', fz_rd_takeSsnd_77 f W (Int32.ofNat z) (Int32.ofNat i) S = some (0, S') ∧ fz_mo_readOtherData_54 g (Int32.ofNat w) (Int32.ofNat z) (Int32.ofNat i) M = some M' ∧ zr_F s m S' M') := by
  intro d
  induction d with
  | zero =>
    intro i f g P S M hi hf hg h hP hd h19 h14
    obtain ⟨f, rfl⟩ : ∃ g, f = g + 1 := ⟨f - 1, by omega⟩
    obtain ⟨g, rfl⟩ : ∃ f, g = f + 1 := ⟨g - 1, by omega⟩
    have hc64 := hd.1
    have e : c = i := by omega
    subst e
    have hle : Int32.ofNat c ≤ Int32.ofNat c := (nm_le (by omega) (by omega)).mpr (by omega)
    left
    refine ⟨S, M, ?_, ?_, ?_, hd, fun _ _ _ _ => rfl, fun _ _ _ => rfl⟩
    · unfold fz_rd_takeSsnd_77
      rw [hd.2.1, if_pos hle, nm_i2l hz]
    · unfold fz_mo_readOtherData_54
      rw [hd.2.2.1, if_pos hle]
      rfl
    · rw [Nat.zero_mul, Nat.add_zero]
      exact h
  | succ d ih =>
    intro i f g P S M hi hf hg h hP hd h19 h14
    obtain ⟨f, rfl⟩ : ∃ g, f = g + 1 := ⟨f - 1, by omega⟩
    obtain ⟨g, rfl⟩ : ∃ f, g = f + 1 := ⟨g - 1, by omega⟩
    rw [Nat.add_mul, Nat.one_mul] at hP ⊢
    rcases zr_s1 hv hw h (Nat.le_trans (Nat.add_le_add_left (Nat.le_add_left _ _) _) hP) (by omega) hd h19 h14 (Int32.ofNat z) f g with ⟨S1, M1, k1, k2, k3, k4, k5, k6⟩ | ⟨k1, k2⟩
    · rw [k1, k2]
      rcases ih (i + 1) f g (P + w) S1 M1 (by omega) (by omega) (by omega) k3 (by omega) k4 ((k5 19 (by omega) (by omega) (by decide)).trans h19) ((k6 14 (by omega) (by omega)).trans h14) with ⟨S', M', l1, l2, l3, l4, l5, l6⟩ | hF
      · left
        refine ⟨S', M', l1, l2, ?_, l4, zr_sg_t k5 l5, zr_mg_t k6 l6⟩
        rw [show P + (d * w + w) = P + w + d * w by omega]
        exact l3
      · exact Or.inr hF
    · right
      exact ⟨_, _, k1, k2, zr_f hv h⟩
theorem zr_ssnd {s m S M : am_Z} {N P : Nat} (hv : zv_f s m N) (h : zr s m N 1 S M P) (h4 : P + 4 ≤ N) (hid : Int32.ofNat (zn (zb s) P 4 true) = 1397968452) (hco : zr_co S M) (h20 : S.1 20 = 0) : zr_E s m N 1 (fun S' M' _ => ∃ c, zr_D S M c S' M' 0) (fz_rd_takeSsnd S) (fz_mo_readOtherData (zz_i M 7 (Int32.ofNat (P + 4)))) := by
  have eN : N ≤ 400 := hv.1
  have z1 : ¬ (1 : Int32) = 0 := by decide
  obtain ⟨c, b, r, hc, hb1, hb16, -, -, h17, -, h18, h10, h19, h14, -, -⟩ := hco
  have h1 := zr_up h h4
  have hi := zr_tid hv h h4 hid
  have key : ∀ (w : Nat) (W : Int32), (w = 1 ∧ W = 8 ∧ 1 ≤ b ∧ b ≤ 8 ∨ w = 2 ∧ W = 16 ∧ 9 ≤ b ∧ b ≤ 16) → zr_E s m N 1 (fun S' M' _ => ∃ c, zr_D S M c S' M' 0) (fz_rd_takeSsnd_16 W S) (fz_mo_readOtherData_14 (Int32.ofNat w) (zz_i M 7 (Int32.ofNat (P + 4)))) := by
    intro w W hw
    have hw2 : w ≤ 2 := by rcases hw with ⟨rfl, -⟩ | ⟨rfl, -⟩ <;> omega
    have hcw : c * w ≤ 64 * 2 := Nat.mul_le_mul hc hw2
    have eW : W / (8 : Int32) = Int32.ofNat w := by rcases hw with ⟨rfl, rfl, -⟩ | ⟨rfl, rfl, -⟩ <;> decide
    obtain ⟨z, hz⟩ : ∃ z, z = 8 + c * w := ⟨_, rfl⟩
    have ezS : (8 : Int32) + S.1 18 * (W / (8 : Int32)) = Int32.ofNat z := by
      rw [eW, h18, nm_mul, hz]
      exact nm_add 8 _
    have ezM : (8 : Int32) + Int32.ofNat w * (zz_i M 7 (Int32.ofNat (P + 4))).1 10 = Int32.ofNat z := by
      rw [show (zz_i M 7 (Int32.ofNat (P + 4))).1 10 = Int32.ofNat c from h10, nm_mul, hz, Nat.mul_comm w c]
      exact nm_add 8 _
    have D : fz_mo_readOtherData_14 (Int32.ofNat w) (zz_i M 7 (Int32.ofNat (P + 4))) = ((fz_mo_open (zz_i M 7 (Int32.ofNat (P + 4))) 1 (Int64.ofNat z) (Int64.ofNat z) (Int64.ofNat z)).bind fun q1 => (fz_mo_exact q1.2 4 1 0).bind fun q2 => (fz_mo_exact q2 4 1 0).bind fun q3 => fz_mo_readOtherData_54 fz_fu (Int32.ofNat w) q1.1 0 q3) := by
      unfold fz_mo_readOtherData_14
      rw [ezM, nm_i2l (by omega)]
    have C : fz_rd_takeSsnd_16 W S = ((fz_rd_takeSize (zz_i S 14 (Int32.ofNat (P + 4))) (Int64.ofNat z)).bind fun q2 => if q2.1 = 0 then some ((0 : Int32), q2.2) else (fz_rd_take q2.2 (4 : Int32) (0 : Int64)).bind fun q3 => if q3.1 = 0 then some ((0 : Int32), q3.2) else (fz_rd_take q3.2 (4 : Int32) (0 : Int64)).bind fun q4 => if ¬ q4.1 = 0 then fz_rd_takeSsnd_77 fz_fu W (Int32.ofNat z) (0 : Int32) q4.2 else some ((0 : Int32), q4.2)) := by
      unfold fz_rd_takeSsnd_16
      rw [h17, if_neg z1, hi]
      simp only [zbs]
      rw [if_neg z1, ezS, nm_i2l (by omega)]
    rw [C, D]
    rcases zr_sz hv h1 (x := z) (by omega) with ⟨c8, e8, a3, a4⟩ | ⟨a1, a4⟩
    · rcases zr_op hv h1 (Int64.ofNat z) (Int64.ofNat z) (Int64.ofNat z) with ⟨v, b1, -, -, -, -, b6⟩ | ⟨b1, -⟩
      · rw [← e8] at b1
        subst b1
        rw [zz_ii] at b6 a4
        have h2 := zr_up h (Q := P + 4 + 4) (by omega)
        rw [a4, b6]
        simp only [zbs]
        rw [if_neg z1]
        obtain ⟨S2, hS2⟩ : ∃ Z, Z = zz_i S 14 (Int32.ofNat (P + 4 + 4)) := ⟨_, rfl⟩
        obtain ⟨M2, hM2⟩ : ∃ Z, Z = zz_i M 7 (Int32.ofNat (P + 4 + 4)) := ⟨_, rfl⟩
        rw [← hS2, ← hM2] at h2 ⊢
        rcases zr_take hv h2 (n := 4) (by omega) 1 rfl 0 with ⟨c0, -, c3, c4, c5⟩ | ⟨-, c3, c4⟩
        · have c3' : fz_rd_take S2 4 0 = some (1, zz_i S2 14 (Int32.ofNat (P + 4 + 4 + 4))) := c3
          have c4' : fz_mo_exact M2 4 1 0 = some (zz_i M2 7 (Int32.ofNat (P + 4 + 4 + 4))) := c4
          rw [c3', c4']
          simp only [zbs]
          rw [if_neg z1]
          rcases zr_take hv c5 (n := 4) (by omega) 1 rfl 0 with ⟨d0, -, d3, d4, d5⟩ | ⟨-, d3, d4⟩
          · have d3' : fz_rd_take (zz_i S2 14 (Int32.ofNat (P + 4 + 4 + 4))) 4 0 = some (1, zz_i (zz_i S2 14 (Int32.ofNat (P + 4 + 4 + 4))) 14 (Int32.ofNat (P + 4 + 4 + 4 + 4))) := d3
            have d4' : fz_mo_exact (zz_i M2 7 (Int32.ofNat (P + 4 + 4 + 4))) 4 1 0 = some (zz_i (zz_i M2 7 (Int32.ofNat (P + 4 + 4 + 4))) 7 (Int32.ofNat (P + 4 + 4 + 4 + 4))) := d4
            obtain ⟨S3, hS3⟩ : ∃ Z, Z = zz_i (zz_i S2 14 (Int32.ofNat (P + 4 + 4 + 4))) 14 (Int32.ofNat (P + 4 + 4 + 4 + 4)) := ⟨_, rfl⟩
            obtain ⟨M3, hM3⟩ : ∃ Z, Z = zz_i (zz_i M2 7 (Int32.ofNat (P + 4 + 4 + 4))) 7 (Int32.ofNat (P + 4 + 4 + 4 + 4)) := ⟨_, rfl⟩
            rw [← hS3] at d3' d5
            rw [← hM3] at d4' d5
            rw [d3', d4']
            simp only [zbs]
            rw [if_pos z1]
            have s20 : S3.1 20 = 0 := by rw [hS3, hS2]; exact h20
            have hd0 : zr_d S3 M3 c 0 := ⟨hc, by rw [hS3, hS2]; exact h18, by rw [hM3, hM2]; exact h10, by rw [s20, Nat.zero_min]; rfl, fun j hj => by rw [Nat.zero_min] at hj; exact absurd hj (Nat.not_lt_zero j)⟩
            have f1 : zr_sg S S3 := by
              intro j j1 j2 j3
              rw [hS3, hS2]
              show zz_u (zz_u (zz_u S.1 14 _) 14 _) 14 _ j = _
              rw [zz_u_n _ _ (by omega), zz_u_n _ _ (by omega), zz_u_n _ _ (by omega)]
            have f2 : zr_mg M M3 := by
              intro j j1 j2
              rw [hM3, hM2]
              show zz_u (zz_u (zz_u M.1 7 _) 7 _) 7 _ j = _
              rw [zz_u_n _ _ (by omega), zz_u_n _ _ (by omega), zz_u_n _ _ (by omega)]
            have ss := zr_ss hv hw (z := v) (by omega) c 0 fz_fu fz_fu (P + 4 + 4 + 4 + 4) S3 M3 (by omega) (by show c < 1000; omega) (by show c < 1000; omega) d5 (by omega) hd0 (by rw [hS3, hS2]; exact h19) (by rw [hM3, hM2]; exact h14)
            rcases ss with ⟨S', M', l1, l2, l3, l4, l5, l6⟩ | ⟨S', M', l1, l2, l3⟩
            · obtain ⟨k, Z, g1, g2, g3⟩ := zr_end (S := S) (M := M) hv l3 (z := v) (by omega) l4 (zr_sg_t f1 l5) (zr_mg_t f2 l6)
              have l1' : fz_rd_takeSsnd_77 fz_fu W (Int32.ofNat v) 0 S3 = some (k, Z) := by
                refine Eq.trans l1 ?_
                rw [g1]
                simp only [zbs]
                rw [if_neg (not_not_intro g2)]
              have l2' : fz_mo_readOtherData_54 fz_fu (Int32.ofNat w) (Int32.ofNat v) 0 M3 = fz_mo_readData_251 (Int32.ofNat v) M' := l2
              rw [l1', l2']
              rcases g3 with ⟨S4, M4, P4, m1, m2, m3, m4⟩ | hF
              · exact Or.inl ⟨S4, M4, P4, m1, m2, m3, c, m4⟩
              · exact Or.inr hF
            · right
              exact ⟨S', M', l1, l2, l3⟩
          · right
            have d3' : fz_rd_take (zz_i S2 14 (Int32.ofNat (P + 4 + 4 + 4))) 4 0 = some (0, zz_i S2 14 (Int32.ofNat (P + 4 + 4 + 4))) := d3
            have d4' : fz_mo_exact (zz_i M2 7 (Int32.ofNat (P + 4 + 4 + 4))) 4 1 0 = some (zz_i (zz_i M2 7 (Int32.ofNat (P + 4 + 4 + 4))) 8 1) := d4
            rw [d3', d4']
            simp only [zbs]
            refine ⟨_, _, ?_, zF_54 999 _ _ _ _, zr_f hv c5⟩
            rw [if_neg (not_not_intro trivial)]
        · right
          have c3' : fz_rd_take S2 4 0 = some (0, S2) := c3
          have c4' : fz_mo_exact M2 4 1 0 = some (zz_i M2 8 1) := c4
          rw [c3', c4']
          simp only [zbs]
          rw [zF_exact]
          simp only [zbs]
          refine ⟨_, _, ?_, zF_54 999 _ _ _ _, zr_f hv h2⟩
          rw [if_pos trivial]
      · exact absurd ⟨c8, Or.inl (by rw [← e8]), by rw [← e8]; exact a3⟩ b1
    · right
      rw [a4]
      simp only [zbs]
      rcases zr_op hv h1 (Int64.ofNat z) (Int64.ofNat z) (Int64.ofNat z) with ⟨v, b1, b2, b3, b4, b5, -⟩ | ⟨-, b6⟩
      · exfalso
        have e : v = z := by
          rcases b4 with b4 | b4 | b4 <;> exact (nm_jinj (by omega) (by omega)).mp b4
        subst e
        exact a1 ⟨b3, b1, b5⟩
      · rw [b6]
        simp only [zbs]
        rw [zF_exact]
        simp only [zbs]
        rw [zF_exact]
        simp only [zbs]
        refine ⟨_, _, ?_, zF_54 999 _ _ _ _, zr_f hv h1⟩
        rw [if_pos trivial]
  unfold fz_rd_takeSsnd fz_mo_readOtherData
  rw [h19, show (zz_i M 7 (Int32.ofNat (P + 4))).1 14 = Int32.ofNat b from h14]
  by_cases cb : b ≤ 8
  · have q1 : ¬ (8 : Int32) < Int32.ofNat b := fun hh => by
      have := (nm_lt (a := 8) (b := b) (by omega) (by omega)).mp hh
      omega
    have q2 : Int32.ofNat b ≤ (8 : Int32) := (nm_le (a := b) (b := 8) (by omega) (by omega)).mpr cb
    rw [if_neg q1, if_pos q2]
    exact key 1 8 (Or.inl ⟨rfl, rfl, hb1, cb⟩)
  · have q1 : (8 : Int32) < Int32.ofNat b := (nm_lt (a := 8) (b := b) (by omega) (by omega)).mpr (by omega)
    have q2 : ¬ Int32.ofNat b ≤ (8 : Int32) := fun hh => cb ((nm_le (a := b) (b := 8) (by omega) (by omega)).mp hh)
    rw [if_pos q1, if_neg q2]
    exact key 2 16 (Or.inr ⟨rfl, rfl, by omega, hb16⟩)
