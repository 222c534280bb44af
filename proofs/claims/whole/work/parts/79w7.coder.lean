/-! Writing: the coders of both (printed by wip/gen/genW7.py). -/
theorem zz_ii (s : am_Z) (i : Nat) (y v : Int32) : zz_i (zz_i s i y) i v = zz_i s i v := by
  unfold zz_i
  refine Prod.ext ?_ rfl
  funext j
  show zz_u (zz_u s.1 i y) i v j = zz_u s.1 i v j
  by_cases h : j = i
  · subst h
    rw [zz_u_s, zz_u_s]
  · rw [zz_u_n _ _ h, zz_u_n _ _ h, zz_u_n _ _ h]
def zs_cl (y : Int32) : Int32 := if (-32768 : Int32) ≤ y then if y ≤ (32767 : Int32) then y else 32767 else -32768
theorem zs_cl_m (y : Int32) : fz_mo_clip y = some (zs_cl y) := by
  unfold fz_mo_clip zs_cl
  by_cases h1 : (-32768 : Int32) ≤ y
  · by_cases h2 : y ≤ (32767 : Int32)
    · rw [if_pos h1, if_pos h2, if_pos h1, if_pos h2]
    · rw [if_pos h1, if_neg h2, if_pos h1, if_neg h2]
  · rw [if_neg h1, if_neg h1]
theorem zs_cl_s (y : Int32) : fz_sh_limit y (-32768 : Int32) (32767 : Int32) = some (zs_cl y) := by
  unfold fz_sh_limit zs_cl
  by_cases h1 : (-32768 : Int32) ≤ y
  · by_cases h2 : y ≤ (32767 : Int32)
    · rw [if_pos h1, if_pos h2, if_pos h1, if_pos h2]
    · rw [if_pos h1, if_neg h2, if_pos h1, if_neg h2]
  · rw [if_neg h1, if_neg h1]
theorem zs_cl_le (y : Int32) : -32768 ≤ (zs_cl y).toInt ∧ (zs_cl y).toInt ≤ 32767 := by
  have a1 : (-32768 : Int32).toInt = -32768 := by decide
  have a2 : (32767 : Int32).toInt = 32767 := by decide
  unfold zs_cl
  by_cases h1 : (-32768 : Int32) ≤ y
  · rw [if_pos h1]
    by_cases h2 : y ≤ (32767 : Int32)
    · rw [if_pos h2]
      rw [Int32.le_iff_toInt_le] at h1 h2
      omega
    · rw [if_neg h2, a2]
      omega
  · rw [if_neg h1, a1]
    omega
/-- how far -/
def zs_a (y : Int32) : Int32 := if 0 ≤ y then y else -y
theorem zs_a_s (y : Int32) : fz_ma_abs y = some (zs_a y) := by
  unfold fz_ma_abs zs_a
  by_cases h : 0 ≤ y
  · rw [if_pos h, if_pos h]
  · rw [if_neg h, if_neg h]
theorem zs_a_m (s : am_Z) (x y : Int32) : fz_mo_distance_18 s x y = some (zs_a (y - x)) := by
  unfold fz_mo_distance_18 zs_a
  by_cases h : 0 ≤ y - x
  · rw [if_pos h, if_pos h]
  · rw [if_neg h, if_neg h]
theorem zs_ab {a b : Int32} (a1 : -32768 ≤ a.toInt) (a2 : a.toInt ≤ 32767) (b1 : -32768 ≤ b.toInt) (b2 : b.toInt ≤ 32767) : ∃ d : Nat, d ≤ 65535 ∧ zs_a (a - b) = Int32.ofNat d := by
  have e : (a - b).toInt = a.toInt - b.toInt := by
    rw [Int32.toInt_sub]
    exact Int.bmod_eq_of_le (by omega) (by omega)
  have e0 : (0 : Int32).toInt = 0 := rfl
  unfold zs_a
  rcases nm_cases (a - b) with c | ⟨k, hk, ek⟩
  · rw [if_neg (fun h => ((nm_nlt (a - b) 0).mpr h) c)]
    have e2 : (-(a - b)).toInt = b.toInt - a.toInt := by
      rw [Int32.toInt_neg, e, Int.bmod_eq_of_le (by omega) (by omega)]
      omega
    rw [Int32.lt_iff_toInt_lt, e, e0] at c
    rcases nm_cases (-(a - b)) with c2 | ⟨k, hk, ek⟩
    · rw [Int32.lt_iff_toInt_lt, e2, e0] at c2
      omega
    · refine ⟨k, ?_, ek⟩
      rw [ek, nm_toInt hk] at e2
      omega
  · have h0 : 0 ≤ a - b := by
      rw [ek]
      exact (nm_nlt _ _).mp (nm_nneg hk)
    rw [if_pos h0]
    refine ⟨k, ?_, ek⟩
    rw [ek, nm_toInt hk] at e
    omega
/-- the nearest of 16 -/
def zs_nb (Q : Nat → Int32) (x : Int32) : Nat → Nat → Nat → Nat
  | 0, _, b => b
  | d + 1, k, b => zs_nb Q x d (k + 1) (if zs_a (Q b - x) ≤ zs_a (Q k - x) then b else k)
theorem zs_nb_lt (Q : Nat → Int32) (x : Int32) : ∀ (d k b : Nat), k + d ≤ 16 → b < 16 → zs_nb Q x d k b < 16 := by
  intro d
  induction d with
  | zero => intro k b _ hb; exact hb
  | succ d ih =>
    intro k b hk hb
    show zs_nb Q x d (k + 1) (if zs_a (Q b - x) ≤ zs_a (Q k - x) then b else k) < 16
    refine ih _ _ (by omega) ?_
    by_cases c : zs_a (Q b - x) ≤ zs_a (Q k - x)
    · rw [if_pos c]; exact hb
    · rw [if_neg c]; omega
theorem zs_nb_m {m : am_Z} {Q : Nat → Int32} {y x : Int32} (hQ : ∀ k, k < 16 → fz_mo_distance m (Int32.ofNat k) y x = some (zs_a (Q k - x))) : ∀ (d k f b : Nat), k + d = 16 → d < f → b < 16 → fz_mo_nearest_5 m f y x (Int32.ofNat b) (Int32.ofNat k) = some (Int32.ofNat (zs_nb Q x d k b)) := by
  intro d
  induction d with
  | zero =>
    intro k f b hk hf hb
    obtain ⟨f, rfl⟩ : ∃ g, f = g + 1 := ⟨f - 1, by omega⟩
    have : k = 16 := by omega
    subst this
    unfold fz_mo_nearest_5
    rw [if_pos (show (16 : Int32) ≤ Int32.ofNat 16 by decide)]
    rfl
  | succ d ih =>
    intro k f b hk hf hb
    obtain ⟨f, rfl⟩ : ∃ g, f = g + 1 := ⟨f - 1, by omega⟩
    have e1 : Int32.ofNat k + (1 : Int32) = Int32.ofNat (k + 1) := nm_add k 1
    have h16 : ¬ (16 : Int32) ≤ Int32.ofNat k := by
      rw [show (16 : Int32) = Int32.ofNat 16 from rfl, nm_le (by omega) (by omega)]
      omega
    unfold fz_mo_nearest_5
    rw [if_neg h16, hQ k (by omega)]
    simp only [zbs]
    rw [hQ b hb]
    simp only [zbs]
    show _ = some (Int32.ofNat (zs_nb Q x d (k + 1) (if zs_a (Q b - x) ≤ zs_a (Q k - x) then b else k)))
    by_cases c : zs_a (Q b - x) ≤ zs_a (Q k - x)
    · rw [if_pos c, if_pos c]
      unfold fz_mo_nearest_36
      rw [e1, ih (k + 1) f b (by omega) (by omega) hb]
    · rw [if_neg c, if_neg c]
      unfold fz_mo_nearest_36
      rw [e1, ih (k + 1) f k (by omega) (by omega) (by omega)]
def zs_near (Q : Nat → Int32) (x : Int32) : Nat := zs_nb Q x 15 1 0
theorem zs_near_lt (Q : Nat → Int32) (x : Int32) : zs_near Q x < 16 := zs_nb_lt Q x 15 1 0 (by omega) (by omega)
theorem zs_near_m {m : am_Z} {Q : Nat → Int32} {y x : Int32} (hQ : ∀ k, k < 16 → fz_mo_distance m (Int32.ofNat k) y x = some (zs_a (Q k - x))) : fz_mo_nearest m y x = some (Int32.ofNat (zs_near Q x)) := by
  have h : fz_mo_nearest_5 m fz_fu y x 0 1 = some (Int32.ofNat (zs_nb Q x 15 1 0)) := zs_nb_m hQ 15 1 fz_fu 0 (by omega) (by show 15 < 1000; omega) (by omega)
  unfold fz_mo_nearest zs_near
  exact h
/-- what stays -/
def zkc (s S : am_Z) : Prop := (∀ i, i < 8 ∨ 13 < i → S.1 i = s.1 i) ∧ S.2.1 = s.2.1 ∧ ∀ r, r ≠ 2 → S.2.2 r = s.2.2 r
def zkm (m M : am_Z) : Prop := (∀ i, i < 17 ∨ 20 < i → M.1 i = m.1 i) ∧ M.2.1 = m.2.1 ∧ ∀ r, r ≠ 3 → M.2.2 r = m.2.2 r
theorem zk_refl (s : am_Z) : zkc s s := ⟨fun _ _ => rfl, rfl, fun _ _ => rfl⟩
theorem zkm_refl (s : am_Z) : zkm s s := ⟨fun _ _ => rfl, rfl, fun _ _ => rfl⟩
theorem zk_t {a b c : am_Z} (h : zkc a b) (g : zkc b c) : zkc a c := ⟨fun i hi => (g.1 i hi).trans (h.1 i hi), g.2.1.trans h.2.1, fun r hr => (g.2.2 r hr).trans (h.2.2 r hr)⟩
theorem zkm_t {a b c : am_Z} (h : zkm a b) (g : zkm b c) : zkm a c := ⟨fun i hi => (g.1 i hi).trans (h.1 i hi), g.2.1.trans h.2.1, fun r hr => (g.2.2 r hr).trans (h.2.2 r hr)⟩
theorem zk_1 {s S : am_Z} {g : Nat → Int32} (h : S.2 = (zz_r s 2 g).2) (hi : ∀ i, i < 8 ∨ 13 < i → S.1 i = (zz_r s 2 g).1 i) : zkc s S := by
  refine ⟨hi, ?_, fun r hr => ?_⟩
  · rw [h]
    rfl
  · rw [h]
    show zz_u s.2.2 2 g r = _
    exact zz_u_n _ _ hr
theorem zkm_1 {s S : am_Z} {g : Nat → Int32} (h : S.2 = (zz_r s 3 g).2) (hi : ∀ i, i < 17 ∨ 20 < i → S.1 i = (zz_r s 3 g).1 i) : zkm s S := by
  refine ⟨hi, ?_, fun r hr => ?_⟩
  · rw [h]
    rfl
  · rw [h]
    show zz_u s.2.2 3 g r = _
    exact zz_u_n _ _ hr
/-- both files side by side: the coders leave them alone -/
theorem zx_k {s m S M S' M' : am_Z} {n : Nat} {V : List Int32} (h : zx s m S M n V) (hk : zkc S S') (hm : zkm M M') : zx s m S' M' n V := by
  obtain ⟨hn, h1, h2, h3, ⟨a0, a1, a2, a3⟩, ⟨b0, b1, b2, b3⟩, h0⟩ := h
  obtain ⟨k1, -, k3⟩ := hk
  obtain ⟨l1, -, l3⟩ := hm
  refine ⟨hn, ?_, ?_, fun i hi => ?_, ⟨?_, ?_, ?_, ?_⟩, ⟨?_, ?_, ?_, ?_⟩, ?_⟩
  · rw [k1 3 (by omega)]; exact h1
  · rw [l1 4 (by omega)]; exact h2
  · rw [k3 1 (by decide), l3 1 (by decide)]; exact h3 i hi
  · rw [k1 0 (by omega)]; exact a0
  · rw [k1 1 (by omega)]; exact a1
  · rw [k1 2 (by omega)]; exact a2
  · rw [k3 0 (by decide)]; exact a3
  · rw [l1 6 (by omega)]; exact b0
  · rw [l1 1 (by omega)]; exact b1
  · rw [l1 3 (by omega)]; exact b2
  · rw [l3 0 (by decide)]; exact b3
  · rw [l1 0 (by omega)]; exact h0
theorem zs_us (f : Nat → Int32) (j : Nat) (v : Int32) : upd f j v j = v := by simp [upd]
theorem zs_un (f : Nat → Int32) {i j : Nat} (v : Int32) (h : i < j) : upd f j v i = f i := by
  unfold upd
  rw [if_neg (by omega)]
/-- the rows of nibbles -/
def zs_rw (s m : am_Z) (j : Nat) : Prop := ∀ i, i < j → ∃ b : Nat, b < 16 ∧ s.2.2 2 i = Int32.ofNat b ∧ m.2.2 3 i = Int32.ofNat b
theorem zs_rw1 {s m S M : am_Z} {j k : Nat} {F G : Nat → Int32} (h : zs_rw s m j) (hk : k < 16) (hS : S.2 = (zz_r s 2 F).2) (hM : M.2 = (zz_r m 3 G).2) (hF : ∀ i, i < j → F i = s.2.2 2 i) (hG : ∀ i, i < j → G i = m.2.2 3 i) (hFj : F j = Int32.ofNat k) (hGj : G j = Int32.ofNat k) : zs_rw S M (j + 1) := by
  intro i hi
  have eS : S.2.2 2 = F := by
    rw [hS]
    show zz_u s.2.2 2 F 2 = F
    exact zz_u_s _ _ _
  have eM : M.2.2 3 = G := by
    rw [hM]
    show zz_u m.2.2 3 G 3 = G
    exact zz_u_s _ _ _
  rw [eS, eM]
  by_cases c : i < j
  · rw [hF i c, hG i c]
    exact h i c
  · have : i = j := by omega
    subst this
    exact ⟨k, hk, hFj, hGj⟩
/-- steps -/
theorem zs_step : ∀ i : Fin 89, fz_mo_step (Int32.ofNat i.1) = some (am_vSTEPS.getD i.1 0) := by decide +kernel
def zs_d (st k : Int32) : Int32 := (((st >>> ((3 : Int32) &&& 31)) + ((k &&& (1 : Int32)) * (st >>> ((2 : Int32) &&& 31)))) + (((k >>> ((1 : Int32) &&& 31)) &&& (1 : Int32)) * (st >>> ((1 : Int32) &&& 31)))) + (((k >>> ((2 : Int32) &&& 31)) &&& (1 : Int32)) * st)
def zs_Q (c : Int32 × Nat) (k : Nat) : Int32 := zs_cl (if 8 ≤ k then c.1 - zs_d (am_vSTEPS.getD c.2 0) (Int32.ofNat k) else c.1 + zs_d (am_vSTEPS.getD c.2 0) (Int32.ofNat k))
theorem zs_bits : ∀ k : Fin 16, ((Int32.ofNat k.1 &&& (1 : Int32)) = 0 ∧ (Int32.ofNat k.1 &&& (1 : Int32)) = 0 ∨ ¬ (Int32.ofNat k.1 &&& (1 : Int32)) = 0 ∧ (Int32.ofNat k.1 &&& (1 : Int32)) = 1) ∧ ((Int32.ofNat k.1 &&& (2 : Int32)) = 0 ∧ ((Int32.ofNat k.1 >>> ((1 : Int32) &&& 31)) &&& (1 : Int32)) = 0 ∨ ¬ (Int32.ofNat k.1 &&& (2 : Int32)) = 0 ∧ ((Int32.ofNat k.1 >>> ((1 : Int32) &&& 31)) &&& (1 : Int32)) = 1) ∧ ((Int32.ofNat k.1 &&& (4 : Int32)) = 0 ∧ ((Int32.ofNat k.1 >>> ((2 : Int32) &&& 31)) &&& (1 : Int32)) = 0 ∨ ¬ (Int32.ofNat k.1 &&& (4 : Int32)) = 0 ∧ ((Int32.ofNat k.1 >>> ((2 : Int32) &&& 31)) &&& (1 : Int32)) = 1) ∧ ((Int32.ofNat k.1 &&& (8 : Int32)) = 0 ∧ ¬ 8 ≤ k.1 ∨ ¬ (Int32.ofNat k.1 &&& (8 : Int32)) = 0 ∧ 8 ≤ k.1) := by decide +kernel
def zs_l (y : Int32) : Int32 := if 0 ≤ y then if y ≤ (88 : Int32) then y else 88 else 0
def zs_i (i k : Nat) : Nat := if 4 ≤ k % 8 then (if i + 2 * (k % 8) - 6 ≤ 88 then i + 2 * (k % 8) - 6 else 88) else i - 1
theorem zs_i_lt {i k : Nat} (hi : i < 89) : zs_i i k < 89 := by
  unfold zs_i
  by_cases c : 4 ≤ k % 8
  · rw [if_pos c]
    by_cases c2 : i + 2 * (k % 8) - 6 ≤ 88
    · rw [if_pos c2]; omega
    · rw [if_neg c2]; omega
  · rw [if_neg c]; omega
theorem zs_idx : ∀ i : Fin 89, ∀ k : Fin 16, fz_sh_limit (Int32.ofNat i.1 + (am_vINDEXCHANGES.getD (Int32.toNatClampNeg (Int32.ofNat k.1 &&& (7 : Int32))) 0)) (0 : Int32) (88 : Int32) = some (Int32.ofNat (zs_i i.1 k.1)) := by decide +kernel
theorem zs_idm : ∀ i : Fin 89, ∀ k : Fin 16, (if (4 : Int32) ≤ (Int32.ofNat k.1 - Int32.ofNat k.1 / (8 : Int32) * (8 : Int32)) then zs_l ((Int32.ofNat i.1 + ((2 : Int32) * (Int32.ofNat k.1 - Int32.ofNat k.1 / (8 : Int32) * (8 : Int32)))) - (6 : Int32)) else zs_l (Int32.ofNat i.1 - (1 : Int32))) = Int32.ofNat (zs_i i.1 k.1) := by decide +kernel
theorem zs_and7 : ∀ k : Fin 16, ¬ ((Int32.ofNat k.1 &&& (7 : Int32)) < 0 ∨ 8 ≤ Int32.toNatClampNeg (Int32.ofNat k.1 &&& (7 : Int32))) := by decide +kernel
def zs_N (c : Int32 × Nat) (k : Nat) : Int32 × Nat := (zs_Q c k, zs_i c.2 k)
theorem zs_Q_le (c : Int32 × Nat) (k : Nat) : -32768 ≤ (zs_Q c k).toInt ∧ (zs_Q c k).toInt ≤ 32767 := zs_cl_le _
def zs_em (x : Int32) (m : am_Z) (c : Int32 × Nat) : Prop := x = -1 ∧ m.1 17 = c.1 ∧ m.1 19 = Int32.ofNat c.2 ∧ c.2 < 89
theorem zs_st_m {m : am_Z} {x : Int32} {c : Int32 × Nat} (h : zs_em x m c) {k : Nat} (hk : k < 16) : fz_mo_stepped m (Int32.ofNat k) = some (zs_Q c k) := by
  obtain ⟨-, h17, h19, hi⟩ := h
  have hst : fz_mo_step (Int32.ofNat c.2) = some (am_vSTEPS.getD c.2 0) := zs_step ⟨c.2, hi⟩
  unfold fz_mo_stepped fz_mo_stepped_59
  rw [h19, hst]
  simp only [zbs]
  rw [h17]
  unfold zs_Q
  by_cases c8 : 8 ≤ k
  · have h8 : (8 : Int32) ≤ Int32.ofNat k := (nm_le (a := 8) (by omega) (by omega)).mpr c8
    rw [if_pos h8, if_pos c8, zs_cl_m]
    simp only [zbs]
    unfold zs_d
    rfl
  · have h8 : ¬ (8 : Int32) ≤ Int32.ofNat k := fun h => c8 ((nm_le (a := 8) (by omega) (by omega)).mp h)
    rw [if_neg h8, if_neg c8, zs_cl_m]
    simp only [zbs]
    unfold zs_d
    rfl
theorem zs_di_m {m : am_Z} {x : Int32} {c : Int32 × Nat} (h : zs_em x m c) {k : Nat} (hk : k < 16) (v : Int32) : fz_mo_distance m (Int32.ofNat k) x v = some (zs_a (zs_Q c k - v)) := by
  have hx : ¬ 0 ≤ x := by rw [h.1]; decide
  unfold fz_mo_distance
  rw [if_neg hx, zs_st_m h hk]
  simp only [zbs]
  rw [zs_a_m]
theorem zs_40 (y : Int32) (s : am_Z) : fz_mo_goStepped_40 y s = some (zz_i s 19 (zs_l y)) := by
  unfold fz_mo_goStepped_40 fz_mo_goStepped_73 zs_l
  by_cases h1 : 0 ≤ y
  · by_cases h2 : y ≤ (88 : Int32)
    · rw [if_pos h1, if_pos h2, if_pos h1, if_pos h2, zz_ii]
    · rw [if_pos h1, if_neg h2, if_pos h1, if_neg h2, zz_ii]
  · rw [if_neg h1, if_neg h1, zz_ii]
theorem zs_go_m {m : am_Z} {x : Int32} {c : Int32 × Nat} (h : zs_em x m c) {k : Nat} (hk : k < 16) : ∃ M : am_Z, fz_mo_goStepped m (Int32.ofNat k) = some M ∧ zs_em x M (zs_N c k) ∧ M.2 = m.2 ∧ ∀ i, i < 17 ∨ 20 < i → M.1 i = m.1 i := by
  obtain ⟨hx, h17, h19, hi⟩ := id h
  have hid := zs_idm ⟨c.2, hi⟩ ⟨k, hk⟩
  refine ⟨zz_i (zz_i m 17 (zs_Q c k)) 19 (Int32.ofNat (zs_i c.2 k)), ?_, ⟨hx, rfl, rfl, zs_i_lt hi⟩, rfl, fun i hi => ?_⟩
  · unfold fz_mo_goStepped
    rw [zs_st_m h hk]
    simp only [zbs]
    rw [h19, zs_40, zs_40]
    rw [show Int32.ofNat (zs_i c.2 k) = _ from hid.symm]
    by_cases c4 : (4 : Int32) ≤ (Int32.ofNat k - Int32.ofNat k / (8 : Int32) * (8 : Int32))
    · rw [if_pos c4, if_pos c4]
    · rw [if_neg c4, if_neg c4]
  · show zz_u (zz_u m.1 17 _) 19 _ i = m.1 i
    rw [zz_u_n _ _ (by omega), zz_u_n _ _ (by omega)]
def zs_es7 (s : am_Z) (c : Int32 × Nat) : Prop := s.1 8 = c.1 ∧ s.1 9 = Int32.ofNat c.2 ∧ c.2 < 89
theorem zs_25_7 {s : am_Z} {x1 e : Int32} (x2 x3 : Int32) (h : (x1 &&& (2 : Int32)) = 0 ∧ e = 0 ∨ ¬ (x1 &&& (2 : Int32)) = 0 ∧ e = 1) : fz_sp_next_7_25 s x1 x2 x3 = fz_sp_next_7_37 s x1 x2 (x3 + e * (x2 >>> ((1 : Int32) &&& 31))) := by
  unfold fz_sp_next_7_25
  rcases h with ⟨a, rfl⟩ | ⟨a, rfl⟩
  · rw [if_pos a, Int32.zero_mul, Int32.add_zero]
  · rw [if_neg a, Int32.one_mul]
theorem zs_37_7 {s : am_Z} {x1 e : Int32} (x2 x3 : Int32) (h : (x1 &&& (4 : Int32)) = 0 ∧ e = 0 ∨ ¬ (x1 &&& (4 : Int32)) = 0 ∧ e = 1) : fz_sp_next_7_37 s x1 x2 x3 = fz_sp_next_7_47 s x1 (x3 + e * x2) := by
  unfold fz_sp_next_7_37
  rcases h with ⟨a, rfl⟩ | ⟨a, rfl⟩
  · rw [if_pos a, Int32.zero_mul, Int32.add_zero]
  · rw [if_neg a, Int32.one_mul]
theorem zs_47_7 {s : am_Z} {x1 : Int32} (x3 : Int32) {k : Nat} (h : (x1 &&& (8 : Int32)) = 0 ∧ ¬ 8 ≤ k ∨ ¬ (x1 &&& (8 : Int32)) = 0 ∧ 8 ≤ k) : fz_sp_next_7_47 s x1 x3 = some (zs_cl (if 8 ≤ k then s.1 8 - x3 else s.1 8 + x3)) := by
  unfold fz_sp_next_7_47 fz_sp_next_7_69
  rcases h with ⟨a, b⟩ | ⟨a, b⟩
  · rw [if_pos a, if_neg b, zs_cl_s]
    simp only [zbs]
  · rw [if_neg a, if_pos b, zs_cl_s]
    simp only [zbs]
theorem zs_nx7 {s : am_Z} {c : Int32 × Nat} (h : zs_es7 s c) {k : Nat} (hk : k < 16) : fz_sp_next_7 s (Int32.ofNat k) = some (zs_Q c k) := by
  obtain ⟨hp, hix, hi⟩ := h
  obtain ⟨b1, b2, b3, b4⟩ := zs_bits ⟨k, hk⟩
  have hr : ¬ (Int32.ofNat c.2 < 0 ∨ 89 ≤ c.2) := fun h => h.elim (nm_nneg (by omega)) (by omega)
  unfold fz_sp_next_7
  rw [hix, nm_clamp (by omega), if_neg hr]
  unfold zs_Q zs_d
  rw [← hp]
  rcases b1 with ⟨b1, b1'⟩ | ⟨b1, b1'⟩
  · rw [if_pos b1, zs_25_7 _ _ b2, zs_37_7 _ _ b3, zs_47_7 _ b4, b1', Int32.zero_mul, Int32.add_zero]
  · rw [if_neg b1, zs_25_7 _ _ b2, zs_37_7 _ _ b3, zs_47_7 _ b4, b1', Int32.one_mul]
theorem zs_ac7 {s : am_Z} {c : Int32 × Nat} (h : zs_es7 s c) {k : Nat} (hk : k < 16) : ∃ S : am_Z, fz_sp_accept_7 s (Int32.ofNat k) (zs_Q c k) = some S ∧ zs_es7 S (zs_N c k) ∧ S.2 = s.2 ∧ ∀ i, i < 8 ∨ 9 < i → S.1 i = s.1 i := by
  obtain ⟨hp, hix, hi⟩ := h
  have hid : fz_sh_limit (Int32.ofNat c.2 + (am_vINDEXCHANGES.getD (Int32.toNatClampNeg (Int32.ofNat k &&& (7 : Int32))) 0)) (0 : Int32) (88 : Int32) = some (Int32.ofNat (zs_i c.2 k)) := zs_idx ⟨c.2, hi⟩ ⟨k, hk⟩
  refine ⟨zz_i (zz_i s 8 (zs_Q c k)) 9 (Int32.ofNat (zs_i c.2 k)), ?_, ⟨rfl, rfl, zs_i_lt hi⟩, rfl, fun i hi => ?_⟩
  · unfold fz_sp_accept_7
    rw [if_neg (zs_and7 ⟨k, hk⟩), hix, hid]
    simp only [zbs]
  · show zz_u (zz_u s.1 8 _) 9 _ i = s.1 i
    rw [zz_u_n _ _ (by omega), zz_u_n _ _ (by omega)]
def zs_es14 (s : am_Z) (c : Int32 × Nat) : Prop := s.1 26 = c.1 ∧ s.1 27 = Int32.ofNat c.2 ∧ c.2 < 89
theorem zs_25_14 {s : am_Z} {x1 e : Int32} (x2 x3 : Int32) (h : (x1 &&& (2 : Int32)) = 0 ∧ e = 0 ∨ ¬ (x1 &&& (2 : Int32)) = 0 ∧ e = 1) : fz_sp_next_14_25 s x1 x2 x3 = fz_sp_next_14_37 s x1 x2 (x3 + e * (x2 >>> ((1 : Int32) &&& 31))) := by
  unfold fz_sp_next_14_25
  rcases h with ⟨a, rfl⟩ | ⟨a, rfl⟩
  · rw [if_pos a, Int32.zero_mul, Int32.add_zero]
  · rw [if_neg a, Int32.one_mul]
theorem zs_37_14 {s : am_Z} {x1 e : Int32} (x2 x3 : Int32) (h : (x1 &&& (4 : Int32)) = 0 ∧ e = 0 ∨ ¬ (x1 &&& (4 : Int32)) = 0 ∧ e = 1) : fz_sp_next_14_37 s x1 x2 x3 = fz_sp_next_14_47 s x1 (x3 + e * x2) := by
  unfold fz_sp_next_14_37
  rcases h with ⟨a, rfl⟩ | ⟨a, rfl⟩
  · rw [if_pos a, Int32.zero_mul, Int32.add_zero]
  · rw [if_neg a, Int32.one_mul]
theorem zs_47_14 {s : am_Z} {x1 : Int32} (x3 : Int32) {k : Nat} (h : (x1 &&& (8 : Int32)) = 0 ∧ ¬ 8 ≤ k ∨ ¬ (x1 &&& (8 : Int32)) = 0 ∧ 8 ≤ k) : fz_sp_next_14_47 s x1 x3 = some (zs_cl (if 8 ≤ k then s.1 26 - x3 else s.1 26 + x3)) := by
  unfold fz_sp_next_14_47 fz_sp_next_14_69
  rcases h with ⟨a, b⟩ | ⟨a, b⟩
  · rw [if_pos a, if_neg b, zs_cl_s]
    simp only [zbs]
  · rw [if_neg a, if_pos b, zs_cl_s]
    simp only [zbs]
theorem zs_nx14 {s : am_Z} {c : Int32 × Nat} (h : zs_es14 s c) {k : Nat} (hk : k < 16) : fz_sp_next_14 s (Int32.ofNat k) = some (zs_Q c k) := by
  obtain ⟨hp, hix, hi⟩ := h
  obtain ⟨b1, b2, b3, b4⟩ := zs_bits ⟨k, hk⟩
  have hr : ¬ (Int32.ofNat c.2 < 0 ∨ 89 ≤ c.2) := fun h => h.elim (nm_nneg (by omega)) (by omega)
  unfold fz_sp_next_14
  rw [hix, nm_clamp (by omega), if_neg hr]
  unfold zs_Q zs_d
  rw [← hp]
  rcases b1 with ⟨b1, b1'⟩ | ⟨b1, b1'⟩
  · rw [if_pos b1, zs_25_14 _ _ b2, zs_37_14 _ _ b3, zs_47_14 _ b4, b1', Int32.zero_mul, Int32.add_zero]
  · rw [if_neg b1, zs_25_14 _ _ b2, zs_37_14 _ _ b3, zs_47_14 _ b4, b1', Int32.one_mul]
theorem zs_ac14 {s : am_Z} {c : Int32 × Nat} (h : zs_es14 s c) {k : Nat} (hk : k < 16) : ∃ S : am_Z, fz_sp_accept_14 s (Int32.ofNat k) (zs_Q c k) = some S ∧ zs_es14 S (zs_N c k) ∧ S.2 = s.2 ∧ ∀ i, i < 26 ∨ 27 < i → S.1 i = s.1 i := by
  obtain ⟨hp, hix, hi⟩ := h
  have hid : fz_sh_limit (Int32.ofNat c.2 + (am_vINDEXCHANGES.getD (Int32.toNatClampNeg (Int32.ofNat k &&& (7 : Int32))) 0)) (0 : Int32) (88 : Int32) = some (Int32.ofNat (zs_i c.2 k)) := zs_idx ⟨c.2, hi⟩ ⟨k, hk⟩
  refine ⟨zz_i (zz_i s 26 (zs_Q c k)) 27 (Int32.ofNat (zs_i c.2 k)), ?_, ⟨rfl, rfl, zs_i_lt hi⟩, rfl, fun i hi => ?_⟩
  · unfold fz_sp_accept_14
    rw [if_neg (zs_and7 ⟨k, hk⟩), hix, hid]
    simp only [zbs]
  · show zz_u (zz_u s.1 26 _) 27 _ i = s.1 i
    rw [zz_u_n _ _ (by omega), zz_u_n _ _ (by omega)]
/-- pairs -/
abbrev zp_C : Type := Int32 × Int32 × Int32 × Nat
def zp_Q (c : zp_C) (k : Nat) : Int32 := zs_cl ((((c.1 * am_vPAIRS.getD (2 * c.2.2.2) 0) + (c.2.1 * am_vPAIRS.getD (2 * c.2.2.2 + 1) 0)) >>> ((8 : Int32) &&& 31)) + ((if 8 ≤ k then Int32.ofNat k - (16 : Int32) else Int32.ofNat k) * c.2.2.1))
def zp_l (y : Int32) : Int32 := if (16 : Int32) ≤ y then if y ≤ (32767 : Int32) then y else 32767 else 16
def zp_g (d : Int32) (k : Nat) : Int32 := zp_l ((d * am_vDELTAFACTORS.getD k 0) >>> ((8 : Int32) &&& 31))
def zp_N (c : zp_C) (k : Nat) : zp_C := (zp_Q c k, c.1, zp_g c.2.2.1 k, c.2.2.2)
theorem zp_Q_le (c : zp_C) (k : Nat) : -32768 ≤ (zp_Q c k).toInt ∧ (zp_Q c k).toInt ≤ 32767 := zs_cl_le _
theorem zp_l_s (y : Int32) : fz_sh_limit y (16 : Int32) (32767 : Int32) = some (zp_l y) := by
  unfold fz_sh_limit zp_l
  by_cases h1 : (16 : Int32) ≤ y
  · by_cases h2 : y ≤ (32767 : Int32)
    · rw [if_pos h1, if_pos h2, if_pos h1, if_pos h2]
    · rw [if_pos h1, if_neg h2, if_pos h1, if_neg h2]
  · rw [if_neg h1, if_neg h1]
theorem zp_gr : ∀ k : Fin 16, fz_mo_growth (Int32.ofNat k.1) = some (am_vDELTAFACTORS.getD k.1 0) := by decide +kernel
theorem zp_and15 : ∀ k : Fin 16, ¬ ((Int32.ofNat k.1 &&& (15 : Int32)) < 0 ∨ 16 ≤ Int32.toNatClampNeg (Int32.ofNat k.1 &&& (15 : Int32))) ∧ Int32.toNatClampNeg (Int32.ofNat k.1 &&& (15 : Int32)) = k.1 := by decide +kernel
def zp_em (x : Int32) (m : am_Z) (c : zp_C) : Prop := x = Int32.ofNat c.2.2.2 ∧ m.1 17 = c.1 ∧ m.1 18 = c.2.1 ∧ m.1 20 = c.2.2.1 ∧ c.2.2.2 < 7
theorem zp_0x {x : Int32} {m : am_Z} {c : zp_C} (h : zp_em x m c) : 0 ≤ x := by
  rw [h.1]
  exact (nm_nlt _ _).mp (nm_nneg (by have := h.2.2.2.2; omega))
theorem zp_st_m {m : am_Z} {x : Int32} {c : zp_C} (h : zp_em x m c) {k : Nat} (hk : k < 16) : fz_mo_predicted m (Int32.ofNat k) x = some (zp_Q c k) := by
  obtain ⟨hx, h17, h18, h20, hi⟩ := h
  obtain ⟨p1, p2⟩ := zm_pair ⟨c.2.2.2, hi⟩
  have q1 : fz_mo_first x = some (am_vPAIRS.getD (2 * c.2.2.2) 0) := by rw [hx]; exact p1
  have q2 : fz_mo_second x = some (am_vPAIRS.getD (2 * c.2.2.2 + 1) 0) := by rw [hx]; exact p2
  unfold fz_mo_predicted fz_mo_predicted_14 zp_Q
  by_cases c8 : 8 ≤ k
  · have h8 : (8 : Int32) ≤ Int32.ofNat k := (nm_le (a := 8) (by omega) (by omega)).mpr c8
    rw [if_pos h8, if_pos c8, q1]
    simp only [zbs]
    rw [q2]
    simp only [zbs]
    rw [h17, h18, h20, zs_cl_m]
    simp only [zbs]
  · have h8 : ¬ (8 : Int32) ≤ Int32.ofNat k := fun h => c8 ((nm_le (a := 8) (by omega) (by omega)).mp h)
    rw [if_neg h8, if_neg c8, q1]
    simp only [zbs]
    rw [q2]
    simp only [zbs]
    rw [h17, h18, h20, zs_cl_m]
    simp only [zbs]
theorem zp_di_m {m : am_Z} {x : Int32} {c : zp_C} (h : zp_em x m c) {k : Nat} (hk : k < 16) (v : Int32) : fz_mo_distance m (Int32.ofNat k) x v = some (zs_a (zp_Q c k - v)) := by
  unfold fz_mo_distance
  rw [if_pos (zp_0x h), zp_st_m h hk]
  simp only [zbs]
  rw [zs_a_m]
theorem zp_go_m {m : am_Z} {x : Int32} {c : zp_C} (h : zp_em x m c) {k : Nat} (hk : k < 16) : ∃ M : am_Z, fz_mo_goPredicted m (Int32.ofNat k) x = some M ∧ zp_em x M (zp_N c k) ∧ M.2 = m.2 ∧ ∀ i, i < 17 ∨ 20 < i → M.1 i = m.1 i := by
  obtain ⟨hx, h17, h18, h20, hi⟩ := id h
  have hg : fz_mo_growth (Int32.ofNat k) = some (am_vDELTAFACTORS.getD k 0) := zp_gr ⟨k, hk⟩
  refine ⟨zz_i (zz_i (zz_i m 18 (m.1 17)) 17 (zp_Q c k)) 20 (zp_g c.2.2.1 k), ?_, ⟨hx, rfl, h17, rfl, hi⟩, rfl, fun i hi => ?_⟩
  · unfold fz_mo_goPredicted fz_mo_goPredicted_71
    rw [zp_st_m h hk]
    simp only [zbs]
    rw [hg]
    simp only [zbs]
    rw [h20]
    unfold zp_g zp_l
    by_cases h1 : (16 : Int32) ≤ ((c.2.2.1 * am_vDELTAFACTORS.getD k 0) >>> ((8 : Int32) &&& 31))
    · by_cases h2 : ((c.2.2.1 * am_vDELTAFACTORS.getD k 0) >>> ((8 : Int32) &&& 31)) ≤ (32767 : Int32)
      · rw [if_pos h1, if_pos h2, if_pos h1, if_pos h2, zz_ii]
      · rw [if_pos h1, if_neg h2, if_pos h1, if_neg h2, zz_ii]
    · rw [if_neg h1, if_neg h1, zz_ii]
  · show zz_u (zz_u (zz_u m.1 18 _) 17 _) 20 _ i = m.1 i
    rw [zz_u_n _ _ (by omega), zz_u_n _ _ (by omega), zz_u_n _ _ (by omega)]
def zp_es8 (s : am_Z) (c : zp_C) : Prop := s.1 10 = c.1 ∧ s.1 11 = c.2.1 ∧ s.1 12 = c.2.2.1 ∧ s.1 13 = Int32.ofNat c.2.2.2 ∧ c.2.2.2 < 7
theorem zp_nx8 {s : am_Z} {c : zp_C} (h : zp_es8 s c) {k : Nat} (hk : k < 16) : fz_pr_next_8 s (Int32.ofNat k) = some (zp_Q c k) := by
  obtain ⟨ha, hb, hd, hp, hi⟩ := h
  have e2 : (2 : Int32) * Int32.ofNat c.2.2.2 = Int32.ofNat (2 * c.2.2.2) := nm_mul 2 _
  have e3 : Int32.ofNat (2 * c.2.2.2) + (1 : Int32) = Int32.ofNat (2 * c.2.2.2 + 1) := nm_add _ 1
  have r1 : ¬ (Int32.ofNat (2 * c.2.2.2) < 0 ∨ 14 ≤ 2 * c.2.2.2) := fun h => h.elim (nm_nneg (by omega)) (by omega)
  have r2 : ¬ (Int32.ofNat (2 * c.2.2.2 + 1) < 0 ∨ 14 ≤ 2 * c.2.2.2 + 1) := fun h => h.elim (nm_nneg (by omega)) (by omega)
  unfold fz_pr_next_8 fz_pr_next_8_14 zp_Q
  by_cases c8 : 8 ≤ k
  · have h8 : (8 : Int32) ≤ Int32.ofNat k := (nm_le (a := 8) (by omega) (by omega)).mpr c8
    rw [if_pos h8, if_pos c8, hp, e2, e3, nm_clamp (a := 2 * c.2.2.2) (by omega), nm_clamp (a := 2 * c.2.2.2 + 1) (by omega), if_neg r1, if_neg r2, ha, hb, hd, zs_cl_s]
    simp only [zbs]
  · have h8 : ¬ (8 : Int32) ≤ Int32.ofNat k := fun h => c8 ((nm_le (a := 8) (by omega) (by omega)).mp h)
    rw [if_neg h8, if_neg c8, hp, e2, e3, nm_clamp (a := 2 * c.2.2.2) (by omega), nm_clamp (a := 2 * c.2.2.2 + 1) (by omega), if_neg r1, if_neg r2, ha, hb, hd, zs_cl_s]
    simp only [zbs]
theorem zp_ac8 {s : am_Z} {c : zp_C} (h : zp_es8 s c) {k : Nat} (hk : k < 16) : ∃ S : am_Z, fz_pr_accept_8 s (Int32.ofNat k) (zp_Q c k) = some S ∧ zp_es8 S (zp_N c k) ∧ S.2 = s.2 ∧ ∀ i, i < 10 ∨ 13 < i → S.1 i = s.1 i := by
  obtain ⟨ha, hb, hd, hp, hi⟩ := h
  obtain ⟨r1, r2⟩ := zp_and15 ⟨k, hk⟩
  refine ⟨zz_i (zz_i (zz_i s 11 (s.1 10)) 10 (zp_Q c k)) 12 (zp_g c.2.2.1 k), ?_, ⟨rfl, ha, rfl, hp, hi⟩, rfl, fun i hi => ?_⟩
  · unfold fz_pr_accept_8
    rw [if_neg r1, show Int32.toNatClampNeg (Int32.ofNat k &&& (15 : Int32)) = k from r2, hd, zp_l_s]
    simp only [zbs]
    rfl
  · show zz_u (zz_u (zz_u s.1 11 _) 10 _) 12 _ i = s.1 i
    rw [zz_u_n _ _ (by omega), zz_u_n _ _ (by omega), zz_u_n _ _ (by omega)]
def zp_es15 (s : am_Z) (c : zp_C) : Prop := s.1 28 = c.1 ∧ s.1 29 = c.2.1 ∧ s.1 30 = c.2.2.1 ∧ s.1 31 = Int32.ofNat c.2.2.2 ∧ c.2.2.2 < 7
theorem zp_nx15 {s : am_Z} {c : zp_C} (h : zp_es15 s c) {k : Nat} (hk : k < 16) : fz_pr_next_15 s (Int32.ofNat k) = some (zp_Q c k) := by
  obtain ⟨ha, hb, hd, hp, hi⟩ := h
  have e2 : (2 : Int32) * Int32.ofNat c.2.2.2 = Int32.ofNat (2 * c.2.2.2) := nm_mul 2 _
  have e3 : Int32.ofNat (2 * c.2.2.2) + (1 : Int32) = Int32.ofNat (2 * c.2.2.2 + 1) := nm_add _ 1
  have r1 : ¬ (Int32.ofNat (2 * c.2.2.2) < 0 ∨ 14 ≤ 2 * c.2.2.2) := fun h => h.elim (nm_nneg (by omega)) (by omega)
  have r2 : ¬ (Int32.ofNat (2 * c.2.2.2 + 1) < 0 ∨ 14 ≤ 2 * c.2.2.2 + 1) := fun h => h.elim (nm_nneg (by omega)) (by omega)
  unfold fz_pr_next_15 fz_pr_next_15_14 zp_Q
  by_cases c8 : 8 ≤ k
  · have h8 : (8 : Int32) ≤ Int32.ofNat k := (nm_le (a := 8) (by omega) (by omega)).mpr c8
    rw [if_pos h8, if_pos c8, hp, e2, e3, nm_clamp (a := 2 * c.2.2.2) (by omega), nm_clamp (a := 2 * c.2.2.2 + 1) (by omega), if_neg r1, if_neg r2, ha, hb, hd, zs_cl_s]
    simp only [zbs]
  · have h8 : ¬ (8 : Int32) ≤ Int32.ofNat k := fun h => c8 ((nm_le (a := 8) (by omega) (by omega)).mp h)
    rw [if_neg h8, if_neg c8, hp, e2, e3, nm_clamp (a := 2 * c.2.2.2) (by omega), nm_clamp (a := 2 * c.2.2.2 + 1) (by omega), if_neg r1, if_neg r2, ha, hb, hd, zs_cl_s]
    simp only [zbs]
theorem zp_ac15 {s : am_Z} {c : zp_C} (h : zp_es15 s c) {k : Nat} (hk : k < 16) : ∃ S : am_Z, fz_pr_accept_15 s (Int32.ofNat k) (zp_Q c k) = some S ∧ zp_es15 S (zp_N c k) ∧ S.2 = s.2 ∧ ∀ i, i < 28 ∨ 31 < i → S.1 i = s.1 i := by
  obtain ⟨ha, hb, hd, hp, hi⟩ := h
  obtain ⟨r1, r2⟩ := zp_and15 ⟨k, hk⟩
  refine ⟨zz_i (zz_i (zz_i s 29 (s.1 28)) 28 (zp_Q c k)) 30 (zp_g c.2.2.1 k), ?_, ⟨rfl, ha, rfl, hp, hi⟩, rfl, fun i hi => ?_⟩
  · unfold fz_pr_accept_15
    rw [if_neg r1, show Int32.toNatClampNeg (Int32.ofNat k &&& (15 : Int32)) = k from r2, hd, zp_l_s]
    simp only [zbs]
    rfl
  · show zz_u (zz_u (zz_u s.1 29 _) 28 _) 30 _ i = s.1 i
    rw [zz_u_n _ _ (by omega), zz_u_n _ _ (by omega), zz_u_n _ _ (by omega)]
/-- the nearest of the class -/
theorem zs_nb_s {s : am_Z} {Q : Nat → Int32} {x : Int32} (hQ : ∀ k, k < 16 → fz_sp_next_7 s (Int32.ofNat k) = some (Q k)) : ∀ (d k f b : Nat), k + d = 16 → d < f → b < 16 → fz_co_nearest_7_16 s f x (Int32.ofNat b) (zs_a (Q b - x)) (Int32.ofNat k) = some (Int32.ofNat (zs_nb Q x d k b)) := by
  intro d
  induction d with
  | zero =>
    intro k f b hk hf hb
    obtain ⟨f, rfl⟩ : ∃ g, f = g + 1 := ⟨f - 1, by omega⟩
    have : k = 16 := by omega
    subst this
    unfold fz_co_nearest_7_16
    rw [if_pos (show (16 : Int32) ≤ Int32.ofNat 16 by decide)]
    rfl
  | succ d ih =>
    intro k f b hk hf hb
    obtain ⟨f, rfl⟩ : ∃ g, f = g + 1 := ⟨f - 1, by omega⟩
    have e1 : Int32.ofNat k + (1 : Int32) = Int32.ofNat (k + 1) := nm_add k 1
    have h16 : ¬ (16 : Int32) ≤ Int32.ofNat k := by
      rw [show (16 : Int32) = Int32.ofNat 16 from rfl, nm_le (by omega) (by omega)]
      omega
    unfold fz_co_nearest_7_16
    rw [if_neg h16, hQ k (by omega)]
    simp only [zbs]
    rw [zs_a_s]
    simp only [zbs]
    show _ = some (Int32.ofNat (zs_nb Q x d (k + 1) (if zs_a (Q b - x) ≤ zs_a (Q k - x) then b else k)))
    by_cases c : zs_a (Q b - x) ≤ zs_a (Q k - x)
    · rw [if_pos c, if_pos c]
      unfold fz_co_nearest_7_48
      rw [e1, ih (k + 1) f b (by omega) (by omega) hb]
    · rw [if_neg c, if_neg c]
      unfold fz_co_nearest_7_48
      rw [e1, ih (k + 1) f k (by omega) (by omega) (by omega)]
theorem zs_near_s {s : am_Z} {Q : Nat → Int32} {x : Int32} (hQ : ∀ k, k < 16 → fz_sp_next_7 s (Int32.ofNat k) = some (Q k)) : fz_co_nearest_7 s x = some (Int32.ofNat (zs_near Q x)) := by
  have h0 : fz_sp_next_7 s 0 = some (Q 0) := hQ 0 (by omega)
  have h : fz_co_nearest_7_16 s fz_fu x 0 (zs_a (Q 0 - x)) 1 = some (Int32.ofNat (zs_nb Q x 15 1 0)) := zs_nb_s hQ 15 1 fz_fu 0 (by omega) (by show 15 < 1000; omega) (by omega)
  unfold fz_co_nearest_7 zs_near
  rw [h0]
  simp only [zbs]
  rw [zs_a_s]
  simp only [zbs]
  exact h
theorem zs_100 {K : Int32 → Int32 → Int32 → Int32 → am_Z → Option (Int32 × am_Z)} {s : am_Z} {c : (Int32 × Nat)} {j k : Nat} (hj : j < 16) (hk : k < 16) (he : zs_es7 s c) (hb : s.2.2 2 j = Int32.ofNat k) (x2 x3 x4 : Int32) : ∃ S : am_Z, fz_wr_chooseNibbles_5_7_100 K x2 x3 x4 (Int32.ofNat j) s = K x2 x3 x4 (Int32.ofNat (j + 1)) S ∧ zs_es7 S (zs_N c k) ∧ S.2 = s.2 ∧ ∀ i, i < 8 ∨ 13 < i → S.1 i = s.1 i := by
  obtain ⟨S, hA, hE, hK, hI⟩ := zs_ac7 he hk
  have hx : ¬ (Int32.ofNat j < 0 ∨ 16 ≤ j) := fun h => h.elim (nm_nneg (by omega)) (by omega)
  have e1 : Int32.ofNat j + (1 : Int32) = Int32.ofNat (j + 1) := nm_add j 1
  refine ⟨S, ?_, hE, hK, fun i hi => hI i (by omega)⟩
  unfold fz_wr_chooseNibbles_5_7_100
  rw [nm_clamp (a := j) (by omega), if_neg hx, if_neg hx, hb, zs_nx7 he hk]
  simp only [zbs]
  rw [hA]
  simp only [zbs]
  rw [e1]
/-- the nibbles of a block -/
theorem zs_lup {R : Nat → Int32} {n N a : Nat} {x : Int32} (hn : n ≤ 64) (hN : N ≤ 16) (ha : a ≤ 100) (hR : ∀ i, i < n → -32768 ≤ (R i).toInt ∧ (R i).toInt ≤ 32767) : ∀ (d j f t : Nat) (s m : am_Z) (c c' : (Int32 × Nat)), j + d = N → d < f → t ≤ 65535 * j → zs_es7 s c → zs_em x m c' → (a + j ≤ n → c = c') → s.1 1 = Int32.ofNat n → m.1 1 = Int32.ofNat n → (∀ i, i < n → s.2.2 0 i = R i) → (∀ i, i < n → m.2.2 0 i = R i) → zs_rw s m j → ∃ (t' : Nat) (S M : am_Z) (e e' : (Int32 × Nat)), t' ≤ 65535 * N ∧ fz_wr_chooseNibbles_5_7_24 f (Int32.ofNat a) (Int32.ofNat t) (Int32.ofNat N) (Int32.ofNat j) s = some (Int32.ofNat t', S) ∧ fz_mo_follow_6 f (Int32.ofNat a) (Int32.ofNat N) x (Int32.ofNat t) (Int32.ofNat j) m = some (Int32.ofNat t', M) ∧ zs_es7 S e ∧ zs_em x M e' ∧ (a + N ≤ n → e = e') ∧ zkc s S ∧ zkm m M ∧ zs_rw S M N := by
  intro d
  induction d with
  | zero =>
    intro j f t s m c c' hj hf ht hs hm hc h1 h1' h0 h0' hb
    obtain ⟨f, rfl⟩ : ∃ g, f = g + 1 := ⟨f - 1, by omega⟩
    have e : N = j := by omega
    subst e
    have hle : Int32.ofNat N ≤ Int32.ofNat N := (nm_le (by omega) (by omega)).mpr (by omega)
    refine ⟨t, s, m, c, c', ht, ?_, ?_, hs, hm, hc, zk_refl s, zkm_refl m, hb⟩
    · unfold fz_wr_chooseNibbles_5_7_24
      rw [if_pos hle]
    · unfold fz_mo_follow_6
      rw [if_pos hle]
  | succ d ih =>
    intro j f t s m c c' hj hf ht hs hm hc h1 h1' h0 h0' hb
    obtain ⟨f, rfl⟩ : ∃ g, f = g + 1 := ⟨f - 1, by omega⟩
    have hx : ¬ (Int32.ofNat j < 0 ∨ 16 ≤ j) := fun h => h.elim (nm_nneg (by omega)) (by omega)
    have hNj : ¬ Int32.ofNat N ≤ Int32.ofNat j := by
      rw [nm_le (by omega) (by omega)]
      omega
    have ea : Int32.ofNat a + Int32.ofNat j = Int32.ofNat (a + j) := nm_add a j
    have e1 : Int32.ofNat j + (1 : Int32) = Int32.ofNat (j + 1) := nm_add j 1
    by_cases ce : n ≤ a + j
    · have hce : Int32.ofNat n ≤ Int32.ofNat (a + j) := (nm_le (by omega) (by omega)).mpr ce
      obtain ⟨S1, g1, g2, g3, g4⟩ := zs_100 (K := fz_wr_chooseNibbles_5_7_24 f) (s := zz_r s 2 (upd (s.2.2 2) j 0)) (c := c) (j := j) (k := 0) (by omega) (by omega) hs (by
        show zz_u s.2.2 2 (upd (s.2.2 2) j 0) 2 j = _
        rw [zz_u_s, zs_us]
        rfl) (Int32.ofNat a) (Int32.ofNat t) (Int32.ofNat N)
      have hk := zk_1 g3 g4
      have hkm : zkm m (zz_r m 3 (upd (m.2.2 3) j 0)) := zkm_1 (g := upd (m.2.2 3) j 0) rfl (fun _ _ => rfl)
      obtain ⟨t', S, M, e, e', r0, r1, r2, r3, r4, r5, r6, r7, r8⟩ := ih (j + 1) f t S1 (zz_r m 3 (upd (m.2.2 3) j 0)) (zs_N c 0) c' (by omega) (by omega) (by omega) g2 hm (fun h => by omega) ((hk.1 1 (by omega)).trans h1) h1' (fun i hi => by rw [hk.2.2 0 (by decide)]; exact h0 i hi) (fun i hi => by rw [hkm.2.2 0 (by decide)]; exact h0' i hi) (zs_rw1 hb (k := 0) (by omega) g3 rfl (fun i hi => zs_un _ _ hi) (fun i hi => zs_un _ _ hi) (zs_us _ _ _) (zs_us _ _ _))
      refine ⟨t', S, M, e, e', r0, ?_, ?_, r3, r4, r5, zk_t hk r6, zkm_t hkm r7, r8⟩
      · unfold fz_wr_chooseNibbles_5_7_24
        rw [if_neg hNj, nm_clamp (a := j) (by omega), if_neg hx, ea, h1, if_pos hce, g1]
        exact r1
      · unfold fz_mo_follow_6
        rw [if_neg hNj, nm_clamp (a := j) (by omega), if_neg hx, ea, h1', if_pos hce]
        unfold fz_mo_follow_94
        rw [e1]
        exact r2
    · have hce : ¬ Int32.ofNat n ≤ Int32.ofNat (a + j) := fun h => ce ((nm_le (by omega) (by omega)).mp h)
      have hcc : c = c' := hc (by omega)
      subst hcc
      have hx2 : ¬ (Int32.ofNat (a + j) < 0 ∨ 64 ≤ a + j) := fun h => h.elim (nm_nneg (by omega)) (by omega)
      obtain ⟨v, hv⟩ : ∃ v, v = R (a + j) := ⟨_, rfl⟩
      obtain ⟨v1, v2⟩ := hR (a + j) (by omega)
      rw [← hv] at v1 v2
      have hsv : s.2.2 0 (a + j) = v := (h0 _ (by omega)).trans hv.symm
      have hmv : m.2.2 0 (a + j) = v := (h0' _ (by omega)).trans hv.symm
      obtain ⟨k, hkk⟩ : ∃ k, k = zs_near (zs_Q c) v := ⟨_, rfl⟩
      have hk16 : k < 16 := by rw [hkk]; exact zs_near_lt _ _
      obtain ⟨dd, hd, ed⟩ := zs_ab (zs_Q_le c k).1 (zs_Q_le c k).2 v1 v2
      have n1 : fz_co_nearest_7 (zz_r s 2 (upd (s.2.2 2) j 0)) v = some (Int32.ofNat k) := by
        rw [hkk]
        exact zs_near_s (fun k hk => zs_nx7 (c := c) hs hk)
      have n2 : fz_mo_nearest (zz_r m 3 (upd (m.2.2 3) j 0)) x v = some (Int32.ofNat k) := by
        rw [hkk]
        exact zs_near_m (fun k hk => zs_di_m (c := c) hm hk v)
      have n3 : fz_mo_distance (zz_r m 3 (upd (m.2.2 3) j 0)) (Int32.ofNat k) x v = some (zs_a (zs_Q c k - v)) := zs_di_m (c := c) hm hk16 v
      obtain ⟨S1, g1, g2, g3, g4⟩ := zs_100 (K := fz_wr_chooseNibbles_5_7_24 f) (s := zz_r s 2 (upd (upd (s.2.2 2) j 0) j (Int32.ofNat k))) (c := c) (j := j) (k := k) (by omega) hk16 hs (by
        show zz_u s.2.2 2 (upd (upd (s.2.2 2) j 0) j (Int32.ofNat k)) 2 j = _
        rw [zz_u_s, zs_us]) (Int32.ofNat a) (Int32.ofNat (t + dd)) (Int32.ofNat N)
      have n4 : fz_sp_next_7 (zz_r s 2 (upd (upd (s.2.2 2) j 0) j (Int32.ofNat k))) (Int32.ofNat k) = some (zs_Q c k) := zs_nx7 (c := c) hs hk16
      obtain ⟨M1, l1, l2, l3, l4⟩ := zs_go_m (m := zz_r m 3 (upd (upd (m.2.2 3) j 0) j (Int32.ofNat k))) (x := x) (c := c) hm hk16
      have hk := zk_1 g3 g4
      have hkm := zkm_1 l3 l4
      obtain ⟨t', S, M, e, e', r0, r1, r2, r3, r4, r5, r6, r7, r8⟩ := ih (j + 1) f (t + dd) S1 M1 (zs_N c k) (zs_N c k) (by omega) (by omega) (by omega) g2 l2 (fun _ => rfl) ((hk.1 1 (by omega)).trans h1) ((hkm.1 1 (by omega)).trans h1') (fun i hi => by rw [hk.2.2 0 (by decide)]; exact h0 i hi) (fun i hi => by rw [hkm.2.2 0 (by decide)]; exact h0' i hi) (zs_rw1 hb (k := k) hk16 g3 l3 (fun i hi => by rw [zs_un _ _ hi, zs_un _ _ hi]) (fun i hi => by rw [zs_un _ _ hi, zs_un _ _ hi]) (zs_us _ _ _) (zs_us _ _ _))
      refine ⟨t', S, M, e, e', r0, ?_, ?_, r3, r4, r5, zk_t hk r6, zkm_t hkm r7, r8⟩
      · unfold fz_wr_chooseNibbles_5_7_24
        rw [if_neg hNj, nm_clamp (a := j) (by omega), if_neg hx, ea, h1, if_neg hce, nm_clamp (a := a + j) (by omega), if_neg hx2, hsv, n1]
        simp only [zbs]
        rw [if_neg hx, if_neg hx, zs_us, n4]
        simp only [zbs]
        rw [zs_a_s]
        simp only [zbs]
        rw [ed, nm_add, g1]
        exact r1
      · unfold fz_mo_follow_6
        rw [if_neg hNj, nm_clamp (a := j) (by omega), if_neg hx, ea, h1', if_neg hce, nm_clamp (a := a + j) (by omega), if_neg hx2, hmv, n2]
        simp only [zbs]
        rw [n3]
        simp only [zbs]
        rw [if_neg hx, if_neg (show ¬ 0 ≤ x by rw [hm.1]; decide), l1]
        simp only [zbs]
        unfold fz_mo_follow_94
        rw [e1, ed, nm_add]
        exact r2
/-- the nearest of the class -/
theorem zp_nb_s {s : am_Z} {Q : Nat → Int32} {x : Int32} (hQ : ∀ k, k < 16 → fz_pr_next_8 s (Int32.ofNat k) = some (Q k)) : ∀ (d k f b : Nat), k + d = 16 → d < f → b < 16 → fz_co_nearest_8_16 s f x (Int32.ofNat b) (zs_a (Q b - x)) (Int32.ofNat k) = some (Int32.ofNat (zs_nb Q x d k b)) := by
  intro d
  induction d with
  | zero =>
    intro k f b hk hf hb
    obtain ⟨f, rfl⟩ : ∃ g, f = g + 1 := ⟨f - 1, by omega⟩
    have : k = 16 := by omega
    subst this
    unfold fz_co_nearest_8_16
    rw [if_pos (show (16 : Int32) ≤ Int32.ofNat 16 by decide)]
    rfl
  | succ d ih =>
    intro k f b hk hf hb
    obtain ⟨f, rfl⟩ : ∃ g, f = g + 1 := ⟨f - 1, by omega⟩
    have e1 : Int32.ofNat k + (1 : Int32) = Int32.ofNat (k + 1) := nm_add k 1
    have h16 : ¬ (16 : Int32) ≤ Int32.ofNat k := by
      rw [show (16 : Int32) = Int32.ofNat 16 from rfl, nm_le (by omega) (by omega)]
      omega
    unfold fz_co_nearest_8_16
    rw [if_neg h16, hQ k (by omega)]
    simp only [zbs]
    rw [zs_a_s]
    simp only [zbs]
    show _ = some (Int32.ofNat (zs_nb Q x d (k + 1) (if zs_a (Q b - x) ≤ zs_a (Q k - x) then b else k)))
    by_cases c : zs_a (Q b - x) ≤ zs_a (Q k - x)
    · rw [if_pos c, if_pos c]
      unfold fz_co_nearest_8_48
      rw [e1, ih (k + 1) f b (by omega) (by omega) hb]
    · rw [if_neg c, if_neg c]
      unfold fz_co_nearest_8_48
      rw [e1, ih (k + 1) f k (by omega) (by omega) (by omega)]
theorem zp_near_s {s : am_Z} {Q : Nat → Int32} {x : Int32} (hQ : ∀ k, k < 16 → fz_pr_next_8 s (Int32.ofNat k) = some (Q k)) : fz_co_nearest_8 s x = some (Int32.ofNat (zs_near Q x)) := by
  have h0 : fz_pr_next_8 s 0 = some (Q 0) := hQ 0 (by omega)
  have h : fz_co_nearest_8_16 s fz_fu x 0 (zs_a (Q 0 - x)) 1 = some (Int32.ofNat (zs_nb Q x 15 1 0)) := zp_nb_s hQ 15 1 fz_fu 0 (by omega) (by show 15 < 1000; omega) (by omega)
  unfold fz_co_nearest_8 zs_near
  rw [h0]
  simp only [zbs]
  rw [zs_a_s]
  simp only [zbs]
  exact h
theorem zp_100 {K : Int32 → Int32 → Int32 → Int32 → am_Z → Option (Int32 × am_Z)} {s : am_Z} {c : zp_C} {j k : Nat} (hj : j < 16) (hk : k < 16) (he : zp_es8 s c) (hb : s.2.2 2 j = Int32.ofNat k) (x2 x3 x4 : Int32) : ∃ S : am_Z, fz_wr_chooseNibbles_5_8_100 K x2 x3 x4 (Int32.ofNat j) s = K x2 x3 x4 (Int32.ofNat (j + 1)) S ∧ zp_es8 S (zp_N c k) ∧ S.2 = s.2 ∧ ∀ i, i < 8 ∨ 13 < i → S.1 i = s.1 i := by
  obtain ⟨S, hA, hE, hK, hI⟩ := zp_ac8 he hk
  have hx : ¬ (Int32.ofNat j < 0 ∨ 16 ≤ j) := fun h => h.elim (nm_nneg (by omega)) (by omega)
  have e1 : Int32.ofNat j + (1 : Int32) = Int32.ofNat (j + 1) := nm_add j 1
  refine ⟨S, ?_, hE, hK, fun i hi => hI i (by omega)⟩
  unfold fz_wr_chooseNibbles_5_8_100
  rw [nm_clamp (a := j) (by omega), if_neg hx, if_neg hx, hb, zp_nx8 he hk]
  simp only [zbs]
  rw [hA]
  simp only [zbs]
  rw [e1]
/-- the nibbles of a block -/
theorem zp_lup {R : Nat → Int32} {n N a : Nat} {x : Int32} (hn : n ≤ 64) (hN : N ≤ 16) (ha : a ≤ 100) (hR : ∀ i, i < n → -32768 ≤ (R i).toInt ∧ (R i).toInt ≤ 32767) : ∀ (d j f t : Nat) (s m : am_Z) (c c' : zp_C), j + d = N → d < f → t ≤ 65535 * j → zp_es8 s c → zp_em x m c' → (a + j ≤ n → c = c') → s.1 1 = Int32.ofNat n → m.1 1 = Int32.ofNat n → (∀ i, i < n → s.2.2 0 i = R i) → (∀ i, i < n → m.2.2 0 i = R i) → zs_rw s m j → ∃ (t' : Nat) (S M : am_Z) (e e' : zp_C), t' ≤ 65535 * N ∧ fz_wr_chooseNibbles_5_8_24 f (Int32.ofNat a) (Int32.ofNat t) (Int32.ofNat N) (Int32.ofNat j) s = some (Int32.ofNat t', S) ∧ fz_mo_follow_6 f (Int32.ofNat a) (Int32.ofNat N) x (Int32.ofNat t) (Int32.ofNat j) m = some (Int32.ofNat t', M) ∧ zp_es8 S e ∧ zp_em x M e' ∧ (a + N ≤ n → e = e') ∧ zkc s S ∧ zkm m M ∧ zs_rw S M N := by
  intro d
  induction d with
  | zero =>
    intro j f t s m c c' hj hf ht hs hm hc h1 h1' h0 h0' hb
    obtain ⟨f, rfl⟩ : ∃ g, f = g + 1 := ⟨f - 1, by omega⟩
    have e : N = j := by omega
    subst e
    have hle : Int32.ofNat N ≤ Int32.ofNat N := (nm_le (by omega) (by omega)).mpr (by omega)
    refine ⟨t, s, m, c, c', ht, ?_, ?_, hs, hm, hc, zk_refl s, zkm_refl m, hb⟩
    · unfold fz_wr_chooseNibbles_5_8_24
      rw [if_pos hle]
    · unfold fz_mo_follow_6
      rw [if_pos hle]
  | succ d ih =>
    intro j f t s m c c' hj hf ht hs hm hc h1 h1' h0 h0' hb
    obtain ⟨f, rfl⟩ : ∃ g, f = g + 1 := ⟨f - 1, by omega⟩
    have hx : ¬ (Int32.ofNat j < 0 ∨ 16 ≤ j) := fun h => h.elim (nm_nneg (by omega)) (by omega)
    have hNj : ¬ Int32.ofNat N ≤ Int32.ofNat j := by
      rw [nm_le (by omega) (by omega)]
      omega
    have ea : Int32.ofNat a + Int32.ofNat j = Int32.ofNat (a + j) := nm_add a j
    have e1 : Int32.ofNat j + (1 : Int32) = Int32.ofNat (j + 1) := nm_add j 1
    by_cases ce : n ≤ a + j
    · have hce : Int32.ofNat n ≤ Int32.ofNat (a + j) := (nm_le (by omega) (by omega)).mpr ce
      obtain ⟨S1, g1, g2, g3, g4⟩ := zp_100 (K := fz_wr_chooseNibbles_5_8_24 f) (s := zz_r s 2 (upd (s.2.2 2) j 0)) (c := c) (j := j) (k := 0) (by omega) (by omega) hs (by
        show zz_u s.2.2 2 (upd (s.2.2 2) j 0) 2 j = _
        rw [zz_u_s, zs_us]
        rfl) (Int32.ofNat a) (Int32.ofNat t) (Int32.ofNat N)
      have hk := zk_1 g3 g4
      have hkm : zkm m (zz_r m 3 (upd (m.2.2 3) j 0)) := zkm_1 (g := upd (m.2.2 3) j 0) rfl (fun _ _ => rfl)
      obtain ⟨t', S, M, e, e', r0, r1, r2, r3, r4, r5, r6, r7, r8⟩ := ih (j + 1) f t S1 (zz_r m 3 (upd (m.2.2 3) j 0)) (zp_N c 0) c' (by omega) (by omega) (by omega) g2 hm (fun h => by omega) ((hk.1 1 (by omega)).trans h1) h1' (fun i hi => by rw [hk.2.2 0 (by decide)]; exact h0 i hi) (fun i hi => by rw [hkm.2.2 0 (by decide)]; exact h0' i hi) (zs_rw1 hb (k := 0) (by omega) g3 rfl (fun i hi => zs_un _ _ hi) (fun i hi => zs_un _ _ hi) (zs_us _ _ _) (zs_us _ _ _))
      refine ⟨t', S, M, e, e', r0, ?_, ?_, r3, r4, r5, zk_t hk r6, zkm_t hkm r7, r8⟩
      · unfold fz_wr_chooseNibbles_5_8_24
        rw [if_neg hNj, nm_clamp (a := j) (by omega), if_neg hx, ea, h1, if_pos hce, g1]
        exact r1
      · unfold fz_mo_follow_6
        rw [if_neg hNj, nm_clamp (a := j) (by omega), if_neg hx, ea, h1', if_pos hce]
        unfold fz_mo_follow_94
        rw [e1]
        exact r2
    · have hce : ¬ Int32.ofNat n ≤ Int32.ofNat (a + j) := fun h => ce ((nm_le (by omega) (by omega)).mp h)
      have hcc : c = c' := hc (by omega)
      subst hcc
      have hx2 : ¬ (Int32.ofNat (a + j) < 0 ∨ 64 ≤ a + j) := fun h => h.elim (nm_nneg (by omega)) (by omega)
      obtain ⟨v, hv⟩ : ∃ v, v = R (a + j) := ⟨_, rfl⟩
      obtain ⟨v1, v2⟩ := hR (a + j) (by omega)
      rw [← hv] at v1 v2
      have hsv : s.2.2 0 (a + j) = v := (h0 _ (by omega)).trans hv.symm
      have hmv : m.2.2 0 (a + j) = v := (h0' _ (by omega)).trans hv.symm
      obtain ⟨k, hkk⟩ : ∃ k, k = zs_near (zp_Q c) v := ⟨_, rfl⟩
      have hk16 : k < 16 := by rw [hkk]; exact zs_near_lt _ _
      obtain ⟨dd, hd, ed⟩ := zs_ab (zp_Q_le c k).1 (zp_Q_le c k).2 v1 v2
      have n1 : fz_co_nearest_8 (zz_r s 2 (upd (s.2.2 2) j 0)) v = some (Int32.ofNat k) := by
        rw [hkk]
        exact zp_near_s (fun k hk => zp_nx8 (c := c) hs hk)
      have n2 : fz_mo_nearest (zz_r m 3 (upd (m.2.2 3) j 0)) x v = some (Int32.ofNat k) := by
        rw [hkk]
        exact zs_near_m (fun k hk => zp_di_m (c := c) hm hk v)
      have n3 : fz_mo_distance (zz_r m 3 (upd (m.2.2 3) j 0)) (Int32.ofNat k) x v = some (zs_a (zp_Q c k - v)) := zp_di_m (c := c) hm hk16 v
      obtain ⟨S1, g1, g2, g3, g4⟩ := zp_100 (K := fz_wr_chooseNibbles_5_8_24 f) (s := zz_r s 2 (upd (upd (s.2.2 2) j 0) j (Int32.ofNat k))) (c := c) (j := j) (k := k) (by omega) hk16 hs (by
        show zz_u s.2.2 2 (upd (upd (s.2.2 2) j 0) j (Int32.ofNat k)) 2 j = _
        rw [zz_u_s, zs_us]) (Int32.ofNat a) (Int32.ofNat (t + dd)) (Int32.ofNat N)
      have n4 : fz_pr_next_8 (zz_r s 2 (upd (upd (s.2.2 2) j 0) j (Int32.ofNat k))) (Int32.ofNat k) = some (zp_Q c k) := zp_nx8 (c := c) hs hk16
      obtain ⟨M1, l1, l2, l3, l4⟩ := zp_go_m (m := zz_r m 3 (upd (upd (m.2.2 3) j 0) j (Int32.ofNat k))) (x := x) (c := c) hm hk16
      have hk := zk_1 g3 g4
      have hkm := zkm_1 l3 l4
      obtain ⟨t', S, M, e, e', r0, r1, r2, r3, r4, r5, r6, r7, r8⟩ := ih (j + 1) f (t + dd) S1 M1 (zp_N c k) (zp_N c k) (by omega) (by omega) (by omega) g2 l2 (fun _ => rfl) ((hk.1 1 (by omega)).trans h1) ((hkm.1 1 (by omega)).trans h1') (fun i hi => by rw [hk.2.2 0 (by decide)]; exact h0 i hi) (fun i hi => by rw [hkm.2.2 0 (by decide)]; exact h0' i hi) (zs_rw1 hb (k := k) hk16 g3 l3 (fun i hi => by rw [zs_un _ _ hi, zs_un _ _ hi]) (fun i hi => by rw [zs_un _ _ hi, zs_un _ _ hi]) (zs_us _ _ _) (zs_us _ _ _))
      refine ⟨t', S, M, e, e', r0, ?_, ?_, r3, r4, r5, zk_t hk r6, zkm_t hkm r7, r8⟩
      · unfold fz_wr_chooseNibbles_5_8_24
        rw [if_neg hNj, nm_clamp (a := j) (by omega), if_neg hx, ea, h1, if_neg hce, nm_clamp (a := a + j) (by omega), if_neg hx2, hsv, n1]
        simp only [zbs]
        rw [if_neg hx, if_neg hx, zs_us, n4]
        simp only [zbs]
        rw [zs_a_s]
        simp only [zbs]
        rw [ed, nm_add, g1]
        exact r1
      · unfold fz_mo_follow_6
        rw [if_neg hNj, nm_clamp (a := j) (by omega), if_neg hx, ea, h1', if_neg hce, nm_clamp (a := a + j) (by omega), if_neg hx2, hmv, n2]
        simp only [zbs]
        rw [n3]
        simp only [zbs]
        rw [if_neg hx, if_pos (zp_0x hm), l1]
        simp only [zbs]
        unfold fz_mo_follow_94
        rw [e1, ed, nm_add]
        exact r2
