/-! printed by wip/gen/genF.py -/
theorem hcd_by_has : am_code 8 = am_c_by_has := rfl
def fz_by_has_18 (s : am_Z)  : Option (Int32) :=
  some (0 : Int32)
theorem tz_by_has_18 {sc : am_S} {t : am_H} {h0 : am_H} {s : am_Z}   {r : Int32} (hF : fz_by_has_18 s = some r) : am_go sc 1 (am_ev sc 0) 8 h0 (18, [none, none, none], [], zz_hC s t, false) ((.inl (some (.int r)), zz_hC s t, false) : am_R) := by
  unfold fz_by_has_18 at hF
  refine am_go.blk hcd_by_has 1 (g := (19, [none, none, none], [.int (0 : Int32)], zz_hC s t, false)) rfl ?_
  cases hF
  exact am_go.ret hcd_by_has rfl rfl ⟨rfl, rfl, (fun _ => rfl), Or.inr ⟨rfl, Or.inl rfl⟩, rfl⟩
def fz_by_has (s : am_Z) (x1 : Int32) (x2 : Int32) : Option (Int32) :=
  if x1 < 0 then
    fz_by_has_18 s
  else
  if ((s.1 3) - x1) < x2 then
    fz_by_has_18 s
  else
  some (1 : Int32)
theorem tz_by_has {sc : am_S} {t : am_H} {s : am_Z} {x1 : Int32} {x2 : Int32} {r : Int32} (hF : fz_by_has s x1 x2 = some r) : am_ev sc 1 8 [.ref 3, .int x1, .int x2] (zz_hC s t) ((.inl (some (.int r)), zz_hC s t, false) : am_R) := by
  unfold fz_by_has at hF
  refine am_ev.of false rfl ?_
  show am_go sc _ _ _ _ (0, [some (.ref 3), some (.int x1), some (.int x2)], [], zz_hC s t, false) _
  refine am_go.blk hcd_by_has 2 (g := (bif decide (x1 < 0) then 18 else 4, [some (.ref 3), some (.int x1), some (.int x2)], [], zz_hC s t, false)) rfl ?_
  refine am_go.br (fun hP => ?_) (fun hP => ?_)
  · replace hF := (if_pos hP).symm.trans hF
    refine am_go.fgl [none, none, none] trivial ?_
    exact tz_by_has_18  hF
  · replace hF := (if_neg hP).symm.trans hF
    refine am_go.blk hcd_by_has 6 (g := (bif decide (((s.1 3) - x1) < x2) then 18 else 14, [some (.ref 3), some (.int x1), some (.int x2)], [], zz_hC s t, false)) rfl ?_
    refine am_go.br (fun hP => ?_) (fun hP => ?_)
    · replace hF := (if_pos hP).symm.trans hF
      refine am_go.fgl [none, none, none] trivial ?_
      exact tz_by_has_18  hF
    · replace hF := (if_neg hP).symm.trans hF
      refine am_go.blk hcd_by_has 2 (g := (19, [some (.ref 3), some (.int x1), some (.int x2)], [.int (1 : Int32)], zz_hC s t, false)) rfl ?_
      cases hF
      exact am_go.ret hcd_by_has rfl rfl ⟨rfl, rfl, (fun _ => rfl), Or.inr ⟨rfl, Or.inr rfl⟩, rfl⟩
theorem hcd_by_numberAt : am_code 9 = am_c_by_numberAt := rfl
def fz_by_numberAt_51 (s : am_Z) (K17 : Int32 → Int32 → Int32 → Int64 → Int32 → Option (Int64)) (x1 : Int32) (x2 : Int32) (x3 : Int32) (x6 : Int32) (y0 : Int32) (y2 : Int64) : Option (Int64) :=
  if y0 < 0 ∨ 400 ≤ Int32.toNatClampNeg y0 then none else
  K17 x1 x2 x3 (y2 ||| (Int32.toInt64 ((s.2.2 1) (Int32.toNatClampNeg y0)))) (x6 + (1 : Int32))
theorem tz_by_numberAt_51 {sc : am_S} {t : am_H} {h0 : am_H} {s : am_Z} {K17 : Int32 → Int32 → Int32 → Int64 → Int32 → Option (Int64)} (hK17 : ∀ (x1 : Int32) (x2 : Int32) (x3 : Int32) (x4 : Int64) (x6 : Int32) (r : Int64), K17 x1 x2 x3 x4 x6 = some r → am_go sc 2 (am_ev sc 1) 9 h0 (17, [some (.ref 3), some (.int x1), some (.int x2), some (.int x3), some (.long x4), none, some (.int x6)], [], zz_hC s t, false) ((.inl (some (.long r)), zz_hC s t, false) : am_R)) {x1 : Int32} {x2 : Int32} {x3 : Int32} {x6 : Int32} {y0 : Int32} {y2 : Int64} {r : Int64} (hF : fz_by_numberAt_51 s K17 x1 x2 x3 x6 y0 y2 = some r) : am_go sc 2 (am_ev sc 1) 9 h0 (51, [some (.ref 3), some (.int x1), some (.int x2), some (.int x3), none, none, some (.int x6)], [.int y0, .ref 4, .long y2], zz_hC s t, false) ((.inl (some (.long r)), zz_hC s t, false) : am_R) := by
  unfold fz_by_numberAt_51 at hF
  obtain ⟨hi1, hF⟩ := am_ng hF
  refine am_go.iald hcd_by_numberAt rfl rfl hi1 ?_
  refine am_go.blk hcd_by_numberAt 5 (g := (17, [some (.ref 3), some (.int x1), some (.int x2), some (.int x3), some (.long (y2 ||| (Int32.toInt64 ((s.2.2 1) (Int32.toNatClampNeg y0))))), none, some (.int (x6 + (1 : Int32)))], [], zz_hC s t, false)) rfl ?_
  exact hK17 _ _ _ _ _ _ hF
def fz_by_numberAt_17 (s : am_Z) : Nat → Int32 → Int32 → Int32 → Int64 → Int32 → Option (Int64)
  | 0, _, _, _, _, _ => none
  | n + 1, x1, x2, x3, x4, x6 =>
    if x2 ≤ x6 then
      some x4
    else
    if x3 = 0 then
      fz_by_numberAt_51 s (fz_by_numberAt_17 s n) x1 x2 x3 x6 (((x1 + x2) - (1 : Int32)) - x6) (x4 <<< (Int32.toInt64 (8 : Int32) &&& 63))
    else
    fz_by_numberAt_51 s (fz_by_numberAt_17 s n) x1 x2 x3 x6 (x1 + x6) (x4 <<< (Int32.toInt64 (8 : Int32) &&& 63))
theorem tz_by_numberAt_17 {sc : am_S} {t : am_H} {h0 : am_H} {s : am_Z}  : ∀ (n : Nat) (x1 : Int32) (x2 : Int32) (x3 : Int32) (x4 : Int64) (x6 : Int32) (r : Int64), fz_by_numberAt_17 s n x1 x2 x3 x4 x6 = some r → am_go sc 2 (am_ev sc 1) 9 h0 (17, [some (.ref 3), some (.int x1), some (.int x2), some (.int x3), some (.long x4), none, some (.int x6)], [], zz_hC s t, false) ((.inl (some (.long r)), zz_hC s t, false) : am_R) := by
  intro n
  induction n with
  | zero => intro x1 x2 x3 x4 x6 r hF; cases hF
  | succ n ih =>
    intro x1 x2 x3 x4 x6 r hF
    unfold fz_by_numberAt_17 at hF
    refine am_go.blk hcd_by_numberAt 3 (g := (bif decide (x2 ≤ x6) then 62 else 23, [some (.ref 3), some (.int x1), some (.int x2), some (.int x3), some (.long x4), none, some (.int x6)], [], zz_hC s t, false)) rfl ?_
    refine am_go.br (fun hP => ?_) (fun hP => ?_)
    · replace hF := (if_pos hP).symm.trans hF
      refine am_go.blk hcd_by_numberAt 1 (g := (64, [some (.ref 3), some (.int x1), some (.int x2), some (.int x3), some (.long x4), none, some (.int x6)], [.long x4], zz_hC s t, false)) rfl ?_
      cases hF
      exact am_go.ret hcd_by_numberAt rfl rfl ⟨rfl, rfl, (fun _ => rfl), rfl, rfl⟩
    · replace hF := (if_neg hP).symm.trans hF
      refine am_go.blk hcd_by_numberAt 7 (g := (bif decide (x3 = 0) then 43 else 36, [some (.ref 3), some (.int x1), some (.int x2), some (.int x3), some (.long x4), none, some (.int x6)], [.ref 4, .long (x4 <<< (Int32.toInt64 (8 : Int32) &&& 63))], zz_hC s t, false)) rfl ?_
      refine am_go.br (fun hP => ?_) (fun hP => ?_)
      · replace hF := (if_pos hP).symm.trans hF
        refine am_go.blk hcd_by_numberAt 7 (g := (51, [some (.ref 3), some (.int x1), some (.int x2), some (.int x3), some (.long x4), none, some (.int x6)], [.int (((x1 + x2) - (1 : Int32)) - x6), .ref 4, .long (x4 <<< (Int32.toInt64 (8 : Int32) &&& 63))], zz_hC s t, false)) rfl ?_
        refine am_go.fgl [some (.ref 3), some (.int x1), some (.int x2), some (.int x3), none, none, some (.int x6)] ⟨rfl, rfl, rfl, rfl, rfl, trivial⟩ ?_
        exact tz_by_numberAt_51 (hK17 := ih) hF
      · replace hF := (if_neg hP).symm.trans hF
        refine am_go.blk hcd_by_numberAt 4 (g := (51, [some (.ref 3), some (.int x1), some (.int x2), some (.int x3), some (.long x4), none, some (.int x6)], [.int (x1 + x6), .ref 4, .long (x4 <<< (Int32.toInt64 (8 : Int32) &&& 63))], zz_hC s t, false)) rfl ?_
        refine am_go.fgl [some (.ref 3), some (.int x1), some (.int x2), some (.int x3), none, none, some (.int x6)] ⟨rfl, rfl, rfl, rfl, rfl, trivial⟩ ?_
        exact tz_by_numberAt_51 (hK17 := ih) hF
def fz_by_numberAt (s : am_Z) (x1 : Int32) (x2 : Int32) (x3 : Int32) : Option (Int64) :=
  (fz_by_has s x1 x2).bind fun q1 =>
  if ¬ q1 = 0 then
    fz_by_numberAt_17 s fz_fu x1 x2 x3 (0 : Int64) (0 : Int32)
  else
  some (0 : Int64)
theorem tz_by_numberAt {sc : am_S} {t : am_H} {s : am_Z} {x1 : Int32} {x2 : Int32} {x3 : Int32} {r : Int64} (hF : fz_by_numberAt s x1 x2 x3 = some r) : am_ev sc 2 9 [.ref 3, .int x1, .int x2, .int x3] (zz_hC s t) ((.inl (some (.long r)), zz_hC s t, false) : am_R) := by
  unfold fz_by_numberAt at hF
  refine am_ev.of false rfl ?_
  show am_go sc _ _ _ _ (0, [some (.ref 3), some (.int x1), some (.int x2), some (.int x3), none, none, none], [], zz_hC s t, false) _
  refine am_go.blk hcd_by_numberAt 3 (g := (3, [some (.ref 3), some (.int x1), some (.int x2), some (.int x3), none, none, none], [.int x2, .int x1, .ref 3], zz_hC s t, false)) rfl ?_
  obtain ⟨q1, hq1, hF⟩ := am_bd hF
  refine am_go.call hcd_by_numberAt rfl rfl rfl rfl (am_le8 rfl) (am_ev.le (by decide) (tz_by_has (t := t) hq1)) ?_
  refine am_go.blk hcd_by_numberAt 1 (g := (bif decide (¬ q1 = 0) then 11 else 9, [some (.ref 3), some (.int x1), some (.int x2), some (.int x3), none, none, none], [], zz_hC s t, false)) rfl ?_
  refine am_go.br (fun hP => ?_) (fun hP => ?_)
  · replace hF := (if_pos hP).symm.trans hF
    refine am_go.blk hcd_by_numberAt 4 (g := (17, [some (.ref 3), some (.int x1), some (.int x2), some (.int x3), some (.long (0 : Int64)), none, some (.int (0 : Int32))], [], zz_hC s t, false)) rfl ?_
    exact tz_by_numberAt_17  fz_fu _ _ _ _ _ _ hF
  · replace hF := (if_neg hP).symm.trans hF
    refine am_go.blk hcd_by_numberAt 1 (g := (10, [some (.ref 3), some (.int x1), some (.int x2), some (.int x3), none, none, none], [.long (0 : Int64)], zz_hC s t, false)) rfl ?_
    cases hF
    exact am_go.ret hcd_by_numberAt rfl rfl ⟨rfl, rfl, (fun _ => rfl), rfl, rfl⟩
theorem hcd_by_idAt : am_code 10 = am_c_by_idAt := rfl
def fz_by_idAt (s : am_Z) (x1 : Int32) : Option (Int32) :=
  (fz_by_numberAt s x1 (4 : Int32) (1 : Int32)).bind fun q1 =>
  some (Int64.toInt32 q1)
theorem tz_by_idAt {sc : am_S} {t : am_H} {s : am_Z} {x1 : Int32} {r : Int32} (hF : fz_by_idAt s x1 = some r) : am_ev sc 3 10 [.ref 3, .int x1] (zz_hC s t) ((.inl (some (.int r)), zz_hC s t, false) : am_R) := by
  unfold fz_by_idAt at hF
  refine am_ev.of false rfl ?_
  show am_go sc _ _ _ _ (0, [some (.ref 3), some (.int x1)], [], zz_hC s t, false) _
  refine am_go.blk hcd_by_idAt 4 (g := (4, [some (.ref 3), some (.int x1)], [.int (1 : Int32), .int (4 : Int32), .int x1, .ref 3], zz_hC s t, false)) rfl ?_
  obtain ⟨q1, hq1, hF⟩ := am_bd hF
  refine am_go.call hcd_by_idAt rfl rfl rfl rfl (am_le8 rfl) (am_ev.le (by decide) (tz_by_numberAt (t := t) hq1)) ?_
  refine am_go.blk hcd_by_idAt 1 (g := (8, [some (.ref 3), some (.int x1)], [.int (Int64.toInt32 q1)], zz_hC s t, false)) rfl ?_
  cases hF
  exact am_go.ret hcd_by_idAt rfl rfl ⟨rfl, rfl, (fun _ => rfl), Or.inl rfl, rfl⟩
theorem hcd_by_put : am_code 5 = am_c_by_put := rfl
def fz_by_put (s : am_Z) (x1 : Int32) : Option (am_Z) :=
  if (400 : Int32) ≤ (s.1 3) then
    some s
  else
  if (s.1 3) < 0 ∨ 400 ≤ Int32.toNatClampNeg (s.1 3) then none else
  some (zz_i (zz_r s 1 (upd (s.2.2 1) (Int32.toNatClampNeg (s.1 3)) (x1 &&& (255 : Int32)))) 3 ((s.1 3) + (1 : Int32)))
theorem tz_by_put {sc : am_S} {t : am_H} {s : am_Z} {x1 : Int32} {r : am_Z} (hF : fz_by_put s x1 = some r) : am_ev sc 1 5 [.ref 3, .int x1] (zz_hC s t) ((.inl (none), zz_hC r t, true) : am_R) := by
  unfold fz_by_put at hF
  refine am_ev.of true rfl ?_
  show am_go sc _ _ _ _ (0, [some (.ref 3), some (.int x1)], [], zz_hC s t, true) _
  refine am_go.blk hcd_by_put 6 (g := (bif decide ((400 : Int32) ≤ (s.1 3)) then 36 else 12, [some (.ref 3), some (.int x1)], [], zz_hC s t, true)) rfl ?_
  refine am_go.br (fun hP => ?_) (fun hP => ?_)
  · replace hF := (if_pos hP).symm.trans hF
    cases hF
    exact am_go.ret hcd_by_put rfl rfl ⟨rfl, rfl, (fun h => by cases h), rfl, rfl⟩
  · replace hF := (if_neg hP).symm.trans hF
    refine am_go.blk hcd_by_put 7 (g := (25, [some (.ref 3), some (.int x1)], [.int (x1 &&& (255 : Int32)), .int (s.1 3), .ref 4], zz_hC s t, true)) rfl ?_
    obtain ⟨hi1, hF⟩ := am_ng hF
    refine am_go.iast hcd_by_put rfl rfl hi1 ?_
    refine am_go.blk hcd_by_put 6 (g := (36, [some (.ref 3), some (.int x1)], [], zz_hC (zz_i (zz_r s 1 (upd (s.2.2 1) (Int32.toNatClampNeg (s.1 3)) (x1 &&& (255 : Int32)))) 3 ((s.1 3) + (1 : Int32))) t, true)) rfl ?_
    cases hF
    exact am_go.ret hcd_by_put rfl rfl ⟨rfl, rfl, (fun h => by cases h), rfl, rfl⟩
theorem hcd_by_putBig : am_code 7 = am_c_by_putBig := rfl
def fz_by_putBig_5  : Nat → Int64 → Int32 → am_Z → Option (am_Z)
  | 0, _, _, _ => none
  | n + 1, x1, x4, s =>
    if x4 < 0 then
      some s
    else
    (fz_by_put s (Int64.toInt32 (x1 >>> (Int32.toInt64 ((8 : Int32) * x4) &&& 63)))).bind fun q1 =>
    fz_by_putBig_5 n x1 (x4 + (-1 : Int32)) q1
theorem tz_by_putBig_5 {sc : am_S} {t : am_H} {h0 : am_H}   : ∀ (n : Nat) (x1 : Int64) (x4 : Int32) (s : am_Z) (r : am_Z), fz_by_putBig_5  n x1 x4 s = some r → am_go sc 2 (am_ev sc 1) 7 h0 (5, [some (.ref 3), some (.long x1), none, none, some (.int x4)], [], zz_hC s t, true) ((.inl (none), zz_hC r t, true) : am_R) := by
  intro n
  induction n with
  | zero => intro x1 x4 s r hF; cases hF
  | succ n ih =>
    intro x1 x4 s r hF
    unfold fz_by_putBig_5 at hF
    refine am_go.blk hcd_by_putBig 2 (g := (bif decide (x4 < 0) then 28 else 10, [some (.ref 3), some (.long x1), none, none, some (.int x4)], [], zz_hC s t, true)) rfl ?_
    refine am_go.br (fun hP => ?_) (fun hP => ?_)
    · replace hF := (if_pos hP).symm.trans hF
      cases hF
      exact am_go.ret hcd_by_putBig rfl rfl ⟨rfl, rfl, (fun h => by cases h), rfl, rfl⟩
    · replace hF := (if_neg hP).symm.trans hF
      refine am_go.blk hcd_by_putBig 7 (g := (19, [some (.ref 3), some (.long x1), none, none, some (.int x4)], [.int (Int64.toInt32 (x1 >>> (Int32.toInt64 ((8 : Int32) * x4) &&& 63))), .ref 3], zz_hC s t, true)) rfl ?_
      obtain ⟨q1, hq1, hF⟩ := am_bd hF
      refine am_go.call hcd_by_putBig rfl rfl rfl rfl (am_le8 rfl) (am_ev.le (by decide) (tz_by_put (t := t) hq1)) ?_
      refine am_go.blk hcd_by_putBig 2 (g := (5, [some (.ref 3), some (.long x1), none, none, some (.int (x4 + (-1 : Int32)))], [], zz_hC q1 t, true)) rfl ?_
      exact ih _ _ _ _ hF
def fz_by_putBig (s : am_Z) (x1 : Int64) (x3 : Int32) : Option (am_Z) :=
  fz_by_putBig_5 fz_fu x1 (x3 - (1 : Int32)) s
theorem tz_by_putBig {sc : am_S} {t : am_H} {s : am_Z} {x1 : Int64} {x3 : Int32} {r : am_Z} (hF : fz_by_putBig s x1 x3 = some r) : am_ev sc 2 7 [.ref 3, .long x1, .int x3] (zz_hC s t) ((.inl (none), zz_hC r t, true) : am_R) := by
  unfold fz_by_putBig at hF
  refine am_ev.of true rfl ?_
  show am_go sc _ _ _ _ (0, [some (.ref 3), some (.long x1), none, some (.int x3), none], [], zz_hC s t, true) _
  refine am_go.blk hcd_by_putBig 4 (g := (5, [some (.ref 3), some (.long x1), none, some (.int x3), some (.int (x3 - (1 : Int32)))], [], zz_hC s t, true)) rfl ?_
  refine am_go.fgl [some (.ref 3), some (.long x1), none, none, some (.int (x3 - (1 : Int32)))] ⟨rfl, rfl, rfl, trivial⟩ ?_
  exact tz_by_putBig_5  fz_fu _ _ _ _ hF
theorem hcd_fm_setTag : am_code 15 = am_c_fm_setTag := rfl
def fz_fm_setTag_13 (s : am_Z) (x1 : Int32) : Option (am_Z) :=
  if ¬ x1 = (17 : Int32) then
    if ¬ x1 = (2 : Int32) then
      some (zz_i (zz_i s 22 x1) 23 (0 : Int32))
    else
    some (zz_i (zz_i s 22 x1) 23 (7 : Int32))
  else
  some (zz_i (zz_i s 22 x1) 23 (4 : Int32))
theorem tz_fm_setTag_13 {sc : am_S} {t : am_H} {s : am_Z} {x1 : Int32} {r : am_Z} (hF : fz_fm_setTag_13 s x1 = some r) : am_ev sc 1 15 [.ref 13, .int x1] (zz_hC s t) ((.inl (none), zz_hC r t, true) : am_R) := by
  unfold fz_fm_setTag_13 at hF
  refine am_ev.of true rfl ?_
  show am_go sc _ _ _ _ (0, [some (.ref 13), some (.int x1)], [], zz_hC s t, true) _
  refine am_go.blk hcd_fm_setTag 10 (g := (bif decide (¬ x1 = (17 : Int32)) then 27 else 19, [some (.ref 13), some (.int x1)], [], zz_hC (zz_i (zz_i s 22 x1) 23 (0 : Int32)) t, true)) rfl ?_
  refine am_go.br (fun hP => ?_) (fun hP => ?_)
  · replace hF := (if_pos hP).symm.trans hF
    refine am_go.blk hcd_fm_setTag 4 (g := (bif decide (¬ x1 = (2 : Int32)) then 41 else 35, [some (.ref 13), some (.int x1)], [], zz_hC (zz_i (zz_i s 22 x1) 23 (0 : Int32)) t, true)) rfl ?_
    refine am_go.br (fun hP => ?_) (fun hP => ?_)
    · replace hF := (if_pos hP).symm.trans hF
      cases hF
      exact am_go.ret hcd_fm_setTag rfl rfl ⟨rfl, rfl, (fun h => by cases h), rfl, rfl⟩
    · replace hF := (if_neg hP).symm.trans hF
      refine am_go.blk hcd_fm_setTag 3 (g := (41, [some (.ref 13), some (.int x1)], [], zz_hC (zz_i (zz_i s 22 x1) 23 (7 : Int32)) t, true)) rfl ?_
      cases hF
      exact am_go.ret hcd_fm_setTag rfl rfl ⟨rfl, rfl, (fun h => by cases h), rfl, rfl⟩
  · replace hF := (if_neg hP).symm.trans hF
    refine am_go.blk hcd_fm_setTag 4 (g := (41, [some (.ref 13), some (.int x1)], [], zz_hC (zz_i (zz_i s 22 x1) 23 (4 : Int32)) t, true)) rfl ?_
    cases hF
    exact am_go.ret hcd_fm_setTag rfl rfl ⟨rfl, rfl, (fun h => by cases h), rfl, rfl⟩
theorem hcd_fm_tagOfSize : am_code 14 = am_c_fm_tagOfSize := rfl
def fz_fm_tagOfSize (x0 : Int64) : Option (Int32) :=
  if ¬ (lg_cmp x0 (16 : Int64)) = 0 then
    if ¬ (lg_cmp x0 (20 : Int64)) = 0 then
      if ¬ (lg_cmp x0 (50 : Int64)) = 0 then
        some (0 : Int32)
      else
      some (2 : Int32)
    else
    some (17 : Int32)
  else
  some (1 : Int32)
theorem tz_fm_tagOfSize {sc : am_S} {h : am_H} {x0 : Int64} {r : Int32} (hF : fz_fm_tagOfSize x0 = some r) : am_ev sc 1 14 [.long x0] (h) ((.inl (some (.int r)), h, false) : am_R) := by
  unfold fz_fm_tagOfSize at hF
  refine am_ev.of false rfl ?_
  show am_go sc _ _ _ _ (0, [some (.long x0), none], [], h, false) _
  refine am_go.blk hcd_fm_tagOfSize 4 (g := (bif decide (¬ (lg_cmp x0 (16 : Int64)) = 0) then 10 else 8, [some (.long x0), none], [], h, false)) rfl ?_
  refine am_go.br (fun hP => ?_) (fun hP => ?_)
  · replace hF := (if_pos hP).symm.trans hF
    refine am_go.blk hcd_fm_tagOfSize 4 (g := (bif decide (¬ (lg_cmp x0 (20 : Int64)) = 0) then 21 else 18, [some (.long x0), none], [], h, false)) rfl ?_
    refine am_go.br (fun hP => ?_) (fun hP => ?_)
    · replace hF := (if_pos hP).symm.trans hF
      refine am_go.blk hcd_fm_tagOfSize 4 (g := (bif decide (¬ (lg_cmp x0 (50 : Int64)) = 0) then 33 else 29, [some (.long x0), none], [], h, false)) rfl ?_
      refine am_go.br (fun hP => ?_) (fun hP => ?_)
      · replace hF := (if_pos hP).symm.trans hF
        refine am_go.blk hcd_fm_tagOfSize 1 (g := (34, [some (.long x0), none], [.int (0 : Int32)], h, false)) rfl ?_
        cases hF
        exact am_go.ret hcd_fm_tagOfSize rfl rfl ⟨rfl, rfl, (fun _ => rfl), Or.inl rfl, rfl⟩
      · replace hF := (if_neg hP).symm.trans hF
        refine am_go.blk hcd_fm_tagOfSize 2 (g := (34, [some (.long x0), none], [.int (2 : Int32)], h, false)) rfl ?_
        cases hF
        exact am_go.ret hcd_fm_tagOfSize rfl rfl ⟨rfl, rfl, (fun _ => rfl), Or.inl rfl, rfl⟩
    · replace hF := (if_neg hP).symm.trans hF
      refine am_go.blk hcd_fm_tagOfSize 1 (g := (20, [some (.long x0), none], [.int (17 : Int32)], h, false)) rfl ?_
      cases hF
      exact am_go.ret hcd_fm_tagOfSize rfl rfl ⟨rfl, rfl, (fun _ => rfl), Or.inl rfl, rfl⟩
  · replace hF := (if_neg hP).symm.trans hF
    refine am_go.blk hcd_fm_tagOfSize 1 (g := (9, [some (.long x0), none], [.int (1 : Int32)], h, false)) rfl ?_
    cases hF
    exact am_go.ret hcd_fm_tagOfSize rfl rfl ⟨rfl, rfl, (fun _ => rfl), Or.inl rfl, rfl⟩
theorem hcd_fm_leastAlign : am_code 20 = am_c_fm_leastAlign := rfl
def fz_fm_leastAlign_13 (s : am_Z) : Option (Int32) :=
  some ((s.1 23) + (1 : Int32))
theorem tz_fm_leastAlign_13 {sc : am_S} {t : am_H} {s : am_Z} {r : Int32} (hF : fz_fm_leastAlign_13 s = some r) : am_ev sc 1 20 [.ref 13] (zz_hC s t) ((.inl (some (.int r)), zz_hC s t, false) : am_R) := by
  unfold fz_fm_leastAlign_13 at hF
  refine am_ev.of false rfl ?_
  show am_go sc _ _ _ _ (0, [some (.ref 13)], [], zz_hC s t, false) _
  refine am_go.blk hcd_fm_leastAlign 4 (g := (6, [some (.ref 13)], [.int ((s.1 23) + (1 : Int32))], zz_hC s t, false)) rfl ?_
  cases hF
  exact am_go.ret hcd_fm_leastAlign rfl rfl ⟨rfl, rfl, (fun _ => rfl), Or.inl rfl, rfl⟩
theorem hcd_fm_hasBlocks : am_code 17 = am_c_fm_hasBlocks := rfl
def fz_fm_hasBlocks_13_17 (s : am_Z)  : Option (Int32) :=
  some (1 : Int32)
theorem tz_fm_hasBlocks_13_17 {sc : am_S} {t : am_H} {h0 : am_H} {s : am_Z}   {r : Int32} (hF : fz_fm_hasBlocks_13_17 s = some r) : am_go sc 1 (am_ev sc 0) 17 h0 (17, [none], [], zz_hC s t, false) ((.inl (some (.int r)), zz_hC s t, false) : am_R) := by
  unfold fz_fm_hasBlocks_13_17 at hF
  refine am_go.blk hcd_fm_hasBlocks 2 (g := (22, [none], [.int (1 : Int32)], zz_hC s t, false)) rfl ?_
  cases hF
  exact am_go.ret hcd_fm_hasBlocks rfl rfl ⟨rfl, rfl, (fun _ => rfl), Or.inr ⟨rfl, Or.inr rfl⟩, rfl⟩
def fz_fm_hasBlocks_13 (s : am_Z) : Option (Int32) :=
  if (s.1 22) = (17 : Int32) then
    fz_fm_hasBlocks_13_17 s
  else
  if ¬ (s.1 22) = (2 : Int32) then
    some (0 : Int32)
  else
  fz_fm_hasBlocks_13_17 s
theorem tz_fm_hasBlocks_13 {sc : am_S} {t : am_H} {s : am_Z} {r : Int32} (hF : fz_fm_hasBlocks_13 s = some r) : am_ev sc 1 17 [.ref 13] (zz_hC s t) ((.inl (some (.int r)), zz_hC s t, false) : am_R) := by
  unfold fz_fm_hasBlocks_13 at hF
  refine am_ev.of false rfl ?_
  show am_go sc _ _ _ _ (0, [some (.ref 13)], [], zz_hC s t, false) _
  refine am_go.blk hcd_fm_hasBlocks 4 (g := (bif decide ((s.1 22) = (17 : Int32)) then 17 else 9, [some (.ref 13)], [], zz_hC s t, false)) rfl ?_
  refine am_go.br (fun hP => ?_) (fun hP => ?_)
  · replace hF := (if_pos hP).symm.trans hF
    refine am_go.fgl [none] trivial ?_
    exact tz_fm_hasBlocks_13_17  hF
  · replace hF := (if_neg hP).symm.trans hF
    refine am_go.blk hcd_fm_hasBlocks 4 (g := (bif decide (¬ (s.1 22) = (2 : Int32)) then 21 else 17, [some (.ref 13)], [], zz_hC s t, false)) rfl ?_
    refine am_go.br (fun hP => ?_) (fun hP => ?_)
    · replace hF := (if_pos hP).symm.trans hF
      refine am_go.blk hcd_fm_hasBlocks 1 (g := (22, [some (.ref 13)], [.int (0 : Int32)], zz_hC s t, false)) rfl ?_
      cases hF
      exact am_go.ret hcd_fm_hasBlocks rfl rfl ⟨rfl, rfl, (fun _ => rfl), Or.inr ⟨rfl, Or.inl rfl⟩, rfl⟩
    · replace hF := (if_neg hP).symm.trans hF
      refine am_go.fgl [none] trivial ?_
      exact tz_fm_hasBlocks_13_17  hF
theorem hcd_fm_mostAlign : am_code 21 = am_c_fm_mostAlign := rfl
def fz_fm_mostAlign_13 (s : am_Z) : Option (Int32) :=
  (fz_fm_hasBlocks_13 s).bind fun q1 =>
  if q1 = 0 then
    some ((s.1 23) + (2 : Int32))
  else
  some ((s.1 23) + (8 : Int32))
theorem tz_fm_mostAlign_13 {sc : am_S} {t : am_H} {s : am_Z} {r : Int32} (hF : fz_fm_mostAlign_13 s = some r) : am_ev sc 2 21 [.ref 13] (zz_hC s t) ((.inl (some (.int r)), zz_hC s t, false) : am_R) := by
  unfold fz_fm_mostAlign_13 at hF
  refine am_ev.of false rfl ?_
  show am_go sc _ _ _ _ (0, [some (.ref 13)], [], zz_hC s t, false) _
  refine am_go.blk hcd_fm_mostAlign 3 (g := (5, [some (.ref 13)], [.ref 13, .int (s.1 23)], zz_hC s t, false)) rfl ?_
  obtain ⟨q1, hq1, hF⟩ := am_bd hF
  refine am_go.call hcd_fm_mostAlign rfl rfl rfl rfl (am_le8 rfl) (am_ev.le (by decide) (tz_fm_hasBlocks_13 (t := t) hq1)) ?_
  refine am_go.blk hcd_fm_mostAlign 1 (g := (bif decide (q1 = 0) then 16 else 11, [some (.ref 13)], [.int (s.1 23)], zz_hC s t, false)) rfl ?_
  refine am_go.br (fun hP => ?_) (fun hP => ?_)
  · replace hF := (if_pos hP).symm.trans hF
    refine am_go.blk hcd_fm_mostAlign 2 (g := (18, [some (.ref 13)], [.int ((s.1 23) + (2 : Int32))], zz_hC s t, false)) rfl ?_
    cases hF
    exact am_go.ret hcd_fm_mostAlign rfl rfl ⟨rfl, rfl, (fun _ => rfl), Or.inl rfl, rfl⟩
  · replace hF := (if_neg hP).symm.trans hF
    refine am_go.blk hcd_fm_mostAlign 3 (g := (18, [some (.ref 13)], [.int ((s.1 23) + (8 : Int32))], zz_hC s t, false)) rfl ?_
    cases hF
    exact am_go.ret hcd_fm_mostAlign rfl rfl ⟨rfl, rfl, (fun _ => rfl), Or.inl rfl, rfl⟩
theorem hcd_fm_bytesOfNibbles : am_code 23 = am_c_fm_bytesOfNibbles := rfl
def fz_fm_bytesOfNibbles_13 (s : am_Z) : Option (Int32) :=
  some ((s.1 24) - (s.1 23))
theorem tz_fm_bytesOfNibbles_13 {sc : am_S} {t : am_H} {s : am_Z} {r : Int32} (hF : fz_fm_bytesOfNibbles_13 s = some r) : am_ev sc 1 23 [.ref 13] (zz_hC s t) ((.inl (some (.int r)), zz_hC s t, false) : am_R) := by
  unfold fz_fm_bytesOfNibbles_13 at hF
  refine am_ev.of false rfl ?_
  show am_go sc _ _ _ _ (0, [some (.ref 13)], [], zz_hC s t, false) _
  refine am_go.blk hcd_fm_bytesOfNibbles 5 (g := (9, [some (.ref 13)], [.int ((s.1 24) - (s.1 23))], zz_hC s t, false)) rfl ?_
  cases hF
  exact am_go.ret hcd_fm_bytesOfNibbles rfl rfl ⟨rfl, rfl, (fun _ => rfl), Or.inl rfl, rfl⟩
theorem hcd_ma_max : am_code 1 = am_c_ma_max := rfl
def fz_ma_max (x0 : Int32) (x1 : Int32) : Option (Int32) :=
  if x0 < x1 then
    some x1
  else
  some x0
theorem tz_ma_max {sc : am_S} {h : am_H} {x0 : Int32} {x1 : Int32} {r : Int32} (hF : fz_ma_max x0 x1 = some r) : am_ev sc 1 1 [.int x0, .int x1] (h) ((.inl (some (.int r)), h, false) : am_R) := by
  unfold fz_ma_max at hF
  refine am_ev.of false rfl ?_
  show am_go sc _ _ _ _ (0, [some (.int x0), some (.int x1)], [], h, false) _
  refine am_go.blk hcd_ma_max 3 (g := (bif decide (x0 < x1) then 9 else 5, [some (.int x0), some (.int x1)], [], h, false)) rfl ?_
  refine am_go.br (fun hP => ?_) (fun hP => ?_)
  · replace hF := (if_pos hP).symm.trans hF
    refine am_go.blk hcd_ma_max 1 (g := (10, [some (.int x0), some (.int x1)], [.int x1], h, false)) rfl ?_
    cases hF
    exact am_go.ret hcd_ma_max rfl rfl ⟨rfl, rfl, (fun _ => rfl), Or.inl rfl, rfl⟩
  · replace hF := (if_neg hP).symm.trans hF
    refine am_go.blk hcd_ma_max 2 (g := (10, [some (.int x0), some (.int x1)], [.int x0], h, false)) rfl ?_
    cases hF
    exact am_go.ret hcd_ma_max rfl rfl ⟨rfl, rfl, (fun _ => rfl), Or.inl rfl, rfl⟩
theorem hcd_fm_setAlign : am_code 16 = am_c_fm_setAlign := rfl
def fz_fm_setAlign_13_39  (y0 : Int32) (y1 : Int32) (y2 : Int32) (s : am_Z) : Option (am_Z) :=
  (fz_ma_max y2 (y1 + y0)).bind fun q1 =>
  some (zz_i s 25 q1)
theorem tz_fm_setAlign_13_39 {sc : am_S} {t : am_H} {h0 : am_H}   {y0 : Int32} {y1 : Int32} {y2 : Int32} {s : am_Z} {r : am_Z} (hF : fz_fm_setAlign_13_39 y0 y1 y2 s = some r) : am_go sc 2 (am_ev sc 1) 16 h0 (39, [none, none], [.int y0, .int y1, .int y2, .ref 13], zz_hC s t, true) ((.inl (none), zz_hC r t, true) : am_R) := by
  unfold fz_fm_setAlign_13_39 at hF
  refine am_go.blk hcd_fm_setAlign 1 (g := (40, [none, none], [.int (y1 + y0), .int y2, .ref 13], zz_hC s t, true)) rfl ?_
  obtain ⟨q1, hq1, hF⟩ := am_bd hF
  refine am_go.call hcd_fm_setAlign rfl rfl rfl rfl (am_le8 rfl) (am_ev.le (by decide) (tz_ma_max (h := zz_hC s t) hq1)) ?_
  refine am_go.blk hcd_fm_setAlign 1 (g := (46, [none, none], [], zz_hC (zz_i s 25 q1) t, true)) rfl ?_
  cases hF
  exact am_go.ret hcd_fm_setAlign rfl rfl ⟨rfl, rfl, (fun h => by cases h), rfl, rfl⟩
def fz_fm_setAlign_13 (s : am_Z) (x1 : Int32) : Option (am_Z) :=
  (fz_fm_hasBlocks_13 (zz_i (zz_i s 24 x1) 25 (1 : Int32))).bind fun q1 =>
  if q1 = 0 then
    some (zz_i (zz_i s 24 x1) 25 (1 : Int32))
  else
  (fz_fm_bytesOfNibbles_13 (zz_i (zz_i s 24 x1) 25 (1 : Int32))).bind fun q2 =>
  if ¬ (s.1 22) = (17 : Int32) then
    fz_fm_setAlign_13_39 (2 : Int32) ((2 : Int32) * q2) (1 : Int32) (zz_i (zz_i s 24 x1) 25 (1 : Int32))
  else
  fz_fm_setAlign_13_39 (1 : Int32) ((2 : Int32) * q2) (1 : Int32) (zz_i (zz_i s 24 x1) 25 (1 : Int32))
theorem tz_fm_setAlign_13 {sc : am_S} {t : am_H} {s : am_Z} {x1 : Int32} {r : am_Z} (hF : fz_fm_setAlign_13 s x1 = some r) : am_ev sc 2 16 [.ref 13, .int x1] (zz_hC s t) ((.inl (none), zz_hC r t, true) : am_R) := by
  unfold fz_fm_setAlign_13 at hF
  refine am_ev.of true rfl ?_
  show am_go sc _ _ _ _ (0, [some (.ref 13), some (.int x1)], [], zz_hC s t, true) _
  refine am_go.blk hcd_fm_setAlign 7 (g := (11, [some (.ref 13), some (.int x1)], [.ref 13], zz_hC (zz_i (zz_i s 24 x1) 25 (1 : Int32)) t, true)) rfl ?_
  obtain ⟨q1, hq1, hF⟩ := am_bd hF
  refine am_go.call hcd_fm_setAlign rfl rfl rfl rfl (am_le8 rfl) (am_ev.le (by decide) (tz_fm_hasBlocks_13 (t := t) hq1)) ?_
  refine am_go.blk hcd_fm_setAlign 1 (g := (bif decide (q1 = 0) then 46 else 17, [some (.ref 13), some (.int x1)], [], zz_hC (zz_i (zz_i s 24 x1) 25 (1 : Int32)) t, true)) rfl ?_
  refine am_go.br (fun hP => ?_) (fun hP => ?_)
  · replace hF := (if_pos hP).symm.trans hF
    cases hF
    exact am_go.ret hcd_fm_setAlign rfl rfl ⟨rfl, rfl, (fun h => by cases h), rfl, rfl⟩
  · replace hF := (if_neg hP).symm.trans hF
    refine am_go.blk hcd_fm_setAlign 4 (g := (21, [some (.ref 13), some (.int x1)], [.ref 13, .int (2 : Int32), .int (1 : Int32), .ref 13], zz_hC (zz_i (zz_i s 24 x1) 25 (1 : Int32)) t, true)) rfl ?_
    obtain ⟨q2, hq2, hF⟩ := am_bd hF
    refine am_go.call hcd_fm_setAlign rfl rfl rfl rfl (am_le8 rfl) (am_ev.le (by decide) (tz_fm_bytesOfNibbles_13 (t := t) hq2)) ?_
    refine am_go.blk hcd_fm_setAlign 5 (g := (bif decide (¬ (s.1 22) = (17 : Int32)) then 38 else 34, [some (.ref 13), some (.int x1)], [.int ((2 : Int32) * q2), .int (1 : Int32), .ref 13], zz_hC (zz_i (zz_i s 24 x1) 25 (1 : Int32)) t, true)) rfl ?_
    refine am_go.br (fun hP => ?_) (fun hP => ?_)
    · replace hF := (if_pos hP).symm.trans hF
      refine am_go.blk hcd_fm_setAlign 1 (g := (39, [some (.ref 13), some (.int x1)], [.int (2 : Int32), .int ((2 : Int32) * q2), .int (1 : Int32), .ref 13], zz_hC (zz_i (zz_i s 24 x1) 25 (1 : Int32)) t, true)) rfl ?_
      refine am_go.fgl [none, none] trivial ?_
      exact tz_fm_setAlign_13_39  hF
    · replace hF := (if_neg hP).symm.trans hF
      refine am_go.blk hcd_fm_setAlign 2 (g := (39, [some (.ref 13), some (.int x1)], [.int (1 : Int32), .int ((2 : Int32) * q2), .int (1 : Int32), .ref 13], zz_hC (zz_i (zz_i s 24 x1) 25 (1 : Int32)) t, true)) rfl ?_
      refine am_go.fgl [none, none] trivial ?_
      exact tz_fm_setAlign_13_39  hF
theorem hcd_fm_bits : am_code 22 = am_c_fm_bits := rfl
def fz_fm_bits_13 (s : am_Z) : Option (Int32) :=
  (fz_fm_hasBlocks_13 s).bind fun q1 =>
  if q1 = 0 then
    some ((8 : Int32) * (s.1 24))
  else
  some (4 : Int32)
theorem tz_fm_bits_13 {sc : am_S} {t : am_H} {s : am_Z} {r : Int32} (hF : fz_fm_bits_13 s = some r) : am_ev sc 2 22 [.ref 13] (zz_hC s t) ((.inl (some (.int r)), zz_hC s t, false) : am_R) := by
  unfold fz_fm_bits_13 at hF
  refine am_ev.of false rfl ?_
  show am_go sc _ _ _ _ (0, [some (.ref 13)], [], zz_hC s t, false) _
  refine am_go.blk hcd_fm_bits 1 (g := (1, [some (.ref 13)], [.ref 13], zz_hC s t, false)) rfl ?_
  obtain ⟨q1, hq1, hF⟩ := am_bd hF
  refine am_go.call hcd_fm_bits rfl rfl rfl rfl (am_le8 rfl) (am_ev.le (by decide) (tz_fm_hasBlocks_13 (t := t) hq1)) ?_
  refine am_go.blk hcd_fm_bits 1 (g := (bif decide (q1 = 0) then 11 else 7, [some (.ref 13)], [], zz_hC s t, false)) rfl ?_
  refine am_go.br (fun hP => ?_) (fun hP => ?_)
  · replace hF := (if_pos hP).symm.trans hF
    refine am_go.blk hcd_fm_bits 4 (g := (18, [some (.ref 13)], [.int ((8 : Int32) * (s.1 24))], zz_hC s t, false)) rfl ?_
    cases hF
    exact am_go.ret hcd_fm_bits rfl rfl ⟨rfl, rfl, (fun _ => rfl), Or.inl rfl, rfl⟩
  · replace hF := (if_neg hP).symm.trans hF
    refine am_go.blk hcd_fm_bits 2 (g := (18, [some (.ref 13)], [.int (4 : Int32)], zz_hC s t, false)) rfl ?_
    cases hF
    exact am_go.ret hcd_fm_bits rfl rfl ⟨rfl, rfl, (fun _ => rfl), Or.inl rfl, rfl⟩
theorem hcd_fm_sizeOfFmt : am_code 18 = am_c_fm_sizeOfFmt := rfl
def fz_fm_sizeOfFmt_13 (s : am_Z) : Option (Int32) :=
  if ¬ (s.1 22) = (1 : Int32) then
    if ¬ (s.1 22) = (17 : Int32) then
      some (50 : Int32)
    else
    some (20 : Int32)
  else
  some (16 : Int32)
theorem tz_fm_sizeOfFmt_13 {sc : am_S} {t : am_H} {s : am_Z} {r : Int32} (hF : fz_fm_sizeOfFmt_13 s = some r) : am_ev sc 1 18 [.ref 13] (zz_hC s t) ((.inl (some (.int r)), zz_hC s t, false) : am_R) := by
  unfold fz_fm_sizeOfFmt_13 at hF
  refine am_ev.of false rfl ?_
  show am_go sc _ _ _ _ (0, [some (.ref 13)], [], zz_hC s t, false) _
  refine am_go.blk hcd_fm_sizeOfFmt 4 (g := (bif decide (¬ (s.1 22) = (1 : Int32)) then 11 else 8, [some (.ref 13)], [], zz_hC s t, false)) rfl ?_
  refine am_go.br (fun hP => ?_) (fun hP => ?_)
  · replace hF := (if_pos hP).symm.trans hF
    refine am_go.blk hcd_fm_sizeOfFmt 4 (g := (bif decide (¬ (s.1 22) = (17 : Int32)) then 25 else 20, [some (.ref 13)], [], zz_hC s t, false)) rfl ?_
    refine am_go.br (fun hP => ?_) (fun hP => ?_)
    · replace hF := (if_pos hP).symm.trans hF
      refine am_go.blk hcd_fm_sizeOfFmt 1 (g := (27, [some (.ref 13)], [.int (50 : Int32)], zz_hC s t, false)) rfl ?_
      cases hF
      exact am_go.ret hcd_fm_sizeOfFmt rfl rfl ⟨rfl, rfl, (fun _ => rfl), Or.inl rfl, rfl⟩
    · replace hF := (if_neg hP).symm.trans hF
      refine am_go.blk hcd_fm_sizeOfFmt 2 (g := (27, [some (.ref 13)], [.int (20 : Int32)], zz_hC s t, false)) rfl ?_
      cases hF
      exact am_go.ret hcd_fm_sizeOfFmt rfl rfl ⟨rfl, rfl, (fun _ => rfl), Or.inl rfl, rfl⟩
  · replace hF := (if_neg hP).symm.trans hF
    refine am_go.blk hcd_fm_sizeOfFmt 1 (g := (10, [some (.ref 13)], [.int (16 : Int32)], zz_hC s t, false)) rfl ?_
    cases hF
    exact am_go.ret hcd_fm_sizeOfFmt rfl rfl ⟨rfl, rfl, (fun _ => rfl), Or.inl rfl, rfl⟩
theorem hcd_fm_sizeOfMore : am_code 19 = am_c_fm_sizeOfMore := rfl
def fz_fm_sizeOfMore_13 (s : am_Z) : Option (Int32) :=
  (fz_fm_sizeOfFmt_13 s).bind fun q1 =>
  some ((q1 - (16 : Int32)) - (2 : Int32))
theorem tz_fm_sizeOfMore_13 {sc : am_S} {t : am_H} {s : am_Z} {r : Int32} (hF : fz_fm_sizeOfMore_13 s = some r) : am_ev sc 2 19 [.ref 13] (zz_hC s t) ((.inl (some (.int r)), zz_hC s t, false) : am_R) := by
  unfold fz_fm_sizeOfMore_13 at hF
  refine am_ev.of false rfl ?_
  show am_go sc _ _ _ _ (0, [some (.ref 13)], [], zz_hC s t, false) _
  refine am_go.blk hcd_fm_sizeOfMore 1 (g := (1, [some (.ref 13)], [.ref 13], zz_hC s t, false)) rfl ?_
  obtain ⟨q1, hq1, hF⟩ := am_bd hF
  refine am_go.call hcd_fm_sizeOfMore rfl rfl rfl rfl (am_le8 rfl) (am_ev.le (by decide) (tz_fm_sizeOfFmt_13 (t := t) hq1)) ?_
  refine am_go.blk hcd_fm_sizeOfMore 4 (g := (9, [some (.ref 13)], [.int ((q1 - (16 : Int32)) - (2 : Int32))], zz_hC s t, false)) rfl ?_
  cases hF
  exact am_go.ret hcd_fm_sizeOfMore rfl rfl ⟨rfl, rfl, (fun _ => rfl), Or.inl rfl, rfl⟩
theorem hcd_fm_bytesASecond : am_code 24 = am_c_fm_bytesASecond := rfl
def fz_fm_bytesASecond_13 (s : am_Z) (x1 : Int32) : Option (Int32) :=
  if (s.1 25) = 0 then none else
  some ((x1 * (s.1 24)) / (s.1 25))
theorem tz_fm_bytesASecond_13 {sc : am_S} {t : am_H} {s : am_Z} {x1 : Int32} {r : Int32} (hF : fz_fm_bytesASecond_13 s x1 = some r) : am_ev sc 1 24 [.ref 13, .int x1] (zz_hC s t) ((.inl (some (.int r)), zz_hC s t, false) : am_R) := by
  unfold fz_fm_bytesASecond_13 at hF
  refine am_ev.of false rfl ?_
  show am_go sc _ _ _ _ (0, [some (.ref 13), some (.int x1)], [], zz_hC s t, false) _
  refine am_go.blk hcd_fm_bytesASecond 6 (g := (10, [some (.ref 13), some (.int x1)], [.int (s.1 25), .int (x1 * (s.1 24))], zz_hC s t, false)) rfl ?_
  obtain ⟨hd1, hF⟩ := am_ng hF
  refine am_go.idv hcd_fm_bytesASecond rfl hd1 ?_
  cases hF
  exact am_go.ret hcd_fm_bytesASecond rfl rfl ⟨rfl, rfl, (fun _ => rfl), Or.inl rfl, rfl⟩
theorem hcd_so_append : am_code 27 = am_c_so_append := rfl
def fz_so_append_11 (s : am_Z) (x1 : Int32) : Option (am_Z) :=
  if (64 : Int32) ≤ (s.1 20) then
    some s
  else
  if (s.1 20) < 0 ∨ 64 ≤ Int32.toNatClampNeg (s.1 20) then none else
  some (zz_i (zz_r s 3 (upd (s.2.2 3) (Int32.toNatClampNeg (s.1 20)) x1)) 20 ((s.1 20) + (1 : Int32)))
theorem tz_so_append_11 {sc : am_S} {t : am_H} {s : am_Z} {x1 : Int32} {r : am_Z} (hF : fz_so_append_11 s x1 = some r) : am_ev sc 1 27 [.ref 11, .int x1] (zz_hC s t) ((.inl (none), zz_hC r t, true) : am_R) := by
  unfold fz_so_append_11 at hF
  refine am_ev.of true rfl ?_
  show am_go sc _ _ _ _ (0, [some (.ref 11), some (.int x1)], [], zz_hC s t, true) _
  refine am_go.blk hcd_so_append 6 (g := (bif decide ((64 : Int32) ≤ (s.1 20)) then 32 else 12, [some (.ref 11), some (.int x1)], [], zz_hC s t, true)) rfl ?_
  refine am_go.br (fun hP => ?_) (fun hP => ?_)
  · replace hF := (if_pos hP).symm.trans hF
    cases hF
    exact am_go.ret hcd_so_append rfl rfl ⟨rfl, rfl, (fun h => by cases h), rfl, rfl⟩
  · replace hF := (if_neg hP).symm.trans hF
    refine am_go.blk hcd_so_append 5 (g := (21, [some (.ref 11), some (.int x1)], [.int x1, .int (s.1 20), .ref 12], zz_hC s t, true)) rfl ?_
    obtain ⟨hi1, hF⟩ := am_ng hF
    refine am_go.iast hcd_so_append rfl rfl hi1 ?_
    refine am_go.blk hcd_so_append 6 (g := (32, [some (.ref 11), some (.int x1)], [], zz_hC (zz_i (zz_r s 3 (upd (s.2.2 3) (Int32.toNatClampNeg (s.1 20)) x1)) 20 ((s.1 20) + (1 : Int32))) t, true)) rfl ?_
    cases hF
    exact am_go.ret hcd_so_append rfl rfl ⟨rfl, rfl, (fun h => by cases h), rfl, rfl⟩
theorem hcd_ma_minL : am_code 3 = am_c_ma_minL := rfl
def fz_ma_minL (x0 : Int64) (x2 : Int64) : Option (Int64) :=
  if 0 < (lg_cmp x0 x2) then
    some x2
  else
  some x0
theorem tz_ma_minL {sc : am_S} {h : am_H} {x0 : Int64} {x2 : Int64} {r : Int64} (hF : fz_ma_minL x0 x2 = some r) : am_ev sc 1 3 [.long x0, .long x2] (h) ((.inl (some (.long r)), h, false) : am_R) := by
  unfold fz_ma_minL at hF
  refine am_ev.of false rfl ?_
  show am_go sc _ _ _ _ (0, [some (.long x0), none, some (.long x2), none], [], h, false) _
  refine am_go.blk hcd_ma_minL 4 (g := (bif decide (0 < (lg_cmp x0 x2)) then 10 else 6, [some (.long x0), none, some (.long x2), none], [], h, false)) rfl ?_
  refine am_go.br (fun hP => ?_) (fun hP => ?_)
  · replace hF := (if_pos hP).symm.trans hF
    refine am_go.blk hcd_ma_minL 1 (g := (11, [some (.long x0), none, some (.long x2), none], [.long x2], h, false)) rfl ?_
    cases hF
    exact am_go.ret hcd_ma_minL rfl rfl ⟨rfl, rfl, (fun _ => rfl), rfl, rfl⟩
  · replace hF := (if_neg hP).symm.trans hF
    refine am_go.blk hcd_ma_minL 2 (g := (11, [some (.long x0), none, some (.long x2), none], [.long x0], h, false)) rfl ?_
    cases hF
    exact am_go.ret hcd_ma_minL rfl rfl ⟨rfl, rfl, (fun _ => rfl), rfl, rfl⟩
theorem hcd_fm_sizeOfData : am_code 25 = am_c_fm_sizeOfData := rfl
def fz_fm_sizeOfData_13 (s : am_Z) (x1 : Int32) : Option (Int32) :=
  if (s.1 25) = 0 then none else
  some ((((x1 + (s.1 25)) - (1 : Int32)) / (s.1 25)) * (s.1 24))
theorem tz_fm_sizeOfData_13 {sc : am_S} {t : am_H} {s : am_Z} {x1 : Int32} {r : Int32} (hF : fz_fm_sizeOfData_13 s x1 = some r) : am_ev sc 1 25 [.ref 13, .int x1] (zz_hC s t) ((.inl (some (.int r)), zz_hC s t, false) : am_R) := by
  unfold fz_fm_sizeOfData_13 at hF
  refine am_ev.of false rfl ?_
  show am_go sc _ _ _ _ (0, [some (.ref 13), some (.int x1)], [], zz_hC s t, false) _
  refine am_go.blk hcd_fm_sizeOfData 8 (g := (12, [some (.ref 13), some (.int x1)], [.int (s.1 25), .int ((x1 + (s.1 25)) - (1 : Int32))], zz_hC s t, false)) rfl ?_
  obtain ⟨hd1, hF⟩ := am_ng hF
  refine am_go.idv hcd_fm_sizeOfData rfl hd1 ?_
  refine am_go.blk hcd_fm_sizeOfData 3 (g := (18, [some (.ref 13), some (.int x1)], [.int ((((x1 + (s.1 25)) - (1 : Int32)) / (s.1 25)) * (s.1 24))], zz_hC s t, false)) rfl ?_
  cases hF
  exact am_go.ret hcd_fm_sizeOfData rfl rfl ⟨rfl, rfl, (fun _ => rfl), Or.inl rfl, rfl⟩
theorem hcd_sh_limit : am_code 100 = am_c_sh_limit := rfl
def fz_sh_limit (x0 : Int32) (x1 : Int32) (x2 : Int32) : Option (Int32) :=
  if x1 ≤ x0 then
    if x0 ≤ x2 then
      some x0
    else
    some x2
  else
  some x1
theorem tz_sh_limit {sc : am_S} {h : am_H} {x0 : Int32} {x1 : Int32} {x2 : Int32} {r : Int32} (hF : fz_sh_limit x0 x1 x2 = some r) : am_ev sc 1 100 [.int x0, .int x1, .int x2] (h) ((.inl (some (.int r)), h, false) : am_R) := by
  unfold fz_sh_limit at hF
  refine am_ev.of false rfl ?_
  show am_go sc _ _ _ _ (0, [some (.int x0), some (.int x1), some (.int x2)], [], h, false) _
  refine am_go.blk hcd_sh_limit 3 (g := (bif decide (x1 ≤ x0) then 7 else 5, [some (.int x0), some (.int x1), some (.int x2)], [], h, false)) rfl ?_
  refine am_go.br (fun hP => ?_) (fun hP => ?_)
  · replace hF := (if_pos hP).symm.trans hF
    refine am_go.blk hcd_sh_limit 3 (g := (bif decide (x0 ≤ x2) then 16 else 12, [some (.int x0), some (.int x1), some (.int x2)], [], h, false)) rfl ?_
    refine am_go.br (fun hP => ?_) (fun hP => ?_)
    · replace hF := (if_pos hP).symm.trans hF
      refine am_go.blk hcd_sh_limit 1 (g := (17, [some (.int x0), some (.int x1), some (.int x2)], [.int x0], h, false)) rfl ?_
      cases hF
      exact am_go.ret hcd_sh_limit rfl rfl ⟨rfl, rfl, (fun _ => rfl), Or.inl rfl, rfl⟩
    · replace hF := (if_neg hP).symm.trans hF
      refine am_go.blk hcd_sh_limit 2 (g := (17, [some (.int x0), some (.int x1), some (.int x2)], [.int x2], h, false)) rfl ?_
      cases hF
      exact am_go.ret hcd_sh_limit rfl rfl ⟨rfl, rfl, (fun _ => rfl), Or.inl rfl, rfl⟩
  · replace hF := (if_neg hP).symm.trans hF
    refine am_go.blk hcd_sh_limit 1 (g := (6, [some (.int x0), some (.int x1), some (.int x2)], [.int x1], h, false)) rfl ?_
    cases hF
    exact am_go.ret hcd_sh_limit rfl rfl ⟨rfl, rfl, (fun _ => rfl), Or.inl rfl, rfl⟩
theorem hcd_sp_start : am_code 34 = am_c_sp_start := rfl
def fz_sp_start_14 (s : am_Z) (x1 : Int32) (x2 : Int32) : Option (am_Z) :=
  (fz_sh_limit x2 (0 : Int32) (88 : Int32)).bind fun q1 =>
  some (zz_i (zz_i s 26 x1) 27 q1)
theorem tz_sp_start_14 {sc : am_S} {t : am_H} {s : am_Z} {x1 : Int32} {x2 : Int32} {r : am_Z} (hF : fz_sp_start_14 s x1 x2 = some r) : am_ev sc 2 34 [.ref 14, .int x1, .int x2] (zz_hC s t) ((.inl (none), zz_hC r t, true) : am_R) := by
  unfold fz_sp_start_14 at hF
  refine am_ev.of true rfl ?_
  show am_go sc _ _ _ _ (0, [some (.ref 14), some (.int x1), some (.int x2)], [], zz_hC s t, true) _
  refine am_go.blk hcd_sp_start 7 (g := (10, [some (.ref 14), some (.int x1), some (.int x2)], [.int (88 : Int32), .int (0 : Int32), .int x2, .ref 14], zz_hC (zz_i s 26 x1) t, true)) rfl ?_
  obtain ⟨q1, hq1, hF⟩ := am_bd hF
  refine am_go.call hcd_sp_start rfl rfl rfl rfl (am_le8 rfl) (am_ev.le (by decide) (tz_sh_limit (h := zz_hC (zz_i s 26 x1) t) hq1)) ?_
  refine am_go.blk hcd_sp_start 1 (g := (16, [some (.ref 14), some (.int x1), some (.int x2)], [], zz_hC (zz_i (zz_i s 26 x1) 27 q1) t, true)) rfl ?_
  cases hF
  exact am_go.ret hcd_sp_start rfl rfl ⟨rfl, rfl, (fun h => by cases h), rfl, rfl⟩
theorem hcd_sp_next : am_code 35 = am_c_sp_next := rfl
def fz_sp_next_14_69 (s : am_Z) (y0 : Int32) : Option (Int32) :=
  (fz_sh_limit y0 (-32768 : Int32) (32767 : Int32)).bind fun q1 =>
  some q1
theorem tz_sp_next_14_69 {sc : am_S} {t : am_H} {h0 : am_H} {s : am_Z}  {y0 : Int32} {r : Int32} (hF : fz_sp_next_14_69 s y0 = some r) : am_go sc 2 (am_ev sc 1) 35 h0 (69, [none, none, none, none, none], [.int y0], zz_hC s t, false) ((.inl (some (.int r)), zz_hC s t, false) : am_R) := by
  unfold fz_sp_next_14_69 at hF
  refine am_go.blk hcd_sp_next 4 (g := (79, [none, none, none, none, some (.int y0)], [.int (32767 : Int32), .int (-32768 : Int32), .int y0], zz_hC s t, false)) rfl ?_
  obtain ⟨q1, hq1, hF⟩ := am_bd hF
  refine am_go.call hcd_sp_next rfl rfl rfl rfl (am_le8 rfl) (am_ev.le (by decide) (tz_sh_limit (h := zz_hC s t) hq1)) ?_
  cases hF
  exact am_go.ret hcd_sp_next rfl rfl ⟨rfl, rfl, (fun _ => rfl), Or.inl rfl, rfl⟩
def fz_sp_next_14_47 (s : am_Z) (x1 : Int32) (x3 : Int32) : Option (Int32) :=
  if (x1 &&& (8 : Int32)) = 0 then
    fz_sp_next_14_69 s ((s.1 26) + x3)
  else
  fz_sp_next_14_69 s ((s.1 26) - x3)
theorem tz_sp_next_14_47 {sc : am_S} {t : am_H} {h0 : am_H} {s : am_Z}  {x1 : Int32} {x3 : Int32} {r : Int32} (hF : fz_sp_next_14_47 s x1 x3 = some r) : am_go sc 2 (am_ev sc 1) 35 h0 (47, [some (.ref 14), some (.int x1), none, some (.int x3), none], [], zz_hC s t, false) ((.inl (some (.int r)), zz_hC s t, false) : am_R) := by
  unfold fz_sp_next_14_47 at hF
  refine am_go.blk hcd_sp_next 4 (g := (bif decide ((x1 &&& (8 : Int32)) = 0) then 63 else 54, [some (.ref 14), some (.int x1), none, some (.int x3), none], [], zz_hC s t, false)) rfl ?_
  refine am_go.br (fun hP => ?_) (fun hP => ?_)
  · replace hF := (if_pos hP).symm.trans hF
    refine am_go.blk hcd_sp_next 4 (g := (69, [some (.ref 14), some (.int x1), none, some (.int x3), none], [.int ((s.1 26) + x3)], zz_hC s t, false)) rfl ?_
    refine am_go.fgl [none, none, none, none, none] trivial ?_
    exact tz_sp_next_14_69  hF
  · replace hF := (if_neg hP).symm.trans hF
    refine am_go.blk hcd_sp_next 5 (g := (69, [some (.ref 14), some (.int x1), none, some (.int x3), none], [.int ((s.1 26) - x3)], zz_hC s t, false)) rfl ?_
    refine am_go.fgl [none, none, none, none, none] trivial ?_
    exact tz_sp_next_14_69  hF
def fz_sp_next_14_37 (s : am_Z) (x1 : Int32) (x2 : Int32) (x3 : Int32) : Option (Int32) :=
  if (x1 &&& (4 : Int32)) = 0 then
    fz_sp_next_14_47 s x1 x3
  else
  fz_sp_next_14_47 s x1 (x3 + x2)
theorem tz_sp_next_14_37 {sc : am_S} {t : am_H} {h0 : am_H} {s : am_Z}  {x1 : Int32} {x2 : Int32} {x3 : Int32} {r : Int32} (hF : fz_sp_next_14_37 s x1 x2 x3 = some r) : am_go sc 2 (am_ev sc 1) 35 h0 (37, [some (.ref 14), some (.int x1), some (.int x2), some (.int x3), none], [], zz_hC s t, false) ((.inl (some (.int r)), zz_hC s t, false) : am_R) := by
  unfold fz_sp_next_14_37 at hF
  refine am_go.blk hcd_sp_next 4 (g := (bif decide ((x1 &&& (4 : Int32)) = 0) then 47 else 43, [some (.ref 14), some (.int x1), some (.int x2), some (.int x3), none], [], zz_hC s t, false)) rfl ?_
  refine am_go.br (fun hP => ?_) (fun hP => ?_)
  · replace hF := (if_pos hP).symm.trans hF
    refine am_go.fgl [some (.ref 14), some (.int x1), none, some (.int x3), none] ⟨rfl, rfl, rfl, trivial⟩ ?_
    exact tz_sp_next_14_47  hF
  · replace hF := (if_neg hP).symm.trans hF
    refine am_go.blk hcd_sp_next 4 (g := (47, [some (.ref 14), some (.int x1), some (.int x2), some (.int (x3 + x2)), none], [], zz_hC s t, false)) rfl ?_
    refine am_go.fgl [some (.ref 14), some (.int x1), none, some (.int (x3 + x2)), none] ⟨rfl, rfl, rfl, trivial⟩ ?_
    exact tz_sp_next_14_47  hF
def fz_sp_next_14_25 (s : am_Z) (x1 : Int32) (x2 : Int32) (x3 : Int32) : Option (Int32) :=
  if (x1 &&& (2 : Int32)) = 0 then
    fz_sp_next_14_37 s x1 x2 x3
  else
  fz_sp_next_14_37 s x1 x2 (x3 + (x2 >>> ((1 : Int32) &&& 31)))
theorem tz_sp_next_14_25 {sc : am_S} {t : am_H} {h0 : am_H} {s : am_Z}  {x1 : Int32} {x2 : Int32} {x3 : Int32} {r : Int32} (hF : fz_sp_next_14_25 s x1 x2 x3 = some r) : am_go sc 2 (am_ev sc 1) 35 h0 (25, [some (.ref 14), some (.int x1), some (.int x2), some (.int x3), none], [], zz_hC s t, false) ((.inl (some (.int r)), zz_hC s t, false) : am_R) := by
  unfold fz_sp_next_14_25 at hF
  refine am_go.blk hcd_sp_next 4 (g := (bif decide ((x1 &&& (2 : Int32)) = 0) then 37 else 31, [some (.ref 14), some (.int x1), some (.int x2), some (.int x3), none], [], zz_hC s t, false)) rfl ?_
  refine am_go.br (fun hP => ?_) (fun hP => ?_)
  · replace hF := (if_pos hP).symm.trans hF
    exact tz_sp_next_14_37  hF
  · replace hF := (if_neg hP).symm.trans hF
    refine am_go.blk hcd_sp_next 6 (g := (37, [some (.ref 14), some (.int x1), some (.int x2), some (.int (x3 + (x2 >>> ((1 : Int32) &&& 31)))), none], [], zz_hC s t, false)) rfl ?_
    exact tz_sp_next_14_37  hF
def fz_sp_next_14 (s : am_Z) (x1 : Int32) : Option (Int32) :=
  if (s.1 27) < 0 ∨ 89 ≤ Int32.toNatClampNeg (s.1 27) then none else
  if (x1 &&& (1 : Int32)) = 0 then
    fz_sp_next_14_25 s x1 (am_vSTEPS.getD (Int32.toNatClampNeg (s.1 27)) 0) ((am_vSTEPS.getD (Int32.toNatClampNeg (s.1 27)) 0) >>> ((3 : Int32) &&& 31))
  else
  fz_sp_next_14_25 s x1 (am_vSTEPS.getD (Int32.toNatClampNeg (s.1 27)) 0) (((am_vSTEPS.getD (Int32.toNatClampNeg (s.1 27)) 0) >>> ((3 : Int32) &&& 31)) + ((am_vSTEPS.getD (Int32.toNatClampNeg (s.1 27)) 0) >>> ((2 : Int32) &&& 31)))
theorem tz_sp_next_14 {sc : am_S} {t : am_H} {s : am_Z} {x1 : Int32} {r : Int32} (hF : fz_sp_next_14 s x1 = some r) : am_ev sc 2 35 [.ref 14, .int x1] (zz_hC s t) ((.inl (some (.int r)), zz_hC s t, false) : am_R) := by
  unfold fz_sp_next_14 at hF
  refine am_ev.of false rfl ?_
  show am_go sc _ _ _ _ (0, [some (.ref 14), some (.int x1), none, none, none], [], zz_hC s t, false) _
  refine am_go.blk hcd_sp_next 3 (g := (7, [some (.ref 14), some (.int x1), none, none, none], [.int (s.1 27), .float 0], zz_hC s t, false)) rfl ?_
  obtain ⟨hi1, hF⟩ := am_ng hF
  refine am_go.iald hcd_sp_next rfl rfl hi1 ?_
  refine am_go.blk hcd_sp_next 9 (g := (bif decide ((x1 &&& (1 : Int32)) = 0) then 25 else 19, [some (.ref 14), some (.int x1), some (.int (am_vSTEPS.getD (Int32.toNatClampNeg (s.1 27)) 0)), some (.int ((am_vSTEPS.getD (Int32.toNatClampNeg (s.1 27)) 0) >>> ((3 : Int32) &&& 31))), none], [], zz_hC s t, false)) rfl ?_
  refine am_go.br (fun hP => ?_) (fun hP => ?_)
  · replace hF := (if_pos hP).symm.trans hF
    exact tz_sp_next_14_25  hF
  · replace hF := (if_neg hP).symm.trans hF
    refine am_go.blk hcd_sp_next 6 (g := (25, [some (.ref 14), some (.int x1), some (.int (am_vSTEPS.getD (Int32.toNatClampNeg (s.1 27)) 0)), some (.int (((am_vSTEPS.getD (Int32.toNatClampNeg (s.1 27)) 0) >>> ((3 : Int32) &&& 31)) + ((am_vSTEPS.getD (Int32.toNatClampNeg (s.1 27)) 0) >>> ((2 : Int32) &&& 31)))), none], [], zz_hC s t, false)) rfl ?_
    exact tz_sp_next_14_25  hF
theorem hcd_sp_accept : am_code 36 = am_c_sp_accept := rfl
def fz_sp_accept_14 (s : am_Z) (x1 : Int32) (x2 : Int32) : Option (am_Z) :=
  if (x1 &&& (7 : Int32)) < 0 ∨ 8 ≤ Int32.toNatClampNeg (x1 &&& (7 : Int32)) then none else
  (fz_sh_limit ((s.1 27) + (am_vINDEXCHANGES.getD (Int32.toNatClampNeg (x1 &&& (7 : Int32))) 0)) (0 : Int32) (88 : Int32)).bind fun q2 =>
  some (zz_i (zz_i s 26 x2) 27 q2)
theorem tz_sp_accept_14 {sc : am_S} {t : am_H} {s : am_Z} {x1 : Int32} {x2 : Int32} {r : am_Z} (hF : fz_sp_accept_14 s x1 x2 = some r) : am_ev sc 2 36 [.ref 14, .int x1, .int x2] (zz_hC s t) ((.inl (none), zz_hC r t, true) : am_R) := by
  unfold fz_sp_accept_14 at hF
  refine am_ev.of true rfl ?_
  show am_go sc _ _ _ _ (0, [some (.ref 14), some (.int x1), some (.int x2)], [], zz_hC s t, true) _
  refine am_go.blk hcd_sp_accept 10 (g := (17, [some (.ref 14), some (.int x1), some (.int x2)], [.int (x1 &&& (7 : Int32)), .float 1, .int (s.1 27), .ref 14], zz_hC (zz_i s 26 x2) t, true)) rfl ?_
  obtain ⟨hi1, hF⟩ := am_ng hF
  refine am_go.iald hcd_sp_accept rfl rfl hi1 ?_
  refine am_go.blk hcd_sp_accept 3 (g := (22, [some (.ref 14), some (.int x1), some (.int x2)], [.int (88 : Int32), .int (0 : Int32), .int ((s.1 27) + (am_vINDEXCHANGES.getD (Int32.toNatClampNeg (x1 &&& (7 : Int32))) 0)), .ref 14], zz_hC (zz_i s 26 x2) t, true)) rfl ?_
  obtain ⟨q2, hq2, hF⟩ := am_bd hF
  refine am_go.call hcd_sp_accept rfl rfl rfl rfl (am_le8 rfl) (am_ev.le (by decide) (tz_sh_limit (h := zz_hC (zz_i s 26 x2) t) hq2)) ?_
  refine am_go.blk hcd_sp_accept 1 (g := (28, [some (.ref 14), some (.int x1), some (.int x2)], [], zz_hC (zz_i (zz_i s 26 x2) 27 q2) t, true)) rfl ?_
  cases hF
  exact am_go.ret hcd_sp_accept rfl rfl ⟨rfl, rfl, (fun h => by cases h), rfl, rfl⟩
theorem hcd_pr_start : am_code 30 = am_c_pr_start := rfl
def fz_pr_start_15 (s : am_Z) (x1 : Int32) (x2 : Int32) (x3 : Int32) (x4 : Int32) : Option (am_Z) :=
  (fz_sh_limit x4 (0 : Int32) (6 : Int32)).bind fun q1 =>
  some (zz_i (zz_i (zz_i (zz_i s 29 x1) 28 x2) 30 x3) 31 q1)
theorem tz_pr_start_15 {sc : am_S} {t : am_H} {s : am_Z} {x1 : Int32} {x2 : Int32} {x3 : Int32} {x4 : Int32} {r : am_Z} (hF : fz_pr_start_15 s x1 x2 x3 x4 = some r) : am_ev sc 2 30 [.ref 15, .int x1, .int x2, .int x3, .int x4] (zz_hC s t) ((.inl (none), zz_hC r t, true) : am_R) := by
  unfold fz_pr_start_15 at hF
  refine am_ev.of true rfl ?_
  show am_go sc _ _ _ _ (0, [some (.ref 15), some (.int x1), some (.int x2), some (.int x3), some (.int x4)], [], zz_hC s t, true) _
  refine am_go.blk hcd_pr_start 13 (g := (21, [some (.ref 15), some (.int x1), some (.int x2), some (.int x3), some (.int x4)], [.int (6 : Int32), .int (0 : Int32), .int x4, .ref 15], zz_hC (zz_i (zz_i (zz_i s 29 x1) 28 x2) 30 x3) t, true)) rfl ?_
  obtain ⟨q1, hq1, hF⟩ := am_bd hF
  refine am_go.call hcd_pr_start rfl rfl rfl rfl (am_le8 rfl) (am_ev.le (by decide) (tz_sh_limit (h := zz_hC (zz_i (zz_i (zz_i s 29 x1) 28 x2) 30 x3) t) hq1)) ?_
  refine am_go.blk hcd_pr_start 1 (g := (27, [some (.ref 15), some (.int x1), some (.int x2), some (.int x3), some (.int x4)], [], zz_hC (zz_i (zz_i (zz_i (zz_i s 29 x1) 28 x2) 30 x3) 31 q1) t, true)) rfl ?_
  cases hF
  exact am_go.ret hcd_pr_start rfl rfl ⟨rfl, rfl, (fun h => by cases h), rfl, rfl⟩
theorem hcd_pr_next : am_code 31 = am_c_pr_next := rfl
def fz_pr_next_15_14 (s : am_Z) (y0 : Int32) : Option (Int32) :=
  if ((2 : Int32) * (s.1 31)) < 0 ∨ 14 ≤ Int32.toNatClampNeg ((2 : Int32) * (s.1 31)) then none else
  if (((2 : Int32) * (s.1 31)) + (1 : Int32)) < 0 ∨ 14 ≤ Int32.toNatClampNeg (((2 : Int32) * (s.1 31)) + (1 : Int32)) then none else
  (fz_sh_limit (((((s.1 28) * (am_vPAIRS.getD (Int32.toNatClampNeg ((2 : Int32) * (s.1 31))) 0)) + ((s.1 29) * (am_vPAIRS.getD (Int32.toNatClampNeg (((2 : Int32) * (s.1 31)) + (1 : Int32))) 0))) >>> ((8 : Int32) &&& 31)) + (y0 * (s.1 30))) (-32768 : Int32) (32767 : Int32)).bind fun q3 =>
  some q3
theorem tz_pr_next_15_14 {sc : am_S} {t : am_H} {h0 : am_H} {s : am_Z}  {y0 : Int32} {r : Int32} (hF : fz_pr_next_15_14 s y0 = some r) : am_go sc 2 (am_ev sc 1) 31 h0 (14, [some (.ref 15), none, none, none], [.int y0], zz_hC s t, false) ((.inl (some (.int r)), zz_hC s t, false) : am_R) := by
  unfold fz_pr_next_15_14 at hF
  refine am_go.blk hcd_pr_next 8 (g := (28, [some (.ref 15), none, some (.int y0), none], [.int ((2 : Int32) * (s.1 31)), .float 2, .int (s.1 28)], zz_hC s t, false)) rfl ?_
  obtain ⟨hi1, hF⟩ := am_ng hF
  refine am_go.iald hcd_pr_next rfl rfl hi1 ?_
  refine am_go.blk hcd_pr_next 10 (g := (45, [some (.ref 15), none, some (.int y0), none], [.int (((2 : Int32) * (s.1 31)) + (1 : Int32)), .float 2, .int (s.1 29), .int ((s.1 28) * (am_vPAIRS.getD (Int32.toNatClampNeg ((2 : Int32) * (s.1 31))) 0))], zz_hC s t, false)) rfl ?_
  obtain ⟨hi2, hF⟩ := am_ng hF
  refine am_go.iald hcd_pr_next rfl rfl hi2 ?_
  refine am_go.blk hcd_pr_next 13 (g := (66, [some (.ref 15), none, some (.int y0), some (.int ((((s.1 28) * (am_vPAIRS.getD (Int32.toNatClampNeg ((2 : Int32) * (s.1 31))) 0)) + ((s.1 29) * (am_vPAIRS.getD (Int32.toNatClampNeg (((2 : Int32) * (s.1 31)) + (1 : Int32))) 0))) >>> ((8 : Int32) &&& 31)))], [.int (32767 : Int32), .int (-32768 : Int32), .int (((((s.1 28) * (am_vPAIRS.getD (Int32.toNatClampNeg ((2 : Int32) * (s.1 31))) 0)) + ((s.1 29) * (am_vPAIRS.getD (Int32.toNatClampNeg (((2 : Int32) * (s.1 31)) + (1 : Int32))) 0))) >>> ((8 : Int32) &&& 31)) + (y0 * (s.1 30)))], zz_hC s t, false)) rfl ?_
  obtain ⟨q3, hq3, hF⟩ := am_bd hF
  refine am_go.call hcd_pr_next rfl rfl rfl rfl (am_le8 rfl) (am_ev.le (by decide) (tz_sh_limit (h := zz_hC s t) hq3)) ?_
  cases hF
  exact am_go.ret hcd_pr_next rfl rfl ⟨rfl, rfl, (fun _ => rfl), Or.inl rfl, rfl⟩
def fz_pr_next_15 (s : am_Z) (x1 : Int32) : Option (Int32) :=
  if (8 : Int32) ≤ x1 then
    fz_pr_next_15_14 s (x1 - (16 : Int32))
  else
  fz_pr_next_15_14 s x1
theorem tz_pr_next_15 {sc : am_S} {t : am_H} {s : am_Z} {x1 : Int32} {r : Int32} (hF : fz_pr_next_15 s x1 = some r) : am_ev sc 2 31 [.ref 15, .int x1] (zz_hC s t) ((.inl (some (.int r)), zz_hC s t, false) : am_R) := by
  unfold fz_pr_next_15 at hF
  refine am_ev.of false rfl ?_
  show am_go sc _ _ _ _ (0, [some (.ref 15), some (.int x1), none, none], [], zz_hC s t, false) _
  refine am_go.blk hcd_pr_next 3 (g := (bif decide ((8 : Int32) ≤ x1) then 10 else 6, [some (.ref 15), some (.int x1), none, none], [], zz_hC s t, false)) rfl ?_
  refine am_go.br (fun hP => ?_) (fun hP => ?_)
  · replace hF := (if_pos hP).symm.trans hF
    refine am_go.blk hcd_pr_next 3 (g := (14, [some (.ref 15), some (.int x1), none, none], [.int (x1 - (16 : Int32))], zz_hC s t, false)) rfl ?_
    refine am_go.fgl [some (.ref 15), none, none, none] ⟨rfl, trivial⟩ ?_
    exact tz_pr_next_15_14  hF
  · replace hF := (if_neg hP).symm.trans hF
    refine am_go.blk hcd_pr_next 2 (g := (14, [some (.ref 15), some (.int x1), none, none], [.int x1], zz_hC s t, false)) rfl ?_
    refine am_go.fgl [some (.ref 15), none, none, none] ⟨rfl, trivial⟩ ?_
    exact tz_pr_next_15_14  hF
theorem hcd_pr_accept : am_code 32 = am_c_pr_accept := rfl
def fz_pr_accept_15 (s : am_Z) (x1 : Int32) (x2 : Int32) : Option (am_Z) :=
  if (x1 &&& (15 : Int32)) < 0 ∨ 16 ≤ Int32.toNatClampNeg (x1 &&& (15 : Int32)) then none else
  (fz_sh_limit (((s.1 30) * (am_vDELTAFACTORS.getD (Int32.toNatClampNeg (x1 &&& (15 : Int32))) 0)) >>> ((8 : Int32) &&& 31)) (16 : Int32) (32767 : Int32)).bind fun q2 =>
  some (zz_i (zz_i (zz_i s 29 (s.1 28)) 28 x2) 30 q2)
theorem tz_pr_accept_15 {sc : am_S} {t : am_H} {s : am_Z} {x1 : Int32} {x2 : Int32} {r : am_Z} (hF : fz_pr_accept_15 s x1 x2 = some r) : am_ev sc 2 32 [.ref 15, .int x1, .int x2] (zz_hC s t) ((.inl (none), zz_hC r t, true) : am_R) := by
  unfold fz_pr_accept_15 at hF
  refine am_ev.of true rfl ?_
  show am_go sc _ _ _ _ (0, [some (.ref 15), some (.int x1), some (.int x2)], [], zz_hC s t, true) _
  refine am_go.blk hcd_pr_accept 14 (g := (25, [some (.ref 15), some (.int x1), some (.int x2)], [.int (x1 &&& (15 : Int32)), .float 3, .int (s.1 30), .ref 15], zz_hC (zz_i (zz_i s 29 (s.1 28)) 28 x2) t, true)) rfl ?_
  obtain ⟨hi1, hF⟩ := am_ng hF
  refine am_go.iald hcd_pr_accept rfl rfl hi1 ?_
  refine am_go.blk hcd_pr_accept 5 (g := (35, [some (.ref 15), some (.int x1), some (.int x2)], [.int (32767 : Int32), .int (16 : Int32), .int (((s.1 30) * (am_vDELTAFACTORS.getD (Int32.toNatClampNeg (x1 &&& (15 : Int32))) 0)) >>> ((8 : Int32) &&& 31)), .ref 15], zz_hC (zz_i (zz_i s 29 (s.1 28)) 28 x2) t, true)) rfl ?_
  obtain ⟨q2, hq2, hF⟩ := am_bd hF
  refine am_go.call hcd_pr_accept rfl rfl rfl rfl (am_le8 rfl) (am_ev.le (by decide) (tz_sh_limit (h := zz_hC (zz_i (zz_i s 29 (s.1 28)) 28 x2) t) hq2)) ?_
  refine am_go.blk hcd_pr_accept 1 (g := (41, [some (.ref 15), some (.int x1), some (.int x2)], [], zz_hC (zz_i (zz_i (zz_i s 29 (s.1 28)) 28 x2) 30 q2) t, true)) rfl ?_
  cases hF
  exact am_go.ret hcd_pr_accept rfl rfl ⟨rfl, rfl, (fun h => by cases h), rfl, rfl⟩
theorem hcd_so_copyFrom : am_code 28 = am_c_so_copyFrom := rfl
def fz_so_copyFrom_1_11 (s : am_Z) : Option (am_Z) :=
  if (0 : Int32) < 0 ∨ (0 : Int32) < 0 ∨ (s.1 20) < 0 ∨ 64 < Int32.toNatClampNeg (0 : Int32) + Int32.toNatClampNeg (s.1 20) ∨ 64 < Int32.toNatClampNeg (0 : Int32) + Int32.toNatClampNeg (s.1 20) ∨ 12 = 2 then none else
  some (zz_i (zz_i (zz_r s 0 (va_cpy (s.2.2 3) (s.2.2 0) (Int32.toNatClampNeg (0 : Int32)) (Int32.toNatClampNeg (0 : Int32)) (Int32.toNatClampNeg (s.1 20)))) 1 (s.1 20)) 2 (s.1 21))
theorem tz_so_copyFrom_1_11 {sc : am_S} {t : am_H} {s : am_Z} {r : am_Z} (hF : fz_so_copyFrom_1_11 s = some r) : am_ev sc 1 28 [.ref 1, .ref 11] (zz_hC s t) ((.inl (none), zz_hC r t, true) : am_R) := by
  unfold fz_so_copyFrom_1_11 at hF
  refine am_ev.of true rfl ?_
  show am_go sc _ _ _ _ (0, [some (.ref 1), some (.ref 11)], [], zz_hC s t, true) _
  refine am_go.blk hcd_so_copyFrom 8 (g := (14, [some (.ref 1), some (.ref 11)], [.int (s.1 20), .int (0 : Int32), .ref 2, .int (0 : Int32), .ref 12], zz_hC s t, true)) rfl ?_
  obtain ⟨hi1, hF⟩ := am_ng hF
  refine am_go.acpy hcd_so_copyFrom rfl rfl rfl hi1 rfl ?_
  refine am_go.blk hcd_so_copyFrom 8 (g := (33, [some (.ref 1), some (.ref 11)], [], zz_hC (zz_i (zz_i (zz_r s 0 (va_cpy (s.2.2 3) (s.2.2 0) (Int32.toNatClampNeg (0 : Int32)) (Int32.toNatClampNeg (0 : Int32)) (Int32.toNatClampNeg (s.1 20)))) 1 (s.1 20)) 2 (s.1 21)) t, true)) rfl ?_
  cases hF
  exact am_go.ret hcd_so_copyFrom rfl rfl ⟨rfl, rfl, (fun h => by cases h), rfl, rfl⟩
theorem hcd_sh_isWritable : am_code 96 = am_c_sh_isWritable := rfl
def fz_sh_isWritable_53   : Option (Int32) :=
  some (0 : Int32)
theorem tz_sh_isWritable_53 {sc : am_S} {h : am_H} {h0 : am_H}    {r : Int32} (hF : fz_sh_isWritable_53  = some r) : am_go sc 1 (am_ev sc 0) 96 h0 (53, [none, none], [], h, false) ((.inl (some (.int r)), h, false) : am_R) := by
  unfold fz_sh_isWritable_53 at hF
  refine am_go.blk hcd_sh_isWritable 1 (g := (54, [none, none], [.int (0 : Int32)], h, false)) rfl ?_
  cases hF
  exact am_go.ret hcd_sh_isWritable rfl rfl ⟨rfl, rfl, (fun _ => rfl), Or.inr ⟨rfl, Or.inl rfl⟩, rfl⟩
def fz_sh_isWritable_38  (x1 : Int32) : Option (Int32) :=
  if x1 < (1 : Int32) then
    fz_sh_isWritable_53
  else
  if (8 : Int32) < x1 then
    fz_sh_isWritable_53
  else
  some (1 : Int32)
theorem tz_sh_isWritable_38 {sc : am_S} {h : am_H} {h0 : am_H}   {x1 : Int32} {r : Int32} (hF : fz_sh_isWritable_38 x1 = some r) : am_go sc 1 (am_ev sc 0) 96 h0 (38, [none, some (.int x1)], [], h, false) ((.inl (some (.int r)), h, false) : am_R) := by
  unfold fz_sh_isWritable_38 at hF
  refine am_go.blk hcd_sh_isWritable 3 (g := (bif decide (x1 < (1 : Int32)) then 53 else 43, [none, some (.int x1)], [], h, false)) rfl ?_
  refine am_go.br (fun hP => ?_) (fun hP => ?_)
  · replace hF := (if_pos hP).symm.trans hF
    refine am_go.fgl [none, none] trivial ?_
    exact tz_sh_isWritable_53  hF
  · replace hF := (if_neg hP).symm.trans hF
    refine am_go.blk hcd_sh_isWritable 3 (g := (bif decide ((8 : Int32) < x1) then 53 else 49, [none, some (.int x1)], [], h, false)) rfl ?_
    refine am_go.br (fun hP => ?_) (fun hP => ?_)
    · replace hF := (if_pos hP).symm.trans hF
      refine am_go.fgl [none, none] trivial ?_
      exact tz_sh_isWritable_53  hF
    · replace hF := (if_neg hP).symm.trans hF
      refine am_go.blk hcd_sh_isWritable 2 (g := (54, [none, some (.int x1)], [.int (1 : Int32)], h, false)) rfl ?_
      cases hF
      exact am_go.ret hcd_sh_isWritable rfl rfl ⟨rfl, rfl, (fun _ => rfl), Or.inr ⟨rfl, Or.inr rfl⟩, rfl⟩
def fz_sh_isWritable_70   : Option (Int32) :=
  some (0 : Int32)
theorem tz_sh_isWritable_70 {sc : am_S} {h : am_H} {h0 : am_H}    {r : Int32} (hF : fz_sh_isWritable_70  = some r) : am_go sc 1 (am_ev sc 0) 96 h0 (70, [none, none], [], h, false) ((.inl (some (.int r)), h, false) : am_R) := by
  unfold fz_sh_isWritable_70 at hF
  refine am_go.blk hcd_sh_isWritable 1 (g := (71, [none, none], [.int (0 : Int32)], h, false)) rfl ?_
  cases hF
  exact am_go.ret hcd_sh_isWritable rfl rfl ⟨rfl, rfl, (fun _ => rfl), Or.inr ⟨rfl, Or.inl rfl⟩, rfl⟩
def fz_sh_isWritable (x0 : Int32) (x1 : Int32) : Option (Int32) :=
  if Int32.toInt x0 < 0 ∨ 4 < Int32.toInt x0 then
    some (0 : Int32)
  else
  if x0 = 0 then
    some (1 : Int32)
  else
  if x0 = 1 then
    some (1 : Int32)
  else
  if x0 = 2 then
    fz_sh_isWritable_38 x1
  else
  if x0 = 3 then
    fz_sh_isWritable_38 x1
  else
  if x0 = 4 then
    if x1 < (1 : Int32) then
      fz_sh_isWritable_70
    else
    if (16 : Int32) < x1 then
      fz_sh_isWritable_70
    else
    some (1 : Int32)
  else
  none
theorem tz_sh_isWritable {sc : am_S} {h : am_H} {x0 : Int32} {x1 : Int32} {r : Int32} (hF : fz_sh_isWritable x0 x1 = some r) : am_ev sc 1 96 [.int x0, .int x1] (h) ((.inl (some (.int r)), h, false) : am_R) := by
  unfold fz_sh_isWritable at hF
  refine am_ev.of false rfl ?_
  show am_go sc _ _ _ _ (0, [some (.int x0), some (.int x1)], [], h, false) _
  refine am_go.blk hcd_sh_isWritable 1 (g := (1, [some (.int x0), some (.int x1)], [.int x0], h, false)) rfl ?_
  by_cases hsw : Int32.toInt x0 < 0 ∨ 4 < Int32.toInt x0
  · replace hF := (if_pos hsw).symm.trans hF
    refine am_go.tsO hcd_sh_isWritable rfl hsw rfl (t := 72) ?_
    refine am_go.blk hcd_sh_isWritable 1 (g := (73, [some (.int x0), some (.int x1)], [.int (0 : Int32)], h, false)) rfl ?_
    cases hF
    exact am_go.ret hcd_sh_isWritable rfl rfl ⟨rfl, rfl, (fun _ => rfl), Or.inr ⟨rfl, Or.inl rfl⟩, rfl⟩
  replace hF := (if_neg hsw).symm.trans hF
  by_cases hc : x0 = 0
  · replace hF := (if_pos hc).symm.trans hF
    refine am_go.tsI hcd_sh_isWritable rfl hc (by decide) rfl rfl (t := 36) ?_
    refine am_go.blk hcd_sh_isWritable 1 (g := (37, [some (.int x0), some (.int x1)], [.int (1 : Int32)], h, false)) rfl ?_
    cases hF
    exact am_go.ret hcd_sh_isWritable rfl rfl ⟨rfl, rfl, (fun _ => rfl), Or.inr ⟨rfl, Or.inr rfl⟩, rfl⟩
  replace hF := (if_neg hc).symm.trans hF
  by_cases hc : x0 = 1
  · replace hF := (if_pos hc).symm.trans hF
    refine am_go.tsI hcd_sh_isWritable rfl hc (by decide) rfl rfl (t := 36) ?_
    refine am_go.blk hcd_sh_isWritable 1 (g := (37, [some (.int x0), some (.int x1)], [.int (1 : Int32)], h, false)) rfl ?_
    cases hF
    exact am_go.ret hcd_sh_isWritable rfl rfl ⟨rfl, rfl, (fun _ => rfl), Or.inr ⟨rfl, Or.inr rfl⟩, rfl⟩
  replace hF := (if_neg hc).symm.trans hF
  by_cases hc : x0 = 2
  · replace hF := (if_pos hc).symm.trans hF
    refine am_go.tsI hcd_sh_isWritable rfl hc (by decide) rfl rfl (t := 38) ?_
    refine am_go.fgl [none, some (.int x1)] ⟨rfl, trivial⟩ ?_
    exact tz_sh_isWritable_38  hF
  replace hF := (if_neg hc).symm.trans hF
  by_cases hc : x0 = 3
  · replace hF := (if_pos hc).symm.trans hF
    refine am_go.tsI hcd_sh_isWritable rfl hc (by decide) rfl rfl (t := 38) ?_
    refine am_go.fgl [none, some (.int x1)] ⟨rfl, trivial⟩ ?_
    exact tz_sh_isWritable_38  hF
  replace hF := (if_neg hc).symm.trans hF
  by_cases hc : x0 = 4
  · replace hF := (if_pos hc).symm.trans hF
    refine am_go.tsI hcd_sh_isWritable rfl hc (by decide) rfl rfl (t := 55) ?_
    refine am_go.blk hcd_sh_isWritable 3 (g := (bif decide (x1 < (1 : Int32)) then 70 else 60, [some (.int x0), some (.int x1)], [], h, false)) rfl ?_
    refine am_go.br (fun hP => ?_) (fun hP => ?_)
    · replace hF := (if_pos hP).symm.trans hF
      refine am_go.fgl [none, none] trivial ?_
      exact tz_sh_isWritable_70  hF
    · replace hF := (if_neg hP).symm.trans hF
      refine am_go.blk hcd_sh_isWritable 3 (g := (bif decide ((16 : Int32) < x1) then 70 else 66, [some (.int x0), some (.int x1)], [], h, false)) rfl ?_
      refine am_go.br (fun hP => ?_) (fun hP => ?_)
      · replace hF := (if_pos hP).symm.trans hF
        refine am_go.fgl [none, none] trivial ?_
        exact tz_sh_isWritable_70  hF
      · replace hF := (if_neg hP).symm.trans hF
        refine am_go.blk hcd_sh_isWritable 2 (g := (71, [some (.int x0), some (.int x1)], [.int (1 : Int32)], h, false)) rfl ?_
        cases hF
        exact am_go.ret hcd_sh_isWritable rfl rfl ⟨rfl, rfl, (fun _ => rfl), Or.inr ⟨rfl, Or.inr rfl⟩, rfl⟩
  replace hF := (if_neg hc).symm.trans hF
  cases hF
def fz_fm_setTag_6 (s : am_Z) (x1 : Int32) : Option (am_Z) :=
  if ¬ x1 = (17 : Int32) then
    if ¬ x1 = (2 : Int32) then
      some (zz_i (zz_i s 4 x1) 5 (0 : Int32))
    else
    some (zz_i (zz_i s 4 x1) 5 (7 : Int32))
  else
  some (zz_i (zz_i s 4 x1) 5 (4 : Int32))
theorem tz_fm_setTag_6 {sc : am_S} {t : am_H} {s : am_Z} {x1 : Int32} {r : am_Z} (hF : fz_fm_setTag_6 s x1 = some r) : am_ev sc 1 15 [.ref 6, .int x1] (zz_hC s t) ((.inl (none), zz_hC r t, true) : am_R) := by
  unfold fz_fm_setTag_6 at hF
  refine am_ev.of true rfl ?_
  show am_go sc _ _ _ _ (0, [some (.ref 6), some (.int x1)], [], zz_hC s t, true) _
  refine am_go.blk hcd_fm_setTag 10 (g := (bif decide (¬ x1 = (17 : Int32)) then 27 else 19, [some (.ref 6), some (.int x1)], [], zz_hC (zz_i (zz_i s 4 x1) 5 (0 : Int32)) t, true)) rfl ?_
  refine am_go.br (fun hP => ?_) (fun hP => ?_)
  · replace hF := (if_pos hP).symm.trans hF
    refine am_go.blk hcd_fm_setTag 4 (g := (bif decide (¬ x1 = (2 : Int32)) then 41 else 35, [some (.ref 6), some (.int x1)], [], zz_hC (zz_i (zz_i s 4 x1) 5 (0 : Int32)) t, true)) rfl ?_
    refine am_go.br (fun hP => ?_) (fun hP => ?_)
    · replace hF := (if_pos hP).symm.trans hF
      cases hF
      exact am_go.ret hcd_fm_setTag rfl rfl ⟨rfl, rfl, (fun h => by cases h), rfl, rfl⟩
    · replace hF := (if_neg hP).symm.trans hF
      refine am_go.blk hcd_fm_setTag 3 (g := (41, [some (.ref 6), some (.int x1)], [], zz_hC (zz_i (zz_i s 4 x1) 5 (7 : Int32)) t, true)) rfl ?_
      cases hF
      exact am_go.ret hcd_fm_setTag rfl rfl ⟨rfl, rfl, (fun h => by cases h), rfl, rfl⟩
  · replace hF := (if_neg hP).symm.trans hF
    refine am_go.blk hcd_fm_setTag 4 (g := (41, [some (.ref 6), some (.int x1)], [], zz_hC (zz_i (zz_i s 4 x1) 5 (4 : Int32)) t, true)) rfl ?_
    cases hF
    exact am_go.ret hcd_fm_setTag rfl rfl ⟨rfl, rfl, (fun h => by cases h), rfl, rfl⟩
def fz_fm_hasBlocks_6_17 (s : am_Z)  : Option (Int32) :=
  some (1 : Int32)
theorem tz_fm_hasBlocks_6_17 {sc : am_S} {t : am_H} {h0 : am_H} {s : am_Z}   {r : Int32} (hF : fz_fm_hasBlocks_6_17 s = some r) : am_go sc 1 (am_ev sc 0) 17 h0 (17, [none], [], zz_hC s t, false) ((.inl (some (.int r)), zz_hC s t, false) : am_R) := by
  unfold fz_fm_hasBlocks_6_17 at hF
  refine am_go.blk hcd_fm_hasBlocks 2 (g := (22, [none], [.int (1 : Int32)], zz_hC s t, false)) rfl ?_
  cases hF
  exact am_go.ret hcd_fm_hasBlocks rfl rfl ⟨rfl, rfl, (fun _ => rfl), Or.inr ⟨rfl, Or.inr rfl⟩, rfl⟩
def fz_fm_hasBlocks_6 (s : am_Z) : Option (Int32) :=
  if (s.1 4) = (17 : Int32) then
    fz_fm_hasBlocks_6_17 s
  else
  if ¬ (s.1 4) = (2 : Int32) then
    some (0 : Int32)
  else
  fz_fm_hasBlocks_6_17 s
theorem tz_fm_hasBlocks_6 {sc : am_S} {t : am_H} {s : am_Z} {r : Int32} (hF : fz_fm_hasBlocks_6 s = some r) : am_ev sc 1 17 [.ref 6] (zz_hC s t) ((.inl (some (.int r)), zz_hC s t, false) : am_R) := by
  unfold fz_fm_hasBlocks_6 at hF
  refine am_ev.of false rfl ?_
  show am_go sc _ _ _ _ (0, [some (.ref 6)], [], zz_hC s t, false) _
  refine am_go.blk hcd_fm_hasBlocks 4 (g := (bif decide ((s.1 4) = (17 : Int32)) then 17 else 9, [some (.ref 6)], [], zz_hC s t, false)) rfl ?_
  refine am_go.br (fun hP => ?_) (fun hP => ?_)
  · replace hF := (if_pos hP).symm.trans hF
    refine am_go.fgl [none] trivial ?_
    exact tz_fm_hasBlocks_6_17  hF
  · replace hF := (if_neg hP).symm.trans hF
    refine am_go.blk hcd_fm_hasBlocks 4 (g := (bif decide (¬ (s.1 4) = (2 : Int32)) then 21 else 17, [some (.ref 6)], [], zz_hC s t, false)) rfl ?_
    refine am_go.br (fun hP => ?_) (fun hP => ?_)
    · replace hF := (if_pos hP).symm.trans hF
      refine am_go.blk hcd_fm_hasBlocks 1 (g := (22, [some (.ref 6)], [.int (0 : Int32)], zz_hC s t, false)) rfl ?_
      cases hF
      exact am_go.ret hcd_fm_hasBlocks rfl rfl ⟨rfl, rfl, (fun _ => rfl), Or.inr ⟨rfl, Or.inl rfl⟩, rfl⟩
    · replace hF := (if_neg hP).symm.trans hF
      refine am_go.fgl [none] trivial ?_
      exact tz_fm_hasBlocks_6_17  hF
def fz_fm_bytesOfNibbles_6 (s : am_Z) : Option (Int32) :=
  some ((s.1 6) - (s.1 5))
theorem tz_fm_bytesOfNibbles_6 {sc : am_S} {t : am_H} {s : am_Z} {r : Int32} (hF : fz_fm_bytesOfNibbles_6 s = some r) : am_ev sc 1 23 [.ref 6] (zz_hC s t) ((.inl (some (.int r)), zz_hC s t, false) : am_R) := by
  unfold fz_fm_bytesOfNibbles_6 at hF
  refine am_ev.of false rfl ?_
  show am_go sc _ _ _ _ (0, [some (.ref 6)], [], zz_hC s t, false) _
  refine am_go.blk hcd_fm_bytesOfNibbles 5 (g := (9, [some (.ref 6)], [.int ((s.1 6) - (s.1 5))], zz_hC s t, false)) rfl ?_
  cases hF
  exact am_go.ret hcd_fm_bytesOfNibbles rfl rfl ⟨rfl, rfl, (fun _ => rfl), Or.inl rfl, rfl⟩
def fz_fm_setAlign_6_39  (y0 : Int32) (y1 : Int32) (y2 : Int32) (s : am_Z) : Option (am_Z) :=
  (fz_ma_max y2 (y1 + y0)).bind fun q1 =>
  some (zz_i s 7 q1)
theorem tz_fm_setAlign_6_39 {sc : am_S} {t : am_H} {h0 : am_H}   {y0 : Int32} {y1 : Int32} {y2 : Int32} {s : am_Z} {r : am_Z} (hF : fz_fm_setAlign_6_39 y0 y1 y2 s = some r) : am_go sc 2 (am_ev sc 1) 16 h0 (39, [none, none], [.int y0, .int y1, .int y2, .ref 6], zz_hC s t, true) ((.inl (none), zz_hC r t, true) : am_R) := by
  unfold fz_fm_setAlign_6_39 at hF
  refine am_go.blk hcd_fm_setAlign 1 (g := (40, [none, none], [.int (y1 + y0), .int y2, .ref 6], zz_hC s t, true)) rfl ?_
  obtain ⟨q1, hq1, hF⟩ := am_bd hF
  refine am_go.call hcd_fm_setAlign rfl rfl rfl rfl (am_le8 rfl) (am_ev.le (by decide) (tz_ma_max (h := zz_hC s t) hq1)) ?_
  refine am_go.blk hcd_fm_setAlign 1 (g := (46, [none, none], [], zz_hC (zz_i s 7 q1) t, true)) rfl ?_
  cases hF
  exact am_go.ret hcd_fm_setAlign rfl rfl ⟨rfl, rfl, (fun h => by cases h), rfl, rfl⟩
def fz_fm_setAlign_6 (s : am_Z) (x1 : Int32) : Option (am_Z) :=
  (fz_fm_hasBlocks_6 (zz_i (zz_i s 6 x1) 7 (1 : Int32))).bind fun q1 =>
  if q1 = 0 then
    some (zz_i (zz_i s 6 x1) 7 (1 : Int32))
  else
  (fz_fm_bytesOfNibbles_6 (zz_i (zz_i s 6 x1) 7 (1 : Int32))).bind fun q2 =>
  if ¬ (s.1 4) = (17 : Int32) then
    fz_fm_setAlign_6_39 (2 : Int32) ((2 : Int32) * q2) (1 : Int32) (zz_i (zz_i s 6 x1) 7 (1 : Int32))
  else
  fz_fm_setAlign_6_39 (1 : Int32) ((2 : Int32) * q2) (1 : Int32) (zz_i (zz_i s 6 x1) 7 (1 : Int32))
theorem tz_fm_setAlign_6 {sc : am_S} {t : am_H} {s : am_Z} {x1 : Int32} {r : am_Z} (hF : fz_fm_setAlign_6 s x1 = some r) : am_ev sc 2 16 [.ref 6, .int x1] (zz_hC s t) ((.inl (none), zz_hC r t, true) : am_R) := by
  unfold fz_fm_setAlign_6 at hF
  refine am_ev.of true rfl ?_
  show am_go sc _ _ _ _ (0, [some (.ref 6), some (.int x1)], [], zz_hC s t, true) _
  refine am_go.blk hcd_fm_setAlign 7 (g := (11, [some (.ref 6), some (.int x1)], [.ref 6], zz_hC (zz_i (zz_i s 6 x1) 7 (1 : Int32)) t, true)) rfl ?_
  obtain ⟨q1, hq1, hF⟩ := am_bd hF
  refine am_go.call hcd_fm_setAlign rfl rfl rfl rfl (am_le8 rfl) (am_ev.le (by decide) (tz_fm_hasBlocks_6 (t := t) hq1)) ?_
  refine am_go.blk hcd_fm_setAlign 1 (g := (bif decide (q1 = 0) then 46 else 17, [some (.ref 6), some (.int x1)], [], zz_hC (zz_i (zz_i s 6 x1) 7 (1 : Int32)) t, true)) rfl ?_
  refine am_go.br (fun hP => ?_) (fun hP => ?_)
  · replace hF := (if_pos hP).symm.trans hF
    cases hF
    exact am_go.ret hcd_fm_setAlign rfl rfl ⟨rfl, rfl, (fun h => by cases h), rfl, rfl⟩
  · replace hF := (if_neg hP).symm.trans hF
    refine am_go.blk hcd_fm_setAlign 4 (g := (21, [some (.ref 6), some (.int x1)], [.ref 6, .int (2 : Int32), .int (1 : Int32), .ref 6], zz_hC (zz_i (zz_i s 6 x1) 7 (1 : Int32)) t, true)) rfl ?_
    obtain ⟨q2, hq2, hF⟩ := am_bd hF
    refine am_go.call hcd_fm_setAlign rfl rfl rfl rfl (am_le8 rfl) (am_ev.le (by decide) (tz_fm_bytesOfNibbles_6 (t := t) hq2)) ?_
    refine am_go.blk hcd_fm_setAlign 5 (g := (bif decide (¬ (s.1 4) = (17 : Int32)) then 38 else 34, [some (.ref 6), some (.int x1)], [.int ((2 : Int32) * q2), .int (1 : Int32), .ref 6], zz_hC (zz_i (zz_i s 6 x1) 7 (1 : Int32)) t, true)) rfl ?_
    refine am_go.br (fun hP => ?_) (fun hP => ?_)
    · replace hF := (if_pos hP).symm.trans hF
      refine am_go.blk hcd_fm_setAlign 1 (g := (39, [some (.ref 6), some (.int x1)], [.int (2 : Int32), .int ((2 : Int32) * q2), .int (1 : Int32), .ref 6], zz_hC (zz_i (zz_i s 6 x1) 7 (1 : Int32)) t, true)) rfl ?_
      refine am_go.fgl [none, none] trivial ?_
      exact tz_fm_setAlign_6_39  hF
    · replace hF := (if_neg hP).symm.trans hF
      refine am_go.blk hcd_fm_setAlign 2 (g := (39, [some (.ref 6), some (.int x1)], [.int (1 : Int32), .int ((2 : Int32) * q2), .int (1 : Int32), .ref 6], zz_hC (zz_i (zz_i s 6 x1) 7 (1 : Int32)) t, true)) rfl ?_
      refine am_go.fgl [none, none] trivial ?_
      exact tz_fm_setAlign_6_39  hF
def fz_fm_sizeOfData_6 (s : am_Z) (x1 : Int32) : Option (Int32) :=
  if (s.1 7) = 0 then none else
  some ((((x1 + (s.1 7)) - (1 : Int32)) / (s.1 7)) * (s.1 6))
theorem tz_fm_sizeOfData_6 {sc : am_S} {t : am_H} {s : am_Z} {x1 : Int32} {r : Int32} (hF : fz_fm_sizeOfData_6 s x1 = some r) : am_ev sc 1 25 [.ref 6, .int x1] (zz_hC s t) ((.inl (some (.int r)), zz_hC s t, false) : am_R) := by
  unfold fz_fm_sizeOfData_6 at hF
  refine am_ev.of false rfl ?_
  show am_go sc _ _ _ _ (0, [some (.ref 6), some (.int x1)], [], zz_hC s t, false) _
  refine am_go.blk hcd_fm_sizeOfData 8 (g := (12, [some (.ref 6), some (.int x1)], [.int (s.1 7), .int ((x1 + (s.1 7)) - (1 : Int32))], zz_hC s t, false)) rfl ?_
  obtain ⟨hd1, hF⟩ := am_ng hF
  refine am_go.idv hcd_fm_sizeOfData rfl hd1 ?_
  refine am_go.blk hcd_fm_sizeOfData 3 (g := (18, [some (.ref 6), some (.int x1)], [.int ((((x1 + (s.1 7)) - (1 : Int32)) / (s.1 7)) * (s.1 6))], zz_hC s t, false)) rfl ?_
  cases hF
  exact am_go.ret hcd_fm_sizeOfData rfl rfl ⟨rfl, rfl, (fun _ => rfl), Or.inl rfl, rfl⟩
def fz_fm_sizeOfFmt_6 (s : am_Z) : Option (Int32) :=
  if ¬ (s.1 4) = (1 : Int32) then
    if ¬ (s.1 4) = (17 : Int32) then
      some (50 : Int32)
    else
    some (20 : Int32)
  else
  some (16 : Int32)
theorem tz_fm_sizeOfFmt_6 {sc : am_S} {t : am_H} {s : am_Z} {r : Int32} (hF : fz_fm_sizeOfFmt_6 s = some r) : am_ev sc 1 18 [.ref 6] (zz_hC s t) ((.inl (some (.int r)), zz_hC s t, false) : am_R) := by
  unfold fz_fm_sizeOfFmt_6 at hF
  refine am_ev.of false rfl ?_
  show am_go sc _ _ _ _ (0, [some (.ref 6)], [], zz_hC s t, false) _
  refine am_go.blk hcd_fm_sizeOfFmt 4 (g := (bif decide (¬ (s.1 4) = (1 : Int32)) then 11 else 8, [some (.ref 6)], [], zz_hC s t, false)) rfl ?_
  refine am_go.br (fun hP => ?_) (fun hP => ?_)
  · replace hF := (if_pos hP).symm.trans hF
    refine am_go.blk hcd_fm_sizeOfFmt 4 (g := (bif decide (¬ (s.1 4) = (17 : Int32)) then 25 else 20, [some (.ref 6)], [], zz_hC s t, false)) rfl ?_
    refine am_go.br (fun hP => ?_) (fun hP => ?_)
    · replace hF := (if_pos hP).symm.trans hF
      refine am_go.blk hcd_fm_sizeOfFmt 1 (g := (27, [some (.ref 6)], [.int (50 : Int32)], zz_hC s t, false)) rfl ?_
      cases hF
      exact am_go.ret hcd_fm_sizeOfFmt rfl rfl ⟨rfl, rfl, (fun _ => rfl), Or.inl rfl, rfl⟩
    · replace hF := (if_neg hP).symm.trans hF
      refine am_go.blk hcd_fm_sizeOfFmt 2 (g := (27, [some (.ref 6)], [.int (20 : Int32)], zz_hC s t, false)) rfl ?_
      cases hF
      exact am_go.ret hcd_fm_sizeOfFmt rfl rfl ⟨rfl, rfl, (fun _ => rfl), Or.inl rfl, rfl⟩
  · replace hF := (if_neg hP).symm.trans hF
    refine am_go.blk hcd_fm_sizeOfFmt 1 (g := (10, [some (.ref 6)], [.int (16 : Int32)], zz_hC s t, false)) rfl ?_
    cases hF
    exact am_go.ret hcd_fm_sizeOfFmt rfl rfl ⟨rfl, rfl, (fun _ => rfl), Or.inl rfl, rfl⟩
theorem hcd_by_putLittle : am_code 6 = am_c_by_putLittle := rfl
def fz_by_putLittle_3  : Nat → Int64 → Int32 → Int32 → am_Z → Option (am_Z)
  | 0, _, _, _, _ => none
  | n + 1, x1, x3, x4, s =>
    if x3 ≤ x4 then
      some s
    else
    (fz_by_put s (Int64.toInt32 (x1 >>> (Int32.toInt64 ((8 : Int32) * x4) &&& 63)))).bind fun q1 =>
    fz_by_putLittle_3 n x1 x3 (x4 + (1 : Int32)) q1
theorem tz_by_putLittle_3 {sc : am_S} {t : am_H} {h0 : am_H}   : ∀ (n : Nat) (x1 : Int64) (x3 : Int32) (x4 : Int32) (s : am_Z) (r : am_Z), fz_by_putLittle_3  n x1 x3 x4 s = some r → am_go sc 2 (am_ev sc 1) 6 h0 (3, [some (.ref 3), some (.long x1), none, some (.int x3), some (.int x4)], [], zz_hC s t, true) ((.inl (none), zz_hC r t, true) : am_R) := by
  intro n
  induction n with
  | zero => intro x1 x3 x4 s r hF; cases hF
  | succ n ih =>
    intro x1 x3 x4 s r hF
    unfold fz_by_putLittle_3 at hF
    refine am_go.blk hcd_by_putLittle 3 (g := (bif decide (x3 ≤ x4) then 27 else 9, [some (.ref 3), some (.long x1), none, some (.int x3), some (.int x4)], [], zz_hC s t, true)) rfl ?_
    refine am_go.br (fun hP => ?_) (fun hP => ?_)
    · replace hF := (if_pos hP).symm.trans hF
      cases hF
      exact am_go.ret hcd_by_putLittle rfl rfl ⟨rfl, rfl, (fun h => by cases h), rfl, rfl⟩
    · replace hF := (if_neg hP).symm.trans hF
      refine am_go.blk hcd_by_putLittle 7 (g := (18, [some (.ref 3), some (.long x1), none, some (.int x3), some (.int x4)], [.int (Int64.toInt32 (x1 >>> (Int32.toInt64 ((8 : Int32) * x4) &&& 63))), .ref 3], zz_hC s t, true)) rfl ?_
      obtain ⟨q1, hq1, hF⟩ := am_bd hF
      refine am_go.call hcd_by_putLittle rfl rfl rfl rfl (am_le8 rfl) (am_ev.le (by decide) (tz_by_put (t := t) hq1)) ?_
      refine am_go.blk hcd_by_putLittle 2 (g := (3, [some (.ref 3), some (.long x1), none, some (.int x3), some (.int (x4 + (1 : Int32)))], [], zz_hC q1 t, true)) rfl ?_
      exact ih _ _ _ _ _ hF
def fz_by_putLittle (s : am_Z) (x1 : Int64) (x3 : Int32) : Option (am_Z) :=
  fz_by_putLittle_3 fz_fu x1 x3 (0 : Int32) s
theorem tz_by_putLittle {sc : am_S} {t : am_H} {s : am_Z} {x1 : Int64} {x3 : Int32} {r : am_Z} (hF : fz_by_putLittle s x1 x3 = some r) : am_ev sc 2 6 [.ref 3, .long x1, .int x3] (zz_hC s t) ((.inl (none), zz_hC r t, true) : am_R) := by
  unfold fz_by_putLittle at hF
  refine am_ev.of true rfl ?_
  show am_go sc _ _ _ _ (0, [some (.ref 3), some (.long x1), none, some (.int x3), none], [], zz_hC s t, true) _
  refine am_go.blk hcd_by_putLittle 2 (g := (3, [some (.ref 3), some (.long x1), none, some (.int x3), some (.int (0 : Int32))], [], zz_hC s t, true)) rfl ?_
  exact tz_by_putLittle_3  fz_fu _ _ _ _ _ hF
def fz_fm_bytesASecond_6 (s : am_Z) (x1 : Int32) : Option (Int32) :=
  if (s.1 7) = 0 then none else
  some ((x1 * (s.1 6)) / (s.1 7))
theorem tz_fm_bytesASecond_6 {sc : am_S} {t : am_H} {s : am_Z} {x1 : Int32} {r : Int32} (hF : fz_fm_bytesASecond_6 s x1 = some r) : am_ev sc 1 24 [.ref 6, .int x1] (zz_hC s t) ((.inl (some (.int r)), zz_hC s t, false) : am_R) := by
  unfold fz_fm_bytesASecond_6 at hF
  refine am_ev.of false rfl ?_
  show am_go sc _ _ _ _ (0, [some (.ref 6), some (.int x1)], [], zz_hC s t, false) _
  refine am_go.blk hcd_fm_bytesASecond 6 (g := (10, [some (.ref 6), some (.int x1)], [.int (s.1 7), .int (x1 * (s.1 6))], zz_hC s t, false)) rfl ?_
  obtain ⟨hd1, hF⟩ := am_ng hF
  refine am_go.idv hcd_fm_bytesASecond rfl hd1 ?_
  cases hF
  exact am_go.ret hcd_fm_bytesASecond rfl rfl ⟨rfl, rfl, (fun _ => rfl), Or.inl rfl, rfl⟩
def fz_fm_bits_6 (s : am_Z) : Option (Int32) :=
  (fz_fm_hasBlocks_6 s).bind fun q1 =>
  if q1 = 0 then
    some ((8 : Int32) * (s.1 6))
  else
  some (4 : Int32)
theorem tz_fm_bits_6 {sc : am_S} {t : am_H} {s : am_Z} {r : Int32} (hF : fz_fm_bits_6 s = some r) : am_ev sc 2 22 [.ref 6] (zz_hC s t) ((.inl (some (.int r)), zz_hC s t, false) : am_R) := by
  unfold fz_fm_bits_6 at hF
  refine am_ev.of false rfl ?_
  show am_go sc _ _ _ _ (0, [some (.ref 6)], [], zz_hC s t, false) _
  refine am_go.blk hcd_fm_bits 1 (g := (1, [some (.ref 6)], [.ref 6], zz_hC s t, false)) rfl ?_
  obtain ⟨q1, hq1, hF⟩ := am_bd hF
  refine am_go.call hcd_fm_bits rfl rfl rfl rfl (am_le8 rfl) (am_ev.le (by decide) (tz_fm_hasBlocks_6 (t := t) hq1)) ?_
  refine am_go.blk hcd_fm_bits 1 (g := (bif decide (q1 = 0) then 11 else 7, [some (.ref 6)], [], zz_hC s t, false)) rfl ?_
  refine am_go.br (fun hP => ?_) (fun hP => ?_)
  · replace hF := (if_pos hP).symm.trans hF
    refine am_go.blk hcd_fm_bits 4 (g := (18, [some (.ref 6)], [.int ((8 : Int32) * (s.1 6))], zz_hC s t, false)) rfl ?_
    cases hF
    exact am_go.ret hcd_fm_bits rfl rfl ⟨rfl, rfl, (fun _ => rfl), Or.inl rfl, rfl⟩
  · replace hF := (if_neg hP).symm.trans hF
    refine am_go.blk hcd_fm_bits 2 (g := (18, [some (.ref 6)], [.int (4 : Int32)], zz_hC s t, false)) rfl ?_
    cases hF
    exact am_go.ret hcd_fm_bits rfl rfl ⟨rfl, rfl, (fun _ => rfl), Or.inl rfl, rfl⟩
def fz_fm_sizeOfMore_6 (s : am_Z) : Option (Int32) :=
  (fz_fm_sizeOfFmt_6 s).bind fun q1 =>
  some ((q1 - (16 : Int32)) - (2 : Int32))
theorem tz_fm_sizeOfMore_6 {sc : am_S} {t : am_H} {s : am_Z} {r : Int32} (hF : fz_fm_sizeOfMore_6 s = some r) : am_ev sc 2 19 [.ref 6] (zz_hC s t) ((.inl (some (.int r)), zz_hC s t, false) : am_R) := by
  unfold fz_fm_sizeOfMore_6 at hF
  refine am_ev.of false rfl ?_
  show am_go sc _ _ _ _ (0, [some (.ref 6)], [], zz_hC s t, false) _
  refine am_go.blk hcd_fm_sizeOfMore 1 (g := (1, [some (.ref 6)], [.ref 6], zz_hC s t, false)) rfl ?_
  obtain ⟨q1, hq1, hF⟩ := am_bd hF
  refine am_go.call hcd_fm_sizeOfMore rfl rfl rfl rfl (am_le8 rfl) (am_ev.le (by decide) (tz_fm_sizeOfFmt_6 (t := t) hq1)) ?_
  refine am_go.blk hcd_fm_sizeOfMore 4 (g := (9, [some (.ref 6)], [.int ((q1 - (16 : Int32)) - (2 : Int32))], zz_hC s t, false)) rfl ?_
  cases hF
  exact am_go.ret hcd_fm_sizeOfMore rfl rfl ⟨rfl, rfl, (fun _ => rfl), Or.inl rfl, rfl⟩
theorem hcd_wr_putFmt : am_code 71 = am_c_wr_putFmt := rfl
def fz_wr_putFmt_196  : Nat → Int32 → Int32 → am_Z → Option (am_Z)
  | 0, _, _, _ => none
  | n + 1, x2, x3, s =>
    if x2 ≤ x3 then
      some s
    else
    if x3 < 0 ∨ 14 ≤ Int32.toNatClampNeg x3 then none else
    (fz_by_putLittle s (Int32.toInt64 (am_vPAIRS.getD (Int32.toNatClampNeg x3) 0)) (2 : Int32)).bind fun q2 =>
    fz_wr_putFmt_196 n x2 (x3 + (1 : Int32)) q2
set_option maxRecDepth 20000 in
theorem tz_wr_putFmt_196 {sc : am_S} {t : am_H} {h0 : am_H}   : ∀ (n : Nat) (x2 : Int32) (x3 : Int32) (s : am_Z) (r : am_Z), fz_wr_putFmt_196  n x2 x3 s = some r → am_go sc 3 (am_ev sc 2) 71 h0 (196, [some (.ref 5), some (.float 2), some (.int x2), some (.int x3), none], [], zz_hC s t, true) ((.inl (none), zz_hC r t, true) : am_R) := by
  intro n
  induction n with
  | zero => intro x2 x3 s r hF; cases hF
  | succ n ih =>
    intro x2 x3 s r hF
    unfold fz_wr_putFmt_196 at hF
    refine am_go.blk hcd_wr_putFmt 3 (g := (bif decide (x2 ≤ x3) then 223 else 201, [some (.ref 5), some (.float 2), some (.int x2), some (.int x3), none], [], zz_hC s t, true)) rfl ?_
    refine am_go.br (fun hP => ?_) (fun hP => ?_)
    · replace hF := (if_pos hP).symm.trans hF
      cases hF
      exact am_go.ret hcd_wr_putFmt rfl rfl ⟨rfl, rfl, (fun h => by cases h), rfl, rfl⟩
    · replace hF := (if_neg hP).symm.trans hF
      refine am_go.blk hcd_wr_putFmt 2 (g := (203, [some (.ref 5), some (.float 2), some (.int x2), some (.int x3), none], [.int x3, .float 2], zz_hC s t, true)) rfl ?_
      obtain ⟨hi1, hF⟩ := am_ng hF
      refine am_go.iald hcd_wr_putFmt rfl rfl hi1 ?_
      refine am_go.blk hcd_wr_putFmt 6 (g := (214, [some (.ref 5), some (.float 2), some (.int x2), some (.int x3), some (.int (am_vPAIRS.getD (Int32.toNatClampNeg x3) 0))], [.int (2 : Int32), .long (Int32.toInt64 (am_vPAIRS.getD (Int32.toNatClampNeg x3) 0)), .ref 3], zz_hC s t, true)) rfl ?_
      obtain ⟨q2, hq2, hF⟩ := am_bd hF
      refine am_go.call hcd_wr_putFmt rfl rfl rfl rfl (am_le8 rfl) (am_ev.le (by decide) (tz_by_putLittle (t := t) hq2)) ?_
      refine am_go.blk hcd_wr_putFmt 2 (g := (196, [some (.ref 5), some (.float 2), some (.int x2), some (.int (x3 + (1 : Int32))), some (.int (am_vPAIRS.getD (Int32.toNatClampNeg x3) 0))], [], zz_hC q2 t, true)) rfl ?_
      refine am_go.fgl [some (.ref 5), some (.float 2), some (.int x2), some (.int (x3 + (1 : Int32))), none] ⟨rfl, rfl, rfl, rfl, trivial⟩ ?_
      exact ih _ _ _ _ hF
def fz_wr_putFmt_165  (s : am_Z) : Option (am_Z) :=
  if ¬ (s.1 4) = (2 : Int32) then
    some s
  else
  (fz_by_putLittle s (7 : Int64) (2 : Int32)).bind fun q1 =>
  fz_wr_putFmt_196 fz_fu (14 : Int32) (0 : Int32) q1
set_option maxRecDepth 20000 in
theorem tz_wr_putFmt_165 {sc : am_S} {t : am_H} {h0 : am_H}   {s : am_Z} {r : am_Z} (hF : fz_wr_putFmt_165 s = some r) : am_go sc 3 (am_ev sc 2) 71 h0 (165, [some (.ref 5), none, none, none, none], [], zz_hC s t, true) ((.inl (none), zz_hC r t, true) : am_R) := by
  unfold fz_wr_putFmt_165 at hF
  refine am_go.blk hcd_wr_putFmt 5 (g := (bif decide (¬ (s.1 4) = (2 : Int32)) then 223 else 176, [some (.ref 5), none, none, none, none], [], zz_hC s t, true)) rfl ?_
  refine am_go.br (fun hP => ?_) (fun hP => ?_)
  · replace hF := (if_pos hP).symm.trans hF
    cases hF
    exact am_go.ret hcd_wr_putFmt rfl rfl ⟨rfl, rfl, (fun h => by cases h), rfl, rfl⟩
  · replace hF := (if_neg hP).symm.trans hF
    refine am_go.blk hcd_wr_putFmt 4 (g := (184, [some (.ref 5), none, none, none, none], [.int (2 : Int32), .long (7 : Int64), .ref 3], zz_hC s t, true)) rfl ?_
    obtain ⟨q1, hq1, hF⟩ := am_bd hF
    refine am_go.call hcd_wr_putFmt rfl rfl rfl rfl (am_le8 rfl) (am_ev.le (by decide) (tz_by_putLittle (t := t) hq1)) ?_
    refine am_go.blk hcd_wr_putFmt 7 (g := (196, [some (.ref 5), some (.float 2), some (.int (14 : Int32)), some (.int (0 : Int32)), none], [], zz_hC q1 t, true)) rfl ?_
    exact tz_wr_putFmt_196  fz_fu _ _ _ _ hF
def fz_wr_putFmt (s : am_Z) : Option (am_Z) :=
  (fz_by_putBig s (1718449184 : Int64) (4 : Int32)).bind fun q1 =>
  (fz_fm_sizeOfFmt_6 q1).bind fun q2 =>
  (fz_by_putLittle q1 (Int32.toInt64 q2) (4 : Int32)).bind fun q3 =>
  (fz_by_putLittle q3 (Int32.toInt64 (q3.1 4)) (2 : Int32)).bind fun q4 =>
  (fz_by_putLittle q4 (1 : Int64) (2 : Int32)).bind fun q5 =>
  (fz_by_putLittle q5 (Int32.toInt64 (q5.1 2)) (4 : Int32)).bind fun q6 =>
  (fz_fm_bytesASecond_6 q6 (q6.1 2)).bind fun q7 =>
  (fz_by_putLittle q6 (Int32.toInt64 q7) (4 : Int32)).bind fun q8 =>
  (fz_by_putLittle q8 (Int32.toInt64 (q8.1 6)) (2 : Int32)).bind fun q9 =>
  (fz_fm_bits_6 q9).bind fun q10 =>
  (fz_by_putLittle q9 (Int32.toInt64 q10) (2 : Int32)).bind fun q11 =>
  (fz_fm_hasBlocks_6 q11).bind fun q12 =>
  if q12 = 0 then
    fz_wr_putFmt_165 q11
  else
  (fz_fm_sizeOfMore_6 q11).bind fun q13 =>
  (fz_by_putLittle q11 (Int32.toInt64 q13) (2 : Int32)).bind fun q14 =>
  (fz_by_putLittle q14 (Int32.toInt64 (q14.1 7)) (2 : Int32)).bind fun q15 =>
  fz_wr_putFmt_165 q15
set_option maxRecDepth 20000 in
theorem tz_wr_putFmt {sc : am_S} {t : am_H} {s : am_Z} {r : am_Z} (hF : fz_wr_putFmt s = some r) : am_ev sc 3 71 [.ref 5] (zz_hC s t) ((.inl (none), zz_hC r t, true) : am_R) := by
  unfold fz_wr_putFmt at hF
  refine am_ev.of true rfl ?_
  show am_go sc _ _ _ _ (0, [some (.ref 5), none, none, none, none], [], zz_hC s t, true) _
  refine am_go.blk hcd_wr_putFmt 4 (g := (8, [some (.ref 5), none, none, none, none], [.int (4 : Int32), .long (1718449184 : Int64), .ref 3], zz_hC s t, true)) rfl ?_
  obtain ⟨q1, hq1, hF⟩ := am_bd hF
  refine am_go.call hcd_wr_putFmt rfl rfl rfl rfl (am_le8 rfl) (am_ev.le (by decide) (tz_by_putBig (t := t) hq1)) ?_
  refine am_go.blk hcd_wr_putFmt 4 (g := (19, [some (.ref 5), none, none, none, none], [.ref 6, .ref 3], zz_hC q1 t, true)) rfl ?_
  obtain ⟨q2, hq2, hF⟩ := am_bd hF
  refine am_go.call hcd_wr_putFmt rfl rfl rfl rfl (am_le8 rfl) (am_ev.le (by decide) (tz_fm_sizeOfFmt_6 (t := t) hq2)) ?_
  refine am_go.blk hcd_wr_putFmt 2 (g := (24, [some (.ref 5), none, none, none, none], [.int (4 : Int32), .long (Int32.toInt64 q2), .ref 3], zz_hC q1 t, true)) rfl ?_
  obtain ⟨q3, hq3, hF⟩ := am_bd hF
  refine am_go.call hcd_wr_putFmt rfl rfl rfl rfl (am_le8 rfl) (am_ev.le (by decide) (tz_by_putLittle (t := t) hq3)) ?_
  refine am_go.blk hcd_wr_putFmt 7 (g := (40, [some (.ref 5), none, none, none, none], [.int (2 : Int32), .long (Int32.toInt64 (q3.1 4)), .ref 3], zz_hC q3 t, true)) rfl ?_
  obtain ⟨q4, hq4, hF⟩ := am_bd hF
  refine am_go.call hcd_wr_putFmt rfl rfl rfl rfl (am_le8 rfl) (am_ev.le (by decide) (tz_by_putLittle (t := t) hq4)) ?_
  refine am_go.blk hcd_wr_putFmt 4 (g := (49, [some (.ref 5), none, none, none, none], [.int (2 : Int32), .long (1 : Int64), .ref 3], zz_hC q4 t, true)) rfl ?_
  obtain ⟨q5, hq5, hF⟩ := am_bd hF
  refine am_go.call hcd_wr_putFmt rfl rfl rfl rfl (am_le8 rfl) (am_ev.le (by decide) (tz_by_putLittle (t := t) hq5)) ?_
  refine am_go.blk hcd_wr_putFmt 7 (g := (65, [some (.ref 5), none, none, none, none], [.int (4 : Int32), .long (Int32.toInt64 (q5.1 2)), .ref 3], zz_hC q5 t, true)) rfl ?_
  obtain ⟨q6, hq6, hF⟩ := am_bd hF
  refine am_go.call hcd_wr_putFmt rfl rfl rfl rfl (am_le8 rfl) (am_ev.le (by decide) (tz_by_putLittle (t := t) hq6)) ?_
  refine am_go.blk hcd_wr_putFmt 7 (g := (83, [some (.ref 5), none, none, none, none], [.int (q6.1 2), .ref 6, .ref 3], zz_hC q6 t, true)) rfl ?_
  obtain ⟨q7, hq7, hF⟩ := am_bd hF
  refine am_go.call hcd_wr_putFmt rfl rfl rfl rfl (am_le8 rfl) (am_ev.le (by decide) (tz_fm_bytesASecond_6 (t := t) hq7)) ?_
  refine am_go.blk hcd_wr_putFmt 2 (g := (88, [some (.ref 5), none, none, none, none], [.int (4 : Int32), .long (Int32.toInt64 q7), .ref 3], zz_hC q6 t, true)) rfl ?_
  obtain ⟨q8, hq8, hF⟩ := am_bd hF
  refine am_go.call hcd_wr_putFmt rfl rfl rfl rfl (am_le8 rfl) (am_ev.le (by decide) (tz_by_putLittle (t := t) hq8)) ?_
  refine am_go.blk hcd_wr_putFmt 7 (g := (104, [some (.ref 5), none, none, none, none], [.int (2 : Int32), .long (Int32.toInt64 (q8.1 6)), .ref 3], zz_hC q8 t, true)) rfl ?_
  obtain ⟨q9, hq9, hF⟩ := am_bd hF
  refine am_go.call hcd_wr_putFmt rfl rfl rfl rfl (am_le8 rfl) (am_ev.le (by decide) (tz_by_putLittle (t := t) hq9)) ?_
  refine am_go.blk hcd_wr_putFmt 4 (g := (115, [some (.ref 5), none, none, none, none], [.ref 6, .ref 3], zz_hC q9 t, true)) rfl ?_
  obtain ⟨q10, hq10, hF⟩ := am_bd hF
  refine am_go.call hcd_wr_putFmt rfl rfl rfl rfl (am_le8 rfl) (am_ev.le (by decide) (tz_fm_bits_6 (t := t) hq10)) ?_
  refine am_go.blk hcd_wr_putFmt 2 (g := (120, [some (.ref 5), none, none, none, none], [.int (2 : Int32), .long (Int32.toInt64 q10), .ref 3], zz_hC q9 t, true)) rfl ?_
  obtain ⟨q11, hq11, hF⟩ := am_bd hF
  refine am_go.call hcd_wr_putFmt rfl rfl rfl rfl (am_le8 rfl) (am_ev.le (by decide) (tz_by_putLittle (t := t) hq11)) ?_
  refine am_go.blk hcd_wr_putFmt 2 (g := (127, [some (.ref 5), none, none, none, none], [.ref 6], zz_hC q11 t, true)) rfl ?_
  obtain ⟨q12, hq12, hF⟩ := am_bd hF
  refine am_go.call hcd_wr_putFmt rfl rfl rfl rfl (am_le8 rfl) (am_ev.le (by decide) (tz_fm_hasBlocks_6 (t := t) hq12)) ?_
  refine am_go.blk hcd_wr_putFmt 1 (g := (bif decide (q12 = 0) then 165 else 133, [some (.ref 5), none, none, none, none], [], zz_hC q11 t, true)) rfl ?_
  refine am_go.br (fun hP => ?_) (fun hP => ?_)
  · replace hF := (if_pos hP).symm.trans hF
    exact tz_wr_putFmt_165  hF
  · replace hF := (if_neg hP).symm.trans hF
    refine am_go.blk hcd_wr_putFmt 4 (g := (141, [some (.ref 5), none, none, none, none], [.ref 6, .ref 3], zz_hC q11 t, true)) rfl ?_
    obtain ⟨q13, hq13, hF⟩ := am_bd hF
    refine am_go.call hcd_wr_putFmt rfl rfl rfl rfl (am_le8 rfl) (am_ev.le (by decide) (tz_fm_sizeOfMore_6 (t := t) hq13)) ?_
    refine am_go.blk hcd_wr_putFmt 2 (g := (146, [some (.ref 5), none, none, none, none], [.int (2 : Int32), .long (Int32.toInt64 q13), .ref 3], zz_hC q11 t, true)) rfl ?_
    obtain ⟨q14, hq14, hF⟩ := am_bd hF
    refine am_go.call hcd_wr_putFmt rfl rfl rfl rfl (am_le8 rfl) (am_ev.le (by decide) (tz_by_putLittle (t := t) hq14)) ?_
    refine am_go.blk hcd_wr_putFmt 7 (g := (162, [some (.ref 5), none, none, none, none], [.int (2 : Int32), .long (Int32.toInt64 (q14.1 7)), .ref 3], zz_hC q14 t, true)) rfl ?_
    obtain ⟨q15, hq15, hF⟩ := am_bd hF
    refine am_go.call hcd_wr_putFmt rfl rfl rfl rfl (am_le8 rfl) (am_ev.le (by decide) (tz_by_putLittle (t := t) hq15)) ?_
    exact tz_wr_putFmt_165  hF
theorem hcd_wr_startWave : am_code 70 = am_c_wr_startWave := rfl
def fz_wr_startWave_166  (x3 : Int32) (s : am_Z) : Option (am_Z) :=
  (fz_by_putBig s (1684108385 : Int64) (4 : Int32)).bind fun q1 =>
  (fz_by_putLittle q1 (Int32.toInt64 x3) (4 : Int32)).bind fun q2 =>
  some q2
set_option maxRecDepth 20000 in
theorem tz_wr_startWave_166 {sc : am_S} {t : am_H} {h0 : am_H}   {x3 : Int32} {s : am_Z} {r : am_Z} (hF : fz_wr_startWave_166 x3 s = some r) : am_go sc 4 (am_ev sc 3) 70 h0 (166, [some (.ref 5), none, none, some (.int x3), none, none], [], zz_hC s t, true) ((.inl (none), zz_hC r t, true) : am_R) := by
  unfold fz_wr_startWave_166 at hF
  refine am_go.blk hcd_wr_startWave 4 (g := (174, [some (.ref 5), none, none, some (.int x3), none, none], [.int (4 : Int32), .long (1684108385 : Int64), .ref 3], zz_hC s t, true)) rfl ?_
  obtain ⟨q1, hq1, hF⟩ := am_bd hF
  refine am_go.call hcd_wr_startWave rfl rfl rfl rfl (am_le8 rfl) (am_ev.le (by decide) (tz_by_putBig (t := t) hq1)) ?_
  refine am_go.blk hcd_wr_startWave 5 (g := (184, [some (.ref 5), none, none, some (.int x3), none, none], [.int (4 : Int32), .long (Int32.toInt64 x3), .ref 3], zz_hC q1 t, true)) rfl ?_
  obtain ⟨q2, hq2, hF⟩ := am_bd hF
  refine am_go.call hcd_wr_startWave rfl rfl rfl rfl (am_le8 rfl) (am_ev.le (by decide) (tz_by_putLittle (t := t) hq2)) ?_
  cases hF
  exact am_go.ret hcd_wr_startWave rfl rfl ⟨rfl, rfl, (fun h => by cases h), rfl, rfl⟩
def fz_wr_startWave_47  (x3 : Int32) (y0 : Int32) (s : am_Z) : Option (am_Z) :=
  (fz_by_putBig (zz_i s 3 (0 : Int32)) (1380533830 : Int64) (4 : Int32)).bind fun q1 =>
  (fz_fm_sizeOfFmt_6 q1).bind fun q2 =>
  (fz_by_putLittle q1 (Int32.toInt64 ((((12 : Int32) + q2) + y0) + (((8 : Int32) + x3) + (x3 - x3 / (2 : Int32) * (2 : Int32))))) (4 : Int32)).bind fun q3 =>
  (fz_by_putBig q3 (1463899717 : Int64) (4 : Int32)).bind fun q4 =>
  (fz_wr_putFmt q4).bind fun q5 =>
  (fz_fm_hasBlocks_6 q5).bind fun q6 =>
  if q6 = 0 then
    fz_wr_startWave_166 x3 q5
  else
  (fz_by_putBig q5 (1717658484 : Int64) (4 : Int32)).bind fun q7 =>
  (fz_by_putLittle q7 (4 : Int64) (4 : Int32)).bind fun q8 =>
  (fz_by_putLittle q8 (Int32.toInt64 (q8.1 1)) (4 : Int32)).bind fun q9 =>
  fz_wr_startWave_166 x3 q9
set_option maxRecDepth 20000 in
theorem tz_wr_startWave_47 {sc : am_S} {t : am_H} {h0 : am_H}   {x3 : Int32} {y0 : Int32} {s : am_Z} {r : am_Z} (hF : fz_wr_startWave_47 x3 y0 s = some r) : am_go sc 4 (am_ev sc 3) 70 h0 (47, [some (.ref 5), none, none, some (.int x3), none, none], [.int y0], zz_hC s t, true) ((.inl (none), zz_hC r t, true) : am_R) := by
  unfold fz_wr_startWave_47 at hF
  refine am_go.blk hcd_wr_startWave 6 (g := (55, [some (.ref 5), none, none, some (.int x3), some (.int y0), none], [.int (2 : Int32), .int x3, .int ((8 : Int32) + x3)], zz_hC s t, true)) rfl ?_
  refine am_go.irm hcd_wr_startWave rfl (by decide) ?_
  refine am_go.blk hcd_wr_startWave 10 (g := (75, [some (.ref 5), none, none, some (.int x3), some (.int y0), some (.int (((8 : Int32) + x3) + (x3 - x3 / (2 : Int32) * (2 : Int32))))], [.int (4 : Int32), .long (1380533830 : Int64), .ref 3], zz_hC (zz_i s 3 (0 : Int32)) t, true)) rfl ?_
  obtain ⟨q1, hq1, hF⟩ := am_bd hF
  refine am_go.call hcd_wr_startWave rfl rfl rfl rfl (am_le8 rfl) (am_ev.le (by decide) (tz_by_putBig (t := t) hq1)) ?_
  refine am_go.blk hcd_wr_startWave 5 (g := (88, [some (.ref 5), none, none, some (.int x3), some (.int y0), some (.int (((8 : Int32) + x3) + (x3 - x3 / (2 : Int32) * (2 : Int32))))], [.ref 6, .int (12 : Int32), .ref 3], zz_hC q1 t, true)) rfl ?_
  obtain ⟨q2, hq2, hF⟩ := am_bd hF
  refine am_go.call hcd_wr_startWave rfl rfl rfl rfl (am_le8 rfl) (am_ev.le (by decide) (tz_fm_sizeOfFmt_6 (t := t) hq2)) ?_
  refine am_go.blk hcd_wr_startWave 7 (g := (100, [some (.ref 5), none, none, some (.int x3), some (.int y0), some (.int (((8 : Int32) + x3) + (x3 - x3 / (2 : Int32) * (2 : Int32))))], [.int (4 : Int32), .long (Int32.toInt64 ((((12 : Int32) + q2) + y0) + (((8 : Int32) + x3) + (x3 - x3 / (2 : Int32) * (2 : Int32))))), .ref 3], zz_hC q1 t, true)) rfl ?_
  obtain ⟨q3, hq3, hF⟩ := am_bd hF
  refine am_go.call hcd_wr_startWave rfl rfl rfl rfl (am_le8 rfl) (am_ev.le (by decide) (tz_by_putLittle (t := t) hq3)) ?_
  refine am_go.blk hcd_wr_startWave 4 (g := (111, [some (.ref 5), none, none, some (.int x3), some (.int y0), some (.int (((8 : Int32) + x3) + (x3 - x3 / (2 : Int32) * (2 : Int32))))], [.int (4 : Int32), .long (1463899717 : Int64), .ref 3], zz_hC q3 t, true)) rfl ?_
  obtain ⟨q4, hq4, hF⟩ := am_bd hF
  refine am_go.call hcd_wr_startWave rfl rfl rfl rfl (am_le8 rfl) (am_ev.le (by decide) (tz_by_putBig (t := t) hq4)) ?_
  refine am_go.blk hcd_wr_startWave 1 (g := (115, [some (.ref 5), none, none, some (.int x3), some (.int y0), some (.int (((8 : Int32) + x3) + (x3 - x3 / (2 : Int32) * (2 : Int32))))], [.ref 5], zz_hC q4 t, true)) rfl ?_
  obtain ⟨q5, hq5, hF⟩ := am_bd hF
  refine am_go.call hcd_wr_startWave rfl rfl rfl rfl (am_le8 rfl) (am_ev.le (by decide) (tz_wr_putFmt (t := t) hq5)) ?_
  refine am_go.blk hcd_wr_startWave 2 (g := (122, [some (.ref 5), none, none, some (.int x3), some (.int y0), some (.int (((8 : Int32) + x3) + (x3 - x3 / (2 : Int32) * (2 : Int32))))], [.ref 6], zz_hC q5 t, true)) rfl ?_
  obtain ⟨q6, hq6, hF⟩ := am_bd hF
  refine am_go.call hcd_wr_startWave rfl rfl rfl rfl (am_le8 rfl) (am_ev.le (by decide) (tz_fm_hasBlocks_6 (t := t) hq6)) ?_
  refine am_go.blk hcd_wr_startWave 1 (g := (bif decide (q6 = 0) then 166 else 128, [some (.ref 5), none, none, some (.int x3), some (.int y0), some (.int (((8 : Int32) + x3) + (x3 - x3 / (2 : Int32) * (2 : Int32))))], [], zz_hC q5 t, true)) rfl ?_
  refine am_go.br (fun hP => ?_) (fun hP => ?_)
  · replace hF := (if_pos hP).symm.trans hF
    refine am_go.fgl [some (.ref 5), none, none, some (.int x3), none, none] ⟨rfl, rfl, trivial⟩ ?_
    exact tz_wr_startWave_166  hF
  · replace hF := (if_neg hP).symm.trans hF
    refine am_go.blk hcd_wr_startWave 4 (g := (136, [some (.ref 5), none, none, some (.int x3), some (.int y0), some (.int (((8 : Int32) + x3) + (x3 - x3 / (2 : Int32) * (2 : Int32))))], [.int (4 : Int32), .long (1717658484 : Int64), .ref 3], zz_hC q5 t, true)) rfl ?_
    obtain ⟨q7, hq7, hF⟩ := am_bd hF
    refine am_go.call hcd_wr_startWave rfl rfl rfl rfl (am_le8 rfl) (am_ev.le (by decide) (tz_by_putBig (t := t) hq7)) ?_
    refine am_go.blk hcd_wr_startWave 4 (g := (147, [some (.ref 5), none, none, some (.int x3), some (.int y0), some (.int (((8 : Int32) + x3) + (x3 - x3 / (2 : Int32) * (2 : Int32))))], [.int (4 : Int32), .long (4 : Int64), .ref 3], zz_hC q7 t, true)) rfl ?_
    obtain ⟨q8, hq8, hF⟩ := am_bd hF
    refine am_go.call hcd_wr_startWave rfl rfl rfl rfl (am_le8 rfl) (am_ev.le (by decide) (tz_by_putLittle (t := t) hq8)) ?_
    refine am_go.blk hcd_wr_startWave 7 (g := (163, [some (.ref 5), none, none, some (.int x3), some (.int y0), some (.int (((8 : Int32) + x3) + (x3 - x3 / (2 : Int32) * (2 : Int32))))], [.int (4 : Int32), .long (Int32.toInt64 (q8.1 1)), .ref 3], zz_hC q8 t, true)) rfl ?_
    obtain ⟨q9, hq9, hF⟩ := am_bd hF
    refine am_go.call hcd_wr_startWave rfl rfl rfl rfl (am_le8 rfl) (am_ev.le (by decide) (tz_by_putLittle (t := t) hq9)) ?_
    refine am_go.fgl [some (.ref 5), none, none, some (.int x3), none, none] ⟨rfl, rfl, trivial⟩ ?_
    exact tz_wr_startWave_166  hF
def fz_wr_startWave (s : am_Z) (x1 : Int32) (x2 : Int32) : Option (am_Z) :=
  (fz_fm_setTag_6 s x1).bind fun q1 =>
  (fz_fm_setAlign_6 q1 x2).bind fun q2 =>
  (fz_fm_sizeOfData_6 q2 (q2.1 1)).bind fun q3 =>
  (fz_fm_hasBlocks_6 q2).bind fun q4 =>
  if q4 = 0 then
    fz_wr_startWave_47 q3 (0 : Int32) q2
  else
  fz_wr_startWave_47 q3 (12 : Int32) q2
set_option maxRecDepth 20000 in
theorem tz_wr_startWave {sc : am_S} {t : am_H} {s : am_Z} {x1 : Int32} {x2 : Int32} {r : am_Z} (hF : fz_wr_startWave s x1 x2 = some r) : am_ev sc 4 70 [.ref 5, .int x1, .int x2] (zz_hC s t) ((.inl (none), zz_hC r t, true) : am_R) := by
  unfold fz_wr_startWave at hF
  refine am_ev.of true rfl ?_
  show am_go sc _ _ _ _ (0, [some (.ref 5), some (.int x1), some (.int x2), none, none, none], [], zz_hC s t, true) _
  refine am_go.blk hcd_wr_startWave 3 (g := (5, [some (.ref 5), some (.int x1), some (.int x2), none, none, none], [.int x1, .ref 6], zz_hC s t, true)) rfl ?_
  obtain ⟨q1, hq1, hF⟩ := am_bd hF
  refine am_go.call hcd_wr_startWave rfl rfl rfl rfl (am_le8 rfl) (am_ev.le (by decide) (tz_fm_setTag_6 (t := t) hq1)) ?_
  refine am_go.blk hcd_wr_startWave 3 (g := (13, [some (.ref 5), some (.int x1), some (.int x2), none, none, none], [.int x2, .ref 6], zz_hC q1 t, true)) rfl ?_
  obtain ⟨q2, hq2, hF⟩ := am_bd hF
  refine am_go.call hcd_wr_startWave rfl rfl rfl rfl (am_le8 rfl) (am_ev.le (by decide) (tz_fm_setAlign_6 (t := t) hq2)) ?_
  refine am_go.blk hcd_wr_startWave 5 (g := (27, [some (.ref 5), some (.int x1), some (.int x2), none, none, none], [.int (q2.1 1), .ref 6], zz_hC q2 t, true)) rfl ?_
  obtain ⟨q3, hq3, hF⟩ := am_bd hF
  refine am_go.call hcd_wr_startWave rfl rfl rfl rfl (am_le8 rfl) (am_ev.le (by decide) (tz_fm_sizeOfData_6 (t := t) hq3)) ?_
  refine am_go.blk hcd_wr_startWave 3 (g := (35, [some (.ref 5), some (.int x1), some (.int x2), some (.int q3), none, none], [.ref 6], zz_hC q2 t, true)) rfl ?_
  obtain ⟨q4, hq4, hF⟩ := am_bd hF
  refine am_go.call hcd_wr_startWave rfl rfl rfl rfl (am_le8 rfl) (am_ev.le (by decide) (tz_fm_hasBlocks_6 (t := t) hq4)) ?_
  refine am_go.blk hcd_wr_startWave 1 (g := (bif decide (q4 = 0) then 46 else 41, [some (.ref 5), some (.int x1), some (.int x2), some (.int q3), none, none], [], zz_hC q2 t, true)) rfl ?_
  refine am_go.br (fun hP => ?_) (fun hP => ?_)
  · replace hF := (if_pos hP).symm.trans hF
    refine am_go.blk hcd_wr_startWave 1 (g := (47, [some (.ref 5), some (.int x1), some (.int x2), some (.int q3), none, none], [.int (0 : Int32)], zz_hC q2 t, true)) rfl ?_
    refine am_go.fgl [some (.ref 5), none, none, some (.int q3), none, none] ⟨rfl, rfl, trivial⟩ ?_
    exact tz_wr_startWave_47  hF
  · replace hF := (if_neg hP).symm.trans hF
    refine am_go.blk hcd_wr_startWave 2 (g := (47, [some (.ref 5), some (.int x1), some (.int x2), some (.int q3), none, none], [.int (12 : Int32)], zz_hC q2 t, true)) rfl ?_
    refine am_go.fgl [some (.ref 5), none, none, some (.int q3), none, none] ⟨rfl, rfl, trivial⟩ ?_
    exact tz_wr_startWave_47  hF
theorem hcd_wr_secondOfBlock : am_code 74 = am_c_wr_secondOfBlock := rfl
def fz_wr_secondOfBlock_27 (s : am_Z) (y0 : Int32) : Option (Int32) :=
  if y0 < 0 ∨ 64 ≤ Int32.toNatClampNeg y0 then none else
  some ((s.2.2 0) (Int32.toNatClampNeg y0))
theorem tz_wr_secondOfBlock_27 {sc : am_S} {t : am_H} {h0 : am_H} {s : am_Z}  {y0 : Int32} {r : Int32} (hF : fz_wr_secondOfBlock_27 s y0 = some r) : am_go sc 1 (am_ev sc 0) 74 h0 (27, [none, none], [.int y0, .ref 2], zz_hC s t, false) ((.inl (some (.int r)), zz_hC s t, false) : am_R) := by
  unfold fz_wr_secondOfBlock_27 at hF
  obtain ⟨hi1, hF⟩ := am_ng hF
  refine am_go.iald hcd_wr_secondOfBlock rfl rfl hi1 ?_
  cases hF
  exact am_go.ret hcd_wr_secondOfBlock rfl rfl ⟨rfl, rfl, (fun _ => rfl), Or.inl rfl, rfl⟩
def fz_wr_secondOfBlock (s : am_Z) (x1 : Int32) : Option (Int32) :=
  if (s.1 1) ≤ (x1 + (1 : Int32)) then
    fz_wr_secondOfBlock_27 s x1
  else
  fz_wr_secondOfBlock_27 s (x1 + (1 : Int32))
theorem tz_wr_secondOfBlock {sc : am_S} {t : am_H} {s : am_Z} {x1 : Int32} {r : Int32} (hF : fz_wr_secondOfBlock s x1 = some r) : am_ev sc 1 74 [.ref 5, .int x1] (zz_hC s t) ((.inl (some (.int r)), zz_hC s t, false) : am_R) := by
  unfold fz_wr_secondOfBlock at hF
  refine am_ev.of false rfl ?_
  show am_go sc _ _ _ _ (0, [some (.ref 5), some (.int x1)], [], zz_hC s t, false) _
  refine am_go.blk hcd_wr_secondOfBlock 10 (g := (bif decide ((s.1 1) ≤ (x1 + (1 : Int32))) then 26 else 20, [some (.ref 5), some (.int x1)], [.ref 2], zz_hC s t, false)) rfl ?_
  refine am_go.br (fun hP => ?_) (fun hP => ?_)
  · replace hF := (if_pos hP).symm.trans hF
    refine am_go.blk hcd_wr_secondOfBlock 1 (g := (27, [some (.ref 5), some (.int x1)], [.int x1, .ref 2], zz_hC s t, false)) rfl ?_
    refine am_go.fgl [none, none] trivial ?_
    exact tz_wr_secondOfBlock_27  hF
  · replace hF := (if_neg hP).symm.trans hF
    refine am_go.blk hcd_wr_secondOfBlock 4 (g := (27, [some (.ref 5), some (.int x1)], [.int (x1 + (1 : Int32)), .ref 2], zz_hC s t, false)) rfl ?_
    refine am_go.fgl [none, none] trivial ?_
    exact tz_wr_secondOfBlock_27  hF
def fz_pr_start_8 (s : am_Z) (x1 : Int32) (x2 : Int32) (x3 : Int32) (x4 : Int32) : Option (am_Z) :=
  (fz_sh_limit x4 (0 : Int32) (6 : Int32)).bind fun q1 =>
  some (zz_i (zz_i (zz_i (zz_i s 11 x1) 10 x2) 12 x3) 13 q1)
theorem tz_pr_start_8 {sc : am_S} {t : am_H} {s : am_Z} {x1 : Int32} {x2 : Int32} {x3 : Int32} {x4 : Int32} {r : am_Z} (hF : fz_pr_start_8 s x1 x2 x3 x4 = some r) : am_ev sc 2 30 [.ref 8, .int x1, .int x2, .int x3, .int x4] (zz_hC s t) ((.inl (none), zz_hC r t, true) : am_R) := by
  unfold fz_pr_start_8 at hF
  refine am_ev.of true rfl ?_
  show am_go sc _ _ _ _ (0, [some (.ref 8), some (.int x1), some (.int x2), some (.int x3), some (.int x4)], [], zz_hC s t, true) _
  refine am_go.blk hcd_pr_start 13 (g := (21, [some (.ref 8), some (.int x1), some (.int x2), some (.int x3), some (.int x4)], [.int (6 : Int32), .int (0 : Int32), .int x4, .ref 8], zz_hC (zz_i (zz_i (zz_i s 11 x1) 10 x2) 12 x3) t, true)) rfl ?_
  obtain ⟨q1, hq1, hF⟩ := am_bd hF
  refine am_go.call hcd_pr_start rfl rfl rfl rfl (am_le8 rfl) (am_ev.le (by decide) (tz_sh_limit (h := zz_hC (zz_i (zz_i (zz_i s 11 x1) 10 x2) 12 x3) t) hq1)) ?_
  refine am_go.blk hcd_pr_start 1 (g := (27, [some (.ref 8), some (.int x1), some (.int x2), some (.int x3), some (.int x4)], [], zz_hC (zz_i (zz_i (zz_i (zz_i s 11 x1) 10 x2) 12 x3) 13 q1) t, true)) rfl ?_
  cases hF
  exact am_go.ret hcd_pr_start rfl rfl ⟨rfl, rfl, (fun h => by cases h), rfl, rfl⟩
theorem hcd_wr_startPair : am_code 76 = am_c_wr_startPair := rfl
def fz_wr_startPair (s : am_Z) (x1 : Int32) (x2 : Int32) (x3 : Int32) : Option (am_Z) :=
  if x1 < 0 ∨ 64 ≤ Int32.toNatClampNeg x1 then none else
  (fz_wr_secondOfBlock s x1).bind fun q2 =>
  (fz_pr_start_8 s ((s.2.2 0) (Int32.toNatClampNeg x1)) q2 x2 x3).bind fun q3 =>
  some q3
theorem tz_wr_startPair {sc : am_S} {t : am_H} {s : am_Z} {x1 : Int32} {x2 : Int32} {x3 : Int32} {r : am_Z} (hF : fz_wr_startPair s x1 x2 x3 = some r) : am_ev sc 3 76 [.ref 5, .int x1, .int x2, .int x3] (zz_hC s t) ((.inl (none), zz_hC r t, true) : am_R) := by
  unfold fz_wr_startPair at hF
  refine am_ev.of true rfl ?_
  show am_go sc _ _ _ _ (0, [some (.ref 5), some (.int x1), some (.int x2), some (.int x3)], [], zz_hC s t, true) _
  refine am_go.blk hcd_wr_startPair 6 (g := (12, [some (.ref 5), some (.int x1), some (.int x2), some (.int x3)], [.int x1, .ref 2, .ref 8], zz_hC s t, true)) rfl ?_
  obtain ⟨hi1, hF⟩ := am_ng hF
  refine am_go.iald hcd_wr_startPair rfl rfl hi1 ?_
  refine am_go.blk hcd_wr_startPair 2 (g := (15, [some (.ref 5), some (.int x1), some (.int x2), some (.int x3)], [.int x1, .ref 5, .int ((s.2.2 0) (Int32.toNatClampNeg x1)), .ref 8], zz_hC s t, true)) rfl ?_
  obtain ⟨q2, hq2, hF⟩ := am_bd hF
  refine am_go.call hcd_wr_startPair rfl rfl rfl rfl (am_le8 rfl) (am_ev.le (by decide) (tz_wr_secondOfBlock (t := t) hq2)) ?_
  refine am_go.blk hcd_wr_startPair 2 (g := (20, [some (.ref 5), some (.int x1), some (.int x2), some (.int x3)], [.int x3, .int x2, .int q2, .int ((s.2.2 0) (Int32.toNatClampNeg x1)), .ref 8], zz_hC s t, true)) rfl ?_
  obtain ⟨q3, hq3, hF⟩ := am_bd hF
  refine am_go.call hcd_wr_startPair rfl rfl rfl rfl (am_le8 rfl) (am_ev.le (by decide) (tz_pr_start_8 (t := t) hq3)) ?_
  cases hF
  exact am_go.ret hcd_wr_startPair rfl rfl ⟨rfl, rfl, (fun h => by cases h), rfl, rfl⟩
theorem hcd_ma_min : am_code 2 = am_c_ma_min := rfl
def fz_ma_min (x0 : Int32) (x1 : Int32) : Option (Int32) :=
  if x1 < x0 then
    some x1
  else
  some x0
theorem tz_ma_min {sc : am_S} {h : am_H} {x0 : Int32} {x1 : Int32} {r : Int32} (hF : fz_ma_min x0 x1 = some r) : am_ev sc 1 2 [.int x0, .int x1] (h) ((.inl (some (.int r)), h, false) : am_R) := by
  unfold fz_ma_min at hF
  refine am_ev.of false rfl ?_
  show am_go sc _ _ _ _ (0, [some (.int x0), some (.int x1)], [], h, false) _
  refine am_go.blk hcd_ma_min 3 (g := (bif decide (x1 < x0) then 9 else 5, [some (.int x0), some (.int x1)], [], h, false)) rfl ?_
  refine am_go.br (fun hP => ?_) (fun hP => ?_)
  · replace hF := (if_pos hP).symm.trans hF
    refine am_go.blk hcd_ma_min 1 (g := (10, [some (.int x0), some (.int x1)], [.int x1], h, false)) rfl ?_
    cases hF
    exact am_go.ret hcd_ma_min rfl rfl ⟨rfl, rfl, (fun _ => rfl), Or.inl rfl, rfl⟩
  · replace hF := (if_neg hP).symm.trans hF
    refine am_go.blk hcd_ma_min 2 (g := (10, [some (.int x0), some (.int x1)], [.int x0], h, false)) rfl ?_
    cases hF
    exact am_go.ret hcd_ma_min rfl rfl ⟨rfl, rfl, (fun _ => rfl), Or.inl rfl, rfl⟩
def fz_pr_next_8_14 (s : am_Z) (y0 : Int32) : Option (Int32) :=
  if ((2 : Int32) * (s.1 13)) < 0 ∨ 14 ≤ Int32.toNatClampNeg ((2 : Int32) * (s.1 13)) then none else
  if (((2 : Int32) * (s.1 13)) + (1 : Int32)) < 0 ∨ 14 ≤ Int32.toNatClampNeg (((2 : Int32) * (s.1 13)) + (1 : Int32)) then none else
  (fz_sh_limit (((((s.1 10) * (am_vPAIRS.getD (Int32.toNatClampNeg ((2 : Int32) * (s.1 13))) 0)) + ((s.1 11) * (am_vPAIRS.getD (Int32.toNatClampNeg (((2 : Int32) * (s.1 13)) + (1 : Int32))) 0))) >>> ((8 : Int32) &&& 31)) + (y0 * (s.1 12))) (-32768 : Int32) (32767 : Int32)).bind fun q3 =>
  some q3
theorem tz_pr_next_8_14 {sc : am_S} {t : am_H} {h0 : am_H} {s : am_Z}  {y0 : Int32} {r : Int32} (hF : fz_pr_next_8_14 s y0 = some r) : am_go sc 2 (am_ev sc 1) 31 h0 (14, [some (.ref 8), none, none, none], [.int y0], zz_hC s t, false) ((.inl (some (.int r)), zz_hC s t, false) : am_R) := by
  unfold fz_pr_next_8_14 at hF
  refine am_go.blk hcd_pr_next 8 (g := (28, [some (.ref 8), none, some (.int y0), none], [.int ((2 : Int32) * (s.1 13)), .float 2, .int (s.1 10)], zz_hC s t, false)) rfl ?_
  obtain ⟨hi1, hF⟩ := am_ng hF
  refine am_go.iald hcd_pr_next rfl rfl hi1 ?_
  refine am_go.blk hcd_pr_next 10 (g := (45, [some (.ref 8), none, some (.int y0), none], [.int (((2 : Int32) * (s.1 13)) + (1 : Int32)), .float 2, .int (s.1 11), .int ((s.1 10) * (am_vPAIRS.getD (Int32.toNatClampNeg ((2 : Int32) * (s.1 13))) 0))], zz_hC s t, false)) rfl ?_
  obtain ⟨hi2, hF⟩ := am_ng hF
  refine am_go.iald hcd_pr_next rfl rfl hi2 ?_
  refine am_go.blk hcd_pr_next 13 (g := (66, [some (.ref 8), none, some (.int y0), some (.int ((((s.1 10) * (am_vPAIRS.getD (Int32.toNatClampNeg ((2 : Int32) * (s.1 13))) 0)) + ((s.1 11) * (am_vPAIRS.getD (Int32.toNatClampNeg (((2 : Int32) * (s.1 13)) + (1 : Int32))) 0))) >>> ((8 : Int32) &&& 31)))], [.int (32767 : Int32), .int (-32768 : Int32), .int (((((s.1 10) * (am_vPAIRS.getD (Int32.toNatClampNeg ((2 : Int32) * (s.1 13))) 0)) + ((s.1 11) * (am_vPAIRS.getD (Int32.toNatClampNeg (((2 : Int32) * (s.1 13)) + (1 : Int32))) 0))) >>> ((8 : Int32) &&& 31)) + (y0 * (s.1 12)))], zz_hC s t, false)) rfl ?_
  obtain ⟨q3, hq3, hF⟩ := am_bd hF
  refine am_go.call hcd_pr_next rfl rfl rfl rfl (am_le8 rfl) (am_ev.le (by decide) (tz_sh_limit (h := zz_hC s t) hq3)) ?_
  cases hF
  exact am_go.ret hcd_pr_next rfl rfl ⟨rfl, rfl, (fun _ => rfl), Or.inl rfl, rfl⟩
def fz_pr_next_8 (s : am_Z) (x1 : Int32) : Option (Int32) :=
  if (8 : Int32) ≤ x1 then
    fz_pr_next_8_14 s (x1 - (16 : Int32))
  else
  fz_pr_next_8_14 s x1
theorem tz_pr_next_8 {sc : am_S} {t : am_H} {s : am_Z} {x1 : Int32} {r : Int32} (hF : fz_pr_next_8 s x1 = some r) : am_ev sc 2 31 [.ref 8, .int x1] (zz_hC s t) ((.inl (some (.int r)), zz_hC s t, false) : am_R) := by
  unfold fz_pr_next_8 at hF
  refine am_ev.of false rfl ?_
  show am_go sc _ _ _ _ (0, [some (.ref 8), some (.int x1), none, none], [], zz_hC s t, false) _
  refine am_go.blk hcd_pr_next 3 (g := (bif decide ((8 : Int32) ≤ x1) then 10 else 6, [some (.ref 8), some (.int x1), none, none], [], zz_hC s t, false)) rfl ?_
  refine am_go.br (fun hP => ?_) (fun hP => ?_)
  · replace hF := (if_pos hP).symm.trans hF
    refine am_go.blk hcd_pr_next 3 (g := (14, [some (.ref 8), some (.int x1), none, none], [.int (x1 - (16 : Int32))], zz_hC s t, false)) rfl ?_
    refine am_go.fgl [some (.ref 8), none, none, none] ⟨rfl, trivial⟩ ?_
    exact tz_pr_next_8_14  hF
  · replace hF := (if_neg hP).symm.trans hF
    refine am_go.blk hcd_pr_next 2 (g := (14, [some (.ref 8), some (.int x1), none, none], [.int x1], zz_hC s t, false)) rfl ?_
    refine am_go.fgl [some (.ref 8), none, none, none] ⟨rfl, trivial⟩ ?_
    exact tz_pr_next_8_14  hF
theorem hcd_ma_abs : am_code 0 = am_c_ma_abs := rfl
def fz_ma_abs (x0 : Int32) : Option (Int32) :=
  if 0 ≤ x0 then
    some x0
  else
  some (-x0)
theorem tz_ma_abs {sc : am_S} {h : am_H} {x0 : Int32} {r : Int32} (hF : fz_ma_abs x0 = some r) : am_ev sc 1 0 [.int x0] (h) ((.inl (some (.int r)), h, false) : am_R) := by
  unfold fz_ma_abs at hF
  refine am_ev.of false rfl ?_
  show am_go sc _ _ _ _ (0, [some (.int x0)], [], h, false) _
  refine am_go.blk hcd_ma_abs 2 (g := (bif decide (0 ≤ x0) then 9 else 4, [some (.int x0)], [], h, false)) rfl ?_
  refine am_go.br (fun hP => ?_) (fun hP => ?_)
  · replace hF := (if_pos hP).symm.trans hF
    refine am_go.blk hcd_ma_abs 1 (g := (10, [some (.int x0)], [.int x0], h, false)) rfl ?_
    cases hF
    exact am_go.ret hcd_ma_abs rfl rfl ⟨rfl, rfl, (fun _ => rfl), Or.inl rfl, rfl⟩
  · replace hF := (if_neg hP).symm.trans hF
    refine am_go.blk hcd_ma_abs 3 (g := (10, [some (.int x0)], [.int (-x0)], h, false)) rfl ?_
    cases hF
    exact am_go.ret hcd_ma_abs rfl rfl ⟨rfl, rfl, (fun _ => rfl), Or.inl rfl, rfl⟩
theorem hcd_co_nearest : am_code 12 = am_c_co_nearest := rfl
def fz_co_nearest_8_48 (s : am_Z) (K16 : Int32 → Int32 → Int32 → Int32 → Option (Int32)) (x1 : Int32) (x2 : Int32) (x3 : Int32) (x4 : Int32) : Option (Int32) :=
  K16 x1 x2 x3 (x4 + (1 : Int32))
theorem tz_co_nearest_8_48 {sc : am_S} {t : am_H} {h0 : am_H} {s : am_Z} {K16 : Int32 → Int32 → Int32 → Int32 → Option (Int32)} (hK16 : ∀ (x1 : Int32) (x2 : Int32) (x3 : Int32) (x4 : Int32) (r : Int32), K16 x1 x2 x3 x4 = some r → am_go sc 3 (am_ev sc 2) 12 h0 (16, [some (.ref 8), some (.int x1), some (.int x2), some (.int x3), some (.int x4), none], [], zz_hC s t, false) ((.inl (some (.int r)), zz_hC s t, false) : am_R)) {x1 : Int32} {x2 : Int32} {x3 : Int32} {x4 : Int32} {r : Int32} (hF : fz_co_nearest_8_48 s K16 x1 x2 x3 x4 = some r) : am_go sc 3 (am_ev sc 2) 12 h0 (48, [some (.ref 8), some (.int x1), some (.int x2), some (.int x3), some (.int x4), none], [], zz_hC s t, false) ((.inl (some (.int r)), zz_hC s t, false) : am_R) := by
  unfold fz_co_nearest_8_48 at hF
  refine am_go.blk hcd_co_nearest 2 (g := (16, [some (.ref 8), some (.int x1), some (.int x2), some (.int x3), some (.int (x4 + (1 : Int32))), none], [], zz_hC s t, false)) rfl ?_
  exact hK16 _ _ _ _ _ hF
def fz_co_nearest_8_16 (s : am_Z) : Nat → Int32 → Int32 → Int32 → Int32 → Option (Int32)
  | 0, _, _, _, _ => none
  | n + 1, x1, x2, x3, x4 =>
    if (16 : Int32) ≤ x4 then
      some x2
    else
    (fz_pr_next_8 s x4).bind fun q1 =>
    (fz_ma_abs (q1 - x1)).bind fun q2 =>
    if x3 ≤ q2 then
      fz_co_nearest_8_48 s (fz_co_nearest_8_16 s n) x1 x2 x3 x4
    else
    fz_co_nearest_8_48 s (fz_co_nearest_8_16 s n) x1 x4 q2 x4
theorem tz_co_nearest_8_16 {sc : am_S} {t : am_H} {h0 : am_H} {s : am_Z}  : ∀ (n : Nat) (x1 : Int32) (x2 : Int32) (x3 : Int32) (x4 : Int32) (r : Int32), fz_co_nearest_8_16 s n x1 x2 x3 x4 = some r → am_go sc 3 (am_ev sc 2) 12 h0 (16, [some (.ref 8), some (.int x1), some (.int x2), some (.int x3), some (.int x4), none], [], zz_hC s t, false) ((.inl (some (.int r)), zz_hC s t, false) : am_R) := by
  intro n
  induction n with
  | zero => intro x1 x2 x3 x4 r hF; cases hF
  | succ n ih =>
    intro x1 x2 x3 x4 r hF
    unfold fz_co_nearest_8_16 at hF
    refine am_go.blk hcd_co_nearest 3 (g := (bif decide ((16 : Int32) ≤ x4) then 54 else 23, [some (.ref 8), some (.int x1), some (.int x2), some (.int x3), some (.int x4), none], [], zz_hC s t, false)) rfl ?_
    refine am_go.br (fun hP => ?_) (fun hP => ?_)
    · replace hF := (if_pos hP).symm.trans hF
      refine am_go.blk hcd_co_nearest 1 (g := (55, [some (.ref 8), some (.int x1), some (.int x2), some (.int x3), some (.int x4), none], [.int x2], zz_hC s t, false)) rfl ?_
      cases hF
      exact am_go.ret hcd_co_nearest rfl rfl ⟨rfl, rfl, (fun _ => rfl), Or.inl rfl, rfl⟩
    · replace hF := (if_neg hP).symm.trans hF
      refine am_go.blk hcd_co_nearest 2 (g := (26, [some (.ref 8), some (.int x1), some (.int x2), some (.int x3), some (.int x4), none], [.int x4, .ref 8], zz_hC s t, false)) rfl ?_
      obtain ⟨q1, hq1, hF⟩ := am_bd hF
      refine am_go.call hcd_co_nearest rfl rfl rfl rfl (am_le8 rfl) (am_ev.le (by decide) (tz_pr_next_8 (t := t) hq1)) ?_
      refine am_go.blk hcd_co_nearest 2 (g := (31, [some (.ref 8), some (.int x1), some (.int x2), some (.int x3), some (.int x4), none], [.int (q1 - x1)], zz_hC s t, false)) rfl ?_
      obtain ⟨q2, hq2, hF⟩ := am_bd hF
      refine am_go.call hcd_co_nearest rfl rfl rfl rfl (am_le8 rfl) (am_ev.le (by decide) (tz_ma_abs (h := zz_hC s t) hq2)) ?_
      refine am_go.blk hcd_co_nearest 4 (g := (bif decide (x3 ≤ q2) then 48 else 42, [some (.ref 8), some (.int x1), some (.int x2), some (.int x3), some (.int x4), some (.int q2)], [], zz_hC s t, false)) rfl ?_
      refine am_go.br (fun hP => ?_) (fun hP => ?_)
      · replace hF := (if_pos hP).symm.trans hF
        refine am_go.fgl [some (.ref 8), some (.int x1), some (.int x2), some (.int x3), some (.int x4), none] ⟨rfl, rfl, rfl, rfl, rfl, trivial⟩ ?_
        exact tz_co_nearest_8_48 (hK16 := ih) hF
      · replace hF := (if_neg hP).symm.trans hF
        refine am_go.blk hcd_co_nearest 4 (g := (48, [some (.ref 8), some (.int x1), some (.int x4), some (.int q2), some (.int x4), some (.int q2)], [], zz_hC s t, false)) rfl ?_
        refine am_go.fgl [some (.ref 8), some (.int x1), some (.int x4), some (.int q2), some (.int x4), none] ⟨rfl, rfl, rfl, rfl, rfl, trivial⟩ ?_
        exact tz_co_nearest_8_48 (hK16 := ih) hF
def fz_co_nearest_8 (s : am_Z) (x1 : Int32) : Option (Int32) :=
  (fz_pr_next_8 s (0 : Int32)).bind fun q1 =>
  (fz_ma_abs (q1 - x1)).bind fun q2 =>
  fz_co_nearest_8_16 s fz_fu x1 (0 : Int32) q2 (1 : Int32)
theorem tz_co_nearest_8 {sc : am_S} {t : am_H} {s : am_Z} {x1 : Int32} {r : Int32} (hF : fz_co_nearest_8 s x1 = some r) : am_ev sc 3 12 [.ref 8, .int x1] (zz_hC s t) ((.inl (some (.int r)), zz_hC s t, false) : am_R) := by
  unfold fz_co_nearest_8 at hF
  refine am_ev.of false rfl ?_
  show am_go sc _ _ _ _ (0, [some (.ref 8), some (.int x1), none, none, none, none], [], zz_hC s t, false) _
  refine am_go.blk hcd_co_nearest 4 (g := (4, [some (.ref 8), some (.int x1), some (.int (0 : Int32)), none, none, none], [.int (0 : Int32), .ref 8], zz_hC s t, false)) rfl ?_
  obtain ⟨q1, hq1, hF⟩ := am_bd hF
  refine am_go.call hcd_co_nearest rfl rfl rfl rfl (am_le8 rfl) (am_ev.le (by decide) (tz_pr_next_8 (t := t) hq1)) ?_
  refine am_go.blk hcd_co_nearest 2 (g := (9, [some (.ref 8), some (.int x1), some (.int (0 : Int32)), none, none, none], [.int (q1 - x1)], zz_hC s t, false)) rfl ?_
  obtain ⟨q2, hq2, hF⟩ := am_bd hF
  refine am_go.call hcd_co_nearest rfl rfl rfl rfl (am_le8 rfl) (am_ev.le (by decide) (tz_ma_abs (h := zz_hC s t) hq2)) ?_
  refine am_go.blk hcd_co_nearest 3 (g := (16, [some (.ref 8), some (.int x1), some (.int (0 : Int32)), some (.int q2), some (.int (1 : Int32)), none], [], zz_hC s t, false)) rfl ?_
  exact tz_co_nearest_8_16  fz_fu _ _ _ _ _ hF
def fz_pr_accept_8 (s : am_Z) (x1 : Int32) (x2 : Int32) : Option (am_Z) :=
  if (x1 &&& (15 : Int32)) < 0 ∨ 16 ≤ Int32.toNatClampNeg (x1 &&& (15 : Int32)) then none else
  (fz_sh_limit (((s.1 12) * (am_vDELTAFACTORS.getD (Int32.toNatClampNeg (x1 &&& (15 : Int32))) 0)) >>> ((8 : Int32) &&& 31)) (16 : Int32) (32767 : Int32)).bind fun q2 =>
  some (zz_i (zz_i (zz_i s 11 (s.1 10)) 10 x2) 12 q2)
theorem tz_pr_accept_8 {sc : am_S} {t : am_H} {s : am_Z} {x1 : Int32} {x2 : Int32} {r : am_Z} (hF : fz_pr_accept_8 s x1 x2 = some r) : am_ev sc 2 32 [.ref 8, .int x1, .int x2] (zz_hC s t) ((.inl (none), zz_hC r t, true) : am_R) := by
  unfold fz_pr_accept_8 at hF
  refine am_ev.of true rfl ?_
  show am_go sc _ _ _ _ (0, [some (.ref 8), some (.int x1), some (.int x2)], [], zz_hC s t, true) _
  refine am_go.blk hcd_pr_accept 14 (g := (25, [some (.ref 8), some (.int x1), some (.int x2)], [.int (x1 &&& (15 : Int32)), .float 3, .int (s.1 12), .ref 8], zz_hC (zz_i (zz_i s 11 (s.1 10)) 10 x2) t, true)) rfl ?_
  obtain ⟨hi1, hF⟩ := am_ng hF
  refine am_go.iald hcd_pr_accept rfl rfl hi1 ?_
  refine am_go.blk hcd_pr_accept 5 (g := (35, [some (.ref 8), some (.int x1), some (.int x2)], [.int (32767 : Int32), .int (16 : Int32), .int (((s.1 12) * (am_vDELTAFACTORS.getD (Int32.toNatClampNeg (x1 &&& (15 : Int32))) 0)) >>> ((8 : Int32) &&& 31)), .ref 8], zz_hC (zz_i (zz_i s 11 (s.1 10)) 10 x2) t, true)) rfl ?_
  obtain ⟨q2, hq2, hF⟩ := am_bd hF
  refine am_go.call hcd_pr_accept rfl rfl rfl rfl (am_le8 rfl) (am_ev.le (by decide) (tz_sh_limit (h := zz_hC (zz_i (zz_i s 11 (s.1 10)) 10 x2) t) hq2)) ?_
  refine am_go.blk hcd_pr_accept 1 (g := (41, [some (.ref 8), some (.int x1), some (.int x2)], [], zz_hC (zz_i (zz_i (zz_i s 11 (s.1 10)) 10 x2) 12 q2) t, true)) rfl ?_
  cases hF
  exact am_go.ret hcd_pr_accept rfl rfl ⟨rfl, rfl, (fun h => by cases h), rfl, rfl⟩
theorem hcd_wr_chooseNibbles : am_code 77 = am_c_wr_chooseNibbles := rfl
def fz_wr_chooseNibbles_5_8_100 (K24 : Int32 → Int32 → Int32 → Int32 → am_Z → Option (Int32 × am_Z)) (x2 : Int32) (x3 : Int32) (x4 : Int32) (x5 : Int32) (s : am_Z) : Option (Int32 × am_Z) :=
  if x5 < 0 ∨ 16 ≤ Int32.toNatClampNeg x5 then none else
  if x5 < 0 ∨ 16 ≤ Int32.toNatClampNeg x5 then none else
  (fz_pr_next_8 s ((s.2.2 2) (Int32.toNatClampNeg x5))).bind fun q3 =>
  (fz_pr_accept_8 s ((s.2.2 2) (Int32.toNatClampNeg x5)) q3).bind fun q4 =>
  K24 x2 x3 x4 (x5 + (1 : Int32)) q4
theorem tz_wr_chooseNibbles_5_8_100 {sc : am_S} {t : am_H} {h0 : am_H} {K24 : Int32 → Int32 → Int32 → Int32 → am_Z → Option (Int32 × am_Z)} (hK24 : ∀ (x2 : Int32) (x3 : Int32) (x4 : Int32) (x5 : Int32) (s : am_Z) (r : Int32 × am_Z), K24 x2 x3 x4 x5 s = some r → am_go sc 4 (am_ev sc 3) 77 h0 (24, [some (.ref 5), some (.ref 8), some (.int x2), some (.int x3), some (.int x4), some (.int x5), none], [], zz_hC s t, true) ((.inl (some (.int r.1)), zz_hC r.2 t, true) : am_R)) {x2 : Int32} {x3 : Int32} {x4 : Int32} {x5 : Int32} {s : am_Z} {r : Int32 × am_Z} (hF : fz_wr_chooseNibbles_5_8_100 K24 x2 x3 x4 x5 s = some r) : am_go sc 4 (am_ev sc 3) 77 h0 (100, [some (.ref 5), some (.ref 8), some (.int x2), some (.int x3), some (.int x4), some (.int x5), none], [], zz_hC s t, true) ((.inl (some (.int r.1)), zz_hC r.2 t, true) : am_R) := by
  unfold fz_wr_chooseNibbles_5_8_100 at hF
  refine am_go.blk hcd_wr_chooseNibbles 4 (g := (107, [some (.ref 5), some (.ref 8), some (.int x2), some (.int x3), some (.int x4), some (.int x5), none], [.int x5, .ref 9, .ref 8], zz_hC s t, true)) rfl ?_
  obtain ⟨hi1, hF⟩ := am_ng hF
  refine am_go.iald hcd_wr_chooseNibbles rfl rfl hi1 ?_
  refine am_go.blk hcd_wr_chooseNibbles 4 (g := (115, [some (.ref 5), some (.ref 8), some (.int x2), some (.int x3), some (.int x4), some (.int x5), none], [.int x5, .ref 9, .ref 8, .int ((s.2.2 2) (Int32.toNatClampNeg x5)), .ref 8], zz_hC s t, true)) rfl ?_
  obtain ⟨hi2, hF⟩ := am_ng hF
  refine am_go.iald hcd_wr_chooseNibbles rfl rfl hi2 ?_
  obtain ⟨q3, hq3, hF⟩ := am_bd hF
  refine am_go.call hcd_wr_chooseNibbles rfl rfl rfl rfl (am_le8 rfl) (am_ev.le (by decide) (tz_pr_next_8 (t := t) hq3)) ?_
  obtain ⟨q4, hq4, hF⟩ := am_bd hF
  refine am_go.call hcd_wr_chooseNibbles rfl rfl rfl rfl (am_le8 rfl) (am_ev.le (by decide) (tz_pr_accept_8 (t := t) hq4)) ?_
  refine am_go.blk hcd_wr_chooseNibbles 2 (g := (24, [some (.ref 5), some (.ref 8), some (.int x2), some (.int x3), some (.int x4), some (.int (x5 + (1 : Int32))), none], [], zz_hC q4 t, true)) rfl ?_
  exact hK24 _ _ _ _ _ _ hF
def fz_wr_chooseNibbles_5_8_24  : Nat → Int32 → Int32 → Int32 → Int32 → am_Z → Option (Int32 × am_Z)
  | 0, _, _, _, _, _ => none
  | n + 1, x2, x3, x4, x5, s =>
    if x4 ≤ x5 then
      some (x3, s)
    else
    if x5 < 0 ∨ 16 ≤ Int32.toNatClampNeg x5 then none else
    if (s.1 1) ≤ (x2 + x5) then
      fz_wr_chooseNibbles_5_8_100 (fz_wr_chooseNibbles_5_8_24 n) x2 x3 x4 x5 (zz_r s 2 (upd (s.2.2 2) (Int32.toNatClampNeg x5) (0 : Int32)))
    else
    if (x2 + x5) < 0 ∨ 64 ≤ Int32.toNatClampNeg (x2 + x5) then none else
    (fz_co_nearest_8 (zz_r s 2 (upd (s.2.2 2) (Int32.toNatClampNeg x5) (0 : Int32))) ((s.2.2 0) (Int32.toNatClampNeg (x2 + x5)))).bind fun q3 =>
    if x5 < 0 ∨ 16 ≤ Int32.toNatClampNeg x5 then none else
    if x5 < 0 ∨ 16 ≤ Int32.toNatClampNeg x5 then none else
    (fz_pr_next_8 (zz_r s 2 (upd (upd (s.2.2 2) (Int32.toNatClampNeg x5) (0 : Int32)) (Int32.toNatClampNeg x5) q3)) ((upd (upd (s.2.2 2) (Int32.toNatClampNeg x5) (0 : Int32)) (Int32.toNatClampNeg x5) q3) (Int32.toNatClampNeg x5))).bind fun q6 =>
    (fz_ma_abs (q6 - ((s.2.2 0) (Int32.toNatClampNeg (x2 + x5))))).bind fun q7 =>
    fz_wr_chooseNibbles_5_8_100 (fz_wr_chooseNibbles_5_8_24 n) x2 (x3 + q7) x4 x5 (zz_r s 2 (upd (upd (s.2.2 2) (Int32.toNatClampNeg x5) (0 : Int32)) (Int32.toNatClampNeg x5) q3))
theorem tz_wr_chooseNibbles_5_8_24 {sc : am_S} {t : am_H} {h0 : am_H}   : ∀ (n : Nat) (x2 : Int32) (x3 : Int32) (x4 : Int32) (x5 : Int32) (s : am_Z) (r : Int32 × am_Z), fz_wr_chooseNibbles_5_8_24  n x2 x3 x4 x5 s = some r → am_go sc 4 (am_ev sc 3) 77 h0 (24, [some (.ref 5), some (.ref 8), some (.int x2), some (.int x3), some (.int x4), some (.int x5), none], [], zz_hC s t, true) ((.inl (some (.int r.1)), zz_hC r.2 t, true) : am_R) := by
  intro n
  induction n with
  | zero => intro x2 x3 x4 x5 s r hF; cases hF
  | succ n ih =>
    intro x2 x3 x4 x5 s r hF
    unfold fz_wr_chooseNibbles_5_8_24 at hF
    refine am_go.blk hcd_wr_chooseNibbles 3 (g := (bif decide (x4 ≤ x5) then 128 else 31, [some (.ref 5), some (.ref 8), some (.int x2), some (.int x3), some (.int x4), some (.int x5), none], [], zz_hC s t, true)) rfl ?_
    refine am_go.br (fun hP => ?_) (fun hP => ?_)
    · replace hF := (if_pos hP).symm.trans hF
      refine am_go.blk hcd_wr_chooseNibbles 1 (g := (129, [some (.ref 5), some (.ref 8), some (.int x2), some (.int x3), some (.int x4), some (.int x5), none], [.int x3], zz_hC s t, true)) rfl ?_
      cases hF
      exact am_go.ret hcd_wr_chooseNibbles rfl rfl ⟨rfl, rfl, (fun h => by cases h), Or.inl rfl, rfl⟩
    · replace hF := (if_neg hP).symm.trans hF
      refine am_go.blk hcd_wr_chooseNibbles 4 (g := (38, [some (.ref 5), some (.ref 8), some (.int x2), some (.int x3), some (.int x4), some (.int x5), none], [.int (0 : Int32), .int x5, .ref 9], zz_hC s t, true)) rfl ?_
      obtain ⟨hi1, hF⟩ := am_ng hF
      refine am_go.iast hcd_wr_chooseNibbles rfl rfl hi1 ?_
      refine am_go.blk hcd_wr_chooseNibbles 7 (g := (bif decide ((s.1 1) ≤ (x2 + x5)) then 100 else 53, [some (.ref 5), some (.ref 8), some (.int x2), some (.int x3), some (.int x4), some (.int x5), none], [], zz_hC (zz_r s 2 (upd (s.2.2 2) (Int32.toNatClampNeg x5) (0 : Int32))) t, true)) rfl ?_
      refine am_go.br (fun hP => ?_) (fun hP => ?_)
      · replace hF := (if_pos hP).symm.trans hF
        exact tz_wr_chooseNibbles_5_8_100 (hK24 := ih) hF
      · replace hF := (if_neg hP).symm.trans hF
        refine am_go.blk hcd_wr_chooseNibbles 6 (g := (64, [some (.ref 5), some (.ref 8), some (.int x2), some (.int x3), some (.int x4), some (.int x5), none], [.int (x2 + x5), .ref 2], zz_hC (zz_r s 2 (upd (s.2.2 2) (Int32.toNatClampNeg x5) (0 : Int32))) t, true)) rfl ?_
        obtain ⟨hi2, hF⟩ := am_ng hF
        refine am_go.iald hcd_wr_chooseNibbles rfl rfl hi2 ?_
        refine am_go.blk hcd_wr_chooseNibbles 6 (g := (76, [some (.ref 5), some (.ref 8), some (.int x2), some (.int x3), some (.int x4), some (.int x5), some (.int ((s.2.2 0) (Int32.toNatClampNeg (x2 + x5))))], [.int ((s.2.2 0) (Int32.toNatClampNeg (x2 + x5))), .ref 8, .int x5, .ref 9], zz_hC (zz_r s 2 (upd (s.2.2 2) (Int32.toNatClampNeg x5) (0 : Int32))) t, true)) rfl ?_
        obtain ⟨q3, hq3, hF⟩ := am_bd hF
        refine am_go.call hcd_wr_chooseNibbles rfl rfl rfl rfl (am_le8 rfl) (am_ev.le (by decide) (tz_co_nearest_8 (t := t) hq3)) ?_
        obtain ⟨hi4, hF⟩ := am_ng hF
        refine am_go.iast hcd_wr_chooseNibbles rfl rfl hi4 ?_
        refine am_go.blk hcd_wr_chooseNibbles 5 (g := (88, [some (.ref 5), some (.ref 8), some (.int x2), some (.int x3), some (.int x4), some (.int x5), some (.int ((s.2.2 0) (Int32.toNatClampNeg (x2 + x5))))], [.int x5, .ref 9, .ref 8, .int x3], zz_hC (zz_r s 2 (upd (upd (s.2.2 2) (Int32.toNatClampNeg x5) (0 : Int32)) (Int32.toNatClampNeg x5) q3)) t, true)) rfl ?_
        obtain ⟨hi5, hF⟩ := am_ng hF
        refine am_go.iald hcd_wr_chooseNibbles rfl rfl hi5 ?_
        obtain ⟨q6, hq6, hF⟩ := am_bd hF
        refine am_go.call hcd_wr_chooseNibbles rfl rfl rfl rfl (am_le8 rfl) (am_ev.le (by decide) (tz_pr_next_8 (t := t) hq6)) ?_
        refine am_go.blk hcd_wr_chooseNibbles 2 (g := (95, [some (.ref 5), some (.ref 8), some (.int x2), some (.int x3), some (.int x4), some (.int x5), some (.int ((s.2.2 0) (Int32.toNatClampNeg (x2 + x5))))], [.int (q6 - ((s.2.2 0) (Int32.toNatClampNeg (x2 + x5)))), .int x3], zz_hC (zz_r s 2 (upd (upd (s.2.2 2) (Int32.toNatClampNeg x5) (0 : Int32)) (Int32.toNatClampNeg x5) q3)) t, true)) rfl ?_
        obtain ⟨q7, hq7, hF⟩ := am_bd hF
        refine am_go.call hcd_wr_chooseNibbles rfl rfl rfl rfl (am_le8 rfl) (am_ev.le (by decide) (tz_ma_abs (h := zz_hC (zz_r s 2 (upd (upd (s.2.2 2) (Int32.toNatClampNeg x5) (0 : Int32)) (Int32.toNatClampNeg x5) q3)) t) hq7)) ?_
        refine am_go.blk hcd_wr_chooseNibbles 2 (g := (100, [some (.ref 5), some (.ref 8), some (.int x2), some (.int (x3 + q7)), some (.int x4), some (.int x5), some (.int ((s.2.2 0) (Int32.toNatClampNeg (x2 + x5))))], [], zz_hC (zz_r s 2 (upd (upd (s.2.2 2) (Int32.toNatClampNeg x5) (0 : Int32)) (Int32.toNatClampNeg x5) q3)) t, true)) rfl ?_
        refine am_go.fgl [some (.ref 5), some (.ref 8), some (.int x2), some (.int (x3 + q7)), some (.int x4), some (.int x5), none] ⟨rfl, rfl, rfl, rfl, rfl, rfl, trivial⟩ ?_
        exact tz_wr_chooseNibbles_5_8_100 (hK24 := ih) hF
def fz_wr_chooseNibbles_5_8 (s : am_Z) (x2 : Int32) : Option (Int32 × am_Z) :=
  (fz_fm_bytesOfNibbles_6 s).bind fun q1 =>
  (fz_ma_min (16 : Int32) ((2 : Int32) * q1)).bind fun q2 =>
  fz_wr_chooseNibbles_5_8_24 fz_fu x2 (0 : Int32) q2 (0 : Int32) s
theorem tz_wr_chooseNibbles_5_8 {sc : am_S} {t : am_H} {s : am_Z} {x2 : Int32} {r : Int32 × am_Z} (hF : fz_wr_chooseNibbles_5_8 s x2 = some r) : am_ev sc 4 77 [.ref 5, .ref 8, .int x2] (zz_hC s t) ((.inl (some (.int r.1)), zz_hC r.2 t, true) : am_R) := by
  unfold fz_wr_chooseNibbles_5_8 at hF
  refine am_ev.of true rfl ?_
  show am_go sc _ _ _ _ (0, [some (.ref 5), some (.ref 8), some (.int x2), none, none, none, none], [], zz_hC s t, true) _
  refine am_go.blk hcd_wr_chooseNibbles 8 (g := (12, [some (.ref 5), some (.ref 8), some (.int x2), some (.int (0 : Int32)), none, none, none], [.ref 6, .int (2 : Int32), .int (16 : Int32)], zz_hC s t, true)) rfl ?_
  obtain ⟨q1, hq1, hF⟩ := am_bd hF
  refine am_go.call hcd_wr_chooseNibbles rfl rfl rfl rfl (am_le8 rfl) (am_ev.le (by decide) (tz_fm_bytesOfNibbles_6 (t := t) hq1)) ?_
  refine am_go.blk hcd_wr_chooseNibbles 1 (g := (16, [some (.ref 5), some (.ref 8), some (.int x2), some (.int (0 : Int32)), none, none, none], [.int ((2 : Int32) * q1), .int (16 : Int32)], zz_hC s t, true)) rfl ?_
  obtain ⟨q2, hq2, hF⟩ := am_bd hF
  refine am_go.call hcd_wr_chooseNibbles rfl rfl rfl rfl (am_le8 rfl) (am_ev.le (by decide) (tz_ma_min (h := zz_hC s t) hq2)) ?_
  refine am_go.blk hcd_wr_chooseNibbles 3 (g := (24, [some (.ref 5), some (.ref 8), some (.int x2), some (.int (0 : Int32)), some (.int q2), some (.int (0 : Int32)), none], [], zz_hC s t, true)) rfl ?_
  exact tz_wr_chooseNibbles_5_8_24  fz_fu _ _ _ _ _ _ hF
theorem hcd_wr_bestPair : am_code 75 = am_c_wr_bestPair := rfl
def fz_wr_bestPair_55 (K8 : Int32 → Int32 → Int32 → Int32 → Int32 → am_Z → Option (Int32 × am_Z)) (x1 : Int32) (x2 : Int32) (x3 : Int32) (x4 : Int32) (x5 : Int32) (s : am_Z) : Option (Int32 × am_Z) :=
  K8 x1 x2 x3 x4 (x5 + (1 : Int32)) s
theorem tz_wr_bestPair_55 {sc : am_S} {t : am_H} {h0 : am_H} {K8 : Int32 → Int32 → Int32 → Int32 → Int32 → am_Z → Option (Int32 × am_Z)} (hK8 : ∀ (x1 : Int32) (x2 : Int32) (x3 : Int32) (x4 : Int32) (x5 : Int32) (s : am_Z) (r : Int32 × am_Z), K8 x1 x2 x3 x4 x5 s = some r → am_go sc 5 (am_ev sc 4) 75 h0 (8, [some (.ref 5), some (.int x1), some (.int x2), some (.int x3), some (.int x4), some (.int x5), none], [], zz_hC s t, true) ((.inl (some (.int r.1)), zz_hC r.2 t, true) : am_R)) {x1 : Int32} {x2 : Int32} {x3 : Int32} {x4 : Int32} {x5 : Int32} {s : am_Z} {r : Int32 × am_Z} (hF : fz_wr_bestPair_55 K8 x1 x2 x3 x4 x5 s = some r) : am_go sc 5 (am_ev sc 4) 75 h0 (55, [some (.ref 5), some (.int x1), some (.int x2), some (.int x3), some (.int x4), some (.int x5), none], [], zz_hC s t, true) ((.inl (some (.int r.1)), zz_hC r.2 t, true) : am_R) := by
  unfold fz_wr_bestPair_55 at hF
  refine am_go.blk hcd_wr_bestPair 2 (g := (8, [some (.ref 5), some (.int x1), some (.int x2), some (.int x3), some (.int x4), some (.int (x5 + (1 : Int32))), none], [], zz_hC s t, true)) rfl ?_
  exact hK8 _ _ _ _ _ _ _ hF
def fz_wr_bestPair_48 (K8 : Int32 → Int32 → Int32 → Int32 → Int32 → am_Z → Option (Int32 × am_Z)) (x1 : Int32) (x2 : Int32) (x5 : Int32) (x6 : Int32) (s : am_Z) : Option (Int32 × am_Z) :=
  fz_wr_bestPair_55 K8 x1 x2 x5 x6 x5 s
theorem tz_wr_bestPair_48 {sc : am_S} {t : am_H} {h0 : am_H} {K8 : Int32 → Int32 → Int32 → Int32 → Int32 → am_Z → Option (Int32 × am_Z)} (hK8 : ∀ (x1 : Int32) (x2 : Int32) (x3 : Int32) (x4 : Int32) (x5 : Int32) (s : am_Z) (r : Int32 × am_Z), K8 x1 x2 x3 x4 x5 s = some r → am_go sc 5 (am_ev sc 4) 75 h0 (8, [some (.ref 5), some (.int x1), some (.int x2), some (.int x3), some (.int x4), some (.int x5), none], [], zz_hC s t, true) ((.inl (some (.int r.1)), zz_hC r.2 t, true) : am_R)) {x1 : Int32} {x2 : Int32} {x5 : Int32} {x6 : Int32} {s : am_Z} {r : Int32 × am_Z} (hF : fz_wr_bestPair_48 K8 x1 x2 x5 x6 s = some r) : am_go sc 5 (am_ev sc 4) 75 h0 (48, [some (.ref 5), some (.int x1), some (.int x2), none, none, some (.int x5), some (.int x6)], [], zz_hC s t, true) ((.inl (some (.int r.1)), zz_hC r.2 t, true) : am_R) := by
  unfold fz_wr_bestPair_48 at hF
  refine am_go.blk hcd_wr_bestPair 4 (g := (55, [some (.ref 5), some (.int x1), some (.int x2), some (.int x5), some (.int x6), some (.int x5), some (.int x6)], [], zz_hC s t, true)) rfl ?_
  refine am_go.fgl [some (.ref 5), some (.int x1), some (.int x2), some (.int x5), some (.int x6), some (.int x5), none] ⟨rfl, rfl, rfl, rfl, rfl, rfl, trivial⟩ ?_
  exact tz_wr_bestPair_55 (hK8 := hK8) hF
def fz_wr_bestPair_8  : Nat → Int32 → Int32 → Int32 → Int32 → Int32 → am_Z → Option (Int32 × am_Z)
  | 0, _, _, _, _, _, _ => none
  | n + 1, x1, x2, x3, x4, x5, s =>
    if (6 : Int32) < x5 then
      some (x3, s)
    else
    (fz_wr_startPair s x1 x2 x5).bind fun q1 =>
    (fz_wr_chooseNibbles_5_8 q1 (x1 + (2 : Int32))).bind fun q2 =>
    if x5 = 0 then
      fz_wr_bestPair_48 (fz_wr_bestPair_8 n) x1 x2 x5 q2.1 q2.2
    else
    if x4 ≤ q2.1 then
      fz_wr_bestPair_55 (fz_wr_bestPair_8 n) x1 x2 x3 x4 x5 q2.2
    else
    fz_wr_bestPair_48 (fz_wr_bestPair_8 n) x1 x2 x5 q2.1 q2.2
theorem tz_wr_bestPair_8 {sc : am_S} {t : am_H} {h0 : am_H}   : ∀ (n : Nat) (x1 : Int32) (x2 : Int32) (x3 : Int32) (x4 : Int32) (x5 : Int32) (s : am_Z) (r : Int32 × am_Z), fz_wr_bestPair_8  n x1 x2 x3 x4 x5 s = some r → am_go sc 5 (am_ev sc 4) 75 h0 (8, [some (.ref 5), some (.int x1), some (.int x2), some (.int x3), some (.int x4), some (.int x5), none], [], zz_hC s t, true) ((.inl (some (.int r.1)), zz_hC r.2 t, true) : am_R) := by
  intro n
  induction n with
  | zero => intro x1 x2 x3 x4 x5 s r hF; cases hF
  | succ n ih =>
    intro x1 x2 x3 x4 x5 s r hF
    unfold fz_wr_bestPair_8 at hF
    refine am_go.blk hcd_wr_bestPair 3 (g := (bif decide ((6 : Int32) < x5) then 61 else 15, [some (.ref 5), some (.int x1), some (.int x2), some (.int x3), some (.int x4), some (.int x5), none], [], zz_hC s t, true)) rfl ?_
    refine am_go.br (fun hP => ?_) (fun hP => ?_)
    · replace hF := (if_pos hP).symm.trans hF
      refine am_go.blk hcd_wr_bestPair 1 (g := (62, [some (.ref 5), some (.int x1), some (.int x2), some (.int x3), some (.int x4), some (.int x5), none], [.int x3], zz_hC s t, true)) rfl ?_
      cases hF
      exact am_go.ret hcd_wr_bestPair rfl rfl ⟨rfl, rfl, (fun h => by cases h), Or.inl rfl, rfl⟩
    · replace hF := (if_neg hP).symm.trans hF
      refine am_go.blk hcd_wr_bestPair 4 (g := (20, [some (.ref 5), some (.int x1), some (.int x2), some (.int x3), some (.int x4), some (.int x5), none], [.int x5, .int x2, .int x1, .ref 5], zz_hC s t, true)) rfl ?_
      obtain ⟨q1, hq1, hF⟩ := am_bd hF
      refine am_go.call hcd_wr_bestPair rfl rfl rfl rfl (am_le8 rfl) (am_ev.le (by decide) (tz_wr_startPair (t := t) hq1)) ?_
      refine am_go.blk hcd_wr_bestPair 6 (g := (31, [some (.ref 5), some (.int x1), some (.int x2), some (.int x3), some (.int x4), some (.int x5), none], [.int (x1 + (2 : Int32)), .ref 8, .ref 5], zz_hC q1 t, true)) rfl ?_
      obtain ⟨q2, hq2, hF⟩ := am_bd hF
      refine am_go.call hcd_wr_bestPair rfl rfl rfl rfl (am_le8 rfl) (am_ev.le (by decide) (tz_wr_chooseNibbles_5_8 (t := t) hq2)) ?_
      refine am_go.blk hcd_wr_bestPair 3 (g := (bif decide (x5 = 0) then 48 else 41, [some (.ref 5), some (.int x1), some (.int x2), some (.int x3), some (.int x4), some (.int x5), some (.int q2.1)], [], zz_hC q2.2 t, true)) rfl ?_
      refine am_go.br (fun hP => ?_) (fun hP => ?_)
      · replace hF := (if_pos hP).symm.trans hF
        refine am_go.fgl [some (.ref 5), some (.int x1), some (.int x2), none, none, some (.int x5), some (.int q2.1)] ⟨rfl, rfl, rfl, rfl, rfl, trivial⟩ ?_
        exact tz_wr_bestPair_48 (hK8 := ih) hF
      · replace hF := (if_neg hP).symm.trans hF
        refine am_go.blk hcd_wr_bestPair 3 (g := (bif decide (x4 ≤ q2.1) then 55 else 48, [some (.ref 5), some (.int x1), some (.int x2), some (.int x3), some (.int x4), some (.int x5), some (.int q2.1)], [], zz_hC q2.2 t, true)) rfl ?_
        refine am_go.br (fun hP => ?_) (fun hP => ?_)
        · replace hF := (if_pos hP).symm.trans hF
          refine am_go.fgl [some (.ref 5), some (.int x1), some (.int x2), some (.int x3), some (.int x4), some (.int x5), none] ⟨rfl, rfl, rfl, rfl, rfl, rfl, trivial⟩ ?_
          exact tz_wr_bestPair_55 (hK8 := ih) hF
        · replace hF := (if_neg hP).symm.trans hF
          refine am_go.fgl [some (.ref 5), some (.int x1), some (.int x2), none, none, some (.int x5), some (.int q2.1)] ⟨rfl, rfl, rfl, rfl, rfl, trivial⟩ ?_
          exact tz_wr_bestPair_48 (hK8 := ih) hF
def fz_wr_bestPair (s : am_Z) (x1 : Int32) (x2 : Int32) : Option (Int32 × am_Z) :=
  fz_wr_bestPair_8 fz_fu x1 x2 (0 : Int32) (0 : Int32) (0 : Int32) s
theorem tz_wr_bestPair {sc : am_S} {t : am_H} {s : am_Z} {x1 : Int32} {x2 : Int32} {r : Int32 × am_Z} (hF : fz_wr_bestPair s x1 x2 = some r) : am_ev sc 5 75 [.ref 5, .int x1, .int x2] (zz_hC s t) ((.inl (some (.int r.1)), zz_hC r.2 t, true) : am_R) := by
  unfold fz_wr_bestPair at hF
  refine am_ev.of true rfl ?_
  show am_go sc _ _ _ _ (0, [some (.ref 5), some (.int x1), some (.int x2), none, none, none, none], [], zz_hC s t, true) _
  refine am_go.blk hcd_wr_bestPair 6 (g := (8, [some (.ref 5), some (.int x1), some (.int x2), some (.int (0 : Int32)), some (.int (0 : Int32)), some (.int (0 : Int32)), none], [], zz_hC s t, true)) rfl ?_
  exact tz_wr_bestPair_8  fz_fu _ _ _ _ _ _ _ hF
theorem hcd_wr_putNibbles : am_code 78 = am_c_wr_putNibbles := rfl
def fz_wr_putNibbles_21  : Nat → Int32 → Int32 → Int32 → Int32 → am_Z → Option (am_Z)
  | 0, _, _, _, _, _ => none
  | n + 1, x1, x2, x3, x4, s =>
    if x3 ≤ (x4 + (1 : Int32)) then
      some s
    else
    if x4 < 0 ∨ 16 ≤ Int32.toNatClampNeg x4 then none else
    if (x4 + (1 : Int32)) < 0 ∨ 16 ≤ Int32.toNatClampNeg (x4 + (1 : Int32)) then none else
    (fz_by_put s ((((s.2.2 2) (Int32.toNatClampNeg x4)) <<< (x1 &&& 31)) ||| (((s.2.2 2) (Int32.toNatClampNeg (x4 + (1 : Int32)))) <<< (x2 &&& 31)))).bind fun q3 =>
    fz_wr_putNibbles_21 n x1 x2 x3 (x4 + (2 : Int32)) q3
theorem tz_wr_putNibbles_21 {sc : am_S} {t : am_H} {h0 : am_H}   : ∀ (n : Nat) (x1 : Int32) (x2 : Int32) (x3 : Int32) (x4 : Int32) (s : am_Z) (r : am_Z), fz_wr_putNibbles_21  n x1 x2 x3 x4 s = some r → am_go sc 2 (am_ev sc 1) 78 h0 (21, [some (.ref 5), some (.int x1), some (.int x2), some (.int x3), some (.int x4)], [], zz_hC s t, true) ((.inl (none), zz_hC r t, true) : am_R) := by
  intro n
  induction n with
  | zero => intro x1 x2 x3 x4 s r hF; cases hF
  | succ n ih =>
    intro x1 x2 x3 x4 s r hF
    unfold fz_wr_putNibbles_21 at hF
    refine am_go.blk hcd_wr_putNibbles 5 (g := (bif decide (x3 ≤ (x4 + (1 : Int32))) then 63 else 29, [some (.ref 5), some (.int x1), some (.int x2), some (.int x3), some (.int x4)], [], zz_hC s t, true)) rfl ?_
    refine am_go.br (fun hP => ?_) (fun hP => ?_)
    · replace hF := (if_pos hP).symm.trans hF
      cases hF
      exact am_go.ret hcd_wr_putNibbles rfl rfl ⟨rfl, rfl, (fun h => by cases h), rfl, rfl⟩
    · replace hF := (if_neg hP).symm.trans hF
      refine am_go.blk hcd_wr_putNibbles 5 (g := (39, [some (.ref 5), some (.int x1), some (.int x2), some (.int x3), some (.int x4)], [.int x4, .ref 9, .ref 3], zz_hC s t, true)) rfl ?_
      obtain ⟨hi1, hF⟩ := am_ng hF
      refine am_go.iald hcd_wr_putNibbles rfl rfl hi1 ?_
      refine am_go.blk hcd_wr_putNibbles 7 (g := (50, [some (.ref 5), some (.int x1), some (.int x2), some (.int x3), some (.int x4)], [.int (x4 + (1 : Int32)), .ref 9, .int (((s.2.2 2) (Int32.toNatClampNeg x4)) <<< (x1 &&& 31)), .ref 3], zz_hC s t, true)) rfl ?_
      obtain ⟨hi2, hF⟩ := am_ng hF
      refine am_go.iald hcd_wr_putNibbles rfl rfl hi2 ?_
      refine am_go.blk hcd_wr_putNibbles 3 (g := (54, [some (.ref 5), some (.int x1), some (.int x2), some (.int x3), some (.int x4)], [.int ((((s.2.2 2) (Int32.toNatClampNeg x4)) <<< (x1 &&& 31)) ||| (((s.2.2 2) (Int32.toNatClampNeg (x4 + (1 : Int32)))) <<< (x2 &&& 31))), .ref 3], zz_hC s t, true)) rfl ?_
      obtain ⟨q3, hq3, hF⟩ := am_bd hF
      refine am_go.call hcd_wr_putNibbles rfl rfl rfl rfl (am_le8 rfl) (am_ev.le (by decide) (tz_by_put (t := t) hq3)) ?_
      refine am_go.blk hcd_wr_putNibbles 2 (g := (21, [some (.ref 5), some (.int x1), some (.int x2), some (.int x3), some (.int (x4 + (2 : Int32)))], [], zz_hC q3 t, true)) rfl ?_
      exact ih _ _ _ _ _ _ hF
def fz_wr_putNibbles (s : am_Z) (x1 : Int32) (x2 : Int32) : Option (am_Z) :=
  (fz_fm_bytesOfNibbles_6 s).bind fun q1 =>
  (fz_ma_min (16 : Int32) ((2 : Int32) * q1)).bind fun q2 =>
  fz_wr_putNibbles_21 fz_fu x1 x2 q2 (0 : Int32) s
theorem tz_wr_putNibbles {sc : am_S} {t : am_H} {s : am_Z} {x1 : Int32} {x2 : Int32} {r : am_Z} (hF : fz_wr_putNibbles s x1 x2 = some r) : am_ev sc 2 78 [.ref 5, .int x1, .int x2] (zz_hC s t) ((.inl (none), zz_hC r t, true) : am_R) := by
  unfold fz_wr_putNibbles at hF
  refine am_ev.of true rfl ?_
  show am_go sc _ _ _ _ (0, [some (.ref 5), some (.int x1), some (.int x2), none, none], [], zz_hC s t, true) _
  refine am_go.blk hcd_wr_putNibbles 6 (g := (10, [some (.ref 5), some (.int x1), some (.int x2), none, none], [.ref 6, .int (2 : Int32), .int (16 : Int32)], zz_hC s t, true)) rfl ?_
  obtain ⟨q1, hq1, hF⟩ := am_bd hF
  refine am_go.call hcd_wr_putNibbles rfl rfl rfl rfl (am_le8 rfl) (am_ev.le (by decide) (tz_fm_bytesOfNibbles_6 (t := t) hq1)) ?_
  refine am_go.blk hcd_wr_putNibbles 1 (g := (14, [some (.ref 5), some (.int x1), some (.int x2), none, none], [.int ((2 : Int32) * q1), .int (16 : Int32)], zz_hC s t, true)) rfl ?_
  obtain ⟨q2, hq2, hF⟩ := am_bd hF
  refine am_go.call hcd_wr_putNibbles rfl rfl rfl rfl (am_le8 rfl) (am_ev.le (by decide) (tz_ma_min (h := zz_hC s t) hq2)) ?_
  refine am_go.blk hcd_wr_putNibbles 3 (g := (21, [some (.ref 5), some (.int x1), some (.int x2), some (.int q2), some (.int (0 : Int32))], [], zz_hC s t, true)) rfl ?_
  exact tz_wr_putNibbles_21  fz_fu _ _ _ _ _ _ hF
theorem hcd_wr_putByteBehind : am_code 73 = am_c_wr_putByteBehind := rfl
def fz_wr_putByteBehind (s : am_Z) (x1 : Int32) : Option (am_Z) :=
  if (x1 - x1 / (2 : Int32) * (2 : Int32)) = 0 then
    some s
  else
  (fz_by_put s (0 : Int32)).bind fun q1 =>
  some q1
theorem tz_wr_putByteBehind {sc : am_S} {t : am_H} {s : am_Z} {x1 : Int32} {r : am_Z} (hF : fz_wr_putByteBehind s x1 = some r) : am_ev sc 2 73 [.ref 5, .int x1] (zz_hC s t) ((.inl (none), zz_hC r t, true) : am_R) := by
  unfold fz_wr_putByteBehind at hF
  refine am_ev.of true rfl ?_
  show am_go sc _ _ _ _ (0, [some (.ref 5), some (.int x1)], [], zz_hC s t, true) _
  refine am_go.blk hcd_wr_putByteBehind 2 (g := (2, [some (.ref 5), some (.int x1)], [.int (2 : Int32), .int x1], zz_hC s t, true)) rfl ?_
  refine am_go.irm hcd_wr_putByteBehind rfl (by decide) ?_
  refine am_go.blk hcd_wr_putByteBehind 1 (g := (bif decide ((x1 - x1 / (2 : Int32) * (2 : Int32)) = 0) then 14 else 6, [some (.ref 5), some (.int x1)], [], zz_hC s t, true)) rfl ?_
  refine am_go.br (fun hP => ?_) (fun hP => ?_)
  · replace hF := (if_pos hP).symm.trans hF
    cases hF
    exact am_go.ret hcd_wr_putByteBehind rfl rfl ⟨rfl, rfl, (fun h => by cases h), rfl, rfl⟩
  · replace hF := (if_neg hP).symm.trans hF
    refine am_go.blk hcd_wr_putByteBehind 3 (g := (11, [some (.ref 5), some (.int x1)], [.int (0 : Int32), .ref 3], zz_hC s t, true)) rfl ?_
    obtain ⟨q1, hq1, hF⟩ := am_bd hF
    refine am_go.call hcd_wr_putByteBehind rfl rfl rfl rfl (am_le8 rfl) (am_ev.le (by decide) (tz_by_put (t := t) hq1)) ?_
    cases hF
    exact am_go.ret hcd_wr_putByteBehind rfl rfl ⟨rfl, rfl, (fun h => by cases h), rfl, rfl⟩
theorem hcd_wr_writePredicted : am_code 68 = am_c_wr_writePredicted := rfl
def fz_wr_writePredicted_14  : Nat → Int32 → Int32 → am_Z → Option (am_Z)
  | 0, _, _, _ => none
  | n + 1, x2, x3, s =>
    if (s.1 1) ≤ x3 then
      (fz_fm_sizeOfData_6 s (s.1 1)).bind fun q1 =>
      (fz_wr_putByteBehind s q1).bind fun q2 =>
      some q2
    else
    (fz_wr_bestPair s x3 x2).bind fun q3 =>
    (fz_by_put q3.2 q3.1).bind fun q4 =>
    (fz_by_putLittle q4 (Int32.toInt64 x2) (2 : Int32)).bind fun q5 =>
    (fz_wr_secondOfBlock q5 x3).bind fun q6 =>
    (fz_by_putLittle q5 (Int32.toInt64 q6) (2 : Int32)).bind fun q7 =>
    if x3 < 0 ∨ 64 ≤ Int32.toNatClampNeg x3 then none else
    (fz_by_putLittle q7 (Int32.toInt64 ((q7.2.2 0) (Int32.toNatClampNeg x3))) (2 : Int32)).bind fun q9 =>
    (fz_wr_startPair q9 x3 x2 q3.1).bind fun q10 =>
    (fz_wr_chooseNibbles_5_8 q10 (x3 + (2 : Int32))).bind fun q11 =>
    (fz_wr_putNibbles q11.2 (4 : Int32) (0 : Int32)).bind fun q12 =>
    fz_wr_writePredicted_14 n (q12.1 12) (x3 + (q12.1 7)) q12
theorem tz_wr_writePredicted_14 {sc : am_S} {t : am_H} {h0 : am_H}   : ∀ (n : Nat) (x2 : Int32) (x3 : Int32) (s : am_Z) (r : am_Z), fz_wr_writePredicted_14  n x2 x3 s = some r → am_go sc 6 (am_ev sc 5) 68 h0 (14, [some (.ref 5), none, some (.int x2), some (.int x3), none], [], zz_hC s t, true) ((.inl (none), zz_hC r t, true) : am_R) := by
  intro n
  induction n with
  | zero => intro x2 x3 s r hF; cases hF
  | succ n ih =>
    intro x2 x3 s r hF
    unfold fz_wr_writePredicted_14 at hF
    refine am_go.blk hcd_wr_writePredicted 5 (g := (bif decide ((s.1 1) ≤ x3) then 131 else 25, [some (.ref 5), none, some (.int x2), some (.int x3), none], [], zz_hC s t, true)) rfl ?_
    refine am_go.br (fun hP => ?_) (fun hP => ?_)
    · replace hF := (if_pos hP).symm.trans hF
      refine am_go.blk hcd_wr_writePredicted 6 (g := (143, [some (.ref 5), none, some (.int x2), some (.int x3), none], [.int (s.1 1), .ref 6, .ref 5], zz_hC s t, true)) rfl ?_
      obtain ⟨q1, hq1, hF⟩ := am_bd hF
      refine am_go.call hcd_wr_writePredicted rfl rfl rfl rfl (am_le8 rfl) (am_ev.le (by decide) (tz_fm_sizeOfData_6 (t := t) hq1)) ?_
      obtain ⟨q2, hq2, hF⟩ := am_bd hF
      refine am_go.call hcd_wr_writePredicted rfl rfl rfl rfl (am_le8 rfl) (am_ev.le (by decide) (tz_wr_putByteBehind (t := t) hq2)) ?_
      cases hF
      exact am_go.ret hcd_wr_writePredicted rfl rfl ⟨rfl, rfl, (fun h => by cases h), rfl, rfl⟩
    · replace hF := (if_neg hP).symm.trans hF
      refine am_go.blk hcd_wr_writePredicted 3 (g := (28, [some (.ref 5), none, some (.int x2), some (.int x3), none], [.int x2, .int x3, .ref 5], zz_hC s t, true)) rfl ?_
      obtain ⟨q3, hq3, hF⟩ := am_bd hF
      refine am_go.call hcd_wr_writePredicted rfl rfl rfl rfl (am_le8 rfl) (am_ev.le (by decide) (tz_wr_bestPair (t := t) hq3)) ?_
      refine am_go.blk hcd_wr_writePredicted 4 (g := (39, [some (.ref 5), none, some (.int x2), some (.int x3), some (.int q3.1)], [.int q3.1, .ref 3], zz_hC q3.2 t, true)) rfl ?_
      obtain ⟨q4, hq4, hF⟩ := am_bd hF
      refine am_go.call hcd_wr_writePredicted rfl rfl rfl rfl (am_le8 rfl) (am_ev.le (by decide) (tz_by_put (t := t) hq4)) ?_
      refine am_go.blk hcd_wr_writePredicted 5 (g := (49, [some (.ref 5), none, some (.int x2), some (.int x3), some (.int q3.1)], [.int (2 : Int32), .long (Int32.toInt64 x2), .ref 3], zz_hC q4 t, true)) rfl ?_
      obtain ⟨q5, hq5, hF⟩ := am_bd hF
      refine am_go.call hcd_wr_writePredicted rfl rfl rfl rfl (am_le8 rfl) (am_ev.le (by decide) (tz_by_putLittle (t := t) hq5)) ?_
      refine am_go.blk hcd_wr_writePredicted 4 (g := (58, [some (.ref 5), none, some (.int x2), some (.int x3), some (.int q3.1)], [.int x3, .ref 5, .ref 3], zz_hC q5 t, true)) rfl ?_
      obtain ⟨q6, hq6, hF⟩ := am_bd hF
      refine am_go.call hcd_wr_writePredicted rfl rfl rfl rfl (am_le8 rfl) (am_ev.le (by decide) (tz_wr_secondOfBlock (t := t) hq6)) ?_
      refine am_go.blk hcd_wr_writePredicted 2 (g := (63, [some (.ref 5), none, some (.int x2), some (.int x3), some (.int q3.1)], [.int (2 : Int32), .long (Int32.toInt64 q6), .ref 3], zz_hC q5 t, true)) rfl ?_
      obtain ⟨q7, hq7, hF⟩ := am_bd hF
      refine am_go.call hcd_wr_writePredicted rfl rfl rfl rfl (am_le8 rfl) (am_ev.le (by decide) (tz_by_putLittle (t := t) hq7)) ?_
      refine am_go.blk hcd_wr_writePredicted 6 (g := (78, [some (.ref 5), none, some (.int x2), some (.int x3), some (.int q3.1)], [.int x3, .ref 2, .ref 3], zz_hC q7 t, true)) rfl ?_
      obtain ⟨hi8, hF⟩ := am_ng hF
      refine am_go.iald hcd_wr_writePredicted rfl rfl hi8 ?_
      refine am_go.blk hcd_wr_writePredicted 2 (g := (81, [some (.ref 5), none, some (.int x2), some (.int x3), some (.int q3.1)], [.int (2 : Int32), .long (Int32.toInt64 ((q7.2.2 0) (Int32.toNatClampNeg x3))), .ref 3], zz_hC q7 t, true)) rfl ?_
      obtain ⟨q9, hq9, hF⟩ := am_bd hF
      refine am_go.call hcd_wr_writePredicted rfl rfl rfl rfl (am_le8 rfl) (am_ev.le (by decide) (tz_by_putLittle (t := t) hq9)) ?_
      refine am_go.blk hcd_wr_writePredicted 4 (g := (89, [some (.ref 5), none, some (.int x2), some (.int x3), some (.int q3.1)], [.int q3.1, .int x2, .int x3, .ref 5], zz_hC q9 t, true)) rfl ?_
      obtain ⟨q10, hq10, hF⟩ := am_bd hF
      refine am_go.call hcd_wr_writePredicted rfl rfl rfl rfl (am_le8 rfl) (am_ev.le (by decide) (tz_wr_startPair (t := t) hq10)) ?_
      refine am_go.blk hcd_wr_writePredicted 6 (g := (100, [some (.ref 5), none, some (.int x2), some (.int x3), some (.int q3.1)], [.int (x3 + (2 : Int32)), .ref 8, .ref 5], zz_hC q10 t, true)) rfl ?_
      obtain ⟨q11, hq11, hF⟩ := am_bd hF
      refine am_go.call hcd_wr_writePredicted rfl rfl rfl rfl (am_le8 rfl) (am_ev.le (by decide) (tz_wr_chooseNibbles_5_8 (t := t) hq11)) ?_
      refine am_go.blk hcd_wr_writePredicted 4 (g := (107, [some (.ref 5), none, some (.int x2), some (.int x3), some (.int q3.1)], [.int (0 : Int32), .int (4 : Int32), .ref 5], zz_hC q11.2 t, true)) rfl ?_
      obtain ⟨q12, hq12, hF⟩ := am_bd hF
      refine am_go.call hcd_wr_writePredicted rfl rfl rfl rfl (am_le8 rfl) (am_ev.le (by decide) (tz_wr_putNibbles (t := t) hq12)) ?_
      refine am_go.blk hcd_wr_writePredicted 11 (g := (14, [some (.ref 5), none, some (.int (q12.1 12)), some (.int (x3 + (q12.1 7))), some (.int q3.1)], [], zz_hC q12 t, true)) rfl ?_
      refine am_go.fgl [some (.ref 5), none, some (.int (q12.1 12)), some (.int (x3 + (q12.1 7))), none] ⟨rfl, rfl, rfl, trivial⟩ ?_
      exact ih _ _ _ _ hF
def fz_wr_writePredicted (s : am_Z) (x1 : Int32) : Option (am_Z) :=
  (fz_wr_startWave s (2 : Int32) ((7 : Int32) + x1)).bind fun q1 =>
  fz_wr_writePredicted_14 fz_fu (16 : Int32) (0 : Int32) q1
theorem tz_wr_writePredicted {sc : am_S} {t : am_H} {s : am_Z} {x1 : Int32} {r : am_Z} (hF : fz_wr_writePredicted s x1 = some r) : am_ev sc 6 68 [.ref 5, .int x1] (zz_hC s t) ((.inl (none), zz_hC r t, true) : am_R) := by
  unfold fz_wr_writePredicted at hF
  refine am_ev.of true rfl ?_
  show am_go sc _ _ _ _ (0, [some (.ref 5), some (.int x1), none, none, none], [], zz_hC s t, true) _
  refine am_go.blk hcd_wr_writePredicted 5 (g := (6, [some (.ref 5), some (.int x1), none, none, none], [.int ((7 : Int32) + x1), .int (2 : Int32), .ref 5], zz_hC s t, true)) rfl ?_
  obtain ⟨q1, hq1, hF⟩ := am_bd hF
  refine am_go.call hcd_wr_writePredicted rfl rfl rfl rfl (am_le8 rfl) (am_ev.le (by decide) (tz_wr_startWave (t := t) hq1)) ?_
  refine am_go.blk hcd_wr_writePredicted 4 (g := (14, [some (.ref 5), some (.int x1), some (.int (16 : Int32)), some (.int (0 : Int32)), none], [], zz_hC q1 t, true)) rfl ?_
  refine am_go.fgl [some (.ref 5), none, some (.int (16 : Int32)), some (.int (0 : Int32)), none] ⟨rfl, rfl, rfl, trivial⟩ ?_
  exact tz_wr_writePredicted_14  fz_fu _ _ _ _ hF
def fz_sp_start_7 (s : am_Z) (x1 : Int32) (x2 : Int32) : Option (am_Z) :=
  (fz_sh_limit x2 (0 : Int32) (88 : Int32)).bind fun q1 =>
  some (zz_i (zz_i s 8 x1) 9 q1)
theorem tz_sp_start_7 {sc : am_S} {t : am_H} {s : am_Z} {x1 : Int32} {x2 : Int32} {r : am_Z} (hF : fz_sp_start_7 s x1 x2 = some r) : am_ev sc 2 34 [.ref 7, .int x1, .int x2] (zz_hC s t) ((.inl (none), zz_hC r t, true) : am_R) := by
  unfold fz_sp_start_7 at hF
  refine am_ev.of true rfl ?_
  show am_go sc _ _ _ _ (0, [some (.ref 7), some (.int x1), some (.int x2)], [], zz_hC s t, true) _
  refine am_go.blk hcd_sp_start 7 (g := (10, [some (.ref 7), some (.int x1), some (.int x2)], [.int (88 : Int32), .int (0 : Int32), .int x2, .ref 7], zz_hC (zz_i s 8 x1) t, true)) rfl ?_
  obtain ⟨q1, hq1, hF⟩ := am_bd hF
  refine am_go.call hcd_sp_start rfl rfl rfl rfl (am_le8 rfl) (am_ev.le (by decide) (tz_sh_limit (h := zz_hC (zz_i s 8 x1) t) hq1)) ?_
  refine am_go.blk hcd_sp_start 1 (g := (16, [some (.ref 7), some (.int x1), some (.int x2)], [], zz_hC (zz_i (zz_i s 8 x1) 9 q1) t, true)) rfl ?_
  cases hF
  exact am_go.ret hcd_sp_start rfl rfl ⟨rfl, rfl, (fun h => by cases h), rfl, rfl⟩
def fz_sp_next_7_69 (s : am_Z) (y0 : Int32) : Option (Int32) :=
  (fz_sh_limit y0 (-32768 : Int32) (32767 : Int32)).bind fun q1 =>
  some q1
theorem tz_sp_next_7_69 {sc : am_S} {t : am_H} {h0 : am_H} {s : am_Z}  {y0 : Int32} {r : Int32} (hF : fz_sp_next_7_69 s y0 = some r) : am_go sc 2 (am_ev sc 1) 35 h0 (69, [none, none, none, none, none], [.int y0], zz_hC s t, false) ((.inl (some (.int r)), zz_hC s t, false) : am_R) := by
  unfold fz_sp_next_7_69 at hF
  refine am_go.blk hcd_sp_next 4 (g := (79, [none, none, none, none, some (.int y0)], [.int (32767 : Int32), .int (-32768 : Int32), .int y0], zz_hC s t, false)) rfl ?_
  obtain ⟨q1, hq1, hF⟩ := am_bd hF
  refine am_go.call hcd_sp_next rfl rfl rfl rfl (am_le8 rfl) (am_ev.le (by decide) (tz_sh_limit (h := zz_hC s t) hq1)) ?_
  cases hF
  exact am_go.ret hcd_sp_next rfl rfl ⟨rfl, rfl, (fun _ => rfl), Or.inl rfl, rfl⟩
def fz_sp_next_7_47 (s : am_Z) (x1 : Int32) (x3 : Int32) : Option (Int32) :=
  if (x1 &&& (8 : Int32)) = 0 then
    fz_sp_next_7_69 s ((s.1 8) + x3)
  else
  fz_sp_next_7_69 s ((s.1 8) - x3)
theorem tz_sp_next_7_47 {sc : am_S} {t : am_H} {h0 : am_H} {s : am_Z}  {x1 : Int32} {x3 : Int32} {r : Int32} (hF : fz_sp_next_7_47 s x1 x3 = some r) : am_go sc 2 (am_ev sc 1) 35 h0 (47, [some (.ref 7), some (.int x1), none, some (.int x3), none], [], zz_hC s t, false) ((.inl (some (.int r)), zz_hC s t, false) : am_R) := by
  unfold fz_sp_next_7_47 at hF
  refine am_go.blk hcd_sp_next 4 (g := (bif decide ((x1 &&& (8 : Int32)) = 0) then 63 else 54, [some (.ref 7), some (.int x1), none, some (.int x3), none], [], zz_hC s t, false)) rfl ?_
  refine am_go.br (fun hP => ?_) (fun hP => ?_)
  · replace hF := (if_pos hP).symm.trans hF
    refine am_go.blk hcd_sp_next 4 (g := (69, [some (.ref 7), some (.int x1), none, some (.int x3), none], [.int ((s.1 8) + x3)], zz_hC s t, false)) rfl ?_
    refine am_go.fgl [none, none, none, none, none] trivial ?_
    exact tz_sp_next_7_69  hF
  · replace hF := (if_neg hP).symm.trans hF
    refine am_go.blk hcd_sp_next 5 (g := (69, [some (.ref 7), some (.int x1), none, some (.int x3), none], [.int ((s.1 8) - x3)], zz_hC s t, false)) rfl ?_
    refine am_go.fgl [none, none, none, none, none] trivial ?_
    exact tz_sp_next_7_69  hF
def fz_sp_next_7_37 (s : am_Z) (x1 : Int32) (x2 : Int32) (x3 : Int32) : Option (Int32) :=
  if (x1 &&& (4 : Int32)) = 0 then
    fz_sp_next_7_47 s x1 x3
  else
  fz_sp_next_7_47 s x1 (x3 + x2)
theorem tz_sp_next_7_37 {sc : am_S} {t : am_H} {h0 : am_H} {s : am_Z}  {x1 : Int32} {x2 : Int32} {x3 : Int32} {r : Int32} (hF : fz_sp_next_7_37 s x1 x2 x3 = some r) : am_go sc 2 (am_ev sc 1) 35 h0 (37, [some (.ref 7), some (.int x1), some (.int x2), some (.int x3), none], [], zz_hC s t, false) ((.inl (some (.int r)), zz_hC s t, false) : am_R) := by
  unfold fz_sp_next_7_37 at hF
  refine am_go.blk hcd_sp_next 4 (g := (bif decide ((x1 &&& (4 : Int32)) = 0) then 47 else 43, [some (.ref 7), some (.int x1), some (.int x2), some (.int x3), none], [], zz_hC s t, false)) rfl ?_
  refine am_go.br (fun hP => ?_) (fun hP => ?_)
  · replace hF := (if_pos hP).symm.trans hF
    refine am_go.fgl [some (.ref 7), some (.int x1), none, some (.int x3), none] ⟨rfl, rfl, rfl, trivial⟩ ?_
    exact tz_sp_next_7_47  hF
  · replace hF := (if_neg hP).symm.trans hF
    refine am_go.blk hcd_sp_next 4 (g := (47, [some (.ref 7), some (.int x1), some (.int x2), some (.int (x3 + x2)), none], [], zz_hC s t, false)) rfl ?_
    refine am_go.fgl [some (.ref 7), some (.int x1), none, some (.int (x3 + x2)), none] ⟨rfl, rfl, rfl, trivial⟩ ?_
    exact tz_sp_next_7_47  hF
def fz_sp_next_7_25 (s : am_Z) (x1 : Int32) (x2 : Int32) (x3 : Int32) : Option (Int32) :=
  if (x1 &&& (2 : Int32)) = 0 then
    fz_sp_next_7_37 s x1 x2 x3
  else
  fz_sp_next_7_37 s x1 x2 (x3 + (x2 >>> ((1 : Int32) &&& 31)))
theorem tz_sp_next_7_25 {sc : am_S} {t : am_H} {h0 : am_H} {s : am_Z}  {x1 : Int32} {x2 : Int32} {x3 : Int32} {r : Int32} (hF : fz_sp_next_7_25 s x1 x2 x3 = some r) : am_go sc 2 (am_ev sc 1) 35 h0 (25, [some (.ref 7), some (.int x1), some (.int x2), some (.int x3), none], [], zz_hC s t, false) ((.inl (some (.int r)), zz_hC s t, false) : am_R) := by
  unfold fz_sp_next_7_25 at hF
  refine am_go.blk hcd_sp_next 4 (g := (bif decide ((x1 &&& (2 : Int32)) = 0) then 37 else 31, [some (.ref 7), some (.int x1), some (.int x2), some (.int x3), none], [], zz_hC s t, false)) rfl ?_
  refine am_go.br (fun hP => ?_) (fun hP => ?_)
  · replace hF := (if_pos hP).symm.trans hF
    exact tz_sp_next_7_37  hF
  · replace hF := (if_neg hP).symm.trans hF
    refine am_go.blk hcd_sp_next 6 (g := (37, [some (.ref 7), some (.int x1), some (.int x2), some (.int (x3 + (x2 >>> ((1 : Int32) &&& 31)))), none], [], zz_hC s t, false)) rfl ?_
    exact tz_sp_next_7_37  hF
def fz_sp_next_7 (s : am_Z) (x1 : Int32) : Option (Int32) :=
  if (s.1 9) < 0 ∨ 89 ≤ Int32.toNatClampNeg (s.1 9) then none else
  if (x1 &&& (1 : Int32)) = 0 then
    fz_sp_next_7_25 s x1 (am_vSTEPS.getD (Int32.toNatClampNeg (s.1 9)) 0) ((am_vSTEPS.getD (Int32.toNatClampNeg (s.1 9)) 0) >>> ((3 : Int32) &&& 31))
  else
  fz_sp_next_7_25 s x1 (am_vSTEPS.getD (Int32.toNatClampNeg (s.1 9)) 0) (((am_vSTEPS.getD (Int32.toNatClampNeg (s.1 9)) 0) >>> ((3 : Int32) &&& 31)) + ((am_vSTEPS.getD (Int32.toNatClampNeg (s.1 9)) 0) >>> ((2 : Int32) &&& 31)))
theorem tz_sp_next_7 {sc : am_S} {t : am_H} {s : am_Z} {x1 : Int32} {r : Int32} (hF : fz_sp_next_7 s x1 = some r) : am_ev sc 2 35 [.ref 7, .int x1] (zz_hC s t) ((.inl (some (.int r)), zz_hC s t, false) : am_R) := by
  unfold fz_sp_next_7 at hF
  refine am_ev.of false rfl ?_
  show am_go sc _ _ _ _ (0, [some (.ref 7), some (.int x1), none, none, none], [], zz_hC s t, false) _
  refine am_go.blk hcd_sp_next 3 (g := (7, [some (.ref 7), some (.int x1), none, none, none], [.int (s.1 9), .float 0], zz_hC s t, false)) rfl ?_
  obtain ⟨hi1, hF⟩ := am_ng hF
  refine am_go.iald hcd_sp_next rfl rfl hi1 ?_
  refine am_go.blk hcd_sp_next 9 (g := (bif decide ((x1 &&& (1 : Int32)) = 0) then 25 else 19, [some (.ref 7), some (.int x1), some (.int (am_vSTEPS.getD (Int32.toNatClampNeg (s.1 9)) 0)), some (.int ((am_vSTEPS.getD (Int32.toNatClampNeg (s.1 9)) 0) >>> ((3 : Int32) &&& 31))), none], [], zz_hC s t, false)) rfl ?_
  refine am_go.br (fun hP => ?_) (fun hP => ?_)
  · replace hF := (if_pos hP).symm.trans hF
    exact tz_sp_next_7_25  hF
  · replace hF := (if_neg hP).symm.trans hF
    refine am_go.blk hcd_sp_next 6 (g := (25, [some (.ref 7), some (.int x1), some (.int (am_vSTEPS.getD (Int32.toNatClampNeg (s.1 9)) 0)), some (.int (((am_vSTEPS.getD (Int32.toNatClampNeg (s.1 9)) 0) >>> ((3 : Int32) &&& 31)) + ((am_vSTEPS.getD (Int32.toNatClampNeg (s.1 9)) 0) >>> ((2 : Int32) &&& 31)))), none], [], zz_hC s t, false)) rfl ?_
    exact tz_sp_next_7_25  hF
def fz_co_nearest_7_48 (s : am_Z) (K16 : Int32 → Int32 → Int32 → Int32 → Option (Int32)) (x1 : Int32) (x2 : Int32) (x3 : Int32) (x4 : Int32) : Option (Int32) :=
  K16 x1 x2 x3 (x4 + (1 : Int32))
theorem tz_co_nearest_7_48 {sc : am_S} {t : am_H} {h0 : am_H} {s : am_Z} {K16 : Int32 → Int32 → Int32 → Int32 → Option (Int32)} (hK16 : ∀ (x1 : Int32) (x2 : Int32) (x3 : Int32) (x4 : Int32) (r : Int32), K16 x1 x2 x3 x4 = some r → am_go sc 3 (am_ev sc 2) 12 h0 (16, [some (.ref 7), some (.int x1), some (.int x2), some (.int x3), some (.int x4), none], [], zz_hC s t, false) ((.inl (some (.int r)), zz_hC s t, false) : am_R)) {x1 : Int32} {x2 : Int32} {x3 : Int32} {x4 : Int32} {r : Int32} (hF : fz_co_nearest_7_48 s K16 x1 x2 x3 x4 = some r) : am_go sc 3 (am_ev sc 2) 12 h0 (48, [some (.ref 7), some (.int x1), some (.int x2), some (.int x3), some (.int x4), none], [], zz_hC s t, false) ((.inl (some (.int r)), zz_hC s t, false) : am_R) := by
  unfold fz_co_nearest_7_48 at hF
  refine am_go.blk hcd_co_nearest 2 (g := (16, [some (.ref 7), some (.int x1), some (.int x2), some (.int x3), some (.int (x4 + (1 : Int32))), none], [], zz_hC s t, false)) rfl ?_
  exact hK16 _ _ _ _ _ hF
def fz_co_nearest_7_16 (s : am_Z) : Nat → Int32 → Int32 → Int32 → Int32 → Option (Int32)
  | 0, _, _, _, _ => none
  | n + 1, x1, x2, x3, x4 =>
    if (16 : Int32) ≤ x4 then
      some x2
    else
    (fz_sp_next_7 s x4).bind fun q1 =>
    (fz_ma_abs (q1 - x1)).bind fun q2 =>
    if x3 ≤ q2 then
      fz_co_nearest_7_48 s (fz_co_nearest_7_16 s n) x1 x2 x3 x4
    else
    fz_co_nearest_7_48 s (fz_co_nearest_7_16 s n) x1 x4 q2 x4
theorem tz_co_nearest_7_16 {sc : am_S} {t : am_H} {h0 : am_H} {s : am_Z}  : ∀ (n : Nat) (x1 : Int32) (x2 : Int32) (x3 : Int32) (x4 : Int32) (r : Int32), fz_co_nearest_7_16 s n x1 x2 x3 x4 = some r → am_go sc 3 (am_ev sc 2) 12 h0 (16, [some (.ref 7), some (.int x1), some (.int x2), some (.int x3), some (.int x4), none], [], zz_hC s t, false) ((.inl (some (.int r)), zz_hC s t, false) : am_R) := by
  intro n
  induction n with
  | zero => intro x1 x2 x3 x4 r hF; cases hF
  | succ n ih =>
    intro x1 x2 x3 x4 r hF
    unfold fz_co_nearest_7_16 at hF
    refine am_go.blk hcd_co_nearest 3 (g := (bif decide ((16 : Int32) ≤ x4) then 54 else 23, [some (.ref 7), some (.int x1), some (.int x2), some (.int x3), some (.int x4), none], [], zz_hC s t, false)) rfl ?_
    refine am_go.br (fun hP => ?_) (fun hP => ?_)
    · replace hF := (if_pos hP).symm.trans hF
      refine am_go.blk hcd_co_nearest 1 (g := (55, [some (.ref 7), some (.int x1), some (.int x2), some (.int x3), some (.int x4), none], [.int x2], zz_hC s t, false)) rfl ?_
      cases hF
      exact am_go.ret hcd_co_nearest rfl rfl ⟨rfl, rfl, (fun _ => rfl), Or.inl rfl, rfl⟩
    · replace hF := (if_neg hP).symm.trans hF
      refine am_go.blk hcd_co_nearest 2 (g := (26, [some (.ref 7), some (.int x1), some (.int x2), some (.int x3), some (.int x4), none], [.int x4, .ref 7], zz_hC s t, false)) rfl ?_
      obtain ⟨q1, hq1, hF⟩ := am_bd hF
      refine am_go.call hcd_co_nearest rfl rfl rfl rfl (am_le8 rfl) (am_ev.le (by decide) (tz_sp_next_7 (t := t) hq1)) ?_
      refine am_go.blk hcd_co_nearest 2 (g := (31, [some (.ref 7), some (.int x1), some (.int x2), some (.int x3), some (.int x4), none], [.int (q1 - x1)], zz_hC s t, false)) rfl ?_
      obtain ⟨q2, hq2, hF⟩ := am_bd hF
      refine am_go.call hcd_co_nearest rfl rfl rfl rfl (am_le8 rfl) (am_ev.le (by decide) (tz_ma_abs (h := zz_hC s t) hq2)) ?_
      refine am_go.blk hcd_co_nearest 4 (g := (bif decide (x3 ≤ q2) then 48 else 42, [some (.ref 7), some (.int x1), some (.int x2), some (.int x3), some (.int x4), some (.int q2)], [], zz_hC s t, false)) rfl ?_
      refine am_go.br (fun hP => ?_) (fun hP => ?_)
      · replace hF := (if_pos hP).symm.trans hF
        refine am_go.fgl [some (.ref 7), some (.int x1), some (.int x2), some (.int x3), some (.int x4), none] ⟨rfl, rfl, rfl, rfl, rfl, trivial⟩ ?_
        exact tz_co_nearest_7_48 (hK16 := ih) hF
      · replace hF := (if_neg hP).symm.trans hF
        refine am_go.blk hcd_co_nearest 4 (g := (48, [some (.ref 7), some (.int x1), some (.int x4), some (.int q2), some (.int x4), some (.int q2)], [], zz_hC s t, false)) rfl ?_
        refine am_go.fgl [some (.ref 7), some (.int x1), some (.int x4), some (.int q2), some (.int x4), none] ⟨rfl, rfl, rfl, rfl, rfl, trivial⟩ ?_
        exact tz_co_nearest_7_48 (hK16 := ih) hF
def fz_co_nearest_7 (s : am_Z) (x1 : Int32) : Option (Int32) :=
  (fz_sp_next_7 s (0 : Int32)).bind fun q1 =>
  (fz_ma_abs (q1 - x1)).bind fun q2 =>
  fz_co_nearest_7_16 s fz_fu x1 (0 : Int32) q2 (1 : Int32)
theorem tz_co_nearest_7 {sc : am_S} {t : am_H} {s : am_Z} {x1 : Int32} {r : Int32} (hF : fz_co_nearest_7 s x1 = some r) : am_ev sc 3 12 [.ref 7, .int x1] (zz_hC s t) ((.inl (some (.int r)), zz_hC s t, false) : am_R) := by
  unfold fz_co_nearest_7 at hF
  refine am_ev.of false rfl ?_
  show am_go sc _ _ _ _ (0, [some (.ref 7), some (.int x1), none, none, none, none], [], zz_hC s t, false) _
  refine am_go.blk hcd_co_nearest 4 (g := (4, [some (.ref 7), some (.int x1), some (.int (0 : Int32)), none, none, none], [.int (0 : Int32), .ref 7], zz_hC s t, false)) rfl ?_
  obtain ⟨q1, hq1, hF⟩ := am_bd hF
  refine am_go.call hcd_co_nearest rfl rfl rfl rfl (am_le8 rfl) (am_ev.le (by decide) (tz_sp_next_7 (t := t) hq1)) ?_
  refine am_go.blk hcd_co_nearest 2 (g := (9, [some (.ref 7), some (.int x1), some (.int (0 : Int32)), none, none, none], [.int (q1 - x1)], zz_hC s t, false)) rfl ?_
  obtain ⟨q2, hq2, hF⟩ := am_bd hF
  refine am_go.call hcd_co_nearest rfl rfl rfl rfl (am_le8 rfl) (am_ev.le (by decide) (tz_ma_abs (h := zz_hC s t) hq2)) ?_
  refine am_go.blk hcd_co_nearest 3 (g := (16, [some (.ref 7), some (.int x1), some (.int (0 : Int32)), some (.int q2), some (.int (1 : Int32)), none], [], zz_hC s t, false)) rfl ?_
  exact tz_co_nearest_7_16  fz_fu _ _ _ _ _ hF
def fz_sp_accept_7 (s : am_Z) (x1 : Int32) (x2 : Int32) : Option (am_Z) :=
  if (x1 &&& (7 : Int32)) < 0 ∨ 8 ≤ Int32.toNatClampNeg (x1 &&& (7 : Int32)) then none else
  (fz_sh_limit ((s.1 9) + (am_vINDEXCHANGES.getD (Int32.toNatClampNeg (x1 &&& (7 : Int32))) 0)) (0 : Int32) (88 : Int32)).bind fun q2 =>
  some (zz_i (zz_i s 8 x2) 9 q2)
theorem tz_sp_accept_7 {sc : am_S} {t : am_H} {s : am_Z} {x1 : Int32} {x2 : Int32} {r : am_Z} (hF : fz_sp_accept_7 s x1 x2 = some r) : am_ev sc 2 36 [.ref 7, .int x1, .int x2] (zz_hC s t) ((.inl (none), zz_hC r t, true) : am_R) := by
  unfold fz_sp_accept_7 at hF
  refine am_ev.of true rfl ?_
  show am_go sc _ _ _ _ (0, [some (.ref 7), some (.int x1), some (.int x2)], [], zz_hC s t, true) _
  refine am_go.blk hcd_sp_accept 10 (g := (17, [some (.ref 7), some (.int x1), some (.int x2)], [.int (x1 &&& (7 : Int32)), .float 1, .int (s.1 9), .ref 7], zz_hC (zz_i s 8 x2) t, true)) rfl ?_
  obtain ⟨hi1, hF⟩ := am_ng hF
  refine am_go.iald hcd_sp_accept rfl rfl hi1 ?_
  refine am_go.blk hcd_sp_accept 3 (g := (22, [some (.ref 7), some (.int x1), some (.int x2)], [.int (88 : Int32), .int (0 : Int32), .int ((s.1 9) + (am_vINDEXCHANGES.getD (Int32.toNatClampNeg (x1 &&& (7 : Int32))) 0)), .ref 7], zz_hC (zz_i s 8 x2) t, true)) rfl ?_
  obtain ⟨q2, hq2, hF⟩ := am_bd hF
  refine am_go.call hcd_sp_accept rfl rfl rfl rfl (am_le8 rfl) (am_ev.le (by decide) (tz_sh_limit (h := zz_hC (zz_i s 8 x2) t) hq2)) ?_
  refine am_go.blk hcd_sp_accept 1 (g := (28, [some (.ref 7), some (.int x1), some (.int x2)], [], zz_hC (zz_i (zz_i s 8 x2) 9 q2) t, true)) rfl ?_
  cases hF
  exact am_go.ret hcd_sp_accept rfl rfl ⟨rfl, rfl, (fun h => by cases h), rfl, rfl⟩
def fz_wr_chooseNibbles_5_7_100 (K24 : Int32 → Int32 → Int32 → Int32 → am_Z → Option (Int32 × am_Z)) (x2 : Int32) (x3 : Int32) (x4 : Int32) (x5 : Int32) (s : am_Z) : Option (Int32 × am_Z) :=
  if x5 < 0 ∨ 16 ≤ Int32.toNatClampNeg x5 then none else
  if x5 < 0 ∨ 16 ≤ Int32.toNatClampNeg x5 then none else
  (fz_sp_next_7 s ((s.2.2 2) (Int32.toNatClampNeg x5))).bind fun q3 =>
  (fz_sp_accept_7 s ((s.2.2 2) (Int32.toNatClampNeg x5)) q3).bind fun q4 =>
  K24 x2 x3 x4 (x5 + (1 : Int32)) q4
theorem tz_wr_chooseNibbles_5_7_100 {sc : am_S} {t : am_H} {h0 : am_H} {K24 : Int32 → Int32 → Int32 → Int32 → am_Z → Option (Int32 × am_Z)} (hK24 : ∀ (x2 : Int32) (x3 : Int32) (x4 : Int32) (x5 : Int32) (s : am_Z) (r : Int32 × am_Z), K24 x2 x3 x4 x5 s = some r → am_go sc 4 (am_ev sc 3) 77 h0 (24, [some (.ref 5), some (.ref 7), some (.int x2), some (.int x3), some (.int x4), some (.int x5), none], [], zz_hC s t, true) ((.inl (some (.int r.1)), zz_hC r.2 t, true) : am_R)) {x2 : Int32} {x3 : Int32} {x4 : Int32} {x5 : Int32} {s : am_Z} {r : Int32 × am_Z} (hF : fz_wr_chooseNibbles_5_7_100 K24 x2 x3 x4 x5 s = some r) : am_go sc 4 (am_ev sc 3) 77 h0 (100, [some (.ref 5), some (.ref 7), some (.int x2), some (.int x3), some (.int x4), some (.int x5), none], [], zz_hC s t, true) ((.inl (some (.int r.1)), zz_hC r.2 t, true) : am_R) := by
  unfold fz_wr_chooseNibbles_5_7_100 at hF
  refine am_go.blk hcd_wr_chooseNibbles 4 (g := (107, [some (.ref 5), some (.ref 7), some (.int x2), some (.int x3), some (.int x4), some (.int x5), none], [.int x5, .ref 9, .ref 7], zz_hC s t, true)) rfl ?_
  obtain ⟨hi1, hF⟩ := am_ng hF
  refine am_go.iald hcd_wr_chooseNibbles rfl rfl hi1 ?_
  refine am_go.blk hcd_wr_chooseNibbles 4 (g := (115, [some (.ref 5), some (.ref 7), some (.int x2), some (.int x3), some (.int x4), some (.int x5), none], [.int x5, .ref 9, .ref 7, .int ((s.2.2 2) (Int32.toNatClampNeg x5)), .ref 7], zz_hC s t, true)) rfl ?_
  obtain ⟨hi2, hF⟩ := am_ng hF
  refine am_go.iald hcd_wr_chooseNibbles rfl rfl hi2 ?_
  obtain ⟨q3, hq3, hF⟩ := am_bd hF
  refine am_go.call hcd_wr_chooseNibbles rfl rfl rfl rfl (am_le8 rfl) (am_ev.le (by decide) (tz_sp_next_7 (t := t) hq3)) ?_
  obtain ⟨q4, hq4, hF⟩ := am_bd hF
  refine am_go.call hcd_wr_chooseNibbles rfl rfl rfl rfl (am_le8 rfl) (am_ev.le (by decide) (tz_sp_accept_7 (t := t) hq4)) ?_
  refine am_go.blk hcd_wr_chooseNibbles 2 (g := (24, [some (.ref 5), some (.ref 7), some (.int x2), some (.int x3), some (.int x4), some (.int (x5 + (1 : Int32))), none], [], zz_hC q4 t, true)) rfl ?_
  exact hK24 _ _ _ _ _ _ hF
def fz_wr_chooseNibbles_5_7_24  : Nat → Int32 → Int32 → Int32 → Int32 → am_Z → Option (Int32 × am_Z)
  | 0, _, _, _, _, _ => none
  | n + 1, x2, x3, x4, x5, s =>
    if x4 ≤ x5 then
      some (x3, s)
    else
    if x5 < 0 ∨ 16 ≤ Int32.toNatClampNeg x5 then none else
    if (s.1 1) ≤ (x2 + x5) then
      fz_wr_chooseNibbles_5_7_100 (fz_wr_chooseNibbles_5_7_24 n) x2 x3 x4 x5 (zz_r s 2 (upd (s.2.2 2) (Int32.toNatClampNeg x5) (0 : Int32)))
    else
    if (x2 + x5) < 0 ∨ 64 ≤ Int32.toNatClampNeg (x2 + x5) then none else
    (fz_co_nearest_7 (zz_r s 2 (upd (s.2.2 2) (Int32.toNatClampNeg x5) (0 : Int32))) ((s.2.2 0) (Int32.toNatClampNeg (x2 + x5)))).bind fun q3 =>
    if x5 < 0 ∨ 16 ≤ Int32.toNatClampNeg x5 then none else
    if x5 < 0 ∨ 16 ≤ Int32.toNatClampNeg x5 then none else
    (fz_sp_next_7 (zz_r s 2 (upd (upd (s.2.2 2) (Int32.toNatClampNeg x5) (0 : Int32)) (Int32.toNatClampNeg x5) q3)) ((upd (upd (s.2.2 2) (Int32.toNatClampNeg x5) (0 : Int32)) (Int32.toNatClampNeg x5) q3) (Int32.toNatClampNeg x5))).bind fun q6 =>
    (fz_ma_abs (q6 - ((s.2.2 0) (Int32.toNatClampNeg (x2 + x5))))).bind fun q7 =>
    fz_wr_chooseNibbles_5_7_100 (fz_wr_chooseNibbles_5_7_24 n) x2 (x3 + q7) x4 x5 (zz_r s 2 (upd (upd (s.2.2 2) (Int32.toNatClampNeg x5) (0 : Int32)) (Int32.toNatClampNeg x5) q3))
theorem tz_wr_chooseNibbles_5_7_24 {sc : am_S} {t : am_H} {h0 : am_H}   : ∀ (n : Nat) (x2 : Int32) (x3 : Int32) (x4 : Int32) (x5 : Int32) (s : am_Z) (r : Int32 × am_Z), fz_wr_chooseNibbles_5_7_24  n x2 x3 x4 x5 s = some r → am_go sc 4 (am_ev sc 3) 77 h0 (24, [some (.ref 5), some (.ref 7), some (.int x2), some (.int x3), some (.int x4), some (.int x5), none], [], zz_hC s t, true) ((.inl (some (.int r.1)), zz_hC r.2 t, true) : am_R) := by
  intro n
  induction n with
  | zero => intro x2 x3 x4 x5 s r hF; cases hF
  | succ n ih =>
    intro x2 x3 x4 x5 s r hF
    unfold fz_wr_chooseNibbles_5_7_24 at hF
    refine am_go.blk hcd_wr_chooseNibbles 3 (g := (bif decide (x4 ≤ x5) then 128 else 31, [some (.ref 5), some (.ref 7), some (.int x2), some (.int x3), some (.int x4), some (.int x5), none], [], zz_hC s t, true)) rfl ?_
    refine am_go.br (fun hP => ?_) (fun hP => ?_)
    · replace hF := (if_pos hP).symm.trans hF
      refine am_go.blk hcd_wr_chooseNibbles 1 (g := (129, [some (.ref 5), some (.ref 7), some (.int x2), some (.int x3), some (.int x4), some (.int x5), none], [.int x3], zz_hC s t, true)) rfl ?_
      cases hF
      exact am_go.ret hcd_wr_chooseNibbles rfl rfl ⟨rfl, rfl, (fun h => by cases h), Or.inl rfl, rfl⟩
    · replace hF := (if_neg hP).symm.trans hF
      refine am_go.blk hcd_wr_chooseNibbles 4 (g := (38, [some (.ref 5), some (.ref 7), some (.int x2), some (.int x3), some (.int x4), some (.int x5), none], [.int (0 : Int32), .int x5, .ref 9], zz_hC s t, true)) rfl ?_
      obtain ⟨hi1, hF⟩ := am_ng hF
      refine am_go.iast hcd_wr_chooseNibbles rfl rfl hi1 ?_
      refine am_go.blk hcd_wr_chooseNibbles 7 (g := (bif decide ((s.1 1) ≤ (x2 + x5)) then 100 else 53, [some (.ref 5), some (.ref 7), some (.int x2), some (.int x3), some (.int x4), some (.int x5), none], [], zz_hC (zz_r s 2 (upd (s.2.2 2) (Int32.toNatClampNeg x5) (0 : Int32))) t, true)) rfl ?_
      refine am_go.br (fun hP => ?_) (fun hP => ?_)
      · replace hF := (if_pos hP).symm.trans hF
        exact tz_wr_chooseNibbles_5_7_100 (hK24 := ih) hF
      · replace hF := (if_neg hP).symm.trans hF
        refine am_go.blk hcd_wr_chooseNibbles 6 (g := (64, [some (.ref 5), some (.ref 7), some (.int x2), some (.int x3), some (.int x4), some (.int x5), none], [.int (x2 + x5), .ref 2], zz_hC (zz_r s 2 (upd (s.2.2 2) (Int32.toNatClampNeg x5) (0 : Int32))) t, true)) rfl ?_
        obtain ⟨hi2, hF⟩ := am_ng hF
        refine am_go.iald hcd_wr_chooseNibbles rfl rfl hi2 ?_
        refine am_go.blk hcd_wr_chooseNibbles 6 (g := (76, [some (.ref 5), some (.ref 7), some (.int x2), some (.int x3), some (.int x4), some (.int x5), some (.int ((s.2.2 0) (Int32.toNatClampNeg (x2 + x5))))], [.int ((s.2.2 0) (Int32.toNatClampNeg (x2 + x5))), .ref 7, .int x5, .ref 9], zz_hC (zz_r s 2 (upd (s.2.2 2) (Int32.toNatClampNeg x5) (0 : Int32))) t, true)) rfl ?_
        obtain ⟨q3, hq3, hF⟩ := am_bd hF
        refine am_go.call hcd_wr_chooseNibbles rfl rfl rfl rfl (am_le8 rfl) (am_ev.le (by decide) (tz_co_nearest_7 (t := t) hq3)) ?_
        obtain ⟨hi4, hF⟩ := am_ng hF
        refine am_go.iast hcd_wr_chooseNibbles rfl rfl hi4 ?_
        refine am_go.blk hcd_wr_chooseNibbles 5 (g := (88, [some (.ref 5), some (.ref 7), some (.int x2), some (.int x3), some (.int x4), some (.int x5), some (.int ((s.2.2 0) (Int32.toNatClampNeg (x2 + x5))))], [.int x5, .ref 9, .ref 7, .int x3], zz_hC (zz_r s 2 (upd (upd (s.2.2 2) (Int32.toNatClampNeg x5) (0 : Int32)) (Int32.toNatClampNeg x5) q3)) t, true)) rfl ?_
        obtain ⟨hi5, hF⟩ := am_ng hF
        refine am_go.iald hcd_wr_chooseNibbles rfl rfl hi5 ?_
        obtain ⟨q6, hq6, hF⟩ := am_bd hF
        refine am_go.call hcd_wr_chooseNibbles rfl rfl rfl rfl (am_le8 rfl) (am_ev.le (by decide) (tz_sp_next_7 (t := t) hq6)) ?_
        refine am_go.blk hcd_wr_chooseNibbles 2 (g := (95, [some (.ref 5), some (.ref 7), some (.int x2), some (.int x3), some (.int x4), some (.int x5), some (.int ((s.2.2 0) (Int32.toNatClampNeg (x2 + x5))))], [.int (q6 - ((s.2.2 0) (Int32.toNatClampNeg (x2 + x5)))), .int x3], zz_hC (zz_r s 2 (upd (upd (s.2.2 2) (Int32.toNatClampNeg x5) (0 : Int32)) (Int32.toNatClampNeg x5) q3)) t, true)) rfl ?_
        obtain ⟨q7, hq7, hF⟩ := am_bd hF
        refine am_go.call hcd_wr_chooseNibbles rfl rfl rfl rfl (am_le8 rfl) (am_ev.le (by decide) (tz_ma_abs (h := zz_hC (zz_r s 2 (upd (upd (s.2.2 2) (Int32.toNatClampNeg x5) (0 : Int32)) (Int32.toNatClampNeg x5) q3)) t) hq7)) ?_
        refine am_go.blk hcd_wr_chooseNibbles 2 (g := (100, [some (.ref 5), some (.ref 7), some (.int x2), some (.int (x3 + q7)), some (.int x4), some (.int x5), some (.int ((s.2.2 0) (Int32.toNatClampNeg (x2 + x5))))], [], zz_hC (zz_r s 2 (upd (upd (s.2.2 2) (Int32.toNatClampNeg x5) (0 : Int32)) (Int32.toNatClampNeg x5) q3)) t, true)) rfl ?_
        refine am_go.fgl [some (.ref 5), some (.ref 7), some (.int x2), some (.int (x3 + q7)), some (.int x4), some (.int x5), none] ⟨rfl, rfl, rfl, rfl, rfl, rfl, trivial⟩ ?_
        exact tz_wr_chooseNibbles_5_7_100 (hK24 := ih) hF
def fz_wr_chooseNibbles_5_7 (s : am_Z) (x2 : Int32) : Option (Int32 × am_Z) :=
  (fz_fm_bytesOfNibbles_6 s).bind fun q1 =>
  (fz_ma_min (16 : Int32) ((2 : Int32) * q1)).bind fun q2 =>
  fz_wr_chooseNibbles_5_7_24 fz_fu x2 (0 : Int32) q2 (0 : Int32) s
theorem tz_wr_chooseNibbles_5_7 {sc : am_S} {t : am_H} {s : am_Z} {x2 : Int32} {r : Int32 × am_Z} (hF : fz_wr_chooseNibbles_5_7 s x2 = some r) : am_ev sc 4 77 [.ref 5, .ref 7, .int x2] (zz_hC s t) ((.inl (some (.int r.1)), zz_hC r.2 t, true) : am_R) := by
  unfold fz_wr_chooseNibbles_5_7 at hF
  refine am_ev.of true rfl ?_
  show am_go sc _ _ _ _ (0, [some (.ref 5), some (.ref 7), some (.int x2), none, none, none, none], [], zz_hC s t, true) _
  refine am_go.blk hcd_wr_chooseNibbles 8 (g := (12, [some (.ref 5), some (.ref 7), some (.int x2), some (.int (0 : Int32)), none, none, none], [.ref 6, .int (2 : Int32), .int (16 : Int32)], zz_hC s t, true)) rfl ?_
  obtain ⟨q1, hq1, hF⟩ := am_bd hF
  refine am_go.call hcd_wr_chooseNibbles rfl rfl rfl rfl (am_le8 rfl) (am_ev.le (by decide) (tz_fm_bytesOfNibbles_6 (t := t) hq1)) ?_
  refine am_go.blk hcd_wr_chooseNibbles 1 (g := (16, [some (.ref 5), some (.ref 7), some (.int x2), some (.int (0 : Int32)), none, none, none], [.int ((2 : Int32) * q1), .int (16 : Int32)], zz_hC s t, true)) rfl ?_
  obtain ⟨q2, hq2, hF⟩ := am_bd hF
  refine am_go.call hcd_wr_chooseNibbles rfl rfl rfl rfl (am_le8 rfl) (am_ev.le (by decide) (tz_ma_min (h := zz_hC s t) hq2)) ?_
  refine am_go.blk hcd_wr_chooseNibbles 3 (g := (24, [some (.ref 5), some (.ref 7), some (.int x2), some (.int (0 : Int32)), some (.int q2), some (.int (0 : Int32)), none], [], zz_hC s t, true)) rfl ?_
  exact tz_wr_chooseNibbles_5_7_24  fz_fu _ _ _ _ _ _ hF
theorem hcd_wr_writeStepped : am_code 67 = am_c_wr_writeStepped := rfl
def fz_wr_writeStepped_13  : Nat → Int32 → Int32 → am_Z → Option (am_Z)
  | 0, _, _, _ => none
  | n + 1, x2, x3, s =>
    if (s.1 1) ≤ x3 then
      (fz_fm_sizeOfData_6 s (s.1 1)).bind fun q1 =>
      (fz_wr_putByteBehind s q1).bind fun q2 =>
      some q2
    else
    if x3 < 0 ∨ 64 ≤ Int32.toNatClampNeg x3 then none else
    (fz_by_putLittle s (Int32.toInt64 ((s.2.2 0) (Int32.toNatClampNeg x3))) (2 : Int32)).bind fun q4 =>
    (fz_by_put q4 x2).bind fun q5 =>
    (fz_by_put q5 (0 : Int32)).bind fun q6 =>
    if x3 < 0 ∨ 64 ≤ Int32.toNatClampNeg x3 then none else
    (fz_sp_start_7 q6 ((q6.2.2 0) (Int32.toNatClampNeg x3)) x2).bind fun q8 =>
    (fz_wr_chooseNibbles_5_7 q8 (x3 + (1 : Int32))).bind fun q9 =>
    (fz_wr_putNibbles q9.2 (0 : Int32) (4 : Int32)).bind fun q10 =>
    fz_wr_writeStepped_13 n (q10.1 9) (x3 + (q10.1 7)) q10
theorem tz_wr_writeStepped_13 {sc : am_S} {t : am_H} {h0 : am_H}   : ∀ (n : Nat) (x2 : Int32) (x3 : Int32) (s : am_Z) (r : am_Z), fz_wr_writeStepped_13  n x2 x3 s = some r → am_go sc 5 (am_ev sc 4) 67 h0 (13, [some (.ref 5), none, some (.int x2), some (.int x3)], [], zz_hC s t, true) ((.inl (none), zz_hC r t, true) : am_R) := by
  intro n
  induction n with
  | zero => intro x2 x3 s r hF; cases hF
  | succ n ih =>
    intro x2 x3 s r hF
    unfold fz_wr_writeStepped_13 at hF
    refine am_go.blk hcd_wr_writeStepped 5 (g := (bif decide ((s.1 1) ≤ x3) then 114 else 24, [some (.ref 5), none, some (.int x2), some (.int x3)], [], zz_hC s t, true)) rfl ?_
    refine am_go.br (fun hP => ?_) (fun hP => ?_)
    · replace hF := (if_pos hP).symm.trans hF
      refine am_go.blk hcd_wr_writeStepped 6 (g := (126, [some (.ref 5), none, some (.int x2), some (.int x3)], [.int (s.1 1), .ref 6, .ref 5], zz_hC s t, true)) rfl ?_
      obtain ⟨q1, hq1, hF⟩ := am_bd hF
      refine am_go.call hcd_wr_writeStepped rfl rfl rfl rfl (am_le8 rfl) (am_ev.le (by decide) (tz_fm_sizeOfData_6 (t := t) hq1)) ?_
      obtain ⟨q2, hq2, hF⟩ := am_bd hF
      refine am_go.call hcd_wr_writeStepped rfl rfl rfl rfl (am_le8 rfl) (am_ev.le (by decide) (tz_wr_putByteBehind (t := t) hq2)) ?_
      cases hF
      exact am_go.ret hcd_wr_writeStepped rfl rfl ⟨rfl, rfl, (fun h => by cases h), rfl, rfl⟩
    · replace hF := (if_neg hP).symm.trans hF
      refine am_go.blk hcd_wr_writeStepped 6 (g := (36, [some (.ref 5), none, some (.int x2), some (.int x3)], [.int x3, .ref 2, .ref 3], zz_hC s t, true)) rfl ?_
      obtain ⟨hi3, hF⟩ := am_ng hF
      refine am_go.iald hcd_wr_writeStepped rfl rfl hi3 ?_
      refine am_go.blk hcd_wr_writeStepped 2 (g := (39, [some (.ref 5), none, some (.int x2), some (.int x3)], [.int (2 : Int32), .long (Int32.toInt64 ((s.2.2 0) (Int32.toNatClampNeg x3))), .ref 3], zz_hC s t, true)) rfl ?_
      obtain ⟨q4, hq4, hF⟩ := am_bd hF
      refine am_go.call hcd_wr_writeStepped rfl rfl rfl rfl (am_le8 rfl) (am_ev.le (by decide) (tz_by_putLittle (t := t) hq4)) ?_
      refine am_go.blk hcd_wr_writeStepped 3 (g := (47, [some (.ref 5), none, some (.int x2), some (.int x3)], [.int x2, .ref 3], zz_hC q4 t, true)) rfl ?_
      obtain ⟨q5, hq5, hF⟩ := am_bd hF
      refine am_go.call hcd_wr_writeStepped rfl rfl rfl rfl (am_le8 rfl) (am_ev.le (by decide) (tz_by_put (t := t) hq5)) ?_
      refine am_go.blk hcd_wr_writeStepped 3 (g := (55, [some (.ref 5), none, some (.int x2), some (.int x3)], [.int (0 : Int32), .ref 3], zz_hC q5 t, true)) rfl ?_
      obtain ⟨q6, hq6, hF⟩ := am_bd hF
      refine am_go.call hcd_wr_writeStepped rfl rfl rfl rfl (am_le8 rfl) (am_ev.le (by decide) (tz_by_put (t := t) hq6)) ?_
      refine am_go.blk hcd_wr_writeStepped 6 (g := (70, [some (.ref 5), none, some (.int x2), some (.int x3)], [.int x3, .ref 2, .ref 7], zz_hC q6 t, true)) rfl ?_
      obtain ⟨hi7, hF⟩ := am_ng hF
      refine am_go.iald hcd_wr_writeStepped rfl rfl hi7 ?_
      refine am_go.blk hcd_wr_writeStepped 1 (g := (72, [some (.ref 5), none, some (.int x2), some (.int x3)], [.int x2, .int ((q6.2.2 0) (Int32.toNatClampNeg x3)), .ref 7], zz_hC q6 t, true)) rfl ?_
      obtain ⟨q8, hq8, hF⟩ := am_bd hF
      refine am_go.call hcd_wr_writeStepped rfl rfl rfl rfl (am_le8 rfl) (am_ev.le (by decide) (tz_sp_start_7 (t := t) hq8)) ?_
      refine am_go.blk hcd_wr_writeStepped 6 (g := (83, [some (.ref 5), none, some (.int x2), some (.int x3)], [.int (x3 + (1 : Int32)), .ref 7, .ref 5], zz_hC q8 t, true)) rfl ?_
      obtain ⟨q9, hq9, hF⟩ := am_bd hF
      refine am_go.call hcd_wr_writeStepped rfl rfl rfl rfl (am_le8 rfl) (am_ev.le (by decide) (tz_wr_chooseNibbles_5_7 (t := t) hq9)) ?_
      refine am_go.blk hcd_wr_writeStepped 4 (g := (90, [some (.ref 5), none, some (.int x2), some (.int x3)], [.int (4 : Int32), .int (0 : Int32), .ref 5], zz_hC q9.2 t, true)) rfl ?_
      obtain ⟨q10, hq10, hF⟩ := am_bd hF
      refine am_go.call hcd_wr_writeStepped rfl rfl rfl rfl (am_le8 rfl) (am_ev.le (by decide) (tz_wr_putNibbles (t := t) hq10)) ?_
      refine am_go.blk hcd_wr_writeStepped 11 (g := (13, [some (.ref 5), none, some (.int (q10.1 9)), some (.int (x3 + (q10.1 7)))], [], zz_hC q10 t, true)) rfl ?_
      exact ih _ _ _ _ hF
def fz_wr_writeStepped (s : am_Z) (x1 : Int32) : Option (am_Z) :=
  (fz_wr_startWave s (17 : Int32) ((4 : Int32) + x1)).bind fun q1 =>
  fz_wr_writeStepped_13 fz_fu (0 : Int32) (0 : Int32) q1
theorem tz_wr_writeStepped {sc : am_S} {t : am_H} {s : am_Z} {x1 : Int32} {r : am_Z} (hF : fz_wr_writeStepped s x1 = some r) : am_ev sc 5 67 [.ref 5, .int x1] (zz_hC s t) ((.inl (none), zz_hC r t, true) : am_R) := by
  unfold fz_wr_writeStepped at hF
  refine am_ev.of true rfl ?_
  show am_go sc _ _ _ _ (0, [some (.ref 5), some (.int x1), none, none], [], zz_hC s t, true) _
  refine am_go.blk hcd_wr_writeStepped 5 (g := (6, [some (.ref 5), some (.int x1), none, none], [.int ((4 : Int32) + x1), .int (17 : Int32), .ref 5], zz_hC s t, true)) rfl ?_
  obtain ⟨q1, hq1, hF⟩ := am_bd hF
  refine am_go.call hcd_wr_writeStepped rfl rfl rfl rfl (am_le8 rfl) (am_ev.le (by decide) (tz_wr_startWave (t := t) hq1)) ?_
  refine am_go.blk hcd_wr_writeStepped 4 (g := (13, [some (.ref 5), some (.int x1), some (.int (0 : Int32)), some (.int (0 : Int32))], [], zz_hC q1 t, true)) rfl ?_
  refine am_go.fgl [some (.ref 5), none, some (.int (0 : Int32)), some (.int (0 : Int32))] ⟨rfl, rfl, rfl, trivial⟩ ?_
  exact tz_wr_writeStepped_13  fz_fu _ _ _ _ hF
theorem hcd_wr_writePlain : am_code 66 = am_c_wr_writePlain := rfl
def fz_wr_writePlain_68 (K8 : Int32 → Int32 → am_Z → Option (am_Z)) (x1 : Int32) (x2 : Int32) (s : am_Z) : Option (am_Z) :=
  K8 x1 (x2 + (1 : Int32)) s
theorem tz_wr_writePlain_68 {sc : am_S} {t : am_H} {h0 : am_H} {K8 : Int32 → Int32 → am_Z → Option (am_Z)} (hK8 : ∀ (x1 : Int32) (x2 : Int32) (s : am_Z) (r : am_Z), K8 x1 x2 s = some r → am_go sc 5 (am_ev sc 4) 66 h0 (8, [some (.ref 5), some (.int x1), some (.int x2)], [], zz_hC s t, true) ((.inl (none), zz_hC r t, true) : am_R)) {x1 : Int32} {x2 : Int32} {s : am_Z} {r : am_Z} (hF : fz_wr_writePlain_68 K8 x1 x2 s = some r) : am_go sc 5 (am_ev sc 4) 66 h0 (68, [some (.ref 5), some (.int x1), some (.int x2)], [], zz_hC s t, true) ((.inl (none), zz_hC r t, true) : am_R) := by
  unfold fz_wr_writePlain_68 at hF
  refine am_go.blk hcd_wr_writePlain 2 (g := (8, [some (.ref 5), some (.int x1), some (.int (x2 + (1 : Int32)))], [], zz_hC s t, true)) rfl ?_
  exact hK8 _ _ _ _ hF
def fz_wr_writePlain_8  : Nat → Int32 → Int32 → am_Z → Option (am_Z)
  | 0, _, _, _ => none
  | n + 1, x1, x2, s =>
    if (s.1 1) ≤ x2 then
      (fz_fm_sizeOfData_6 s (s.1 1)).bind fun q1 =>
      (fz_wr_putByteBehind s q1).bind fun q2 =>
      some q2
    else
    if ¬ x1 = (1 : Int32) then
      if x2 < 0 ∨ 64 ≤ Int32.toNatClampNeg x2 then none else
      (fz_by_putLittle s (Int32.toInt64 ((s.2.2 0) (Int32.toNatClampNeg x2))) (2 : Int32)).bind fun q4 =>
      fz_wr_writePlain_68 (fz_wr_writePlain_8 n) x1 x2 q4
    else
    if x2 < 0 ∨ 64 ≤ Int32.toNatClampNeg x2 then none else
    (fz_by_put s ((((s.2.2 0) (Int32.toNatClampNeg x2)) >>> ((8 : Int32) &&& 31)) + (128 : Int32))).bind fun q6 =>
    fz_wr_writePlain_68 (fz_wr_writePlain_8 n) x1 x2 q6
theorem tz_wr_writePlain_8 {sc : am_S} {t : am_H} {h0 : am_H}   : ∀ (n : Nat) (x1 : Int32) (x2 : Int32) (s : am_Z) (r : am_Z), fz_wr_writePlain_8  n x1 x2 s = some r → am_go sc 5 (am_ev sc 4) 66 h0 (8, [some (.ref 5), some (.int x1), some (.int x2)], [], zz_hC s t, true) ((.inl (none), zz_hC r t, true) : am_R) := by
  intro n
  induction n with
  | zero => intro x1 x2 s r hF; cases hF
  | succ n ih =>
    intro x1 x2 s r hF
    unfold fz_wr_writePlain_8 at hF
    refine am_go.blk hcd_wr_writePlain 5 (g := (bif decide ((s.1 1) ≤ x2) then 74 else 19, [some (.ref 5), some (.int x1), some (.int x2)], [], zz_hC s t, true)) rfl ?_
    refine am_go.br (fun hP => ?_) (fun hP => ?_)
    · replace hF := (if_pos hP).symm.trans hF
      refine am_go.blk hcd_wr_writePlain 6 (g := (86, [some (.ref 5), some (.int x1), some (.int x2)], [.int (s.1 1), .ref 6, .ref 5], zz_hC s t, true)) rfl ?_
      obtain ⟨q1, hq1, hF⟩ := am_bd hF
      refine am_go.call hcd_wr_writePlain rfl rfl rfl rfl (am_le8 rfl) (am_ev.le (by decide) (tz_fm_sizeOfData_6 (t := t) hq1)) ?_
      obtain ⟨q2, hq2, hF⟩ := am_bd hF
      refine am_go.call hcd_wr_writePlain rfl rfl rfl rfl (am_le8 rfl) (am_ev.le (by decide) (tz_wr_putByteBehind (t := t) hq2)) ?_
      cases hF
      exact am_go.ret hcd_wr_writePlain rfl rfl ⟨rfl, rfl, (fun h => by cases h), rfl, rfl⟩
    · replace hF := (if_neg hP).symm.trans hF
      refine am_go.blk hcd_wr_writePlain 3 (g := (bif decide (¬ x1 = (1 : Int32)) then 50 else 24, [some (.ref 5), some (.int x1), some (.int x2)], [], zz_hC s t, true)) rfl ?_
      refine am_go.br (fun hP => ?_) (fun hP => ?_)
      · replace hF := (if_pos hP).symm.trans hF
        refine am_go.blk hcd_wr_writePlain 6 (g := (62, [some (.ref 5), some (.int x1), some (.int x2)], [.int x2, .ref 2, .ref 3], zz_hC s t, true)) rfl ?_
        obtain ⟨hi3, hF⟩ := am_ng hF
        refine am_go.iald hcd_wr_writePlain rfl rfl hi3 ?_
        refine am_go.blk hcd_wr_writePlain 2 (g := (65, [some (.ref 5), some (.int x1), some (.int x2)], [.int (2 : Int32), .long (Int32.toInt64 ((s.2.2 0) (Int32.toNatClampNeg x2))), .ref 3], zz_hC s t, true)) rfl ?_
        obtain ⟨q4, hq4, hF⟩ := am_bd hF
        refine am_go.call hcd_wr_writePlain rfl rfl rfl rfl (am_le8 rfl) (am_ev.le (by decide) (tz_by_putLittle (t := t) hq4)) ?_
        exact tz_wr_writePlain_68 (hK8 := ih) hF
      · replace hF := (if_neg hP).symm.trans hF
        refine am_go.blk hcd_wr_writePlain 6 (g := (36, [some (.ref 5), some (.int x1), some (.int x2)], [.int x2, .ref 2, .ref 3], zz_hC s t, true)) rfl ?_
        obtain ⟨hi5, hF⟩ := am_ng hF
        refine am_go.iald hcd_wr_writePlain rfl rfl hi5 ?_
        refine am_go.blk hcd_wr_writePlain 4 (g := (44, [some (.ref 5), some (.int x1), some (.int x2)], [.int ((((s.2.2 0) (Int32.toNatClampNeg x2)) >>> ((8 : Int32) &&& 31)) + (128 : Int32)), .ref 3], zz_hC s t, true)) rfl ?_
        obtain ⟨q6, hq6, hF⟩ := am_bd hF
        refine am_go.call hcd_wr_writePlain rfl rfl rfl rfl (am_le8 rfl) (am_ev.le (by decide) (tz_by_put (t := t) hq6)) ?_
        refine am_go.blk hcd_wr_writePlain 1 (g := (68, [some (.ref 5), some (.int x1), some (.int x2)], [], zz_hC q6 t, true)) rfl ?_
        exact tz_wr_writePlain_68 (hK8 := ih) hF
def fz_wr_writePlain (s : am_Z) (x1 : Int32) : Option (am_Z) :=
  (fz_wr_startWave s (1 : Int32) x1).bind fun q1 =>
  fz_wr_writePlain_8 fz_fu x1 (0 : Int32) q1
theorem tz_wr_writePlain {sc : am_S} {t : am_H} {s : am_Z} {x1 : Int32} {r : am_Z} (hF : fz_wr_writePlain s x1 = some r) : am_ev sc 5 66 [.ref 5, .int x1] (zz_hC s t) ((.inl (none), zz_hC r t, true) : am_R) := by
  unfold fz_wr_writePlain at hF
  refine am_ev.of true rfl ?_
  show am_go sc _ _ _ _ (0, [some (.ref 5), some (.int x1), none], [], zz_hC s t, true) _
  refine am_go.blk hcd_wr_writePlain 3 (g := (3, [some (.ref 5), some (.int x1), none], [.int x1, .int (1 : Int32), .ref 5], zz_hC s t, true)) rfl ?_
  obtain ⟨q1, hq1, hF⟩ := am_bd hF
  refine am_go.call hcd_wr_writePlain rfl rfl rfl rfl (am_le8 rfl) (am_ev.le (by decide) (tz_wr_startWave (t := t) hq1)) ?_
  refine am_go.blk hcd_wr_writePlain 2 (g := (8, [some (.ref 5), some (.int x1), some (.int (0 : Int32))], [], zz_hC q1 t, true)) rfl ?_
  exact tz_wr_writePlain_8  fz_fu _ _ _ _ hF
theorem hcd_wr_startOther : am_code 72 = am_c_wr_startOther := rfl
def fz_wr_startOther_27  (x1 : Int32) (x2 : Int32) (x3 : Int32) (s : am_Z) : Option (am_Z) :=
  (fz_by_putBig (zz_i s 3 (0 : Int32)) (1179603533 : Int64) (4 : Int32)).bind fun q1 =>
  (fz_by_putBig q1 (Int32.toInt64 (((38 : Int32) + x2) + (x2 - x2 / (2 : Int32) * (2 : Int32)))) (4 : Int32)).bind fun q2 =>
  (fz_by_putBig q2 (1095321158 : Int64) (4 : Int32)).bind fun q3 =>
  (fz_by_putBig q3 (1129270605 : Int64) (4 : Int32)).bind fun q4 =>
  (fz_by_putBig q4 (18 : Int64) (4 : Int32)).bind fun q5 =>
  (fz_by_putBig q5 (1 : Int64) (2 : Int32)).bind fun q6 =>
  (fz_by_putBig q6 (Int32.toInt64 (q6.1 1)) (4 : Int32)).bind fun q7 =>
  (fz_by_putBig q7 (Int32.toInt64 x1) (2 : Int32)).bind fun q8 =>
  (fz_by_putBig q8 (Int32.toInt64 ((16383 : Int32) + x3)) (2 : Int32)).bind fun q9 =>
  (fz_by_putBig q9 ((Int32.toInt64 (q9.1 2)) <<< (Int32.toInt64 ((63 : Int32) - x3) &&& 63)) (8 : Int32)).bind fun q10 =>
  some q10
theorem tz_wr_startOther_27 {sc : am_S} {t : am_H} {h0 : am_H}   {x1 : Int32} {x2 : Int32} {x3 : Int32} {s : am_Z} {r : am_Z} (hF : fz_wr_startOther_27 x1 x2 x3 s = some r) : am_go sc 3 (am_ev sc 2) 72 h0 (27, [some (.ref 5), some (.int x1), some (.int x2), some (.int x3)], [], zz_hC s t, true) ((.inl (none), zz_hC r t, true) : am_R) := by
  unfold fz_wr_startOther_27 at hF
  refine am_go.blk hcd_wr_startOther 8 (g := (43, [some (.ref 5), some (.int x1), some (.int x2), some (.int x3)], [.int (4 : Int32), .long (1179603533 : Int64), .ref 3], zz_hC (zz_i s 3 (0 : Int32)) t, true)) rfl ?_
  obtain ⟨q1, hq1, hF⟩ := am_bd hF
  refine am_go.call hcd_wr_startOther rfl rfl rfl rfl (am_le8 rfl) (am_ev.le (by decide) (tz_by_putBig (t := t) hq1)) ?_
  refine am_go.blk hcd_wr_startOther 7 (g := (56, [some (.ref 5), some (.int x1), some (.int x2), some (.int x3)], [.int (2 : Int32), .int x2, .int ((38 : Int32) + x2), .ref 3], zz_hC q1 t, true)) rfl ?_
  refine am_go.irm hcd_wr_startOther rfl (by decide) ?_
  refine am_go.blk hcd_wr_startOther 3 (g := (60, [some (.ref 5), some (.int x1), some (.int x2), some (.int x3)], [.int (4 : Int32), .long (Int32.toInt64 (((38 : Int32) + x2) + (x2 - x2 / (2 : Int32) * (2 : Int32)))), .ref 3], zz_hC q1 t, true)) rfl ?_
  obtain ⟨q2, hq2, hF⟩ := am_bd hF
  refine am_go.call hcd_wr_startOther rfl rfl rfl rfl (am_le8 rfl) (am_ev.le (by decide) (tz_by_putBig (t := t) hq2)) ?_
  refine am_go.blk hcd_wr_startOther 4 (g := (71, [some (.ref 5), some (.int x1), some (.int x2), some (.int x3)], [.int (4 : Int32), .long (1095321158 : Int64), .ref 3], zz_hC q2 t, true)) rfl ?_
  obtain ⟨q3, hq3, hF⟩ := am_bd hF
  refine am_go.call hcd_wr_startOther rfl rfl rfl rfl (am_le8 rfl) (am_ev.le (by decide) (tz_by_putBig (t := t) hq3)) ?_
  refine am_go.blk hcd_wr_startOther 4 (g := (82, [some (.ref 5), some (.int x1), some (.int x2), some (.int x3)], [.int (4 : Int32), .long (1129270605 : Int64), .ref 3], zz_hC q3 t, true)) rfl ?_
  obtain ⟨q4, hq4, hF⟩ := am_bd hF
  refine am_go.call hcd_wr_startOther rfl rfl rfl rfl (am_le8 rfl) (am_ev.le (by decide) (tz_by_putBig (t := t) hq4)) ?_
  refine am_go.blk hcd_wr_startOther 4 (g := (93, [some (.ref 5), some (.int x1), some (.int x2), some (.int x3)], [.int (4 : Int32), .long (18 : Int64), .ref 3], zz_hC q4 t, true)) rfl ?_
  obtain ⟨q5, hq5, hF⟩ := am_bd hF
  refine am_go.call hcd_wr_startOther rfl rfl rfl rfl (am_le8 rfl) (am_ev.le (by decide) (tz_by_putBig (t := t) hq5)) ?_
  refine am_go.blk hcd_wr_startOther 4 (g := (102, [some (.ref 5), some (.int x1), some (.int x2), some (.int x3)], [.int (2 : Int32), .long (1 : Int64), .ref 3], zz_hC q5 t, true)) rfl ?_
  obtain ⟨q6, hq6, hF⟩ := am_bd hF
  refine am_go.call hcd_wr_startOther rfl rfl rfl rfl (am_le8 rfl) (am_ev.le (by decide) (tz_by_putBig (t := t) hq6)) ?_
  refine am_go.blk hcd_wr_startOther 7 (g := (118, [some (.ref 5), some (.int x1), some (.int x2), some (.int x3)], [.int (4 : Int32), .long (Int32.toInt64 (q6.1 1)), .ref 3], zz_hC q6 t, true)) rfl ?_
  obtain ⟨q7, hq7, hF⟩ := am_bd hF
  refine am_go.call hcd_wr_startOther rfl rfl rfl rfl (am_le8 rfl) (am_ev.le (by decide) (tz_by_putBig (t := t) hq7)) ?_
  refine am_go.blk hcd_wr_startOther 5 (g := (128, [some (.ref 5), some (.int x1), some (.int x2), some (.int x3)], [.int (2 : Int32), .long (Int32.toInt64 x1), .ref 3], zz_hC q7 t, true)) rfl ?_
  obtain ⟨q8, hq8, hF⟩ := am_bd hF
  refine am_go.call hcd_wr_startOther rfl rfl rfl rfl (am_le8 rfl) (am_ev.le (by decide) (tz_by_putBig (t := t) hq8)) ?_
  refine am_go.blk hcd_wr_startOther 7 (g := (142, [some (.ref 5), some (.int x1), some (.int x2), some (.int x3)], [.int (2 : Int32), .long (Int32.toInt64 ((16383 : Int32) + x3)), .ref 3], zz_hC q8 t, true)) rfl ?_
  obtain ⟨q9, hq9, hF⟩ := am_bd hF
  refine am_go.call hcd_wr_startOther rfl rfl rfl rfl (am_le8 rfl) (am_ev.le (by decide) (tz_by_putBig (t := t) hq9)) ?_
  refine am_go.blk hcd_wr_startOther 11 (g := (164, [some (.ref 5), some (.int x1), some (.int x2), some (.int x3)], [.int (8 : Int32), .long ((Int32.toInt64 (q9.1 2)) <<< (Int32.toInt64 ((63 : Int32) - x3) &&& 63)), .ref 3], zz_hC q9 t, true)) rfl ?_
  obtain ⟨q10, hq10, hF⟩ := am_bd hF
  refine am_go.call hcd_wr_startOther rfl rfl rfl rfl (am_le8 rfl) (am_ev.le (by decide) (tz_by_putBig (t := t) hq10)) ?_
  cases hF
  exact am_go.ret hcd_wr_startOther rfl rfl ⟨rfl, rfl, (fun h => by cases h), rfl, rfl⟩
def fz_wr_startOther_2  : Nat → Int32 → Int32 → Int32 → am_Z → Option (am_Z)
  | 0, _, _, _, _ => none
  | n + 1, x1, x2, x3, s =>
    if (17 : Int32) ≤ x3 then
      fz_wr_startOther_27 x1 x2 x3 s
    else
    if ((s.1 2) >>> (x3 &&& 31)) ≤ (1 : Int32) then
      fz_wr_startOther_27 x1 x2 x3 s
    else
    fz_wr_startOther_2 n x1 x2 (x3 + (1 : Int32)) s
theorem tz_wr_startOther_2 {sc : am_S} {t : am_H} {h0 : am_H}   : ∀ (n : Nat) (x1 : Int32) (x2 : Int32) (x3 : Int32) (s : am_Z) (r : am_Z), fz_wr_startOther_2  n x1 x2 x3 s = some r → am_go sc 3 (am_ev sc 2) 72 h0 (2, [some (.ref 5), some (.int x1), some (.int x2), some (.int x3)], [], zz_hC s t, true) ((.inl (none), zz_hC r t, true) : am_R) := by
  intro n
  induction n with
  | zero => intro x1 x2 x3 s r hF; cases hF
  | succ n ih =>
    intro x1 x2 x3 s r hF
    unfold fz_wr_startOther_2 at hF
    refine am_go.blk hcd_wr_startOther 3 (g := (bif decide ((17 : Int32) ≤ x3) then 27 else 8, [some (.ref 5), some (.int x1), some (.int x2), some (.int x3)], [], zz_hC s t, true)) rfl ?_
    refine am_go.br (fun hP => ?_) (fun hP => ?_)
    · replace hF := (if_pos hP).symm.trans hF
      exact tz_wr_startOther_27  hF
    · replace hF := (if_neg hP).symm.trans hF
      refine am_go.blk hcd_wr_startOther 7 (g := (bif decide (((s.1 2) >>> (x3 &&& 31)) ≤ (1 : Int32)) then 27 else 21, [some (.ref 5), some (.int x1), some (.int x2), some (.int x3)], [], zz_hC s t, true)) rfl ?_
      refine am_go.br (fun hP => ?_) (fun hP => ?_)
      · replace hF := (if_pos hP).symm.trans hF
        exact tz_wr_startOther_27  hF
      · replace hF := (if_neg hP).symm.trans hF
        refine am_go.blk hcd_wr_startOther 2 (g := (2, [some (.ref 5), some (.int x1), some (.int x2), some (.int (x3 + (1 : Int32)))], [], zz_hC s t, true)) rfl ?_
        exact ih _ _ _ _ _ hF
def fz_wr_startOther (s : am_Z) (x1 : Int32) (x2 : Int32) : Option (am_Z) :=
  fz_wr_startOther_2 fz_fu x1 x2 (0 : Int32) s
theorem tz_wr_startOther {sc : am_S} {t : am_H} {s : am_Z} {x1 : Int32} {x2 : Int32} {r : am_Z} (hF : fz_wr_startOther s x1 x2 = some r) : am_ev sc 3 72 [.ref 5, .int x1, .int x2] (zz_hC s t) ((.inl (none), zz_hC r t, true) : am_R) := by
  unfold fz_wr_startOther at hF
  refine am_ev.of true rfl ?_
  show am_go sc _ _ _ _ (0, [some (.ref 5), some (.int x1), some (.int x2), none], [], zz_hC s t, true) _
  refine am_go.blk hcd_wr_startOther 2 (g := (2, [some (.ref 5), some (.int x1), some (.int x2), some (.int (0 : Int32))], [], zz_hC s t, true)) rfl ?_
  exact tz_wr_startOther_2  fz_fu _ _ _ _ _ hF
theorem hcd_wr_writeOther : am_code 69 = am_c_wr_writeOther := rfl
def fz_wr_writeOther_70  : Nat → Int32 → Int32 → Int32 → Int32 → am_Z → Option (am_Z)
  | 0, _, _, _, _, _ => none
  | n + 1, x1, x2, x3, x4, s =>
    if (s.1 1) ≤ x4 then
      (fz_wr_putByteBehind s x3).bind fun q1 =>
      some q1
    else
    if x4 < 0 ∨ 64 ≤ Int32.toNatClampNeg x4 then none else
    (fz_by_putBig s (Int32.toInt64 ((((s.2.2 0) (Int32.toNatClampNeg x4)) >>> (((16 : Int32) - x1) &&& 31)) <<< ((x2 - x1) &&& 31))) (x2 / (8 : Int32))).bind fun q3 =>
    fz_wr_writeOther_70 n x1 x2 x3 (x4 + (1 : Int32)) q3
theorem tz_wr_writeOther_70 {sc : am_S} {t : am_H} {h0 : am_H}   : ∀ (n : Nat) (x1 : Int32) (x2 : Int32) (x3 : Int32) (x4 : Int32) (s : am_Z) (r : am_Z), fz_wr_writeOther_70  n x1 x2 x3 x4 s = some r → am_go sc 4 (am_ev sc 3) 69 h0 (70, [some (.ref 5), some (.int x1), some (.int x2), some (.int x3), some (.int x4)], [], zz_hC s t, true) ((.inl (none), zz_hC r t, true) : am_R) := by
  intro n
  induction n with
  | zero => intro x1 x2 x3 x4 s r hF; cases hF
  | succ n ih =>
    intro x1 x2 x3 x4 s r hF
    unfold fz_wr_writeOther_70 at hF
    refine am_go.blk hcd_wr_writeOther 5 (g := (bif decide ((s.1 1) ≤ x4) then 119 else 82, [some (.ref 5), some (.int x1), some (.int x2), some (.int x3), some (.int x4)], [], zz_hC s t, true)) rfl ?_
    refine am_go.br (fun hP => ?_) (fun hP => ?_)
    · replace hF := (if_pos hP).symm.trans hF
      refine am_go.blk hcd_wr_writeOther 2 (g := (121, [some (.ref 5), some (.int x1), some (.int x2), some (.int x3), some (.int x4)], [.int x3, .ref 5], zz_hC s t, true)) rfl ?_
      obtain ⟨q1, hq1, hF⟩ := am_bd hF
      refine am_go.call hcd_wr_writeOther rfl rfl rfl rfl (am_le8 rfl) (am_ev.le (by decide) (tz_wr_putByteBehind (t := t) hq1)) ?_
      cases hF
      exact am_go.ret hcd_wr_writeOther rfl rfl ⟨rfl, rfl, (fun h => by cases h), rfl, rfl⟩
    · replace hF := (if_neg hP).symm.trans hF
      refine am_go.blk hcd_wr_writeOther 6 (g := (95, [some (.ref 5), some (.int x1), some (.int x2), some (.int x3), some (.int x4)], [.int x4, .ref 2, .ref 3], zz_hC s t, true)) rfl ?_
      obtain ⟨hi2, hF⟩ := am_ng hF
      refine am_go.iald hcd_wr_writeOther rfl rfl hi2 ?_
      refine am_go.blk hcd_wr_writeOther 11 (g := (109, [some (.ref 5), some (.int x1), some (.int x2), some (.int x3), some (.int x4)], [.int (8 : Int32), .int x2, .long (Int32.toInt64 ((((s.2.2 0) (Int32.toNatClampNeg x4)) >>> (((16 : Int32) - x1) &&& 31)) <<< ((x2 - x1) &&& 31))), .ref 3], zz_hC s t, true)) rfl ?_
      refine am_go.idv hcd_wr_writeOther rfl (by decide) ?_
      obtain ⟨q3, hq3, hF⟩ := am_bd hF
      refine am_go.call hcd_wr_writeOther rfl rfl rfl rfl (am_le8 rfl) (am_ev.le (by decide) (tz_by_putBig (t := t) hq3)) ?_
      refine am_go.blk hcd_wr_writeOther 2 (g := (70, [some (.ref 5), some (.int x1), some (.int x2), some (.int x3), some (.int (x4 + (1 : Int32)))], [], zz_hC q3 t, true)) rfl ?_
      exact ih _ _ _ _ _ _ hF
def fz_wr_writeOther_13  (x1 : Int32) (y0 : Int32) (s : am_Z) : Option (am_Z) :=
  (fz_wr_startOther s x1 ((8 : Int32) + ((s.1 1) * (y0 / (8 : Int32))))).bind fun q1 =>
  (fz_by_putBig q1 (1397968452 : Int64) (4 : Int32)).bind fun q2 =>
  (fz_by_putBig q2 (Int32.toInt64 ((8 : Int32) + ((s.1 1) * (y0 / (8 : Int32))))) (4 : Int32)).bind fun q3 =>
  (fz_by_putBig q3 (0 : Int64) (8 : Int32)).bind fun q4 =>
  fz_wr_writeOther_70 fz_fu x1 y0 ((8 : Int32) + ((s.1 1) * (y0 / (8 : Int32)))) (0 : Int32) q4
theorem tz_wr_writeOther_13 {sc : am_S} {t : am_H} {h0 : am_H}   {x1 : Int32} {y0 : Int32} {s : am_Z} {r : am_Z} (hF : fz_wr_writeOther_13 x1 y0 s = some r) : am_go sc 4 (am_ev sc 3) 69 h0 (13, [some (.ref 5), some (.int x1), none, none, none], [.int y0], zz_hC s t, true) ((.inl (none), zz_hC r t, true) : am_R) := by
  unfold fz_wr_writeOther_13 at hF
  refine am_go.blk hcd_wr_writeOther 7 (g := (26, [some (.ref 5), some (.int x1), some (.int y0), none, none], [.int (8 : Int32), .int y0, .int (s.1 1), .int (8 : Int32)], zz_hC s t, true)) rfl ?_
  refine am_go.idv hcd_wr_writeOther rfl (by decide) ?_
  refine am_go.blk hcd_wr_writeOther 6 (g := (33, [some (.ref 5), some (.int x1), some (.int y0), some (.int ((8 : Int32) + ((s.1 1) * (y0 / (8 : Int32))))), none], [.int ((8 : Int32) + ((s.1 1) * (y0 / (8 : Int32)))), .int x1, .ref 5], zz_hC s t, true)) rfl ?_
  obtain ⟨q1, hq1, hF⟩ := am_bd hF
  refine am_go.call hcd_wr_writeOther rfl rfl rfl rfl (am_le8 rfl) (am_ev.le (by decide) (tz_wr_startOther (t := t) hq1)) ?_
  refine am_go.blk hcd_wr_writeOther 4 (g := (44, [some (.ref 5), some (.int x1), some (.int y0), some (.int ((8 : Int32) + ((s.1 1) * (y0 / (8 : Int32))))), none], [.int (4 : Int32), .long (1397968452 : Int64), .ref 3], zz_hC q1 t, true)) rfl ?_
  obtain ⟨q2, hq2, hF⟩ := am_bd hF
  refine am_go.call hcd_wr_writeOther rfl rfl rfl rfl (am_le8 rfl) (am_ev.le (by decide) (tz_by_putBig (t := t) hq2)) ?_
  refine am_go.blk hcd_wr_writeOther 5 (g := (54, [some (.ref 5), some (.int x1), some (.int y0), some (.int ((8 : Int32) + ((s.1 1) * (y0 / (8 : Int32))))), none], [.int (4 : Int32), .long (Int32.toInt64 ((8 : Int32) + ((s.1 1) * (y0 / (8 : Int32))))), .ref 3], zz_hC q2 t, true)) rfl ?_
  obtain ⟨q3, hq3, hF⟩ := am_bd hF
  refine am_go.call hcd_wr_writeOther rfl rfl rfl rfl (am_le8 rfl) (am_ev.le (by decide) (tz_by_putBig (t := t) hq3)) ?_
  refine am_go.blk hcd_wr_writeOther 4 (g := (64, [some (.ref 5), some (.int x1), some (.int y0), some (.int ((8 : Int32) + ((s.1 1) * (y0 / (8 : Int32))))), none], [.int (8 : Int32), .long (0 : Int64), .ref 3], zz_hC q3 t, true)) rfl ?_
  obtain ⟨q4, hq4, hF⟩ := am_bd hF
  refine am_go.call hcd_wr_writeOther rfl rfl rfl rfl (am_le8 rfl) (am_ev.le (by decide) (tz_by_putBig (t := t) hq4)) ?_
  refine am_go.blk hcd_wr_writeOther 2 (g := (70, [some (.ref 5), some (.int x1), some (.int y0), some (.int ((8 : Int32) + ((s.1 1) * (y0 / (8 : Int32))))), some (.int (0 : Int32))], [], zz_hC q4 t, true)) rfl ?_
  exact tz_wr_writeOther_70  fz_fu _ _ _ _ _ _ hF
def fz_wr_writeOther (s : am_Z) (x1 : Int32) : Option (am_Z) :=
  if (8 : Int32) < x1 then
    fz_wr_writeOther_13 x1 (16 : Int32) s
  else
  fz_wr_writeOther_13 x1 (8 : Int32) s
theorem tz_wr_writeOther {sc : am_S} {t : am_H} {s : am_Z} {x1 : Int32} {r : am_Z} (hF : fz_wr_writeOther s x1 = some r) : am_ev sc 4 69 [.ref 5, .int x1] (zz_hC s t) ((.inl (none), zz_hC r t, true) : am_R) := by
  unfold fz_wr_writeOther at hF
  refine am_ev.of true rfl ?_
  show am_go sc _ _ _ _ (0, [some (.ref 5), some (.int x1), none, none, none], [], zz_hC s t, true) _
  refine am_go.blk hcd_wr_writeOther 3 (g := (bif decide ((8 : Int32) < x1) then 11 else 6, [some (.ref 5), some (.int x1), none, none, none], [], zz_hC s t, true)) rfl ?_
  refine am_go.br (fun hP => ?_) (fun hP => ?_)
  · replace hF := (if_pos hP).symm.trans hF
    refine am_go.blk hcd_wr_writeOther 1 (g := (13, [some (.ref 5), some (.int x1), none, none, none], [.int (16 : Int32)], zz_hC s t, true)) rfl ?_
    exact tz_wr_writeOther_13  hF
  · replace hF := (if_neg hP).symm.trans hF
    refine am_go.blk hcd_wr_writeOther 2 (g := (13, [some (.ref 5), some (.int x1), none, none, none], [.int (8 : Int32)], zz_hC s t, true)) rfl ?_
    exact tz_wr_writeOther_13  hF
def fz_so_append_1 (s : am_Z) (x1 : Int32) : Option (am_Z) :=
  if (64 : Int32) ≤ (s.1 1) then
    some s
  else
  if (s.1 1) < 0 ∨ 64 ≤ Int32.toNatClampNeg (s.1 1) then none else
  some (zz_i (zz_r s 0 (upd (s.2.2 0) (Int32.toNatClampNeg (s.1 1)) x1)) 1 ((s.1 1) + (1 : Int32)))
theorem tz_so_append_1 {sc : am_S} {t : am_H} {s : am_Z} {x1 : Int32} {r : am_Z} (hF : fz_so_append_1 s x1 = some r) : am_ev sc 1 27 [.ref 1, .int x1] (zz_hC s t) ((.inl (none), zz_hC r t, true) : am_R) := by
  unfold fz_so_append_1 at hF
  refine am_ev.of true rfl ?_
  show am_go sc _ _ _ _ (0, [some (.ref 1), some (.int x1)], [], zz_hC s t, true) _
  refine am_go.blk hcd_so_append 6 (g := (bif decide ((64 : Int32) ≤ (s.1 1)) then 32 else 12, [some (.ref 1), some (.int x1)], [], zz_hC s t, true)) rfl ?_
  refine am_go.br (fun hP => ?_) (fun hP => ?_)
  · replace hF := (if_pos hP).symm.trans hF
    cases hF
    exact am_go.ret hcd_so_append rfl rfl ⟨rfl, rfl, (fun h => by cases h), rfl, rfl⟩
  · replace hF := (if_neg hP).symm.trans hF
    refine am_go.blk hcd_so_append 5 (g := (21, [some (.ref 1), some (.int x1)], [.int x1, .int (s.1 1), .ref 2], zz_hC s t, true)) rfl ?_
    obtain ⟨hi1, hF⟩ := am_ng hF
    refine am_go.iast hcd_so_append rfl rfl hi1 ?_
    refine am_go.blk hcd_so_append 6 (g := (32, [some (.ref 1), some (.int x1)], [], zz_hC (zz_i (zz_r s 0 (upd (s.2.2 0) (Int32.toNatClampNeg (s.1 1)) x1)) 1 ((s.1 1) + (1 : Int32))) t, true)) rfl ?_
    cases hF
    exact am_go.ret hcd_so_append rfl rfl ⟨rfl, rfl, (fun h => by cases h), rfl, rfl⟩
