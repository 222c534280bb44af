/-! printed by wip/gen/genF.py -/
theorem hcd_sh_sizeOfChunk : am_code 99 = am_c_sh_sizeOfChunk := rfl
def fz_sh_sizeOfChunk_49 (s : am_Z) (y0 : Int32) (y1 : Int32) (y2 : Int32) : Option (Int64) :=
  (fz_by_numberAt s y2 y1 y0).bind fun q1 =>
  some q1
theorem tz_sh_sizeOfChunk_49 {sc : am_S} {t : am_H} {h0 : am_H} {s : am_Z}  {y0 : Int32} {y1 : Int32} {y2 : Int32} {r : Int64} (hF : fz_sh_sizeOfChunk_49 s y0 y1 y2 = some r) : am_go sc 3 (am_ev sc 2) 99 h0 (49, [none, none, none], [.int y0, .int y1, .int y2, .ref 3], zz_hC s t, false) ((.inl (some (.long r)), zz_hC s t, false) : am_R) := by
  unfold fz_sh_sizeOfChunk_49 at hF
  obtain ⟨q1, hq1, hF⟩ := am_bd hF
  refine am_go.call hcd_sh_sizeOfChunk rfl rfl rfl rfl (am_le8 rfl) (am_ev.le (by decide) (tz_by_numberAt (t := t) hq1)) ?_
  cases hF
  exact am_go.ret hcd_sh_sizeOfChunk rfl rfl ⟨rfl, rfl, (fun _ => rfl), rfl, rfl⟩
def fz_sh_sizeOfChunk_31 (s : am_Z) (x1 : Int32) (y0 : Int32) : Option (Int64) :=
  if ¬ y0 = 0 then
    fz_sh_sizeOfChunk_49 s (0 : Int32) (4 : Int32) (x1 + (4 : Int32))
  else
  fz_sh_sizeOfChunk_49 s (1 : Int32) (4 : Int32) (x1 + (4 : Int32))
theorem tz_sh_sizeOfChunk_31 {sc : am_S} {t : am_H} {h0 : am_H} {s : am_Z}  {x1 : Int32} {y0 : Int32} {r : Int64} (hF : fz_sh_sizeOfChunk_31 s x1 y0 = some r) : am_go sc 3 (am_ev sc 2) 99 h0 (31, [some (.ref 0), some (.int x1), none], [.int y0], zz_hC s t, false) ((.inl (some (.long r)), zz_hC s t, false) : am_R) := by
  unfold fz_sh_sizeOfChunk_31 at hF
  refine am_go.blk hcd_sh_sizeOfChunk 9 (g := (bif decide (¬ y0 = 0) then 48 else 44, [some (.ref 0), some (.int x1), some (.int y0)], [.int (4 : Int32), .int (x1 + (4 : Int32)), .ref 3], zz_hC s t, false)) rfl ?_
  refine am_go.br (fun hP => ?_) (fun hP => ?_)
  · replace hF := (if_pos hP).symm.trans hF
    refine am_go.blk hcd_sh_sizeOfChunk 1 (g := (49, [some (.ref 0), some (.int x1), some (.int y0)], [.int (0 : Int32), .int (4 : Int32), .int (x1 + (4 : Int32)), .ref 3], zz_hC s t, false)) rfl ?_
    refine am_go.fgl [none, none, none] trivial ?_
    exact tz_sh_sizeOfChunk_49  hF
  · replace hF := (if_neg hP).symm.trans hF
    refine am_go.blk hcd_sh_sizeOfChunk 2 (g := (49, [some (.ref 0), some (.int x1), some (.int y0)], [.int (1 : Int32), .int (4 : Int32), .int (x1 + (4 : Int32)), .ref 3], zz_hC s t, false)) rfl ?_
    refine am_go.fgl [none, none, none] trivial ?_
    exact tz_sh_sizeOfChunk_49  hF
def fz_sh_sizeOfChunk_30 (s : am_Z) (x1 : Int32) : Option (Int64) :=
  fz_sh_sizeOfChunk_31 s x1 (0 : Int32)
theorem tz_sh_sizeOfChunk_30 {sc : am_S} {t : am_H} {h0 : am_H} {s : am_Z}  {x1 : Int32} {r : Int64} (hF : fz_sh_sizeOfChunk_30 s x1 = some r) : am_go sc 3 (am_ev sc 2) 99 h0 (30, [some (.ref 0), some (.int x1), none], [], zz_hC s t, false) ((.inl (some (.long r)), zz_hC s t, false) : am_R) := by
  unfold fz_sh_sizeOfChunk_30 at hF
  refine am_go.blk hcd_sh_sizeOfChunk 1 (g := (31, [some (.ref 0), some (.int x1), none], [.int (0 : Int32)], zz_hC s t, false)) rfl ?_
  exact tz_sh_sizeOfChunk_31  hF
def fz_sh_sizeOfChunk (s : am_Z) (x1 : Int32) : Option (Int64) :=
  (fz_by_has s (0 : Int32) (1 : Int32)).bind fun q1 =>
  if q1 = 0 then
    fz_sh_sizeOfChunk_30 s x1
  else
  if ¬ ((s.2.2 1) (Int32.toNatClampNeg (0 : Int32))) = (82 : Int32) then
    fz_sh_sizeOfChunk_30 s x1
  else
  fz_sh_sizeOfChunk_31 s x1 (1 : Int32)
theorem tz_sh_sizeOfChunk {sc : am_S} {t : am_H} {s : am_Z} {x1 : Int32} {r : Int64} (hF : fz_sh_sizeOfChunk s x1 = some r) : am_ev sc 3 99 [.ref 0, .int x1] (zz_hC s t) ((.inl (some (.long r)), zz_hC s t, false) : am_R) := by
  unfold fz_sh_sizeOfChunk at hF
  refine am_ev.of false rfl ?_
  show am_go sc _ _ _ _ (0, [some (.ref 0), some (.int x1), none], [], zz_hC s t, false) _
  refine am_go.blk hcd_sh_sizeOfChunk 4 (g := (6, [some (.ref 0), some (.int x1), none], [.int (1 : Int32), .int (0 : Int32), .ref 3], zz_hC s t, false)) rfl ?_
  obtain ⟨q1, hq1, hF⟩ := am_bd hF
  refine am_go.call hcd_sh_sizeOfChunk rfl rfl rfl rfl (am_le8 rfl) (am_ev.le (by decide) (tz_by_has (t := t) hq1)) ?_
  refine am_go.blk hcd_sh_sizeOfChunk 1 (g := (bif decide (q1 = 0) then 30 else 12, [some (.ref 0), some (.int x1), none], [], zz_hC s t, false)) rfl ?_
  refine am_go.br (fun hP => ?_) (fun hP => ?_)
  · replace hF := (if_pos hP).symm.trans hF
    exact tz_sh_sizeOfChunk_30  hF
  · replace hF := (if_neg hP).symm.trans hF
    refine am_go.blk hcd_sh_sizeOfChunk 4 (g := (20, [some (.ref 0), some (.int x1), none], [.int (0 : Int32), .ref 4], zz_hC s t, false)) rfl ?_
    refine am_go.iald hcd_sh_sizeOfChunk rfl rfl (by decide) ?_
    refine am_go.blk hcd_sh_sizeOfChunk 2 (g := (bif decide (¬ ((s.2.2 1) (Int32.toNatClampNeg (0 : Int32))) = (82 : Int32)) then 30 else 26, [some (.ref 0), some (.int x1), none], [], zz_hC s t, false)) rfl ?_
    refine am_go.br (fun hP => ?_) (fun hP => ?_)
    · replace hF := (if_pos hP).symm.trans hF
      exact tz_sh_sizeOfChunk_30  hF
    · replace hF := (if_neg hP).symm.trans hF
      refine am_go.blk hcd_sh_sizeOfChunk 2 (g := (31, [some (.ref 0), some (.int x1), none], [.int (1 : Int32)], zz_hC s t, false)) rfl ?_
      exact tz_sh_sizeOfChunk_31  hF
theorem hcd_sh_endOfChunk : am_code 98 = am_c_sh_endOfChunk := rfl
def fz_sh_endOfChunk (s : am_Z) (x1 : Int32) : Option (Int32) :=
  (fz_by_has s x1 (8 : Int32)).bind fun q1 =>
  if ¬ q1 = 0 then
    (fz_sh_sizeOfChunk s x1).bind fun q2 =>
    if (lg_cmp (((Int32.toInt64 (x1 + (8 : Int32))) + q2) + (q2 - q2 / (2 : Int64) * (2 : Int64))) (Int32.toInt64 (s.1 3))) ≤ 0 then
      some (Int64.toInt32 (((Int32.toInt64 (x1 + (8 : Int32))) + q2) + (q2 - q2 / (2 : Int64) * (2 : Int64))))
    else
    some (-1 : Int32)
  else
  some (-1 : Int32)
theorem tz_sh_endOfChunk {sc : am_S} {t : am_H} {s : am_Z} {x1 : Int32} {r : Int32} (hF : fz_sh_endOfChunk s x1 = some r) : am_ev sc 4 98 [.ref 0, .int x1] (zz_hC s t) ((.inl (some (.int r)), zz_hC s t, false) : am_R) := by
  unfold fz_sh_endOfChunk at hF
  refine am_ev.of false rfl ?_
  show am_go sc _ _ _ _ (0, [some (.ref 0), some (.int x1), none, none, none, none], [], zz_hC s t, false) _
  refine am_go.blk hcd_sh_endOfChunk 4 (g := (7, [some (.ref 0), some (.int x1), none, none, none, none], [.int (8 : Int32), .int x1, .ref 3], zz_hC s t, false)) rfl ?_
  obtain ⟨q1, hq1, hF⟩ := am_bd hF
  refine am_go.call hcd_sh_endOfChunk rfl rfl rfl rfl (am_le8 rfl) (am_ev.le (by decide) (tz_by_has (t := t) hq1)) ?_
  refine am_go.blk hcd_sh_endOfChunk 1 (g := (bif decide (¬ q1 = 0) then 15 else 13, [some (.ref 0), some (.int x1), none, none, none, none], [], zz_hC s t, false)) rfl ?_
  refine am_go.br (fun hP => ?_) (fun hP => ?_)
  · replace hF := (if_pos hP).symm.trans hF
    refine am_go.blk hcd_sh_endOfChunk 2 (g := (17, [some (.ref 0), some (.int x1), none, none, none, none], [.int x1, .ref 0], zz_hC s t, false)) rfl ?_
    obtain ⟨q2, hq2, hF⟩ := am_bd hF
    refine am_go.call hcd_sh_endOfChunk rfl rfl rfl rfl (am_le8 rfl) (am_ev.le (by decide) (tz_sh_sizeOfChunk (t := t) hq2)) ?_
    refine am_go.blk hcd_sh_endOfChunk 9 (g := (32, [some (.ref 0), some (.int x1), some (.long q2), none, none, none], [.long (2 : Int64), .long q2, .long ((Int32.toInt64 (x1 + (8 : Int32))) + q2)], zz_hC s t, false)) rfl ?_
    refine am_go.lrm hcd_sh_endOfChunk rfl (by decide) ?_
    refine am_go.blk hcd_sh_endOfChunk 9 (g := (bif decide ((lg_cmp (((Int32.toInt64 (x1 + (8 : Int32))) + q2) + (q2 - q2 / (2 : Int64) * (2 : Int64))) (Int32.toInt64 (s.1 3))) ≤ 0) then 54 else 50, [some (.ref 0), some (.int x1), some (.long q2), none, some (.long (((Int32.toInt64 (x1 + (8 : Int32))) + q2) + (q2 - q2 / (2 : Int64) * (2 : Int64)))), none], [], zz_hC s t, false)) rfl ?_
    refine am_go.br (fun hP => ?_) (fun hP => ?_)
    · replace hF := (if_pos hP).symm.trans hF
      refine am_go.blk hcd_sh_endOfChunk 2 (g := (57, [some (.ref 0), some (.int x1), some (.long q2), none, some (.long (((Int32.toInt64 (x1 + (8 : Int32))) + q2) + (q2 - q2 / (2 : Int64) * (2 : Int64)))), none], [.int (Int64.toInt32 (((Int32.toInt64 (x1 + (8 : Int32))) + q2) + (q2 - q2 / (2 : Int64) * (2 : Int64))))], zz_hC s t, false)) rfl ?_
      cases hF
      exact am_go.ret hcd_sh_endOfChunk rfl rfl ⟨rfl, rfl, (fun _ => rfl), Or.inl rfl, rfl⟩
    · replace hF := (if_neg hP).symm.trans hF
      refine am_go.blk hcd_sh_endOfChunk 2 (g := (57, [some (.ref 0), some (.int x1), some (.long q2), none, some (.long (((Int32.toInt64 (x1 + (8 : Int32))) + q2) + (q2 - q2 / (2 : Int64) * (2 : Int64)))), none], [.int (-1 : Int32)], zz_hC s t, false)) rfl ?_
      cases hF
      exact am_go.ret hcd_sh_endOfChunk rfl rfl ⟨rfl, rfl, (fun _ => rfl), Or.inl rfl, rfl⟩
  · replace hF := (if_neg hP).symm.trans hF
    refine am_go.blk hcd_sh_endOfChunk 1 (g := (14, [some (.ref 0), some (.int x1), none, none, none, none], [.int (-1 : Int32)], zz_hC s t, false)) rfl ?_
    cases hF
    exact am_go.ret hcd_sh_endOfChunk rfl rfl ⟨rfl, rfl, (fun _ => rfl), Or.inl rfl, rfl⟩
theorem hcd_sh_placeOfChunk : am_code 97 = am_c_sh_placeOfChunk := rfl
def fz_sh_placeOfChunk_53 (s : am_Z)  : Option (Int32) :=
  some (-1 : Int32)
theorem tz_sh_placeOfChunk_53 {sc : am_S} {t : am_H} {h0 : am_H} {s : am_Z}   {r : Int32} (hF : fz_sh_placeOfChunk_53 s = some r) : am_go sc 5 (am_ev sc 4) 97 h0 (53, [none, none, none, none], [], zz_hC s t, false) ((.inl (some (.int r)), zz_hC s t, false) : am_R) := by
  unfold fz_sh_placeOfChunk_53 at hF
  refine am_go.blk hcd_sh_placeOfChunk 2 (g := (58, [none, none, none, none], [.int (-1 : Int32)], zz_hC s t, false)) rfl ?_
  cases hF
  exact am_go.ret hcd_sh_placeOfChunk rfl rfl ⟨rfl, rfl, (fun _ => rfl), Or.inl rfl, rfl⟩
def fz_sh_placeOfChunk_39 (s : am_Z) (x2 : Int32) : Option (Int32) :=
  if x2 = (-1 : Int32) then
    fz_sh_placeOfChunk_53 s
  else
  (fz_sh_endOfChunk s x2).bind fun q1 =>
  if ¬ q1 = (-1 : Int32) then
    some x2
  else
  fz_sh_placeOfChunk_53 s
theorem tz_sh_placeOfChunk_39 {sc : am_S} {t : am_H} {h0 : am_H} {s : am_Z}  {x2 : Int32} {r : Int32} (hF : fz_sh_placeOfChunk_39 s x2 = some r) : am_go sc 5 (am_ev sc 4) 97 h0 (39, [some (.ref 0), none, some (.int x2), none], [], zz_hC s t, false) ((.inl (some (.int r)), zz_hC s t, false) : am_R) := by
  unfold fz_sh_placeOfChunk_39 at hF
  refine am_go.blk hcd_sh_placeOfChunk 3 (g := (bif decide (x2 = (-1 : Int32)) then 53 else 44, [some (.ref 0), none, some (.int x2), none], [], zz_hC s t, false)) rfl ?_
  refine am_go.br (fun hP => ?_) (fun hP => ?_)
  · replace hF := (if_pos hP).symm.trans hF
    refine am_go.fgl [none, none, none, none] trivial ?_
    exact tz_sh_placeOfChunk_53  hF
  · replace hF := (if_neg hP).symm.trans hF
    refine am_go.blk hcd_sh_placeOfChunk 2 (g := (46, [some (.ref 0), none, some (.int x2), none], [.int x2, .ref 0], zz_hC s t, false)) rfl ?_
    obtain ⟨q1, hq1, hF⟩ := am_bd hF
    refine am_go.call hcd_sh_placeOfChunk rfl rfl rfl rfl (am_le8 rfl) (am_ev.le (by decide) (tz_sh_endOfChunk (t := t) hq1)) ?_
    refine am_go.blk hcd_sh_placeOfChunk 2 (g := (bif decide (¬ q1 = (-1 : Int32)) then 57 else 53, [some (.ref 0), none, some (.int x2), none], [], zz_hC s t, false)) rfl ?_
    refine am_go.br (fun hP => ?_) (fun hP => ?_)
    · replace hF := (if_pos hP).symm.trans hF
      refine am_go.blk hcd_sh_placeOfChunk 1 (g := (58, [some (.ref 0), none, some (.int x2), none], [.int x2], zz_hC s t, false)) rfl ?_
      cases hF
      exact am_go.ret hcd_sh_placeOfChunk rfl rfl ⟨rfl, rfl, (fun _ => rfl), Or.inl rfl, rfl⟩
    · replace hF := (if_neg hP).symm.trans hF
      refine am_go.fgl [none, none, none, none] trivial ?_
      exact tz_sh_placeOfChunk_53  hF
def fz_sh_placeOfChunk_17 (s : am_Z) : Nat → Int32 → Int32 → Int32 → Option (Int32)
  | 0, _, _, _ => none
  | n + 1, x1, x2, x3 =>
    if x1 ≤ x3 then
      fz_sh_placeOfChunk_39 s x2
    else
    if x2 = (-1 : Int32) then
      fz_sh_placeOfChunk_39 s x2
    else
    (fz_sh_endOfChunk s x2).bind fun q1 =>
    fz_sh_placeOfChunk_17 s n x1 q1 (x3 + (1 : Int32))
theorem tz_sh_placeOfChunk_17 {sc : am_S} {t : am_H} {h0 : am_H} {s : am_Z}  : ∀ (n : Nat) (x1 : Int32) (x2 : Int32) (x3 : Int32) (r : Int32), fz_sh_placeOfChunk_17 s n x1 x2 x3 = some r → am_go sc 5 (am_ev sc 4) 97 h0 (17, [some (.ref 0), some (.int x1), some (.int x2), some (.int x3)], [], zz_hC s t, false) ((.inl (some (.int r)), zz_hC s t, false) : am_R) := by
  intro n
  induction n with
  | zero => intro x1 x2 x3 r hF; cases hF
  | succ n ih =>
    intro x1 x2 x3 r hF
    unfold fz_sh_placeOfChunk_17 at hF
    refine am_go.blk hcd_sh_placeOfChunk 3 (g := (bif decide (x1 ≤ x3) then 39 else 22, [some (.ref 0), some (.int x1), some (.int x2), some (.int x3)], [], zz_hC s t, false)) rfl ?_
    refine am_go.br (fun hP => ?_) (fun hP => ?_)
    · replace hF := (if_pos hP).symm.trans hF
      refine am_go.fgl [some (.ref 0), none, some (.int x2), none] ⟨rfl, rfl, trivial⟩ ?_
      exact tz_sh_placeOfChunk_39  hF
    · replace hF := (if_neg hP).symm.trans hF
      refine am_go.blk hcd_sh_placeOfChunk 3 (g := (bif decide (x2 = (-1 : Int32)) then 39 else 27, [some (.ref 0), some (.int x1), some (.int x2), some (.int x3)], [], zz_hC s t, false)) rfl ?_
      refine am_go.br (fun hP => ?_) (fun hP => ?_)
      · replace hF := (if_pos hP).symm.trans hF
        refine am_go.fgl [some (.ref 0), none, some (.int x2), none] ⟨rfl, rfl, trivial⟩ ?_
        exact tz_sh_placeOfChunk_39  hF
      · replace hF := (if_neg hP).symm.trans hF
        refine am_go.blk hcd_sh_placeOfChunk 2 (g := (29, [some (.ref 0), some (.int x1), some (.int x2), some (.int x3)], [.int x2, .ref 0], zz_hC s t, false)) rfl ?_
        obtain ⟨q1, hq1, hF⟩ := am_bd hF
        refine am_go.call hcd_sh_placeOfChunk rfl rfl rfl rfl (am_le8 rfl) (am_ev.le (by decide) (tz_sh_endOfChunk (t := t) hq1)) ?_
        refine am_go.blk hcd_sh_placeOfChunk 3 (g := (17, [some (.ref 0), some (.int x1), some (.int q1), some (.int (x3 + (1 : Int32)))], [], zz_hC s t, false)) rfl ?_
        exact ih _ _ _ _ hF
def fz_sh_placeOfChunk (s : am_Z) (x1 : Int32) : Option (Int32) :=
  if x1 < 0 then
    some (-1 : Int32)
  else
  if x1 < (50 : Int32) then
    fz_sh_placeOfChunk_17 s fz_fu x1 (12 : Int32) (0 : Int32)
  else
  some (-1 : Int32)
theorem tz_sh_placeOfChunk {sc : am_S} {t : am_H} {s : am_Z} {x1 : Int32} {r : Int32} (hF : fz_sh_placeOfChunk s x1 = some r) : am_ev sc 5 97 [.ref 0, .int x1] (zz_hC s t) ((.inl (some (.int r)), zz_hC s t, false) : am_R) := by
  unfold fz_sh_placeOfChunk at hF
  refine am_ev.of false rfl ?_
  show am_go sc _ _ _ _ (0, [some (.ref 0), some (.int x1), none, none], [], zz_hC s t, false) _
  refine am_go.blk hcd_sh_placeOfChunk 2 (g := (bif decide (x1 < 0) then 10 else 4, [some (.ref 0), some (.int x1), none, none], [], zz_hC s t, false)) rfl ?_
  refine am_go.br (fun hP => ?_) (fun hP => ?_)
  · replace hF := (if_pos hP).symm.trans hF
    refine am_go.blk hcd_sh_placeOfChunk 1 (g := (11, [some (.ref 0), some (.int x1), none, none], [.int (-1 : Int32)], zz_hC s t, false)) rfl ?_
    cases hF
    exact am_go.ret hcd_sh_placeOfChunk rfl rfl ⟨rfl, rfl, (fun _ => rfl), Or.inl rfl, rfl⟩
  · replace hF := (if_neg hP).symm.trans hF
    refine am_go.blk hcd_sh_placeOfChunk 3 (g := (bif decide (x1 < (50 : Int32)) then 12 else 10, [some (.ref 0), some (.int x1), none, none], [], zz_hC s t, false)) rfl ?_
    refine am_go.br (fun hP => ?_) (fun hP => ?_)
    · replace hF := (if_pos hP).symm.trans hF
      refine am_go.blk hcd_sh_placeOfChunk 4 (g := (17, [some (.ref 0), some (.int x1), some (.int (12 : Int32)), some (.int (0 : Int32))], [], zz_hC s t, false)) rfl ?_
      exact tz_sh_placeOfChunk_17  fz_fu _ _ _ _ hF
    · replace hF := (if_neg hP).symm.trans hF
      refine am_go.blk hcd_sh_placeOfChunk 1 (g := (11, [some (.ref 0), some (.int x1), none, none], [.int (-1 : Int32)], zz_hC s t, false)) rfl ?_
      cases hF
      exact am_go.ret hcd_sh_placeOfChunk rfl rfl ⟨rfl, rfl, (fun _ => rfl), Or.inl rfl, rfl⟩
theorem hcd_sh_chunk : am_code 95 = am_c_sh_chunk := rfl
def fz_sh_chunk_24 (s : am_Z) (x1 : Int32) (x2 : Int32) : Option (Nat ⊕ (Int32)) :=
  (fz_sh_placeOfChunk s x1).bind fun q1 =>
  if ¬ q1 = (-1 : Int32) then
    if ¬ x2 = 0 then
      if ¬ x2 = (1 : Int32) then
        (fz_sh_sizeOfChunk s q1).bind fun q2 =>
        some (.inr (Int64.toInt32 q2))
      else
      (fz_by_idAt s q1).bind fun q3 =>
      some (.inr q3)
    else
    some (.inr q1)
  else
  some (.inl 12)
theorem tz_sh_chunk_24 {sc : am_S} {t : am_H} {s : am_Z}  {x1 : Int32} {x2 : Int32} {r : Nat ⊕ (Int32)} (hF : fz_sh_chunk_24 s x1 x2 = some r) : am_go sc 6 (am_ev sc 5) 95 (zz_hC s t) (24, [some (.ref 0), some (.int x1), some (.int x2), none], [], zz_hC s t, false) (zz_el (fun x => ((.inr ((zz_hC s t)).length, (zz_hC s t) ++ [.inl (x, [])], false) : am_R)) (fun p => ((.inl (some (.int p)), zz_hC s t, false) : am_R)) r) := by
  unfold fz_sh_chunk_24 at hF
  refine am_go.blk hcd_sh_chunk 2 (g := (26, [some (.ref 0), some (.int x1), some (.int x2), none], [.int x1, .ref 0], zz_hC s t, false)) rfl ?_
  obtain ⟨q1, hq1, hF⟩ := am_bd hF
  refine am_go.call hcd_sh_chunk rfl rfl rfl rfl (am_le8 rfl) (am_ev.le (by decide) (tz_sh_placeOfChunk (t := t) hq1)) ?_
  refine am_go.blk hcd_sh_chunk 4 (g := (bif decide (¬ q1 = (-1 : Int32)) then 45 else 35, [some (.ref 0), some (.int x1), some (.int x2), some (.int q1)], [], zz_hC s t, false)) rfl ?_
  refine am_go.br (fun hP => ?_) (fun hP => ?_)
  · replace hF := (if_pos hP).symm.trans hF
    refine am_go.blk hcd_sh_chunk 2 (g := (bif decide (¬ x2 = 0) then 51 else 49, [some (.ref 0), some (.int x1), some (.int x2), some (.int q1)], [], zz_hC s t, false)) rfl ?_
    refine am_go.br (fun hP => ?_) (fun hP => ?_)
    · replace hF := (if_pos hP).symm.trans hF
      refine am_go.blk hcd_sh_chunk 3 (g := (bif decide (¬ x2 = (1 : Int32)) then 67 else 56, [some (.ref 0), some (.int x1), some (.int x2), some (.int q1)], [], zz_hC s t, false)) rfl ?_
      refine am_go.br (fun hP => ?_) (fun hP => ?_)
      · replace hF := (if_pos hP).symm.trans hF
        refine am_go.blk hcd_sh_chunk 2 (g := (69, [some (.ref 0), some (.int x1), some (.int x2), some (.int q1)], [.int q1, .ref 0], zz_hC s t, false)) rfl ?_
        obtain ⟨q2, hq2, hF⟩ := am_bd hF
        refine am_go.call hcd_sh_chunk rfl rfl rfl rfl (am_le8 rfl) (am_ev.le (by decide) (tz_sh_sizeOfChunk (t := t) hq2)) ?_
        refine am_go.blk hcd_sh_chunk 1 (g := (73, [some (.ref 0), some (.int x1), some (.int x2), some (.int q1)], [.int (Int64.toInt32 q2)], zz_hC s t, false)) rfl ?_
        cases hF
        exact am_go.ret hcd_sh_chunk rfl rfl ⟨rfl, rfl, (fun _ => rfl), Or.inl rfl, rfl⟩
      · replace hF := (if_neg hP).symm.trans hF
        refine am_go.blk hcd_sh_chunk 3 (g := (61, [some (.ref 0), some (.int x1), some (.int x2), some (.int q1)], [.int q1, .ref 3], zz_hC s t, false)) rfl ?_
        obtain ⟨q3, hq3, hF⟩ := am_bd hF
        refine am_go.call hcd_sh_chunk rfl rfl rfl rfl (am_le8 rfl) (am_ev.le (by decide) (tz_by_idAt (t := t) hq3)) ?_
        refine am_go.blk hcd_sh_chunk 1 (g := (73, [some (.ref 0), some (.int x1), some (.int x2), some (.int q1)], [.int q3], zz_hC s t, false)) rfl ?_
        cases hF
        exact am_go.ret hcd_sh_chunk rfl rfl ⟨rfl, rfl, (fun _ => rfl), Or.inl rfl, rfl⟩
    · replace hF := (if_neg hP).symm.trans hF
      refine am_go.blk hcd_sh_chunk 1 (g := (50, [some (.ref 0), some (.int x1), some (.int x2), some (.int q1)], [.int q1], zz_hC s t, false)) rfl ?_
      cases hF
      exact am_go.ret hcd_sh_chunk rfl rfl ⟨rfl, rfl, (fun _ => rfl), Or.inl rfl, rfl⟩
  · replace hF := (if_neg hP).symm.trans hF
    cases hF
    exact am_go.thr hcd_sh_chunk rfl rfl ⟨rfl, by decide, by decide, by decide, rfl, rfl, am_le8 rfl, rfl, rfl, rfl⟩
def fz_sh_chunk (s : am_Z) (x1 : Int32) (x2 : Int32) : Option (Nat ⊕ (Int32)) :=
  if x2 = 0 then
    fz_sh_chunk_24 s x1 x2
  else
  if x2 = (1 : Int32) then
    fz_sh_chunk_24 s x1 x2
  else
  if x2 = (2 : Int32) then
    fz_sh_chunk_24 s x1 x2
  else
  some (.inl 9)
theorem tz_sh_chunk {sc : am_S} {t : am_H} {s : am_Z} {x1 : Int32} {x2 : Int32} {r : Nat ⊕ (Int32)} (hF : fz_sh_chunk s x1 x2 = some r) : am_ev sc 6 95 [.ref 0, .int x1, .int x2] (zz_hC s t) (zz_el (fun x => ((.inr ((zz_hC s t)).length, (zz_hC s t) ++ [.inl (x, [])], false) : am_R)) (fun p => ((.inl (some (.int p)), zz_hC s t, false) : am_R)) r) := by
  unfold fz_sh_chunk at hF
  refine am_ev.of false rfl ?_
  show am_go sc _ _ _ _ (0, [some (.ref 0), some (.int x1), some (.int x2), none], [], zz_hC s t, false) _
  refine am_go.blk hcd_sh_chunk 2 (g := (bif decide (x2 = 0) then 24 else 4, [some (.ref 0), some (.int x1), some (.int x2), none], [], zz_hC s t, false)) rfl ?_
  refine am_go.br (fun hP => ?_) (fun hP => ?_)
  · replace hF := (if_pos hP).symm.trans hF
    exact tz_sh_chunk_24  hF
  · replace hF := (if_neg hP).symm.trans hF
    refine am_go.blk hcd_sh_chunk 3 (g := (bif decide (x2 = (1 : Int32)) then 24 else 9, [some (.ref 0), some (.int x1), some (.int x2), none], [], zz_hC s t, false)) rfl ?_
    refine am_go.br (fun hP => ?_) (fun hP => ?_)
    · replace hF := (if_pos hP).symm.trans hF
      exact tz_sh_chunk_24  hF
    · replace hF := (if_neg hP).symm.trans hF
      refine am_go.blk hcd_sh_chunk 3 (g := (bif decide (x2 = (2 : Int32)) then 24 else 14, [some (.ref 0), some (.int x1), some (.int x2), none], [], zz_hC s t, false)) rfl ?_
      refine am_go.br (fun hP => ?_) (fun hP => ?_)
      · replace hF := (if_pos hP).symm.trans hF
        exact tz_sh_chunk_24  hF
      · replace hF := (if_neg hP).symm.trans hF
        cases hF
        exact am_go.thr hcd_sh_chunk rfl rfl ⟨rfl, by decide, by decide, by decide, rfl, rfl, am_le8 rfl, rfl, rfl, rfl⟩
theorem hcd_sh_chunks : am_code 94 = am_c_sh_chunks := rfl
def fz_sh_chunks_9 (s : am_Z) : Nat → Int32 → Int32 → Option (Int32)
  | 0, _, _ => none
  | n + 1, x1, x2 =>
    if x2 = (-1 : Int32) then
      some x1
    else
    if (50 : Int32) ≤ x1 then
      some x1
    else
    (fz_sh_endOfChunk s x2).bind fun q1 =>
    fz_sh_chunks_9 s n (x1 + (1 : Int32)) q1
theorem tz_sh_chunks_9 {sc : am_S} {t : am_H} {h0 : am_H} {s : am_Z}  : ∀ (n : Nat) (x1 : Int32) (x2 : Int32) (r : Int32), fz_sh_chunks_9 s n x1 x2 = some r → am_go sc 5 (am_ev sc 4) 94 h0 (9, [some (.ref 0), some (.int x1), some (.int x2)], [], zz_hC s t, false) ((.inl (some (.int r)), zz_hC s t, false) : am_R) := by
  intro n
  induction n with
  | zero => intro x1 x2 r hF; cases hF
  | succ n ih =>
    intro x1 x2 r hF
    unfold fz_sh_chunks_9 at hF
    refine am_go.blk hcd_sh_chunks 3 (g := (bif decide (x2 = (-1 : Int32)) then 32 else 14, [some (.ref 0), some (.int x1), some (.int x2)], [], zz_hC s t, false)) rfl ?_
    refine am_go.br (fun hP => ?_) (fun hP => ?_)
    · replace hF := (if_pos hP).symm.trans hF
      refine am_go.blk hcd_sh_chunks 1 (g := (33, [some (.ref 0), some (.int x1), some (.int x2)], [.int x1], zz_hC s t, false)) rfl ?_
      cases hF
      exact am_go.ret hcd_sh_chunks rfl rfl ⟨rfl, rfl, (fun _ => rfl), Or.inl rfl, rfl⟩
    · replace hF := (if_neg hP).symm.trans hF
      refine am_go.blk hcd_sh_chunks 3 (g := (bif decide ((50 : Int32) ≤ x1) then 32 else 20, [some (.ref 0), some (.int x1), some (.int x2)], [], zz_hC s t, false)) rfl ?_
      refine am_go.br (fun hP => ?_) (fun hP => ?_)
      · replace hF := (if_pos hP).symm.trans hF
        refine am_go.blk hcd_sh_chunks 1 (g := (33, [some (.ref 0), some (.int x1), some (.int x2)], [.int x1], zz_hC s t, false)) rfl ?_
        cases hF
        exact am_go.ret hcd_sh_chunks rfl rfl ⟨rfl, rfl, (fun _ => rfl), Or.inl rfl, rfl⟩
      · replace hF := (if_neg hP).symm.trans hF
        refine am_go.blk hcd_sh_chunks 3 (g := (25, [some (.ref 0), some (.int (x1 + (1 : Int32))), some (.int x2)], [.int x2, .ref 0], zz_hC s t, false)) rfl ?_
        obtain ⟨q1, hq1, hF⟩ := am_bd hF
        refine am_go.call hcd_sh_chunks rfl rfl rfl rfl (am_le8 rfl) (am_ev.le (by decide) (tz_sh_endOfChunk (t := t) hq1)) ?_
        refine am_go.blk hcd_sh_chunks 2 (g := (9, [some (.ref 0), some (.int (x1 + (1 : Int32))), some (.int q1)], [], zz_hC s t, false)) rfl ?_
        exact ih _ _ _ hF
def fz_sh_chunks (s : am_Z) : Option (Int32) :=
  (fz_sh_endOfChunk s (12 : Int32)).bind fun q1 =>
  fz_sh_chunks_9 s fz_fu (0 : Int32) q1
theorem tz_sh_chunks {sc : am_S} {t : am_H} {s : am_Z} {r : Int32} (hF : fz_sh_chunks s = some r) : am_ev sc 5 94 [.ref 0] (zz_hC s t) ((.inl (some (.int r)), zz_hC s t, false) : am_R) := by
  unfold fz_sh_chunks at hF
  refine am_ev.of false rfl ?_
  show am_go sc _ _ _ _ (0, [some (.ref 0), none, none], [], zz_hC s t, false) _
  refine am_go.blk hcd_sh_chunks 4 (g := (5, [some (.ref 0), some (.int (0 : Int32)), none], [.int (12 : Int32), .ref 0], zz_hC s t, false)) rfl ?_
  obtain ⟨q1, hq1, hF⟩ := am_bd hF
  refine am_go.call hcd_sh_chunks rfl rfl rfl rfl (am_le8 rfl) (am_ev.le (by decide) (tz_sh_endOfChunk (t := t) hq1)) ?_
  refine am_go.blk hcd_sh_chunks 1 (g := (9, [some (.ref 0), some (.int (0 : Int32)), some (.int q1)], [], zz_hC s t, false)) rfl ?_
  exact tz_sh_chunks_9  fz_fu _ _ _ hF
theorem hcd_sh_cut : am_code 93 = am_c_sh_cut := rfl
def fz_sh_cut_15  (s : am_Z) : Option (Nat ⊕ (am_Z)) :=
  some (.inl 9)
theorem tz_sh_cut_15 {sc : am_S} {t : am_H}   {s : am_Z} {r : Nat ⊕ (am_Z)} (hF : fz_sh_cut_15 s = some r) : am_go sc 6 (am_ev sc 5) 93 (zz_hC s t) (15, [none, none], [], zz_hC s t, false) (zz_el (fun x => ((.inr ((zz_hC s t)).length, (zz_hC s t) ++ [.inl (x, [])], false) : am_R)) (fun p => ((.inl (none), zz_hC p t, true) : am_R)) r) := by
  unfold fz_sh_cut_15 at hF
  cases hF
  exact am_go.thr hcd_sh_cut rfl rfl ⟨rfl, by decide, by decide, by decide, rfl, rfl, am_le8 rfl, rfl, rfl, rfl⟩
def fz_sh_cut (s : am_Z) (x1 : Int32) : Option (Nat ⊕ (am_Z)) :=
  if x1 < 0 then
    fz_sh_cut_15 s
  else
  if x1 ≤ (s.1 3) then
    some (.inr (zz_i s 3 x1))
  else
  fz_sh_cut_15 s
theorem tz_sh_cut {sc : am_S} {t : am_H} {s : am_Z} {x1 : Int32} {r : Nat ⊕ (am_Z)} (hF : fz_sh_cut s x1 = some r) : am_ev sc 6 93 [.ref 0, .int x1] (zz_hC s t) (zz_el (fun x => ((.inr ((zz_hC s t)).length, (zz_hC s t) ++ [.inl (x, [])], false) : am_R)) (fun p => ((.inl (none), zz_hC p t, true) : am_R)) r) := by
  unfold fz_sh_cut at hF
  refine am_ev.of false rfl ?_
  show am_go sc _ _ _ _ (0, [some (.ref 0), some (.int x1)], [], zz_hC s t, false) _
  refine am_go.blk hcd_sh_cut 2 (g := (bif decide (x1 < 0) then 15 else 4, [some (.ref 0), some (.int x1)], [], zz_hC s t, false)) rfl ?_
  refine am_go.br (fun hP => ?_) (fun hP => ?_)
  · replace hF := (if_pos hP).symm.trans hF
    refine am_go.fgl [none, none] trivial ?_
    exact tz_sh_cut_15  hF
  · replace hF := (if_neg hP).symm.trans hF
    refine am_go.blk hcd_sh_cut 5 (g := (bif decide (x1 ≤ (s.1 3)) then 25 else 15, [some (.ref 0), some (.int x1)], [], zz_hC s t, false)) rfl ?_
    refine am_go.br (fun hP => ?_) (fun hP => ?_)
    · replace hF := (if_pos hP).symm.trans hF
      refine am_go.blk hcd_sh_cut 4 (g := (33, [some (.ref 0), some (.int x1)], [], zz_hC (zz_i s 3 x1) t, true)) rfl ?_
      cases hF
      exact am_go.ret hcd_sh_cut rfl rfl ⟨rfl, rfl, (fun h => by cases h), rfl, rfl⟩
    · replace hF := (if_neg hP).symm.trans hF
      refine am_go.fgl [none, none] trivial ?_
      exact tz_sh_cut_15  hF
theorem hcd_sh_type : am_code 92 = am_c_sh_type := rfl
def fz_sh_type_11  (s : am_Z) : Option (Nat ⊕ (Int32 × am_Z)) :=
  some (.inl 9)
theorem tz_sh_type_11 {sc : am_S} {t : am_H}   {s : am_Z} {r : Nat ⊕ (Int32 × am_Z)} (hF : fz_sh_type_11 s = some r) : am_go sc 6 (am_ev sc 5) 92 (zz_hC s t) (11, [none, none, none, none], [], zz_hC s t, false) (zz_el (fun x => ((.inr ((zz_hC s t)).length, (zz_hC s t) ++ [.inl (x, [])], false) : am_R)) (fun p => ((.inl (some (.int p.1)), zz_hC p.2 t, true) : am_R)) r) := by
  unfold fz_sh_type_11 at hF
  cases hF
  exact am_go.thr hcd_sh_type rfl rfl ⟨rfl, by decide, by decide, by decide, rfl, rfl, am_le8 rfl, rfl, rfl, rfl⟩
def fz_sh_type (s : am_Z) (x1 : Int64) (x3 : Int32) : Option (Nat ⊕ (Int32 × am_Z)) :=
  if x3 < (1 : Int32) then
    fz_sh_type_11 s
  else
  if x3 ≤ (8 : Int32) then
    if ((s.1 3) + x3) ≤ (400 : Int32) then
      (fz_by_putBig s x1 x3).bind fun q1 =>
      some (.inr ((q1.1 3), q1))
    else
    some (.inl 10)
  else
  fz_sh_type_11 s
theorem tz_sh_type {sc : am_S} {t : am_H} {s : am_Z} {x1 : Int64} {x3 : Int32} {r : Nat ⊕ (Int32 × am_Z)} (hF : fz_sh_type s x1 x3 = some r) : am_ev sc 6 92 [.ref 0, .long x1, .int x3] (zz_hC s t) (zz_el (fun x => ((.inr ((zz_hC s t)).length, (zz_hC s t) ++ [.inl (x, [])], false) : am_R)) (fun p => ((.inl (some (.int p.1)), zz_hC p.2 t, true) : am_R)) r) := by
  unfold fz_sh_type at hF
  refine am_ev.of false rfl ?_
  show am_go sc _ _ _ _ (0, [some (.ref 0), some (.long x1), none, some (.int x3)], [], zz_hC s t, false) _
  refine am_go.blk hcd_sh_type 3 (g := (bif decide (x3 < (1 : Int32)) then 11 else 5, [some (.ref 0), some (.long x1), none, some (.int x3)], [], zz_hC s t, false)) rfl ?_
  refine am_go.br (fun hP => ?_) (fun hP => ?_)
  · replace hF := (if_pos hP).symm.trans hF
    refine am_go.fgl [none, none, none, none] trivial ?_
    exact tz_sh_type_11  hF
  · replace hF := (if_neg hP).symm.trans hF
    refine am_go.blk hcd_sh_type 3 (g := (bif decide (x3 ≤ (8 : Int32)) then 21 else 11, [some (.ref 0), some (.long x1), none, some (.int x3)], [], zz_hC s t, false)) rfl ?_
    refine am_go.br (fun hP => ?_) (fun hP => ?_)
    · replace hF := (if_pos hP).symm.trans hF
      refine am_go.blk hcd_sh_type 7 (g := (bif decide (((s.1 3) + x3) ≤ (400 : Int32)) then 46 else 36, [some (.ref 0), some (.long x1), none, some (.int x3)], [], zz_hC s t, false)) rfl ?_
      refine am_go.br (fun hP => ?_) (fun hP => ?_)
      · replace hF := (if_pos hP).symm.trans hF
        refine am_go.blk hcd_sh_type 4 (g := (52, [some (.ref 0), some (.long x1), none, some (.int x3)], [.int x3, .long x1, .ref 3], zz_hC s t, false)) rfl ?_
        obtain ⟨q1, hq1, hF⟩ := am_bd hF
        refine am_go.call hcd_sh_type rfl rfl rfl rfl (am_le8 rfl) (am_ev.le (by decide) (tz_by_putBig (t := t) hq1)) ?_
        refine am_go.blk hcd_sh_type 3 (g := (62, [some (.ref 0), some (.long x1), none, some (.int x3)], [.int (q1.1 3)], zz_hC q1 t, true)) rfl ?_
        cases hF
        exact am_go.ret hcd_sh_type rfl rfl ⟨rfl, rfl, (fun h => by cases h), Or.inl rfl, rfl⟩
      · replace hF := (if_neg hP).symm.trans hF
        cases hF
        exact am_go.thr hcd_sh_type rfl rfl ⟨rfl, by decide, by decide, by decide, rfl, rfl, am_le8 rfl, rfl, rfl, rfl⟩
    · replace hF := (if_neg hP).symm.trans hF
      refine am_go.fgl [none, none, none, none] trivial ?_
      exact tz_sh_type_11  hF
theorem hcd_sh_poke : am_code 91 = am_c_sh_poke := rfl
def fz_sh_poke_15  (s : am_Z) : Option (Nat ⊕ (am_Z)) :=
  some (.inl 11)
theorem tz_sh_poke_15 {sc : am_S} {t : am_H}   {s : am_Z} {r : Nat ⊕ (am_Z)} (hF : fz_sh_poke_15 s = some r) : am_go sc 6 (am_ev sc 5) 91 (zz_hC s t) (15, [none, none, none], [], zz_hC s t, false) (zz_el (fun x => ((.inr ((zz_hC s t)).length, (zz_hC s t) ++ [.inl (x, [])], false) : am_R)) (fun p => ((.inl (none), zz_hC p t, true) : am_R)) r) := by
  unfold fz_sh_poke_15 at hF
  cases hF
  exact am_go.thr hcd_sh_poke rfl rfl ⟨rfl, by decide, by decide, by decide, rfl, rfl, am_le8 rfl, rfl, rfl, rfl⟩
def fz_sh_poke_36  (s : am_Z) : Option (Nat ⊕ (am_Z)) :=
  some (.inl 9)
theorem tz_sh_poke_36 {sc : am_S} {t : am_H}   {s : am_Z} {r : Nat ⊕ (am_Z)} (hF : fz_sh_poke_36 s = some r) : am_go sc 6 (am_ev sc 5) 91 (zz_hC s t) (36, [none, none, none], [], zz_hC s t, false) (zz_el (fun x => ((.inr ((zz_hC s t)).length, (zz_hC s t) ++ [.inl (x, [])], false) : am_R)) (fun p => ((.inl (none), zz_hC p t, true) : am_R)) r) := by
  unfold fz_sh_poke_36 at hF
  cases hF
  exact am_go.thr hcd_sh_poke rfl rfl ⟨rfl, by decide, by decide, by decide, rfl, rfl, am_le8 rfl, rfl, rfl, rfl⟩
def fz_sh_poke (s : am_Z) (x1 : Int32) (x2 : Int32) : Option (Nat ⊕ (am_Z)) :=
  if x1 < 0 then
    fz_sh_poke_15 s
  else
  if x1 < (s.1 3) then
    if x2 < 0 then
      fz_sh_poke_36 s
    else
    if x2 ≤ (255 : Int32) then
      if x1 < 0 ∨ 400 ≤ Int32.toNatClampNeg x1 then none else
      some (.inr (zz_r s 1 (upd (s.2.2 1) (Int32.toNatClampNeg x1) x2)))
    else
    fz_sh_poke_36 s
  else
  fz_sh_poke_15 s
theorem tz_sh_poke {sc : am_S} {t : am_H} {s : am_Z} {x1 : Int32} {x2 : Int32} {r : Nat ⊕ (am_Z)} (hF : fz_sh_poke s x1 x2 = some r) : am_ev sc 6 91 [.ref 0, .int x1, .int x2] (zz_hC s t) (zz_el (fun x => ((.inr ((zz_hC s t)).length, (zz_hC s t) ++ [.inl (x, [])], false) : am_R)) (fun p => ((.inl (none), zz_hC p t, true) : am_R)) r) := by
  unfold fz_sh_poke at hF
  refine am_ev.of false rfl ?_
  show am_go sc _ _ _ _ (0, [some (.ref 0), some (.int x1), some (.int x2)], [], zz_hC s t, false) _
  refine am_go.blk hcd_sh_poke 2 (g := (bif decide (x1 < 0) then 15 else 4, [some (.ref 0), some (.int x1), some (.int x2)], [], zz_hC s t, false)) rfl ?_
  refine am_go.br (fun hP => ?_) (fun hP => ?_)
  · replace hF := (if_pos hP).symm.trans hF
    refine am_go.fgl [none, none, none] trivial ?_
    exact tz_sh_poke_15  hF
  · replace hF := (if_neg hP).symm.trans hF
    refine am_go.blk hcd_sh_poke 5 (g := (bif decide (x1 < (s.1 3)) then 25 else 15, [some (.ref 0), some (.int x1), some (.int x2)], [], zz_hC s t, false)) rfl ?_
    refine am_go.br (fun hP => ?_) (fun hP => ?_)
    · replace hF := (if_pos hP).symm.trans hF
      refine am_go.blk hcd_sh_poke 2 (g := (bif decide (x2 < 0) then 36 else 29, [some (.ref 0), some (.int x1), some (.int x2)], [], zz_hC s t, false)) rfl ?_
      refine am_go.br (fun hP => ?_) (fun hP => ?_)
      · replace hF := (if_pos hP).symm.trans hF
        refine am_go.fgl [none, none, none] trivial ?_
        exact tz_sh_poke_36  hF
      · replace hF := (if_neg hP).symm.trans hF
        refine am_go.blk hcd_sh_poke 3 (g := (bif decide (x2 ≤ (255 : Int32)) then 46 else 36, [some (.ref 0), some (.int x1), some (.int x2)], [], zz_hC s t, false)) rfl ?_
        refine am_go.br (fun hP => ?_) (fun hP => ?_)
        · replace hF := (if_pos hP).symm.trans hF
          refine am_go.blk hcd_sh_poke 5 (g := (55, [some (.ref 0), some (.int x1), some (.int x2)], [.int x2, .int x1, .ref 4], zz_hC s t, false)) rfl ?_
          obtain ⟨hi1, hF⟩ := am_ng hF
          refine am_go.iast hcd_sh_poke rfl rfl hi1 ?_
          cases hF
          exact am_go.ret hcd_sh_poke rfl rfl ⟨rfl, rfl, (fun h => by cases h), rfl, rfl⟩
        · replace hF := (if_neg hP).symm.trans hF
          refine am_go.fgl [none, none, none] trivial ?_
          exact tz_sh_poke_36  hF
    · replace hF := (if_neg hP).symm.trans hF
      refine am_go.fgl [none, none, none] trivial ?_
      exact tz_sh_poke_15  hF
theorem hcd_sh_byteAt : am_code 90 = am_c_sh_byteAt := rfl
def fz_sh_byteAt_15 (s : am_Z)  : Option (Nat ⊕ (Int32)) :=
  some (.inl 11)
theorem tz_sh_byteAt_15 {sc : am_S} {t : am_H} {s : am_Z}   {r : Nat ⊕ (Int32)} (hF : fz_sh_byteAt_15 s = some r) : am_go sc 6 (am_ev sc 5) 90 (zz_hC s t) (15, [none, none], [], zz_hC s t, false) (zz_el (fun x => ((.inr ((zz_hC s t)).length, (zz_hC s t) ++ [.inl (x, [])], false) : am_R)) (fun p => ((.inl (some (.int p)), zz_hC s t, false) : am_R)) r) := by
  unfold fz_sh_byteAt_15 at hF
  cases hF
  exact am_go.thr hcd_sh_byteAt rfl rfl ⟨rfl, by decide, by decide, by decide, rfl, rfl, am_le8 rfl, rfl, rfl, rfl⟩
def fz_sh_byteAt (s : am_Z) (x1 : Int32) : Option (Nat ⊕ (Int32)) :=
  if x1 < 0 then
    fz_sh_byteAt_15 s
  else
  if x1 < (s.1 3) then
    if x1 < 0 ∨ 400 ≤ Int32.toNatClampNeg x1 then none else
    some (.inr ((s.2.2 1) (Int32.toNatClampNeg x1)))
  else
  fz_sh_byteAt_15 s
theorem tz_sh_byteAt {sc : am_S} {t : am_H} {s : am_Z} {x1 : Int32} {r : Nat ⊕ (Int32)} (hF : fz_sh_byteAt s x1 = some r) : am_ev sc 6 90 [.ref 0, .int x1] (zz_hC s t) (zz_el (fun x => ((.inr ((zz_hC s t)).length, (zz_hC s t) ++ [.inl (x, [])], false) : am_R)) (fun p => ((.inl (some (.int p)), zz_hC s t, false) : am_R)) r) := by
  unfold fz_sh_byteAt at hF
  refine am_ev.of false rfl ?_
  show am_go sc _ _ _ _ (0, [some (.ref 0), some (.int x1)], [], zz_hC s t, false) _
  refine am_go.blk hcd_sh_byteAt 2 (g := (bif decide (x1 < 0) then 15 else 4, [some (.ref 0), some (.int x1)], [], zz_hC s t, false)) rfl ?_
  refine am_go.br (fun hP => ?_) (fun hP => ?_)
  · replace hF := (if_pos hP).symm.trans hF
    refine am_go.fgl [none, none] trivial ?_
    exact tz_sh_byteAt_15  hF
  · replace hF := (if_neg hP).symm.trans hF
    refine am_go.blk hcd_sh_byteAt 5 (g := (bif decide (x1 < (s.1 3)) then 25 else 15, [some (.ref 0), some (.int x1)], [], zz_hC s t, false)) rfl ?_
    refine am_go.br (fun hP => ?_) (fun hP => ?_)
    · replace hF := (if_pos hP).symm.trans hF
      refine am_go.blk hcd_sh_byteAt 4 (g := (33, [some (.ref 0), some (.int x1)], [.int x1, .ref 4], zz_hC s t, false)) rfl ?_
      obtain ⟨hi1, hF⟩ := am_ng hF
      refine am_go.iald hcd_sh_byteAt rfl rfl hi1 ?_
      cases hF
      exact am_go.ret hcd_sh_byteAt rfl rfl ⟨rfl, rfl, (fun _ => rfl), Or.inl rfl, rfl⟩
    · replace hF := (if_neg hP).symm.trans hF
      refine am_go.fgl [none, none] trivial ?_
      exact tz_sh_byteAt_15  hF
theorem hcd_sh_size : am_code 89 = am_c_sh_size := rfl
def fz_sh_size (s : am_Z) : Option (Int32) :=
  some (s.1 3)
theorem tz_sh_size {sc : am_S} {t : am_H} {s : am_Z} {r : Int32} (hF : fz_sh_size s = some r) : am_ev sc 1 89 [.ref 0] (zz_hC s t) ((.inl (some (.int r)), zz_hC s t, false) : am_R) := by
  unfold fz_sh_size at hF
  refine am_ev.of false rfl ?_
  show am_go sc _ _ _ _ (0, [some (.ref 0)], [], zz_hC s t, false) _
  refine am_go.blk hcd_sh_size 3 (g := (7, [some (.ref 0)], [.int (s.1 3)], zz_hC s t, false)) rfl ?_
  cases hF
  exact am_go.ret hcd_sh_size rfl rfl ⟨rfl, rfl, (fun _ => rfl), Or.inl rfl, rfl⟩
theorem hcd_sh_form : am_code 88 = am_c_sh_form := rfl
def fz_sh_form (s : am_Z) : Option (Nat ⊕ (Int32)) :=
  if ¬ (s.1 0) = (-1 : Int32) then
    some (.inr (s.1 0))
  else
  some (.inl 10)
theorem tz_sh_form {sc : am_S} {t : am_H} {s : am_Z} {r : Nat ⊕ (Int32)} (hF : fz_sh_form s = some r) : am_ev sc 6 88 [.ref 0] (zz_hC s t) (zz_el (fun x => ((.inr ((zz_hC s t)).length, (zz_hC s t) ++ [.inl (x, [])], false) : am_R)) (fun p => ((.inl (some (.int p)), zz_hC s t, false) : am_R)) r) := by
  unfold fz_sh_form at hF
  refine am_ev.of false rfl ?_
  show am_go sc _ _ _ _ (0, [some (.ref 0)], [], zz_hC s t, false) _
  refine am_go.blk hcd_sh_form 4 (g := (bif decide (¬ (s.1 0) = (-1 : Int32)) then 18 else 8, [some (.ref 0)], [], zz_hC s t, false)) rfl ?_
  refine am_go.br (fun hP => ?_) (fun hP => ?_)
  · replace hF := (if_pos hP).symm.trans hF
    refine am_go.blk hcd_sh_form 2 (g := (22, [some (.ref 0)], [.int (s.1 0)], zz_hC s t, false)) rfl ?_
    cases hF
    exact am_go.ret hcd_sh_form rfl rfl ⟨rfl, rfl, (fun _ => rfl), Or.inl rfl, rfl⟩
  · replace hF := (if_neg hP).symm.trans hF
    cases hF
    exact am_go.thr hcd_sh_form rfl rfl ⟨rfl, by decide, by decide, by decide, rfl, rfl, am_le8 rfl, rfl, rfl, rfl⟩
theorem hcd_rd_takeId : am_code 60 = am_c_rd_takeId := rfl
def fz_rd_takeId (s : am_Z) (x1 : Int32) : Option (Int32 × am_Z) :=
  (fz_by_has s (s.1 14) (4 : Int32)).bind fun q1 =>
  if q1 = 0 then
    some ((0 : Int32), s)
  else
  (fz_by_idAt s (s.1 14)).bind fun q2 =>
  if q2 = x1 then
    some ((1 : Int32), (zz_i s 14 ((s.1 14) + (4 : Int32))))
  else
  some ((0 : Int32), s)
theorem tz_rd_takeId {sc : am_S} {t : am_H} {s : am_Z} {x1 : Int32} {r : Int32 × am_Z} (hF : fz_rd_takeId s x1 = some r) : am_ev sc 4 60 [.ref 10, .int x1] (zz_hC s t) ((.inl (some (.int r.1)), zz_hC r.2 t, true) : am_R) := by
  unfold fz_rd_takeId at hF
  refine am_ev.of true rfl ?_
  show am_go sc _ _ _ _ (0, [some (.ref 10), some (.int x1)], [], zz_hC s t, true) _
  refine am_go.blk hcd_rd_takeId 5 (g := (9, [some (.ref 10), some (.int x1)], [.int (4 : Int32), .int (s.1 14), .ref 3], zz_hC s t, true)) rfl ?_
  obtain ⟨q1, hq1, hF⟩ := am_bd hF
  refine am_go.call hcd_rd_takeId rfl rfl rfl rfl (am_le8 rfl) (am_ev.le (by decide) (tz_by_has (t := t) hq1)) ?_
  refine am_go.blk hcd_rd_takeId 1 (g := (bif decide (q1 = 0) then 30 else 15, [some (.ref 10), some (.int x1)], [], zz_hC s t, true)) rfl ?_
  refine am_go.br (fun hP => ?_) (fun hP => ?_)
  · replace hF := (if_pos hP).symm.trans hF
    refine am_go.blk hcd_rd_takeId 1 (g := (31, [some (.ref 10), some (.int x1)], [.int (0 : Int32)], zz_hC s t, true)) rfl ?_
    cases hF
    exact am_go.ret hcd_rd_takeId rfl rfl ⟨rfl, rfl, (fun h => by cases h), Or.inr ⟨rfl, Or.inl rfl⟩, rfl⟩
  · replace hF := (if_neg hP).symm.trans hF
    refine am_go.blk hcd_rd_takeId 4 (g := (23, [some (.ref 10), some (.int x1)], [.int (s.1 14), .ref 3], zz_hC s t, true)) rfl ?_
    obtain ⟨q2, hq2, hF⟩ := am_bd hF
    refine am_go.call hcd_rd_takeId rfl rfl rfl rfl (am_le8 rfl) (am_ev.le (by decide) (tz_by_idAt (t := t) hq2)) ?_
    refine am_go.blk hcd_rd_takeId 2 (g := (bif decide (q2 = x1) then 32 else 30, [some (.ref 10), some (.int x1)], [], zz_hC s t, true)) rfl ?_
    refine am_go.br (fun hP => ?_) (fun hP => ?_)
    · replace hF := (if_pos hP).symm.trans hF
      refine am_go.blk hcd_rd_takeId 7 (g := (43, [some (.ref 10), some (.int x1)], [.int (1 : Int32)], zz_hC (zz_i s 14 ((s.1 14) + (4 : Int32))) t, true)) rfl ?_
      cases hF
      exact am_go.ret hcd_rd_takeId rfl rfl ⟨rfl, rfl, (fun h => by cases h), Or.inr ⟨rfl, Or.inr rfl⟩, rfl⟩
    · replace hF := (if_neg hP).symm.trans hF
      refine am_go.blk hcd_rd_takeId 1 (g := (31, [some (.ref 10), some (.int x1)], [.int (0 : Int32)], zz_hC s t, true)) rfl ?_
      cases hF
      exact am_go.ret hcd_rd_takeId rfl rfl ⟨rfl, rfl, (fun h => by cases h), Or.inr ⟨rfl, Or.inl rfl⟩, rfl⟩
theorem hcd_rd_take : am_code 63 = am_c_rd_take := rfl
def fz_rd_take (s : am_Z) (x1 : Int32) (x2 : Int64) : Option (Int32 × am_Z) :=
  (fz_by_has s (s.1 14) x1).bind fun q1 =>
  if q1 = 0 then
    some ((0 : Int32), s)
  else
  (fz_by_numberAt s (s.1 14) x1 (s.1 15)).bind fun q2 =>
  if (lg_cmp q2 x2) = 0 then
    some ((1 : Int32), (zz_i s 14 ((s.1 14) + x1)))
  else
  some ((0 : Int32), s)
theorem tz_rd_take {sc : am_S} {t : am_H} {s : am_Z} {x1 : Int32} {x2 : Int64} {r : Int32 × am_Z} (hF : fz_rd_take s x1 x2 = some r) : am_ev sc 3 63 [.ref 10, .int x1, .long x2] (zz_hC s t) ((.inl (some (.int r.1)), zz_hC r.2 t, true) : am_R) := by
  unfold fz_rd_take at hF
  refine am_ev.of true rfl ?_
  show am_go sc _ _ _ _ (0, [some (.ref 10), some (.int x1), some (.long x2), none], [], zz_hC s t, true) _
  refine am_go.blk hcd_rd_take 5 (g := (9, [some (.ref 10), some (.int x1), some (.long x2), none], [.int x1, .int (s.1 14), .ref 3], zz_hC s t, true)) rfl ?_
  obtain ⟨q1, hq1, hF⟩ := am_bd hF
  refine am_go.call hcd_rd_take rfl rfl rfl rfl (am_le8 rfl) (am_ev.le (by decide) (tz_by_has (t := t) hq1)) ?_
  refine am_go.blk hcd_rd_take 1 (g := (bif decide (q1 = 0) then 36 else 15, [some (.ref 10), some (.int x1), some (.long x2), none], [], zz_hC s t, true)) rfl ?_
  refine am_go.br (fun hP => ?_) (fun hP => ?_)
  · replace hF := (if_pos hP).symm.trans hF
    refine am_go.blk hcd_rd_take 1 (g := (37, [some (.ref 10), some (.int x1), some (.long x2), none], [.int (0 : Int32)], zz_hC s t, true)) rfl ?_
    cases hF
    exact am_go.ret hcd_rd_take rfl rfl ⟨rfl, rfl, (fun h => by cases h), Or.inr ⟨rfl, Or.inl rfl⟩, rfl⟩
  · replace hF := (if_neg hP).symm.trans hF
    refine am_go.blk hcd_rd_take 7 (g := (28, [some (.ref 10), some (.int x1), some (.long x2), none], [.int (s.1 15), .int x1, .int (s.1 14), .ref 3], zz_hC s t, true)) rfl ?_
    obtain ⟨q2, hq2, hF⟩ := am_bd hF
    refine am_go.call hcd_rd_take rfl rfl rfl rfl (am_le8 rfl) (am_ev.le (by decide) (tz_by_numberAt (t := t) hq2)) ?_
    refine am_go.blk hcd_rd_take 3 (g := (bif decide ((lg_cmp q2 x2) = 0) then 38 else 36, [some (.ref 10), some (.int x1), some (.long x2), none], [], zz_hC s t, true)) rfl ?_
    refine am_go.br (fun hP => ?_) (fun hP => ?_)
    · replace hF := (if_pos hP).symm.trans hF
      refine am_go.blk hcd_rd_take 7 (g := (49, [some (.ref 10), some (.int x1), some (.long x2), none], [.int (1 : Int32)], zz_hC (zz_i s 14 ((s.1 14) + x1)) t, true)) rfl ?_
      cases hF
      exact am_go.ret hcd_rd_take rfl rfl ⟨rfl, rfl, (fun h => by cases h), Or.inr ⟨rfl, Or.inr rfl⟩, rfl⟩
    · replace hF := (if_neg hP).symm.trans hF
      refine am_go.blk hcd_rd_take 1 (g := (37, [some (.ref 10), some (.int x1), some (.long x2), none], [.int (0 : Int32)], zz_hC s t, true)) rfl ?_
      cases hF
      exact am_go.ret hcd_rd_take rfl rfl ⟨rfl, rfl, (fun h => by cases h), Or.inr ⟨rfl, Or.inl rfl⟩, rfl⟩
theorem hcd_rd_takeHead : am_code 40 = am_c_rd_takeHead := rfl
def fz_rd_takeHead_105  (s : am_Z) : Option (Int32 × am_Z) :=
  some ((0 : Int32), s)
theorem tz_rd_takeHead_105 {sc : am_S} {t : am_H} {h0 : am_H}   {s : am_Z} {r : Int32 × am_Z} (hF : fz_rd_takeHead_105 s = some r) : am_go sc 5 (am_ev sc 4) 40 h0 (105, [none], [], zz_hC s t, true) ((.inl (some (.int r.1)), zz_hC r.2 t, true) : am_R) := by
  unfold fz_rd_takeHead_105 at hF
  refine am_go.blk hcd_rd_takeHead 1 (g := (106, [none], [.int (0 : Int32)], zz_hC s t, true)) rfl ?_
  cases hF
  exact am_go.ret hcd_rd_takeHead rfl rfl ⟨rfl, rfl, (fun h => by cases h), Or.inr ⟨rfl, Or.inl rfl⟩, rfl⟩
def fz_rd_takeHead_95  (y0 : Int32) (s : am_Z) : Option (Int32 × am_Z) :=
  (fz_rd_takeId s y0).bind fun q1 =>
  if q1.1 = 0 then
    fz_rd_takeHead_105 q1.2
  else
  some ((1 : Int32), q1.2)
theorem tz_rd_takeHead_95 {sc : am_S} {t : am_H} {h0 : am_H}   {y0 : Int32} {s : am_Z} {r : Int32 × am_Z} (hF : fz_rd_takeHead_95 y0 s = some r) : am_go sc 5 (am_ev sc 4) 40 h0 (95, [none], [.int y0, .ref 10], zz_hC s t, true) ((.inl (some (.int r.1)), zz_hC r.2 t, true) : am_R) := by
  unfold fz_rd_takeHead_95 at hF
  obtain ⟨q1, hq1, hF⟩ := am_bd hF
  refine am_go.call hcd_rd_takeHead rfl rfl rfl rfl (am_le8 rfl) (am_ev.le (by decide) (tz_rd_takeId (t := t) hq1)) ?_
  refine am_go.blk hcd_rd_takeHead 1 (g := (bif decide (q1.1 = 0) then 105 else 101, [none], [], zz_hC q1.2 t, true)) rfl ?_
  refine am_go.br (fun hP => ?_) (fun hP => ?_)
  · replace hF := (if_pos hP).symm.trans hF
    exact tz_rd_takeHead_105  hF
  · replace hF := (if_neg hP).symm.trans hF
    refine am_go.blk hcd_rd_takeHead 2 (g := (106, [none], [.int (1 : Int32)], zz_hC q1.2 t, true)) rfl ?_
    cases hF
    exact am_go.ret hcd_rd_takeHead rfl rfl ⟨rfl, rfl, (fun h => by cases h), Or.inr ⟨rfl, Or.inr rfl⟩, rfl⟩
def fz_rd_takeHead_55  (y0 : Int32) (s : am_Z) : Option (Int32 × am_Z) :=
  (fz_rd_takeId s y0).bind fun q1 =>
  if q1.1 = 0 then
    fz_rd_takeHead_105 q1.2
  else
  (fz_rd_take q1.2 (4 : Int32) (Int32.toInt64 ((q1.2.1 3) - (8 : Int32)))).bind fun q2 =>
  if q2.1 = 0 then
    fz_rd_takeHead_105 q2.2
  else
  if (q2.2.1 15) = 0 then
    fz_rd_takeHead_95 (1463899717 : Int32) q2.2
  else
  fz_rd_takeHead_95 (1095321158 : Int32) q2.2
theorem tz_rd_takeHead_55 {sc : am_S} {t : am_H} {h0 : am_H}   {y0 : Int32} {s : am_Z} {r : Int32 × am_Z} (hF : fz_rd_takeHead_55 y0 s = some r) : am_go sc 5 (am_ev sc 4) 40 h0 (55, [some (.ref 10)], [.int y0, .ref 10], zz_hC s t, true) ((.inl (some (.int r.1)), zz_hC r.2 t, true) : am_R) := by
  unfold fz_rd_takeHead_55 at hF
  obtain ⟨q1, hq1, hF⟩ := am_bd hF
  refine am_go.call hcd_rd_takeHead rfl rfl rfl rfl (am_le8 rfl) (am_ev.le (by decide) (tz_rd_takeId (t := t) hq1)) ?_
  refine am_go.blk hcd_rd_takeHead 1 (g := (bif decide (q1.1 = 0) then 105 else 61, [some (.ref 10)], [], zz_hC q1.2 t, true)) rfl ?_
  refine am_go.br (fun hP => ?_) (fun hP => ?_)
  · replace hF := (if_pos hP).symm.trans hF
    refine am_go.fgl [none] trivial ?_
    exact tz_rd_takeHead_105  hF
  · replace hF := (if_neg hP).symm.trans hF
    refine am_go.blk hcd_rd_takeHead 8 (g := (74, [some (.ref 10)], [.long (Int32.toInt64 ((q1.2.1 3) - (8 : Int32))), .int (4 : Int32), .ref 10], zz_hC q1.2 t, true)) rfl ?_
    obtain ⟨q2, hq2, hF⟩ := am_bd hF
    refine am_go.call hcd_rd_takeHead rfl rfl rfl rfl (am_le8 rfl) (am_ev.le (by decide) (tz_rd_take (t := t) hq2)) ?_
    refine am_go.blk hcd_rd_takeHead 1 (g := (bif decide (q2.1 = 0) then 105 else 80, [some (.ref 10)], [], zz_hC q2.2 t, true)) rfl ?_
    refine am_go.br (fun hP => ?_) (fun hP => ?_)
    · replace hF := (if_pos hP).symm.trans hF
      refine am_go.fgl [none] trivial ?_
      exact tz_rd_takeHead_105  hF
    · replace hF := (if_neg hP).symm.trans hF
      refine am_go.blk hcd_rd_takeHead 4 (g := (bif decide ((q2.2.1 15) = 0) then 93 else 88, [some (.ref 10)], [.ref 10], zz_hC q2.2 t, true)) rfl ?_
      refine am_go.br (fun hP => ?_) (fun hP => ?_)
      · replace hF := (if_pos hP).symm.trans hF
        refine am_go.blk hcd_rd_takeHead 1 (g := (95, [some (.ref 10)], [.int (1463899717 : Int32), .ref 10], zz_hC q2.2 t, true)) rfl ?_
        refine am_go.fgl [none] trivial ?_
        exact tz_rd_takeHead_95  hF
      · replace hF := (if_neg hP).symm.trans hF
        refine am_go.blk hcd_rd_takeHead 2 (g := (95, [some (.ref 10)], [.int (1095321158 : Int32), .ref 10], zz_hC q2.2 t, true)) rfl ?_
        refine am_go.fgl [none] trivial ?_
        exact tz_rd_takeHead_95  hF
def fz_rd_takeHead_37  (y0 : Int32) (s : am_Z) : Option (Int32 × am_Z) :=
  if ¬ (y0 = 0 ∨ y0 = 1) then none else
  if y0 = 0 then
    fz_rd_takeHead_55 (1380533830 : Int32) (zz_i s 15 y0)
  else
  fz_rd_takeHead_55 (1179603533 : Int32) (zz_i s 15 y0)
theorem tz_rd_takeHead_37 {sc : am_S} {t : am_H} {h0 : am_H}   {y0 : Int32} {s : am_Z} {r : Int32 × am_Z} (hF : fz_rd_takeHead_37 y0 s = some r) : am_go sc 5 (am_ev sc 4) 40 h0 (37, [some (.ref 10)], [.int y0, .ref 10], zz_hC s t, true) ((.inl (some (.int r.1)), zz_hC r.2 t, true) : am_R) := by
  unfold fz_rd_takeHead_37 at hF
  obtain ⟨hb1, hF⟩ := am_ng hF
  refine am_go.putb hcd_rd_takeHead rfl rfl rfl rfl rfl hb1 ?_
  refine am_go.blk hcd_rd_takeHead 4 (g := (bif decide (y0 = 0) then 53 else 48, [some (.ref 10)], [.ref 10], zz_hC (zz_i s 15 y0) t, true)) rfl ?_
  refine am_go.br (fun hP => ?_) (fun hP => ?_)
  · replace hF := (if_pos hP).symm.trans hF
    refine am_go.blk hcd_rd_takeHead 1 (g := (55, [some (.ref 10)], [.int (1380533830 : Int32), .ref 10], zz_hC (zz_i s 15 y0) t, true)) rfl ?_
    exact tz_rd_takeHead_55  hF
  · replace hF := (if_neg hP).symm.trans hF
    refine am_go.blk hcd_rd_takeHead 2 (g := (55, [some (.ref 10)], [.int (1179603533 : Int32), .ref 10], zz_hC (zz_i s 15 y0) t, true)) rfl ?_
    exact tz_rd_takeHead_55  hF
def fz_rd_takeHead_36  (s : am_Z) : Option (Int32 × am_Z) :=
  fz_rd_takeHead_37 (0 : Int32) s
theorem tz_rd_takeHead_36 {sc : am_S} {t : am_H} {h0 : am_H}   {s : am_Z} {r : Int32 × am_Z} (hF : fz_rd_takeHead_36 s = some r) : am_go sc 5 (am_ev sc 4) 40 h0 (36, [some (.ref 10)], [.ref 10], zz_hC s t, true) ((.inl (some (.int r.1)), zz_hC r.2 t, true) : am_R) := by
  unfold fz_rd_takeHead_36 at hF
  refine am_go.blk hcd_rd_takeHead 1 (g := (37, [some (.ref 10)], [.int (0 : Int32), .ref 10], zz_hC s t, true)) rfl ?_
  exact tz_rd_takeHead_37  hF
def fz_rd_takeHead (s : am_Z) : Option (Int32 × am_Z) :=
  (fz_by_has s (s.1 14) (4 : Int32)).bind fun q1 =>
  if q1 = 0 then
    fz_rd_takeHead_36 s
  else
  (fz_by_idAt s (s.1 14)).bind fun q2 =>
  if ¬ q2 = (1179603533 : Int32) then
    fz_rd_takeHead_36 s
  else
  fz_rd_takeHead_37 (1 : Int32) s
theorem tz_rd_takeHead {sc : am_S} {t : am_H} {s : am_Z} {r : Int32 × am_Z} (hF : fz_rd_takeHead s = some r) : am_ev sc 5 40 [.ref 10] (zz_hC s t) ((.inl (some (.int r.1)), zz_hC r.2 t, true) : am_R) := by
  unfold fz_rd_takeHead at hF
  refine am_ev.of true rfl ?_
  show am_go sc _ _ _ _ (0, [some (.ref 10)], [], zz_hC s t, true) _
  refine am_go.blk hcd_rd_takeHead 6 (g := (10, [some (.ref 10)], [.int (4 : Int32), .int (s.1 14), .ref 3, .ref 10], zz_hC s t, true)) rfl ?_
  obtain ⟨q1, hq1, hF⟩ := am_bd hF
  refine am_go.call hcd_rd_takeHead rfl rfl rfl rfl (am_le8 rfl) (am_ev.le (by decide) (tz_by_has (t := t) hq1)) ?_
  refine am_go.blk hcd_rd_takeHead 1 (g := (bif decide (q1 = 0) then 36 else 16, [some (.ref 10)], [.ref 10], zz_hC s t, true)) rfl ?_
  refine am_go.br (fun hP => ?_) (fun hP => ?_)
  · replace hF := (if_pos hP).symm.trans hF
    exact tz_rd_takeHead_36  hF
  · replace hF := (if_neg hP).symm.trans hF
    refine am_go.blk hcd_rd_takeHead 4 (g := (24, [some (.ref 10)], [.int (s.1 14), .ref 3, .ref 10], zz_hC s t, true)) rfl ?_
    obtain ⟨q2, hq2, hF⟩ := am_bd hF
    refine am_go.call hcd_rd_takeHead rfl rfl rfl rfl (am_le8 rfl) (am_ev.le (by decide) (tz_by_idAt (t := t) hq2)) ?_
    refine am_go.blk hcd_rd_takeHead 2 (g := (bif decide (¬ q2 = (1179603533 : Int32)) then 36 else 32, [some (.ref 10)], [.ref 10], zz_hC s t, true)) rfl ?_
    refine am_go.br (fun hP => ?_) (fun hP => ?_)
    · replace hF := (if_pos hP).symm.trans hF
      exact tz_rd_takeHead_36  hF
    · replace hF := (if_neg hP).symm.trans hF
      refine am_go.blk hcd_rd_takeHead 2 (g := (37, [some (.ref 10)], [.int (1 : Int32), .ref 10], zz_hC s t, true)) rfl ?_
      exact tz_rd_takeHead_37  hF
theorem hcd_rd_isAtSamples : am_code 41 = am_c_rd_isAtSamples := rfl
def fz_rd_isAtSamples_47 (s : am_Z)  : Option (Int32) :=
  some (0 : Int32)
theorem tz_rd_isAtSamples_47 {sc : am_S} {t : am_H} {h0 : am_H} {s : am_Z}   {r : Int32} (hF : fz_rd_isAtSamples_47 s = some r) : am_go sc 4 (am_ev sc 3) 41 h0 (47, [none], [], zz_hC s t, false) ((.inl (some (.int r)), zz_hC s t, false) : am_R) := by
  unfold fz_rd_isAtSamples_47 at hF
  refine am_go.blk hcd_rd_isAtSamples 1 (g := (48, [none], [.int (0 : Int32)], zz_hC s t, false)) rfl ?_
  cases hF
  exact am_go.ret hcd_rd_isAtSamples rfl rfl ⟨rfl, rfl, (fun _ => rfl), Or.inr ⟨rfl, Or.inl rfl⟩, rfl⟩
def fz_rd_isAtSamples_40 (s : am_Z) (y0 : Int32) (y1 : Int32) : Option (Int32) :=
  if ¬ y1 = y0 then
    fz_rd_isAtSamples_47 s
  else
  some (1 : Int32)
theorem tz_rd_isAtSamples_40 {sc : am_S} {t : am_H} {h0 : am_H} {s : am_Z}  {y0 : Int32} {y1 : Int32} {r : Int32} (hF : fz_rd_isAtSamples_40 s y0 y1 = some r) : am_go sc 4 (am_ev sc 3) 41 h0 (40, [none], [.int y0, .int y1], zz_hC s t, false) ((.inl (some (.int r)), zz_hC s t, false) : am_R) := by
  unfold fz_rd_isAtSamples_40 at hF
  refine am_go.blk hcd_rd_isAtSamples 1 (g := (bif decide (¬ y1 = y0) then 47 else 43, [none], [], zz_hC s t, false)) rfl ?_
  refine am_go.br (fun hP => ?_) (fun hP => ?_)
  · replace hF := (if_pos hP).symm.trans hF
    exact tz_rd_isAtSamples_47  hF
  · replace hF := (if_neg hP).symm.trans hF
    refine am_go.blk hcd_rd_isAtSamples 2 (g := (48, [none], [.int (1 : Int32)], zz_hC s t, false)) rfl ?_
    cases hF
    exact am_go.ret hcd_rd_isAtSamples rfl rfl ⟨rfl, rfl, (fun _ => rfl), Or.inr ⟨rfl, Or.inr rfl⟩, rfl⟩
def fz_rd_isAtSamples (s : am_Z) : Option (Int32) :=
  (fz_by_has s (s.1 14) (4 : Int32)).bind fun q1 =>
  if q1 = 0 then
    fz_rd_isAtSamples_47 s
  else
  (fz_by_idAt s (s.1 14)).bind fun q2 =>
  if (s.1 15) = 0 then
    fz_rd_isAtSamples_40 s (1684108385 : Int32) q2
  else
  fz_rd_isAtSamples_40 s (1397968452 : Int32) q2
theorem tz_rd_isAtSamples {sc : am_S} {t : am_H} {s : am_Z} {r : Int32} (hF : fz_rd_isAtSamples s = some r) : am_ev sc 4 41 [.ref 10] (zz_hC s t) ((.inl (some (.int r)), zz_hC s t, false) : am_R) := by
  unfold fz_rd_isAtSamples at hF
  refine am_ev.of false rfl ?_
  show am_go sc _ _ _ _ (0, [some (.ref 10)], [], zz_hC s t, false) _
  refine am_go.blk hcd_rd_isAtSamples 5 (g := (9, [some (.ref 10)], [.int (4 : Int32), .int (s.1 14), .ref 3], zz_hC s t, false)) rfl ?_
  obtain ⟨q1, hq1, hF⟩ := am_bd hF
  refine am_go.call hcd_rd_isAtSamples rfl rfl rfl rfl (am_le8 rfl) (am_ev.le (by decide) (tz_by_has (t := t) hq1)) ?_
  refine am_go.blk hcd_rd_isAtSamples 1 (g := (bif decide (q1 = 0) then 47 else 15, [some (.ref 10)], [], zz_hC s t, false)) rfl ?_
  refine am_go.br (fun hP => ?_) (fun hP => ?_)
  · replace hF := (if_pos hP).symm.trans hF
    refine am_go.fgl [none] trivial ?_
    exact tz_rd_isAtSamples_47  hF
  · replace hF := (if_neg hP).symm.trans hF
    refine am_go.blk hcd_rd_isAtSamples 4 (g := (23, [some (.ref 10)], [.int (s.1 14), .ref 3], zz_hC s t, false)) rfl ?_
    obtain ⟨q2, hq2, hF⟩ := am_bd hF
    refine am_go.call hcd_rd_isAtSamples rfl rfl rfl rfl (am_le8 rfl) (am_ev.le (by decide) (tz_by_idAt (t := t) hq2)) ?_
    refine am_go.blk hcd_rd_isAtSamples 3 (g := (bif decide ((s.1 15) = 0) then 38 else 33, [some (.ref 10)], [.int q2], zz_hC s t, false)) rfl ?_
    refine am_go.br (fun hP => ?_) (fun hP => ?_)
    · replace hF := (if_pos hP).symm.trans hF
      refine am_go.blk hcd_rd_isAtSamples 1 (g := (40, [some (.ref 10)], [.int (1684108385 : Int32), .int q2], zz_hC s t, false)) rfl ?_
      refine am_go.fgl [none] trivial ?_
      exact tz_rd_isAtSamples_40  hF
    · replace hF := (if_neg hP).symm.trans hF
      refine am_go.blk hcd_rd_isAtSamples 2 (g := (40, [some (.ref 10)], [.int (1397968452 : Int32), .int q2], zz_hC s t, false)) rfl ?_
      refine am_go.fgl [none] trivial ?_
      exact tz_rd_isAtSamples_40  hF
theorem hcd_rd_takeSize : am_code 61 = am_c_rd_takeSize := rfl
def fz_rd_takeSize_54  (s : am_Z) : Option (Int32 × am_Z) :=
  some ((0 : Int32), s)
theorem tz_rd_takeSize_54 {sc : am_S} {t : am_H} {h0 : am_H}   {s : am_Z} {r : Int32 × am_Z} (hF : fz_rd_takeSize_54 s = some r) : am_go sc 4 (am_ev sc 3) 61 h0 (54, [none, none, none], [], zz_hC s t, true) ((.inl (some (.int r.1)), zz_hC r.2 t, true) : am_R) := by
  unfold fz_rd_takeSize_54 at hF
  refine am_go.blk hcd_rd_takeSize 1 (g := (55, [none, none, none], [.int (0 : Int32)], zz_hC s t, true)) rfl ?_
  cases hF
  exact am_go.ret hcd_rd_takeSize rfl rfl ⟨rfl, rfl, (fun h => by cases h), Or.inr ⟨rfl, Or.inl rfl⟩, rfl⟩
def fz_rd_takeSize (s : am_Z) (x1 : Int64) : Option (Int32 × am_Z) :=
  (fz_by_has s (s.1 14) (4 : Int32)).bind fun q1 =>
  if q1 = 0 then
    fz_rd_takeSize_54 s
  else
  if 0 < (lg_cmp (x1 + (x1 - x1 / (2 : Int64) * (2 : Int64))) (Int32.toInt64 (((s.1 3) - (s.1 14)) - (4 : Int32)))) then
    fz_rd_takeSize_54 s
  else
  (fz_rd_take s (4 : Int32) x1).bind fun q2 =>
  if q2.1 = 0 then
    fz_rd_takeSize_54 q2.2
  else
  some ((1 : Int32), q2.2)
theorem tz_rd_takeSize {sc : am_S} {t : am_H} {s : am_Z} {x1 : Int64} {r : Int32 × am_Z} (hF : fz_rd_takeSize s x1 = some r) : am_ev sc 4 61 [.ref 10, .long x1] (zz_hC s t) ((.inl (some (.int r.1)), zz_hC r.2 t, true) : am_R) := by
  unfold fz_rd_takeSize at hF
  refine am_ev.of true rfl ?_
  show am_go sc _ _ _ _ (0, [some (.ref 10), some (.long x1), none], [], zz_hC s t, true) _
  refine am_go.blk hcd_rd_takeSize 5 (g := (9, [some (.ref 10), some (.long x1), none], [.int (4 : Int32), .int (s.1 14), .ref 3], zz_hC s t, true)) rfl ?_
  obtain ⟨q1, hq1, hF⟩ := am_bd hF
  refine am_go.call hcd_rd_takeSize rfl rfl rfl rfl (am_le8 rfl) (am_ev.le (by decide) (tz_by_has (t := t) hq1)) ?_
  refine am_go.blk hcd_rd_takeSize 1 (g := (bif decide (q1 = 0) then 54 else 15, [some (.ref 10), some (.long x1), none], [], zz_hC s t, true)) rfl ?_
  refine am_go.br (fun hP => ?_) (fun hP => ?_)
  · replace hF := (if_pos hP).symm.trans hF
    refine am_go.fgl [none, none, none] trivial ?_
    exact tz_rd_takeSize_54  hF
  · replace hF := (if_neg hP).symm.trans hF
    refine am_go.blk hcd_rd_takeSize 3 (g := (20, [some (.ref 10), some (.long x1), none], [.long (2 : Int64), .long x1, .long x1], zz_hC s t, true)) rfl ?_
    refine am_go.lrm hcd_rd_takeSize rfl (by decide) ?_
    refine am_go.blk hcd_rd_takeSize 12 (g := (bif decide (0 < (lg_cmp (x1 + (x1 - x1 / (2 : Int64) * (2 : Int64))) (Int32.toInt64 (((s.1 3) - (s.1 14)) - (4 : Int32))))) then 54 else 41, [some (.ref 10), some (.long x1), none], [], zz_hC s t, true)) rfl ?_
    refine am_go.br (fun hP => ?_) (fun hP => ?_)
    · replace hF := (if_pos hP).symm.trans hF
      refine am_go.fgl [none, none, none] trivial ?_
      exact tz_rd_takeSize_54  hF
    · replace hF := (if_neg hP).symm.trans hF
      refine am_go.blk hcd_rd_takeSize 3 (g := (44, [some (.ref 10), some (.long x1), none], [.long x1, .int (4 : Int32), .ref 10], zz_hC s t, true)) rfl ?_
      obtain ⟨q2, hq2, hF⟩ := am_bd hF
      refine am_go.call hcd_rd_takeSize rfl rfl rfl rfl (am_le8 rfl) (am_ev.le (by decide) (tz_rd_take (t := t) hq2)) ?_
      refine am_go.blk hcd_rd_takeSize 1 (g := (bif decide (q2.1 = 0) then 54 else 50, [some (.ref 10), some (.long x1), none], [], zz_hC q2.2 t, true)) rfl ?_
      refine am_go.br (fun hP => ?_) (fun hP => ?_)
      · replace hF := (if_pos hP).symm.trans hF
        refine am_go.fgl [none, none, none] trivial ?_
        exact tz_rd_takeSize_54  hF
      · replace hF := (if_neg hP).symm.trans hF
        refine am_go.blk hcd_rd_takeSize 2 (g := (55, [some (.ref 10), some (.long x1), none], [.int (1 : Int32)], zz_hC q2.2 t, true)) rfl ?_
        cases hF
        exact am_go.ret hcd_rd_takeSize rfl rfl ⟨rfl, rfl, (fun h => by cases h), Or.inr ⟨rfl, Or.inr rfl⟩, rfl⟩
theorem hcd_rd_takeWithin : am_code 64 = am_c_rd_takeWithin := rfl
def fz_rd_takeWithin (s : am_Z) (x1 : Int32) (x2 : Int64) (x4 : Int64) : Option (Int32 × am_Z) :=
  (fz_by_has s (s.1 14) x1).bind fun q1 =>
  if ¬ q1 = 0 then
    (fz_by_numberAt s (s.1 14) x1 (s.1 15)).bind fun q2 =>
    if (lg_cmp q2 x2) < 0 then
      some ((0 : Int32), (zz_l s 0 q2))
    else
    if (lg_cmp q2 x4) ≤ 0 then
      some ((1 : Int32), (zz_i (zz_l s 0 q2) 14 ((s.1 14) + x1)))
    else
    some ((0 : Int32), (zz_l s 0 q2))
  else
  some ((0 : Int32), s)
theorem tz_rd_takeWithin {sc : am_S} {t : am_H} {s : am_Z} {x1 : Int32} {x2 : Int64} {x4 : Int64} {r : Int32 × am_Z} (hF : fz_rd_takeWithin s x1 x2 x4 = some r) : am_ev sc 3 64 [.ref 10, .int x1, .long x2, .long x4] (zz_hC s t) ((.inl (some (.int r.1)), zz_hC r.2 t, true) : am_R) := by
  unfold fz_rd_takeWithin at hF
  refine am_ev.of true rfl ?_
  show am_go sc _ _ _ _ (0, [some (.ref 10), some (.int x1), some (.long x2), none, some (.long x4), none], [], zz_hC s t, true) _
  refine am_go.blk hcd_rd_takeWithin 5 (g := (9, [some (.ref 10), some (.int x1), some (.long x2), none, some (.long x4), none], [.int x1, .int (s.1 14), .ref 3], zz_hC s t, true)) rfl ?_
  obtain ⟨q1, hq1, hF⟩ := am_bd hF
  refine am_go.call hcd_rd_takeWithin rfl rfl rfl rfl (am_le8 rfl) (am_ev.le (by decide) (tz_by_has (t := t) hq1)) ?_
  refine am_go.blk hcd_rd_takeWithin 1 (g := (bif decide (¬ q1 = 0) then 17 else 15, [some (.ref 10), some (.int x1), some (.long x2), none, some (.long x4), none], [], zz_hC s t, true)) rfl ?_
  refine am_go.br (fun hP => ?_) (fun hP => ?_)
  · replace hF := (if_pos hP).symm.trans hF
    refine am_go.blk hcd_rd_takeWithin 8 (g := (31, [some (.ref 10), some (.int x1), some (.long x2), none, some (.long x4), none], [.int (s.1 15), .int x1, .int (s.1 14), .ref 3, .ref 10], zz_hC s t, true)) rfl ?_
    obtain ⟨q2, hq2, hF⟩ := am_bd hF
    refine am_go.call hcd_rd_takeWithin rfl rfl rfl rfl (am_le8 rfl) (am_ev.le (by decide) (tz_by_numberAt (t := t) hq2)) ?_
    refine am_go.blk hcd_rd_takeWithin 6 (g := (bif decide ((lg_cmp q2 x2) < 0) then 56 else 46, [some (.ref 10), some (.int x1), some (.long x2), none, some (.long x4), none], [], zz_hC (zz_l s 0 q2) t, true)) rfl ?_
    refine am_go.br (fun hP => ?_) (fun hP => ?_)
    · replace hF := (if_pos hP).symm.trans hF
      refine am_go.blk hcd_rd_takeWithin 1 (g := (57, [some (.ref 10), some (.int x1), some (.long x2), none, some (.long x4), none], [.int (0 : Int32)], zz_hC (zz_l s 0 q2) t, true)) rfl ?_
      cases hF
      exact am_go.ret hcd_rd_takeWithin rfl rfl ⟨rfl, rfl, (fun h => by cases h), Or.inr ⟨rfl, Or.inl rfl⟩, rfl⟩
    · replace hF := (if_neg hP).symm.trans hF
      refine am_go.blk hcd_rd_takeWithin 5 (g := (bif decide ((lg_cmp q2 x4) ≤ 0) then 58 else 56, [some (.ref 10), some (.int x1), some (.long x2), none, some (.long x4), none], [], zz_hC (zz_l s 0 q2) t, true)) rfl ?_
      refine am_go.br (fun hP => ?_) (fun hP => ?_)
      · replace hF := (if_pos hP).symm.trans hF
        refine am_go.blk hcd_rd_takeWithin 7 (g := (69, [some (.ref 10), some (.int x1), some (.long x2), none, some (.long x4), none], [.int (1 : Int32)], zz_hC (zz_i (zz_l s 0 q2) 14 ((s.1 14) + x1)) t, true)) rfl ?_
        cases hF
        exact am_go.ret hcd_rd_takeWithin rfl rfl ⟨rfl, rfl, (fun h => by cases h), Or.inr ⟨rfl, Or.inr rfl⟩, rfl⟩
      · replace hF := (if_neg hP).symm.trans hF
        refine am_go.blk hcd_rd_takeWithin 1 (g := (57, [some (.ref 10), some (.int x1), some (.long x2), none, some (.long x4), none], [.int (0 : Int32)], zz_hC (zz_l s 0 q2) t, true)) rfl ?_
        cases hF
        exact am_go.ret hcd_rd_takeWithin rfl rfl ⟨rfl, rfl, (fun h => by cases h), Or.inr ⟨rfl, Or.inl rfl⟩, rfl⟩
  · replace hF := (if_neg hP).symm.trans hF
    refine am_go.blk hcd_rd_takeWithin 1 (g := (16, [some (.ref 10), some (.int x1), some (.long x2), none, some (.long x4), none], [.int (0 : Int32)], zz_hC s t, true)) rfl ?_
    cases hF
    exact am_go.ret hcd_rd_takeWithin rfl rfl ⟨rfl, rfl, (fun h => by cases h), Or.inr ⟨rfl, Or.inl rfl⟩, rfl⟩
theorem hcd_rd_takeLongRate : am_code 49 = am_c_rd_takeLongRate := rfl
def fz_rd_takeLongRate (s : am_Z) : Option (Int32 × am_Z) :=
  (fz_rd_takeWithin s (2 : Int32) (16383 : Int64) (16400 : Int64)).bind fun q1 =>
  if q1.1 = 0 then
    some ((0 : Int32), q1.2)
  else
  (fz_by_has q1.2 (q1.2.1 14) (8 : Int32)).bind fun q2 =>
  if ¬ q2 = 0 then
    (fz_by_numberAt q1.2 (q1.2.1 14) (8 : Int32) (q1.2.1 15)).bind fun q3 =>
    if ¬ (lg_cmp ((UInt64.toInt64 (Int64.toUInt64 q3 >>> (Int64.toUInt64 (Int32.toInt64 ((63 : Int32) - ((Int64.toInt32 (q1.2.2.1 0)) - (16383 : Int32)))) &&& Int64.toUInt64 63))) <<< (Int32.toInt64 ((63 : Int32) - ((Int64.toInt32 (q1.2.2.1 0)) - (16383 : Int32))) &&& 63)) q3) = 0 then
      some ((0 : Int32), q1.2)
    else
    if ¬ (lg_cmp ((UInt64.toInt64 (Int64.toUInt64 q3 >>> (Int64.toUInt64 (Int32.toInt64 ((63 : Int32) - ((Int64.toInt32 (q1.2.2.1 0)) - (16383 : Int32)))) &&& Int64.toUInt64 63))) >>> (Int32.toInt64 ((Int64.toInt32 (q1.2.2.1 0)) - (16383 : Int32)) &&& 63)) (1 : Int64)) = 0 then
      some ((0 : Int32), q1.2)
    else
    if (lg_cmp (UInt64.toInt64 (Int64.toUInt64 q3 >>> (Int64.toUInt64 (Int32.toInt64 ((63 : Int32) - ((Int64.toInt32 (q1.2.2.1 0)) - (16383 : Int32)))) &&& Int64.toUInt64 63))) (192000 : Int64)) ≤ 0 then
      some ((1 : Int32), (zz_i (zz_i q1.2 21 (Int64.toInt32 (UInt64.toInt64 (Int64.toUInt64 q3 >>> (Int64.toUInt64 (Int32.toInt64 ((63 : Int32) - ((Int64.toInt32 (q1.2.2.1 0)) - (16383 : Int32)))) &&& Int64.toUInt64 63))))) 14 ((q1.2.1 14) + (8 : Int32))))
    else
    some ((0 : Int32), q1.2)
  else
  some ((0 : Int32), q1.2)
theorem tz_rd_takeLongRate {sc : am_S} {t : am_H} {s : am_Z} {r : Int32 × am_Z} (hF : fz_rd_takeLongRate s = some r) : am_ev sc 4 49 [.ref 10] (zz_hC s t) ((.inl (some (.int r.1)), zz_hC r.2 t, true) : am_R) := by
  unfold fz_rd_takeLongRate at hF
  refine am_ev.of true rfl ?_
  show am_go sc _ _ _ _ (0, [some (.ref 10), none, none, none, none, none], [], zz_hC s t, true) _
  refine am_go.blk hcd_rd_takeLongRate 4 (g := (8, [some (.ref 10), none, none, none, none, none], [.long (16400 : Int64), .long (16383 : Int64), .int (2 : Int32), .ref 10], zz_hC s t, true)) rfl ?_
  obtain ⟨q1, hq1, hF⟩ := am_bd hF
  refine am_go.call hcd_rd_takeLongRate rfl rfl rfl rfl (am_le8 rfl) (am_ev.le (by decide) (tz_rd_takeWithin (t := t) hq1)) ?_
  refine am_go.blk hcd_rd_takeLongRate 1 (g := (bif decide (q1.1 = 0) then 30 else 14, [some (.ref 10), none, none, none, none, none], [], zz_hC q1.2 t, true)) rfl ?_
  refine am_go.br (fun hP => ?_) (fun hP => ?_)
  · replace hF := (if_pos hP).symm.trans hF
    refine am_go.blk hcd_rd_takeLongRate 1 (g := (31, [some (.ref 10), none, none, none, none, none], [.int (0 : Int32)], zz_hC q1.2 t, true)) rfl ?_
    cases hF
    exact am_go.ret hcd_rd_takeLongRate rfl rfl ⟨rfl, rfl, (fun h => by cases h), Or.inr ⟨rfl, Or.inl rfl⟩, rfl⟩
  · replace hF := (if_neg hP).symm.trans hF
    refine am_go.blk hcd_rd_takeLongRate 5 (g := (24, [some (.ref 10), none, none, none, none, none], [.int (8 : Int32), .int (q1.2.1 14), .ref 3], zz_hC q1.2 t, true)) rfl ?_
    obtain ⟨q2, hq2, hF⟩ := am_bd hF
    refine am_go.call hcd_rd_takeLongRate rfl rfl rfl rfl (am_le8 rfl) (am_ev.le (by decide) (tz_by_has (t := t) hq2)) ?_
    refine am_go.blk hcd_rd_takeLongRate 1 (g := (bif decide (¬ q2 = 0) then 32 else 30, [some (.ref 10), none, none, none, none, none], [], zz_hC q1.2 t, true)) rfl ?_
    refine am_go.br (fun hP => ?_) (fun hP => ?_)
    · replace hF := (if_pos hP).symm.trans hF
      refine am_go.blk hcd_rd_takeLongRate 13 (g := (56, [some (.ref 10), some (.int ((Int64.toInt32 (q1.2.2.1 0)) - (16383 : Int32))), none, none, none, none], [.int (q1.2.1 15), .int (8 : Int32), .int (q1.2.1 14), .ref 3], zz_hC q1.2 t, true)) rfl ?_
      obtain ⟨q3, hq3, hF⟩ := am_bd hF
      refine am_go.call hcd_rd_takeLongRate rfl rfl rfl rfl (am_le8 rfl) (am_ev.le (by decide) (tz_by_numberAt (t := t) hq3)) ?_
      refine am_go.blk hcd_rd_takeLongRate 15 (g := (bif decide (¬ (lg_cmp ((UInt64.toInt64 (Int64.toUInt64 q3 >>> (Int64.toUInt64 (Int32.toInt64 ((63 : Int32) - ((Int64.toInt32 (q1.2.2.1 0)) - (16383 : Int32)))) &&& Int64.toUInt64 63))) <<< (Int32.toInt64 ((63 : Int32) - ((Int64.toInt32 (q1.2.2.1 0)) - (16383 : Int32))) &&& 63)) q3) = 0) then 98 else 80, [some (.ref 10), some (.int ((Int64.toInt32 (q1.2.2.1 0)) - (16383 : Int32))), some (.long q3), none, some (.long (UInt64.toInt64 (Int64.toUInt64 q3 >>> (Int64.toUInt64 (Int32.toInt64 ((63 : Int32) - ((Int64.toInt32 (q1.2.2.1 0)) - (16383 : Int32)))) &&& Int64.toUInt64 63)))), none], [], zz_hC q1.2 t, true)) rfl ?_
      refine am_go.br (fun hP => ?_) (fun hP => ?_)
      · replace hF := (if_pos hP).symm.trans hF
        refine am_go.blk hcd_rd_takeLongRate 1 (g := (99, [some (.ref 10), some (.int ((Int64.toInt32 (q1.2.2.1 0)) - (16383 : Int32))), some (.long q3), none, some (.long (UInt64.toInt64 (Int64.toUInt64 q3 >>> (Int64.toUInt64 (Int32.toInt64 ((63 : Int32) - ((Int64.toInt32 (q1.2.2.1 0)) - (16383 : Int32)))) &&& Int64.toUInt64 63)))), none], [.int (0 : Int32)], zz_hC q1.2 t, true)) rfl ?_
        cases hF
        exact am_go.ret hcd_rd_takeLongRate rfl rfl ⟨rfl, rfl, (fun h => by cases h), Or.inr ⟨rfl, Or.inl rfl⟩, rfl⟩
      · replace hF := (if_neg hP).symm.trans hF
        refine am_go.blk hcd_rd_takeLongRate 6 (g := (bif decide (¬ (lg_cmp ((UInt64.toInt64 (Int64.toUInt64 q3 >>> (Int64.toUInt64 (Int32.toInt64 ((63 : Int32) - ((Int64.toInt32 (q1.2.2.1 0)) - (16383 : Int32)))) &&& Int64.toUInt64 63))) >>> (Int32.toInt64 ((Int64.toInt32 (q1.2.2.1 0)) - (16383 : Int32)) &&& 63)) (1 : Int64)) = 0) then 98 else 89, [some (.ref 10), some (.int ((Int64.toInt32 (q1.2.2.1 0)) - (16383 : Int32))), some (.long q3), none, some (.long (UInt64.toInt64 (Int64.toUInt64 q3 >>> (Int64.toUInt64 (Int32.toInt64 ((63 : Int32) - ((Int64.toInt32 (q1.2.2.1 0)) - (16383 : Int32)))) &&& Int64.toUInt64 63)))), none], [], zz_hC q1.2 t, true)) rfl ?_
        refine am_go.br (fun hP => ?_) (fun hP => ?_)
        · replace hF := (if_pos hP).symm.trans hF
          refine am_go.blk hcd_rd_takeLongRate 1 (g := (99, [some (.ref 10), some (.int ((Int64.toInt32 (q1.2.2.1 0)) - (16383 : Int32))), some (.long q3), none, some (.long (UInt64.toInt64 (Int64.toUInt64 q3 >>> (Int64.toUInt64 (Int32.toInt64 ((63 : Int32) - ((Int64.toInt32 (q1.2.2.1 0)) - (16383 : Int32)))) &&& Int64.toUInt64 63)))), none], [.int (0 : Int32)], zz_hC q1.2 t, true)) rfl ?_
          cases hF
          exact am_go.ret hcd_rd_takeLongRate rfl rfl ⟨rfl, rfl, (fun h => by cases h), Or.inr ⟨rfl, Or.inl rfl⟩, rfl⟩
        · replace hF := (if_neg hP).symm.trans hF
          refine am_go.blk hcd_rd_takeLongRate 4 (g := (bif decide ((lg_cmp (UInt64.toInt64 (Int64.toUInt64 q3 >>> (Int64.toUInt64 (Int32.toInt64 ((63 : Int32) - ((Int64.toInt32 (q1.2.2.1 0)) - (16383 : Int32)))) &&& Int64.toUInt64 63))) (192000 : Int64)) ≤ 0) then 100 else 98, [some (.ref 10), some (.int ((Int64.toInt32 (q1.2.2.1 0)) - (16383 : Int32))), some (.long q3), none, some (.long (UInt64.toInt64 (Int64.toUInt64 q3 >>> (Int64.toUInt64 (Int32.toInt64 ((63 : Int32) - ((Int64.toInt32 (q1.2.2.1 0)) - (16383 : Int32)))) &&& Int64.toUInt64 63)))), none], [], zz_hC q1.2 t, true)) rfl ?_
          refine am_go.br (fun hP => ?_) (fun hP => ?_)
          · replace hF := (if_pos hP).symm.trans hF
            refine am_go.blk hcd_rd_takeLongRate 12 (g := (122, [some (.ref 10), some (.int ((Int64.toInt32 (q1.2.2.1 0)) - (16383 : Int32))), some (.long q3), none, some (.long (UInt64.toInt64 (Int64.toUInt64 q3 >>> (Int64.toUInt64 (Int32.toInt64 ((63 : Int32) - ((Int64.toInt32 (q1.2.2.1 0)) - (16383 : Int32)))) &&& Int64.toUInt64 63)))), none], [.int (1 : Int32)], zz_hC (zz_i (zz_i q1.2 21 (Int64.toInt32 (UInt64.toInt64 (Int64.toUInt64 q3 >>> (Int64.toUInt64 (Int32.toInt64 ((63 : Int32) - ((Int64.toInt32 (q1.2.2.1 0)) - (16383 : Int32)))) &&& Int64.toUInt64 63))))) 14 ((q1.2.1 14) + (8 : Int32))) t, true)) rfl ?_
            cases hF
            exact am_go.ret hcd_rd_takeLongRate rfl rfl ⟨rfl, rfl, (fun h => by cases h), Or.inr ⟨rfl, Or.inr rfl⟩, rfl⟩
          · replace hF := (if_neg hP).symm.trans hF
            refine am_go.blk hcd_rd_takeLongRate 1 (g := (99, [some (.ref 10), some (.int ((Int64.toInt32 (q1.2.2.1 0)) - (16383 : Int32))), some (.long q3), none, some (.long (UInt64.toInt64 (Int64.toUInt64 q3 >>> (Int64.toUInt64 (Int32.toInt64 ((63 : Int32) - ((Int64.toInt32 (q1.2.2.1 0)) - (16383 : Int32)))) &&& Int64.toUInt64 63)))), none], [.int (0 : Int32)], zz_hC q1.2 t, true)) rfl ?_
            cases hF
            exact am_go.ret hcd_rd_takeLongRate rfl rfl ⟨rfl, rfl, (fun h => by cases h), Or.inr ⟨rfl, Or.inl rfl⟩, rfl⟩
    · replace hF := (if_neg hP).symm.trans hF
      refine am_go.blk hcd_rd_takeLongRate 1 (g := (31, [some (.ref 10), none, none, none, none, none], [.int (0 : Int32)], zz_hC q1.2 t, true)) rfl ?_
      cases hF
      exact am_go.ret hcd_rd_takeLongRate rfl rfl ⟨rfl, rfl, (fun h => by cases h), Or.inr ⟨rfl, Or.inl rfl⟩, rfl⟩
theorem hcd_rd_takeComm : am_code 48 = am_c_rd_takeComm := rfl
def fz_rd_takeComm (s : am_Z) : Option (Int32 × am_Z) :=
  (fz_rd_takeId s (1129270605 : Int32)).bind fun q1 =>
  if q1.1 = 0 then
    some ((0 : Int32), q1.2)
  else
  (fz_rd_takeSize q1.2 (18 : Int64)).bind fun q2 =>
  if q2.1 = 0 then
    some ((0 : Int32), q2.2)
  else
  (fz_rd_take q2.2 (2 : Int32) (1 : Int64)).bind fun q3 =>
  if q3.1 = 0 then
    some ((0 : Int32), q3.2)
  else
  (fz_rd_takeWithin q3.2 (4 : Int32) (0 : Int64) (64 : Int64)).bind fun q4 =>
  if ¬ q4.1 = 0 then
    (fz_rd_takeWithin (zz_i q4.2 18 (Int64.toInt32 (q4.2.2.1 0))) (2 : Int32) (1 : Int64) (16 : Int64)).bind fun q5 =>
    if ¬ q5.1 = 0 then
      (fz_rd_takeLongRate (zz_i (zz_i q5.2 19 (Int64.toInt32 (q5.2.2.1 0))) 17 (1 : Int32))).bind fun q6 =>
      if ¬ (q6.1 = 0 ∨ q6.1 = 1) then none else
      some (q6.1, q6.2)
    else
    some ((0 : Int32), q5.2)
  else
  some ((0 : Int32), q4.2)
theorem tz_rd_takeComm {sc : am_S} {t : am_H} {s : am_Z} {r : Int32 × am_Z} (hF : fz_rd_takeComm s = some r) : am_ev sc 5 48 [.ref 10] (zz_hC s t) ((.inl (some (.int r.1)), zz_hC r.2 t, true) : am_R) := by
  unfold fz_rd_takeComm at hF
  refine am_ev.of true rfl ?_
  show am_go sc _ _ _ _ (0, [some (.ref 10)], [], zz_hC s t, true) _
  refine am_go.blk hcd_rd_takeComm 2 (g := (3, [some (.ref 10)], [.int (1129270605 : Int32), .ref 10], zz_hC s t, true)) rfl ?_
  obtain ⟨q1, hq1, hF⟩ := am_bd hF
  refine am_go.call hcd_rd_takeComm rfl rfl rfl rfl (am_le8 rfl) (am_ev.le (by decide) (tz_rd_takeId (t := t) hq1)) ?_
  refine am_go.blk hcd_rd_takeComm 1 (g := (bif decide (q1.1 = 0) then 40 else 9, [some (.ref 10)], [], zz_hC q1.2 t, true)) rfl ?_
  refine am_go.br (fun hP => ?_) (fun hP => ?_)
  · replace hF := (if_pos hP).symm.trans hF
    refine am_go.blk hcd_rd_takeComm 1 (g := (41, [some (.ref 10)], [.int (0 : Int32)], zz_hC q1.2 t, true)) rfl ?_
    cases hF
    exact am_go.ret hcd_rd_takeComm rfl rfl ⟨rfl, rfl, (fun h => by cases h), Or.inr ⟨rfl, Or.inl rfl⟩, rfl⟩
  · replace hF := (if_neg hP).symm.trans hF
    refine am_go.blk hcd_rd_takeComm 2 (g := (13, [some (.ref 10)], [.long (18 : Int64), .ref 10], zz_hC q1.2 t, true)) rfl ?_
    obtain ⟨q2, hq2, hF⟩ := am_bd hF
    refine am_go.call hcd_rd_takeComm rfl rfl rfl rfl (am_le8 rfl) (am_ev.le (by decide) (tz_rd_takeSize (t := t) hq2)) ?_
    refine am_go.blk hcd_rd_takeComm 1 (g := (bif decide (q2.1 = 0) then 40 else 19, [some (.ref 10)], [], zz_hC q2.2 t, true)) rfl ?_
    refine am_go.br (fun hP => ?_) (fun hP => ?_)
    · replace hF := (if_pos hP).symm.trans hF
      refine am_go.blk hcd_rd_takeComm 1 (g := (41, [some (.ref 10)], [.int (0 : Int32)], zz_hC q2.2 t, true)) rfl ?_
      cases hF
      exact am_go.ret hcd_rd_takeComm rfl rfl ⟨rfl, rfl, (fun h => by cases h), Or.inr ⟨rfl, Or.inl rfl⟩, rfl⟩
    · replace hF := (if_neg hP).symm.trans hF
      refine am_go.blk hcd_rd_takeComm 3 (g := (22, [some (.ref 10)], [.long (1 : Int64), .int (2 : Int32), .ref 10], zz_hC q2.2 t, true)) rfl ?_
      obtain ⟨q3, hq3, hF⟩ := am_bd hF
      refine am_go.call hcd_rd_takeComm rfl rfl rfl rfl (am_le8 rfl) (am_ev.le (by decide) (tz_rd_take (t := t) hq3)) ?_
      refine am_go.blk hcd_rd_takeComm 1 (g := (bif decide (q3.1 = 0) then 40 else 28, [some (.ref 10)], [], zz_hC q3.2 t, true)) rfl ?_
      refine am_go.br (fun hP => ?_) (fun hP => ?_)
      · replace hF := (if_pos hP).symm.trans hF
        refine am_go.blk hcd_rd_takeComm 1 (g := (41, [some (.ref 10)], [.int (0 : Int32)], zz_hC q3.2 t, true)) rfl ?_
        cases hF
        exact am_go.ret hcd_rd_takeComm rfl rfl ⟨rfl, rfl, (fun h => by cases h), Or.inr ⟨rfl, Or.inl rfl⟩, rfl⟩
      · replace hF := (if_neg hP).symm.trans hF
        refine am_go.blk hcd_rd_takeComm 4 (g := (34, [some (.ref 10)], [.long (64 : Int64), .long (0 : Int64), .int (4 : Int32), .ref 10], zz_hC q3.2 t, true)) rfl ?_
        obtain ⟨q4, hq4, hF⟩ := am_bd hF
        refine am_go.call hcd_rd_takeComm rfl rfl rfl rfl (am_le8 rfl) (am_ev.le (by decide) (tz_rd_takeWithin (t := t) hq4)) ?_
        refine am_go.blk hcd_rd_takeComm 1 (g := (bif decide (¬ q4.1 = 0) then 42 else 40, [some (.ref 10)], [], zz_hC q4.2 t, true)) rfl ?_
        refine am_go.br (fun hP => ?_) (fun hP => ?_)
        · replace hF := (if_pos hP).symm.trans hF
          refine am_go.blk hcd_rd_takeComm 9 (g := (57, [some (.ref 10)], [.long (16 : Int64), .long (1 : Int64), .int (2 : Int32), .ref 10], zz_hC (zz_i q4.2 18 (Int64.toInt32 (q4.2.2.1 0))) t, true)) rfl ?_
          obtain ⟨q5, hq5, hF⟩ := am_bd hF
          refine am_go.call hcd_rd_takeComm rfl rfl rfl rfl (am_le8 rfl) (am_ev.le (by decide) (tz_rd_takeWithin (t := t) hq5)) ?_
          refine am_go.blk hcd_rd_takeComm 1 (g := (bif decide (¬ q5.1 = 0) then 65 else 63, [some (.ref 10)], [], zz_hC q5.2 t, true)) rfl ?_
          refine am_go.br (fun hP => ?_) (fun hP => ?_)
          · replace hF := (if_pos hP).symm.trans hF
            refine am_go.blk hcd_rd_takeComm 9 (g := (80, [some (.ref 10)], [.ref 10], zz_hC (zz_i (zz_i q5.2 19 (Int64.toInt32 (q5.2.2.1 0))) 17 (1 : Int32)) t, true)) rfl ?_
            obtain ⟨q6, hq6, hF⟩ := am_bd hF
            refine am_go.call hcd_rd_takeComm rfl rfl rfl rfl (am_le8 rfl) (am_ev.le (by decide) (tz_rd_takeLongRate (t := t) hq6)) ?_
            obtain ⟨hb, hF⟩ := am_ng hF
            cases hF
            exact am_go.ret hcd_rd_takeComm rfl rfl ⟨rfl, rfl, (fun h => by cases h), Or.inr ⟨rfl, Classical.not_not.mp hb⟩, rfl⟩
          · replace hF := (if_neg hP).symm.trans hF
            refine am_go.blk hcd_rd_takeComm 1 (g := (64, [some (.ref 10)], [.int (0 : Int32)], zz_hC q5.2 t, true)) rfl ?_
            cases hF
            exact am_go.ret hcd_rd_takeComm rfl rfl ⟨rfl, rfl, (fun h => by cases h), Or.inr ⟨rfl, Or.inl rfl⟩, rfl⟩
        · replace hF := (if_neg hP).symm.trans hF
          refine am_go.blk hcd_rd_takeComm 1 (g := (41, [some (.ref 10)], [.int (0 : Int32)], zz_hC q4.2 t, true)) rfl ?_
          cases hF
          exact am_go.ret hcd_rd_takeComm rfl rfl ⟨rfl, rfl, (fun h => by cases h), Or.inr ⟨rfl, Or.inl rfl⟩, rfl⟩
theorem hcd_rd_takeAlign : am_code 44 = am_c_rd_takeAlign := rfl
def fz_rd_takeAlign (s : am_Z) : Option (Int32 × am_Z) :=
  (fz_fm_leastAlign_13 s).bind fun q1 =>
  (fz_fm_mostAlign_13 s).bind fun q2 =>
  (fz_rd_takeWithin s (2 : Int32) (Int32.toInt64 q1) (Int32.toInt64 q2)).bind fun q3 =>
  if ¬ q3.1 = 0 then
    (fz_fm_setAlign_13 q3.2 (Int64.toInt32 (q3.2.2.1 0))).bind fun q4 =>
    (fz_fm_bits_13 q4).bind fun q5 =>
    (fz_rd_take q4 (2 : Int32) (Int32.toInt64 q5)).bind fun q6 =>
    if ¬ (q6.1 = 0 ∨ q6.1 = 1) then none else
    some (q6.1, q6.2)
  else
  some ((0 : Int32), q3.2)
theorem tz_rd_takeAlign {sc : am_S} {t : am_H} {s : am_Z} {r : Int32 × am_Z} (hF : fz_rd_takeAlign s = some r) : am_ev sc 4 44 [.ref 10] (zz_hC s t) ((.inl (some (.int r.1)), zz_hC r.2 t, true) : am_R) := by
  unfold fz_rd_takeAlign at hF
  refine am_ev.of true rfl ?_
  show am_go sc _ _ _ _ (0, [some (.ref 10)], [], zz_hC s t, true) _
  refine am_go.blk hcd_rd_takeAlign 4 (g := (6, [some (.ref 10)], [.ref 13, .int (2 : Int32), .ref 10], zz_hC s t, true)) rfl ?_
  obtain ⟨q1, hq1, hF⟩ := am_bd hF
  refine am_go.call hcd_rd_takeAlign rfl rfl rfl rfl (am_le8 rfl) (am_ev.le (by decide) (tz_fm_leastAlign_13 (t := t) hq1)) ?_
  refine am_go.blk hcd_rd_takeAlign 3 (g := (14, [some (.ref 10)], [.ref 13, .long (Int32.toInt64 q1), .int (2 : Int32), .ref 10], zz_hC s t, true)) rfl ?_
  obtain ⟨q2, hq2, hF⟩ := am_bd hF
  refine am_go.call hcd_rd_takeAlign rfl rfl rfl rfl (am_le8 rfl) (am_ev.le (by decide) (tz_fm_mostAlign_13 (t := t) hq2)) ?_
  refine am_go.blk hcd_rd_takeAlign 1 (g := (18, [some (.ref 10)], [.long (Int32.toInt64 q2), .long (Int32.toInt64 q1), .int (2 : Int32), .ref 10], zz_hC s t, true)) rfl ?_
  obtain ⟨q3, hq3, hF⟩ := am_bd hF
  refine am_go.call hcd_rd_takeAlign rfl rfl rfl rfl (am_le8 rfl) (am_ev.le (by decide) (tz_rd_takeWithin (t := t) hq3)) ?_
  refine am_go.blk hcd_rd_takeAlign 1 (g := (bif decide (¬ q3.1 = 0) then 26 else 24, [some (.ref 10)], [], zz_hC q3.2 t, true)) rfl ?_
  refine am_go.br (fun hP => ?_) (fun hP => ?_)
  · replace hF := (if_pos hP).symm.trans hF
    refine am_go.blk hcd_rd_takeAlign 5 (g := (35, [some (.ref 10)], [.int (Int64.toInt32 (q3.2.2.1 0)), .ref 13], zz_hC q3.2 t, true)) rfl ?_
    obtain ⟨q4, hq4, hF⟩ := am_bd hF
    refine am_go.call hcd_rd_takeAlign rfl rfl rfl rfl (am_le8 rfl) (am_ev.le (by decide) (tz_fm_setAlign_13 (t := t) hq4)) ?_
    refine am_go.blk hcd_rd_takeAlign 4 (g := (44, [some (.ref 10)], [.ref 13, .int (2 : Int32), .ref 10], zz_hC q4 t, true)) rfl ?_
    obtain ⟨q5, hq5, hF⟩ := am_bd hF
    refine am_go.call hcd_rd_takeAlign rfl rfl rfl rfl (am_le8 rfl) (am_ev.le (by decide) (tz_fm_bits_13 (t := t) hq5)) ?_
    refine am_go.blk hcd_rd_takeAlign 1 (g := (48, [some (.ref 10)], [.long (Int32.toInt64 q5), .int (2 : Int32), .ref 10], zz_hC q4 t, true)) rfl ?_
    obtain ⟨q6, hq6, hF⟩ := am_bd hF
    refine am_go.call hcd_rd_takeAlign rfl rfl rfl rfl (am_le8 rfl) (am_ev.le (by decide) (tz_rd_take (t := t) hq6)) ?_
    obtain ⟨hb, hF⟩ := am_ng hF
    cases hF
    exact am_go.ret hcd_rd_takeAlign rfl rfl ⟨rfl, rfl, (fun h => by cases h), Or.inr ⟨rfl, Classical.not_not.mp hb⟩, rfl⟩
  · replace hF := (if_neg hP).symm.trans hF
    refine am_go.blk hcd_rd_takeAlign 1 (g := (25, [some (.ref 10)], [.int (0 : Int32)], zz_hC q3.2 t, true)) rfl ?_
    cases hF
    exact am_go.ret hcd_rd_takeAlign rfl rfl ⟨rfl, rfl, (fun h => by cases h), Or.inr ⟨rfl, Or.inl rfl⟩, rfl⟩
theorem hcd_rd_takeMoreOfFmt : am_code 45 = am_c_rd_takeMoreOfFmt := rfl
def fz_rd_takeMoreOfFmt_114 (K79 : Int32 → Int32 → Int32 → am_Z → Option (Int32 × am_Z)) (x3 : Int32) (x4 : Int32) (y0 : Int32) (s : am_Z) : Option (Int32 × am_Z) :=
  K79 y0 x3 (x4 + (1 : Int32)) s
theorem tz_rd_takeMoreOfFmt_114 {sc : am_S} {t : am_H} {h0 : am_H} {K79 : Int32 → Int32 → Int32 → am_Z → Option (Int32 × am_Z)} (hK79 : ∀ (x1 : Int32) (x3 : Int32) (x4 : Int32) (s : am_Z) (r : Int32 × am_Z), K79 x1 x3 x4 s = some r → am_go sc 4 (am_ev sc 3) 45 h0 (79, [some (.ref 10), some (.int x1), some (.float 2), some (.int x3), some (.int x4), none], [], zz_hC s t, true) ((.inl (some (.int r.1)), zz_hC r.2 t, true) : am_R)) {x3 : Int32} {x4 : Int32} {y0 : Int32} {s : am_Z} {r : Int32 × am_Z} (hF : fz_rd_takeMoreOfFmt_114 K79 x3 x4 y0 s = some r) : am_go sc 4 (am_ev sc 3) 45 h0 (114, [some (.ref 10), none, some (.float 2), some (.int x3), some (.int x4), none], [.int y0], zz_hC s t, true) ((.inl (some (.int r.1)), zz_hC r.2 t, true) : am_R) := by
  unfold fz_rd_takeMoreOfFmt_114 at hF
  refine am_go.blk hcd_rd_takeMoreOfFmt 3 (g := (79, [some (.ref 10), some (.int y0), some (.float 2), some (.int x3), some (.int (x4 + (1 : Int32))), none], [], zz_hC s t, true)) rfl ?_
  exact hK79 _ _ _ _ _ hF
def fz_rd_takeMoreOfFmt_113 (K79 : Int32 → Int32 → Int32 → am_Z → Option (Int32 × am_Z)) (x3 : Int32) (x4 : Int32) (s : am_Z) : Option (Int32 × am_Z) :=
  fz_rd_takeMoreOfFmt_114 K79 x3 x4 (0 : Int32) s
theorem tz_rd_takeMoreOfFmt_113 {sc : am_S} {t : am_H} {h0 : am_H} {K79 : Int32 → Int32 → Int32 → am_Z → Option (Int32 × am_Z)} (hK79 : ∀ (x1 : Int32) (x3 : Int32) (x4 : Int32) (s : am_Z) (r : Int32 × am_Z), K79 x1 x3 x4 s = some r → am_go sc 4 (am_ev sc 3) 45 h0 (79, [some (.ref 10), some (.int x1), some (.float 2), some (.int x3), some (.int x4), none], [], zz_hC s t, true) ((.inl (some (.int r.1)), zz_hC r.2 t, true) : am_R)) {x3 : Int32} {x4 : Int32} {s : am_Z} {r : Int32 × am_Z} (hF : fz_rd_takeMoreOfFmt_113 K79 x3 x4 s = some r) : am_go sc 4 (am_ev sc 3) 45 h0 (113, [some (.ref 10), none, some (.float 2), some (.int x3), some (.int x4), none], [], zz_hC s t, true) ((.inl (some (.int r.1)), zz_hC r.2 t, true) : am_R) := by
  unfold fz_rd_takeMoreOfFmt_113 at hF
  refine am_go.blk hcd_rd_takeMoreOfFmt 1 (g := (114, [some (.ref 10), none, some (.float 2), some (.int x3), some (.int x4), none], [.int (0 : Int32)], zz_hC s t, true)) rfl ?_
  exact tz_rd_takeMoreOfFmt_114 (hK79 := hK79) hF
def fz_rd_takeMoreOfFmt_79  : Nat → Int32 → Int32 → Int32 → am_Z → Option (Int32 × am_Z)
  | 0, _, _, _, _ => none
  | n + 1, x1, x3, x4, s =>
    if x3 ≤ x4 then
      if ¬ (x1 = 0 ∨ x1 = 1) then none else
      some (x1, s)
    else
    if x4 < 0 ∨ 14 ≤ Int32.toNatClampNeg x4 then none else
    if x1 = 0 then
      fz_rd_takeMoreOfFmt_113 (fz_rd_takeMoreOfFmt_79 n) x3 x4 s
    else
    (fz_rd_take s (2 : Int32) (Int32.toInt64 ((am_vPAIRS.getD (Int32.toNatClampNeg x4) 0) &&& (65535 : Int32)))).bind fun q2 =>
    if q2.1 = 0 then
      fz_rd_takeMoreOfFmt_113 (fz_rd_takeMoreOfFmt_79 n) x3 x4 q2.2
    else
    fz_rd_takeMoreOfFmt_114 (fz_rd_takeMoreOfFmt_79 n) x3 x4 (1 : Int32) q2.2
theorem tz_rd_takeMoreOfFmt_79 {sc : am_S} {t : am_H} {h0 : am_H}   : ∀ (n : Nat) (x1 : Int32) (x3 : Int32) (x4 : Int32) (s : am_Z) (r : Int32 × am_Z), fz_rd_takeMoreOfFmt_79  n x1 x3 x4 s = some r → am_go sc 4 (am_ev sc 3) 45 h0 (79, [some (.ref 10), some (.int x1), some (.float 2), some (.int x3), some (.int x4), none], [], zz_hC s t, true) ((.inl (some (.int r.1)), zz_hC r.2 t, true) : am_R) := by
  intro n
  induction n with
  | zero => intro x1 x3 x4 s r hF; cases hF
  | succ n ih =>
    intro x1 x3 x4 s r hF
    unfold fz_rd_takeMoreOfFmt_79 at hF
    refine am_go.blk hcd_rd_takeMoreOfFmt 3 (g := (bif decide (x3 ≤ x4) then 121 else 85, [some (.ref 10), some (.int x1), some (.float 2), some (.int x3), some (.int x4), none], [], zz_hC s t, true)) rfl ?_
    refine am_go.br (fun hP => ?_) (fun hP => ?_)
    · replace hF := (if_pos hP).symm.trans hF
      refine am_go.blk hcd_rd_takeMoreOfFmt 1 (g := (122, [some (.ref 10), some (.int x1), some (.float 2), some (.int x3), some (.int x4), none], [.int x1], zz_hC s t, true)) rfl ?_
      obtain ⟨hb, hF⟩ := am_ng hF
      cases hF
      exact am_go.ret hcd_rd_takeMoreOfFmt rfl rfl ⟨rfl, rfl, (fun h => by cases h), Or.inr ⟨rfl, Classical.not_not.mp hb⟩, rfl⟩
    · replace hF := (if_neg hP).symm.trans hF
      refine am_go.blk hcd_rd_takeMoreOfFmt 2 (g := (88, [some (.ref 10), some (.int x1), some (.float 2), some (.int x3), some (.int x4), none], [.int x4, .float 2], zz_hC s t, true)) rfl ?_
      obtain ⟨hi1, hF⟩ := am_ng hF
      refine am_go.iald hcd_rd_takeMoreOfFmt rfl rfl hi1 ?_
      refine am_go.blk hcd_rd_takeMoreOfFmt 3 (g := (bif decide (x1 = 0) then 113 else 95, [some (.ref 10), some (.int x1), some (.float 2), some (.int x3), some (.int x4), some (.int (am_vPAIRS.getD (Int32.toNatClampNeg x4) 0))], [], zz_hC s t, true)) rfl ?_
      refine am_go.br (fun hP => ?_) (fun hP => ?_)
      · replace hF := (if_pos hP).symm.trans hF
        refine am_go.fgl [some (.ref 10), none, some (.float 2), some (.int x3), some (.int x4), none] ⟨rfl, rfl, rfl, rfl, trivial⟩ ?_
        exact tz_rd_takeMoreOfFmt_113 (hK79 := ih) hF
      · replace hF := (if_neg hP).symm.trans hF
        refine am_go.blk hcd_rd_takeMoreOfFmt 6 (g := (103, [some (.ref 10), some (.int x1), some (.float 2), some (.int x3), some (.int x4), some (.int (am_vPAIRS.getD (Int32.toNatClampNeg x4) 0))], [.long (Int32.toInt64 ((am_vPAIRS.getD (Int32.toNatClampNeg x4) 0) &&& (65535 : Int32))), .int (2 : Int32), .ref 10], zz_hC s t, true)) rfl ?_
        obtain ⟨q2, hq2, hF⟩ := am_bd hF
        refine am_go.call hcd_rd_takeMoreOfFmt rfl rfl rfl rfl (am_le8 rfl) (am_ev.le (by decide) (tz_rd_take (t := t) hq2)) ?_
        refine am_go.blk hcd_rd_takeMoreOfFmt 1 (g := (bif decide (q2.1 = 0) then 113 else 109, [some (.ref 10), some (.int x1), some (.float 2), some (.int x3), some (.int x4), some (.int (am_vPAIRS.getD (Int32.toNatClampNeg x4) 0))], [], zz_hC q2.2 t, true)) rfl ?_
        refine am_go.br (fun hP => ?_) (fun hP => ?_)
        · replace hF := (if_pos hP).symm.trans hF
          refine am_go.fgl [some (.ref 10), none, some (.float 2), some (.int x3), some (.int x4), none] ⟨rfl, rfl, rfl, rfl, trivial⟩ ?_
          exact tz_rd_takeMoreOfFmt_113 (hK79 := ih) hF
        · replace hF := (if_neg hP).symm.trans hF
          refine am_go.blk hcd_rd_takeMoreOfFmt 2 (g := (114, [some (.ref 10), some (.int x1), some (.float 2), some (.int x3), some (.int x4), some (.int (am_vPAIRS.getD (Int32.toNatClampNeg x4) 0))], [.int (1 : Int32)], zz_hC q2.2 t, true)) rfl ?_
          refine am_go.fgl [some (.ref 10), none, some (.float 2), some (.int x3), some (.int x4), none] ⟨rfl, rfl, rfl, rfl, trivial⟩ ?_
          exact tz_rd_takeMoreOfFmt_114 (hK79 := ih) hF
def fz_rd_takeMoreOfFmt (s : am_Z) : Option (Int32 × am_Z) :=
  (fz_fm_hasBlocks_13 s).bind fun q1 =>
  if ¬ q1 = 0 then
    (fz_fm_sizeOfMore_13 s).bind fun q2 =>
    (fz_rd_take s (2 : Int32) (Int32.toInt64 q2)).bind fun q3 =>
    if q3.1 = 0 then
      some ((0 : Int32), q3.2)
    else
    (fz_rd_take q3.2 (2 : Int32) (Int32.toInt64 (q3.2.1 25))).bind fun q4 =>
    if ¬ q4.1 = 0 then
      if ¬ (q4.2.1 22) = (17 : Int32) then
        (fz_rd_take q4.2 (2 : Int32) (7 : Int64)).bind fun q5 =>
        fz_rd_takeMoreOfFmt_79 fz_fu q5.1 (14 : Int32) (0 : Int32) q5.2
      else
      some ((1 : Int32), q4.2)
    else
    some ((0 : Int32), q4.2)
  else
  some ((1 : Int32), s)
theorem tz_rd_takeMoreOfFmt {sc : am_S} {t : am_H} {s : am_Z} {r : Int32 × am_Z} (hF : fz_rd_takeMoreOfFmt s = some r) : am_ev sc 4 45 [.ref 10] (zz_hC s t) ((.inl (some (.int r.1)), zz_hC r.2 t, true) : am_R) := by
  unfold fz_rd_takeMoreOfFmt at hF
  refine am_ev.of true rfl ?_
  show am_go sc _ _ _ _ (0, [some (.ref 10), none, none, none, none, none], [], zz_hC s t, true) _
  refine am_go.blk hcd_rd_takeMoreOfFmt 2 (g := (4, [some (.ref 10), none, none, none, none, none], [.ref 13], zz_hC s t, true)) rfl ?_
  obtain ⟨q1, hq1, hF⟩ := am_bd hF
  refine am_go.call hcd_rd_takeMoreOfFmt rfl rfl rfl rfl (am_le8 rfl) (am_ev.le (by decide) (tz_fm_hasBlocks_13 (t := t) hq1)) ?_
  refine am_go.blk hcd_rd_takeMoreOfFmt 1 (g := (bif decide (¬ q1 = 0) then 12 else 10, [some (.ref 10), none, none, none, none, none], [], zz_hC s t, true)) rfl ?_
  refine am_go.br (fun hP => ?_) (fun hP => ?_)
  · replace hF := (if_pos hP).symm.trans hF
    refine am_go.blk hcd_rd_takeMoreOfFmt 4 (g := (18, [some (.ref 10), none, none, none, none, none], [.ref 13, .int (2 : Int32), .ref 10], zz_hC s t, true)) rfl ?_
    obtain ⟨q2, hq2, hF⟩ := am_bd hF
    refine am_go.call hcd_rd_takeMoreOfFmt rfl rfl rfl rfl (am_le8 rfl) (am_ev.le (by decide) (tz_fm_sizeOfMore_13 (t := t) hq2)) ?_
    refine am_go.blk hcd_rd_takeMoreOfFmt 1 (g := (22, [some (.ref 10), none, none, none, none, none], [.long (Int32.toInt64 q2), .int (2 : Int32), .ref 10], zz_hC s t, true)) rfl ?_
    obtain ⟨q3, hq3, hF⟩ := am_bd hF
    refine am_go.call hcd_rd_takeMoreOfFmt rfl rfl rfl rfl (am_le8 rfl) (am_ev.le (by decide) (tz_rd_take (t := t) hq3)) ?_
    refine am_go.blk hcd_rd_takeMoreOfFmt 1 (g := (bif decide (q3.1 = 0) then 44 else 28, [some (.ref 10), none, none, none, none, none], [], zz_hC q3.2 t, true)) rfl ?_
    refine am_go.br (fun hP => ?_) (fun hP => ?_)
    · replace hF := (if_pos hP).symm.trans hF
      refine am_go.blk hcd_rd_takeMoreOfFmt 1 (g := (45, [some (.ref 10), none, none, none, none, none], [.int (0 : Int32)], zz_hC q3.2 t, true)) rfl ?_
      cases hF
      exact am_go.ret hcd_rd_takeMoreOfFmt rfl rfl ⟨rfl, rfl, (fun h => by cases h), Or.inr ⟨rfl, Or.inl rfl⟩, rfl⟩
    · replace hF := (if_neg hP).symm.trans hF
      refine am_go.blk hcd_rd_takeMoreOfFmt 6 (g := (38, [some (.ref 10), none, none, none, none, none], [.long (Int32.toInt64 (q3.2.1 25)), .int (2 : Int32), .ref 10], zz_hC q3.2 t, true)) rfl ?_
      obtain ⟨q4, hq4, hF⟩ := am_bd hF
      refine am_go.call hcd_rd_takeMoreOfFmt rfl rfl rfl rfl (am_le8 rfl) (am_ev.le (by decide) (tz_rd_take (t := t) hq4)) ?_
      refine am_go.blk hcd_rd_takeMoreOfFmt 1 (g := (bif decide (¬ q4.1 = 0) then 46 else 44, [some (.ref 10), none, none, none, none, none], [], zz_hC q4.2 t, true)) rfl ?_
      refine am_go.br (fun hP => ?_) (fun hP => ?_)
      · replace hF := (if_pos hP).symm.trans hF
        refine am_go.blk hcd_rd_takeMoreOfFmt 5 (g := (bif decide (¬ (q4.2.1 22) = (17 : Int32)) then 60 else 58, [some (.ref 10), none, none, none, none, none], [], zz_hC q4.2 t, true)) rfl ?_
        refine am_go.br (fun hP => ?_) (fun hP => ?_)
        · replace hF := (if_pos hP).symm.trans hF
          refine am_go.blk hcd_rd_takeMoreOfFmt 3 (g := (65, [some (.ref 10), none, none, none, none, none], [.long (7 : Int64), .int (2 : Int32), .ref 10], zz_hC q4.2 t, true)) rfl ?_
          obtain ⟨q5, hq5, hF⟩ := am_bd hF
          refine am_go.call hcd_rd_takeMoreOfFmt rfl rfl rfl rfl (am_le8 rfl) (am_ev.le (by decide) (tz_rd_take (t := t) hq5)) ?_
          refine am_go.blk hcd_rd_takeMoreOfFmt 8 (g := (79, [some (.ref 10), some (.int q5.1), some (.float 2), some (.int (14 : Int32)), some (.int (0 : Int32)), none], [], zz_hC q5.2 t, true)) rfl ?_
          exact tz_rd_takeMoreOfFmt_79  fz_fu _ _ _ _ _ hF
        · replace hF := (if_neg hP).symm.trans hF
          refine am_go.blk hcd_rd_takeMoreOfFmt 1 (g := (59, [some (.ref 10), none, none, none, none, none], [.int (1 : Int32)], zz_hC q4.2 t, true)) rfl ?_
          cases hF
          exact am_go.ret hcd_rd_takeMoreOfFmt rfl rfl ⟨rfl, rfl, (fun h => by cases h), Or.inr ⟨rfl, Or.inr rfl⟩, rfl⟩
      · replace hF := (if_neg hP).symm.trans hF
        refine am_go.blk hcd_rd_takeMoreOfFmt 1 (g := (45, [some (.ref 10), none, none, none, none, none], [.int (0 : Int32)], zz_hC q4.2 t, true)) rfl ?_
        cases hF
        exact am_go.ret hcd_rd_takeMoreOfFmt rfl rfl ⟨rfl, rfl, (fun h => by cases h), Or.inr ⟨rfl, Or.inl rfl⟩, rfl⟩
  · replace hF := (if_neg hP).symm.trans hF
    refine am_go.blk hcd_rd_takeMoreOfFmt 1 (g := (11, [some (.ref 10), none, none, none, none, none], [.int (1 : Int32)], zz_hC s t, true)) rfl ?_
    cases hF
    exact am_go.ret hcd_rd_takeMoreOfFmt rfl rfl ⟨rfl, rfl, (fun h => by cases h), Or.inr ⟨rfl, Or.inr rfl⟩, rfl⟩
theorem hcd_rd_isSpeedRight : am_code 46 = am_c_rd_isSpeedRight := rfl
def fz_rd_isSpeedRight (s : am_Z) (x1 : Int32) : Option (Int32 × am_Z) :=
  (fz_fm_bytesASecond_13 (zz_i s 14 x1) (s.1 21)).bind fun q1 =>
  (fz_rd_take (zz_i s 14 x1) (4 : Int32) (Int32.toInt64 q1)).bind fun q2 =>
  if ¬ q2.1 = 0 then
    some ((1 : Int32), (zz_i q2.2 14 (s.1 14)))
  else
  some ((0 : Int32), q2.2)
theorem tz_rd_isSpeedRight {sc : am_S} {t : am_H} {s : am_Z} {x1 : Int32} {r : Int32 × am_Z} (hF : fz_rd_isSpeedRight s x1 = some r) : am_ev sc 4 46 [.ref 10, .int x1] (zz_hC s t) ((.inl (some (.int r.1)), zz_hC r.2 t, true) : am_R) := by
  unfold fz_rd_isSpeedRight at hF
  refine am_ev.of true rfl ?_
  show am_go sc _ _ _ _ (0, [some (.ref 10), some (.int x1), none], [], zz_hC s t, true) _
  refine am_go.blk hcd_rd_isSpeedRight 13 (g := (23, [some (.ref 10), some (.int x1), some (.int (s.1 14))], [.int (s.1 21), .ref 13, .int (4 : Int32), .ref 10], zz_hC (zz_i s 14 x1) t, true)) rfl ?_
  obtain ⟨q1, hq1, hF⟩ := am_bd hF
  refine am_go.call hcd_rd_isSpeedRight rfl rfl rfl rfl (am_le8 rfl) (am_ev.le (by decide) (tz_fm_bytesASecond_13 (t := t) hq1)) ?_
  refine am_go.blk hcd_rd_isSpeedRight 1 (g := (27, [some (.ref 10), some (.int x1), some (.int (s.1 14))], [.long (Int32.toInt64 q1), .int (4 : Int32), .ref 10], zz_hC (zz_i s 14 x1) t, true)) rfl ?_
  obtain ⟨q2, hq2, hF⟩ := am_bd hF
  refine am_go.call hcd_rd_isSpeedRight rfl rfl rfl rfl (am_le8 rfl) (am_ev.le (by decide) (tz_rd_take (t := t) hq2)) ?_
  refine am_go.blk hcd_rd_isSpeedRight 1 (g := (bif decide (¬ q2.1 = 0) then 35 else 33, [some (.ref 10), some (.int x1), some (.int (s.1 14))], [], zz_hC q2.2 t, true)) rfl ?_
  refine am_go.br (fun hP => ?_) (fun hP => ?_)
  · replace hF := (if_pos hP).symm.trans hF
    refine am_go.blk hcd_rd_isSpeedRight 4 (g := (41, [some (.ref 10), some (.int x1), some (.int (s.1 14))], [.int (1 : Int32)], zz_hC (zz_i q2.2 14 (s.1 14)) t, true)) rfl ?_
    cases hF
    exact am_go.ret hcd_rd_isSpeedRight rfl rfl ⟨rfl, rfl, (fun h => by cases h), Or.inr ⟨rfl, Or.inr rfl⟩, rfl⟩
  · replace hF := (if_neg hP).symm.trans hF
    refine am_go.blk hcd_rd_isSpeedRight 1 (g := (34, [some (.ref 10), some (.int x1), some (.int (s.1 14))], [.int (0 : Int32)], zz_hC q2.2 t, true)) rfl ?_
    cases hF
    exact am_go.ret hcd_rd_isSpeedRight rfl rfl ⟨rfl, rfl, (fun h => by cases h), Or.inr ⟨rfl, Or.inl rfl⟩, rfl⟩
theorem hcd_rd_takeFmt : am_code 43 = am_c_rd_takeFmt := rfl
def fz_rd_takeFmt_166  (s : am_Z) : Option (Int32 × am_Z) :=
  some ((0 : Int32), s)
theorem tz_rd_takeFmt_166 {sc : am_S} {t : am_H} {h0 : am_H}   {s : am_Z} {r : Int32 × am_Z} (hF : fz_rd_takeFmt_166 s = some r) : am_go sc 5 (am_ev sc 4) 43 h0 (166, [none, none, none, none], [], zz_hC s t, true) ((.inl (some (.int r.1)), zz_hC r.2 t, true) : am_R) := by
  unfold fz_rd_takeFmt_166 at hF
  refine am_go.blk hcd_rd_takeFmt 1 (g := (167, [none, none, none, none], [.int (0 : Int32)], zz_hC s t, true)) rfl ?_
  cases hF
  exact am_go.ret hcd_rd_takeFmt rfl rfl ⟨rfl, rfl, (fun h => by cases h), Or.inr ⟨rfl, Or.inl rfl⟩, rfl⟩
def fz_rd_takeFmt (s : am_Z) : Option (Int32 × am_Z) :=
  (fz_rd_takeId s (1718449184 : Int32)).bind fun q1 =>
  if q1.1 = 0 then
    some ((0 : Int32), q1.2)
  else
  (fz_by_has q1.2 (q1.2.1 14) (4 : Int32)).bind fun q2 =>
  if ¬ q2 = 0 then
    (fz_by_numberAt q1.2 (q1.2.1 14) (4 : Int32) (q1.2.1 15)).bind fun q3 =>
    (fz_fm_tagOfSize q3).bind fun q4 =>
    (fz_fm_setTag_13 q1.2 q4).bind fun q5 =>
    if (q5.1 22) = 0 then
      some ((0 : Int32), q5)
    else
    (fz_rd_takeSize q5 q3).bind fun q6 =>
    if ¬ q6.1 = 0 then
      (fz_rd_take q6.2 (2 : Int32) (Int32.toInt64 (q6.2.1 22))).bind fun q7 =>
      if q7.1 = 0 then
        some ((0 : Int32), q7.2)
      else
      (fz_rd_take q7.2 (2 : Int32) (1 : Int64)).bind fun q8 =>
      if q8.1 = 0 then
        some ((0 : Int32), q8.2)
      else
      (fz_rd_takeWithin q8.2 (4 : Int32) (1 : Int64) (192000 : Int64)).bind fun q9 =>
      if ¬ q9.1 = 0 then
        (fz_rd_takeAlign (zz_i (zz_i q9.2 21 (Int64.toInt32 (q9.2.2.1 0))) 14 ((q9.2.1 14) + (4 : Int32)))).bind fun q10 =>
        if q10.1 = 0 then
          fz_rd_takeFmt_166 q10.2
        else
        (fz_rd_takeMoreOfFmt q10.2).bind fun q11 =>
        if q11.1 = 0 then
          fz_rd_takeFmt_166 q11.2
        else
        (fz_rd_isSpeedRight q11.2 (q9.2.1 14)).bind fun q12 =>
        if q12.1 = 0 then
          fz_rd_takeFmt_166 q12.2
        else
        some ((1 : Int32), q12.2)
      else
      some ((0 : Int32), q9.2)
    else
    some ((0 : Int32), q6.2)
  else
  some ((0 : Int32), q1.2)
theorem tz_rd_takeFmt {sc : am_S} {t : am_H} {s : am_Z} {r : Int32 × am_Z} (hF : fz_rd_takeFmt s = some r) : am_ev sc 5 43 [.ref 10] (zz_hC s t) ((.inl (some (.int r.1)), zz_hC r.2 t, true) : am_R) := by
  unfold fz_rd_takeFmt at hF
  refine am_ev.of true rfl ?_
  show am_go sc _ _ _ _ (0, [some (.ref 10), none, none, none], [], zz_hC s t, true) _
  refine am_go.blk hcd_rd_takeFmt 2 (g := (3, [some (.ref 10), none, none, none], [.int (1718449184 : Int32), .ref 10], zz_hC s t, true)) rfl ?_
  obtain ⟨q1, hq1, hF⟩ := am_bd hF
  refine am_go.call hcd_rd_takeFmt rfl rfl rfl rfl (am_le8 rfl) (am_ev.le (by decide) (tz_rd_takeId (t := t) hq1)) ?_
  refine am_go.blk hcd_rd_takeFmt 1 (g := (bif decide (q1.1 = 0) then 24 else 9, [some (.ref 10), none, none, none], [], zz_hC q1.2 t, true)) rfl ?_
  refine am_go.br (fun hP => ?_) (fun hP => ?_)
  · replace hF := (if_pos hP).symm.trans hF
    refine am_go.blk hcd_rd_takeFmt 1 (g := (25, [some (.ref 10), none, none, none], [.int (0 : Int32)], zz_hC q1.2 t, true)) rfl ?_
    cases hF
    exact am_go.ret hcd_rd_takeFmt rfl rfl ⟨rfl, rfl, (fun h => by cases h), Or.inr ⟨rfl, Or.inl rfl⟩, rfl⟩
  · replace hF := (if_neg hP).symm.trans hF
    refine am_go.blk hcd_rd_takeFmt 5 (g := (18, [some (.ref 10), none, none, none], [.int (4 : Int32), .int (q1.2.1 14), .ref 3], zz_hC q1.2 t, true)) rfl ?_
    obtain ⟨q2, hq2, hF⟩ := am_bd hF
    refine am_go.call hcd_rd_takeFmt rfl rfl rfl rfl (am_le8 rfl) (am_ev.le (by decide) (tz_by_has (t := t) hq2)) ?_
    refine am_go.blk hcd_rd_takeFmt 1 (g := (bif decide (¬ q2 = 0) then 26 else 24, [some (.ref 10), none, none, none], [], zz_hC q1.2 t, true)) rfl ?_
    refine am_go.br (fun hP => ?_) (fun hP => ?_)
    · replace hF := (if_pos hP).symm.trans hF
      refine am_go.blk hcd_rd_takeFmt 7 (g := (39, [some (.ref 10), none, none, none], [.int (q1.2.1 15), .int (4 : Int32), .int (q1.2.1 14), .ref 3], zz_hC q1.2 t, true)) rfl ?_
      obtain ⟨q3, hq3, hF⟩ := am_bd hF
      refine am_go.call hcd_rd_takeFmt rfl rfl rfl rfl (am_le8 rfl) (am_ev.le (by decide) (tz_by_numberAt (t := t) hq3)) ?_
      refine am_go.blk hcd_rd_takeFmt 4 (g := (48, [some (.ref 10), some (.long q3), none, none], [.long q3, .ref 13], zz_hC q1.2 t, true)) rfl ?_
      obtain ⟨q4, hq4, hF⟩ := am_bd hF
      refine am_go.call hcd_rd_takeFmt rfl rfl rfl rfl (am_le8 rfl) (am_ev.le (by decide) (tz_fm_tagOfSize (h := zz_hC q1.2 t) hq4)) ?_
      obtain ⟨q5, hq5, hF⟩ := am_bd hF
      refine am_go.call hcd_rd_takeFmt rfl rfl rfl rfl (am_le8 rfl) (am_ev.le (by decide) (tz_fm_setTag_13 (t := t) hq5)) ?_
      refine am_go.blk hcd_rd_takeFmt 4 (g := (bif decide ((q5.1 22) = 0) then 72 else 64, [some (.ref 10), some (.long q3), none, none], [], zz_hC q5 t, true)) rfl ?_
      refine am_go.br (fun hP => ?_) (fun hP => ?_)
      · replace hF := (if_pos hP).symm.trans hF
        refine am_go.blk hcd_rd_takeFmt 1 (g := (73, [some (.ref 10), some (.long q3), none, none], [.int (0 : Int32)], zz_hC q5 t, true)) rfl ?_
        cases hF
        exact am_go.ret hcd_rd_takeFmt rfl rfl ⟨rfl, rfl, (fun h => by cases h), Or.inr ⟨rfl, Or.inl rfl⟩, rfl⟩
      · replace hF := (if_neg hP).symm.trans hF
        refine am_go.blk hcd_rd_takeFmt 2 (g := (66, [some (.ref 10), some (.long q3), none, none], [.long q3, .ref 10], zz_hC q5 t, true)) rfl ?_
        obtain ⟨q6, hq6, hF⟩ := am_bd hF
        refine am_go.call hcd_rd_takeFmt rfl rfl rfl rfl (am_le8 rfl) (am_ev.le (by decide) (tz_rd_takeSize (t := t) hq6)) ?_
        refine am_go.blk hcd_rd_takeFmt 1 (g := (bif decide (¬ q6.1 = 0) then 74 else 72, [some (.ref 10), some (.long q3), none, none], [], zz_hC q6.2 t, true)) rfl ?_
        refine am_go.br (fun hP => ?_) (fun hP => ?_)
        · replace hF := (if_pos hP).symm.trans hF
          refine am_go.blk hcd_rd_takeFmt 6 (g := (84, [some (.ref 10), some (.long q3), none, none], [.long (Int32.toInt64 (q6.2.1 22)), .int (2 : Int32), .ref 10], zz_hC q6.2 t, true)) rfl ?_
          obtain ⟨q7, hq7, hF⟩ := am_bd hF
          refine am_go.call hcd_rd_takeFmt rfl rfl rfl rfl (am_le8 rfl) (am_ev.le (by decide) (tz_rd_take (t := t) hq7)) ?_
          refine am_go.blk hcd_rd_takeFmt 1 (g := (bif decide (q7.1 = 0) then 111 else 90, [some (.ref 10), some (.long q3), none, none], [], zz_hC q7.2 t, true)) rfl ?_
          refine am_go.br (fun hP => ?_) (fun hP => ?_)
          · replace hF := (if_pos hP).symm.trans hF
            refine am_go.blk hcd_rd_takeFmt 1 (g := (112, [some (.ref 10), some (.long q3), none, none], [.int (0 : Int32)], zz_hC q7.2 t, true)) rfl ?_
            cases hF
            exact am_go.ret hcd_rd_takeFmt rfl rfl ⟨rfl, rfl, (fun h => by cases h), Or.inr ⟨rfl, Or.inl rfl⟩, rfl⟩
          · replace hF := (if_neg hP).symm.trans hF
            refine am_go.blk hcd_rd_takeFmt 3 (g := (93, [some (.ref 10), some (.long q3), none, none], [.long (1 : Int64), .int (2 : Int32), .ref 10], zz_hC q7.2 t, true)) rfl ?_
            obtain ⟨q8, hq8, hF⟩ := am_bd hF
            refine am_go.call hcd_rd_takeFmt rfl rfl rfl rfl (am_le8 rfl) (am_ev.le (by decide) (tz_rd_take (t := t) hq8)) ?_
            refine am_go.blk hcd_rd_takeFmt 1 (g := (bif decide (q8.1 = 0) then 111 else 99, [some (.ref 10), some (.long q3), none, none], [], zz_hC q8.2 t, true)) rfl ?_
            refine am_go.br (fun hP => ?_) (fun hP => ?_)
            · replace hF := (if_pos hP).symm.trans hF
              refine am_go.blk hcd_rd_takeFmt 1 (g := (112, [some (.ref 10), some (.long q3), none, none], [.int (0 : Int32)], zz_hC q8.2 t, true)) rfl ?_
              cases hF
              exact am_go.ret hcd_rd_takeFmt rfl rfl ⟨rfl, rfl, (fun h => by cases h), Or.inr ⟨rfl, Or.inl rfl⟩, rfl⟩
            · replace hF := (if_neg hP).symm.trans hF
              refine am_go.blk hcd_rd_takeFmt 4 (g := (105, [some (.ref 10), some (.long q3), none, none], [.long (192000 : Int64), .long (1 : Int64), .int (4 : Int32), .ref 10], zz_hC q8.2 t, true)) rfl ?_
              obtain ⟨q9, hq9, hF⟩ := am_bd hF
              refine am_go.call hcd_rd_takeFmt rfl rfl rfl rfl (am_le8 rfl) (am_ev.le (by decide) (tz_rd_takeWithin (t := t) hq9)) ?_
              refine am_go.blk hcd_rd_takeFmt 1 (g := (bif decide (¬ q9.1 = 0) then 113 else 111, [some (.ref 10), some (.long q3), none, none], [], zz_hC q9.2 t, true)) rfl ?_
              refine am_go.br (fun hP => ?_) (fun hP => ?_)
              · replace hF := (if_pos hP).symm.trans hF
                refine am_go.blk hcd_rd_takeFmt 16 (g := (141, [some (.ref 10), some (.long q3), none, some (.int (q9.2.1 14))], [.ref 10], zz_hC (zz_i (zz_i q9.2 21 (Int64.toInt32 (q9.2.2.1 0))) 14 ((q9.2.1 14) + (4 : Int32))) t, true)) rfl ?_
                obtain ⟨q10, hq10, hF⟩ := am_bd hF
                refine am_go.call hcd_rd_takeFmt rfl rfl rfl rfl (am_le8 rfl) (am_ev.le (by decide) (tz_rd_takeAlign (t := t) hq10)) ?_
                refine am_go.blk hcd_rd_takeFmt 1 (g := (bif decide (q10.1 = 0) then 166 else 147, [some (.ref 10), some (.long q3), none, some (.int (q9.2.1 14))], [], zz_hC q10.2 t, true)) rfl ?_
                refine am_go.br (fun hP => ?_) (fun hP => ?_)
                · replace hF := (if_pos hP).symm.trans hF
                  refine am_go.fgl [none, none, none, none] trivial ?_
                  exact tz_rd_takeFmt_166  hF
                · replace hF := (if_neg hP).symm.trans hF
                  refine am_go.blk hcd_rd_takeFmt 1 (g := (148, [some (.ref 10), some (.long q3), none, some (.int (q9.2.1 14))], [.ref 10], zz_hC q10.2 t, true)) rfl ?_
                  obtain ⟨q11, hq11, hF⟩ := am_bd hF
                  refine am_go.call hcd_rd_takeFmt rfl rfl rfl rfl (am_le8 rfl) (am_ev.le (by decide) (tz_rd_takeMoreOfFmt (t := t) hq11)) ?_
                  refine am_go.blk hcd_rd_takeFmt 1 (g := (bif decide (q11.1 = 0) then 166 else 154, [some (.ref 10), some (.long q3), none, some (.int (q9.2.1 14))], [], zz_hC q11.2 t, true)) rfl ?_
                  refine am_go.br (fun hP => ?_) (fun hP => ?_)
                  · replace hF := (if_pos hP).symm.trans hF
                    refine am_go.fgl [none, none, none, none] trivial ?_
                    exact tz_rd_takeFmt_166  hF
                  · replace hF := (if_neg hP).symm.trans hF
                    refine am_go.blk hcd_rd_takeFmt 2 (g := (156, [some (.ref 10), some (.long q3), none, some (.int (q9.2.1 14))], [.int (q9.2.1 14), .ref 10], zz_hC q11.2 t, true)) rfl ?_
                    obtain ⟨q12, hq12, hF⟩ := am_bd hF
                    refine am_go.call hcd_rd_takeFmt rfl rfl rfl rfl (am_le8 rfl) (am_ev.le (by decide) (tz_rd_isSpeedRight (t := t) hq12)) ?_
                    refine am_go.blk hcd_rd_takeFmt 1 (g := (bif decide (q12.1 = 0) then 166 else 162, [some (.ref 10), some (.long q3), none, some (.int (q9.2.1 14))], [], zz_hC q12.2 t, true)) rfl ?_
                    refine am_go.br (fun hP => ?_) (fun hP => ?_)
                    · replace hF := (if_pos hP).symm.trans hF
                      refine am_go.fgl [none, none, none, none] trivial ?_
                      exact tz_rd_takeFmt_166  hF
                    · replace hF := (if_neg hP).symm.trans hF
                      refine am_go.blk hcd_rd_takeFmt 2 (g := (167, [some (.ref 10), some (.long q3), none, some (.int (q9.2.1 14))], [.int (1 : Int32)], zz_hC q12.2 t, true)) rfl ?_
                      cases hF
                      exact am_go.ret hcd_rd_takeFmt rfl rfl ⟨rfl, rfl, (fun h => by cases h), Or.inr ⟨rfl, Or.inr rfl⟩, rfl⟩
              · replace hF := (if_neg hP).symm.trans hF
                refine am_go.blk hcd_rd_takeFmt 1 (g := (112, [some (.ref 10), some (.long q3), none, none], [.int (0 : Int32)], zz_hC q9.2 t, true)) rfl ?_
                cases hF
                exact am_go.ret hcd_rd_takeFmt rfl rfl ⟨rfl, rfl, (fun h => by cases h), Or.inr ⟨rfl, Or.inl rfl⟩, rfl⟩
        · replace hF := (if_neg hP).symm.trans hF
          refine am_go.blk hcd_rd_takeFmt 1 (g := (73, [some (.ref 10), some (.long q3), none, none], [.int (0 : Int32)], zz_hC q6.2 t, true)) rfl ?_
          cases hF
          exact am_go.ret hcd_rd_takeFmt rfl rfl ⟨rfl, rfl, (fun h => by cases h), Or.inr ⟨rfl, Or.inl rfl⟩, rfl⟩
    · replace hF := (if_neg hP).symm.trans hF
      refine am_go.blk hcd_rd_takeFmt 1 (g := (25, [some (.ref 10), none, none, none], [.int (0 : Int32)], zz_hC q1.2 t, true)) rfl ?_
      cases hF
      exact am_go.ret hcd_rd_takeFmt rfl rfl ⟨rfl, rfl, (fun h => by cases h), Or.inr ⟨rfl, Or.inl rfl⟩, rfl⟩
theorem hcd_rd_takeFact : am_code 47 = am_c_rd_takeFact := rfl
def fz_rd_takeFact (s : am_Z) : Option (Int32 × am_Z) :=
  (fz_rd_takeId s (1717658484 : Int32)).bind fun q1 =>
  if q1.1 = 0 then
    some ((0 : Int32), q1.2)
  else
  (fz_rd_takeSize q1.2 (4 : Int64)).bind fun q2 =>
  if q2.1 = 0 then
    some ((0 : Int32), q2.2)
  else
  (fz_rd_takeWithin q2.2 (4 : Int32) (0 : Int64) (64 : Int64)).bind fun q3 =>
  if ¬ q3.1 = 0 then
    some ((1 : Int32), (zz_i (zz_i q3.2 18 (Int64.toInt32 (q3.2.2.1 0))) 16 (1 : Int32)))
  else
  some ((0 : Int32), q3.2)
theorem tz_rd_takeFact {sc : am_S} {t : am_H} {s : am_Z} {r : Int32 × am_Z} (hF : fz_rd_takeFact s = some r) : am_ev sc 5 47 [.ref 10] (zz_hC s t) ((.inl (some (.int r.1)), zz_hC r.2 t, true) : am_R) := by
  unfold fz_rd_takeFact at hF
  refine am_ev.of true rfl ?_
  show am_go sc _ _ _ _ (0, [some (.ref 10)], [], zz_hC s t, true) _
  refine am_go.blk hcd_rd_takeFact 2 (g := (3, [some (.ref 10)], [.int (1717658484 : Int32), .ref 10], zz_hC s t, true)) rfl ?_
  obtain ⟨q1, hq1, hF⟩ := am_bd hF
  refine am_go.call hcd_rd_takeFact rfl rfl rfl rfl (am_le8 rfl) (am_ev.le (by decide) (tz_rd_takeId (t := t) hq1)) ?_
  refine am_go.blk hcd_rd_takeFact 1 (g := (bif decide (q1.1 = 0) then 31 else 9, [some (.ref 10)], [], zz_hC q1.2 t, true)) rfl ?_
  refine am_go.br (fun hP => ?_) (fun hP => ?_)
  · replace hF := (if_pos hP).symm.trans hF
    refine am_go.blk hcd_rd_takeFact 1 (g := (32, [some (.ref 10)], [.int (0 : Int32)], zz_hC q1.2 t, true)) rfl ?_
    cases hF
    exact am_go.ret hcd_rd_takeFact rfl rfl ⟨rfl, rfl, (fun h => by cases h), Or.inr ⟨rfl, Or.inl rfl⟩, rfl⟩
  · replace hF := (if_neg hP).symm.trans hF
    refine am_go.blk hcd_rd_takeFact 2 (g := (13, [some (.ref 10)], [.long (4 : Int64), .ref 10], zz_hC q1.2 t, true)) rfl ?_
    obtain ⟨q2, hq2, hF⟩ := am_bd hF
    refine am_go.call hcd_rd_takeFact rfl rfl rfl rfl (am_le8 rfl) (am_ev.le (by decide) (tz_rd_takeSize (t := t) hq2)) ?_
    refine am_go.blk hcd_rd_takeFact 1 (g := (bif decide (q2.1 = 0) then 31 else 19, [some (.ref 10)], [], zz_hC q2.2 t, true)) rfl ?_
    refine am_go.br (fun hP => ?_) (fun hP => ?_)
    · replace hF := (if_pos hP).symm.trans hF
      refine am_go.blk hcd_rd_takeFact 1 (g := (32, [some (.ref 10)], [.int (0 : Int32)], zz_hC q2.2 t, true)) rfl ?_
      cases hF
      exact am_go.ret hcd_rd_takeFact rfl rfl ⟨rfl, rfl, (fun h => by cases h), Or.inr ⟨rfl, Or.inl rfl⟩, rfl⟩
    · replace hF := (if_neg hP).symm.trans hF
      refine am_go.blk hcd_rd_takeFact 4 (g := (25, [some (.ref 10)], [.long (64 : Int64), .long (0 : Int64), .int (4 : Int32), .ref 10], zz_hC q2.2 t, true)) rfl ?_
      obtain ⟨q3, hq3, hF⟩ := am_bd hF
      refine am_go.call hcd_rd_takeFact rfl rfl rfl rfl (am_le8 rfl) (am_ev.le (by decide) (tz_rd_takeWithin (t := t) hq3)) ?_
      refine am_go.blk hcd_rd_takeFact 1 (g := (bif decide (¬ q3.1 = 0) then 33 else 31, [some (.ref 10)], [], zz_hC q3.2 t, true)) rfl ?_
      refine am_go.br (fun hP => ?_) (fun hP => ?_)
      · replace hF := (if_pos hP).symm.trans hF
        refine am_go.blk hcd_rd_takeFact 9 (g := (48, [some (.ref 10)], [.int (1 : Int32)], zz_hC (zz_i (zz_i q3.2 18 (Int64.toInt32 (q3.2.2.1 0))) 16 (1 : Int32)) t, true)) rfl ?_
        cases hF
        exact am_go.ret hcd_rd_takeFact rfl rfl ⟨rfl, rfl, (fun h => by cases h), Or.inr ⟨rfl, Or.inr rfl⟩, rfl⟩
      · replace hF := (if_neg hP).symm.trans hF
        refine am_go.blk hcd_rd_takeFact 1 (g := (32, [some (.ref 10)], [.int (0 : Int32)], zz_hC q3.2 t, true)) rfl ?_
        cases hF
        exact am_go.ret hcd_rd_takeFact rfl rfl ⟨rfl, rfl, (fun h => by cases h), Or.inr ⟨rfl, Or.inl rfl⟩, rfl⟩
theorem hcd_rd_takeByteBehind : am_code 62 = am_c_rd_takeByteBehind := rfl
def fz_rd_takeByteBehind_19  (s : am_Z) : Option (Int32 × am_Z) :=
  some ((1 : Int32), s)
theorem tz_rd_takeByteBehind_19 {sc : am_S} {t : am_H} {h0 : am_H}   {s : am_Z} {r : Int32 × am_Z} (hF : fz_rd_takeByteBehind_19 s = some r) : am_go sc 4 (am_ev sc 3) 62 h0 (19, [none, none, none], [], zz_hC s t, true) ((.inl (some (.int r.1)), zz_hC r.2 t, true) : am_R) := by
  unfold fz_rd_takeByteBehind_19 at hF
  refine am_go.blk hcd_rd_takeByteBehind 2 (g := (24, [none, none, none], [.int (1 : Int32)], zz_hC s t, true)) rfl ?_
  cases hF
  exact am_go.ret hcd_rd_takeByteBehind rfl rfl ⟨rfl, rfl, (fun h => by cases h), Or.inr ⟨rfl, Or.inr rfl⟩, rfl⟩
def fz_rd_takeByteBehind (s : am_Z) (x1 : Int64) : Option (Int32 × am_Z) :=
  if (lg_cmp (x1 - x1 / (2 : Int64) * (2 : Int64)) (0 : Int64)) = 0 then
    fz_rd_takeByteBehind_19 s
  else
  (fz_rd_take s (1 : Int32) (0 : Int64)).bind fun q1 =>
  if q1.1 = 0 then
    some ((0 : Int32), q1.2)
  else
  fz_rd_takeByteBehind_19 q1.2
theorem tz_rd_takeByteBehind {sc : am_S} {t : am_H} {s : am_Z} {x1 : Int64} {r : Int32 × am_Z} (hF : fz_rd_takeByteBehind s x1 = some r) : am_ev sc 4 62 [.ref 10, .long x1] (zz_hC s t) ((.inl (some (.int r.1)), zz_hC r.2 t, true) : am_R) := by
  unfold fz_rd_takeByteBehind at hF
  refine am_ev.of true rfl ?_
  show am_go sc _ _ _ _ (0, [some (.ref 10), some (.long x1), none], [], zz_hC s t, true) _
  refine am_go.blk hcd_rd_takeByteBehind 2 (g := (4, [some (.ref 10), some (.long x1), none], [.long (2 : Int64), .long x1], zz_hC s t, true)) rfl ?_
  refine am_go.lrm hcd_rd_takeByteBehind rfl (by decide) ?_
  refine am_go.blk hcd_rd_takeByteBehind 3 (g := (bif decide ((lg_cmp (x1 - x1 / (2 : Int64) * (2 : Int64)) (0 : Int64)) = 0) then 19 else 10, [some (.ref 10), some (.long x1), none], [], zz_hC s t, true)) rfl ?_
  refine am_go.br (fun hP => ?_) (fun hP => ?_)
  · replace hF := (if_pos hP).symm.trans hF
    refine am_go.fgl [none, none, none] trivial ?_
    exact tz_rd_takeByteBehind_19  hF
  · replace hF := (if_neg hP).symm.trans hF
    refine am_go.blk hcd_rd_takeByteBehind 3 (g := (13, [some (.ref 10), some (.long x1), none], [.long (0 : Int64), .int (1 : Int32), .ref 10], zz_hC s t, true)) rfl ?_
    obtain ⟨q1, hq1, hF⟩ := am_bd hF
    refine am_go.call hcd_rd_takeByteBehind rfl rfl rfl rfl (am_le8 rfl) (am_ev.le (by decide) (tz_rd_take (t := t) hq1)) ?_
    refine am_go.blk hcd_rd_takeByteBehind 1 (g := (bif decide (q1.1 = 0) then 23 else 19, [some (.ref 10), some (.long x1), none], [], zz_hC q1.2 t, true)) rfl ?_
    refine am_go.br (fun hP => ?_) (fun hP => ?_)
    · replace hF := (if_pos hP).symm.trans hF
      refine am_go.blk hcd_rd_takeByteBehind 1 (g := (24, [some (.ref 10), some (.long x1), none], [.int (0 : Int32)], zz_hC q1.2 t, true)) rfl ?_
      cases hF
      exact am_go.ret hcd_rd_takeByteBehind rfl rfl ⟨rfl, rfl, (fun h => by cases h), Or.inr ⟨rfl, Or.inl rfl⟩, rfl⟩
    · replace hF := (if_neg hP).symm.trans hF
      refine am_go.fgl [none, none, none] trivial ?_
      exact tz_rd_takeByteBehind_19  hF
theorem hcd_rd_passOver : am_code 50 = am_c_rd_passOver := rfl
def fz_rd_passOver (s : am_Z) : Option (Int32 × am_Z) :=
  (fz_by_has (zz_i s 14 ((s.1 14) + (4 : Int32))) ((s.1 14) + (4 : Int32)) (4 : Int32)).bind fun q1 =>
  if ¬ q1 = 0 then
    (fz_by_numberAt (zz_i s 14 ((s.1 14) + (4 : Int32))) ((s.1 14) + (4 : Int32)) (4 : Int32) (s.1 15)).bind fun q2 =>
    (fz_rd_takeSize (zz_i s 14 ((s.1 14) + (4 : Int32))) q2).bind fun q3 =>
    if ¬ q3.1 = 0 then
      (fz_rd_takeByteBehind (zz_i q3.2 14 ((q3.2.1 14) + (Int64.toInt32 q2))) q2).bind fun q4 =>
      if ¬ (q4.1 = 0 ∨ q4.1 = 1) then none else
      some (q4.1, q4.2)
    else
    some ((0 : Int32), q3.2)
  else
  some ((0 : Int32), (zz_i s 14 ((s.1 14) + (4 : Int32))))
theorem tz_rd_passOver {sc : am_S} {t : am_H} {s : am_Z} {r : Int32 × am_Z} (hF : fz_rd_passOver s = some r) : am_ev sc 5 50 [.ref 10] (zz_hC s t) ((.inl (some (.int r.1)), zz_hC r.2 t, true) : am_R) := by
  unfold fz_rd_passOver at hF
  refine am_ev.of true rfl ?_
  show am_go sc _ _ _ _ (0, [some (.ref 10), none, none], [], zz_hC s t, true) _
  refine am_go.blk hcd_rd_passOver 11 (g := (19, [some (.ref 10), none, none], [.int (4 : Int32), .int ((s.1 14) + (4 : Int32)), .ref 3], zz_hC (zz_i s 14 ((s.1 14) + (4 : Int32))) t, true)) rfl ?_
  obtain ⟨q1, hq1, hF⟩ := am_bd hF
  refine am_go.call hcd_rd_passOver rfl rfl rfl rfl (am_le8 rfl) (am_ev.le (by decide) (tz_by_has (t := t) hq1)) ?_
  refine am_go.blk hcd_rd_passOver 1 (g := (bif decide (¬ q1 = 0) then 27 else 25, [some (.ref 10), none, none], [], zz_hC (zz_i s 14 ((s.1 14) + (4 : Int32))) t, true)) rfl ?_
  refine am_go.br (fun hP => ?_) (fun hP => ?_)
  · replace hF := (if_pos hP).symm.trans hF
    refine am_go.blk hcd_rd_passOver 7 (g := (40, [some (.ref 10), none, none], [.int (s.1 15), .int (4 : Int32), .int ((s.1 14) + (4 : Int32)), .ref 3], zz_hC (zz_i s 14 ((s.1 14) + (4 : Int32))) t, true)) rfl ?_
    obtain ⟨q2, hq2, hF⟩ := am_bd hF
    refine am_go.call hcd_rd_passOver rfl rfl rfl rfl (am_le8 rfl) (am_ev.le (by decide) (tz_by_numberAt (t := t) hq2)) ?_
    refine am_go.blk hcd_rd_passOver 3 (g := (46, [some (.ref 10), some (.long q2), none], [.long q2, .ref 10], zz_hC (zz_i s 14 ((s.1 14) + (4 : Int32))) t, true)) rfl ?_
    obtain ⟨q3, hq3, hF⟩ := am_bd hF
    refine am_go.call hcd_rd_passOver rfl rfl rfl rfl (am_le8 rfl) (am_ev.le (by decide) (tz_rd_takeSize (t := t) hq3)) ?_
    refine am_go.blk hcd_rd_passOver 1 (g := (bif decide (¬ q3.1 = 0) then 54 else 52, [some (.ref 10), some (.long q2), none], [], zz_hC q3.2 t, true)) rfl ?_
    refine am_go.br (fun hP => ?_) (fun hP => ?_)
    · replace hF := (if_pos hP).symm.trans hF
      refine am_go.blk hcd_rd_passOver 9 (g := (67, [some (.ref 10), some (.long q2), none], [.long q2, .ref 10], zz_hC (zz_i q3.2 14 ((q3.2.1 14) + (Int64.toInt32 q2))) t, true)) rfl ?_
      obtain ⟨q4, hq4, hF⟩ := am_bd hF
      refine am_go.call hcd_rd_passOver rfl rfl rfl rfl (am_le8 rfl) (am_ev.le (by decide) (tz_rd_takeByteBehind (t := t) hq4)) ?_
      obtain ⟨hb, hF⟩ := am_ng hF
      cases hF
      exact am_go.ret hcd_rd_passOver rfl rfl ⟨rfl, rfl, (fun h => by cases h), Or.inr ⟨rfl, Classical.not_not.mp hb⟩, rfl⟩
    · replace hF := (if_neg hP).symm.trans hF
      refine am_go.blk hcd_rd_passOver 1 (g := (53, [some (.ref 10), some (.long q2), none], [.int (0 : Int32)], zz_hC q3.2 t, true)) rfl ?_
      cases hF
      exact am_go.ret hcd_rd_passOver rfl rfl ⟨rfl, rfl, (fun h => by cases h), Or.inr ⟨rfl, Or.inl rfl⟩, rfl⟩
  · replace hF := (if_neg hP).symm.trans hF
    refine am_go.blk hcd_rd_passOver 1 (g := (26, [some (.ref 10), none, none], [.int (0 : Int32)], zz_hC (zz_i s 14 ((s.1 14) + (4 : Int32))) t, true)) rfl ?_
    cases hF
    exact am_go.ret hcd_rd_passOver rfl rfl ⟨rfl, rfl, (fun h => by cases h), Or.inr ⟨rfl, Or.inl rfl⟩, rfl⟩
theorem hcd_rd_takeChunk : am_code 42 = am_c_rd_takeChunk := rfl
def fz_rd_takeChunk_141  (s : am_Z) : Option (Int32 × am_Z) :=
  (fz_rd_passOver s).bind fun q1 =>
  if ¬ (q1.1 = 0 ∨ q1.1 = 1) then none else
  some (q1.1, q1.2)
theorem tz_rd_takeChunk_141 {sc : am_S} {t : am_H} {h0 : am_H}   {s : am_Z} {r : Int32 × am_Z} (hF : fz_rd_takeChunk_141 s = some r) : am_go sc 6 (am_ev sc 5) 42 h0 (141, [some (.ref 10), none], [], zz_hC s t, true) ((.inl (some (.int r.1)), zz_hC r.2 t, true) : am_R) := by
  unfold fz_rd_takeChunk_141 at hF
  refine am_go.blk hcd_rd_takeChunk 1 (g := (142, [some (.ref 10), none], [.ref 10], zz_hC s t, true)) rfl ?_
  obtain ⟨q1, hq1, hF⟩ := am_bd hF
  refine am_go.call hcd_rd_takeChunk rfl rfl rfl rfl (am_le8 rfl) (am_ev.le (by decide) (tz_rd_passOver (t := t) hq1)) ?_
  obtain ⟨hb, hF⟩ := am_ng hF
  cases hF
  exact am_go.ret hcd_rd_takeChunk rfl rfl ⟨rfl, rfl, (fun h => by cases h), Or.inr ⟨rfl, Classical.not_not.mp hb⟩, rfl⟩
def fz_rd_takeChunk_139  (s : am_Z) : Option (Int32 × am_Z) :=
  some ((0 : Int32), s)
theorem tz_rd_takeChunk_139 {sc : am_S} {t : am_H} {h0 : am_H}   {s : am_Z} {r : Int32 × am_Z} (hF : fz_rd_takeChunk_139 s = some r) : am_go sc 6 (am_ev sc 5) 42 h0 (139, [none, none], [], zz_hC s t, true) ((.inl (some (.int r.1)), zz_hC r.2 t, true) : am_R) := by
  unfold fz_rd_takeChunk_139 at hF
  refine am_go.blk hcd_rd_takeChunk 1 (g := (140, [none, none], [.int (0 : Int32)], zz_hC s t, true)) rfl ?_
  cases hF
  exact am_go.ret hcd_rd_takeChunk rfl rfl ⟨rfl, rfl, (fun h => by cases h), Or.inr ⟨rfl, Or.inl rfl⟩, rfl⟩
def fz_rd_takeChunk_98  (x1 : Int32) (s : am_Z) : Option (Int32 × am_Z) :=
  if ¬ (s.1 15) = 0 then
    fz_rd_takeChunk_141 s
  else
  if ¬ x1 = (1717658484 : Int32) then
    fz_rd_takeChunk_141 s
  else
  (fz_fm_hasBlocks_13 s).bind fun q1 =>
  if q1 = 0 then
    fz_rd_takeChunk_141 s
  else
  if ¬ (s.1 16) = 0 then
    fz_rd_takeChunk_139 s
  else
  (fz_rd_takeFact s).bind fun q2 =>
  if q2.1 = 0 then
    fz_rd_takeChunk_139 q2.2
  else
  some ((1 : Int32), q2.2)
theorem tz_rd_takeChunk_98 {sc : am_S} {t : am_H} {h0 : am_H}   {x1 : Int32} {s : am_Z} {r : Int32 × am_Z} (hF : fz_rd_takeChunk_98 x1 s = some r) : am_go sc 6 (am_ev sc 5) 42 h0 (98, [some (.ref 10), some (.int x1)], [], zz_hC s t, true) ((.inl (some (.int r.1)), zz_hC r.2 t, true) : am_R) := by
  unfold fz_rd_takeChunk_98 at hF
  refine am_go.blk hcd_rd_takeChunk 3 (g := (bif decide (¬ (s.1 15) = 0) then 141 else 105, [some (.ref 10), some (.int x1)], [], zz_hC s t, true)) rfl ?_
  refine am_go.br (fun hP => ?_) (fun hP => ?_)
  · replace hF := (if_pos hP).symm.trans hF
    refine am_go.fgl [some (.ref 10), none] ⟨rfl, trivial⟩ ?_
    exact tz_rd_takeChunk_141  hF
  · replace hF := (if_neg hP).symm.trans hF
    refine am_go.blk hcd_rd_takeChunk 3 (g := (bif decide (¬ x1 = (1717658484 : Int32)) then 141 else 111, [some (.ref 10), some (.int x1)], [], zz_hC s t, true)) rfl ?_
    refine am_go.br (fun hP => ?_) (fun hP => ?_)
    · replace hF := (if_pos hP).symm.trans hF
      refine am_go.fgl [some (.ref 10), none] ⟨rfl, trivial⟩ ?_
      exact tz_rd_takeChunk_141  hF
    · replace hF := (if_neg hP).symm.trans hF
      refine am_go.blk hcd_rd_takeChunk 2 (g := (115, [some (.ref 10), some (.int x1)], [.ref 13], zz_hC s t, true)) rfl ?_
      obtain ⟨q1, hq1, hF⟩ := am_bd hF
      refine am_go.call hcd_rd_takeChunk rfl rfl rfl rfl (am_le8 rfl) (am_ev.le (by decide) (tz_fm_hasBlocks_13 (t := t) hq1)) ?_
      refine am_go.blk hcd_rd_takeChunk 1 (g := (bif decide (q1 = 0) then 141 else 121, [some (.ref 10), some (.int x1)], [], zz_hC s t, true)) rfl ?_
      refine am_go.br (fun hP => ?_) (fun hP => ?_)
      · replace hF := (if_pos hP).symm.trans hF
        refine am_go.fgl [some (.ref 10), none] ⟨rfl, trivial⟩ ?_
        exact tz_rd_takeChunk_141  hF
      · replace hF := (if_neg hP).symm.trans hF
        refine am_go.blk hcd_rd_takeChunk 3 (g := (bif decide (¬ (s.1 16) = 0) then 139 else 128, [some (.ref 10), some (.int x1)], [], zz_hC s t, true)) rfl ?_
        refine am_go.br (fun hP => ?_) (fun hP => ?_)
        · replace hF := (if_pos hP).symm.trans hF
          refine am_go.fgl [none, none] trivial ?_
          exact tz_rd_takeChunk_139  hF
        · replace hF := (if_neg hP).symm.trans hF
          refine am_go.blk hcd_rd_takeChunk 1 (g := (129, [some (.ref 10), some (.int x1)], [.ref 10], zz_hC s t, true)) rfl ?_
          obtain ⟨q2, hq2, hF⟩ := am_bd hF
          refine am_go.call hcd_rd_takeChunk rfl rfl rfl rfl (am_le8 rfl) (am_ev.le (by decide) (tz_rd_takeFact (t := t) hq2)) ?_
          refine am_go.blk hcd_rd_takeChunk 1 (g := (bif decide (q2.1 = 0) then 139 else 135, [some (.ref 10), some (.int x1)], [], zz_hC q2.2 t, true)) rfl ?_
          refine am_go.br (fun hP => ?_) (fun hP => ?_)
          · replace hF := (if_pos hP).symm.trans hF
            refine am_go.fgl [none, none] trivial ?_
            exact tz_rd_takeChunk_139  hF
          · replace hF := (if_neg hP).symm.trans hF
            refine am_go.blk hcd_rd_takeChunk 2 (g := (140, [some (.ref 10), some (.int x1)], [.int (1 : Int32)], zz_hC q2.2 t, true)) rfl ?_
            cases hF
            exact am_go.ret hcd_rd_takeChunk rfl rfl ⟨rfl, rfl, (fun h => by cases h), Or.inr ⟨rfl, Or.inr rfl⟩, rfl⟩
def fz_rd_takeChunk_96  (s : am_Z) : Option (Int32 × am_Z) :=
  some ((0 : Int32), s)
theorem tz_rd_takeChunk_96 {sc : am_S} {t : am_H} {h0 : am_H}   {s : am_Z} {r : Int32 × am_Z} (hF : fz_rd_takeChunk_96 s = some r) : am_go sc 6 (am_ev sc 5) 42 h0 (96, [none, none], [], zz_hC s t, true) ((.inl (some (.int r.1)), zz_hC r.2 t, true) : am_R) := by
  unfold fz_rd_takeChunk_96 at hF
  refine am_go.blk hcd_rd_takeChunk 1 (g := (97, [none, none], [.int (0 : Int32)], zz_hC s t, true)) rfl ?_
  cases hF
  exact am_go.ret hcd_rd_takeChunk rfl rfl ⟨rfl, rfl, (fun h => by cases h), Or.inr ⟨rfl, Or.inl rfl⟩, rfl⟩
def fz_rd_takeChunk_62  (x1 : Int32) (s : am_Z) : Option (Int32 × am_Z) :=
  if ¬ (s.1 15) = 0 then
    fz_rd_takeChunk_98 x1 s
  else
  if ¬ x1 = (1718449184 : Int32) then
    fz_rd_takeChunk_98 x1 s
  else
  if ¬ (s.1 22) = 0 then
    fz_rd_takeChunk_96 s
  else
  (fz_rd_takeFmt s).bind fun q1 =>
  if q1.1 = 0 then
    fz_rd_takeChunk_96 q1.2
  else
  some ((1 : Int32), q1.2)
theorem tz_rd_takeChunk_62 {sc : am_S} {t : am_H} {h0 : am_H}   {x1 : Int32} {s : am_Z} {r : Int32 × am_Z} (hF : fz_rd_takeChunk_62 x1 s = some r) : am_go sc 6 (am_ev sc 5) 42 h0 (62, [some (.ref 10), some (.int x1)], [], zz_hC s t, true) ((.inl (some (.int r.1)), zz_hC r.2 t, true) : am_R) := by
  unfold fz_rd_takeChunk_62 at hF
  refine am_go.blk hcd_rd_takeChunk 3 (g := (bif decide (¬ (s.1 15) = 0) then 98 else 69, [some (.ref 10), some (.int x1)], [], zz_hC s t, true)) rfl ?_
  refine am_go.br (fun hP => ?_) (fun hP => ?_)
  · replace hF := (if_pos hP).symm.trans hF
    exact tz_rd_takeChunk_98  hF
  · replace hF := (if_neg hP).symm.trans hF
    refine am_go.blk hcd_rd_takeChunk 3 (g := (bif decide (¬ x1 = (1718449184 : Int32)) then 98 else 75, [some (.ref 10), some (.int x1)], [], zz_hC s t, true)) rfl ?_
    refine am_go.br (fun hP => ?_) (fun hP => ?_)
    · replace hF := (if_pos hP).symm.trans hF
      exact tz_rd_takeChunk_98  hF
    · replace hF := (if_neg hP).symm.trans hF
      refine am_go.blk hcd_rd_takeChunk 4 (g := (bif decide (¬ (s.1 22) = 0) then 96 else 85, [some (.ref 10), some (.int x1)], [], zz_hC s t, true)) rfl ?_
      refine am_go.br (fun hP => ?_) (fun hP => ?_)
      · replace hF := (if_pos hP).symm.trans hF
        refine am_go.fgl [none, none] trivial ?_
        exact tz_rd_takeChunk_96  hF
      · replace hF := (if_neg hP).symm.trans hF
        refine am_go.blk hcd_rd_takeChunk 1 (g := (86, [some (.ref 10), some (.int x1)], [.ref 10], zz_hC s t, true)) rfl ?_
        obtain ⟨q1, hq1, hF⟩ := am_bd hF
        refine am_go.call hcd_rd_takeChunk rfl rfl rfl rfl (am_le8 rfl) (am_ev.le (by decide) (tz_rd_takeFmt (t := t) hq1)) ?_
        refine am_go.blk hcd_rd_takeChunk 1 (g := (bif decide (q1.1 = 0) then 96 else 92, [some (.ref 10), some (.int x1)], [], zz_hC q1.2 t, true)) rfl ?_
        refine am_go.br (fun hP => ?_) (fun hP => ?_)
        · replace hF := (if_pos hP).symm.trans hF
          refine am_go.fgl [none, none] trivial ?_
          exact tz_rd_takeChunk_96  hF
        · replace hF := (if_neg hP).symm.trans hF
          refine am_go.blk hcd_rd_takeChunk 2 (g := (97, [some (.ref 10), some (.int x1)], [.int (1 : Int32)], zz_hC q1.2 t, true)) rfl ?_
          cases hF
          exact am_go.ret hcd_rd_takeChunk rfl rfl ⟨rfl, rfl, (fun h => by cases h), Or.inr ⟨rfl, Or.inr rfl⟩, rfl⟩
def fz_rd_takeChunk_60  (s : am_Z) : Option (Int32 × am_Z) :=
  some ((0 : Int32), s)
theorem tz_rd_takeChunk_60 {sc : am_S} {t : am_H} {h0 : am_H}   {s : am_Z} {r : Int32 × am_Z} (hF : fz_rd_takeChunk_60 s = some r) : am_go sc 6 (am_ev sc 5) 42 h0 (60, [none, none], [], zz_hC s t, true) ((.inl (some (.int r.1)), zz_hC r.2 t, true) : am_R) := by
  unfold fz_rd_takeChunk_60 at hF
  refine am_go.blk hcd_rd_takeChunk 1 (g := (61, [none, none], [.int (0 : Int32)], zz_hC s t, true)) rfl ?_
  cases hF
  exact am_go.ret hcd_rd_takeChunk rfl rfl ⟨rfl, rfl, (fun h => by cases h), Or.inr ⟨rfl, Or.inl rfl⟩, rfl⟩
def fz_rd_takeChunk (s : am_Z) : Option (Int32 × am_Z) :=
  (fz_by_has s (s.1 14) (4 : Int32)).bind fun q1 =>
  if ¬ q1 = 0 then
    (fz_by_idAt s (s.1 14)).bind fun q2 =>
    if (s.1 15) = 0 then
      fz_rd_takeChunk_62 q2 s
    else
    if ¬ q2 = (1129270605 : Int32) then
      fz_rd_takeChunk_62 q2 s
    else
    if ¬ (s.1 17) = 0 then
      fz_rd_takeChunk_60 s
    else
    (fz_rd_takeComm s).bind fun q3 =>
    if q3.1 = 0 then
      fz_rd_takeChunk_60 q3.2
    else
    some ((1 : Int32), q3.2)
  else
  some ((0 : Int32), s)
theorem tz_rd_takeChunk {sc : am_S} {t : am_H} {s : am_Z} {r : Int32 × am_Z} (hF : fz_rd_takeChunk s = some r) : am_ev sc 6 42 [.ref 10] (zz_hC s t) ((.inl (some (.int r.1)), zz_hC r.2 t, true) : am_R) := by
  unfold fz_rd_takeChunk at hF
  refine am_ev.of true rfl ?_
  show am_go sc _ _ _ _ (0, [some (.ref 10), none], [], zz_hC s t, true) _
  refine am_go.blk hcd_rd_takeChunk 5 (g := (9, [some (.ref 10), none], [.int (4 : Int32), .int (s.1 14), .ref 3], zz_hC s t, true)) rfl ?_
  obtain ⟨q1, hq1, hF⟩ := am_bd hF
  refine am_go.call hcd_rd_takeChunk rfl rfl rfl rfl (am_le8 rfl) (am_ev.le (by decide) (tz_by_has (t := t) hq1)) ?_
  refine am_go.blk hcd_rd_takeChunk 1 (g := (bif decide (¬ q1 = 0) then 17 else 15, [some (.ref 10), none], [], zz_hC s t, true)) rfl ?_
  refine am_go.br (fun hP => ?_) (fun hP => ?_)
  · replace hF := (if_pos hP).symm.trans hF
    refine am_go.blk hcd_rd_takeChunk 4 (g := (25, [some (.ref 10), none], [.int (s.1 14), .ref 3], zz_hC s t, true)) rfl ?_
    obtain ⟨q2, hq2, hF⟩ := am_bd hF
    refine am_go.call hcd_rd_takeChunk rfl rfl rfl rfl (am_le8 rfl) (am_ev.le (by decide) (tz_by_idAt (t := t) hq2)) ?_
    refine am_go.blk hcd_rd_takeChunk 4 (g := (bif decide ((s.1 15) = 0) then 62 else 36, [some (.ref 10), some (.int q2)], [], zz_hC s t, true)) rfl ?_
    refine am_go.br (fun hP => ?_) (fun hP => ?_)
    · replace hF := (if_pos hP).symm.trans hF
      exact tz_rd_takeChunk_62  hF
    · replace hF := (if_neg hP).symm.trans hF
      refine am_go.blk hcd_rd_takeChunk 3 (g := (bif decide (¬ q2 = (1129270605 : Int32)) then 62 else 42, [some (.ref 10), some (.int q2)], [], zz_hC s t, true)) rfl ?_
      refine am_go.br (fun hP => ?_) (fun hP => ?_)
      · replace hF := (if_pos hP).symm.trans hF
        exact tz_rd_takeChunk_62  hF
      · replace hF := (if_neg hP).symm.trans hF
        refine am_go.blk hcd_rd_takeChunk 3 (g := (bif decide (¬ (s.1 17) = 0) then 60 else 49, [some (.ref 10), some (.int q2)], [], zz_hC s t, true)) rfl ?_
        refine am_go.br (fun hP => ?_) (fun hP => ?_)
        · replace hF := (if_pos hP).symm.trans hF
          refine am_go.fgl [none, none] trivial ?_
          exact tz_rd_takeChunk_60  hF
        · replace hF := (if_neg hP).symm.trans hF
          refine am_go.blk hcd_rd_takeChunk 1 (g := (50, [some (.ref 10), some (.int q2)], [.ref 10], zz_hC s t, true)) rfl ?_
          obtain ⟨q3, hq3, hF⟩ := am_bd hF
          refine am_go.call hcd_rd_takeChunk rfl rfl rfl rfl (am_le8 rfl) (am_ev.le (by decide) (tz_rd_takeComm (t := t) hq3)) ?_
          refine am_go.blk hcd_rd_takeChunk 1 (g := (bif decide (q3.1 = 0) then 60 else 56, [some (.ref 10), some (.int q2)], [], zz_hC q3.2 t, true)) rfl ?_
          refine am_go.br (fun hP => ?_) (fun hP => ?_)
          · replace hF := (if_pos hP).symm.trans hF
            refine am_go.fgl [none, none] trivial ?_
            exact tz_rd_takeChunk_60  hF
          · replace hF := (if_neg hP).symm.trans hF
            refine am_go.blk hcd_rd_takeChunk 2 (g := (61, [some (.ref 10), some (.int q2)], [.int (1 : Int32)], zz_hC q3.2 t, true)) rfl ?_
            cases hF
            exact am_go.ret hcd_rd_takeChunk rfl rfl ⟨rfl, rfl, (fun h => by cases h), Or.inr ⟨rfl, Or.inr rfl⟩, rfl⟩
  · replace hF := (if_neg hP).symm.trans hF
    refine am_go.blk hcd_rd_takeChunk 1 (g := (16, [some (.ref 10), none], [.int (0 : Int32)], zz_hC s t, true)) rfl ?_
    cases hF
    exact am_go.ret hcd_rd_takeChunk rfl rfl ⟨rfl, rfl, (fun h => by cases h), Or.inr ⟨rfl, Or.inl rfl⟩, rfl⟩
theorem hcd_rd_takeSsnd : am_code 59 = am_c_rd_takeSsnd := rfl
def fz_rd_takeSsnd_77  : Nat → Int32 → Int32 → Int32 → am_Z → Option (Int32 × am_Z)
  | 0, _, _, _, _ => none
  | n + 1, x1, x2, x3, s =>
    if (s.1 18) ≤ x3 then
      (fz_rd_takeByteBehind s (Int32.toInt64 x2)).bind fun q1 =>
      if ¬ (q1.1 = 0 ∨ q1.1 = 1) then none else
      some (q1.1, q1.2)
    else
    (fz_by_numberAt s (s.1 14) (x1 / (8 : Int32)) (s.1 15)).bind fun q2 =>
    if ((Int64.toInt32 q2) &&& (((1 : Int32) <<< ((x1 - (s.1 19)) &&& 31)) - (1 : Int32))) = 0 then
      (fz_so_append_11 s (Int16.toInt32 (Int32.toInt16 ((Int64.toInt32 q2) <<< (((16 : Int32) - x1) &&& 31))))).bind fun q3 =>
      fz_rd_takeSsnd_77 n x1 x2 (x3 + (1 : Int32)) (zz_i q3 14 ((q3.1 14) + (x1 / (8 : Int32))))
    else
    some ((0 : Int32), s)
set_option maxRecDepth 20000 in
theorem tz_rd_takeSsnd_77 {sc : am_S} {t : am_H} {h0 : am_H}   : ∀ (n : Nat) (x1 : Int32) (x2 : Int32) (x3 : Int32) (s : am_Z) (r : Int32 × am_Z), fz_rd_takeSsnd_77  n x1 x2 x3 s = some r → am_go sc 5 (am_ev sc 4) 59 h0 (77, [some (.ref 10), some (.int x1), some (.int x2), some (.int x3), none], [], zz_hC s t, true) ((.inl (some (.int r.1)), zz_hC r.2 t, true) : am_R) := by
  intro n
  induction n with
  | zero => intro x1 x2 x3 s r hF; cases hF
  | succ n ih =>
    intro x1 x2 x3 s r hF
    unfold fz_rd_takeSsnd_77 at hF
    refine am_go.blk hcd_rd_takeSsnd 4 (g := (bif decide ((s.1 18) ≤ x3) then 159 else 85, [some (.ref 10), some (.int x1), some (.int x2), some (.int x3), none], [], zz_hC s t, true)) rfl ?_
    refine am_go.br (fun hP => ?_) (fun hP => ?_)
    · replace hF := (if_pos hP).symm.trans hF
      refine am_go.blk hcd_rd_takeSsnd 3 (g := (162, [some (.ref 10), some (.int x1), some (.int x2), some (.int x3), none], [.long (Int32.toInt64 x2), .ref 10], zz_hC s t, true)) rfl ?_
      obtain ⟨q1, hq1, hF⟩ := am_bd hF
      refine am_go.call hcd_rd_takeSsnd rfl rfl rfl rfl (am_le8 rfl) (am_ev.le (by decide) (tz_rd_takeByteBehind (t := t) hq1)) ?_
      obtain ⟨hb, hF⟩ := am_ng hF
      cases hF
      exact am_go.ret hcd_rd_takeSsnd rfl rfl ⟨rfl, rfl, (fun h => by cases h), Or.inr ⟨rfl, Classical.not_not.mp hb⟩, rfl⟩
    · replace hF := (if_neg hP).symm.trans hF
      refine am_go.blk hcd_rd_takeSsnd 6 (g := (96, [some (.ref 10), some (.int x1), some (.int x2), some (.int x3), none], [.int (8 : Int32), .int x1, .int (s.1 14), .ref 3], zz_hC s t, true)) rfl ?_
      refine am_go.idv hcd_rd_takeSsnd rfl (by decide) ?_
      refine am_go.blk hcd_rd_takeSsnd 2 (g := (101, [some (.ref 10), some (.int x1), some (.int x2), some (.int x3), none], [.int (s.1 15), .int (x1 / (8 : Int32)), .int (s.1 14), .ref 3], zz_hC s t, true)) rfl ?_
      obtain ⟨q2, hq2, hF⟩ := am_bd hF
      refine am_go.call hcd_rd_takeSsnd rfl rfl rfl rfl (am_le8 rfl) (am_ev.le (by decide) (tz_by_numberAt (t := t) hq2)) ?_
      refine am_go.blk hcd_rd_takeSsnd 13 (g := (bif decide (((Int64.toInt32 q2) &&& (((1 : Int32) <<< ((x1 - (s.1 19)) &&& 31)) - (1 : Int32))) = 0) then 125 else 123, [some (.ref 10), some (.int x1), some (.int x2), some (.int x3), some (.int (Int64.toInt32 q2))], [], zz_hC s t, true)) rfl ?_
      refine am_go.br (fun hP => ?_) (fun hP => ?_)
      · replace hF := (if_pos hP).symm.trans hF
        refine am_go.blk hcd_rd_takeSsnd 8 (g := (137, [some (.ref 10), some (.int x1), some (.int x2), some (.int x3), some (.int (Int64.toInt32 q2))], [.int (Int16.toInt32 (Int32.toInt16 ((Int64.toInt32 q2) <<< (((16 : Int32) - x1) &&& 31)))), .ref 11], zz_hC s t, true)) rfl ?_
        obtain ⟨q3, hq3, hF⟩ := am_bd hF
        refine am_go.call hcd_rd_takeSsnd rfl rfl rfl rfl (am_le8 rfl) (am_ev.le (by decide) (tz_so_append_11 (t := t) hq3)) ?_
        refine am_go.blk hcd_rd_takeSsnd 5 (g := (148, [some (.ref 10), some (.int x1), some (.int x2), some (.int x3), some (.int (Int64.toInt32 q2))], [.int (8 : Int32), .int x1, .int (q3.1 14), .ref 10], zz_hC q3 t, true)) rfl ?_
        refine am_go.idv hcd_rd_takeSsnd rfl (by decide) ?_
        refine am_go.blk hcd_rd_takeSsnd 4 (g := (77, [some (.ref 10), some (.int x1), some (.int x2), some (.int (x3 + (1 : Int32))), some (.int (Int64.toInt32 q2))], [], zz_hC (zz_i q3 14 ((q3.1 14) + (x1 / (8 : Int32)))) t, true)) rfl ?_
        refine am_go.fgl [some (.ref 10), some (.int x1), some (.int x2), some (.int (x3 + (1 : Int32))), none] ⟨rfl, rfl, rfl, rfl, trivial⟩ ?_
        exact ih _ _ _ _ _ hF
      · replace hF := (if_neg hP).symm.trans hF
        refine am_go.blk hcd_rd_takeSsnd 1 (g := (124, [some (.ref 10), some (.int x1), some (.int x2), some (.int x3), some (.int (Int64.toInt32 q2))], [.int (0 : Int32)], zz_hC s t, true)) rfl ?_
        cases hF
        exact am_go.ret hcd_rd_takeSsnd rfl rfl ⟨rfl, rfl, (fun h => by cases h), Or.inr ⟨rfl, Or.inl rfl⟩, rfl⟩
def fz_rd_takeSsnd_16  (y0 : Int32) (s : am_Z) : Option (Int32 × am_Z) :=
  if (s.1 17) = 0 then
    some ((0 : Int32), s)
  else
  (fz_rd_takeId s (1397968452 : Int32)).bind fun q1 =>
  if q1.1 = 0 then
    some ((0 : Int32), q1.2)
  else
  (fz_rd_takeSize q1.2 (Int32.toInt64 ((8 : Int32) + ((s.1 18) * (y0 / (8 : Int32)))))).bind fun q2 =>
  if q2.1 = 0 then
    some ((0 : Int32), q2.2)
  else
  (fz_rd_take q2.2 (4 : Int32) (0 : Int64)).bind fun q3 =>
  if q3.1 = 0 then
    some ((0 : Int32), q3.2)
  else
  (fz_rd_take q3.2 (4 : Int32) (0 : Int64)).bind fun q4 =>
  if ¬ q4.1 = 0 then
    fz_rd_takeSsnd_77 fz_fu y0 ((8 : Int32) + ((s.1 18) * (y0 / (8 : Int32)))) (0 : Int32) q4.2
  else
  some ((0 : Int32), q4.2)
set_option maxRecDepth 20000 in
theorem tz_rd_takeSsnd_16 {sc : am_S} {t : am_H} {h0 : am_H}   {y0 : Int32} {s : am_Z} {r : Int32 × am_Z} (hF : fz_rd_takeSsnd_16 y0 s = some r) : am_go sc 5 (am_ev sc 4) 59 h0 (16, [some (.ref 10), none, none, none, none], [.int y0], zz_hC s t, true) ((.inl (some (.int r.1)), zz_hC r.2 t, true) : am_R) := by
  unfold fz_rd_takeSsnd_16 at hF
  refine am_go.blk hcd_rd_takeSsnd 6 (g := (26, [some (.ref 10), some (.int y0), none, none, none], [.int (8 : Int32), .int y0, .int (s.1 18), .int (8 : Int32)], zz_hC s t, true)) rfl ?_
  refine am_go.idv hcd_rd_takeSsnd rfl (by decide) ?_
  refine am_go.blk hcd_rd_takeSsnd 6 (g := (bif decide ((s.1 17) = 0) then 73 else 37, [some (.ref 10), some (.int y0), some (.int ((8 : Int32) + ((s.1 18) * (y0 / (8 : Int32))))), none, none], [], zz_hC s t, true)) rfl ?_
  refine am_go.br (fun hP => ?_) (fun hP => ?_)
  · replace hF := (if_pos hP).symm.trans hF
    refine am_go.blk hcd_rd_takeSsnd 1 (g := (74, [some (.ref 10), some (.int y0), some (.int ((8 : Int32) + ((s.1 18) * (y0 / (8 : Int32))))), none, none], [.int (0 : Int32)], zz_hC s t, true)) rfl ?_
    cases hF
    exact am_go.ret hcd_rd_takeSsnd rfl rfl ⟨rfl, rfl, (fun h => by cases h), Or.inr ⟨rfl, Or.inl rfl⟩, rfl⟩
  · replace hF := (if_neg hP).symm.trans hF
    refine am_go.blk hcd_rd_takeSsnd 2 (g := (40, [some (.ref 10), some (.int y0), some (.int ((8 : Int32) + ((s.1 18) * (y0 / (8 : Int32))))), none, none], [.int (1397968452 : Int32), .ref 10], zz_hC s t, true)) rfl ?_
    obtain ⟨q1, hq1, hF⟩ := am_bd hF
    refine am_go.call hcd_rd_takeSsnd rfl rfl rfl rfl (am_le8 rfl) (am_ev.le (by decide) (tz_rd_takeId (t := t) hq1)) ?_
    refine am_go.blk hcd_rd_takeSsnd 1 (g := (bif decide (q1.1 = 0) then 73 else 46, [some (.ref 10), some (.int y0), some (.int ((8 : Int32) + ((s.1 18) * (y0 / (8 : Int32))))), none, none], [], zz_hC q1.2 t, true)) rfl ?_
    refine am_go.br (fun hP => ?_) (fun hP => ?_)
    · replace hF := (if_pos hP).symm.trans hF
      refine am_go.blk hcd_rd_takeSsnd 1 (g := (74, [some (.ref 10), some (.int y0), some (.int ((8 : Int32) + ((s.1 18) * (y0 / (8 : Int32))))), none, none], [.int (0 : Int32)], zz_hC q1.2 t, true)) rfl ?_
      cases hF
      exact am_go.ret hcd_rd_takeSsnd rfl rfl ⟨rfl, rfl, (fun h => by cases h), Or.inr ⟨rfl, Or.inl rfl⟩, rfl⟩
    · replace hF := (if_neg hP).symm.trans hF
      refine am_go.blk hcd_rd_takeSsnd 3 (g := (49, [some (.ref 10), some (.int y0), some (.int ((8 : Int32) + ((s.1 18) * (y0 / (8 : Int32))))), none, none], [.long (Int32.toInt64 ((8 : Int32) + ((s.1 18) * (y0 / (8 : Int32))))), .ref 10], zz_hC q1.2 t, true)) rfl ?_
      obtain ⟨q2, hq2, hF⟩ := am_bd hF
      refine am_go.call hcd_rd_takeSsnd rfl rfl rfl rfl (am_le8 rfl) (am_ev.le (by decide) (tz_rd_takeSize (t := t) hq2)) ?_
      refine am_go.blk hcd_rd_takeSsnd 1 (g := (bif decide (q2.1 = 0) then 73 else 55, [some (.ref 10), some (.int y0), some (.int ((8 : Int32) + ((s.1 18) * (y0 / (8 : Int32))))), none, none], [], zz_hC q2.2 t, true)) rfl ?_
      refine am_go.br (fun hP => ?_) (fun hP => ?_)
      · replace hF := (if_pos hP).symm.trans hF
        refine am_go.blk hcd_rd_takeSsnd 1 (g := (74, [some (.ref 10), some (.int y0), some (.int ((8 : Int32) + ((s.1 18) * (y0 / (8 : Int32))))), none, none], [.int (0 : Int32)], zz_hC q2.2 t, true)) rfl ?_
        cases hF
        exact am_go.ret hcd_rd_takeSsnd rfl rfl ⟨rfl, rfl, (fun h => by cases h), Or.inr ⟨rfl, Or.inl rfl⟩, rfl⟩
      · replace hF := (if_neg hP).symm.trans hF
        refine am_go.blk hcd_rd_takeSsnd 3 (g := (58, [some (.ref 10), some (.int y0), some (.int ((8 : Int32) + ((s.1 18) * (y0 / (8 : Int32))))), none, none], [.long (0 : Int64), .int (4 : Int32), .ref 10], zz_hC q2.2 t, true)) rfl ?_
        obtain ⟨q3, hq3, hF⟩ := am_bd hF
        refine am_go.call hcd_rd_takeSsnd rfl rfl rfl rfl (am_le8 rfl) (am_ev.le (by decide) (tz_rd_take (t := t) hq3)) ?_
        refine am_go.blk hcd_rd_takeSsnd 1 (g := (bif decide (q3.1 = 0) then 73 else 64, [some (.ref 10), some (.int y0), some (.int ((8 : Int32) + ((s.1 18) * (y0 / (8 : Int32))))), none, none], [], zz_hC q3.2 t, true)) rfl ?_
        refine am_go.br (fun hP => ?_) (fun hP => ?_)
        · replace hF := (if_pos hP).symm.trans hF
          refine am_go.blk hcd_rd_takeSsnd 1 (g := (74, [some (.ref 10), some (.int y0), some (.int ((8 : Int32) + ((s.1 18) * (y0 / (8 : Int32))))), none, none], [.int (0 : Int32)], zz_hC q3.2 t, true)) rfl ?_
          cases hF
          exact am_go.ret hcd_rd_takeSsnd rfl rfl ⟨rfl, rfl, (fun h => by cases h), Or.inr ⟨rfl, Or.inl rfl⟩, rfl⟩
        · replace hF := (if_neg hP).symm.trans hF
          refine am_go.blk hcd_rd_takeSsnd 3 (g := (67, [some (.ref 10), some (.int y0), some (.int ((8 : Int32) + ((s.1 18) * (y0 / (8 : Int32))))), none, none], [.long (0 : Int64), .int (4 : Int32), .ref 10], zz_hC q3.2 t, true)) rfl ?_
          obtain ⟨q4, hq4, hF⟩ := am_bd hF
          refine am_go.call hcd_rd_takeSsnd rfl rfl rfl rfl (am_le8 rfl) (am_ev.le (by decide) (tz_rd_take (t := t) hq4)) ?_
          refine am_go.blk hcd_rd_takeSsnd 1 (g := (bif decide (¬ q4.1 = 0) then 75 else 73, [some (.ref 10), some (.int y0), some (.int ((8 : Int32) + ((s.1 18) * (y0 / (8 : Int32))))), none, none], [], zz_hC q4.2 t, true)) rfl ?_
          refine am_go.br (fun hP => ?_) (fun hP => ?_)
          · replace hF := (if_pos hP).symm.trans hF
            refine am_go.blk hcd_rd_takeSsnd 2 (g := (77, [some (.ref 10), some (.int y0), some (.int ((8 : Int32) + ((s.1 18) * (y0 / (8 : Int32))))), some (.int (0 : Int32)), none], [], zz_hC q4.2 t, true)) rfl ?_
            exact tz_rd_takeSsnd_77  fz_fu _ _ _ _ _ hF
          · replace hF := (if_neg hP).symm.trans hF
            refine am_go.blk hcd_rd_takeSsnd 1 (g := (74, [some (.ref 10), some (.int y0), some (.int ((8 : Int32) + ((s.1 18) * (y0 / (8 : Int32))))), none, none], [.int (0 : Int32)], zz_hC q4.2 t, true)) rfl ?_
            cases hF
            exact am_go.ret hcd_rd_takeSsnd rfl rfl ⟨rfl, rfl, (fun h => by cases h), Or.inr ⟨rfl, Or.inl rfl⟩, rfl⟩
def fz_rd_takeSsnd (s : am_Z) : Option (Int32 × am_Z) :=
  if (8 : Int32) < (s.1 19) then
    fz_rd_takeSsnd_16 (16 : Int32) s
  else
  fz_rd_takeSsnd_16 (8 : Int32) s
set_option maxRecDepth 20000 in
theorem tz_rd_takeSsnd {sc : am_S} {t : am_H} {s : am_Z} {r : Int32 × am_Z} (hF : fz_rd_takeSsnd s = some r) : am_ev sc 5 59 [.ref 10] (zz_hC s t) ((.inl (some (.int r.1)), zz_hC r.2 t, true) : am_R) := by
  unfold fz_rd_takeSsnd at hF
  refine am_ev.of true rfl ?_
  show am_go sc _ _ _ _ (0, [some (.ref 10), none, none, none, none], [], zz_hC s t, true) _
  refine am_go.blk hcd_rd_takeSsnd 4 (g := (bif decide ((8 : Int32) < (s.1 19)) then 14 else 9, [some (.ref 10), none, none, none, none], [], zz_hC s t, true)) rfl ?_
  refine am_go.br (fun hP => ?_) (fun hP => ?_)
  · replace hF := (if_pos hP).symm.trans hF
    refine am_go.blk hcd_rd_takeSsnd 1 (g := (16, [some (.ref 10), none, none, none, none], [.int (16 : Int32)], zz_hC s t, true)) rfl ?_
    exact tz_rd_takeSsnd_16  hF
  · replace hF := (if_neg hP).symm.trans hF
    refine am_go.blk hcd_rd_takeSsnd 2 (g := (16, [some (.ref 10), none, none, none, none], [.int (8 : Int32)], zz_hC s t, true)) rfl ?_
    exact tz_rd_takeSsnd_16  hF
theorem hcd_rd_samplesOfPlain : am_code 52 = am_c_rd_samplesOfPlain := rfl
def fz_rd_samplesOfPlain_23 (s : am_Z) (y0 : Int64) (y1 : Int64) : Option (Int32) :=
  (fz_ma_minL y1 y0).bind fun q1 =>
  some (Int64.toInt32 q1)
theorem tz_rd_samplesOfPlain_23 {sc : am_S} {t : am_H} {h0 : am_H} {s : am_Z}  {y0 : Int64} {y1 : Int64} {r : Int32} (hF : fz_rd_samplesOfPlain_23 s y0 y1 = some r) : am_go sc 2 (am_ev sc 1) 52 h0 (23, [none, none, none], [.long y0, .long y1], zz_hC s t, false) ((.inl (some (.int r)), zz_hC s t, false) : am_R) := by
  unfold fz_rd_samplesOfPlain_23 at hF
  obtain ⟨q1, hq1, hF⟩ := am_bd hF
  refine am_go.call hcd_rd_samplesOfPlain rfl rfl rfl rfl (am_le8 rfl) (am_ev.le (by decide) (tz_ma_minL (h := zz_hC s t) hq1)) ?_
  refine am_go.blk hcd_rd_samplesOfPlain 1 (g := (27, [none, none, none], [.int (Int64.toInt32 q1)], zz_hC s t, false)) rfl ?_
  cases hF
  exact am_go.ret hcd_rd_samplesOfPlain rfl rfl ⟨rfl, rfl, (fun _ => rfl), Or.inl rfl, rfl⟩
def fz_rd_samplesOfPlain (s : am_Z) (x1 : Int64) : Option (Int32) :=
  if ¬ (s.1 24) = (2 : Int32) then
    fz_rd_samplesOfPlain_23 s x1 (64 : Int64)
  else
  fz_rd_samplesOfPlain_23 s (x1 / (2 : Int64)) (64 : Int64)
theorem tz_rd_samplesOfPlain {sc : am_S} {t : am_H} {s : am_Z} {x1 : Int64} {r : Int32} (hF : fz_rd_samplesOfPlain s x1 = some r) : am_ev sc 2 52 [.ref 10, .long x1] (zz_hC s t) ((.inl (some (.int r)), zz_hC s t, false) : am_R) := by
  unfold fz_rd_samplesOfPlain at hF
  refine am_ev.of false rfl ?_
  show am_go sc _ _ _ _ (0, [some (.ref 10), some (.long x1), none], [], zz_hC s t, false) _
  refine am_go.blk hcd_rd_samplesOfPlain 6 (g := (bif decide (¬ (s.1 24) = (2 : Int32)) then 22 else 14, [some (.ref 10), some (.long x1), none], [.long (64 : Int64)], zz_hC s t, false)) rfl ?_
  refine am_go.br (fun hP => ?_) (fun hP => ?_)
  · replace hF := (if_pos hP).symm.trans hF
    refine am_go.blk hcd_rd_samplesOfPlain 1 (g := (23, [some (.ref 10), some (.long x1), none], [.long x1, .long (64 : Int64)], zz_hC s t, false)) rfl ?_
    refine am_go.fgl [none, none, none] trivial ?_
    exact tz_rd_samplesOfPlain_23  hF
  · replace hF := (if_neg hP).symm.trans hF
    refine am_go.blk hcd_rd_samplesOfPlain 2 (g := (18, [some (.ref 10), some (.long x1), none], [.long (2 : Int64), .long x1, .long (64 : Int64)], zz_hC s t, false)) rfl ?_
    refine am_go.ldv hcd_rd_samplesOfPlain rfl (by decide) ?_
    refine am_go.blk hcd_rd_samplesOfPlain 1 (g := (23, [some (.ref 10), some (.long x1), none], [.long (x1 / (2 : Int64)), .long (64 : Int64)], zz_hC s t, false)) rfl ?_
    refine am_go.fgl [none, none, none] trivial ?_
    exact tz_rd_samplesOfPlain_23  hF
theorem hcd_rd_takePlain : am_code 53 = am_c_rd_takePlain := rfl
def fz_rd_takePlain_81 (K2 : Int32 → am_Z → Option (am_Z)) (x1 : Int32) (s : am_Z) : Option (am_Z) :=
  K2 (x1 + (1 : Int32)) (zz_i s 14 ((s.1 14) + (s.1 24)))
theorem tz_rd_takePlain_81 {sc : am_S} {t : am_H} {h0 : am_H} {K2 : Int32 → am_Z → Option (am_Z)} (hK2 : ∀ (x1 : Int32) (s : am_Z) (r : am_Z), K2 x1 s = some r → am_go sc 3 (am_ev sc 2) 53 h0 (2, [some (.ref 10), some (.int x1)], [], zz_hC s t, true) ((.inl (none), zz_hC r t, true) : am_R)) {x1 : Int32} {s : am_Z} {r : am_Z} (hF : fz_rd_takePlain_81 K2 x1 s = some r) : am_go sc 3 (am_ev sc 2) 53 h0 (81, [some (.ref 10), some (.int x1)], [], zz_hC s t, true) ((.inl (none), zz_hC r t, true) : am_R) := by
  unfold fz_rd_takePlain_81 at hF
  refine am_go.blk hcd_rd_takePlain 10 (g := (2, [some (.ref 10), some (.int (x1 + (1 : Int32)))], [], zz_hC (zz_i s 14 ((s.1 14) + (s.1 24))) t, true)) rfl ?_
  exact hK2 _ _ _ hF
def fz_rd_takePlain_2  : Nat → Int32 → am_Z → Option (am_Z)
  | 0, _, _ => none
  | n + 1, x1, s =>
    if (s.1 18) ≤ x1 then
      some s
    else
    if ¬ (s.1 24) = (1 : Int32) then
      (fz_by_numberAt s (s.1 14) (2 : Int32) (s.1 15)).bind fun q1 =>
      (fz_so_append_11 s (Int16.toInt32 (Int32.toInt16 (Int64.toInt32 q1)))).bind fun q2 =>
      fz_rd_takePlain_81 (fz_rd_takePlain_2 n) x1 q2
    else
    (fz_by_numberAt s (s.1 14) (1 : Int32) (s.1 15)).bind fun q3 =>
    (fz_so_append_11 s (((Int64.toInt32 q3) - (128 : Int32)) * (256 : Int32))).bind fun q4 =>
    fz_rd_takePlain_81 (fz_rd_takePlain_2 n) x1 q4
theorem tz_rd_takePlain_2 {sc : am_S} {t : am_H} {h0 : am_H}   : ∀ (n : Nat) (x1 : Int32) (s : am_Z) (r : am_Z), fz_rd_takePlain_2  n x1 s = some r → am_go sc 3 (am_ev sc 2) 53 h0 (2, [some (.ref 10), some (.int x1)], [], zz_hC s t, true) ((.inl (none), zz_hC r t, true) : am_R) := by
  intro n
  induction n with
  | zero => intro x1 s r hF; cases hF
  | succ n ih =>
    intro x1 s r hF
    unfold fz_rd_takePlain_2 at hF
    refine am_go.blk hcd_rd_takePlain 4 (g := (bif decide ((s.1 18) ≤ x1) then 103 else 10, [some (.ref 10), some (.int x1)], [], zz_hC s t, true)) rfl ?_
    refine am_go.br (fun hP => ?_) (fun hP => ?_)
    · replace hF := (if_pos hP).symm.trans hF
      cases hF
      exact am_go.ret hcd_rd_takePlain rfl rfl ⟨rfl, rfl, (fun h => by cases h), rfl, rfl⟩
    · replace hF := (if_neg hP).symm.trans hF
      refine am_go.blk hcd_rd_takePlain 5 (g := (bif decide (¬ (s.1 24) = (1 : Int32)) then 56 else 21, [some (.ref 10), some (.int x1)], [], zz_hC s t, true)) rfl ?_
      refine am_go.br (fun hP => ?_) (fun hP => ?_)
      · replace hF := (if_pos hP).symm.trans hF
        refine am_go.blk hcd_rd_takePlain 9 (g := (73, [some (.ref 10), some (.int x1)], [.int (s.1 15), .int (2 : Int32), .int (s.1 14), .ref 3, .ref 11], zz_hC s t, true)) rfl ?_
        obtain ⟨q1, hq1, hF⟩ := am_bd hF
        refine am_go.call hcd_rd_takePlain rfl rfl rfl rfl (am_le8 rfl) (am_ev.le (by decide) (tz_by_numberAt (t := t) hq1)) ?_
        refine am_go.blk hcd_rd_takePlain 2 (g := (78, [some (.ref 10), some (.int x1)], [.int (Int16.toInt32 (Int32.toInt16 (Int64.toInt32 q1))), .ref 11], zz_hC s t, true)) rfl ?_
        obtain ⟨q2, hq2, hF⟩ := am_bd hF
        refine am_go.call hcd_rd_takePlain rfl rfl rfl rfl (am_le8 rfl) (am_ev.le (by decide) (tz_so_append_11 (t := t) hq2)) ?_
        exact tz_rd_takePlain_81 (hK2 := ih) hF
      · replace hF := (if_neg hP).symm.trans hF
        refine am_go.blk hcd_rd_takePlain 9 (g := (38, [some (.ref 10), some (.int x1)], [.int (s.1 15), .int (1 : Int32), .int (s.1 14), .ref 3, .ref 11], zz_hC s t, true)) rfl ?_
        obtain ⟨q3, hq3, hF⟩ := am_bd hF
        refine am_go.call hcd_rd_takePlain rfl rfl rfl rfl (am_le8 rfl) (am_ev.le (by decide) (tz_by_numberAt (t := t) hq3)) ?_
        refine am_go.blk hcd_rd_takePlain 5 (g := (50, [some (.ref 10), some (.int x1)], [.int (((Int64.toInt32 q3) - (128 : Int32)) * (256 : Int32)), .ref 11], zz_hC s t, true)) rfl ?_
        obtain ⟨q4, hq4, hF⟩ := am_bd hF
        refine am_go.call hcd_rd_takePlain rfl rfl rfl rfl (am_le8 rfl) (am_ev.le (by decide) (tz_so_append_11 (t := t) hq4)) ?_
        refine am_go.blk hcd_rd_takePlain 1 (g := (81, [some (.ref 10), some (.int x1)], [], zz_hC q4 t, true)) rfl ?_
        exact tz_rd_takePlain_81 (hK2 := ih) hF
def fz_rd_takePlain (s : am_Z) : Option (am_Z) :=
  fz_rd_takePlain_2 fz_fu (0 : Int32) s
theorem tz_rd_takePlain {sc : am_S} {t : am_H} {s : am_Z} {r : am_Z} (hF : fz_rd_takePlain s = some r) : am_ev sc 3 53 [.ref 10] (zz_hC s t) ((.inl (none), zz_hC r t, true) : am_R) := by
  unfold fz_rd_takePlain at hF
  refine am_ev.of true rfl ?_
  show am_go sc _ _ _ _ (0, [some (.ref 10), none], [], zz_hC s t, true) _
  refine am_go.blk hcd_rd_takePlain 2 (g := (2, [some (.ref 10), some (.int (0 : Int32))], [], zz_hC s t, true)) rfl ?_
  exact tz_rd_takePlain_2  fz_fu _ _ _ hF
theorem hcd_rd_takeWord : am_code 56 = am_c_rd_takeWord := rfl
def fz_rd_takeWord (s : am_Z) : Option (Int32 × am_Z) :=
  (fz_by_numberAt s (s.1 14) (2 : Int32) (s.1 15)).bind fun q1 =>
  some ((Int16.toInt32 (Int32.toInt16 (Int64.toInt32 q1))), (zz_i s 14 ((s.1 14) + (2 : Int32))))
theorem tz_rd_takeWord {sc : am_S} {t : am_H} {s : am_Z} {r : Int32 × am_Z} (hF : fz_rd_takeWord s = some r) : am_ev sc 3 56 [.ref 10] (zz_hC s t) ((.inl (some (.int r.1)), zz_hC r.2 t, true) : am_R) := by
  unfold fz_rd_takeWord at hF
  refine am_ev.of true rfl ?_
  show am_go sc _ _ _ _ (0, [some (.ref 10), none], [], zz_hC s t, true) _
  refine am_go.blk hcd_rd_takeWord 7 (g := (13, [some (.ref 10), none], [.int (s.1 15), .int (2 : Int32), .int (s.1 14), .ref 3], zz_hC s t, true)) rfl ?_
  obtain ⟨q1, hq1, hF⟩ := am_bd hF
  refine am_go.call hcd_rd_takeWord rfl rfl rfl rfl (am_le8 rfl) (am_ev.le (by decide) (tz_by_numberAt (t := t) hq1)) ?_
  refine am_go.blk hcd_rd_takeWord 10 (g := (30, [some (.ref 10), some (.int (Int16.toInt32 (Int32.toInt16 (Int64.toInt32 q1))))], [.int (Int16.toInt32 (Int32.toInt16 (Int64.toInt32 q1)))], zz_hC (zz_i s 14 ((s.1 14) + (2 : Int32))) t, true)) rfl ?_
  cases hF
  exact am_go.ret hcd_rd_takeWord rfl rfl ⟨rfl, rfl, (fun h => by cases h), Or.inl rfl, rfl⟩
theorem hcd_rd_appendPromised : am_code 58 = am_c_rd_appendPromised := rfl
def fz_rd_appendPromised (s : am_Z) (x1 : Int32) : Option (am_Z) :=
  if (s.1 18) ≤ (s.1 20) then
    some s
  else
  (fz_so_append_11 s x1).bind fun q1 =>
  some q1
theorem tz_rd_appendPromised {sc : am_S} {t : am_H} {s : am_Z} {x1 : Int32} {r : am_Z} (hF : fz_rd_appendPromised s x1 = some r) : am_ev sc 2 58 [.ref 10, .int x1] (zz_hC s t) ((.inl (none), zz_hC r t, true) : am_R) := by
  unfold fz_rd_appendPromised at hF
  refine am_ev.of true rfl ?_
  show am_go sc _ _ _ _ (0, [some (.ref 10), some (.int x1)], [], zz_hC s t, true) _
  refine am_go.blk hcd_rd_appendPromised 6 (g := (bif decide ((s.1 18) ≤ (s.1 20)) then 22 else 14, [some (.ref 10), some (.int x1)], [], zz_hC s t, true)) rfl ?_
  refine am_go.br (fun hP => ?_) (fun hP => ?_)
  · replace hF := (if_pos hP).symm.trans hF
    cases hF
    exact am_go.ret hcd_rd_appendPromised rfl rfl ⟨rfl, rfl, (fun h => by cases h), rfl, rfl⟩
  · replace hF := (if_neg hP).symm.trans hF
    refine am_go.blk hcd_rd_appendPromised 3 (g := (19, [some (.ref 10), some (.int x1)], [.int x1, .ref 11], zz_hC s t, true)) rfl ?_
    obtain ⟨q1, hq1, hF⟩ := am_bd hF
    refine am_go.call hcd_rd_appendPromised rfl rfl rfl rfl (am_le8 rfl) (am_ev.le (by decide) (tz_so_append_11 (t := t) hq1)) ?_
    cases hF
    exact am_go.ret hcd_rd_appendPromised rfl rfl ⟨rfl, rfl, (fun h => by cases h), rfl, rfl⟩
theorem hcd_rd_takeNibbles : am_code 57 = am_c_rd_takeNibbles := rfl
def fz_rd_takeNibbles_10_14_55 (K3 : Int32 → Int32 → Int32 → am_Z → Option (am_Z)) (K37 : Int32 → Int32 → Int32 → Int32 → Int32 → am_Z → Option (am_Z)) (x2 : Int32) (x3 : Int32) (x4 : Int32) (x5 : Int32) (x6 : Int32) (y0 : Int32) (y1 : Int32) (s : am_Z) : Option (am_Z) :=
  (fz_sp_next_14 s ((y1 >>> (y0 &&& 31)) &&& (15 : Int32))).bind fun q1 =>
  (fz_sp_accept_14 s ((y1 >>> (y0 &&& 31)) &&& (15 : Int32)) q1).bind fun q2 =>
  (fz_rd_appendPromised q2 q1).bind fun q3 =>
  K37 x2 x3 x4 x5 (x6 + (1 : Int32)) q3
theorem tz_rd_takeNibbles_10_14_55 {sc : am_S} {t : am_H} {h0 : am_H} {K3 : Int32 → Int32 → Int32 → am_Z → Option (am_Z)} {K37 : Int32 → Int32 → Int32 → Int32 → Int32 → am_Z → Option (am_Z)} (hK3 : ∀ (x2 : Int32) (x3 : Int32) (x4 : Int32) (s : am_Z) (r : am_Z), K3 x2 x3 x4 s = some r → am_go sc 3 (am_ev sc 2) 57 h0 (3, [some (.ref 10), some (.ref 14), some (.int x2), some (.int x3), some (.int x4), none, none, none, none], [], zz_hC s t, true) ((.inl (none), zz_hC r t, true) : am_R)) (hK37 : ∀ (x2 : Int32) (x3 : Int32) (x4 : Int32) (x5 : Int32) (x6 : Int32) (s : am_Z) (r : am_Z), K37 x2 x3 x4 x5 x6 s = some r → am_go sc 3 (am_ev sc 2) 57 h0 (37, [some (.ref 10), some (.ref 14), some (.int x2), some (.int x3), some (.int x4), some (.int x5), some (.int x6), none, none], [], zz_hC s t, true) ((.inl (none), zz_hC r t, true) : am_R)) {x2 : Int32} {x3 : Int32} {x4 : Int32} {x5 : Int32} {x6 : Int32} {y0 : Int32} {y1 : Int32} {s : am_Z} {r : am_Z} (hF : fz_rd_takeNibbles_10_14_55 K3 K37 x2 x3 x4 x5 x6 y0 y1 s = some r) : am_go sc 3 (am_ev sc 2) 57 h0 (55, [some (.ref 10), some (.ref 14), some (.int x2), some (.int x3), some (.int x4), some (.int x5), some (.int x6), none, none], [.int y0, .int y1], zz_hC s t, true) ((.inl (none), zz_hC r t, true) : am_R) := by
  unfold fz_rd_takeNibbles_10_14_55 at hF
  refine am_go.blk hcd_rd_takeNibbles 6 (g := (64, [some (.ref 10), some (.ref 14), some (.int x2), some (.int x3), some (.int x4), some (.int x5), some (.int x6), some (.int ((y1 >>> (y0 &&& 31)) &&& (15 : Int32))), none], [.int ((y1 >>> (y0 &&& 31)) &&& (15 : Int32)), .ref 14], zz_hC s t, true)) rfl ?_
  obtain ⟨q1, hq1, hF⟩ := am_bd hF
  refine am_go.call hcd_rd_takeNibbles rfl rfl rfl rfl (am_le8 rfl) (am_ev.le (by decide) (tz_sp_next_14 (t := t) hq1)) ?_
  refine am_go.blk hcd_rd_takeNibbles 4 (g := (74, [some (.ref 10), some (.ref 14), some (.int x2), some (.int x3), some (.int x4), some (.int x5), some (.int x6), some (.int ((y1 >>> (y0 &&& 31)) &&& (15 : Int32))), some (.int q1)], [.int q1, .int ((y1 >>> (y0 &&& 31)) &&& (15 : Int32)), .ref 14], zz_hC s t, true)) rfl ?_
  obtain ⟨q2, hq2, hF⟩ := am_bd hF
  refine am_go.call hcd_rd_takeNibbles rfl rfl rfl rfl (am_le8 rfl) (am_ev.le (by decide) (tz_sp_accept_14 (t := t) hq2)) ?_
  refine am_go.blk hcd_rd_takeNibbles 2 (g := (80, [some (.ref 10), some (.ref 14), some (.int x2), some (.int x3), some (.int x4), some (.int x5), some (.int x6), some (.int ((y1 >>> (y0 &&& 31)) &&& (15 : Int32))), some (.int q1)], [.int q1, .ref 10], zz_hC q2 t, true)) rfl ?_
  obtain ⟨q3, hq3, hF⟩ := am_bd hF
  refine am_go.call hcd_rd_takeNibbles rfl rfl rfl rfl (am_le8 rfl) (am_ev.le (by decide) (tz_rd_appendPromised (t := t) hq3)) ?_
  refine am_go.blk hcd_rd_takeNibbles 2 (g := (37, [some (.ref 10), some (.ref 14), some (.int x2), some (.int x3), some (.int x4), some (.int x5), some (.int (x6 + (1 : Int32))), some (.int ((y1 >>> (y0 &&& 31)) &&& (15 : Int32))), some (.int q1)], [], zz_hC q3 t, true)) rfl ?_
  refine am_go.fgl [some (.ref 10), some (.ref 14), some (.int x2), some (.int x3), some (.int x4), some (.int x5), some (.int (x6 + (1 : Int32))), none, none] ⟨rfl, rfl, rfl, rfl, rfl, rfl, rfl, trivial⟩ ?_
  exact hK37 _ _ _ _ _ _ _ hF
def fz_rd_takeNibbles_10_14_37 (K3 : Int32 → Int32 → Int32 → am_Z → Option (am_Z)) : Nat → Int32 → Int32 → Int32 → Int32 → Int32 → am_Z → Option (am_Z)
  | 0, _, _, _, _, _, _ => none
  | n + 1, x2, x3, x4, x5, x6, s =>
    if (2 : Int32) ≤ x6 then
      K3 x2 x3 (x4 + (1 : Int32)) (zz_i s 14 ((s.1 14) + (1 : Int32)))
    else
    if ¬ x6 = 0 then
      fz_rd_takeNibbles_10_14_55 K3 (fz_rd_takeNibbles_10_14_37 K3 n) x2 x3 x4 x5 x6 x3 x5 s
    else
    fz_rd_takeNibbles_10_14_55 K3 (fz_rd_takeNibbles_10_14_37 K3 n) x2 x3 x4 x5 x6 x2 x5 s
theorem tz_rd_takeNibbles_10_14_37 {sc : am_S} {t : am_H} {h0 : am_H} {K3 : Int32 → Int32 → Int32 → am_Z → Option (am_Z)} (hK3 : ∀ (x2 : Int32) (x3 : Int32) (x4 : Int32) (s : am_Z) (r : am_Z), K3 x2 x3 x4 s = some r → am_go sc 3 (am_ev sc 2) 57 h0 (3, [some (.ref 10), some (.ref 14), some (.int x2), some (.int x3), some (.int x4), none, none, none, none], [], zz_hC s t, true) ((.inl (none), zz_hC r t, true) : am_R)) : ∀ (n : Nat) (x2 : Int32) (x3 : Int32) (x4 : Int32) (x5 : Int32) (x6 : Int32) (s : am_Z) (r : am_Z), fz_rd_takeNibbles_10_14_37 K3 n x2 x3 x4 x5 x6 s = some r → am_go sc 3 (am_ev sc 2) 57 h0 (37, [some (.ref 10), some (.ref 14), some (.int x2), some (.int x3), some (.int x4), some (.int x5), some (.int x6), none, none], [], zz_hC s t, true) ((.inl (none), zz_hC r t, true) : am_R) := by
  intro n
  induction n with
  | zero => intro x2 x3 x4 x5 x6 s r hF; cases hF
  | succ n ih =>
    intro x2 x3 x4 x5 x6 s r hF
    unfold fz_rd_takeNibbles_10_14_37 at hF
    refine am_go.blk hcd_rd_takeNibbles 3 (g := (bif decide ((2 : Int32) ≤ x6) then 89 else 43, [some (.ref 10), some (.ref 14), some (.int x2), some (.int x3), some (.int x4), some (.int x5), some (.int x6), none, none], [], zz_hC s t, true)) rfl ?_
    refine am_go.br (fun hP => ?_) (fun hP => ?_)
    · replace hF := (if_pos hP).symm.trans hF
      refine am_go.blk hcd_rd_takeNibbles 8 (g := (3, [some (.ref 10), some (.ref 14), some (.int x2), some (.int x3), some (.int (x4 + (1 : Int32))), some (.int x5), some (.int x6), none, none], [], zz_hC (zz_i s 14 ((s.1 14) + (1 : Int32))) t, true)) rfl ?_
      refine am_go.fgl [some (.ref 10), some (.ref 14), some (.int x2), some (.int x3), some (.int (x4 + (1 : Int32))), none, none, none, none] ⟨rfl, rfl, rfl, rfl, rfl, trivial⟩ ?_
      exact hK3 _ _ _ _ _ hF
    · replace hF := (if_neg hP).symm.trans hF
      refine am_go.blk hcd_rd_takeNibbles 3 (g := (bif decide (¬ x6 = 0) then 54 else 50, [some (.ref 10), some (.ref 14), some (.int x2), some (.int x3), some (.int x4), some (.int x5), some (.int x6), none, none], [.int x5], zz_hC s t, true)) rfl ?_
      refine am_go.br (fun hP => ?_) (fun hP => ?_)
      · replace hF := (if_pos hP).symm.trans hF
        refine am_go.blk hcd_rd_takeNibbles 1 (g := (55, [some (.ref 10), some (.ref 14), some (.int x2), some (.int x3), some (.int x4), some (.int x5), some (.int x6), none, none], [.int x3, .int x5], zz_hC s t, true)) rfl ?_
        exact tz_rd_takeNibbles_10_14_55 (hK3 := hK3) (hK37 := ih) hF
      · replace hF := (if_neg hP).symm.trans hF
        refine am_go.blk hcd_rd_takeNibbles 2 (g := (55, [some (.ref 10), some (.ref 14), some (.int x2), some (.int x3), some (.int x4), some (.int x5), some (.int x6), none, none], [.int x2, .int x5], zz_hC s t, true)) rfl ?_
        exact tz_rd_takeNibbles_10_14_55 (hK3 := hK3) (hK37 := ih) hF
def fz_rd_takeNibbles_10_14_3  : Nat → Int32 → Int32 → Int32 → am_Z → Option (am_Z)
  | 0, _, _, _, _ => none
  | n + 1, x2, x3, x4, s =>
    (fz_fm_bytesOfNibbles_13 s).bind fun q1 =>
    if q1 ≤ x4 then
      some s
    else
    (fz_by_numberAt s (s.1 14) (1 : Int32) (s.1 15)).bind fun q2 =>
    fz_rd_takeNibbles_10_14_37 (fz_rd_takeNibbles_10_14_3 n) fz_fu x2 x3 x4 (Int64.toInt32 q2) (0 : Int32) s
theorem tz_rd_takeNibbles_10_14_3 {sc : am_S} {t : am_H} {h0 : am_H}   : ∀ (n : Nat) (x2 : Int32) (x3 : Int32) (x4 : Int32) (s : am_Z) (r : am_Z), fz_rd_takeNibbles_10_14_3  n x2 x3 x4 s = some r → am_go sc 3 (am_ev sc 2) 57 h0 (3, [some (.ref 10), some (.ref 14), some (.int x2), some (.int x3), some (.int x4), none, none, none, none], [], zz_hC s t, true) ((.inl (none), zz_hC r t, true) : am_R) := by
  intro n
  induction n with
  | zero => intro x2 x3 x4 s r hF; cases hF
  | succ n ih =>
    intro x2 x3 x4 s r hF
    unfold fz_rd_takeNibbles_10_14_3 at hF
    refine am_go.blk hcd_rd_takeNibbles 3 (g := (9, [some (.ref 10), some (.ref 14), some (.int x2), some (.int x3), some (.int x4), none, none, none, none], [.ref 13, .int x4], zz_hC s t, true)) rfl ?_
    obtain ⟨q1, hq1, hF⟩ := am_bd hF
    refine am_go.call hcd_rd_takeNibbles rfl rfl rfl rfl (am_le8 rfl) (am_ev.le (by decide) (tz_fm_bytesOfNibbles_13 (t := t) hq1)) ?_
    refine am_go.blk hcd_rd_takeNibbles 1 (g := (bif decide (q1 ≤ x4) then 105 else 15, [some (.ref 10), some (.ref 14), some (.int x2), some (.int x3), some (.int x4), none, none, none, none], [], zz_hC s t, true)) rfl ?_
    refine am_go.br (fun hP => ?_) (fun hP => ?_)
    · replace hF := (if_pos hP).symm.trans hF
      cases hF
      exact am_go.ret hcd_rd_takeNibbles rfl rfl ⟨rfl, rfl, (fun h => by cases h), rfl, rfl⟩
    · replace hF := (if_neg hP).symm.trans hF
      refine am_go.blk hcd_rd_takeNibbles 7 (g := (28, [some (.ref 10), some (.ref 14), some (.int x2), some (.int x3), some (.int x4), none, none, none, none], [.int (s.1 15), .int (1 : Int32), .int (s.1 14), .ref 3], zz_hC s t, true)) rfl ?_
      obtain ⟨q2, hq2, hF⟩ := am_bd hF
      refine am_go.call hcd_rd_takeNibbles rfl rfl rfl rfl (am_le8 rfl) (am_ev.le (by decide) (tz_by_numberAt (t := t) hq2)) ?_
      refine am_go.blk hcd_rd_takeNibbles 4 (g := (37, [some (.ref 10), some (.ref 14), some (.int x2), some (.int x3), some (.int x4), some (.int (Int64.toInt32 q2)), some (.int (0 : Int32)), none, none], [], zz_hC s t, true)) rfl ?_
      exact tz_rd_takeNibbles_10_14_37 (hK3 := ih) fz_fu _ _ _ _ _ _ _ hF
def fz_rd_takeNibbles_10_14 (s : am_Z) (x2 : Int32) (x3 : Int32) : Option (am_Z) :=
  fz_rd_takeNibbles_10_14_3 fz_fu x2 x3 (0 : Int32) s
theorem tz_rd_takeNibbles_10_14 {sc : am_S} {t : am_H} {s : am_Z} {x2 : Int32} {x3 : Int32} {r : am_Z} (hF : fz_rd_takeNibbles_10_14 s x2 x3 = some r) : am_ev sc 3 57 [.ref 10, .ref 14, .int x2, .int x3] (zz_hC s t) ((.inl (none), zz_hC r t, true) : am_R) := by
  unfold fz_rd_takeNibbles_10_14 at hF
  refine am_ev.of true rfl ?_
  show am_go sc _ _ _ _ (0, [some (.ref 10), some (.ref 14), some (.int x2), some (.int x3), none, none, none, none, none], [], zz_hC s t, true) _
  refine am_go.blk hcd_rd_takeNibbles 2 (g := (3, [some (.ref 10), some (.ref 14), some (.int x2), some (.int x3), some (.int (0 : Int32)), none, none, none, none], [], zz_hC s t, true)) rfl ?_
  exact tz_rd_takeNibbles_10_14_3  fz_fu _ _ _ _ _ hF
theorem hcd_rd_takeStepped : am_code 54 = am_c_rd_takeStepped := rfl
def fz_rd_takeStepped_2  : Nat → Int32 → am_Z → Option (Int32 × am_Z)
  | 0, _, _ => none
  | n + 1, x1, s =>
    if (s.1 18) ≤ x1 then
      some ((1 : Int32), s)
    else
    (fz_rd_takeWord s).bind fun q1 =>
    (fz_rd_takeWithin q1.2 (1 : Int32) (0 : Int64) (88 : Int64)).bind fun q2 =>
    if ¬ q2.1 = 0 then
      (fz_sp_start_14 q2.2 q1.1 (Int64.toInt32 (q2.2.2.1 0))).bind fun q3 =>
      (fz_rd_take q3 (1 : Int32) (0 : Int64)).bind fun q4 =>
      if ¬ q4.1 = 0 then
        (fz_rd_appendPromised q4.2 q1.1).bind fun q5 =>
        (fz_rd_takeNibbles_10_14 q5 (0 : Int32) (4 : Int32)).bind fun q6 =>
        fz_rd_takeStepped_2 n (x1 + (q6.1 25)) q6
      else
      some ((0 : Int32), q4.2)
    else
    some ((0 : Int32), q2.2)
theorem tz_rd_takeStepped_2 {sc : am_S} {t : am_H} {h0 : am_H}   : ∀ (n : Nat) (x1 : Int32) (s : am_Z) (r : Int32 × am_Z), fz_rd_takeStepped_2  n x1 s = some r → am_go sc 4 (am_ev sc 3) 54 h0 (2, [some (.ref 10), some (.int x1), none], [], zz_hC s t, true) ((.inl (some (.int r.1)), zz_hC r.2 t, true) : am_R) := by
  intro n
  induction n with
  | zero => intro x1 s r hF; cases hF
  | succ n ih =>
    intro x1 s r hF
    unfold fz_rd_takeStepped_2 at hF
    refine am_go.blk hcd_rd_takeStepped 4 (g := (bif decide ((s.1 18) ≤ x1) then 81 else 10, [some (.ref 10), some (.int x1), none], [], zz_hC s t, true)) rfl ?_
    refine am_go.br (fun hP => ?_) (fun hP => ?_)
    · replace hF := (if_pos hP).symm.trans hF
      refine am_go.blk hcd_rd_takeStepped 1 (g := (82, [some (.ref 10), some (.int x1), none], [.int (1 : Int32)], zz_hC s t, true)) rfl ?_
      cases hF
      exact am_go.ret hcd_rd_takeStepped rfl rfl ⟨rfl, rfl, (fun h => by cases h), Or.inr ⟨rfl, Or.inr rfl⟩, rfl⟩
    · replace hF := (if_neg hP).symm.trans hF
      refine am_go.blk hcd_rd_takeStepped 1 (g := (11, [some (.ref 10), some (.int x1), none], [.ref 10], zz_hC s t, true)) rfl ?_
      obtain ⟨q1, hq1, hF⟩ := am_bd hF
      refine am_go.call hcd_rd_takeStepped rfl rfl rfl rfl (am_le8 rfl) (am_ev.le (by decide) (tz_rd_takeWord (t := t) hq1)) ?_
      refine am_go.blk hcd_rd_takeStepped 5 (g := (21, [some (.ref 10), some (.int x1), some (.int q1.1)], [.long (88 : Int64), .long (0 : Int64), .int (1 : Int32), .ref 10], zz_hC q1.2 t, true)) rfl ?_
      obtain ⟨q2, hq2, hF⟩ := am_bd hF
      refine am_go.call hcd_rd_takeStepped rfl rfl rfl rfl (am_le8 rfl) (am_ev.le (by decide) (tz_rd_takeWithin (t := t) hq2)) ?_
      refine am_go.blk hcd_rd_takeStepped 1 (g := (bif decide (¬ q2.1 = 0) then 29 else 27, [some (.ref 10), some (.int x1), some (.int q1.1)], [], zz_hC q2.2 t, true)) rfl ?_
      refine am_go.br (fun hP => ?_) (fun hP => ?_)
      · replace hF := (if_pos hP).symm.trans hF
        refine am_go.blk hcd_rd_takeStepped 6 (g := (39, [some (.ref 10), some (.int x1), some (.int q1.1)], [.int (Int64.toInt32 (q2.2.2.1 0)), .int q1.1, .ref 14], zz_hC q2.2 t, true)) rfl ?_
        obtain ⟨q3, hq3, hF⟩ := am_bd hF
        refine am_go.call hcd_rd_takeStepped rfl rfl rfl rfl (am_le8 rfl) (am_ev.le (by decide) (tz_sp_start_14 (t := t) hq3)) ?_
        refine am_go.blk hcd_rd_takeStepped 3 (g := (45, [some (.ref 10), some (.int x1), some (.int q1.1)], [.long (0 : Int64), .int (1 : Int32), .ref 10], zz_hC q3 t, true)) rfl ?_
        obtain ⟨q4, hq4, hF⟩ := am_bd hF
        refine am_go.call hcd_rd_takeStepped rfl rfl rfl rfl (am_le8 rfl) (am_ev.le (by decide) (tz_rd_take (t := t) hq4)) ?_
        refine am_go.blk hcd_rd_takeStepped 1 (g := (bif decide (¬ q4.1 = 0) then 53 else 51, [some (.ref 10), some (.int x1), some (.int q1.1)], [], zz_hC q4.2 t, true)) rfl ?_
        refine am_go.br (fun hP => ?_) (fun hP => ?_)
        · replace hF := (if_pos hP).symm.trans hF
          refine am_go.blk hcd_rd_takeStepped 2 (g := (55, [some (.ref 10), some (.int x1), some (.int q1.1)], [.int q1.1, .ref 10], zz_hC q4.2 t, true)) rfl ?_
          obtain ⟨q5, hq5, hF⟩ := am_bd hF
          refine am_go.call hcd_rd_takeStepped rfl rfl rfl rfl (am_le8 rfl) (am_ev.le (by decide) (tz_rd_appendPromised (t := t) hq5)) ?_
          refine am_go.blk hcd_rd_takeStepped 5 (g := (65, [some (.ref 10), some (.int x1), some (.int q1.1)], [.int (4 : Int32), .int (0 : Int32), .ref 14, .ref 10], zz_hC q5 t, true)) rfl ?_
          obtain ⟨q6, hq6, hF⟩ := am_bd hF
          refine am_go.call hcd_rd_takeStepped rfl rfl rfl rfl (am_le8 rfl) (am_ev.le (by decide) (tz_rd_takeNibbles_10_14 (t := t) hq6)) ?_
          refine am_go.blk hcd_rd_takeStepped 7 (g := (2, [some (.ref 10), some (.int (x1 + (q6.1 25))), some (.int q1.1)], [], zz_hC q6 t, true)) rfl ?_
          refine am_go.fgl [some (.ref 10), some (.int (x1 + (q6.1 25))), none] ⟨rfl, rfl, trivial⟩ ?_
          exact ih _ _ _ hF
        · replace hF := (if_neg hP).symm.trans hF
          refine am_go.blk hcd_rd_takeStepped 1 (g := (52, [some (.ref 10), some (.int x1), some (.int q1.1)], [.int (0 : Int32)], zz_hC q4.2 t, true)) rfl ?_
          cases hF
          exact am_go.ret hcd_rd_takeStepped rfl rfl ⟨rfl, rfl, (fun h => by cases h), Or.inr ⟨rfl, Or.inl rfl⟩, rfl⟩
      · replace hF := (if_neg hP).symm.trans hF
        refine am_go.blk hcd_rd_takeStepped 1 (g := (28, [some (.ref 10), some (.int x1), some (.int q1.1)], [.int (0 : Int32)], zz_hC q2.2 t, true)) rfl ?_
        cases hF
        exact am_go.ret hcd_rd_takeStepped rfl rfl ⟨rfl, rfl, (fun h => by cases h), Or.inr ⟨rfl, Or.inl rfl⟩, rfl⟩
def fz_rd_takeStepped (s : am_Z) : Option (Int32 × am_Z) :=
  fz_rd_takeStepped_2 fz_fu (0 : Int32) s
theorem tz_rd_takeStepped {sc : am_S} {t : am_H} {s : am_Z} {r : Int32 × am_Z} (hF : fz_rd_takeStepped s = some r) : am_ev sc 4 54 [.ref 10] (zz_hC s t) ((.inl (some (.int r.1)), zz_hC r.2 t, true) : am_R) := by
  unfold fz_rd_takeStepped at hF
  refine am_ev.of true rfl ?_
  show am_go sc _ _ _ _ (0, [some (.ref 10), none, none], [], zz_hC s t, true) _
  refine am_go.blk hcd_rd_takeStepped 2 (g := (2, [some (.ref 10), some (.int (0 : Int32)), none], [], zz_hC s t, true)) rfl ?_
  exact tz_rd_takeStepped_2  fz_fu _ _ _ hF
def fz_rd_takeNibbles_10_15_55 (K3 : Int32 → Int32 → Int32 → am_Z → Option (am_Z)) (K37 : Int32 → Int32 → Int32 → Int32 → Int32 → am_Z → Option (am_Z)) (x2 : Int32) (x3 : Int32) (x4 : Int32) (x5 : Int32) (x6 : Int32) (y0 : Int32) (y1 : Int32) (s : am_Z) : Option (am_Z) :=
  (fz_pr_next_15 s ((y1 >>> (y0 &&& 31)) &&& (15 : Int32))).bind fun q1 =>
  (fz_pr_accept_15 s ((y1 >>> (y0 &&& 31)) &&& (15 : Int32)) q1).bind fun q2 =>
  (fz_rd_appendPromised q2 q1).bind fun q3 =>
  K37 x2 x3 x4 x5 (x6 + (1 : Int32)) q3
theorem tz_rd_takeNibbles_10_15_55 {sc : am_S} {t : am_H} {h0 : am_H} {K3 : Int32 → Int32 → Int32 → am_Z → Option (am_Z)} {K37 : Int32 → Int32 → Int32 → Int32 → Int32 → am_Z → Option (am_Z)} (hK3 : ∀ (x2 : Int32) (x3 : Int32) (x4 : Int32) (s : am_Z) (r : am_Z), K3 x2 x3 x4 s = some r → am_go sc 3 (am_ev sc 2) 57 h0 (3, [some (.ref 10), some (.ref 15), some (.int x2), some (.int x3), some (.int x4), none, none, none, none], [], zz_hC s t, true) ((.inl (none), zz_hC r t, true) : am_R)) (hK37 : ∀ (x2 : Int32) (x3 : Int32) (x4 : Int32) (x5 : Int32) (x6 : Int32) (s : am_Z) (r : am_Z), K37 x2 x3 x4 x5 x6 s = some r → am_go sc 3 (am_ev sc 2) 57 h0 (37, [some (.ref 10), some (.ref 15), some (.int x2), some (.int x3), some (.int x4), some (.int x5), some (.int x6), none, none], [], zz_hC s t, true) ((.inl (none), zz_hC r t, true) : am_R)) {x2 : Int32} {x3 : Int32} {x4 : Int32} {x5 : Int32} {x6 : Int32} {y0 : Int32} {y1 : Int32} {s : am_Z} {r : am_Z} (hF : fz_rd_takeNibbles_10_15_55 K3 K37 x2 x3 x4 x5 x6 y0 y1 s = some r) : am_go sc 3 (am_ev sc 2) 57 h0 (55, [some (.ref 10), some (.ref 15), some (.int x2), some (.int x3), some (.int x4), some (.int x5), some (.int x6), none, none], [.int y0, .int y1], zz_hC s t, true) ((.inl (none), zz_hC r t, true) : am_R) := by
  unfold fz_rd_takeNibbles_10_15_55 at hF
  refine am_go.blk hcd_rd_takeNibbles 6 (g := (64, [some (.ref 10), some (.ref 15), some (.int x2), some (.int x3), some (.int x4), some (.int x5), some (.int x6), some (.int ((y1 >>> (y0 &&& 31)) &&& (15 : Int32))), none], [.int ((y1 >>> (y0 &&& 31)) &&& (15 : Int32)), .ref 15], zz_hC s t, true)) rfl ?_
  obtain ⟨q1, hq1, hF⟩ := am_bd hF
  refine am_go.call hcd_rd_takeNibbles rfl rfl rfl rfl (am_le8 rfl) (am_ev.le (by decide) (tz_pr_next_15 (t := t) hq1)) ?_
  refine am_go.blk hcd_rd_takeNibbles 4 (g := (74, [some (.ref 10), some (.ref 15), some (.int x2), some (.int x3), some (.int x4), some (.int x5), some (.int x6), some (.int ((y1 >>> (y0 &&& 31)) &&& (15 : Int32))), some (.int q1)], [.int q1, .int ((y1 >>> (y0 &&& 31)) &&& (15 : Int32)), .ref 15], zz_hC s t, true)) rfl ?_
  obtain ⟨q2, hq2, hF⟩ := am_bd hF
  refine am_go.call hcd_rd_takeNibbles rfl rfl rfl rfl (am_le8 rfl) (am_ev.le (by decide) (tz_pr_accept_15 (t := t) hq2)) ?_
  refine am_go.blk hcd_rd_takeNibbles 2 (g := (80, [some (.ref 10), some (.ref 15), some (.int x2), some (.int x3), some (.int x4), some (.int x5), some (.int x6), some (.int ((y1 >>> (y0 &&& 31)) &&& (15 : Int32))), some (.int q1)], [.int q1, .ref 10], zz_hC q2 t, true)) rfl ?_
  obtain ⟨q3, hq3, hF⟩ := am_bd hF
  refine am_go.call hcd_rd_takeNibbles rfl rfl rfl rfl (am_le8 rfl) (am_ev.le (by decide) (tz_rd_appendPromised (t := t) hq3)) ?_
  refine am_go.blk hcd_rd_takeNibbles 2 (g := (37, [some (.ref 10), some (.ref 15), some (.int x2), some (.int x3), some (.int x4), some (.int x5), some (.int (x6 + (1 : Int32))), some (.int ((y1 >>> (y0 &&& 31)) &&& (15 : Int32))), some (.int q1)], [], zz_hC q3 t, true)) rfl ?_
  refine am_go.fgl [some (.ref 10), some (.ref 15), some (.int x2), some (.int x3), some (.int x4), some (.int x5), some (.int (x6 + (1 : Int32))), none, none] ⟨rfl, rfl, rfl, rfl, rfl, rfl, rfl, trivial⟩ ?_
  exact hK37 _ _ _ _ _ _ _ hF
def fz_rd_takeNibbles_10_15_37 (K3 : Int32 → Int32 → Int32 → am_Z → Option (am_Z)) : Nat → Int32 → Int32 → Int32 → Int32 → Int32 → am_Z → Option (am_Z)
  | 0, _, _, _, _, _, _ => none
  | n + 1, x2, x3, x4, x5, x6, s =>
    if (2 : Int32) ≤ x6 then
      K3 x2 x3 (x4 + (1 : Int32)) (zz_i s 14 ((s.1 14) + (1 : Int32)))
    else
    if ¬ x6 = 0 then
      fz_rd_takeNibbles_10_15_55 K3 (fz_rd_takeNibbles_10_15_37 K3 n) x2 x3 x4 x5 x6 x3 x5 s
    else
    fz_rd_takeNibbles_10_15_55 K3 (fz_rd_takeNibbles_10_15_37 K3 n) x2 x3 x4 x5 x6 x2 x5 s
theorem tz_rd_takeNibbles_10_15_37 {sc : am_S} {t : am_H} {h0 : am_H} {K3 : Int32 → Int32 → Int32 → am_Z → Option (am_Z)} (hK3 : ∀ (x2 : Int32) (x3 : Int32) (x4 : Int32) (s : am_Z) (r : am_Z), K3 x2 x3 x4 s = some r → am_go sc 3 (am_ev sc 2) 57 h0 (3, [some (.ref 10), some (.ref 15), some (.int x2), some (.int x3), some (.int x4), none, none, none, none], [], zz_hC s t, true) ((.inl (none), zz_hC r t, true) : am_R)) : ∀ (n : Nat) (x2 : Int32) (x3 : Int32) (x4 : Int32) (x5 : Int32) (x6 : Int32) (s : am_Z) (r : am_Z), fz_rd_takeNibbles_10_15_37 K3 n x2 x3 x4 x5 x6 s = some r → am_go sc 3 (am_ev sc 2) 57 h0 (37, [some (.ref 10), some (.ref 15), some (.int x2), some (.int x3), some (.int x4), some (.int x5), some (.int x6), none, none], [], zz_hC s t, true) ((.inl (none), zz_hC r t, true) : am_R) := by
  intro n
  induction n with
  | zero => intro x2 x3 x4 x5 x6 s r hF; cases hF
  | succ n ih =>
    intro x2 x3 x4 x5 x6 s r hF
    unfold fz_rd_takeNibbles_10_15_37 at hF
    refine am_go.blk hcd_rd_takeNibbles 3 (g := (bif decide ((2 : Int32) ≤ x6) then 89 else 43, [some (.ref 10), some (.ref 15), some (.int x2), some (.int x3), some (.int x4), some (.int x5), some (.int x6), none, none], [], zz_hC s t, true)) rfl ?_
    refine am_go.br (fun hP => ?_) (fun hP => ?_)
    · replace hF := (if_pos hP).symm.trans hF
      refine am_go.blk hcd_rd_takeNibbles 8 (g := (3, [some (.ref 10), some (.ref 15), some (.int x2), some (.int x3), some (.int (x4 + (1 : Int32))), some (.int x5), some (.int x6), none, none], [], zz_hC (zz_i s 14 ((s.1 14) + (1 : Int32))) t, true)) rfl ?_
      refine am_go.fgl [some (.ref 10), some (.ref 15), some (.int x2), some (.int x3), some (.int (x4 + (1 : Int32))), none, none, none, none] ⟨rfl, rfl, rfl, rfl, rfl, trivial⟩ ?_
      exact hK3 _ _ _ _ _ hF
    · replace hF := (if_neg hP).symm.trans hF
      refine am_go.blk hcd_rd_takeNibbles 3 (g := (bif decide (¬ x6 = 0) then 54 else 50, [some (.ref 10), some (.ref 15), some (.int x2), some (.int x3), some (.int x4), some (.int x5), some (.int x6), none, none], [.int x5], zz_hC s t, true)) rfl ?_
      refine am_go.br (fun hP => ?_) (fun hP => ?_)
      · replace hF := (if_pos hP).symm.trans hF
        refine am_go.blk hcd_rd_takeNibbles 1 (g := (55, [some (.ref 10), some (.ref 15), some (.int x2), some (.int x3), some (.int x4), some (.int x5), some (.int x6), none, none], [.int x3, .int x5], zz_hC s t, true)) rfl ?_
        exact tz_rd_takeNibbles_10_15_55 (hK3 := hK3) (hK37 := ih) hF
      · replace hF := (if_neg hP).symm.trans hF
        refine am_go.blk hcd_rd_takeNibbles 2 (g := (55, [some (.ref 10), some (.ref 15), some (.int x2), some (.int x3), some (.int x4), some (.int x5), some (.int x6), none, none], [.int x2, .int x5], zz_hC s t, true)) rfl ?_
        exact tz_rd_takeNibbles_10_15_55 (hK3 := hK3) (hK37 := ih) hF
def fz_rd_takeNibbles_10_15_3  : Nat → Int32 → Int32 → Int32 → am_Z → Option (am_Z)
  | 0, _, _, _, _ => none
  | n + 1, x2, x3, x4, s =>
    (fz_fm_bytesOfNibbles_13 s).bind fun q1 =>
    if q1 ≤ x4 then
      some s
    else
    (fz_by_numberAt s (s.1 14) (1 : Int32) (s.1 15)).bind fun q2 =>
    fz_rd_takeNibbles_10_15_37 (fz_rd_takeNibbles_10_15_3 n) fz_fu x2 x3 x4 (Int64.toInt32 q2) (0 : Int32) s
theorem tz_rd_takeNibbles_10_15_3 {sc : am_S} {t : am_H} {h0 : am_H}   : ∀ (n : Nat) (x2 : Int32) (x3 : Int32) (x4 : Int32) (s : am_Z) (r : am_Z), fz_rd_takeNibbles_10_15_3  n x2 x3 x4 s = some r → am_go sc 3 (am_ev sc 2) 57 h0 (3, [some (.ref 10), some (.ref 15), some (.int x2), some (.int x3), some (.int x4), none, none, none, none], [], zz_hC s t, true) ((.inl (none), zz_hC r t, true) : am_R) := by
  intro n
  induction n with
  | zero => intro x2 x3 x4 s r hF; cases hF
  | succ n ih =>
    intro x2 x3 x4 s r hF
    unfold fz_rd_takeNibbles_10_15_3 at hF
    refine am_go.blk hcd_rd_takeNibbles 3 (g := (9, [some (.ref 10), some (.ref 15), some (.int x2), some (.int x3), some (.int x4), none, none, none, none], [.ref 13, .int x4], zz_hC s t, true)) rfl ?_
    obtain ⟨q1, hq1, hF⟩ := am_bd hF
    refine am_go.call hcd_rd_takeNibbles rfl rfl rfl rfl (am_le8 rfl) (am_ev.le (by decide) (tz_fm_bytesOfNibbles_13 (t := t) hq1)) ?_
    refine am_go.blk hcd_rd_takeNibbles 1 (g := (bif decide (q1 ≤ x4) then 105 else 15, [some (.ref 10), some (.ref 15), some (.int x2), some (.int x3), some (.int x4), none, none, none, none], [], zz_hC s t, true)) rfl ?_
    refine am_go.br (fun hP => ?_) (fun hP => ?_)
    · replace hF := (if_pos hP).symm.trans hF
      cases hF
      exact am_go.ret hcd_rd_takeNibbles rfl rfl ⟨rfl, rfl, (fun h => by cases h), rfl, rfl⟩
    · replace hF := (if_neg hP).symm.trans hF
      refine am_go.blk hcd_rd_takeNibbles 7 (g := (28, [some (.ref 10), some (.ref 15), some (.int x2), some (.int x3), some (.int x4), none, none, none, none], [.int (s.1 15), .int (1 : Int32), .int (s.1 14), .ref 3], zz_hC s t, true)) rfl ?_
      obtain ⟨q2, hq2, hF⟩ := am_bd hF
      refine am_go.call hcd_rd_takeNibbles rfl rfl rfl rfl (am_le8 rfl) (am_ev.le (by decide) (tz_by_numberAt (t := t) hq2)) ?_
      refine am_go.blk hcd_rd_takeNibbles 4 (g := (37, [some (.ref 10), some (.ref 15), some (.int x2), some (.int x3), some (.int x4), some (.int (Int64.toInt32 q2)), some (.int (0 : Int32)), none, none], [], zz_hC s t, true)) rfl ?_
      exact tz_rd_takeNibbles_10_15_37 (hK3 := ih) fz_fu _ _ _ _ _ _ _ hF
def fz_rd_takeNibbles_10_15 (s : am_Z) (x2 : Int32) (x3 : Int32) : Option (am_Z) :=
  fz_rd_takeNibbles_10_15_3 fz_fu x2 x3 (0 : Int32) s
theorem tz_rd_takeNibbles_10_15 {sc : am_S} {t : am_H} {s : am_Z} {x2 : Int32} {x3 : Int32} {r : am_Z} (hF : fz_rd_takeNibbles_10_15 s x2 x3 = some r) : am_ev sc 3 57 [.ref 10, .ref 15, .int x2, .int x3] (zz_hC s t) ((.inl (none), zz_hC r t, true) : am_R) := by
  unfold fz_rd_takeNibbles_10_15 at hF
  refine am_ev.of true rfl ?_
  show am_go sc _ _ _ _ (0, [some (.ref 10), some (.ref 15), some (.int x2), some (.int x3), none, none, none, none, none], [], zz_hC s t, true) _
  refine am_go.blk hcd_rd_takeNibbles 2 (g := (3, [some (.ref 10), some (.ref 15), some (.int x2), some (.int x3), some (.int (0 : Int32)), none, none, none, none], [], zz_hC s t, true)) rfl ?_
  exact tz_rd_takeNibbles_10_15_3  fz_fu _ _ _ _ _ hF
theorem hcd_rd_takePredicted : am_code 55 = am_c_rd_takePredicted := rfl
def fz_rd_takePredicted_2  : Nat → Int32 → am_Z → Option (Int32 × am_Z)
  | 0, _, _ => none
  | n + 1, x1, s =>
    if (s.1 18) ≤ x1 then
      some ((1 : Int32), s)
    else
    (fz_rd_takeWithin s (1 : Int32) (0 : Int64) (6 : Int64)).bind fun q1 =>
    if ¬ q1.1 = 0 then
      (fz_rd_takeWithin q1.2 (2 : Int32) (1 : Int64) (65535 : Int64)).bind fun q2 =>
      if ¬ q2.1 = 0 then
        (fz_rd_takeWord q2.2).bind fun q3 =>
        (fz_rd_takeWord q3.2).bind fun q4 =>
        (fz_pr_start_15 q4.2 q4.1 q3.1 (Int64.toInt32 (q2.2.2.1 0)) (Int64.toInt32 (q1.2.2.1 0))).bind fun q5 =>
        (fz_rd_appendPromised q5 q4.1).bind fun q6 =>
        (fz_rd_appendPromised q6 q3.1).bind fun q7 =>
        (fz_rd_takeNibbles_10_15 q7 (4 : Int32) (0 : Int32)).bind fun q8 =>
        fz_rd_takePredicted_2 n (x1 + (q8.1 25)) q8
      else
      some ((0 : Int32), q2.2)
    else
    some ((0 : Int32), q1.2)
theorem tz_rd_takePredicted_2 {sc : am_S} {t : am_H} {h0 : am_H}   : ∀ (n : Nat) (x1 : Int32) (s : am_Z) (r : Int32 × am_Z), fz_rd_takePredicted_2  n x1 s = some r → am_go sc 4 (am_ev sc 3) 55 h0 (2, [some (.ref 10), some (.int x1), none, none, none, none], [], zz_hC s t, true) ((.inl (some (.int r.1)), zz_hC r.2 t, true) : am_R) := by
  intro n
  induction n with
  | zero => intro x1 s r hF; cases hF
  | succ n ih =>
    intro x1 s r hF
    unfold fz_rd_takePredicted_2 at hF
    refine am_go.blk hcd_rd_takePredicted 4 (g := (bif decide ((s.1 18) ≤ x1) then 110 else 10, [some (.ref 10), some (.int x1), none, none, none, none], [], zz_hC s t, true)) rfl ?_
    refine am_go.br (fun hP => ?_) (fun hP => ?_)
    · replace hF := (if_pos hP).symm.trans hF
      refine am_go.blk hcd_rd_takePredicted 1 (g := (111, [some (.ref 10), some (.int x1), none, none, none, none], [.int (1 : Int32)], zz_hC s t, true)) rfl ?_
      cases hF
      exact am_go.ret hcd_rd_takePredicted rfl rfl ⟨rfl, rfl, (fun h => by cases h), Or.inr ⟨rfl, Or.inr rfl⟩, rfl⟩
    · replace hF := (if_neg hP).symm.trans hF
      refine am_go.blk hcd_rd_takePredicted 4 (g := (16, [some (.ref 10), some (.int x1), none, none, none, none], [.long (6 : Int64), .long (0 : Int64), .int (1 : Int32), .ref 10], zz_hC s t, true)) rfl ?_
      obtain ⟨q1, hq1, hF⟩ := am_bd hF
      refine am_go.call hcd_rd_takePredicted rfl rfl rfl rfl (am_le8 rfl) (am_ev.le (by decide) (tz_rd_takeWithin (t := t) hq1)) ?_
      refine am_go.blk hcd_rd_takePredicted 1 (g := (bif decide (¬ q1.1 = 0) then 24 else 22, [some (.ref 10), some (.int x1), none, none, none, none], [], zz_hC q1.2 t, true)) rfl ?_
      refine am_go.br (fun hP => ?_) (fun hP => ?_)
      · replace hF := (if_pos hP).symm.trans hF
        refine am_go.blk hcd_rd_takePredicted 8 (g := (36, [some (.ref 10), some (.int x1), some (.int (Int64.toInt32 (q1.2.2.1 0))), none, none, none], [.long (65535 : Int64), .long (1 : Int64), .int (2 : Int32), .ref 10], zz_hC q1.2 t, true)) rfl ?_
        obtain ⟨q2, hq2, hF⟩ := am_bd hF
        refine am_go.call hcd_rd_takePredicted rfl rfl rfl rfl (am_le8 rfl) (am_ev.le (by decide) (tz_rd_takeWithin (t := t) hq2)) ?_
        refine am_go.blk hcd_rd_takePredicted 1 (g := (bif decide (¬ q2.1 = 0) then 44 else 42, [some (.ref 10), some (.int x1), some (.int (Int64.toInt32 (q1.2.2.1 0))), none, none, none], [], zz_hC q2.2 t, true)) rfl ?_
        refine am_go.br (fun hP => ?_) (fun hP => ?_)
        · replace hF := (if_pos hP).symm.trans hF
          refine am_go.blk hcd_rd_takePredicted 5 (g := (51, [some (.ref 10), some (.int x1), some (.int (Int64.toInt32 (q1.2.2.1 0))), some (.int (Int64.toInt32 (q2.2.2.1 0))), none, none], [.ref 10], zz_hC q2.2 t, true)) rfl ?_
          obtain ⟨q3, hq3, hF⟩ := am_bd hF
          refine am_go.call hcd_rd_takePredicted rfl rfl rfl rfl (am_le8 rfl) (am_ev.le (by decide) (tz_rd_takeWord (t := t) hq3)) ?_
          refine am_go.blk hcd_rd_takePredicted 2 (g := (57, [some (.ref 10), some (.int x1), some (.int (Int64.toInt32 (q1.2.2.1 0))), some (.int (Int64.toInt32 (q2.2.2.1 0))), some (.int q3.1), none], [.ref 10], zz_hC q3.2 t, true)) rfl ?_
          obtain ⟨q4, hq4, hF⟩ := am_bd hF
          refine am_go.call hcd_rd_takePredicted rfl rfl rfl rfl (am_le8 rfl) (am_ev.le (by decide) (tz_rd_takeWord (t := t) hq4)) ?_
          refine am_go.blk hcd_rd_takePredicted 7 (g := (72, [some (.ref 10), some (.int x1), some (.int (Int64.toInt32 (q1.2.2.1 0))), some (.int (Int64.toInt32 (q2.2.2.1 0))), some (.int q3.1), some (.int q4.1)], [.int (Int64.toInt32 (q1.2.2.1 0)), .int (Int64.toInt32 (q2.2.2.1 0)), .int q3.1, .int q4.1, .ref 15], zz_hC q4.2 t, true)) rfl ?_
          obtain ⟨q5, hq5, hF⟩ := am_bd hF
          refine am_go.call hcd_rd_takePredicted rfl rfl rfl rfl (am_le8 rfl) (am_ev.le (by decide) (tz_pr_start_15 (t := t) hq5)) ?_
          refine am_go.blk hcd_rd_takePredicted 2 (g := (78, [some (.ref 10), some (.int x1), some (.int (Int64.toInt32 (q1.2.2.1 0))), some (.int (Int64.toInt32 (q2.2.2.1 0))), some (.int q3.1), some (.int q4.1)], [.int q4.1, .ref 10], zz_hC q5 t, true)) rfl ?_
          obtain ⟨q6, hq6, hF⟩ := am_bd hF
          refine am_go.call hcd_rd_takePredicted rfl rfl rfl rfl (am_le8 rfl) (am_ev.le (by decide) (tz_rd_appendPromised (t := t) hq6)) ?_
          refine am_go.blk hcd_rd_takePredicted 2 (g := (84, [some (.ref 10), some (.int x1), some (.int (Int64.toInt32 (q1.2.2.1 0))), some (.int (Int64.toInt32 (q2.2.2.1 0))), some (.int q3.1), some (.int q4.1)], [.int q3.1, .ref 10], zz_hC q6 t, true)) rfl ?_
          obtain ⟨q7, hq7, hF⟩ := am_bd hF
          refine am_go.call hcd_rd_takePredicted rfl rfl rfl rfl (am_le8 rfl) (am_ev.le (by decide) (tz_rd_appendPromised (t := t) hq7)) ?_
          refine am_go.blk hcd_rd_takePredicted 5 (g := (94, [some (.ref 10), some (.int x1), some (.int (Int64.toInt32 (q1.2.2.1 0))), some (.int (Int64.toInt32 (q2.2.2.1 0))), some (.int q3.1), some (.int q4.1)], [.int (0 : Int32), .int (4 : Int32), .ref 15, .ref 10], zz_hC q7 t, true)) rfl ?_
          obtain ⟨q8, hq8, hF⟩ := am_bd hF
          refine am_go.call hcd_rd_takePredicted rfl rfl rfl rfl (am_le8 rfl) (am_ev.le (by decide) (tz_rd_takeNibbles_10_15 (t := t) hq8)) ?_
          refine am_go.blk hcd_rd_takePredicted 7 (g := (2, [some (.ref 10), some (.int (x1 + (q8.1 25))), some (.int (Int64.toInt32 (q1.2.2.1 0))), some (.int (Int64.toInt32 (q2.2.2.1 0))), some (.int q3.1), some (.int q4.1)], [], zz_hC q8 t, true)) rfl ?_
          refine am_go.fgl [some (.ref 10), some (.int (x1 + (q8.1 25))), none, none, none, none] ⟨rfl, rfl, trivial⟩ ?_
          exact ih _ _ _ hF
        · replace hF := (if_neg hP).symm.trans hF
          refine am_go.blk hcd_rd_takePredicted 1 (g := (43, [some (.ref 10), some (.int x1), some (.int (Int64.toInt32 (q1.2.2.1 0))), none, none, none], [.int (0 : Int32)], zz_hC q2.2 t, true)) rfl ?_
          cases hF
          exact am_go.ret hcd_rd_takePredicted rfl rfl ⟨rfl, rfl, (fun h => by cases h), Or.inr ⟨rfl, Or.inl rfl⟩, rfl⟩
      · replace hF := (if_neg hP).symm.trans hF
        refine am_go.blk hcd_rd_takePredicted 1 (g := (23, [some (.ref 10), some (.int x1), none, none, none, none], [.int (0 : Int32)], zz_hC q1.2 t, true)) rfl ?_
        cases hF
        exact am_go.ret hcd_rd_takePredicted rfl rfl ⟨rfl, rfl, (fun h => by cases h), Or.inr ⟨rfl, Or.inl rfl⟩, rfl⟩
def fz_rd_takePredicted (s : am_Z) : Option (Int32 × am_Z) :=
  fz_rd_takePredicted_2 fz_fu (0 : Int32) s
theorem tz_rd_takePredicted {sc : am_S} {t : am_H} {s : am_Z} {r : Int32 × am_Z} (hF : fz_rd_takePredicted s = some r) : am_ev sc 4 55 [.ref 10] (zz_hC s t) ((.inl (some (.int r.1)), zz_hC r.2 t, true) : am_R) := by
  unfold fz_rd_takePredicted at hF
  refine am_ev.of true rfl ?_
  show am_go sc _ _ _ _ (0, [some (.ref 10), none, none, none, none, none], [], zz_hC s t, true) _
  refine am_go.blk hcd_rd_takePredicted 2 (g := (2, [some (.ref 10), some (.int (0 : Int32)), none, none, none, none], [], zz_hC s t, true)) rfl ?_
  exact tz_rd_takePredicted_2  fz_fu _ _ _ hF
theorem hcd_rd_takeData : am_code 51 = am_c_rd_takeData := rfl
def fz_rd_takeData_186  (s : am_Z) : Option (Int32 × am_Z) :=
  some ((0 : Int32), s)
set_option maxRecDepth 20000 in
theorem tz_rd_takeData_186 {sc : am_S} {t : am_H} {h0 : am_H}   {s : am_Z} {r : Int32 × am_Z} (hF : fz_rd_takeData_186 s = some r) : am_go sc 5 (am_ev sc 4) 51 h0 (186, [none, none, none], [], zz_hC s t, true) ((.inl (some (.int r.1)), zz_hC r.2 t, true) : am_R) := by
  unfold fz_rd_takeData_186 at hF
  refine am_go.blk hcd_rd_takeData 1 (g := (187, [none, none, none], [.int (0 : Int32)], zz_hC s t, true)) rfl ?_
  cases hF
  exact am_go.ret hcd_rd_takeData rfl rfl ⟨rfl, rfl, (fun h => by cases h), Or.inr ⟨rfl, Or.inl rfl⟩, rfl⟩
def fz_rd_takeData_173  (x2 : Int32) (s : am_Z) : Option (Int32 × am_Z) :=
  (fz_rd_takeByteBehind s (Int32.toInt64 x2)).bind fun q1 =>
  if q1.1 = 0 then
    fz_rd_takeData_186 q1.2
  else
  some ((1 : Int32), q1.2)
set_option maxRecDepth 20000 in
theorem tz_rd_takeData_173 {sc : am_S} {t : am_H} {h0 : am_H}   {x2 : Int32} {s : am_Z} {r : Int32 × am_Z} (hF : fz_rd_takeData_173 x2 s = some r) : am_go sc 5 (am_ev sc 4) 51 h0 (173, [some (.ref 10), none, some (.int x2)], [], zz_hC s t, true) ((.inl (some (.int r.1)), zz_hC r.2 t, true) : am_R) := by
  unfold fz_rd_takeData_173 at hF
  refine am_go.blk hcd_rd_takeData 3 (g := (176, [some (.ref 10), none, some (.int x2)], [.long (Int32.toInt64 x2), .ref 10], zz_hC s t, true)) rfl ?_
  obtain ⟨q1, hq1, hF⟩ := am_bd hF
  refine am_go.call hcd_rd_takeData rfl rfl rfl rfl (am_le8 rfl) (am_ev.le (by decide) (tz_rd_takeByteBehind (t := t) hq1)) ?_
  refine am_go.blk hcd_rd_takeData 1 (g := (bif decide (q1.1 = 0) then 186 else 182, [some (.ref 10), none, some (.int x2)], [], zz_hC q1.2 t, true)) rfl ?_
  refine am_go.br (fun hP => ?_) (fun hP => ?_)
  · replace hF := (if_pos hP).symm.trans hF
    refine am_go.fgl [none, none, none] trivial ?_
    exact tz_rd_takeData_186  hF
  · replace hF := (if_neg hP).symm.trans hF
    refine am_go.blk hcd_rd_takeData 2 (g := (187, [some (.ref 10), none, some (.int x2)], [.int (1 : Int32)], zz_hC q1.2 t, true)) rfl ?_
    cases hF
    exact am_go.ret hcd_rd_takeData rfl rfl ⟨rfl, rfl, (fun h => by cases h), Or.inr ⟨rfl, Or.inr rfl⟩, rfl⟩
def fz_rd_takeData_99  (s : am_Z) : Option (Int32 × am_Z) :=
  (fz_fm_sizeOfData_13 s (s.1 18)).bind fun q1 =>
  (fz_rd_takeSize s (Int32.toInt64 q1)).bind fun q2 =>
  if ¬ q2.1 = 0 then
    if ¬ (q2.2.1 22) = (1 : Int32) then
      if ¬ (q2.2.1 22) = (17 : Int32) then
        (fz_rd_takePredicted q2.2).bind fun q3 =>
        if q3.1 = 0 then
          fz_rd_takeData_186 q3.2
        else
        fz_rd_takeData_173 q1 q3.2
      else
      (fz_rd_takeStepped q2.2).bind fun q4 =>
      if q4.1 = 0 then
        fz_rd_takeData_186 q4.2
      else
      fz_rd_takeData_173 q1 q4.2
    else
    (fz_rd_takePlain q2.2).bind fun q5 =>
    (fz_rd_takeByteBehind q5 (Int32.toInt64 q1)).bind fun q6 =>
    if ¬ (q6.1 = 0 ∨ q6.1 = 1) then none else
    some (q6.1, q6.2)
  else
  some ((0 : Int32), q2.2)
set_option maxRecDepth 20000 in
theorem tz_rd_takeData_99 {sc : am_S} {t : am_H} {h0 : am_H}   {s : am_Z} {r : Int32 × am_Z} (hF : fz_rd_takeData_99 s = some r) : am_go sc 5 (am_ev sc 4) 51 h0 (99, [some (.ref 10), none, none], [], zz_hC s t, true) ((.inl (some (.int r.1)), zz_hC r.2 t, true) : am_R) := by
  unfold fz_rd_takeData_99 at hF
  refine am_go.blk hcd_rd_takeData 4 (g := (107, [some (.ref 10), none, none], [.int (s.1 18), .ref 13], zz_hC s t, true)) rfl ?_
  obtain ⟨q1, hq1, hF⟩ := am_bd hF
  refine am_go.call hcd_rd_takeData rfl rfl rfl rfl (am_le8 rfl) (am_ev.le (by decide) (tz_fm_sizeOfData_13 (t := t) hq1)) ?_
  refine am_go.blk hcd_rd_takeData 4 (g := (114, [some (.ref 10), none, some (.int q1)], [.long (Int32.toInt64 q1), .ref 10], zz_hC s t, true)) rfl ?_
  obtain ⟨q2, hq2, hF⟩ := am_bd hF
  refine am_go.call hcd_rd_takeData rfl rfl rfl rfl (am_le8 rfl) (am_ev.le (by decide) (tz_rd_takeSize (t := t) hq2)) ?_
  refine am_go.blk hcd_rd_takeData 1 (g := (bif decide (¬ q2.1 = 0) then 122 else 120, [some (.ref 10), none, some (.int q1)], [], zz_hC q2.2 t, true)) rfl ?_
  refine am_go.br (fun hP => ?_) (fun hP => ?_)
  · replace hF := (if_pos hP).symm.trans hF
    refine am_go.blk hcd_rd_takeData 5 (g := (bif decide (¬ (q2.2.1 22) = (1 : Int32)) then 144 else 133, [some (.ref 10), none, some (.int q1)], [], zz_hC q2.2 t, true)) rfl ?_
    refine am_go.br (fun hP => ?_) (fun hP => ?_)
    · replace hF := (if_pos hP).symm.trans hF
      refine am_go.blk hcd_rd_takeData 5 (g := (bif decide (¬ (q2.2.1 22) = (17 : Int32)) then 166 else 156, [some (.ref 10), none, some (.int q1)], [], zz_hC q2.2 t, true)) rfl ?_
      refine am_go.br (fun hP => ?_) (fun hP => ?_)
      · replace hF := (if_pos hP).symm.trans hF
        refine am_go.blk hcd_rd_takeData 1 (g := (167, [some (.ref 10), none, some (.int q1)], [.ref 10], zz_hC q2.2 t, true)) rfl ?_
        obtain ⟨q3, hq3, hF⟩ := am_bd hF
        refine am_go.call hcd_rd_takeData rfl rfl rfl rfl (am_le8 rfl) (am_ev.le (by decide) (tz_rd_takePredicted (t := t) hq3)) ?_
        refine am_go.blk hcd_rd_takeData 1 (g := (bif decide (q3.1 = 0) then 186 else 173, [some (.ref 10), none, some (.int q1)], [], zz_hC q3.2 t, true)) rfl ?_
        refine am_go.br (fun hP => ?_) (fun hP => ?_)
        · replace hF := (if_pos hP).symm.trans hF
          refine am_go.fgl [none, none, none] trivial ?_
          exact tz_rd_takeData_186  hF
        · replace hF := (if_neg hP).symm.trans hF
          exact tz_rd_takeData_173  hF
      · replace hF := (if_neg hP).symm.trans hF
        refine am_go.blk hcd_rd_takeData 1 (g := (157, [some (.ref 10), none, some (.int q1)], [.ref 10], zz_hC q2.2 t, true)) rfl ?_
        obtain ⟨q4, hq4, hF⟩ := am_bd hF
        refine am_go.call hcd_rd_takeData rfl rfl rfl rfl (am_le8 rfl) (am_ev.le (by decide) (tz_rd_takeStepped (t := t) hq4)) ?_
        refine am_go.blk hcd_rd_takeData 1 (g := (bif decide (q4.1 = 0) then 186 else 163, [some (.ref 10), none, some (.int q1)], [], zz_hC q4.2 t, true)) rfl ?_
        refine am_go.br (fun hP => ?_) (fun hP => ?_)
        · replace hF := (if_pos hP).symm.trans hF
          refine am_go.fgl [none, none, none] trivial ?_
          exact tz_rd_takeData_186  hF
        · replace hF := (if_neg hP).symm.trans hF
          refine am_go.blk hcd_rd_takeData 1 (g := (173, [some (.ref 10), none, some (.int q1)], [], zz_hC q4.2 t, true)) rfl ?_
          exact tz_rd_takeData_173  hF
    · replace hF := (if_neg hP).symm.trans hF
      refine am_go.blk hcd_rd_takeData 1 (g := (134, [some (.ref 10), none, some (.int q1)], [.ref 10], zz_hC q2.2 t, true)) rfl ?_
      obtain ⟨q5, hq5, hF⟩ := am_bd hF
      refine am_go.call hcd_rd_takeData rfl rfl rfl rfl (am_le8 rfl) (am_ev.le (by decide) (tz_rd_takePlain (t := t) hq5)) ?_
      refine am_go.blk hcd_rd_takeData 3 (g := (140, [some (.ref 10), none, some (.int q1)], [.long (Int32.toInt64 q1), .ref 10], zz_hC q5 t, true)) rfl ?_
      obtain ⟨q6, hq6, hF⟩ := am_bd hF
      refine am_go.call hcd_rd_takeData rfl rfl rfl rfl (am_le8 rfl) (am_ev.le (by decide) (tz_rd_takeByteBehind (t := t) hq6)) ?_
      obtain ⟨hb, hF⟩ := am_ng hF
      cases hF
      exact am_go.ret hcd_rd_takeData rfl rfl ⟨rfl, rfl, (fun h => by cases h), Or.inr ⟨rfl, Classical.not_not.mp hb⟩, rfl⟩
  · replace hF := (if_neg hP).symm.trans hF
    refine am_go.blk hcd_rd_takeData 1 (g := (121, [some (.ref 10), none, some (.int q1)], [.int (0 : Int32)], zz_hC q2.2 t, true)) rfl ?_
    cases hF
    exact am_go.ret hcd_rd_takeData rfl rfl ⟨rfl, rfl, (fun h => by cases h), Or.inr ⟨rfl, Or.inl rfl⟩, rfl⟩
def fz_rd_takeData_33  (y0 : Int32) (s : am_Z) : Option (Int32 × am_Z) :=
  if y0 = 0 then
    some ((0 : Int32), s)
  else
  (fz_rd_takeId s (1684108385 : Int32)).bind fun q1 =>
  if q1.1 = 0 then
    some ((0 : Int32), q1.2)
  else
  (fz_by_has q1.2 (q1.2.1 14) (4 : Int32)).bind fun q2 =>
  if ¬ q2 = 0 then
    if ¬ (q1.2.1 22) = (1 : Int32) then
      fz_rd_takeData_99 q1.2
    else
    (fz_by_numberAt q1.2 (q1.2.1 14) (4 : Int32) (q1.2.1 15)).bind fun q3 =>
    (fz_rd_samplesOfPlain q1.2 q3).bind fun q4 =>
    fz_rd_takeData_99 (zz_i q1.2 18 q4)
  else
  some ((0 : Int32), q1.2)
set_option maxRecDepth 20000 in
theorem tz_rd_takeData_33 {sc : am_S} {t : am_H} {h0 : am_H}   {y0 : Int32} {s : am_Z} {r : Int32 × am_Z} (hF : fz_rd_takeData_33 y0 s = some r) : am_go sc 5 (am_ev sc 4) 51 h0 (33, [some (.ref 10), none, none], [.int y0], zz_hC s t, true) ((.inl (some (.int r.1)), zz_hC r.2 t, true) : am_R) := by
  unfold fz_rd_takeData_33 at hF
  refine am_go.blk hcd_rd_takeData 3 (g := (bif decide (y0 = 0) then 62 else 38, [some (.ref 10), some (.int y0), none], [], zz_hC s t, true)) rfl ?_
  refine am_go.br (fun hP => ?_) (fun hP => ?_)
  · replace hF := (if_pos hP).symm.trans hF
    refine am_go.blk hcd_rd_takeData 1 (g := (63, [some (.ref 10), some (.int y0), none], [.int (0 : Int32)], zz_hC s t, true)) rfl ?_
    cases hF
    exact am_go.ret hcd_rd_takeData rfl rfl ⟨rfl, rfl, (fun h => by cases h), Or.inr ⟨rfl, Or.inl rfl⟩, rfl⟩
  · replace hF := (if_neg hP).symm.trans hF
    refine am_go.blk hcd_rd_takeData 2 (g := (41, [some (.ref 10), some (.int y0), none], [.int (1684108385 : Int32), .ref 10], zz_hC s t, true)) rfl ?_
    obtain ⟨q1, hq1, hF⟩ := am_bd hF
    refine am_go.call hcd_rd_takeData rfl rfl rfl rfl (am_le8 rfl) (am_ev.le (by decide) (tz_rd_takeId (t := t) hq1)) ?_
    refine am_go.blk hcd_rd_takeData 1 (g := (bif decide (q1.1 = 0) then 62 else 47, [some (.ref 10), some (.int y0), none], [], zz_hC q1.2 t, true)) rfl ?_
    refine am_go.br (fun hP => ?_) (fun hP => ?_)
    · replace hF := (if_pos hP).symm.trans hF
      refine am_go.blk hcd_rd_takeData 1 (g := (63, [some (.ref 10), some (.int y0), none], [.int (0 : Int32)], zz_hC q1.2 t, true)) rfl ?_
      cases hF
      exact am_go.ret hcd_rd_takeData rfl rfl ⟨rfl, rfl, (fun h => by cases h), Or.inr ⟨rfl, Or.inl rfl⟩, rfl⟩
    · replace hF := (if_neg hP).symm.trans hF
      refine am_go.blk hcd_rd_takeData 5 (g := (56, [some (.ref 10), some (.int y0), none], [.int (4 : Int32), .int (q1.2.1 14), .ref 3], zz_hC q1.2 t, true)) rfl ?_
      obtain ⟨q2, hq2, hF⟩ := am_bd hF
      refine am_go.call hcd_rd_takeData rfl rfl rfl rfl (am_le8 rfl) (am_ev.le (by decide) (tz_by_has (t := t) hq2)) ?_
      refine am_go.blk hcd_rd_takeData 1 (g := (bif decide (¬ q2 = 0) then 64 else 62, [some (.ref 10), some (.int y0), none], [], zz_hC q1.2 t, true)) rfl ?_
      refine am_go.br (fun hP => ?_) (fun hP => ?_)
      · replace hF := (if_pos hP).symm.trans hF
        refine am_go.blk hcd_rd_takeData 5 (g := (bif decide (¬ (q1.2.1 22) = (1 : Int32)) then 99 else 75, [some (.ref 10), some (.int y0), none], [], zz_hC q1.2 t, true)) rfl ?_
        refine am_go.br (fun hP => ?_) (fun hP => ?_)
        · replace hF := (if_pos hP).symm.trans hF
          refine am_go.fgl [some (.ref 10), none, none] ⟨rfl, trivial⟩ ?_
          exact tz_rd_takeData_99  hF
        · replace hF := (if_neg hP).symm.trans hF
          refine am_go.blk hcd_rd_takeData 9 (g := (90, [some (.ref 10), some (.int y0), none], [.int (q1.2.1 15), .int (4 : Int32), .int (q1.2.1 14), .ref 3, .ref 10, .ref 10], zz_hC q1.2 t, true)) rfl ?_
          obtain ⟨q3, hq3, hF⟩ := am_bd hF
          refine am_go.call hcd_rd_takeData rfl rfl rfl rfl (am_le8 rfl) (am_ev.le (by decide) (tz_by_numberAt (t := t) hq3)) ?_
          obtain ⟨q4, hq4, hF⟩ := am_bd hF
          refine am_go.call hcd_rd_takeData rfl rfl rfl rfl (am_le8 rfl) (am_ev.le (by decide) (tz_rd_samplesOfPlain (t := t) hq4)) ?_
          refine am_go.blk hcd_rd_takeData 1 (g := (99, [some (.ref 10), some (.int y0), none], [], zz_hC (zz_i q1.2 18 q4) t, true)) rfl ?_
          refine am_go.fgl [some (.ref 10), none, none] ⟨rfl, trivial⟩ ?_
          exact tz_rd_takeData_99  hF
      · replace hF := (if_neg hP).symm.trans hF
        refine am_go.blk hcd_rd_takeData 1 (g := (63, [some (.ref 10), some (.int y0), none], [.int (0 : Int32)], zz_hC q1.2 t, true)) rfl ?_
        cases hF
        exact am_go.ret hcd_rd_takeData rfl rfl ⟨rfl, rfl, (fun h => by cases h), Or.inr ⟨rfl, Or.inl rfl⟩, rfl⟩
def fz_rd_takeData_28  (s : am_Z) : Option (Int32 × am_Z) :=
  fz_rd_takeData_33 (1 : Int32) s
set_option maxRecDepth 20000 in
theorem tz_rd_takeData_28 {sc : am_S} {t : am_H} {h0 : am_H}   {s : am_Z} {r : Int32 × am_Z} (hF : fz_rd_takeData_28 s = some r) : am_go sc 5 (am_ev sc 4) 51 h0 (28, [some (.ref 10), none, none], [], zz_hC s t, true) ((.inl (some (.int r.1)), zz_hC r.2 t, true) : am_R) := by
  unfold fz_rd_takeData_28 at hF
  refine am_go.blk hcd_rd_takeData 2 (g := (33, [some (.ref 10), none, none], [.int (1 : Int32)], zz_hC s t, true)) rfl ?_
  exact tz_rd_takeData_33  hF
def fz_rd_takeData_32  (s : am_Z) : Option (Int32 × am_Z) :=
  fz_rd_takeData_33 (0 : Int32) s
set_option maxRecDepth 20000 in
theorem tz_rd_takeData_32 {sc : am_S} {t : am_H} {h0 : am_H}   {s : am_Z} {r : Int32 × am_Z} (hF : fz_rd_takeData_32 s = some r) : am_go sc 5 (am_ev sc 4) 51 h0 (32, [some (.ref 10), none, none], [], zz_hC s t, true) ((.inl (some (.int r.1)), zz_hC r.2 t, true) : am_R) := by
  unfold fz_rd_takeData_32 at hF
  refine am_go.blk hcd_rd_takeData 1 (g := (33, [some (.ref 10), none, none], [.int (0 : Int32)], zz_hC s t, true)) rfl ?_
  exact tz_rd_takeData_33  hF
def fz_rd_takeData (s : am_Z) : Option (Int32 × am_Z) :=
  if (s.1 22) = (1 : Int32) then
    fz_rd_takeData_28 s
  else
  (fz_fm_hasBlocks_13 s).bind fun q1 =>
  if q1 = 0 then
    fz_rd_takeData_32 s
  else
  if (s.1 16) = 0 then
    fz_rd_takeData_32 s
  else
  fz_rd_takeData_28 s
set_option maxRecDepth 20000 in
theorem tz_rd_takeData {sc : am_S} {t : am_H} {s : am_Z} {r : Int32 × am_Z} (hF : fz_rd_takeData s = some r) : am_ev sc 5 51 [.ref 10] (zz_hC s t) ((.inl (some (.int r.1)), zz_hC r.2 t, true) : am_R) := by
  unfold fz_rd_takeData at hF
  refine am_ev.of true rfl ?_
  show am_go sc _ _ _ _ (0, [some (.ref 10), none, none], [], zz_hC s t, true) _
  refine am_go.blk hcd_rd_takeData 5 (g := (bif decide ((s.1 22) = (1 : Int32)) then 28 else 11, [some (.ref 10), none, none], [], zz_hC s t, true)) rfl ?_
  refine am_go.br (fun hP => ?_) (fun hP => ?_)
  · replace hF := (if_pos hP).symm.trans hF
    exact tz_rd_takeData_28  hF
  · replace hF := (if_neg hP).symm.trans hF
    refine am_go.blk hcd_rd_takeData 2 (g := (15, [some (.ref 10), none, none], [.ref 13], zz_hC s t, true)) rfl ?_
    obtain ⟨q1, hq1, hF⟩ := am_bd hF
    refine am_go.call hcd_rd_takeData rfl rfl rfl rfl (am_le8 rfl) (am_ev.le (by decide) (tz_fm_hasBlocks_13 (t := t) hq1)) ?_
    refine am_go.blk hcd_rd_takeData 1 (g := (bif decide (q1 = 0) then 32 else 21, [some (.ref 10), none, none], [], zz_hC s t, true)) rfl ?_
    refine am_go.br (fun hP => ?_) (fun hP => ?_)
    · replace hF := (if_pos hP).symm.trans hF
      exact tz_rd_takeData_32  hF
    · replace hF := (if_neg hP).symm.trans hF
      refine am_go.blk hcd_rd_takeData 3 (g := (bif decide ((s.1 16) = 0) then 32 else 28, [some (.ref 10), none, none], [], zz_hC s t, true)) rfl ?_
      refine am_go.br (fun hP => ?_) (fun hP => ?_)
      · replace hF := (if_pos hP).symm.trans hF
        exact tz_rd_takeData_32  hF
      · replace hF := (if_neg hP).symm.trans hF
        exact tz_rd_takeData_28  hF
theorem hcd_rd_readFile : am_code 38 = am_c_rd_readFile := rfl
def fz_rd_readFile_113  (y0 : Int32) (s : am_Z) : Option (Int32 × am_Z) :=
  if y0 = 0 then
    some ((s.1 14), s)
  else
  some ((-1 : Int32), s)
theorem tz_rd_readFile_113 {sc : am_S} {t : am_H} {h0 : am_H}   {y0 : Int32} {s : am_Z} {r : Int32 × am_Z} (hF : fz_rd_readFile_113 y0 s = some r) : am_go sc 7 (am_ev sc 6) 38 h0 (113, [some (.ref 10), none, none], [.int y0], zz_hC s t, true) ((.inl (some (.int r.1)), zz_hC r.2 t, true) : am_R) := by
  unfold fz_rd_readFile_113 at hF
  refine am_go.blk hcd_rd_readFile 3 (g := (bif decide (y0 = 0) then 122 else 118, [some (.ref 10), some (.int y0), none], [], zz_hC s t, true)) rfl ?_
  refine am_go.br (fun hP => ?_) (fun hP => ?_)
  · replace hF := (if_pos hP).symm.trans hF
    refine am_go.blk hcd_rd_readFile 2 (g := (126, [some (.ref 10), some (.int y0), none], [.int (s.1 14)], zz_hC s t, true)) rfl ?_
    cases hF
    exact am_go.ret hcd_rd_readFile rfl rfl ⟨rfl, rfl, (fun h => by cases h), Or.inl rfl, rfl⟩
  · replace hF := (if_neg hP).symm.trans hF
    refine am_go.blk hcd_rd_readFile 2 (g := (126, [some (.ref 10), some (.int y0), none], [.int (-1 : Int32)], zz_hC s t, true)) rfl ?_
    cases hF
    exact am_go.ret hcd_rd_readFile rfl rfl ⟨rfl, rfl, (fun h => by cases h), Or.inl rfl, rfl⟩
def fz_rd_readFile_112  (s : am_Z) : Option (Int32 × am_Z) :=
  fz_rd_readFile_113 (0 : Int32) s
theorem tz_rd_readFile_112 {sc : am_S} {t : am_H} {h0 : am_H}   {s : am_Z} {r : Int32 × am_Z} (hF : fz_rd_readFile_112 s = some r) : am_go sc 7 (am_ev sc 6) 38 h0 (112, [some (.ref 10), none, none], [], zz_hC s t, true) ((.inl (some (.int r.1)), zz_hC r.2 t, true) : am_R) := by
  unfold fz_rd_readFile_112 at hF
  refine am_go.blk hcd_rd_readFile 1 (g := (113, [some (.ref 10), none, none], [.int (0 : Int32)], zz_hC s t, true)) rfl ?_
  exact tz_rd_readFile_113  hF
def fz_rd_readFile_94  (s : am_Z) : Option (Int32 × am_Z) :=
  if ¬ (s.1 14) = (s.1 3) then
    fz_rd_readFile_112 s
  else
  fz_rd_readFile_113 (1 : Int32) s
theorem tz_rd_readFile_94 {sc : am_S} {t : am_H} {h0 : am_H}   {s : am_Z} {r : Int32 × am_Z} (hF : fz_rd_readFile_94 s = some r) : am_go sc 7 (am_ev sc 6) 38 h0 (94, [some (.ref 10), none, none], [], zz_hC s t, true) ((.inl (some (.int r.1)), zz_hC r.2 t, true) : am_R) := by
  unfold fz_rd_readFile_94 at hF
  refine am_go.blk hcd_rd_readFile 6 (g := (bif decide (¬ (s.1 14) = (s.1 3)) then 112 else 108, [some (.ref 10), none, none], [], zz_hC s t, true)) rfl ?_
  refine am_go.br (fun hP => ?_) (fun hP => ?_)
  · replace hF := (if_pos hP).symm.trans hF
    exact tz_rd_readFile_112  hF
  · replace hF := (if_neg hP).symm.trans hF
    refine am_go.blk hcd_rd_readFile 2 (g := (113, [some (.ref 10), none, none], [.int (1 : Int32)], zz_hC s t, true)) rfl ?_
    exact tz_rd_readFile_113  hF
def fz_rd_readFile_66  (x1 : Int32) (s : am_Z) : Option (Int32 × am_Z) :=
  if x1 = 0 then
    fz_rd_readFile_112 s
  else
  if (s.1 15) = 0 then
    (fz_rd_takeData s).bind fun q1 =>
    if q1.1 = 0 then
      fz_rd_readFile_112 q1.2
    else
    fz_rd_readFile_94 q1.2
  else
  (fz_rd_takeSsnd s).bind fun q2 =>
  if q2.1 = 0 then
    fz_rd_readFile_112 q2.2
  else
  fz_rd_readFile_94 q2.2
theorem tz_rd_readFile_66 {sc : am_S} {t : am_H} {h0 : am_H}   {x1 : Int32} {s : am_Z} {r : Int32 × am_Z} (hF : fz_rd_readFile_66 x1 s = some r) : am_go sc 7 (am_ev sc 6) 38 h0 (66, [some (.ref 10), some (.int x1), none], [], zz_hC s t, true) ((.inl (some (.int r.1)), zz_hC r.2 t, true) : am_R) := by
  unfold fz_rd_readFile_66 at hF
  refine am_go.blk hcd_rd_readFile 2 (g := (bif decide (x1 = 0) then 112 else 70, [some (.ref 10), some (.int x1), none], [], zz_hC s t, true)) rfl ?_
  refine am_go.br (fun hP => ?_) (fun hP => ?_)
  · replace hF := (if_pos hP).symm.trans hF
    refine am_go.fgl [some (.ref 10), none, none] ⟨rfl, trivial⟩ ?_
    exact tz_rd_readFile_112  hF
  · replace hF := (if_neg hP).symm.trans hF
    refine am_go.blk hcd_rd_readFile 3 (g := (bif decide ((s.1 15) = 0) then 87 else 77, [some (.ref 10), some (.int x1), none], [], zz_hC s t, true)) rfl ?_
    refine am_go.br (fun hP => ?_) (fun hP => ?_)
    · replace hF := (if_pos hP).symm.trans hF
      refine am_go.blk hcd_rd_readFile 1 (g := (88, [some (.ref 10), some (.int x1), none], [.ref 10], zz_hC s t, true)) rfl ?_
      obtain ⟨q1, hq1, hF⟩ := am_bd hF
      refine am_go.call hcd_rd_readFile rfl rfl rfl rfl (am_le8 rfl) (am_ev.le (by decide) (tz_rd_takeData (t := t) hq1)) ?_
      refine am_go.blk hcd_rd_readFile 1 (g := (bif decide (q1.1 = 0) then 112 else 94, [some (.ref 10), some (.int x1), none], [], zz_hC q1.2 t, true)) rfl ?_
      refine am_go.br (fun hP => ?_) (fun hP => ?_)
      · replace hF := (if_pos hP).symm.trans hF
        refine am_go.fgl [some (.ref 10), none, none] ⟨rfl, trivial⟩ ?_
        exact tz_rd_readFile_112  hF
      · replace hF := (if_neg hP).symm.trans hF
        refine am_go.fgl [some (.ref 10), none, none] ⟨rfl, trivial⟩ ?_
        exact tz_rd_readFile_94  hF
    · replace hF := (if_neg hP).symm.trans hF
      refine am_go.blk hcd_rd_readFile 1 (g := (78, [some (.ref 10), some (.int x1), none], [.ref 10], zz_hC s t, true)) rfl ?_
      obtain ⟨q2, hq2, hF⟩ := am_bd hF
      refine am_go.call hcd_rd_readFile rfl rfl rfl rfl (am_le8 rfl) (am_ev.le (by decide) (tz_rd_takeSsnd (t := t) hq2)) ?_
      refine am_go.blk hcd_rd_readFile 1 (g := (bif decide (q2.1 = 0) then 112 else 84, [some (.ref 10), some (.int x1), none], [], zz_hC q2.2 t, true)) rfl ?_
      refine am_go.br (fun hP => ?_) (fun hP => ?_)
      · replace hF := (if_pos hP).symm.trans hF
        refine am_go.fgl [some (.ref 10), none, none] ⟨rfl, trivial⟩ ?_
        exact tz_rd_readFile_112  hF
      · replace hF := (if_neg hP).symm.trans hF
        refine am_go.blk hcd_rd_readFile 1 (g := (94, [some (.ref 10), some (.int x1), none], [], zz_hC q2.2 t, true)) rfl ?_
        refine am_go.fgl [some (.ref 10), none, none] ⟨rfl, trivial⟩ ?_
        exact tz_rd_readFile_94  hF
def fz_rd_readFile_38  : Nat → Int32 → Int32 → am_Z → Option (Int32 × am_Z)
  | 0, _, _, _ => none
  | n + 1, x1, x2, s =>
    if (50 : Int32) ≤ x2 then
      fz_rd_readFile_66 x1 s
    else
    if x1 = 0 then
      fz_rd_readFile_66 x1 s
    else
    (fz_rd_isAtSamples s).bind fun q1 =>
    if ¬ q1 = 0 then
      fz_rd_readFile_66 x1 s
    else
    (fz_rd_takeChunk s).bind fun q2 =>
    fz_rd_readFile_38 n q2.1 (x2 + (1 : Int32)) q2.2
theorem tz_rd_readFile_38 {sc : am_S} {t : am_H} {h0 : am_H}   : ∀ (n : Nat) (x1 : Int32) (x2 : Int32) (s : am_Z) (r : Int32 × am_Z), fz_rd_readFile_38  n x1 x2 s = some r → am_go sc 7 (am_ev sc 6) 38 h0 (38, [some (.ref 10), some (.int x1), some (.int x2)], [], zz_hC s t, true) ((.inl (some (.int r.1)), zz_hC r.2 t, true) : am_R) := by
  intro n
  induction n with
  | zero => intro x1 x2 s r hF; cases hF
  | succ n ih =>
    intro x1 x2 s r hF
    unfold fz_rd_readFile_38 at hF
    refine am_go.blk hcd_rd_readFile 3 (g := (bif decide ((50 : Int32) ≤ x2) then 66 else 44, [some (.ref 10), some (.int x1), some (.int x2)], [], zz_hC s t, true)) rfl ?_
    refine am_go.br (fun hP => ?_) (fun hP => ?_)
    · replace hF := (if_pos hP).symm.trans hF
      refine am_go.fgl [some (.ref 10), some (.int x1), none] ⟨rfl, rfl, trivial⟩ ?_
      exact tz_rd_readFile_66  hF
    · replace hF := (if_neg hP).symm.trans hF
      refine am_go.blk hcd_rd_readFile 2 (g := (bif decide (x1 = 0) then 66 else 48, [some (.ref 10), some (.int x1), some (.int x2)], [], zz_hC s t, true)) rfl ?_
      refine am_go.br (fun hP => ?_) (fun hP => ?_)
      · replace hF := (if_pos hP).symm.trans hF
        refine am_go.fgl [some (.ref 10), some (.int x1), none] ⟨rfl, rfl, trivial⟩ ?_
        exact tz_rd_readFile_66  hF
      · replace hF := (if_neg hP).symm.trans hF
        refine am_go.blk hcd_rd_readFile 1 (g := (49, [some (.ref 10), some (.int x1), some (.int x2)], [.ref 10], zz_hC s t, true)) rfl ?_
        obtain ⟨q1, hq1, hF⟩ := am_bd hF
        refine am_go.call hcd_rd_readFile rfl rfl rfl rfl (am_le8 rfl) (am_ev.le (by decide) (tz_rd_isAtSamples (t := t) hq1)) ?_
        refine am_go.blk hcd_rd_readFile 1 (g := (bif decide (¬ q1 = 0) then 66 else 55, [some (.ref 10), some (.int x1), some (.int x2)], [], zz_hC s t, true)) rfl ?_
        refine am_go.br (fun hP => ?_) (fun hP => ?_)
        · replace hF := (if_pos hP).symm.trans hF
          refine am_go.fgl [some (.ref 10), some (.int x1), none] ⟨rfl, rfl, trivial⟩ ?_
          exact tz_rd_readFile_66  hF
        · replace hF := (if_neg hP).symm.trans hF
          refine am_go.blk hcd_rd_readFile 1 (g := (56, [some (.ref 10), some (.int x1), some (.int x2)], [.ref 10], zz_hC s t, true)) rfl ?_
          obtain ⟨q2, hq2, hF⟩ := am_bd hF
          refine am_go.call hcd_rd_readFile rfl rfl rfl rfl (am_le8 rfl) (am_ev.le (by decide) (tz_rd_takeChunk (t := t) hq2)) ?_
          refine am_go.blk hcd_rd_readFile 3 (g := (38, [some (.ref 10), some (.int q2.1), some (.int (x2 + (1 : Int32)))], [], zz_hC q2.2 t, true)) rfl ?_
          exact ih _ _ _ _ hF
def fz_rd_readFile (s : am_Z) : Option (Int32 × am_Z) :=
  (fz_fm_setTag_13 (zz_i (zz_i (zz_i s 14 (0 : Int32)) 16 (0 : Int32)) 17 (0 : Int32)) (0 : Int32)).bind fun q1 =>
  (fz_rd_takeHead (zz_i q1 20 (0 : Int32))).bind fun q2 =>
  fz_rd_readFile_38 fz_fu q2.1 (0 : Int32) q2.2
theorem tz_rd_readFile {sc : am_S} {t : am_H} {s : am_Z} {r : Int32 × am_Z} (hF : fz_rd_readFile s = some r) : am_ev sc 7 38 [.ref 10] (zz_hC s t) ((.inl (some (.int r.1)), zz_hC r.2 t, true) : am_R) := by
  unfold fz_rd_readFile at hF
  refine am_ev.of true rfl ?_
  show am_go sc _ _ _ _ (0, [some (.ref 10), none, none], [], zz_hC s t, true) _
  refine am_go.blk hcd_rd_readFile 12 (g := (20, [some (.ref 10), none, none], [.int (0 : Int32), .ref 13], zz_hC (zz_i (zz_i (zz_i s 14 (0 : Int32)) 16 (0 : Int32)) 17 (0 : Int32)) t, true)) rfl ?_
  obtain ⟨q1, hq1, hF⟩ := am_bd hF
  refine am_go.call hcd_rd_readFile rfl rfl rfl rfl (am_le8 rfl) (am_ev.le (by decide) (tz_fm_setTag_13 (t := t) hq1)) ?_
  refine am_go.blk hcd_rd_readFile 5 (g := (32, [some (.ref 10), none, none], [.ref 10], zz_hC (zz_i q1 20 (0 : Int32)) t, true)) rfl ?_
  obtain ⟨q2, hq2, hF⟩ := am_bd hF
  refine am_go.call hcd_rd_readFile rfl rfl rfl rfl (am_le8 rfl) (am_ev.le (by decide) (tz_rd_takeHead (t := t) hq2)) ?_
  refine am_go.blk hcd_rd_readFile 3 (g := (38, [some (.ref 10), some (.int q2.1), some (.int (0 : Int32))], [], zz_hC q2.2 t, true)) rfl ?_
  exact tz_rd_readFile_38  fz_fu _ _ _ _ hF
theorem hcd_rd_formOfFile : am_code 39 = am_c_rd_formOfFile := rfl
def fz_rd_formOfFile (s : am_Z) : Option (Int32) :=
  if (s.1 15) = 0 then
    (fz_fm_hasBlocks_13 s).bind fun q1 =>
    if q1 = 0 then
      if ¬ (s.1 24) = (1 : Int32) then
        some (1 : Int32)
      else
      some (0 : Int32)
    else
    if ¬ (s.1 22) = (17 : Int32) then
      some (3 : Int32)
    else
    some (2 : Int32)
  else
  some (4 : Int32)
theorem tz_rd_formOfFile {sc : am_S} {t : am_H} {s : am_Z} {r : Int32} (hF : fz_rd_formOfFile s = some r) : am_ev sc 2 39 [.ref 10] (zz_hC s t) ((.inl (some (.int r)), zz_hC s t, false) : am_R) := by
  unfold fz_rd_formOfFile at hF
  refine am_ev.of false rfl ?_
  show am_go sc _ _ _ _ (0, [some (.ref 10)], [], zz_hC s t, false) _
  refine am_go.blk hcd_rd_formOfFile 3 (g := (bif decide ((s.1 15) = 0) then 9 else 7, [some (.ref 10)], [], zz_hC s t, false)) rfl ?_
  refine am_go.br (fun hP => ?_) (fun hP => ?_)
  · replace hF := (if_pos hP).symm.trans hF
    refine am_go.blk hcd_rd_formOfFile 2 (g := (13, [some (.ref 10)], [.ref 13], zz_hC s t, false)) rfl ?_
    obtain ⟨q1, hq1, hF⟩ := am_bd hF
    refine am_go.call hcd_rd_formOfFile rfl rfl rfl rfl (am_le8 rfl) (am_ev.le (by decide) (tz_fm_hasBlocks_13 (t := t) hq1)) ?_
    refine am_go.blk hcd_rd_formOfFile 1 (g := (bif decide (q1 = 0) then 37 else 19, [some (.ref 10)], [], zz_hC s t, false)) rfl ?_
    refine am_go.br (fun hP => ?_) (fun hP => ?_)
    · replace hF := (if_pos hP).symm.trans hF
      refine am_go.blk hcd_rd_formOfFile 5 (g := (bif decide (¬ (s.1 24) = (1 : Int32)) then 52 else 48, [some (.ref 10)], [], zz_hC s t, false)) rfl ?_
      refine am_go.br (fun hP => ?_) (fun hP => ?_)
      · replace hF := (if_pos hP).symm.trans hF
        refine am_go.blk hcd_rd_formOfFile 1 (g := (53, [some (.ref 10)], [.int (1 : Int32)], zz_hC s t, false)) rfl ?_
        cases hF
        exact am_go.ret hcd_rd_formOfFile rfl rfl ⟨rfl, rfl, (fun _ => rfl), Or.inl rfl, rfl⟩
      · replace hF := (if_neg hP).symm.trans hF
        refine am_go.blk hcd_rd_formOfFile 2 (g := (53, [some (.ref 10)], [.int (0 : Int32)], zz_hC s t, false)) rfl ?_
        cases hF
        exact am_go.ret hcd_rd_formOfFile rfl rfl ⟨rfl, rfl, (fun _ => rfl), Or.inl rfl, rfl⟩
    · replace hF := (if_neg hP).symm.trans hF
      refine am_go.blk hcd_rd_formOfFile 5 (g := (bif decide (¬ (s.1 22) = (17 : Int32)) then 35 else 31, [some (.ref 10)], [], zz_hC s t, false)) rfl ?_
      refine am_go.br (fun hP => ?_) (fun hP => ?_)
      · replace hF := (if_pos hP).symm.trans hF
        refine am_go.blk hcd_rd_formOfFile 1 (g := (36, [some (.ref 10)], [.int (3 : Int32)], zz_hC s t, false)) rfl ?_
        cases hF
        exact am_go.ret hcd_rd_formOfFile rfl rfl ⟨rfl, rfl, (fun _ => rfl), Or.inl rfl, rfl⟩
      · replace hF := (if_neg hP).symm.trans hF
        refine am_go.blk hcd_rd_formOfFile 2 (g := (36, [some (.ref 10)], [.int (2 : Int32)], zz_hC s t, false)) rfl ?_
        cases hF
        exact am_go.ret hcd_rd_formOfFile rfl rfl ⟨rfl, rfl, (fun _ => rfl), Or.inl rfl, rfl⟩
  · replace hF := (if_neg hP).symm.trans hF
    refine am_go.blk hcd_rd_formOfFile 1 (g := (8, [some (.ref 10)], [.int (4 : Int32)], zz_hC s t, false)) rfl ?_
    cases hF
    exact am_go.ret hcd_rd_formOfFile rfl rfl ⟨rfl, rfl, (fun _ => rfl), Or.inl rfl, rfl⟩
theorem hcd_sh_read : am_code 87 = am_c_sh_read := rfl
def fz_sh_read (s : am_Z) : Option (Int32 × am_Z) :=
  (fz_rd_readFile s).bind fun q1 =>
  if ¬ q1.1 = (-1 : Int32) then
    some (q1.1, q1.2)
  else
  (fz_so_copyFrom_1_11 q1.2).bind fun q2 =>
  (fz_rd_formOfFile q2).bind fun q3 =>
  some (q1.1, (zz_i q2 0 q3))
theorem tz_sh_read {sc : am_S} {t : am_H} {s : am_Z} {r : Int32 × am_Z} (hF : fz_sh_read s = some r) : am_ev sc 8 87 [.ref 0] (zz_hC s t) ((.inl (some (.int r.1)), zz_hC r.2 t, true) : am_R) := by
  unfold fz_sh_read at hF
  refine am_ev.of true rfl ?_
  show am_go sc _ _ _ _ (0, [some (.ref 0), none], [], zz_hC s t, true) _
  refine am_go.blk hcd_sh_read 2 (g := (4, [some (.ref 0), none], [.ref 10], zz_hC s t, true)) rfl ?_
  obtain ⟨q1, hq1, hF⟩ := am_bd hF
  refine am_go.call hcd_sh_read rfl rfl rfl rfl (am_le8 rfl) (am_ev.le (by decide) (tz_rd_readFile (t := t) hq1)) ?_
  refine am_go.blk hcd_sh_read 4 (g := (bif decide (¬ q1.1 = (-1 : Int32)) then 38 else 13, [some (.ref 0), some (.int q1.1)], [], zz_hC q1.2 t, true)) rfl ?_
  refine am_go.br (fun hP => ?_) (fun hP => ?_)
  · replace hF := (if_pos hP).symm.trans hF
    refine am_go.blk hcd_sh_read 1 (g := (39, [some (.ref 0), some (.int q1.1)], [.int q1.1], zz_hC q1.2 t, true)) rfl ?_
    cases hF
    exact am_go.ret hcd_sh_read rfl rfl ⟨rfl, rfl, (fun h => by cases h), Or.inl rfl, rfl⟩
  · replace hF := (if_neg hP).symm.trans hF
    refine am_go.blk hcd_sh_read 5 (g := (24, [some (.ref 0), some (.int q1.1)], [.ref 11, .ref 1], zz_hC q1.2 t, true)) rfl ?_
    obtain ⟨q2, hq2, hF⟩ := am_bd hF
    refine am_go.call hcd_sh_read rfl rfl rfl rfl (am_le8 rfl) (am_ev.le (by decide) (tz_so_copyFrom_1_11 (t := t) hq2)) ?_
    refine am_go.blk hcd_sh_read 3 (g := (32, [some (.ref 0), some (.int q1.1)], [.ref 10, .ref 0], zz_hC q2 t, true)) rfl ?_
    obtain ⟨q3, hq3, hF⟩ := am_bd hF
    refine am_go.call hcd_sh_read rfl rfl rfl rfl (am_le8 rfl) (am_ev.le (by decide) (tz_rd_formOfFile (t := t) hq3)) ?_
    refine am_go.blk hcd_sh_read 2 (g := (39, [some (.ref 0), some (.int q1.1)], [.int q1.1], zz_hC (zz_i q2 0 q3) t, true)) rfl ?_
    cases hF
    exact am_go.ret hcd_sh_read rfl rfl ⟨rfl, rfl, (fun h => by cases h), Or.inl rfl, rfl⟩
theorem hcd_sh_write : am_code 86 = am_c_sh_write := rfl
def fz_sh_write (s : am_Z) (x1 : Int32) (x2 : Int32) : Option (Nat ⊕ (Int32 × am_Z)) :=
  (fz_sh_isWritable x1 x2).bind fun q1 =>
  if ¬ q1 = 0 then
    if Int32.toInt x1 < 0 ∨ 3 < Int32.toInt x1 then
      (fz_wr_writeOther s x2).bind fun q2 =>
      some (.inr ((q2.1 3), q2))
    else
    if x1 = 0 then
      (fz_wr_writePlain s (1 : Int32)).bind fun q3 =>
      some (.inr ((q3.1 3), q3))
    else
    if x1 = 1 then
      (fz_wr_writePlain s (2 : Int32)).bind fun q4 =>
      some (.inr ((q4.1 3), q4))
    else
    if x1 = 2 then
      (fz_wr_writeStepped s x2).bind fun q5 =>
      some (.inr ((q5.1 3), q5))
    else
    if x1 = 3 then
      (fz_wr_writePredicted s x2).bind fun q6 =>
      some (.inr ((q6.1 3), q6))
    else
    none
  else
  some (.inl 9)
theorem tz_sh_write {sc : am_S} {t : am_H} {s : am_Z} {x1 : Int32} {x2 : Int32} {r : Nat ⊕ (Int32 × am_Z)} (hF : fz_sh_write s x1 x2 = some r) : am_ev sc 7 86 [.ref 0, .int x1, .int x2] (zz_hC s t) (zz_el (fun x => ((.inr ((zz_hC s t)).length, (zz_hC s t) ++ [.inl (x, [])], false) : am_R)) (fun p => ((.inl (some (.int p.1)), zz_hC p.2 t, true) : am_R)) r) := by
  unfold fz_sh_write at hF
  refine am_ev.of false rfl ?_
  show am_go sc _ _ _ _ (0, [some (.ref 0), some (.int x1), some (.int x2)], [], zz_hC s t, false) _
  refine am_go.blk hcd_sh_write 2 (g := (2, [some (.ref 0), some (.int x1), some (.int x2)], [.int x2, .int x1], zz_hC s t, false)) rfl ?_
  obtain ⟨q1, hq1, hF⟩ := am_bd hF
  refine am_go.call hcd_sh_write rfl rfl rfl rfl (am_le8 rfl) (am_ev.le (by decide) (tz_sh_isWritable (h := zz_hC s t) hq1)) ?_
  refine am_go.blk hcd_sh_write 1 (g := (bif decide (¬ q1 = 0) then 18 else 8, [some (.ref 0), some (.int x1), some (.int x2)], [], zz_hC s t, false)) rfl ?_
  refine am_go.br (fun hP => ?_) (fun hP => ?_)
  · replace hF := (if_pos hP).symm.trans hF
    refine am_go.blk hcd_sh_write 1 (g := (19, [some (.ref 0), some (.int x1), some (.int x2)], [.int x1], zz_hC s t, false)) rfl ?_
    by_cases hsw : Int32.toInt x1 < 0 ∨ 3 < Int32.toInt x1
    · replace hF := (if_pos hsw).symm.trans hF
      refine am_go.tsO hcd_sh_write rfl hsw rfl (t := 92) ?_
      refine am_go.blk hcd_sh_write 3 (g := (97, [some (.ref 0), some (.int x1), some (.int x2)], [.int x2, .ref 5], zz_hC s t, false)) rfl ?_
      obtain ⟨q2, hq2, hF⟩ := am_bd hF
      refine am_go.call hcd_sh_write rfl rfl rfl rfl (am_le8 rfl) (am_ev.le (by decide) (tz_wr_writeOther (t := t) hq2)) ?_
      refine am_go.blk hcd_sh_write 3 (g := (107, [some (.ref 0), some (.int x1), some (.int x2)], [.int (q2.1 3)], zz_hC q2 t, true)) rfl ?_
      cases hF
      exact am_go.ret hcd_sh_write rfl rfl ⟨rfl, rfl, (fun h => by cases h), Or.inl rfl, rfl⟩
    replace hF := (if_neg hsw).symm.trans hF
    by_cases hc : x1 = 0
    · replace hF := (if_pos hc).symm.trans hF
      refine am_go.tsI hcd_sh_write rfl hc (by decide) rfl rfl (t := 48) ?_
      refine am_go.blk hcd_sh_write 3 (g := (53, [some (.ref 0), some (.int x1), some (.int x2)], [.int (1 : Int32), .ref 5], zz_hC s t, false)) rfl ?_
      obtain ⟨q3, hq3, hF⟩ := am_bd hF
      refine am_go.call hcd_sh_write rfl rfl rfl rfl (am_le8 rfl) (am_ev.le (by decide) (tz_wr_writePlain (t := t) hq3)) ?_
      refine am_go.blk hcd_sh_write 4 (g := (107, [some (.ref 0), some (.int x1), some (.int x2)], [.int (q3.1 3)], zz_hC q3 t, true)) rfl ?_
      cases hF
      exact am_go.ret hcd_sh_write rfl rfl ⟨rfl, rfl, (fun h => by cases h), Or.inl rfl, rfl⟩
    replace hF := (if_neg hc).symm.trans hF
    by_cases hc : x1 = 1
    · replace hF := (if_pos hc).symm.trans hF
      refine am_go.tsI hcd_sh_write rfl hc (by decide) rfl rfl (t := 59) ?_
      refine am_go.blk hcd_sh_write 3 (g := (64, [some (.ref 0), some (.int x1), some (.int x2)], [.int (2 : Int32), .ref 5], zz_hC s t, false)) rfl ?_
      obtain ⟨q4, hq4, hF⟩ := am_bd hF
      refine am_go.call hcd_sh_write rfl rfl rfl rfl (am_le8 rfl) (am_ev.le (by decide) (tz_wr_writePlain (t := t) hq4)) ?_
      refine am_go.blk hcd_sh_write 4 (g := (107, [some (.ref 0), some (.int x1), some (.int x2)], [.int (q4.1 3)], zz_hC q4 t, true)) rfl ?_
      cases hF
      exact am_go.ret hcd_sh_write rfl rfl ⟨rfl, rfl, (fun h => by cases h), Or.inl rfl, rfl⟩
    replace hF := (if_neg hc).symm.trans hF
    by_cases hc : x1 = 2
    · replace hF := (if_pos hc).symm.trans hF
      refine am_go.tsI hcd_sh_write rfl hc (by decide) rfl rfl (t := 70) ?_
      refine am_go.blk hcd_sh_write 3 (g := (75, [some (.ref 0), some (.int x1), some (.int x2)], [.int x2, .ref 5], zz_hC s t, false)) rfl ?_
      obtain ⟨q5, hq5, hF⟩ := am_bd hF
      refine am_go.call hcd_sh_write rfl rfl rfl rfl (am_le8 rfl) (am_ev.le (by decide) (tz_wr_writeStepped (t := t) hq5)) ?_
      refine am_go.blk hcd_sh_write 4 (g := (107, [some (.ref 0), some (.int x1), some (.int x2)], [.int (q5.1 3)], zz_hC q5 t, true)) rfl ?_
      cases hF
      exact am_go.ret hcd_sh_write rfl rfl ⟨rfl, rfl, (fun h => by cases h), Or.inl rfl, rfl⟩
    replace hF := (if_neg hc).symm.trans hF
    by_cases hc : x1 = 3
    · replace hF := (if_pos hc).symm.trans hF
      refine am_go.tsI hcd_sh_write rfl hc (by decide) rfl rfl (t := 81) ?_
      refine am_go.blk hcd_sh_write 3 (g := (86, [some (.ref 0), some (.int x1), some (.int x2)], [.int x2, .ref 5], zz_hC s t, false)) rfl ?_
      obtain ⟨q6, hq6, hF⟩ := am_bd hF
      refine am_go.call hcd_sh_write rfl rfl rfl rfl (am_le8 rfl) (am_ev.le (by decide) (tz_wr_writePredicted (t := t) hq6)) ?_
      refine am_go.blk hcd_sh_write 4 (g := (107, [some (.ref 0), some (.int x1), some (.int x2)], [.int (q6.1 3)], zz_hC q6 t, true)) rfl ?_
      cases hF
      exact am_go.ret hcd_sh_write rfl rfl ⟨rfl, rfl, (fun h => by cases h), Or.inl rfl, rfl⟩
    replace hF := (if_neg hc).symm.trans hF
    cases hF
  · replace hF := (if_neg hP).symm.trans hF
    cases hF
    exact am_go.thr hcd_sh_write rfl rfl ⟨rfl, by decide, by decide, by decide, rfl, rfl, am_le8 rfl, rfl, rfl, rfl⟩
theorem hcd_sh_rate : am_code 85 = am_c_sh_rate := rfl
def fz_sh_rate (s : am_Z) : Option (Int32) :=
  some (s.1 2)
theorem tz_sh_rate {sc : am_S} {t : am_H} {s : am_Z} {r : Int32} (hF : fz_sh_rate s = some r) : am_ev sc 1 85 [.ref 0] (zz_hC s t) ((.inl (some (.int r)), zz_hC s t, false) : am_R) := by
  unfold fz_sh_rate at hF
  refine am_ev.of false rfl ?_
  show am_go sc _ _ _ _ (0, [some (.ref 0)], [], zz_hC s t, false) _
  refine am_go.blk hcd_sh_rate 3 (g := (7, [some (.ref 0)], [.int (s.1 2)], zz_hC s t, false)) rfl ?_
  cases hF
  exact am_go.ret hcd_sh_rate rfl rfl ⟨rfl, rfl, (fun _ => rfl), Or.inl rfl, rfl⟩
theorem hcd_sh_tune : am_code 84 = am_c_sh_tune := rfl
def fz_sh_tune_11  (s : am_Z) : Option (Nat ⊕ (Int32 × am_Z)) :=
  some (.inl 9)
theorem tz_sh_tune_11 {sc : am_S} {t : am_H}   {s : am_Z} {r : Nat ⊕ (Int32 × am_Z)} (hF : fz_sh_tune_11 s = some r) : am_go sc 6 (am_ev sc 5) 84 (zz_hC s t) (11, [none, none, none], [], zz_hC s t, false) (zz_el (fun x => ((.inr ((zz_hC s t)).length, (zz_hC s t) ++ [.inl (x, [])], false) : am_R)) (fun p => ((.inl (some (.int p.1)), zz_hC p.2 t, true) : am_R)) r) := by
  unfold fz_sh_tune_11 at hF
  cases hF
  exact am_go.thr hcd_sh_tune rfl rfl ⟨rfl, by decide, by decide, by decide, rfl, rfl, am_le8 rfl, rfl, rfl, rfl⟩
def fz_sh_tune (s : am_Z) (x1 : Int32) : Option (Nat ⊕ (Int32 × am_Z)) :=
  if x1 < (1 : Int32) then
    fz_sh_tune_11 s
  else
  if x1 ≤ (192000 : Int32) then
    some (.inr ((s.1 2), (zz_i s 2 x1)))
  else
  fz_sh_tune_11 s
theorem tz_sh_tune {sc : am_S} {t : am_H} {s : am_Z} {x1 : Int32} {r : Nat ⊕ (Int32 × am_Z)} (hF : fz_sh_tune s x1 = some r) : am_ev sc 6 84 [.ref 0, .int x1] (zz_hC s t) (zz_el (fun x => ((.inr ((zz_hC s t)).length, (zz_hC s t) ++ [.inl (x, [])], false) : am_R)) (fun p => ((.inl (some (.int p.1)), zz_hC p.2 t, true) : am_R)) r) := by
  unfold fz_sh_tune at hF
  refine am_ev.of false rfl ?_
  show am_go sc _ _ _ _ (0, [some (.ref 0), some (.int x1), none], [], zz_hC s t, false) _
  refine am_go.blk hcd_sh_tune 3 (g := (bif decide (x1 < (1 : Int32)) then 11 else 5, [some (.ref 0), some (.int x1), none], [], zz_hC s t, false)) rfl ?_
  refine am_go.br (fun hP => ?_) (fun hP => ?_)
  · replace hF := (if_pos hP).symm.trans hF
    refine am_go.fgl [none, none, none] trivial ?_
    exact tz_sh_tune_11  hF
  · replace hF := (if_neg hP).symm.trans hF
    refine am_go.blk hcd_sh_tune 3 (g := (bif decide (x1 ≤ (192000 : Int32)) then 21 else 11, [some (.ref 0), some (.int x1), none], [], zz_hC s t, false)) rfl ?_
    refine am_go.br (fun hP => ?_) (fun hP => ?_)
    · replace hF := (if_pos hP).symm.trans hF
      refine am_go.blk hcd_sh_tune 9 (g := (38, [some (.ref 0), some (.int x1), some (.int (s.1 2))], [.int (s.1 2)], zz_hC (zz_i s 2 x1) t, true)) rfl ?_
      cases hF
      exact am_go.ret hcd_sh_tune rfl rfl ⟨rfl, rfl, (fun h => by cases h), Or.inl rfl, rfl⟩
    · replace hF := (if_neg hP).symm.trans hF
      refine am_go.fgl [none, none, none] trivial ?_
      exact tz_sh_tune_11  hF
theorem hcd_sh_at : am_code 83 = am_c_sh_at := rfl
def fz_sh_at_15 (s : am_Z)  : Option (Nat ⊕ (Int32)) :=
  some (.inl 11)
theorem tz_sh_at_15 {sc : am_S} {t : am_H} {s : am_Z}   {r : Nat ⊕ (Int32)} (hF : fz_sh_at_15 s = some r) : am_go sc 6 (am_ev sc 5) 83 (zz_hC s t) (15, [none, none], [], zz_hC s t, false) (zz_el (fun x => ((.inr ((zz_hC s t)).length, (zz_hC s t) ++ [.inl (x, [])], false) : am_R)) (fun p => ((.inl (some (.int p)), zz_hC s t, false) : am_R)) r) := by
  unfold fz_sh_at_15 at hF
  cases hF
  exact am_go.thr hcd_sh_at rfl rfl ⟨rfl, by decide, by decide, by decide, rfl, rfl, am_le8 rfl, rfl, rfl, rfl⟩
def fz_sh_at (s : am_Z) (x1 : Int32) : Option (Nat ⊕ (Int32)) :=
  if x1 < 0 then
    fz_sh_at_15 s
  else
  if x1 < (s.1 1) then
    if x1 < 0 ∨ 64 ≤ Int32.toNatClampNeg x1 then none else
    some (.inr ((s.2.2 0) (Int32.toNatClampNeg x1)))
  else
  fz_sh_at_15 s
theorem tz_sh_at {sc : am_S} {t : am_H} {s : am_Z} {x1 : Int32} {r : Nat ⊕ (Int32)} (hF : fz_sh_at s x1 = some r) : am_ev sc 6 83 [.ref 0, .int x1] (zz_hC s t) (zz_el (fun x => ((.inr ((zz_hC s t)).length, (zz_hC s t) ++ [.inl (x, [])], false) : am_R)) (fun p => ((.inl (some (.int p)), zz_hC s t, false) : am_R)) r) := by
  unfold fz_sh_at at hF
  refine am_ev.of false rfl ?_
  show am_go sc _ _ _ _ (0, [some (.ref 0), some (.int x1)], [], zz_hC s t, false) _
  refine am_go.blk hcd_sh_at 2 (g := (bif decide (x1 < 0) then 15 else 4, [some (.ref 0), some (.int x1)], [], zz_hC s t, false)) rfl ?_
  refine am_go.br (fun hP => ?_) (fun hP => ?_)
  · replace hF := (if_pos hP).symm.trans hF
    refine am_go.fgl [none, none] trivial ?_
    exact tz_sh_at_15  hF
  · replace hF := (if_neg hP).symm.trans hF
    refine am_go.blk hcd_sh_at 5 (g := (bif decide (x1 < (s.1 1)) then 25 else 15, [some (.ref 0), some (.int x1)], [], zz_hC s t, false)) rfl ?_
    refine am_go.br (fun hP => ?_) (fun hP => ?_)
    · replace hF := (if_pos hP).symm.trans hF
      refine am_go.blk hcd_sh_at 4 (g := (33, [some (.ref 0), some (.int x1)], [.int x1, .ref 2], zz_hC s t, false)) rfl ?_
      obtain ⟨hi1, hF⟩ := am_ng hF
      refine am_go.iald hcd_sh_at rfl rfl hi1 ?_
      cases hF
      exact am_go.ret hcd_sh_at rfl rfl ⟨rfl, rfl, (fun _ => rfl), Or.inl rfl, rfl⟩
    · replace hF := (if_neg hP).symm.trans hF
      refine am_go.fgl [none, none] trivial ?_
      exact tz_sh_at_15  hF
theorem hcd_sh_samples : am_code 82 = am_c_sh_samples := rfl
def fz_sh_samples (s : am_Z) : Option (Int32) :=
  some (s.1 1)
theorem tz_sh_samples {sc : am_S} {t : am_H} {s : am_Z} {r : Int32} (hF : fz_sh_samples s = some r) : am_ev sc 1 82 [.ref 0] (zz_hC s t) ((.inl (some (.int r)), zz_hC s t, false) : am_R) := by
  unfold fz_sh_samples at hF
  refine am_ev.of false rfl ?_
  show am_go sc _ _ _ _ (0, [some (.ref 0)], [], zz_hC s t, false) _
  refine am_go.blk hcd_sh_samples 3 (g := (7, [some (.ref 0)], [.int (s.1 1)], zz_hC s t, false)) rfl ?_
  cases hF
  exact am_go.ret hcd_sh_samples rfl rfl ⟨rfl, rfl, (fun _ => rfl), Or.inl rfl, rfl⟩
theorem hcd_sh_clear : am_code 81 = am_c_sh_clear := rfl
def fz_sh_clear (s : am_Z) : Option (Int32 × am_Z) :=
  some ((s.1 1), (zz_i s 1 (0 : Int32)))
theorem tz_sh_clear {sc : am_S} {t : am_H} {s : am_Z} {r : Int32 × am_Z} (hF : fz_sh_clear s = some r) : am_ev sc 1 81 [.ref 0] (zz_hC s t) ((.inl (some (.int r.1)), zz_hC r.2 t, true) : am_R) := by
  unfold fz_sh_clear at hF
  refine am_ev.of true rfl ?_
  show am_go sc _ _ _ _ (0, [some (.ref 0), none], [], zz_hC s t, true) _
  refine am_go.blk hcd_sh_clear 9 (g := (17, [some (.ref 0), some (.int (s.1 1))], [.int (s.1 1)], zz_hC (zz_i s 1 (0 : Int32)) t, true)) rfl ?_
  cases hF
  exact am_go.ret hcd_sh_clear rfl rfl ⟨rfl, rfl, (fun h => by cases h), Or.inl rfl, rfl⟩
theorem hcd_sh_add : am_code 80 = am_c_sh_add := rfl
def fz_sh_add_14  (s : am_Z) : Option (Nat ⊕ (Int32 × am_Z)) :=
  some (.inl 9)
theorem tz_sh_add_14 {sc : am_S} {t : am_H}   {s : am_Z} {r : Nat ⊕ (Int32 × am_Z)} (hF : fz_sh_add_14 s = some r) : am_go sc 6 (am_ev sc 5) 80 (zz_hC s t) (14, [none, none], [], zz_hC s t, false) (zz_el (fun x => ((.inr ((zz_hC s t)).length, (zz_hC s t) ++ [.inl (x, [])], false) : am_R)) (fun p => ((.inl (some (.int p.1)), zz_hC p.2 t, true) : am_R)) r) := by
  unfold fz_sh_add_14 at hF
  cases hF
  exact am_go.thr hcd_sh_add rfl rfl ⟨rfl, by decide, by decide, by decide, rfl, rfl, am_le8 rfl, rfl, rfl, rfl⟩
def fz_sh_add (s : am_Z) (x1 : Int32) : Option (Nat ⊕ (Int32 × am_Z)) :=
  if x1 < (-32768 : Int32) then
    fz_sh_add_14 s
  else
  if x1 ≤ (32767 : Int32) then
    if (s.1 1) < (64 : Int32) then
      (fz_so_append_1 s x1).bind fun q1 =>
      some (.inr ((q1.1 1), q1))
    else
    some (.inl 10)
  else
  fz_sh_add_14 s
theorem tz_sh_add {sc : am_S} {t : am_H} {s : am_Z} {x1 : Int32} {r : Nat ⊕ (Int32 × am_Z)} (hF : fz_sh_add s x1 = some r) : am_ev sc 6 80 [.ref 0, .int x1] (zz_hC s t) (zz_el (fun x => ((.inr ((zz_hC s t)).length, (zz_hC s t) ++ [.inl (x, [])], false) : am_R)) (fun p => ((.inl (some (.int p.1)), zz_hC p.2 t, true) : am_R)) r) := by
  unfold fz_sh_add at hF
  refine am_ev.of false rfl ?_
  show am_go sc _ _ _ _ (0, [some (.ref 0), some (.int x1)], [], zz_hC s t, false) _
  refine am_go.blk hcd_sh_add 3 (g := (bif decide (x1 < (-32768 : Int32)) then 14 else 7, [some (.ref 0), some (.int x1)], [], zz_hC s t, false)) rfl ?_
  refine am_go.br (fun hP => ?_) (fun hP => ?_)
  · replace hF := (if_pos hP).symm.trans hF
    refine am_go.fgl [none, none] trivial ?_
    exact tz_sh_add_14  hF
  · replace hF := (if_neg hP).symm.trans hF
    refine am_go.blk hcd_sh_add 3 (g := (bif decide (x1 ≤ (32767 : Int32)) then 24 else 14, [some (.ref 0), some (.int x1)], [], zz_hC s t, false)) rfl ?_
    refine am_go.br (fun hP => ?_) (fun hP => ?_)
    · replace hF := (if_pos hP).symm.trans hF
      refine am_go.blk hcd_sh_add 5 (g := (bif decide ((s.1 1) < (64 : Int32)) then 46 else 36, [some (.ref 0), some (.int x1)], [], zz_hC s t, false)) rfl ?_
      refine am_go.br (fun hP => ?_) (fun hP => ?_)
      · replace hF := (if_pos hP).symm.trans hF
        refine am_go.blk hcd_sh_add 3 (g := (51, [some (.ref 0), some (.int x1)], [.int x1, .ref 1], zz_hC s t, false)) rfl ?_
        obtain ⟨q1, hq1, hF⟩ := am_bd hF
        refine am_go.call hcd_sh_add rfl rfl rfl rfl (am_le8 rfl) (am_ev.le (by decide) (tz_so_append_1 (t := t) hq1)) ?_
        refine am_go.blk hcd_sh_add 3 (g := (61, [some (.ref 0), some (.int x1)], [.int (q1.1 1)], zz_hC q1 t, true)) rfl ?_
        cases hF
        exact am_go.ret hcd_sh_add rfl rfl ⟨rfl, rfl, (fun h => by cases h), Or.inl rfl, rfl⟩
      · replace hF := (if_neg hP).symm.trans hF
        cases hF
        exact am_go.thr hcd_sh_add rfl rfl ⟨rfl, by decide, by decide, by decide, rfl, rfl, am_le8 rfl, rfl, rfl, rfl⟩
    · replace hF := (if_neg hP).symm.trans hF
      refine am_go.fgl [none, none] trivial ?_
      exact tz_sh_add_14  hF
