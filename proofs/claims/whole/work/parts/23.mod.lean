/-! printed by wip/gen/genF.py -/
theorem hcd_mo_peek : am_code 134 = am_c_mo_peek := rfl
def fz_mo_peek_46 (s : am_Z) (K20 : Int32 → Int32 → Int32 → Int64 → Int32 → Option (Int64)) (x1 : Int32) (x2 : Int32) (x3 : Int32) (x4 : Int64) (x6 : Int32) (y0 : Int32) (y1 : Int32) : Option (Int64) :=
  if (y1 + y0) < 0 ∨ 400 ≤ Int32.toNatClampNeg (y1 + y0) then none else
  K20 x1 x2 x3 ((x4 <<< (Int32.toInt64 (8 : Int32) &&& 63)) ||| (Int32.toInt64 ((s.2.2 1) (Int32.toNatClampNeg (y1 + y0))))) (x6 + (1 : Int32))
theorem tz_mo_peek_46 {sc : am_S} {c : am_Z} {t : am_H} {h0 : am_H} {s : am_Z} {K20 : Int32 → Int32 → Int32 → Int64 → Int32 → Option (Int64)} (hK20 : ∀ (x1 : Int32) (x2 : Int32) (x3 : Int32) (x4 : Int64) (x6 : Int32) (r : Int64), K20 x1 x2 x3 x4 x6 = some r → am_go sc 1 (am_ev sc 0) 134 h0 (20, [some (.ref 16), some (.int x1), some (.int x2), some (.int x3), some (.long x4), none, some (.int x6), none], [], zz_hM c s t, false) ((.inl (some (.long r)), zz_hM c s t, false) : am_R)) {x1 : Int32} {x2 : Int32} {x3 : Int32} {x4 : Int64} {x6 : Int32} {y0 : Int32} {y1 : Int32} {r : Int64} (hF : fz_mo_peek_46 s K20 x1 x2 x3 x4 x6 y0 y1 = some r) : am_go sc 1 (am_ev sc 0) 134 h0 (46, [some (.ref 16), some (.int x1), some (.int x2), some (.int x3), some (.long x4), none, some (.int x6), none], [.int y0, .int y1, .ref 18], zz_hM c s t, false) ((.inl (some (.long r)), zz_hM c s t, false) : am_R) := by
  unfold fz_mo_peek_46 at hF
  refine am_go.blk hcd_mo_peek 1 (g := (47, [some (.ref 16), some (.int x1), some (.int x2), some (.int x3), some (.long x4), none, some (.int x6), none], [.int (y1 + y0), .ref 18], zz_hM c s t, false)) rfl ?_
  obtain ⟨hi1, hF⟩ := am_ng hF
  refine am_go.iald hcd_mo_peek rfl rfl hi1 ?_
  refine am_go.blk hcd_mo_peek 10 (g := (20, [some (.ref 16), some (.int x1), some (.int x2), some (.int x3), some (.long ((x4 <<< (Int32.toInt64 (8 : Int32) &&& 63)) ||| (Int32.toInt64 ((s.2.2 1) (Int32.toNatClampNeg (y1 + y0)))))), none, some (.int (x6 + (1 : Int32))), some (.int ((s.2.2 1) (Int32.toNatClampNeg (y1 + y0))))], [], zz_hM c s t, false)) rfl ?_
  refine am_go.fgl [some (.ref 16), some (.int x1), some (.int x2), some (.int x3), some (.long ((x4 <<< (Int32.toInt64 (8 : Int32) &&& 63)) ||| (Int32.toInt64 ((s.2.2 1) (Int32.toNatClampNeg (y1 + y0)))))), none, some (.int (x6 + (1 : Int32))), none] ⟨rfl, rfl, rfl, rfl, rfl, rfl, trivial⟩ ?_
  exact hK20 _ _ _ _ _ _ hF
def fz_mo_peek_20 (s : am_Z) : Nat → Int32 → Int32 → Int32 → Int64 → Int32 → Option (Int64)
  | 0, _, _, _, _, _ => none
  | n + 1, x1, x2, x3, x4, x6 =>
    if x2 ≤ x6 then
      some x4
    else
    if x3 = 0 then
      fz_mo_peek_46 s (fz_mo_peek_20 s n) x1 x2 x3 x4 x6 ((x2 - (1 : Int32)) - x6) x1
    else
    fz_mo_peek_46 s (fz_mo_peek_20 s n) x1 x2 x3 x4 x6 x6 x1
theorem tz_mo_peek_20 {sc : am_S} {c : am_Z} {t : am_H} {h0 : am_H} {s : am_Z}  : ∀ (n : Nat) (x1 : Int32) (x2 : Int32) (x3 : Int32) (x4 : Int64) (x6 : Int32) (r : Int64), fz_mo_peek_20 s n x1 x2 x3 x4 x6 = some r → am_go sc 1 (am_ev sc 0) 134 h0 (20, [some (.ref 16), some (.int x1), some (.int x2), some (.int x3), some (.long x4), none, some (.int x6), none], [], zz_hM c s t, false) ((.inl (some (.long r)), zz_hM c s t, false) : am_R) := by
  intro n
  induction n with
  | zero => intro x1 x2 x3 x4 x6 r hF; cases hF
  | succ n ih =>
    intro x1 x2 x3 x4 x6 r hF
    unfold fz_mo_peek_20 at hF
    refine am_go.blk hcd_mo_peek 3 (g := (bif decide (x2 ≤ x6) then 67 else 26, [some (.ref 16), some (.int x1), some (.int x2), some (.int x3), some (.long x4), none, some (.int x6), none], [], zz_hM c s t, false)) rfl ?_
    refine am_go.br (fun hP => ?_) (fun hP => ?_)
    · replace hF := (if_pos hP).symm.trans hF
      refine am_go.blk hcd_mo_peek 1 (g := (69, [some (.ref 16), some (.int x1), some (.int x2), some (.int x3), some (.long x4), none, some (.int x6), none], [.long x4], zz_hM c s t, false)) rfl ?_
      cases hF
      exact am_go.ret hcd_mo_peek rfl rfl ⟨rfl, rfl, (fun _ => rfl), rfl, rfl⟩
    · replace hF := (if_neg hP).symm.trans hF
      refine am_go.blk hcd_mo_peek 5 (g := (bif decide (x3 = 0) then 40 else 35, [some (.ref 16), some (.int x1), some (.int x2), some (.int x3), some (.long x4), none, some (.int x6), none], [.int x1, .ref 18], zz_hM c s t, false)) rfl ?_
      refine am_go.br (fun hP => ?_) (fun hP => ?_)
      · replace hF := (if_pos hP).symm.trans hF
        refine am_go.blk hcd_mo_peek 5 (g := (46, [some (.ref 16), some (.int x1), some (.int x2), some (.int x3), some (.long x4), none, some (.int x6), none], [.int ((x2 - (1 : Int32)) - x6), .int x1, .ref 18], zz_hM c s t, false)) rfl ?_
        exact tz_mo_peek_46 (hK20 := ih) hF
      · replace hF := (if_neg hP).symm.trans hF
        refine am_go.blk hcd_mo_peek 2 (g := (46, [some (.ref 16), some (.int x1), some (.int x2), some (.int x3), some (.long x4), none, some (.int x6), none], [.int x6, .int x1, .ref 18], zz_hM c s t, false)) rfl ?_
        exact tz_mo_peek_46 (hK20 := ih) hF
def fz_mo_peek (s : am_Z) (x1 : Int32) (x2 : Int32) (x3 : Int32) : Option (Int64) :=
  if (x1 + x2) ≤ (s.1 4) then
    fz_mo_peek_20 s fz_fu x1 x2 x3 (0 : Int64) (0 : Int32)
  else
  some (-1 : Int64)
theorem tz_mo_peek {sc : am_S} {c : am_Z} {t : am_H} {s : am_Z} {x1 : Int32} {x2 : Int32} {x3 : Int32} {r : Int64} (hF : fz_mo_peek s x1 x2 x3 = some r) : am_ev sc 1 134 [.ref 16, .int x1, .int x2, .int x3] (zz_hM c s t) ((.inl (some (.long r)), zz_hM c s t, false) : am_R) := by
  unfold fz_mo_peek at hF
  refine am_ev.of false rfl ?_
  show am_go sc _ _ _ _ (0, [some (.ref 16), some (.int x1), some (.int x2), some (.int x3), none, none, none, none], [], zz_hM c s t, false) _
  refine am_go.blk hcd_mo_peek 6 (g := (bif decide ((x1 + x2) ≤ (s.1 4)) then 14 else 10, [some (.ref 16), some (.int x1), some (.int x2), some (.int x3), none, none, none, none], [], zz_hM c s t, false)) rfl ?_
  refine am_go.br (fun hP => ?_) (fun hP => ?_)
  · replace hF := (if_pos hP).symm.trans hF
    refine am_go.blk hcd_mo_peek 4 (g := (20, [some (.ref 16), some (.int x1), some (.int x2), some (.int x3), some (.long (0 : Int64)), none, some (.int (0 : Int32)), none], [], zz_hM c s t, false)) rfl ?_
    exact tz_mo_peek_20  fz_fu _ _ _ _ _ _ hF
  · replace hF := (if_neg hP).symm.trans hF
    refine am_go.blk hcd_mo_peek 1 (g := (13, [some (.ref 16), some (.int x1), some (.int x2), some (.int x3), none, none, none, none], [.long (-1 : Int64)], zz_hM c s t, false)) rfl ?_
    cases hF
    exact am_go.ret hcd_mo_peek rfl rfl ⟨rfl, rfl, (fun _ => rfl), rfl, rfl⟩
theorem hcd_mo_behind : am_code 159 = am_c_mo_behind := rfl
def fz_mo_behind_53 (s : am_Z)  : Option (Int32) :=
  some (-1 : Int32)
theorem tz_mo_behind_53 {sc : am_S} {c : am_Z} {t : am_H} {h0 : am_H} {s : am_Z}   {r : Int32} (hF : fz_mo_behind_53 s = some r) : am_go sc 2 (am_ev sc 1) 159 h0 (53, [none, none, none, none], [], zz_hM c s t, false) ((.inl (some (.int r)), zz_hM c s t, false) : am_R) := by
  unfold fz_mo_behind_53 at hF
  refine am_go.blk hcd_mo_behind 2 (g := (70, [none, none, none, none], [.int (-1 : Int32)], zz_hM c s t, false)) rfl ?_
  cases hF
  exact am_go.ret hcd_mo_behind rfl rfl ⟨rfl, rfl, (fun _ => rfl), Or.inl rfl, rfl⟩
def fz_mo_behind_21 (s : am_Z) (x1 : Int32) (y0 : Int32) (y1 : Int32) (y2 : Int32) : Option (Int32) :=
  (fz_mo_peek s y2 y1 y0).bind fun q1 =>
  if (lg_cmp q1 (0 : Int64)) < 0 then
    fz_mo_behind_53 s
  else
  if (lg_cmp (((Int32.toInt64 (x1 + (8 : Int32))) + q1) + (q1 - q1 / (2 : Int64) * (2 : Int64))) (Int32.toInt64 (s.1 4))) ≤ 0 then
    some ((x1 + (8 : Int32)) + (Int64.toInt32 (q1 + (q1 - q1 / (2 : Int64) * (2 : Int64)))))
  else
  fz_mo_behind_53 s
theorem tz_mo_behind_21 {sc : am_S} {c : am_Z} {t : am_H} {h0 : am_H} {s : am_Z}  {x1 : Int32} {y0 : Int32} {y1 : Int32} {y2 : Int32} {r : Int32} (hF : fz_mo_behind_21 s x1 y0 y1 y2 = some r) : am_go sc 2 (am_ev sc 1) 159 h0 (21, [some (.ref 16), some (.int x1), none, none], [.int y0, .int y1, .int y2, .ref 16], zz_hM c s t, false) ((.inl (some (.int r)), zz_hM c s t, false) : am_R) := by
  unfold fz_mo_behind_21 at hF
  obtain ⟨q1, hq1, hF⟩ := am_bd hF
  refine am_go.call hcd_mo_behind rfl rfl rfl rfl (am_le8 rfl) (am_ev.le (by decide) (tz_mo_peek (c := c) (t := t) hq1)) ?_
  refine am_go.blk hcd_mo_behind 5 (g := (bif decide ((lg_cmp q1 (0 : Int64)) < 0) then 53 else 31, [some (.ref 16), some (.int x1), some (.long q1), none], [], zz_hM c s t, false)) rfl ?_
  refine am_go.br (fun hP => ?_) (fun hP => ?_)
  · replace hF := (if_pos hP).symm.trans hF
    refine am_go.fgl [none, none, none, none] trivial ?_
    exact tz_mo_behind_53  hF
  · replace hF := (if_neg hP).symm.trans hF
    refine am_go.blk hcd_mo_behind 8 (g := (42, [some (.ref 16), some (.int x1), some (.long q1), none], [.long (2 : Int64), .long q1, .long ((Int32.toInt64 (x1 + (8 : Int32))) + q1)], zz_hM c s t, false)) rfl ?_
    refine am_go.lrm hcd_mo_behind rfl (by decide) ?_
    refine am_go.blk hcd_mo_behind 6 (g := (bif decide ((lg_cmp (((Int32.toInt64 (x1 + (8 : Int32))) + q1) + (q1 - q1 / (2 : Int64) * (2 : Int64))) (Int32.toInt64 (s.1 4))) ≤ 0) then 57 else 53, [some (.ref 16), some (.int x1), some (.long q1), none], [], zz_hM c s t, false)) rfl ?_
    refine am_go.br (fun hP => ?_) (fun hP => ?_)
    · replace hF := (if_pos hP).symm.trans hF
      refine am_go.blk hcd_mo_behind 6 (g := (66, [some (.ref 16), some (.int x1), some (.long q1), none], [.long (2 : Int64), .long q1, .long q1, .int (x1 + (8 : Int32))], zz_hM c s t, false)) rfl ?_
      refine am_go.lrm hcd_mo_behind rfl (by decide) ?_
      refine am_go.blk hcd_mo_behind 3 (g := (70, [some (.ref 16), some (.int x1), some (.long q1), none], [.int ((x1 + (8 : Int32)) + (Int64.toInt32 (q1 + (q1 - q1 / (2 : Int64) * (2 : Int64)))))], zz_hM c s t, false)) rfl ?_
      cases hF
      exact am_go.ret hcd_mo_behind rfl rfl ⟨rfl, rfl, (fun _ => rfl), Or.inl rfl, rfl⟩
    · replace hF := (if_neg hP).symm.trans hF
      refine am_go.fgl [none, none, none, none] trivial ?_
      exact tz_mo_behind_53  hF
def fz_mo_behind (s : am_Z) (x1 : Int32) : Option (Int32) :=
  if ((s.2.2 1) (Int32.toNatClampNeg (0 : Int32))) = (82 : Int32) then
    fz_mo_behind_21 s x1 (0 : Int32) (4 : Int32) (x1 + (4 : Int32))
  else
  fz_mo_behind_21 s x1 (1 : Int32) (4 : Int32) (x1 + (4 : Int32))
theorem tz_mo_behind {sc : am_S} {c : am_Z} {t : am_H} {s : am_Z} {x1 : Int32} {r : Int32} (hF : fz_mo_behind s x1 = some r) : am_ev sc 2 159 [.ref 16, .int x1] (zz_hM c s t) ((.inl (some (.int r)), zz_hM c s t, false) : am_R) := by
  unfold fz_mo_behind at hF
  refine am_ev.of false rfl ?_
  show am_go sc _ _ _ _ (0, [some (.ref 16), some (.int x1), none, none], [], zz_hM c s t, false) _
  refine am_go.blk hcd_mo_behind 8 (g := (10, [some (.ref 16), some (.int x1), none, none], [.int (0 : Int32), .ref 18, .int (4 : Int32), .int (x1 + (4 : Int32)), .ref 16], zz_hM c s t, false)) rfl ?_
  refine am_go.iald hcd_mo_behind rfl rfl (by decide) ?_
  refine am_go.blk hcd_mo_behind 2 (g := (bif decide (((s.2.2 1) (Int32.toNatClampNeg (0 : Int32))) = (82 : Int32)) then 20 else 16, [some (.ref 16), some (.int x1), none, none], [.int (4 : Int32), .int (x1 + (4 : Int32)), .ref 16], zz_hM c s t, false)) rfl ?_
  refine am_go.br (fun hP => ?_) (fun hP => ?_)
  · replace hF := (if_pos hP).symm.trans hF
    refine am_go.blk hcd_mo_behind 1 (g := (21, [some (.ref 16), some (.int x1), none, none], [.int (0 : Int32), .int (4 : Int32), .int (x1 + (4 : Int32)), .ref 16], zz_hM c s t, false)) rfl ?_
    exact tz_mo_behind_21  hF
  · replace hF := (if_neg hP).symm.trans hF
    refine am_go.blk hcd_mo_behind 2 (g := (21, [some (.ref 16), some (.int x1), none, none], [.int (1 : Int32), .int (4 : Int32), .int (x1 + (4 : Int32)), .ref 16], zz_hM c s t, false)) rfl ?_
    exact tz_mo_behind_21  hF
theorem hcd_mo_within : am_code 103 = am_c_mo_within := rfl
def fz_mo_within_17   : Option (Int32) :=
  some (0 : Int32)
theorem tz_mo_within_17 {sc : am_S} {h : am_H} {h0 : am_H}    {r : Int32} (hF : fz_mo_within_17  = some r) : am_go sc 1 (am_ev sc 0) 103 h0 (17, [none, none, none, none, none, none], [], h, false) ((.inl (some (.int r)), h, false) : am_R) := by
  unfold fz_mo_within_17 at hF
  refine am_go.blk hcd_mo_within 1 (g := (18, [none, none, none, none, none, none], [.int (0 : Int32)], h, false)) rfl ?_
  cases hF
  exact am_go.ret hcd_mo_within rfl rfl ⟨rfl, rfl, (fun _ => rfl), Or.inr ⟨rfl, Or.inl rfl⟩, rfl⟩
def fz_mo_within (x0 : Int64) (x2 : Int64) (x4 : Int64) : Option (Int32) :=
  if (lg_cmp x0 x2) < 0 then
    fz_mo_within_17
  else
  if 0 < (lg_cmp x0 x4) then
    fz_mo_within_17
  else
  some (1 : Int32)
theorem tz_mo_within {sc : am_S} {h : am_H} {x0 : Int64} {x2 : Int64} {x4 : Int64} {r : Int32} (hF : fz_mo_within x0 x2 x4 = some r) : am_ev sc 1 103 [.long x0, .long x2, .long x4] (h) ((.inl (some (.int r)), h, false) : am_R) := by
  unfold fz_mo_within at hF
  refine am_ev.of false rfl ?_
  show am_go sc _ _ _ _ (0, [some (.long x0), none, some (.long x2), none, some (.long x4), none], [], h, false) _
  refine am_go.blk hcd_mo_within 4 (g := (bif decide ((lg_cmp x0 x2) < 0) then 17 else 6, [some (.long x0), none, some (.long x2), none, some (.long x4), none], [], h, false)) rfl ?_
  refine am_go.br (fun hP => ?_) (fun hP => ?_)
  · replace hF := (if_pos hP).symm.trans hF
    refine am_go.fgl [none, none, none, none, none, none] trivial ?_
    exact tz_mo_within_17  hF
  · replace hF := (if_neg hP).symm.trans hF
    refine am_go.blk hcd_mo_within 4 (g := (bif decide (0 < (lg_cmp x0 x4)) then 17 else 13, [some (.long x0), none, some (.long x2), none, some (.long x4), none], [], h, false)) rfl ?_
    refine am_go.br (fun hP => ?_) (fun hP => ?_)
    · replace hF := (if_pos hP).symm.trans hF
      refine am_go.fgl [none, none, none, none, none, none] trivial ?_
      exact tz_mo_within_17  hF
    · replace hF := (if_neg hP).symm.trans hF
      refine am_go.blk hcd_mo_within 2 (g := (18, [some (.long x0), none, some (.long x2), none, some (.long x4), none], [.int (1 : Int32)], h, false)) rfl ?_
      cases hF
      exact am_go.ret hcd_mo_within rfl rfl ⟨rfl, rfl, (fun _ => rfl), Or.inr ⟨rfl, Or.inr rfl⟩, rfl⟩
theorem hcd_mo_chunk : am_code 161 = am_c_mo_chunk := rfl
def fz_mo_chunk_129  (x2 : Int32) (x3 : Int32) (y0 : Int64) (s : am_Z) : Option (Int32 × am_Z) :=
  if ¬ x2 = 0 then
    some ((Int64.toInt32 y0), s)
  else
  some (x3, s)
theorem tz_mo_chunk_129 {sc : am_S} {c : am_Z} {t : am_H} {h0 : am_H}   {x2 : Int32} {x3 : Int32} {y0 : Int64} {s : am_Z} {r : Int32 × am_Z} (hF : fz_mo_chunk_129 x2 x3 y0 s = some r) : am_go sc 3 (am_ev sc 2) 161 h0 (129, [none, none, some (.int x2), some (.int x3), none, none, none], [.long y0], zz_hM c s t, true) ((.inl (some (.int r.1)), zz_hM c r.2 t, true) : am_R) := by
  unfold fz_mo_chunk_129 at hF
  refine am_go.blk hcd_mo_chunk 3 (g := (bif decide (¬ x2 = 0) then 139 else 135, [none, none, some (.int x2), some (.int x3), none, some (.long y0), none], [], zz_hM c s t, true)) rfl ?_
  refine am_go.br (fun hP => ?_) (fun hP => ?_)
  · replace hF := (if_pos hP).symm.trans hF
    refine am_go.blk hcd_mo_chunk 2 (g := (142, [none, none, some (.int x2), some (.int x3), none, some (.long y0), none], [.int (Int64.toInt32 y0)], zz_hM c s t, true)) rfl ?_
    cases hF
    exact am_go.ret hcd_mo_chunk rfl rfl ⟨rfl, rfl, (fun h => by cases h), Or.inl rfl, rfl⟩
  · replace hF := (if_neg hP).symm.trans hF
    refine am_go.blk hcd_mo_chunk 2 (g := (142, [none, none, some (.int x2), some (.int x3), none, some (.long y0), none], [.int x3], zz_hM c s t, true)) rfl ?_
    cases hF
    exact am_go.ret hcd_mo_chunk rfl rfl ⟨rfl, rfl, (fun h => by cases h), Or.inl rfl, rfl⟩
def fz_mo_chunk_126  (x2 : Int32) (x3 : Int32) (y0 : Int32) (y1 : Int32) (y2 : Int32) (s : am_Z) : Option (Int32 × am_Z) :=
  (fz_mo_peek s y2 y1 y0).bind fun q1 =>
  fz_mo_chunk_129 x2 x3 q1 s
theorem tz_mo_chunk_126 {sc : am_S} {c : am_Z} {t : am_H} {h0 : am_H}   {x2 : Int32} {x3 : Int32} {y0 : Int32} {y1 : Int32} {y2 : Int32} {s : am_Z} {r : Int32 × am_Z} (hF : fz_mo_chunk_126 x2 x3 y0 y1 y2 s = some r) : am_go sc 3 (am_ev sc 2) 161 h0 (126, [none, none, some (.int x2), some (.int x3), none, none, none], [.int y0, .int y1, .int y2, .ref 16], zz_hM c s t, true) ((.inl (some (.int r.1)), zz_hM c r.2 t, true) : am_R) := by
  unfold fz_mo_chunk_126 at hF
  obtain ⟨q1, hq1, hF⟩ := am_bd hF
  refine am_go.call hcd_mo_chunk rfl rfl rfl rfl (am_le8 rfl) (am_ev.le (by decide) (tz_mo_peek (c := c) (t := t) hq1)) ?_
  exact tz_mo_chunk_129  hF
def fz_mo_chunk_78  (x2 : Int32) (x3 : Int32) (y0 : Int32) (s : am_Z) : Option (Int32 × am_Z) :=
  if y0 ≤ 0 then
    if ¬ x2 = (1 : Int32) then
      if ((s.2.2 1) (Int32.toNatClampNeg (0 : Int32))) = (82 : Int32) then
        fz_mo_chunk_126 x2 x3 (0 : Int32) (4 : Int32) (x3 + (4 : Int32)) (zz_i s 0 y0)
      else
      fz_mo_chunk_126 x2 x3 (1 : Int32) (4 : Int32) (x3 + (4 : Int32)) (zz_i s 0 y0)
    else
    (fz_mo_peek (zz_i s 0 y0) x3 (4 : Int32) (1 : Int32)).bind fun q1 =>
    fz_mo_chunk_129 x2 x3 q1 (zz_i s 0 y0)
  else
  some ((0 : Int32), (zz_i s 0 y0))
theorem tz_mo_chunk_78 {sc : am_S} {c : am_Z} {t : am_H} {h0 : am_H}   {x2 : Int32} {x3 : Int32} {y0 : Int32} {s : am_Z} {r : Int32 × am_Z} (hF : fz_mo_chunk_78 x2 x3 y0 s = some r) : am_go sc 3 (am_ev sc 2) 161 h0 (78, [some (.ref 16), none, some (.int x2), some (.int x3), none, none, none], [.int y0, .ref 16], zz_hM c s t, true) ((.inl (some (.int r.1)), zz_hM c r.2 t, true) : am_R) := by
  unfold fz_mo_chunk_78 at hF
  refine am_go.blk hcd_mo_chunk 4 (g := (bif decide (y0 ≤ 0) then 90 else 88, [some (.ref 16), none, some (.int x2), some (.int x3), none, none, none], [], zz_hM c (zz_i s 0 y0) t, true)) rfl ?_
  refine am_go.br (fun hP => ?_) (fun hP => ?_)
  · replace hF := (if_pos hP).symm.trans hF
    refine am_go.blk hcd_mo_chunk 3 (g := (bif decide (¬ x2 = (1 : Int32)) then 105 else 95, [some (.ref 16), none, some (.int x2), some (.int x3), none, none, none], [], zz_hM c (zz_i s 0 y0) t, true)) rfl ?_
    refine am_go.br (fun hP => ?_) (fun hP => ?_)
    · replace hF := (if_pos hP).symm.trans hF
      refine am_go.blk hcd_mo_chunk 8 (g := (115, [some (.ref 16), none, some (.int x2), some (.int x3), none, none, none], [.int (0 : Int32), .ref 18, .int (4 : Int32), .int (x3 + (4 : Int32)), .ref 16], zz_hM c (zz_i s 0 y0) t, true)) rfl ?_
      refine am_go.iald hcd_mo_chunk rfl rfl (by decide) ?_
      refine am_go.blk hcd_mo_chunk 2 (g := (bif decide (((s.2.2 1) (Int32.toNatClampNeg (0 : Int32))) = (82 : Int32)) then 125 else 121, [some (.ref 16), none, some (.int x2), some (.int x3), none, none, none], [.int (4 : Int32), .int (x3 + (4 : Int32)), .ref 16], zz_hM c (zz_i s 0 y0) t, true)) rfl ?_
      refine am_go.br (fun hP => ?_) (fun hP => ?_)
      · replace hF := (if_pos hP).symm.trans hF
        refine am_go.blk hcd_mo_chunk 1 (g := (126, [some (.ref 16), none, some (.int x2), some (.int x3), none, none, none], [.int (0 : Int32), .int (4 : Int32), .int (x3 + (4 : Int32)), .ref 16], zz_hM c (zz_i s 0 y0) t, true)) rfl ?_
        refine am_go.fgl [none, none, some (.int x2), some (.int x3), none, none, none] ⟨rfl, rfl, trivial⟩ ?_
        exact tz_mo_chunk_126  hF
      · replace hF := (if_neg hP).symm.trans hF
        refine am_go.blk hcd_mo_chunk 2 (g := (126, [some (.ref 16), none, some (.int x2), some (.int x3), none, none, none], [.int (1 : Int32), .int (4 : Int32), .int (x3 + (4 : Int32)), .ref 16], zz_hM c (zz_i s 0 y0) t, true)) rfl ?_
        refine am_go.fgl [none, none, some (.int x2), some (.int x3), none, none, none] ⟨rfl, rfl, trivial⟩ ?_
        exact tz_mo_chunk_126  hF
    · replace hF := (if_neg hP).symm.trans hF
      refine am_go.blk hcd_mo_chunk 4 (g := (99, [some (.ref 16), none, some (.int x2), some (.int x3), none, none, none], [.int (1 : Int32), .int (4 : Int32), .int x3, .ref 16], zz_hM c (zz_i s 0 y0) t, true)) rfl ?_
      obtain ⟨q1, hq1, hF⟩ := am_bd hF
      refine am_go.call hcd_mo_chunk rfl rfl rfl rfl (am_le8 rfl) (am_ev.le (by decide) (tz_mo_peek (c := c) (t := t) hq1)) ?_
      refine am_go.blk hcd_mo_chunk 1 (g := (129, [some (.ref 16), none, some (.int x2), some (.int x3), none, none, none], [.long q1], zz_hM c (zz_i s 0 y0) t, true)) rfl ?_
      refine am_go.fgl [none, none, some (.int x2), some (.int x3), none, none, none] ⟨rfl, rfl, trivial⟩ ?_
      exact tz_mo_chunk_129  hF
  · replace hF := (if_neg hP).symm.trans hF
    refine am_go.blk hcd_mo_chunk 1 (g := (89, [some (.ref 16), none, some (.int x2), some (.int x3), none, none, none], [.int (0 : Int32)], zz_hM c (zz_i s 0 y0) t, true)) rfl ?_
    cases hF
    exact am_go.ret hcd_mo_chunk rfl rfl ⟨rfl, rfl, (fun h => by cases h), Or.inl rfl, rfl⟩
def fz_mo_chunk_49  (x2 : Int32) (x3 : Int32) (y0 : Int32) (s : am_Z) : Option (Int32 × am_Z) :=
  (fz_mo_within (Int32.toInt64 x2) (0 : Int64) (2 : Int64)).bind fun q1 =>
  if ¬ q1 = 0 then
    if y0 = 0 then
      fz_mo_chunk_78 x2 x3 (2 : Int32) s
    else
    fz_mo_chunk_78 x2 x3 (0 : Int32) s
  else
  fz_mo_chunk_78 x2 x3 (1 : Int32) s
theorem tz_mo_chunk_49 {sc : am_S} {c : am_Z} {t : am_H} {h0 : am_H}   {x2 : Int32} {x3 : Int32} {y0 : Int32} {s : am_Z} {r : Int32 × am_Z} (hF : fz_mo_chunk_49 x2 x3 y0 s = some r) : am_go sc 3 (am_ev sc 2) 161 h0 (49, [some (.ref 16), none, some (.int x2), some (.int x3), none, none, none], [.int y0], zz_hM c s t, true) ((.inl (some (.int r.1)), zz_hM c r.2 t, true) : am_R) := by
  unfold fz_mo_chunk_49 at hF
  refine am_go.blk hcd_mo_chunk 6 (g := (58, [some (.ref 16), none, some (.int x2), some (.int x3), some (.int y0), none, none], [.long (2 : Int64), .long (0 : Int64), .long (Int32.toInt64 x2), .ref 16], zz_hM c s t, true)) rfl ?_
  obtain ⟨q1, hq1, hF⟩ := am_bd hF
  refine am_go.call hcd_mo_chunk rfl rfl rfl rfl (am_le8 rfl) (am_ev.le (by decide) (tz_mo_within (h := zz_hM c s t) hq1)) ?_
  refine am_go.blk hcd_mo_chunk 1 (g := (bif decide (¬ q1 = 0) then 68 else 64, [some (.ref 16), none, some (.int x2), some (.int x3), some (.int y0), none, none], [.ref 16], zz_hM c s t, true)) rfl ?_
  refine am_go.br (fun hP => ?_) (fun hP => ?_)
  · replace hF := (if_pos hP).symm.trans hF
    refine am_go.blk hcd_mo_chunk 2 (g := (bif decide (y0 = 0) then 77 else 73, [some (.ref 16), none, some (.int x2), some (.int x3), some (.int y0), none, none], [.ref 16], zz_hM c s t, true)) rfl ?_
    refine am_go.br (fun hP => ?_) (fun hP => ?_)
    · replace hF := (if_pos hP).symm.trans hF
      refine am_go.blk hcd_mo_chunk 1 (g := (78, [some (.ref 16), none, some (.int x2), some (.int x3), some (.int y0), none, none], [.int (2 : Int32), .ref 16], zz_hM c s t, true)) rfl ?_
      refine am_go.fgl [some (.ref 16), none, some (.int x2), some (.int x3), none, none, none] ⟨rfl, rfl, rfl, trivial⟩ ?_
      exact tz_mo_chunk_78  hF
    · replace hF := (if_neg hP).symm.trans hF
      refine am_go.blk hcd_mo_chunk 2 (g := (78, [some (.ref 16), none, some (.int x2), some (.int x3), some (.int y0), none, none], [.int (0 : Int32), .ref 16], zz_hM c s t, true)) rfl ?_
      refine am_go.fgl [some (.ref 16), none, some (.int x2), some (.int x3), none, none, none] ⟨rfl, rfl, rfl, trivial⟩ ?_
      exact tz_mo_chunk_78  hF
  · replace hF := (if_neg hP).symm.trans hF
    refine am_go.blk hcd_mo_chunk 2 (g := (78, [some (.ref 16), none, some (.int x2), some (.int x3), some (.int y0), none, none], [.int (1 : Int32), .ref 16], zz_hM c s t, true)) rfl ?_
    refine am_go.fgl [some (.ref 16), none, some (.int x2), some (.int x3), none, none, none] ⟨rfl, rfl, rfl, trivial⟩ ?_
    exact tz_mo_chunk_78  hF
def fz_mo_chunk_48  (x2 : Int32) (x3 : Int32) (s : am_Z) : Option (Int32 × am_Z) :=
  fz_mo_chunk_49 x2 x3 (0 : Int32) s
theorem tz_mo_chunk_48 {sc : am_S} {c : am_Z} {t : am_H} {h0 : am_H}   {x2 : Int32} {x3 : Int32} {s : am_Z} {r : Int32 × am_Z} (hF : fz_mo_chunk_48 x2 x3 s = some r) : am_go sc 3 (am_ev sc 2) 161 h0 (48, [some (.ref 16), none, some (.int x2), some (.int x3), none, none, none], [], zz_hM c s t, true) ((.inl (some (.int r.1)), zz_hM c r.2 t, true) : am_R) := by
  unfold fz_mo_chunk_48 at hF
  refine am_go.blk hcd_mo_chunk 1 (g := (49, [some (.ref 16), none, some (.int x2), some (.int x3), none, none, none], [.int (0 : Int32)], zz_hM c s t, true)) rfl ?_
  exact tz_mo_chunk_49  hF
def fz_mo_chunk_28  (x1 : Int32) (x2 : Int32) (x3 : Int32) (s : am_Z) : Option (Int32 × am_Z) :=
  if x1 < 0 then
    fz_mo_chunk_48 x2 x3 s
  else
  if x3 < 0 then
    fz_mo_chunk_48 x2 x3 s
  else
  (fz_mo_behind s x3).bind fun q1 =>
  if q1 < 0 then
    fz_mo_chunk_48 x2 x3 s
  else
  fz_mo_chunk_49 x2 x3 (1 : Int32) s
theorem tz_mo_chunk_28 {sc : am_S} {c : am_Z} {t : am_H} {h0 : am_H}   {x1 : Int32} {x2 : Int32} {x3 : Int32} {s : am_Z} {r : Int32 × am_Z} (hF : fz_mo_chunk_28 x1 x2 x3 s = some r) : am_go sc 3 (am_ev sc 2) 161 h0 (28, [some (.ref 16), some (.int x1), some (.int x2), some (.int x3), none, none, none], [], zz_hM c s t, true) ((.inl (some (.int r.1)), zz_hM c r.2 t, true) : am_R) := by
  unfold fz_mo_chunk_28 at hF
  refine am_go.blk hcd_mo_chunk 2 (g := (bif decide (x1 < 0) then 48 else 32, [some (.ref 16), some (.int x1), some (.int x2), some (.int x3), none, none, none], [], zz_hM c s t, true)) rfl ?_
  refine am_go.br (fun hP => ?_) (fun hP => ?_)
  · replace hF := (if_pos hP).symm.trans hF
    refine am_go.fgl [some (.ref 16), none, some (.int x2), some (.int x3), none, none, none] ⟨rfl, rfl, rfl, trivial⟩ ?_
    exact tz_mo_chunk_48  hF
  · replace hF := (if_neg hP).symm.trans hF
    refine am_go.blk hcd_mo_chunk 2 (g := (bif decide (x3 < 0) then 48 else 36, [some (.ref 16), some (.int x1), some (.int x2), some (.int x3), none, none, none], [], zz_hM c s t, true)) rfl ?_
    refine am_go.br (fun hP => ?_) (fun hP => ?_)
    · replace hF := (if_pos hP).symm.trans hF
      refine am_go.fgl [some (.ref 16), none, some (.int x2), some (.int x3), none, none, none] ⟨rfl, rfl, rfl, trivial⟩ ?_
      exact tz_mo_chunk_48  hF
    · replace hF := (if_neg hP).symm.trans hF
      refine am_go.blk hcd_mo_chunk 2 (g := (38, [some (.ref 16), some (.int x1), some (.int x2), some (.int x3), none, none, none], [.int x3, .ref 16], zz_hM c s t, true)) rfl ?_
      obtain ⟨q1, hq1, hF⟩ := am_bd hF
      refine am_go.call hcd_mo_chunk rfl rfl rfl rfl (am_le8 rfl) (am_ev.le (by decide) (tz_mo_behind (c := c) (t := t) hq1)) ?_
      refine am_go.blk hcd_mo_chunk 1 (g := (bif decide (q1 < 0) then 48 else 44, [some (.ref 16), some (.int x1), some (.int x2), some (.int x3), none, none, none], [], zz_hM c s t, true)) rfl ?_
      refine am_go.br (fun hP => ?_) (fun hP => ?_)
      · replace hF := (if_pos hP).symm.trans hF
        refine am_go.fgl [some (.ref 16), none, some (.int x2), some (.int x3), none, none, none] ⟨rfl, rfl, rfl, trivial⟩ ?_
        exact tz_mo_chunk_48  hF
      · replace hF := (if_neg hP).symm.trans hF
        refine am_go.blk hcd_mo_chunk 2 (g := (49, [some (.ref 16), some (.int x1), some (.int x2), some (.int x3), none, none, none], [.int (1 : Int32)], zz_hM c s t, true)) rfl ?_
        refine am_go.fgl [some (.ref 16), none, some (.int x2), some (.int x3), none, none, none] ⟨rfl, rfl, rfl, trivial⟩ ?_
        exact tz_mo_chunk_49  hF
def fz_mo_chunk_6  : Nat → Int32 → Int32 → Int32 → Int32 → am_Z → Option (Int32 × am_Z)
  | 0, _, _, _, _, _ => none
  | n + 1, x1, x2, x3, x4, s =>
    if x1 ≤ x4 then
      fz_mo_chunk_28 x1 x2 x3 s
    else
    if x3 < 0 then
      fz_mo_chunk_28 x1 x2 x3 s
    else
    (fz_mo_behind s x3).bind fun q1 =>
    fz_mo_chunk_6 n x1 x2 q1 (x4 + (1 : Int32)) s
theorem tz_mo_chunk_6 {sc : am_S} {c : am_Z} {t : am_H} {h0 : am_H}   : ∀ (n : Nat) (x1 : Int32) (x2 : Int32) (x3 : Int32) (x4 : Int32) (s : am_Z) (r : Int32 × am_Z), fz_mo_chunk_6  n x1 x2 x3 x4 s = some r → am_go sc 3 (am_ev sc 2) 161 h0 (6, [some (.ref 16), some (.int x1), some (.int x2), some (.int x3), some (.int x4), none, none], [], zz_hM c s t, true) ((.inl (some (.int r.1)), zz_hM c r.2 t, true) : am_R) := by
  intro n
  induction n with
  | zero => intro x1 x2 x3 x4 s r hF; cases hF
  | succ n ih =>
    intro x1 x2 x3 x4 s r hF
    unfold fz_mo_chunk_6 at hF
    refine am_go.blk hcd_mo_chunk 3 (g := (bif decide (x1 ≤ x4) then 28 else 12, [some (.ref 16), some (.int x1), some (.int x2), some (.int x3), some (.int x4), none, none], [], zz_hM c s t, true)) rfl ?_
    refine am_go.br (fun hP => ?_) (fun hP => ?_)
    · replace hF := (if_pos hP).symm.trans hF
      refine am_go.fgl [some (.ref 16), some (.int x1), some (.int x2), some (.int x3), none, none, none] ⟨rfl, rfl, rfl, rfl, trivial⟩ ?_
      exact tz_mo_chunk_28  hF
    · replace hF := (if_neg hP).symm.trans hF
      refine am_go.blk hcd_mo_chunk 2 (g := (bif decide (x3 < 0) then 28 else 16, [some (.ref 16), some (.int x1), some (.int x2), some (.int x3), some (.int x4), none, none], [], zz_hM c s t, true)) rfl ?_
      refine am_go.br (fun hP => ?_) (fun hP => ?_)
      · replace hF := (if_pos hP).symm.trans hF
        refine am_go.fgl [some (.ref 16), some (.int x1), some (.int x2), some (.int x3), none, none, none] ⟨rfl, rfl, rfl, rfl, trivial⟩ ?_
        exact tz_mo_chunk_28  hF
      · replace hF := (if_neg hP).symm.trans hF
        refine am_go.blk hcd_mo_chunk 2 (g := (18, [some (.ref 16), some (.int x1), some (.int x2), some (.int x3), some (.int x4), none, none], [.int x3, .ref 16], zz_hM c s t, true)) rfl ?_
        obtain ⟨q1, hq1, hF⟩ := am_bd hF
        refine am_go.call hcd_mo_chunk rfl rfl rfl rfl (am_le8 rfl) (am_ev.le (by decide) (tz_mo_behind (c := c) (t := t) hq1)) ?_
        refine am_go.blk hcd_mo_chunk 3 (g := (6, [some (.ref 16), some (.int x1), some (.int x2), some (.int q1), some (.int (x4 + (1 : Int32))), none, none], [], zz_hM c s t, true)) rfl ?_
        exact ih _ _ _ _ _ _ hF
def fz_mo_chunk (s : am_Z) (x1 : Int32) (x2 : Int32) : Option (Int32 × am_Z) :=
  fz_mo_chunk_6 fz_fu x1 x2 (12 : Int32) (0 : Int32) s
theorem tz_mo_chunk {sc : am_S} {c : am_Z} {t : am_H} {s : am_Z} {x1 : Int32} {x2 : Int32} {r : Int32 × am_Z} (hF : fz_mo_chunk s x1 x2 = some r) : am_ev sc 3 161 [.ref 16, .int x1, .int x2] (zz_hM c s t) ((.inl (some (.int r.1)), zz_hM c r.2 t, true) : am_R) := by
  unfold fz_mo_chunk at hF
  refine am_ev.of true rfl ?_
  show am_go sc _ _ _ _ (0, [some (.ref 16), some (.int x1), some (.int x2), none, none, none, none], [], zz_hM c s t, true) _
  refine am_go.blk hcd_mo_chunk 4 (g := (6, [some (.ref 16), some (.int x1), some (.int x2), some (.int (12 : Int32)), some (.int (0 : Int32)), none, none], [], zz_hM c s t, true)) rfl ?_
  exact tz_mo_chunk_6  fz_fu _ _ _ _ _ _ hF
theorem hcd_mo_thrown : am_code 102 = am_c_mo_thrown := rfl
def fz_mo_thrown (s : am_Z) : Option (Int32) :=
  some (s.1 0)
theorem tz_mo_thrown {sc : am_S} {c : am_Z} {t : am_H} {s : am_Z} {r : Int32} (hF : fz_mo_thrown s = some r) : am_ev sc 1 102 [.ref 16] (zz_hM c s t) ((.inl (some (.int r)), zz_hM c s t, false) : am_R) := by
  unfold fz_mo_thrown at hF
  refine am_ev.of false rfl ?_
  show am_go sc _ _ _ _ (0, [some (.ref 16)], [], zz_hM c s t, false) _
  refine am_go.blk hcd_mo_thrown 2 (g := (4, [some (.ref 16)], [.int (s.1 0)], zz_hM c s t, false)) rfl ?_
  cases hF
  exact am_go.ret hcd_mo_thrown rfl rfl ⟨rfl, rfl, (fun _ => rfl), Or.inl rfl, rfl⟩
theorem hcd_mo_chunks : am_code 160 = am_c_mo_chunks := rfl
def fz_mo_chunks_14  : Nat → Int32 → Int32 → am_Z → Option (Int32 × am_Z)
  | 0, _, _, _ => none
  | n + 1, x1, x2, s =>
    if x2 < 0 then
      some (x1, s)
    else
    (fz_mo_behind s x2).bind fun q1 =>
    fz_mo_chunks_14 n (x1 + (1 : Int32)) q1 s
theorem tz_mo_chunks_14 {sc : am_S} {c : am_Z} {t : am_H} {h0 : am_H}   : ∀ (n : Nat) (x1 : Int32) (x2 : Int32) (s : am_Z) (r : Int32 × am_Z), fz_mo_chunks_14  n x1 x2 s = some r → am_go sc 3 (am_ev sc 2) 160 h0 (14, [some (.ref 16), some (.int x1), some (.int x2)], [], zz_hM c s t, true) ((.inl (some (.int r.1)), zz_hM c r.2 t, true) : am_R) := by
  intro n
  induction n with
  | zero => intro x1 x2 s r hF; cases hF
  | succ n ih =>
    intro x1 x2 s r hF
    unfold fz_mo_chunks_14 at hF
    refine am_go.blk hcd_mo_chunks 2 (g := (bif decide (x2 < 0) then 30 else 18, [some (.ref 16), some (.int x1), some (.int x2)], [], zz_hM c s t, true)) rfl ?_
    refine am_go.br (fun hP => ?_) (fun hP => ?_)
    · replace hF := (if_pos hP).symm.trans hF
      refine am_go.blk hcd_mo_chunks 1 (g := (31, [some (.ref 16), some (.int x1), some (.int x2)], [.int x1], zz_hM c s t, true)) rfl ?_
      cases hF
      exact am_go.ret hcd_mo_chunks rfl rfl ⟨rfl, rfl, (fun h => by cases h), Or.inl rfl, rfl⟩
    · replace hF := (if_neg hP).symm.trans hF
      refine am_go.blk hcd_mo_chunks 3 (g := (23, [some (.ref 16), some (.int (x1 + (1 : Int32))), some (.int x2)], [.int x2, .ref 16], zz_hM c s t, true)) rfl ?_
      obtain ⟨q1, hq1, hF⟩ := am_bd hF
      refine am_go.call hcd_mo_chunks rfl rfl rfl rfl (am_le8 rfl) (am_ev.le (by decide) (tz_mo_behind (c := c) (t := t) hq1)) ?_
      refine am_go.blk hcd_mo_chunks 2 (g := (14, [some (.ref 16), some (.int (x1 + (1 : Int32))), some (.int q1)], [], zz_hM c s t, true)) rfl ?_
      exact ih _ _ _ _ hF
def fz_mo_chunks (s : am_Z) : Option (Int32 × am_Z) :=
  (fz_mo_behind (zz_i s 0 (0 : Int32)) (12 : Int32)).bind fun q1 =>
  fz_mo_chunks_14 fz_fu (0 : Int32) q1 (zz_i s 0 (0 : Int32))
theorem tz_mo_chunks {sc : am_S} {c : am_Z} {t : am_H} {s : am_Z} {r : Int32 × am_Z} (hF : fz_mo_chunks s = some r) : am_ev sc 3 160 [.ref 16] (zz_hM c s t) ((.inl (some (.int r.1)), zz_hM c r.2 t, true) : am_R) := by
  unfold fz_mo_chunks at hF
  refine am_ev.of true rfl ?_
  show am_go sc _ _ _ _ (0, [some (.ref 16), none, none], [], zz_hM c s t, true) _
  refine am_go.blk hcd_mo_chunks 7 (g := (10, [some (.ref 16), some (.int (0 : Int32)), none], [.int (12 : Int32), .ref 16], zz_hM c (zz_i s 0 (0 : Int32)) t, true)) rfl ?_
  obtain ⟨q1, hq1, hF⟩ := am_bd hF
  refine am_go.call hcd_mo_chunks rfl rfl rfl rfl (am_le8 rfl) (am_ev.le (by decide) (tz_mo_behind (c := c) (t := t) hq1)) ?_
  refine am_go.blk hcd_mo_chunks 1 (g := (14, [some (.ref 16), some (.int (0 : Int32)), some (.int q1)], [], zz_hM c (zz_i s 0 (0 : Int32)) t, true)) rfl ?_
  exact tz_mo_chunks_14  fz_fu _ _ _ _ hF
theorem hcd_mo_cut : am_code 158 = am_c_mo_cut := rfl
def fz_mo_cut_39  (y0 : Int32) (s : am_Z) : Option (am_Z) :=
  some (zz_i s 4 y0)
theorem tz_mo_cut_39 {sc : am_S} {c : am_Z} {t : am_H} {h0 : am_H}   {y0 : Int32} {s : am_Z} {r : am_Z} (hF : fz_mo_cut_39 y0 s = some r) : am_go sc 2 (am_ev sc 1) 158 h0 (39, [none, none], [.int y0, .ref 16], zz_hM c s t, true) ((.inl (none), zz_hM c r t, true) : am_R) := by
  unfold fz_mo_cut_39 at hF
  refine am_go.blk hcd_mo_cut 1 (g := (42, [none, none], [], zz_hM c (zz_i s 4 y0) t, true)) rfl ?_
  cases hF
  exact am_go.ret hcd_mo_cut rfl rfl ⟨rfl, rfl, (fun h => by cases h), rfl, rfl⟩
def fz_mo_cut_20  (x1 : Int32) (y0 : Int32) (s : am_Z) : Option (am_Z) :=
  if y0 ≤ 0 then
    fz_mo_cut_39 x1 (zz_i s 0 y0)
  else
  fz_mo_cut_39 (s.1 4) (zz_i s 0 y0)
theorem tz_mo_cut_20 {sc : am_S} {c : am_Z} {t : am_H} {h0 : am_H}   {x1 : Int32} {y0 : Int32} {s : am_Z} {r : am_Z} (hF : fz_mo_cut_20 x1 y0 s = some r) : am_go sc 2 (am_ev sc 1) 158 h0 (20, [some (.ref 16), some (.int x1)], [.int y0, .ref 16], zz_hM c s t, true) ((.inl (none), zz_hM c r t, true) : am_R) := by
  unfold fz_mo_cut_20 at hF
  refine am_go.blk hcd_mo_cut 5 (g := (bif decide (y0 ≤ 0) then 38 else 31, [some (.ref 16), some (.int x1)], [.ref 16], zz_hM c (zz_i s 0 y0) t, true)) rfl ?_
  refine am_go.br (fun hP => ?_) (fun hP => ?_)
  · replace hF := (if_pos hP).symm.trans hF
    refine am_go.blk hcd_mo_cut 1 (g := (39, [some (.ref 16), some (.int x1)], [.int x1, .ref 16], zz_hM c (zz_i s 0 y0) t, true)) rfl ?_
    refine am_go.fgl [none, none] trivial ?_
    exact tz_mo_cut_39  hF
  · replace hF := (if_neg hP).symm.trans hF
    refine am_go.blk hcd_mo_cut 3 (g := (39, [some (.ref 16), some (.int x1)], [.int (s.1 4), .ref 16], zz_hM c (zz_i s 0 y0) t, true)) rfl ?_
    refine am_go.fgl [none, none] trivial ?_
    exact tz_mo_cut_39  hF
def fz_mo_cut (s : am_Z) (x1 : Int32) : Option (am_Z) :=
  (fz_mo_within (Int32.toInt64 x1) (0 : Int64) (Int32.toInt64 (s.1 4))).bind fun q1 =>
  if q1 = 0 then
    fz_mo_cut_20 x1 (1 : Int32) s
  else
  fz_mo_cut_20 x1 (0 : Int32) s
theorem tz_mo_cut {sc : am_S} {c : am_Z} {t : am_H} {s : am_Z} {x1 : Int32} {r : am_Z} (hF : fz_mo_cut s x1 = some r) : am_ev sc 2 158 [.ref 16, .int x1] (zz_hM c s t) ((.inl (none), zz_hM c r t, true) : am_R) := by
  unfold fz_mo_cut at hF
  refine am_ev.of true rfl ?_
  show am_go sc _ _ _ _ (0, [some (.ref 16), some (.int x1)], [], zz_hM c s t, true) _
  refine am_go.blk hcd_mo_cut 7 (g := (9, [some (.ref 16), some (.int x1)], [.long (Int32.toInt64 (s.1 4)), .long (0 : Int64), .long (Int32.toInt64 x1), .ref 16], zz_hM c s t, true)) rfl ?_
  obtain ⟨q1, hq1, hF⟩ := am_bd hF
  refine am_go.call hcd_mo_cut rfl rfl rfl rfl (am_le8 rfl) (am_ev.le (by decide) (tz_mo_within (h := zz_hM c s t) hq1)) ?_
  refine am_go.blk hcd_mo_cut 1 (g := (bif decide (q1 = 0) then 19 else 15, [some (.ref 16), some (.int x1)], [.ref 16], zz_hM c s t, true)) rfl ?_
  refine am_go.br (fun hP => ?_) (fun hP => ?_)
  · replace hF := (if_pos hP).symm.trans hF
    refine am_go.blk hcd_mo_cut 1 (g := (20, [some (.ref 16), some (.int x1)], [.int (1 : Int32), .ref 16], zz_hM c s t, true)) rfl ?_
    exact tz_mo_cut_20  hF
  · replace hF := (if_neg hP).symm.trans hF
    refine am_go.blk hcd_mo_cut 2 (g := (20, [some (.ref 16), some (.int x1)], [.int (0 : Int32), .ref 16], zz_hM c s t, true)) rfl ?_
    exact tz_mo_cut_20  hF
theorem hcd_mo_put : am_code 122 = am_c_mo_put := rfl
def fz_mo_put_31 (K3 : Int64 → Int32 → Int32 → Int32 → am_Z → Option (am_Z)) (x1 : Int64) (x3 : Int32) (x4 : Int32) (x5 : Int32) (y0 : Int32) (s : am_Z) : Option (am_Z) :=
  if (s.1 4) < 0 ∨ 400 ≤ Int32.toNatClampNeg (s.1 4) then none else
  K3 x1 x3 x4 (x5 + (1 : Int32)) (zz_i (zz_r s 1 (upd (s.2.2 1) (Int32.toNatClampNeg (s.1 4)) ((Int64.toInt32 (x1 >>> (Int32.toInt64 y0 &&& 63))) &&& (255 : Int32)))) 4 ((s.1 4) + (1 : Int32)))
theorem tz_mo_put_31 {sc : am_S} {c : am_Z} {t : am_H} {h0 : am_H} {K3 : Int64 → Int32 → Int32 → Int32 → am_Z → Option (am_Z)} (hK3 : ∀ (x1 : Int64) (x3 : Int32) (x4 : Int32) (x5 : Int32) (s : am_Z) (r : am_Z), K3 x1 x3 x4 x5 s = some r → am_go sc 1 (am_ev sc 0) 122 h0 (3, [some (.ref 16), some (.long x1), none, some (.int x3), some (.int x4), some (.int x5), none], [], zz_hM c s t, true) ((.inl (none), zz_hM c r t, true) : am_R)) {x1 : Int64} {x3 : Int32} {x4 : Int32} {x5 : Int32} {y0 : Int32} {s : am_Z} {r : am_Z} (hF : fz_mo_put_31 K3 x1 x3 x4 x5 y0 s = some r) : am_go sc 1 (am_ev sc 0) 122 h0 (31, [some (.ref 16), some (.long x1), none, some (.int x3), some (.int x4), some (.int x5), none], [.int y0], zz_hM c s t, true) ((.inl (none), zz_hM c r t, true) : am_R) := by
  unfold fz_mo_put_31 at hF
  refine am_go.blk hcd_mo_put 11 (g := (50, [some (.ref 16), some (.long x1), none, some (.int x3), some (.int x4), some (.int x5), some (.int y0)], [.int ((Int64.toInt32 (x1 >>> (Int32.toInt64 y0 &&& 63))) &&& (255 : Int32)), .int (s.1 4), .ref 18], zz_hM c s t, true)) rfl ?_
  obtain ⟨hi1, hF⟩ := am_ng hF
  refine am_go.iast hcd_mo_put rfl rfl hi1 ?_
  refine am_go.blk hcd_mo_put 8 (g := (3, [some (.ref 16), some (.long x1), none, some (.int x3), some (.int x4), some (.int (x5 + (1 : Int32))), some (.int y0)], [], zz_hM c (zz_i (zz_r s 1 (upd (s.2.2 1) (Int32.toNatClampNeg (s.1 4)) ((Int64.toInt32 (x1 >>> (Int32.toInt64 y0 &&& 63))) &&& (255 : Int32)))) 4 ((s.1 4) + (1 : Int32))) t, true)) rfl ?_
  refine am_go.fgl [some (.ref 16), some (.long x1), none, some (.int x3), some (.int x4), some (.int (x5 + (1 : Int32))), none] ⟨rfl, rfl, rfl, rfl, rfl, trivial⟩ ?_
  exact hK3 _ _ _ _ _ _ hF
def fz_mo_put_3  : Nat → Int64 → Int32 → Int32 → Int32 → am_Z → Option (am_Z)
  | 0, _, _, _, _, _ => none
  | n + 1, x1, x3, x4, x5, s =>
    if x3 ≤ x5 then
      some s
    else
    if x4 = 0 then
      fz_mo_put_31 (fz_mo_put_3 n) x1 x3 x4 x5 ((8 : Int32) * x5) s
    else
    fz_mo_put_31 (fz_mo_put_3 n) x1 x3 x4 x5 ((8 : Int32) * ((x3 - (1 : Int32)) - x5)) s
theorem tz_mo_put_3 {sc : am_S} {c : am_Z} {t : am_H} {h0 : am_H}   : ∀ (n : Nat) (x1 : Int64) (x3 : Int32) (x4 : Int32) (x5 : Int32) (s : am_Z) (r : am_Z), fz_mo_put_3  n x1 x3 x4 x5 s = some r → am_go sc 1 (am_ev sc 0) 122 h0 (3, [some (.ref 16), some (.long x1), none, some (.int x3), some (.int x4), some (.int x5), none], [], zz_hM c s t, true) ((.inl (none), zz_hM c r t, true) : am_R) := by
  intro n
  induction n with
  | zero => intro x1 x3 x4 x5 s r hF; cases hF
  | succ n ih =>
    intro x1 x3 x4 x5 s r hF
    unfold fz_mo_put_3 at hF
    refine am_go.blk hcd_mo_put 3 (g := (bif decide (x3 ≤ x5) then 67 else 9, [some (.ref 16), some (.long x1), none, some (.int x3), some (.int x4), some (.int x5), none], [], zz_hM c s t, true)) rfl ?_
    refine am_go.br (fun hP => ?_) (fun hP => ?_)
    · replace hF := (if_pos hP).symm.trans hF
      cases hF
      exact am_go.ret hcd_mo_put rfl rfl ⟨rfl, rfl, (fun h => by cases h), rfl, rfl⟩
    · replace hF := (if_neg hP).symm.trans hF
      refine am_go.blk hcd_mo_put 2 (g := (bif decide (x4 = 0) then 26 else 14, [some (.ref 16), some (.long x1), none, some (.int x3), some (.int x4), some (.int x5), none], [], zz_hM c s t, true)) rfl ?_
      refine am_go.br (fun hP => ?_) (fun hP => ?_)
      · replace hF := (if_pos hP).symm.trans hF
        refine am_go.blk hcd_mo_put 3 (g := (31, [some (.ref 16), some (.long x1), none, some (.int x3), some (.int x4), some (.int x5), none], [.int ((8 : Int32) * x5)], zz_hM c s t, true)) rfl ?_
        exact tz_mo_put_31 (hK3 := ih) hF
      · replace hF := (if_neg hP).symm.trans hF
        refine am_go.blk hcd_mo_put 8 (g := (31, [some (.ref 16), some (.long x1), none, some (.int x3), some (.int x4), some (.int x5), none], [.int ((8 : Int32) * ((x3 - (1 : Int32)) - x5))], zz_hM c s t, true)) rfl ?_
        exact tz_mo_put_31 (hK3 := ih) hF
def fz_mo_put (s : am_Z) (x1 : Int64) (x3 : Int32) (x4 : Int32) : Option (am_Z) :=
  fz_mo_put_3 fz_fu x1 x3 x4 (0 : Int32) s
theorem tz_mo_put {sc : am_S} {c : am_Z} {t : am_H} {s : am_Z} {x1 : Int64} {x3 : Int32} {x4 : Int32} {r : am_Z} (hF : fz_mo_put s x1 x3 x4 = some r) : am_ev sc 1 122 [.ref 16, .long x1, .int x3, .int x4] (zz_hM c s t) ((.inl (none), zz_hM c r t, true) : am_R) := by
  unfold fz_mo_put at hF
  refine am_ev.of true rfl ?_
  show am_go sc _ _ _ _ (0, [some (.ref 16), some (.long x1), none, some (.int x3), some (.int x4), none, none], [], zz_hM c s t, true) _
  refine am_go.blk hcd_mo_put 2 (g := (3, [some (.ref 16), some (.long x1), none, some (.int x3), some (.int x4), some (.int (0 : Int32)), none], [], zz_hM c s t, true)) rfl ?_
  exact tz_mo_put_3  fz_fu _ _ _ _ _ _ hF
theorem hcd_mo_type : am_code 157 = am_c_mo_type := rfl
def fz_mo_type_34  (x1 : Int64) (x3 : Int32) (y0 : Int32) (s : am_Z) : Option (Int32 × am_Z) :=
  if y0 ≤ 0 then
    (fz_mo_put (zz_i s 0 y0) x1 x3 (1 : Int32)).bind fun q1 =>
    some ((q1.1 4), q1)
  else
  some ((0 : Int32), (zz_i s 0 y0))
theorem tz_mo_type_34 {sc : am_S} {c : am_Z} {t : am_H} {h0 : am_H}   {x1 : Int64} {x3 : Int32} {y0 : Int32} {s : am_Z} {r : Int32 × am_Z} (hF : fz_mo_type_34 x1 x3 y0 s = some r) : am_go sc 2 (am_ev sc 1) 157 h0 (34, [some (.ref 16), some (.long x1), none, some (.int x3)], [.int y0, .ref 16], zz_hM c s t, true) ((.inl (some (.int r.1)), zz_hM c r.2 t, true) : am_R) := by
  unfold fz_mo_type_34 at hF
  refine am_go.blk hcd_mo_type 4 (g := (bif decide (y0 ≤ 0) then 46 else 44, [some (.ref 16), some (.long x1), none, some (.int x3)], [], zz_hM c (zz_i s 0 y0) t, true)) rfl ?_
  refine am_go.br (fun hP => ?_) (fun hP => ?_)
  · replace hF := (if_pos hP).symm.trans hF
    refine am_go.blk hcd_mo_type 4 (g := (50, [some (.ref 16), some (.long x1), none, some (.int x3)], [.int (1 : Int32), .int x3, .long x1, .ref 16], zz_hM c (zz_i s 0 y0) t, true)) rfl ?_
    obtain ⟨q1, hq1, hF⟩ := am_bd hF
    refine am_go.call hcd_mo_type rfl rfl rfl rfl (am_le8 rfl) (am_ev.le (by decide) (tz_mo_put (c := c) (t := t) hq1)) ?_
    refine am_go.blk hcd_mo_type 2 (g := (57, [some (.ref 16), some (.long x1), none, some (.int x3)], [.int (q1.1 4)], zz_hM c q1 t, true)) rfl ?_
    cases hF
    exact am_go.ret hcd_mo_type rfl rfl ⟨rfl, rfl, (fun h => by cases h), Or.inl rfl, rfl⟩
  · replace hF := (if_neg hP).symm.trans hF
    refine am_go.blk hcd_mo_type 1 (g := (45, [some (.ref 16), some (.long x1), none, some (.int x3)], [.int (0 : Int32)], zz_hM c (zz_i s 0 y0) t, true)) rfl ?_
    cases hF
    exact am_go.ret hcd_mo_type rfl rfl ⟨rfl, rfl, (fun h => by cases h), Or.inl rfl, rfl⟩
def fz_mo_type (s : am_Z) (x1 : Int64) (x3 : Int32) : Option (Int32 × am_Z) :=
  (fz_mo_within (Int32.toInt64 x3) (1 : Int64) (8 : Int64)).bind fun q1 =>
  if ¬ q1 = 0 then
    if ((s.1 4) + x3) ≤ (400 : Int32) then
      fz_mo_type_34 x1 x3 (0 : Int32) s
    else
    fz_mo_type_34 x1 x3 (2 : Int32) s
  else
  fz_mo_type_34 x1 x3 (1 : Int32) s
theorem tz_mo_type {sc : am_S} {c : am_Z} {t : am_H} {s : am_Z} {x1 : Int64} {x3 : Int32} {r : Int32 × am_Z} (hF : fz_mo_type s x1 x3 = some r) : am_ev sc 2 157 [.ref 16, .long x1, .int x3] (zz_hM c s t) ((.inl (some (.int r.1)), zz_hM c r.2 t, true) : am_R) := by
  unfold fz_mo_type at hF
  refine am_ev.of true rfl ?_
  show am_go sc _ _ _ _ (0, [some (.ref 16), some (.long x1), none, some (.int x3)], [], zz_hM c s t, true) _
  refine am_go.blk hcd_mo_type 5 (g := (7, [some (.ref 16), some (.long x1), none, some (.int x3)], [.long (8 : Int64), .long (1 : Int64), .long (Int32.toInt64 x3), .ref 16], zz_hM c s t, true)) rfl ?_
  obtain ⟨q1, hq1, hF⟩ := am_bd hF
  refine am_go.call hcd_mo_type rfl rfl rfl rfl (am_le8 rfl) (am_ev.le (by decide) (tz_mo_within (h := zz_hM c s t) hq1)) ?_
  refine am_go.blk hcd_mo_type 1 (g := (bif decide (¬ q1 = 0) then 17 else 13, [some (.ref 16), some (.long x1), none, some (.int x3)], [.ref 16], zz_hM c s t, true)) rfl ?_
  refine am_go.br (fun hP => ?_) (fun hP => ?_)
  · replace hF := (if_pos hP).symm.trans hF
    refine am_go.blk hcd_mo_type 6 (g := (bif decide (((s.1 4) + x3) ≤ (400 : Int32)) then 33 else 29, [some (.ref 16), some (.long x1), none, some (.int x3)], [.ref 16], zz_hM c s t, true)) rfl ?_
    refine am_go.br (fun hP => ?_) (fun hP => ?_)
    · replace hF := (if_pos hP).symm.trans hF
      refine am_go.blk hcd_mo_type 1 (g := (34, [some (.ref 16), some (.long x1), none, some (.int x3)], [.int (0 : Int32), .ref 16], zz_hM c s t, true)) rfl ?_
      exact tz_mo_type_34  hF
    · replace hF := (if_neg hP).symm.trans hF
      refine am_go.blk hcd_mo_type 2 (g := (34, [some (.ref 16), some (.long x1), none, some (.int x3)], [.int (2 : Int32), .ref 16], zz_hM c s t, true)) rfl ?_
      exact tz_mo_type_34  hF
  · replace hF := (if_neg hP).symm.trans hF
    refine am_go.blk hcd_mo_type 2 (g := (34, [some (.ref 16), some (.long x1), none, some (.int x3)], [.int (1 : Int32), .ref 16], zz_hM c s t, true)) rfl ?_
    exact tz_mo_type_34  hF
theorem hcd_mo_poke : am_code 156 = am_c_mo_poke := rfl
def fz_mo_poke_38  (x1 : Int32) (x2 : Int32) (y0 : Int32) (s : am_Z) : Option (am_Z) :=
  if ¬ y0 = 0 then
    some (zz_i s 0 y0)
  else
  if x1 < 0 ∨ 400 ≤ Int32.toNatClampNeg x1 then none else
  some (zz_r (zz_i s 0 y0) 1 (upd (s.2.2 1) (Int32.toNatClampNeg x1) x2))
theorem tz_mo_poke_38 {sc : am_S} {c : am_Z} {t : am_H} {h0 : am_H}   {x1 : Int32} {x2 : Int32} {y0 : Int32} {s : am_Z} {r : am_Z} (hF : fz_mo_poke_38 x1 x2 y0 s = some r) : am_go sc 2 (am_ev sc 1) 156 h0 (38, [some (.ref 16), some (.int x1), some (.int x2)], [.int y0, .ref 16], zz_hM c s t, true) ((.inl (none), zz_hM c r t, true) : am_R) := by
  unfold fz_mo_poke_38 at hF
  refine am_go.blk hcd_mo_poke 4 (g := (bif decide (¬ y0 = 0) then 55 else 48, [some (.ref 16), some (.int x1), some (.int x2)], [], zz_hM c (zz_i s 0 y0) t, true)) rfl ?_
  refine am_go.br (fun hP => ?_) (fun hP => ?_)
  · replace hF := (if_pos hP).symm.trans hF
    cases hF
    exact am_go.ret hcd_mo_poke rfl rfl ⟨rfl, rfl, (fun h => by cases h), rfl, rfl⟩
  · replace hF := (if_neg hP).symm.trans hF
    refine am_go.blk hcd_mo_poke 4 (g := (54, [some (.ref 16), some (.int x1), some (.int x2)], [.int x2, .int x1, .ref 18], zz_hM c (zz_i s 0 y0) t, true)) rfl ?_
    obtain ⟨hi1, hF⟩ := am_ng hF
    refine am_go.iast hcd_mo_poke rfl rfl hi1 ?_
    cases hF
    exact am_go.ret hcd_mo_poke rfl rfl ⟨rfl, rfl, (fun h => by cases h), rfl, rfl⟩
def fz_mo_poke (s : am_Z) (x1 : Int32) (x2 : Int32) : Option (am_Z) :=
  (fz_mo_within (Int32.toInt64 x1) (0 : Int64) (Int32.toInt64 ((s.1 4) - (1 : Int32)))).bind fun q1 =>
  if ¬ q1 = 0 then
    (fz_mo_within (Int32.toInt64 x2) (0 : Int64) (255 : Int64)).bind fun q2 =>
    if q2 = 0 then
      fz_mo_poke_38 x1 x2 (2 : Int32) s
    else
    fz_mo_poke_38 x1 x2 (0 : Int32) s
  else
  fz_mo_poke_38 x1 x2 (1 : Int32) s
theorem tz_mo_poke {sc : am_S} {c : am_Z} {t : am_H} {s : am_Z} {x1 : Int32} {x2 : Int32} {r : am_Z} (hF : fz_mo_poke s x1 x2 = some r) : am_ev sc 2 156 [.ref 16, .int x1, .int x2] (zz_hM c s t) ((.inl (none), zz_hM c r t, true) : am_R) := by
  unfold fz_mo_poke at hF
  refine am_ev.of true rfl ?_
  show am_go sc _ _ _ _ (0, [some (.ref 16), some (.int x1), some (.int x2)], [], zz_hM c s t, true) _
  refine am_go.blk hcd_mo_poke 9 (g := (11, [some (.ref 16), some (.int x1), some (.int x2)], [.long (Int32.toInt64 ((s.1 4) - (1 : Int32))), .long (0 : Int64), .long (Int32.toInt64 x1), .ref 16], zz_hM c s t, true)) rfl ?_
  obtain ⟨q1, hq1, hF⟩ := am_bd hF
  refine am_go.call hcd_mo_poke rfl rfl rfl rfl (am_le8 rfl) (am_ev.le (by decide) (tz_mo_within (h := zz_hM c s t) hq1)) ?_
  refine am_go.blk hcd_mo_poke 1 (g := (bif decide (¬ q1 = 0) then 21 else 17, [some (.ref 16), some (.int x1), some (.int x2)], [.ref 16], zz_hM c s t, true)) rfl ?_
  refine am_go.br (fun hP => ?_) (fun hP => ?_)
  · replace hF := (if_pos hP).symm.trans hF
    refine am_go.blk hcd_mo_poke 4 (g := (27, [some (.ref 16), some (.int x1), some (.int x2)], [.long (255 : Int64), .long (0 : Int64), .long (Int32.toInt64 x2), .ref 16], zz_hM c s t, true)) rfl ?_
    obtain ⟨q2, hq2, hF⟩ := am_bd hF
    refine am_go.call hcd_mo_poke rfl rfl rfl rfl (am_le8 rfl) (am_ev.le (by decide) (tz_mo_within (h := zz_hM c s t) hq2)) ?_
    refine am_go.blk hcd_mo_poke 1 (g := (bif decide (q2 = 0) then 37 else 33, [some (.ref 16), some (.int x1), some (.int x2)], [.ref 16], zz_hM c s t, true)) rfl ?_
    refine am_go.br (fun hP => ?_) (fun hP => ?_)
    · replace hF := (if_pos hP).symm.trans hF
      refine am_go.blk hcd_mo_poke 1 (g := (38, [some (.ref 16), some (.int x1), some (.int x2)], [.int (2 : Int32), .ref 16], zz_hM c s t, true)) rfl ?_
      exact tz_mo_poke_38  hF
    · replace hF := (if_neg hP).symm.trans hF
      refine am_go.blk hcd_mo_poke 2 (g := (38, [some (.ref 16), some (.int x1), some (.int x2)], [.int (0 : Int32), .ref 16], zz_hM c s t, true)) rfl ?_
      exact tz_mo_poke_38  hF
  · replace hF := (if_neg hP).symm.trans hF
    refine am_go.blk hcd_mo_poke 2 (g := (38, [some (.ref 16), some (.int x1), some (.int x2)], [.int (1 : Int32), .ref 16], zz_hM c s t, true)) rfl ?_
    exact tz_mo_poke_38  hF
theorem hcd_mo_byteAt : am_code 155 = am_c_mo_byteAt := rfl
def fz_mo_byteAt_22  (x1 : Int32) (y0 : Int32) (s : am_Z) : Option (Int32 × am_Z) :=
  if y0 ≤ 0 then
    if x1 < 0 ∨ 400 ≤ Int32.toNatClampNeg x1 then none else
    some (((s.2.2 1) (Int32.toNatClampNeg x1)), (zz_i s 0 y0))
  else
  some ((0 : Int32), (zz_i s 0 y0))
theorem tz_mo_byteAt_22 {sc : am_S} {c : am_Z} {t : am_H} {h0 : am_H}   {x1 : Int32} {y0 : Int32} {s : am_Z} {r : Int32 × am_Z} (hF : fz_mo_byteAt_22 x1 y0 s = some r) : am_go sc 2 (am_ev sc 1) 155 h0 (22, [some (.ref 16), some (.int x1)], [.int y0, .ref 16], zz_hM c s t, true) ((.inl (some (.int r.1)), zz_hM c r.2 t, true) : am_R) := by
  unfold fz_mo_byteAt_22 at hF
  refine am_go.blk hcd_mo_byteAt 4 (g := (bif decide (y0 ≤ 0) then 36 else 32, [some (.ref 16), some (.int x1)], [], zz_hM c (zz_i s 0 y0) t, true)) rfl ?_
  refine am_go.br (fun hP => ?_) (fun hP => ?_)
  · replace hF := (if_pos hP).symm.trans hF
    refine am_go.blk hcd_mo_byteAt 3 (g := (41, [some (.ref 16), some (.int x1)], [.int x1, .ref 18], zz_hM c (zz_i s 0 y0) t, true)) rfl ?_
    obtain ⟨hi1, hF⟩ := am_ng hF
    refine am_go.iald hcd_mo_byteAt rfl rfl hi1 ?_
    cases hF
    exact am_go.ret hcd_mo_byteAt rfl rfl ⟨rfl, rfl, (fun h => by cases h), Or.inl rfl, rfl⟩
  · replace hF := (if_neg hP).symm.trans hF
    refine am_go.blk hcd_mo_byteAt 2 (g := (42, [some (.ref 16), some (.int x1)], [.int (0 : Int32)], zz_hM c (zz_i s 0 y0) t, true)) rfl ?_
    cases hF
    exact am_go.ret hcd_mo_byteAt rfl rfl ⟨rfl, rfl, (fun h => by cases h), Or.inl rfl, rfl⟩
def fz_mo_byteAt (s : am_Z) (x1 : Int32) : Option (Int32 × am_Z) :=
  (fz_mo_within (Int32.toInt64 x1) (0 : Int64) (Int32.toInt64 ((s.1 4) - (1 : Int32)))).bind fun q1 =>
  if q1 = 0 then
    fz_mo_byteAt_22 x1 (1 : Int32) s
  else
  fz_mo_byteAt_22 x1 (0 : Int32) s
theorem tz_mo_byteAt {sc : am_S} {c : am_Z} {t : am_H} {s : am_Z} {x1 : Int32} {r : Int32 × am_Z} (hF : fz_mo_byteAt s x1 = some r) : am_ev sc 2 155 [.ref 16, .int x1] (zz_hM c s t) ((.inl (some (.int r.1)), zz_hM c r.2 t, true) : am_R) := by
  unfold fz_mo_byteAt at hF
  refine am_ev.of true rfl ?_
  show am_go sc _ _ _ _ (0, [some (.ref 16), some (.int x1)], [], zz_hM c s t, true) _
  refine am_go.blk hcd_mo_byteAt 9 (g := (11, [some (.ref 16), some (.int x1)], [.long (Int32.toInt64 ((s.1 4) - (1 : Int32))), .long (0 : Int64), .long (Int32.toInt64 x1), .ref 16], zz_hM c s t, true)) rfl ?_
  obtain ⟨q1, hq1, hF⟩ := am_bd hF
  refine am_go.call hcd_mo_byteAt rfl rfl rfl rfl (am_le8 rfl) (am_ev.le (by decide) (tz_mo_within (h := zz_hM c s t) hq1)) ?_
  refine am_go.blk hcd_mo_byteAt 1 (g := (bif decide (q1 = 0) then 21 else 17, [some (.ref 16), some (.int x1)], [.ref 16], zz_hM c s t, true)) rfl ?_
  refine am_go.br (fun hP => ?_) (fun hP => ?_)
  · replace hF := (if_pos hP).symm.trans hF
    refine am_go.blk hcd_mo_byteAt 1 (g := (22, [some (.ref 16), some (.int x1)], [.int (1 : Int32), .ref 16], zz_hM c s t, true)) rfl ?_
    exact tz_mo_byteAt_22  hF
  · replace hF := (if_neg hP).symm.trans hF
    refine am_go.blk hcd_mo_byteAt 2 (g := (22, [some (.ref 16), some (.int x1)], [.int (0 : Int32), .ref 16], zz_hM c s t, true)) rfl ?_
    exact tz_mo_byteAt_22  hF
theorem hcd_mo_size : am_code 154 = am_c_mo_size := rfl
def fz_mo_size (s : am_Z) : Option (Int32 × am_Z) :=
  some ((s.1 4), (zz_i s 0 (0 : Int32)))
theorem tz_mo_size {sc : am_S} {c : am_Z} {t : am_H} {s : am_Z} {r : Int32 × am_Z} (hF : fz_mo_size s = some r) : am_ev sc 1 154 [.ref 16] (zz_hM c s t) ((.inl (some (.int r.1)), zz_hM c r.2 t, true) : am_R) := by
  unfold fz_mo_size at hF
  refine am_ev.of true rfl ?_
  show am_go sc _ _ _ _ (0, [some (.ref 16)], [], zz_hM c s t, true) _
  refine am_go.blk hcd_mo_size 5 (g := (9, [some (.ref 16)], [.int (s.1 4)], zz_hM c (zz_i s 0 (0 : Int32)) t, true)) rfl ?_
  cases hF
  exact am_go.ret hcd_mo_size rfl rfl ⟨rfl, rfl, (fun h => by cases h), Or.inl rfl, rfl⟩
theorem hcd_mo_form : am_code 153 = am_c_mo_form := rfl
def fz_mo_form_13  (y0 : Int32) (s : am_Z) : Option (Int32 × am_Z) :=
  if y0 ≤ 0 then
    some ((s.1 6), (zz_i s 0 y0))
  else
  some ((0 : Int32), (zz_i s 0 y0))
theorem tz_mo_form_13 {sc : am_S} {c : am_Z} {t : am_H} {h0 : am_H}   {y0 : Int32} {s : am_Z} {r : Int32 × am_Z} (hF : fz_mo_form_13 y0 s = some r) : am_go sc 1 (am_ev sc 0) 153 h0 (13, [some (.ref 16)], [.int y0, .ref 16], zz_hM c s t, true) ((.inl (some (.int r.1)), zz_hM c r.2 t, true) : am_R) := by
  unfold fz_mo_form_13 at hF
  refine am_go.blk hcd_mo_form 4 (g := (bif decide (y0 ≤ 0) then 27 else 23, [some (.ref 16)], [], zz_hM c (zz_i s 0 y0) t, true)) rfl ?_
  refine am_go.br (fun hP => ?_) (fun hP => ?_)
  · replace hF := (if_pos hP).symm.trans hF
    refine am_go.blk hcd_mo_form 2 (g := (31, [some (.ref 16)], [.int (s.1 6)], zz_hM c (zz_i s 0 y0) t, true)) rfl ?_
    cases hF
    exact am_go.ret hcd_mo_form rfl rfl ⟨rfl, rfl, (fun h => by cases h), Or.inl rfl, rfl⟩
  · replace hF := (if_neg hP).symm.trans hF
    refine am_go.blk hcd_mo_form 2 (g := (31, [some (.ref 16)], [.int (0 : Int32)], zz_hM c (zz_i s 0 y0) t, true)) rfl ?_
    cases hF
    exact am_go.ret hcd_mo_form rfl rfl ⟨rfl, rfl, (fun h => by cases h), Or.inl rfl, rfl⟩
def fz_mo_form (s : am_Z) : Option (Int32 × am_Z) :=
  if 0 ≤ (s.1 6) then
    fz_mo_form_13 (0 : Int32) s
  else
  fz_mo_form_13 (1 : Int32) s
theorem tz_mo_form {sc : am_S} {c : am_Z} {t : am_H} {s : am_Z} {r : Int32 × am_Z} (hF : fz_mo_form s = some r) : am_ev sc 1 153 [.ref 16] (zz_hM c s t) ((.inl (some (.int r.1)), zz_hM c r.2 t, true) : am_R) := by
  unfold fz_mo_form at hF
  refine am_ev.of true rfl ?_
  show am_go sc _ _ _ _ (0, [some (.ref 16)], [], zz_hM c s t, true) _
  refine am_go.blk hcd_mo_form 4 (g := (bif decide (0 ≤ (s.1 6)) then 12 else 8, [some (.ref 16)], [.ref 16], zz_hM c s t, true)) rfl ?_
  refine am_go.br (fun hP => ?_) (fun hP => ?_)
  · replace hF := (if_pos hP).symm.trans hF
    refine am_go.blk hcd_mo_form 1 (g := (13, [some (.ref 16)], [.int (0 : Int32), .ref 16], zz_hM c s t, true)) rfl ?_
    exact tz_mo_form_13  hF
  · replace hF := (if_neg hP).symm.trans hF
    refine am_go.blk hcd_mo_form 2 (g := (13, [some (.ref 16)], [.int (1 : Int32), .ref 16], zz_hM c s t, true)) rfl ?_
    exact tz_mo_form_13  hF
theorem hcd_mo_ask : am_code 135 = am_c_mo_ask := rfl
def fz_mo_ask_47  (s : am_Z) : Option (Int64 × am_Z) :=
  some ((0 : Int64), (zz_i s 8 (1 : Int32)))
theorem tz_mo_ask_47 {sc : am_S} {c : am_Z} {t : am_H} {h0 : am_H}   {s : am_Z} {r : Int64 × am_Z} (hF : fz_mo_ask_47 s = some r) : am_go sc 2 (am_ev sc 1) 135 h0 (47, [some (.ref 16), none, none, none, none, none, none, none, none], [], zz_hM c s t, true) ((.inl (some (.long r.1)), zz_hM c r.2 t, true) : am_R) := by
  unfold fz_mo_ask_47 at hF
  refine am_go.blk hcd_mo_ask 4 (g := (53, [some (.ref 16), none, none, none, none, none, none, none, none], [.long (0 : Int64)], zz_hM c (zz_i s 8 (1 : Int32)) t, true)) rfl ?_
  cases hF
  exact am_go.ret hcd_mo_ask rfl rfl ⟨rfl, rfl, (fun h => by cases h), rfl, rfl⟩
def fz_mo_ask_23  (x1 : Int32) (x3 : Int64) (x5 : Int64) (y0 : Int64) (s : am_Z) : Option (Int64 × am_Z) :=
  if (lg_cmp y0 (0 : Int64)) < 0 then
    fz_mo_ask_47 s
  else
  if (lg_cmp y0 x3) < 0 then
    fz_mo_ask_47 s
  else
  if (lg_cmp y0 x5) ≤ 0 then
    some (y0, (zz_i s 7 ((s.1 7) + x1)))
  else
  fz_mo_ask_47 s
theorem tz_mo_ask_23 {sc : am_S} {c : am_Z} {t : am_H} {h0 : am_H}   {x1 : Int32} {x3 : Int64} {x5 : Int64} {y0 : Int64} {s : am_Z} {r : Int64 × am_Z} (hF : fz_mo_ask_23 x1 x3 x5 y0 s = some r) : am_go sc 2 (am_ev sc 1) 135 h0 (23, [some (.ref 16), some (.int x1), none, some (.long x3), none, some (.long x5), none, none, none], [.long y0], zz_hM c s t, true) ((.inl (some (.long r.1)), zz_hM c r.2 t, true) : am_R) := by
  unfold fz_mo_ask_23 at hF
  refine am_go.blk hcd_mo_ask 5 (g := (bif decide ((lg_cmp y0 (0 : Int64)) < 0) then 47 else 32, [some (.ref 16), some (.int x1), none, some (.long x3), none, some (.long x5), none, some (.long y0), none], [], zz_hM c s t, true)) rfl ?_
  refine am_go.br (fun hP => ?_) (fun hP => ?_)
  · replace hF := (if_pos hP).symm.trans hF
    refine am_go.fgl [some (.ref 16), none, none, none, none, none, none, none, none] ⟨rfl, trivial⟩ ?_
    exact tz_mo_ask_47  hF
  · replace hF := (if_neg hP).symm.trans hF
    refine am_go.blk hcd_mo_ask 4 (g := (bif decide ((lg_cmp y0 x3) < 0) then 47 else 39, [some (.ref 16), some (.int x1), none, some (.long x3), none, some (.long x5), none, some (.long y0), none], [], zz_hM c s t, true)) rfl ?_
    refine am_go.br (fun hP => ?_) (fun hP => ?_)
    · replace hF := (if_pos hP).symm.trans hF
      refine am_go.fgl [some (.ref 16), none, none, none, none, none, none, none, none] ⟨rfl, trivial⟩ ?_
      exact tz_mo_ask_47  hF
    · replace hF := (if_neg hP).symm.trans hF
      refine am_go.blk hcd_mo_ask 4 (g := (bif decide ((lg_cmp y0 x5) ≤ 0) then 54 else 47, [some (.ref 16), some (.int x1), none, some (.long x3), none, some (.long x5), none, some (.long y0), none], [], zz_hM c s t, true)) rfl ?_
      refine am_go.br (fun hP => ?_) (fun hP => ?_)
      · replace hF := (if_pos hP).symm.trans hF
        refine am_go.blk hcd_mo_ask 7 (g := (66, [some (.ref 16), some (.int x1), none, some (.long x3), none, some (.long x5), none, some (.long y0), none], [.long y0], zz_hM c (zz_i s 7 ((s.1 7) + x1)) t, true)) rfl ?_
        cases hF
        exact am_go.ret hcd_mo_ask rfl rfl ⟨rfl, rfl, (fun h => by cases h), rfl, rfl⟩
      · replace hF := (if_neg hP).symm.trans hF
        refine am_go.fgl [some (.ref 16), none, none, none, none, none, none, none, none] ⟨rfl, trivial⟩ ?_
        exact tz_mo_ask_47  hF
def fz_mo_ask (s : am_Z) (x1 : Int32) (x2 : Int32) (x3 : Int64) (x5 : Int64) : Option (Int64 × am_Z) :=
  if (s.1 8) = 0 then
    (fz_mo_peek s (s.1 7) x1 x2).bind fun q1 =>
    fz_mo_ask_23 x1 x3 x5 q1 s
  else
  fz_mo_ask_23 x1 x3 x5 (-1 : Int64) s
theorem tz_mo_ask {sc : am_S} {c : am_Z} {t : am_H} {s : am_Z} {x1 : Int32} {x2 : Int32} {x3 : Int64} {x5 : Int64} {r : Int64 × am_Z} (hF : fz_mo_ask s x1 x2 x3 x5 = some r) : am_ev sc 2 135 [.ref 16, .int x1, .int x2, .long x3, .long x5] (zz_hM c s t) ((.inl (some (.long r.1)), zz_hM c r.2 t, true) : am_R) := by
  unfold fz_mo_ask at hF
  refine am_ev.of true rfl ?_
  show am_go sc _ _ _ _ (0, [some (.ref 16), some (.int x1), some (.int x2), some (.long x3), none, some (.long x5), none, none, none], [], zz_hM c s t, true) _
  refine am_go.blk hcd_mo_ask 3 (g := (bif decide ((s.1 8) = 0) then 13 else 7, [some (.ref 16), some (.int x1), some (.int x2), some (.long x3), none, some (.long x5), none, none, none], [], zz_hM c s t, true)) rfl ?_
  refine am_go.br (fun hP => ?_) (fun hP => ?_)
  · replace hF := (if_pos hP).symm.trans hF
    refine am_go.blk hcd_mo_ask 5 (g := (20, [some (.ref 16), some (.int x1), some (.int x2), some (.long x3), none, some (.long x5), none, none, none], [.int x2, .int x1, .int (s.1 7), .ref 16], zz_hM c s t, true)) rfl ?_
    obtain ⟨q1, hq1, hF⟩ := am_bd hF
    refine am_go.call hcd_mo_ask rfl rfl rfl rfl (am_le8 rfl) (am_ev.le (by decide) (tz_mo_peek (c := c) (t := t) hq1)) ?_
    refine am_go.fgl [some (.ref 16), some (.int x1), none, some (.long x3), none, some (.long x5), none, none, none] ⟨rfl, rfl, rfl, rfl, trivial⟩ ?_
    exact tz_mo_ask_23  hF
  · replace hF := (if_neg hP).symm.trans hF
    refine am_go.blk hcd_mo_ask 2 (g := (23, [some (.ref 16), some (.int x1), some (.int x2), some (.long x3), none, some (.long x5), none, none, none], [.long (-1 : Int64)], zz_hM c s t, true)) rfl ?_
    refine am_go.fgl [some (.ref 16), some (.int x1), none, some (.long x3), none, some (.long x5), none, none, none] ⟨rfl, rfl, rfl, rfl, trivial⟩ ?_
    exact tz_mo_ask_23  hF
theorem hcd_mo_exact : am_code 136 = am_c_mo_exact := rfl
def fz_mo_exact_30  (y0 : Int32) (s : am_Z) : Option (am_Z) :=
  if ¬ (y0 = 0 ∨ y0 = 1) then none else
  some (zz_i s 8 y0)
theorem tz_mo_exact_30 {sc : am_S} {c : am_Z} {t : am_H} {h0 : am_H}   {y0 : Int32} {s : am_Z} {r : am_Z} (hF : fz_mo_exact_30 y0 s = some r) : am_go sc 3 (am_ev sc 2) 136 h0 (30, [none, none, none, none, none, none, none], [.int y0, .ref 16], zz_hM c s t, true) ((.inl (none), zz_hM c r t, true) : am_R) := by
  unfold fz_mo_exact_30 at hF
  obtain ⟨hb1, hF⟩ := am_ng hF
  refine am_go.putb hcd_mo_exact rfl rfl rfl rfl rfl hb1 ?_
  cases hF
  exact am_go.ret hcd_mo_exact rfl rfl ⟨rfl, rfl, (fun h => by cases h), rfl, rfl⟩
def fz_mo_exact_25  (s : am_Z) : Option (am_Z) :=
  fz_mo_exact_30 (1 : Int32) s
theorem tz_mo_exact_25 {sc : am_S} {c : am_Z} {t : am_H} {h0 : am_H}   {s : am_Z} {r : am_Z} (hF : fz_mo_exact_25 s = some r) : am_go sc 3 (am_ev sc 2) 136 h0 (25, [none, none, none, none, none, none, none], [.ref 16], zz_hM c s t, true) ((.inl (none), zz_hM c r t, true) : am_R) := by
  unfold fz_mo_exact_25 at hF
  refine am_go.blk hcd_mo_exact 2 (g := (30, [none, none, none, none, none, none, none], [.int (1 : Int32), .ref 16], zz_hM c s t, true)) rfl ?_
  exact tz_mo_exact_30  hF
def fz_mo_exact (s : am_Z) (x1 : Int32) (x2 : Int32) (x3 : Int64) : Option (am_Z) :=
  (fz_mo_ask s x1 x2 x3 x3).bind fun q1 =>
  if ¬ (q1.2.1 8) = 0 then
    fz_mo_exact_25 q1.2
  else
  if (lg_cmp q1.1 x3) = 0 then
    fz_mo_exact_30 (0 : Int32) q1.2
  else
  fz_mo_exact_25 q1.2
theorem tz_mo_exact {sc : am_S} {c : am_Z} {t : am_H} {s : am_Z} {x1 : Int32} {x2 : Int32} {x3 : Int64} {r : am_Z} (hF : fz_mo_exact s x1 x2 x3 = some r) : am_ev sc 3 136 [.ref 16, .int x1, .int x2, .long x3] (zz_hM c s t) ((.inl (none), zz_hM c r t, true) : am_R) := by
  unfold fz_mo_exact at hF
  refine am_ev.of true rfl ?_
  show am_go sc _ _ _ _ (0, [some (.ref 16), some (.int x1), some (.int x2), some (.long x3), none, none, none], [], zz_hM c s t, true) _
  refine am_go.blk hcd_mo_exact 5 (g := (5, [some (.ref 16), some (.int x1), some (.int x2), some (.long x3), none, none, none], [.long x3, .long x3, .int x2, .int x1, .ref 16], zz_hM c s t, true)) rfl ?_
  obtain ⟨q1, hq1, hF⟩ := am_bd hF
  refine am_go.call hcd_mo_exact rfl rfl rfl rfl (am_le8 rfl) (am_ev.le (by decide) (tz_mo_ask (c := c) (t := t) hq1)) ?_
  refine am_go.blk hcd_mo_exact 5 (g := (bif decide (¬ (q1.2.1 8) = 0) then 25 else 18, [some (.ref 16), some (.int x1), some (.int x2), some (.long x3), none, some (.long q1.1), none], [.ref 16], zz_hM c q1.2 t, true)) rfl ?_
  refine am_go.br (fun hP => ?_) (fun hP => ?_)
  · replace hF := (if_pos hP).symm.trans hF
    refine am_go.fgl [none, none, none, none, none, none, none] trivial ?_
    exact tz_mo_exact_25  hF
  · replace hF := (if_neg hP).symm.trans hF
    refine am_go.blk hcd_mo_exact 4 (g := (bif decide ((lg_cmp q1.1 x3) = 0) then 29 else 25, [some (.ref 16), some (.int x1), some (.int x2), some (.long x3), none, some (.long q1.1), none], [.ref 16], zz_hM c q1.2 t, true)) rfl ?_
    refine am_go.br (fun hP => ?_) (fun hP => ?_)
    · replace hF := (if_pos hP).symm.trans hF
      refine am_go.blk hcd_mo_exact 1 (g := (30, [some (.ref 16), some (.int x1), some (.int x2), some (.long x3), none, some (.long q1.1), none], [.int (0 : Int32), .ref 16], zz_hM c q1.2 t, true)) rfl ?_
      refine am_go.fgl [none, none, none, none, none, none, none] trivial ?_
      exact tz_mo_exact_30  hF
    · replace hF := (if_neg hP).symm.trans hF
      refine am_go.fgl [none, none, none, none, none, none, none] trivial ?_
      exact tz_mo_exact_25  hF
theorem hcd_mo_open : am_code 137 = am_c_mo_open := rfl
def fz_mo_open_86  (x8 : Int64) (y0 : Int32) (s : am_Z) : Option (Int32 × am_Z) :=
  if ¬ y0 = 0 then
    some ((Int64.toInt32 x8), (zz_i s 7 ((s.1 7) + (4 : Int32))))
  else
  some ((0 : Int32), (zz_i s 8 (1 : Int32)))
theorem tz_mo_open_86 {sc : am_S} {c : am_Z} {t : am_H} {h0 : am_H}   {x8 : Int64} {y0 : Int32} {s : am_Z} {r : Int32 × am_Z} (hF : fz_mo_open_86 x8 y0 s = some r) : am_go sc 2 (am_ev sc 1) 137 h0 (86, [some (.ref 16), none, none, none, none, none, none, none, some (.long x8), none, none], [.int y0], zz_hM c s t, true) ((.inl (some (.int r.1)), zz_hM c r.2 t, true) : am_R) := by
  unfold fz_mo_open_86 at hF
  refine am_go.blk hcd_mo_open 3 (g := (bif decide (¬ y0 = 0) then 100 else 93, [some (.ref 16), none, none, none, none, none, none, none, some (.long x8), none, some (.int y0)], [], zz_hM c s t, true)) rfl ?_
  refine am_go.br (fun hP => ?_) (fun hP => ?_)
  · replace hF := (if_pos hP).symm.trans hF
    refine am_go.blk hcd_mo_open 8 (g := (113, [some (.ref 16), none, none, none, none, none, none, none, some (.long x8), none, some (.int y0)], [.int (Int64.toInt32 x8)], zz_hM c (zz_i s 7 ((s.1 7) + (4 : Int32))) t, true)) rfl ?_
    cases hF
    exact am_go.ret hcd_mo_open rfl rfl ⟨rfl, rfl, (fun h => by cases h), Or.inl rfl, rfl⟩
  · replace hF := (if_neg hP).symm.trans hF
    refine am_go.blk hcd_mo_open 4 (g := (99, [some (.ref 16), none, none, none, none, none, none, none, some (.long x8), none, some (.int y0)], [.int (0 : Int32)], zz_hM c (zz_i s 8 (1 : Int32)) t, true)) rfl ?_
    cases hF
    exact am_go.ret hcd_mo_open rfl rfl ⟨rfl, rfl, (fun h => by cases h), Or.inl rfl, rfl⟩
def fz_mo_open_85  (x8 : Int64) (s : am_Z) : Option (Int32 × am_Z) :=
  fz_mo_open_86 x8 (0 : Int32) s
theorem tz_mo_open_85 {sc : am_S} {c : am_Z} {t : am_H} {h0 : am_H}   {x8 : Int64} {s : am_Z} {r : Int32 × am_Z} (hF : fz_mo_open_85 x8 s = some r) : am_go sc 2 (am_ev sc 1) 137 h0 (85, [some (.ref 16), none, none, none, none, none, none, none, some (.long x8), none, none], [], zz_hM c s t, true) ((.inl (some (.int r.1)), zz_hM c r.2 t, true) : am_R) := by
  unfold fz_mo_open_85 at hF
  refine am_go.blk hcd_mo_open 1 (g := (86, [some (.ref 16), none, none, none, none, none, none, none, some (.long x8), none, none], [.int (0 : Int32)], zz_hM c s t, true)) rfl ?_
  exact tz_mo_open_86  hF
def fz_mo_open_55  (x8 : Int64) (s : am_Z) : Option (Int32 × am_Z) :=
  if 0 < (lg_cmp (((Int32.toInt64 ((s.1 7) + (4 : Int32))) + x8) + (x8 - x8 / (2 : Int64) * (2 : Int64))) (Int32.toInt64 (s.1 4))) then
    fz_mo_open_85 x8 s
  else
  fz_mo_open_86 x8 (1 : Int32) s
theorem tz_mo_open_55 {sc : am_S} {c : am_Z} {t : am_H} {h0 : am_H}   {x8 : Int64} {s : am_Z} {r : Int32 × am_Z} (hF : fz_mo_open_55 x8 s = some r) : am_go sc 2 (am_ev sc 1) 137 h0 (55, [some (.ref 16), none, none, none, none, none, none, none, some (.long x8), none, none], [], zz_hM c s t, true) ((.inl (some (.int r.1)), zz_hM c r.2 t, true) : am_R) := by
  unfold fz_mo_open_55 at hF
  refine am_go.blk hcd_mo_open 9 (g := (70, [some (.ref 16), none, none, none, none, none, none, none, some (.long x8), none, none], [.long (2 : Int64), .long x8, .long ((Int32.toInt64 ((s.1 7) + (4 : Int32))) + x8)], zz_hM c s t, true)) rfl ?_
  refine am_go.lrm hcd_mo_open rfl (by decide) ?_
  refine am_go.blk hcd_mo_open 6 (g := (bif decide (0 < (lg_cmp (((Int32.toInt64 ((s.1 7) + (4 : Int32))) + x8) + (x8 - x8 / (2 : Int64) * (2 : Int64))) (Int32.toInt64 (s.1 4)))) then 85 else 81, [some (.ref 16), none, none, none, none, none, none, none, some (.long x8), none, none], [], zz_hM c s t, true)) rfl ?_
  refine am_go.br (fun hP => ?_) (fun hP => ?_)
  · replace hF := (if_pos hP).symm.trans hF
    exact tz_mo_open_85  hF
  · replace hF := (if_neg hP).symm.trans hF
    refine am_go.blk hcd_mo_open 2 (g := (86, [some (.ref 16), none, none, none, none, none, none, none, some (.long x8), none, none], [.int (1 : Int32)], zz_hM c s t, true)) rfl ?_
    exact tz_mo_open_86  hF
def fz_mo_open_23  (x2 : Int64) (x4 : Int64) (x6 : Int64) (y0 : Int64) (s : am_Z) : Option (Int32 × am_Z) :=
  if (lg_cmp y0 (0 : Int64)) < 0 then
    fz_mo_open_85 y0 s
  else
  if (lg_cmp y0 x2) = 0 then
    fz_mo_open_55 y0 s
  else
  if (lg_cmp y0 x4) = 0 then
    fz_mo_open_55 y0 s
  else
  if ¬ (lg_cmp y0 x6) = 0 then
    fz_mo_open_85 y0 s
  else
  fz_mo_open_55 y0 s
theorem tz_mo_open_23 {sc : am_S} {c : am_Z} {t : am_H} {h0 : am_H}   {x2 : Int64} {x4 : Int64} {x6 : Int64} {y0 : Int64} {s : am_Z} {r : Int32 × am_Z} (hF : fz_mo_open_23 x2 x4 x6 y0 s = some r) : am_go sc 2 (am_ev sc 1) 137 h0 (23, [some (.ref 16), none, some (.long x2), none, some (.long x4), none, some (.long x6), none, none, none, none], [.long y0], zz_hM c s t, true) ((.inl (some (.int r.1)), zz_hM c r.2 t, true) : am_R) := by
  unfold fz_mo_open_23 at hF
  refine am_go.blk hcd_mo_open 5 (g := (bif decide ((lg_cmp y0 (0 : Int64)) < 0) then 85 else 32, [some (.ref 16), none, some (.long x2), none, some (.long x4), none, some (.long x6), none, some (.long y0), none, none], [], zz_hM c s t, true)) rfl ?_
  refine am_go.br (fun hP => ?_) (fun hP => ?_)
  · replace hF := (if_pos hP).symm.trans hF
    refine am_go.fgl [some (.ref 16), none, none, none, none, none, none, none, some (.long y0), none, none] ⟨rfl, rfl, trivial⟩ ?_
    exact tz_mo_open_85  hF
  · replace hF := (if_neg hP).symm.trans hF
    refine am_go.blk hcd_mo_open 4 (g := (bif decide ((lg_cmp y0 x2) = 0) then 55 else 39, [some (.ref 16), none, some (.long x2), none, some (.long x4), none, some (.long x6), none, some (.long y0), none, none], [], zz_hM c s t, true)) rfl ?_
    refine am_go.br (fun hP => ?_) (fun hP => ?_)
    · replace hF := (if_pos hP).symm.trans hF
      refine am_go.fgl [some (.ref 16), none, none, none, none, none, none, none, some (.long y0), none, none] ⟨rfl, rfl, trivial⟩ ?_
      exact tz_mo_open_55  hF
    · replace hF := (if_neg hP).symm.trans hF
      refine am_go.blk hcd_mo_open 4 (g := (bif decide ((lg_cmp y0 x4) = 0) then 55 else 47, [some (.ref 16), none, some (.long x2), none, some (.long x4), none, some (.long x6), none, some (.long y0), none, none], [], zz_hM c s t, true)) rfl ?_
      refine am_go.br (fun hP => ?_) (fun hP => ?_)
      · replace hF := (if_pos hP).symm.trans hF
        refine am_go.fgl [some (.ref 16), none, none, none, none, none, none, none, some (.long y0), none, none] ⟨rfl, rfl, trivial⟩ ?_
        exact tz_mo_open_55  hF
      · replace hF := (if_neg hP).symm.trans hF
        refine am_go.blk hcd_mo_open 4 (g := (bif decide (¬ (lg_cmp y0 x6) = 0) then 85 else 55, [some (.ref 16), none, some (.long x2), none, some (.long x4), none, some (.long x6), none, some (.long y0), none, none], [], zz_hM c s t, true)) rfl ?_
        refine am_go.br (fun hP => ?_) (fun hP => ?_)
        · replace hF := (if_pos hP).symm.trans hF
          refine am_go.fgl [some (.ref 16), none, none, none, none, none, none, none, some (.long y0), none, none] ⟨rfl, rfl, trivial⟩ ?_
          exact tz_mo_open_85  hF
        · replace hF := (if_neg hP).symm.trans hF
          refine am_go.fgl [some (.ref 16), none, none, none, none, none, none, none, some (.long y0), none, none] ⟨rfl, rfl, trivial⟩ ?_
          exact tz_mo_open_55  hF
def fz_mo_open (s : am_Z) (x1 : Int32) (x2 : Int64) (x4 : Int64) (x6 : Int64) : Option (Int32 × am_Z) :=
  if (s.1 8) = 0 then
    (fz_mo_peek s (s.1 7) (4 : Int32) x1).bind fun q1 =>
    fz_mo_open_23 x2 x4 x6 q1 s
  else
  fz_mo_open_23 x2 x4 x6 (-1 : Int64) s
theorem tz_mo_open {sc : am_S} {c : am_Z} {t : am_H} {s : am_Z} {x1 : Int32} {x2 : Int64} {x4 : Int64} {x6 : Int64} {r : Int32 × am_Z} (hF : fz_mo_open s x1 x2 x4 x6 = some r) : am_ev sc 2 137 [.ref 16, .int x1, .long x2, .long x4, .long x6] (zz_hM c s t) ((.inl (some (.int r.1)), zz_hM c r.2 t, true) : am_R) := by
  unfold fz_mo_open at hF
  refine am_ev.of true rfl ?_
  show am_go sc _ _ _ _ (0, [some (.ref 16), some (.int x1), some (.long x2), none, some (.long x4), none, some (.long x6), none, none, none, none], [], zz_hM c s t, true) _
  refine am_go.blk hcd_mo_open 3 (g := (bif decide ((s.1 8) = 0) then 13 else 7, [some (.ref 16), some (.int x1), some (.long x2), none, some (.long x4), none, some (.long x6), none, none, none, none], [], zz_hM c s t, true)) rfl ?_
  refine am_go.br (fun hP => ?_) (fun hP => ?_)
  · replace hF := (if_pos hP).symm.trans hF
    refine am_go.blk hcd_mo_open 5 (g := (20, [some (.ref 16), some (.int x1), some (.long x2), none, some (.long x4), none, some (.long x6), none, none, none, none], [.int x1, .int (4 : Int32), .int (s.1 7), .ref 16], zz_hM c s t, true)) rfl ?_
    obtain ⟨q1, hq1, hF⟩ := am_bd hF
    refine am_go.call hcd_mo_open rfl rfl rfl rfl (am_le8 rfl) (am_ev.le (by decide) (tz_mo_peek (c := c) (t := t) hq1)) ?_
    refine am_go.fgl [some (.ref 16), none, some (.long x2), none, some (.long x4), none, some (.long x6), none, none, none, none] ⟨rfl, rfl, rfl, rfl, trivial⟩ ?_
    exact tz_mo_open_23  hF
  · replace hF := (if_neg hP).symm.trans hF
    refine am_go.blk hcd_mo_open 2 (g := (23, [some (.ref 16), some (.int x1), some (.long x2), none, some (.long x4), none, some (.long x6), none, none, none, none], [.long (-1 : Int64)], zz_hM c s t, true)) rfl ?_
    refine am_go.fgl [some (.ref 16), none, some (.long x2), none, some (.long x4), none, some (.long x6), none, none, none, none] ⟨rfl, rfl, rfl, rfl, trivial⟩ ?_
    exact tz_mo_open_23  hF
theorem hcd_mo_readCommon : am_code 149 = am_c_mo_readCommon := rfl
def fz_mo_readCommon_226  (s : am_Z) : Option (am_Z) :=
  some (zz_i s 15 (1 : Int32))
set_option maxRecDepth 20000 in
theorem tz_mo_readCommon_226 {sc : am_S} {c : am_Z} {t : am_H} {h0 : am_H}   {s : am_Z} {r : am_Z} (hF : fz_mo_readCommon_226 s = some r) : am_go sc 4 (am_ev sc 3) 149 h0 (226, [some (.ref 16), none, none, none, none, none, none, none, none, none], [], zz_hM c s t, true) ((.inl (none), zz_hM c r t, true) : am_R) := by
  unfold fz_mo_readCommon_226 at hF
  refine am_go.blk hcd_mo_readCommon 3 (g := (231, [some (.ref 16), none, none, none, none, none, none, none, none, none], [], zz_hM c (zz_i s 15 (1 : Int32)) t, true)) rfl ?_
  cases hF
  exact am_go.ret hcd_mo_readCommon rfl rfl ⟨rfl, rfl, (fun h => by cases h), rfl, rfl⟩
def fz_mo_readCommon_223  (y0 : Int32) (s : am_Z) : Option (am_Z) :=
  fz_mo_readCommon_226 (zz_i s 7 y0)
set_option maxRecDepth 20000 in
theorem tz_mo_readCommon_223 {sc : am_S} {c : am_Z} {t : am_H} {h0 : am_H}   {y0 : Int32} {s : am_Z} {r : am_Z} (hF : fz_mo_readCommon_223 y0 s = some r) : am_go sc 4 (am_ev sc 3) 149 h0 (223, [some (.ref 16), none, none, none, none, none, none, none, none, none], [.int y0, .ref 16], zz_hM c s t, true) ((.inl (none), zz_hM c r t, true) : am_R) := by
  unfold fz_mo_readCommon_223 at hF
  refine am_go.blk hcd_mo_readCommon 1 (g := (226, [some (.ref 16), none, none, none, none, none, none, none, none, none], [], zz_hM c (zz_i s 7 y0) t, true)) rfl ?_
  exact tz_mo_readCommon_226  hF
def fz_mo_readCommon_193  (x7 : Int64) (x9 : Int32) (y0 : Int32) (s : am_Z) : Option (am_Z) :=
  if ¬ (y0 = 0 ∨ y0 = 1) then none else
  if x9 = 0 then
    fz_mo_readCommon_223 (s.1 7) (zz_i (zz_i s 8 y0) 11 (Int64.toInt32 x7))
  else
  fz_mo_readCommon_223 ((s.1 7) + (8 : Int32)) (zz_i (zz_i s 8 y0) 11 (Int64.toInt32 x7))
set_option maxRecDepth 20000 in
theorem tz_mo_readCommon_193 {sc : am_S} {c : am_Z} {t : am_H} {h0 : am_H}   {x7 : Int64} {x9 : Int32} {y0 : Int32} {s : am_Z} {r : am_Z} (hF : fz_mo_readCommon_193 x7 x9 y0 s = some r) : am_go sc 4 (am_ev sc 3) 149 h0 (193, [some (.ref 16), none, none, none, none, none, none, some (.long x7), none, some (.int x9)], [.int y0, .ref 16], zz_hM c s t, true) ((.inl (none), zz_hM c r t, true) : am_R) := by
  unfold fz_mo_readCommon_193 at hF
  obtain ⟨hb1, hF⟩ := am_ng hF
  refine am_go.putb hcd_mo_readCommon rfl rfl rfl rfl rfl hb1 ?_
  refine am_go.blk hcd_mo_readCommon 7 (g := (bif decide (x9 = 0) then 219 else 209, [some (.ref 16), none, none, none, none, none, none, some (.long x7), none, some (.int x9)], [.ref 16], zz_hM c (zz_i (zz_i s 8 y0) 11 (Int64.toInt32 x7)) t, true)) rfl ?_
  refine am_go.br (fun hP => ?_) (fun hP => ?_)
  · replace hF := (if_pos hP).symm.trans hF
    refine am_go.blk hcd_mo_readCommon 2 (g := (223, [some (.ref 16), none, none, none, none, none, none, some (.long x7), none, some (.int x9)], [.int (s.1 7), .ref 16], zz_hM c (zz_i (zz_i s 8 y0) 11 (Int64.toInt32 x7)) t, true)) rfl ?_
    refine am_go.fgl [some (.ref 16), none, none, none, none, none, none, none, none, none] ⟨rfl, trivial⟩ ?_
    exact tz_mo_readCommon_223  hF
  · replace hF := (if_neg hP).symm.trans hF
    refine am_go.blk hcd_mo_readCommon 5 (g := (223, [some (.ref 16), none, none, none, none, none, none, some (.long x7), none, some (.int x9)], [.int ((s.1 7) + (8 : Int32)), .ref 16], zz_hM c (zz_i (zz_i s 8 y0) 11 (Int64.toInt32 x7)) t, true)) rfl ?_
    refine am_go.fgl [some (.ref 16), none, none, none, none, none, none, none, none, none] ⟨rfl, trivial⟩ ?_
    exact tz_mo_readCommon_223  hF
def fz_mo_readCommon_180  (x7 : Int64) (y0 : Int32) (s : am_Z) : Option (am_Z) :=
  if ¬ y0 = 0 then
    fz_mo_readCommon_193 x7 y0 (0 : Int32) s
  else
  fz_mo_readCommon_193 x7 y0 (1 : Int32) s
set_option maxRecDepth 20000 in
theorem tz_mo_readCommon_180 {sc : am_S} {c : am_Z} {t : am_H} {h0 : am_H}   {x7 : Int64} {y0 : Int32} {s : am_Z} {r : am_Z} (hF : fz_mo_readCommon_180 x7 y0 s = some r) : am_go sc 4 (am_ev sc 3) 149 h0 (180, [some (.ref 16), none, none, none, none, none, none, some (.long x7), none, none], [.int y0], zz_hM c s t, true) ((.inl (none), zz_hM c r t, true) : am_R) := by
  unfold fz_mo_readCommon_180 at hF
  refine am_go.blk hcd_mo_readCommon 4 (g := (bif decide (¬ y0 = 0) then 192 else 188, [some (.ref 16), none, none, none, none, none, none, some (.long x7), none, some (.int y0)], [.ref 16], zz_hM c s t, true)) rfl ?_
  refine am_go.br (fun hP => ?_) (fun hP => ?_)
  · replace hF := (if_pos hP).symm.trans hF
    refine am_go.blk hcd_mo_readCommon 1 (g := (193, [some (.ref 16), none, none, none, none, none, none, some (.long x7), none, some (.int y0)], [.int (0 : Int32), .ref 16], zz_hM c s t, true)) rfl ?_
    exact tz_mo_readCommon_193  hF
  · replace hF := (if_neg hP).symm.trans hF
    refine am_go.blk hcd_mo_readCommon 2 (g := (193, [some (.ref 16), none, none, none, none, none, none, some (.long x7), none, some (.int y0)], [.int (1 : Int32), .ref 16], zz_hM c s t, true)) rfl ?_
    exact tz_mo_readCommon_193  hF
def fz_mo_readCommon_179  (x7 : Int64) (s : am_Z) : Option (am_Z) :=
  fz_mo_readCommon_180 x7 (0 : Int32) s
set_option maxRecDepth 20000 in
theorem tz_mo_readCommon_179 {sc : am_S} {c : am_Z} {t : am_H} {h0 : am_H}   {x7 : Int64} {s : am_Z} {r : am_Z} (hF : fz_mo_readCommon_179 x7 s = some r) : am_go sc 4 (am_ev sc 3) 149 h0 (179, [some (.ref 16), none, none, none, none, none, none, some (.long x7), none, none], [], zz_hM c s t, true) ((.inl (none), zz_hM c r t, true) : am_R) := by
  unfold fz_mo_readCommon_179 at hF
  refine am_go.blk hcd_mo_readCommon 1 (g := (180, [some (.ref 16), none, none, none, none, none, none, some (.long x7), none, none], [.int (0 : Int32)], zz_hM c s t, true)) rfl ?_
  exact tz_mo_readCommon_180  hF
def fz_mo_readCommon_115  (x1 : Int32) (x2 : Int32) (x3 : Int64) (y0 : Int64) (s : am_Z) : Option (am_Z) :=
  if ¬ (s.1 8) = 0 then
    fz_mo_readCommon_226 s
  else
  if ¬ x1 = (18 : Int32) then
    fz_mo_readCommon_179 (x3 >>> (Int32.toInt64 ((31 : Int32) - x2) &&& 63)) s
  else
  if ¬ (lg_cmp y0 (0 : Int64)) = 0 then
    fz_mo_readCommon_179 (x3 >>> (Int32.toInt64 ((31 : Int32) - x2) &&& 63)) s
  else
  if ¬ (lg_cmp ((x3 >>> (Int32.toInt64 ((31 : Int32) - x2) &&& 63)) <<< (Int32.toInt64 ((31 : Int32) - x2) &&& 63)) x3) = 0 then
    fz_mo_readCommon_179 (x3 >>> (Int32.toInt64 ((31 : Int32) - x2) &&& 63)) s
  else
  if ¬ (lg_cmp ((x3 >>> (Int32.toInt64 ((31 : Int32) - x2) &&& 63)) >>> (Int32.toInt64 x2 &&& 63)) (1 : Int64)) = 0 then
    fz_mo_readCommon_179 (x3 >>> (Int32.toInt64 ((31 : Int32) - x2) &&& 63)) s
  else
  if 0 < (lg_cmp (x3 >>> (Int32.toInt64 ((31 : Int32) - x2) &&& 63)) (192000 : Int64)) then
    fz_mo_readCommon_179 (x3 >>> (Int32.toInt64 ((31 : Int32) - x2) &&& 63)) s
  else
  fz_mo_readCommon_180 (x3 >>> (Int32.toInt64 ((31 : Int32) - x2) &&& 63)) (1 : Int32) s
set_option maxRecDepth 20000 in
theorem tz_mo_readCommon_115 {sc : am_S} {c : am_Z} {t : am_H} {h0 : am_H}   {x1 : Int32} {x2 : Int32} {x3 : Int64} {y0 : Int64} {s : am_Z} {r : am_Z} (hF : fz_mo_readCommon_115 x1 x2 x3 y0 s = some r) : am_go sc 4 (am_ev sc 3) 149 h0 (115, [some (.ref 16), some (.int x1), some (.int x2), some (.long x3), none, none, none, none, none, none], [.long y0], zz_hM c s t, true) ((.inl (none), zz_hM c r t, true) : am_R) := by
  unfold fz_mo_readCommon_115 at hF
  refine am_go.blk hcd_mo_readCommon 4 (g := (bif decide (¬ (s.1 8) = 0) then 226 else 124, [some (.ref 16), some (.int x1), some (.int x2), some (.long x3), none, some (.long y0), none, none, none, none], [], zz_hM c s t, true)) rfl ?_
  refine am_go.br (fun hP => ?_) (fun hP => ?_)
  · replace hF := (if_pos hP).symm.trans hF
    refine am_go.fgl [some (.ref 16), none, none, none, none, none, none, none, none, none] ⟨rfl, trivial⟩ ?_
    exact tz_mo_readCommon_226  hF
  · replace hF := (if_neg hP).symm.trans hF
    refine am_go.blk hcd_mo_readCommon 9 (g := (bif decide (¬ x1 = (18 : Int32)) then 179 else 138, [some (.ref 16), some (.int x1), some (.int x2), some (.long x3), none, some (.long y0), none, some (.long (x3 >>> (Int32.toInt64 ((31 : Int32) - x2) &&& 63))), none, none], [], zz_hM c s t, true)) rfl ?_
    refine am_go.br (fun hP => ?_) (fun hP => ?_)
    · replace hF := (if_pos hP).symm.trans hF
      refine am_go.fgl [some (.ref 16), none, none, none, none, none, none, some (.long (x3 >>> (Int32.toInt64 ((31 : Int32) - x2) &&& 63))), none, none] ⟨rfl, rfl, trivial⟩ ?_
      exact tz_mo_readCommon_179  hF
    · replace hF := (if_neg hP).symm.trans hF
      refine am_go.blk hcd_mo_readCommon 4 (g := (bif decide (¬ (lg_cmp y0 (0 : Int64)) = 0) then 179 else 145, [some (.ref 16), some (.int x1), some (.int x2), some (.long x3), none, some (.long y0), none, some (.long (x3 >>> (Int32.toInt64 ((31 : Int32) - x2) &&& 63))), none, none], [], zz_hM c s t, true)) rfl ?_
      refine am_go.br (fun hP => ?_) (fun hP => ?_)
      · replace hF := (if_pos hP).symm.trans hF
        refine am_go.fgl [some (.ref 16), none, none, none, none, none, none, some (.long (x3 >>> (Int32.toInt64 ((31 : Int32) - x2) &&& 63))), none, none] ⟨rfl, rfl, trivial⟩ ?_
        exact tz_mo_readCommon_179  hF
      · replace hF := (if_neg hP).symm.trans hF
        refine am_go.blk hcd_mo_readCommon 8 (g := (bif decide (¬ (lg_cmp ((x3 >>> (Int32.toInt64 ((31 : Int32) - x2) &&& 63)) <<< (Int32.toInt64 ((31 : Int32) - x2) &&& 63)) x3) = 0) then 179 else 157, [some (.ref 16), some (.int x1), some (.int x2), some (.long x3), none, some (.long y0), none, some (.long (x3 >>> (Int32.toInt64 ((31 : Int32) - x2) &&& 63))), none, none], [], zz_hM c s t, true)) rfl ?_
        refine am_go.br (fun hP => ?_) (fun hP => ?_)
        · replace hF := (if_pos hP).symm.trans hF
          refine am_go.fgl [some (.ref 16), none, none, none, none, none, none, some (.long (x3 >>> (Int32.toInt64 ((31 : Int32) - x2) &&& 63))), none, none] ⟨rfl, rfl, trivial⟩ ?_
          exact tz_mo_readCommon_179  hF
        · replace hF := (if_neg hP).symm.trans hF
          refine am_go.blk hcd_mo_readCommon 6 (g := (bif decide (¬ (lg_cmp ((x3 >>> (Int32.toInt64 ((31 : Int32) - x2) &&& 63)) >>> (Int32.toInt64 x2 &&& 63)) (1 : Int64)) = 0) then 179 else 166, [some (.ref 16), some (.int x1), some (.int x2), some (.long x3), none, some (.long y0), none, some (.long (x3 >>> (Int32.toInt64 ((31 : Int32) - x2) &&& 63))), none, none], [], zz_hM c s t, true)) rfl ?_
          refine am_go.br (fun hP => ?_) (fun hP => ?_)
          · replace hF := (if_pos hP).symm.trans hF
            refine am_go.fgl [some (.ref 16), none, none, none, none, none, none, some (.long (x3 >>> (Int32.toInt64 ((31 : Int32) - x2) &&& 63))), none, none] ⟨rfl, rfl, trivial⟩ ?_
            exact tz_mo_readCommon_179  hF
          · replace hF := (if_neg hP).symm.trans hF
            refine am_go.blk hcd_mo_readCommon 4 (g := (bif decide (0 < (lg_cmp (x3 >>> (Int32.toInt64 ((31 : Int32) - x2) &&& 63)) (192000 : Int64))) then 179 else 175, [some (.ref 16), some (.int x1), some (.int x2), some (.long x3), none, some (.long y0), none, some (.long (x3 >>> (Int32.toInt64 ((31 : Int32) - x2) &&& 63))), none, none], [], zz_hM c s t, true)) rfl ?_
            refine am_go.br (fun hP => ?_) (fun hP => ?_)
            · replace hF := (if_pos hP).symm.trans hF
              refine am_go.fgl [some (.ref 16), none, none, none, none, none, none, some (.long (x3 >>> (Int32.toInt64 ((31 : Int32) - x2) &&& 63))), none, none] ⟨rfl, rfl, trivial⟩ ?_
              exact tz_mo_readCommon_179  hF
            · replace hF := (if_neg hP).symm.trans hF
              refine am_go.blk hcd_mo_readCommon 2 (g := (180, [some (.ref 16), some (.int x1), some (.int x2), some (.long x3), none, some (.long y0), none, some (.long (x3 >>> (Int32.toInt64 ((31 : Int32) - x2) &&& 63))), none, none], [.int (1 : Int32)], zz_hM c s t, true)) rfl ?_
              refine am_go.fgl [some (.ref 16), none, none, none, none, none, none, some (.long (x3 >>> (Int32.toInt64 ((31 : Int32) - x2) &&& 63))), none, none] ⟨rfl, rfl, trivial⟩ ?_
              exact tz_mo_readCommon_180  hF
def fz_mo_readCommon_91  (x1 : Int32) (x2 : Int32) (y0 : Int64) (s : am_Z) : Option (am_Z) :=
  if (s.1 8) = 0 then
    (fz_mo_peek s ((s.1 7) + (4 : Int32)) (4 : Int32) (1 : Int32)).bind fun q1 =>
    fz_mo_readCommon_115 x1 x2 y0 q1 s
  else
  fz_mo_readCommon_115 x1 x2 y0 (0 : Int64) s
set_option maxRecDepth 20000 in
theorem tz_mo_readCommon_91 {sc : am_S} {c : am_Z} {t : am_H} {h0 : am_H}   {x1 : Int32} {x2 : Int32} {y0 : Int64} {s : am_Z} {r : am_Z} (hF : fz_mo_readCommon_91 x1 x2 y0 s = some r) : am_go sc 4 (am_ev sc 3) 149 h0 (91, [some (.ref 16), some (.int x1), some (.int x2), none, none, none, none, none, none, none], [.long y0], zz_hM c s t, true) ((.inl (none), zz_hM c r t, true) : am_R) := by
  unfold fz_mo_readCommon_91 at hF
  refine am_go.blk hcd_mo_readCommon 4 (g := (bif decide ((s.1 8) = 0) then 103 else 99, [some (.ref 16), some (.int x1), some (.int x2), some (.long y0), none, none, none, none, none, none], [], zz_hM c s t, true)) rfl ?_
  refine am_go.br (fun hP => ?_) (fun hP => ?_)
  · replace hF := (if_pos hP).symm.trans hF
    refine am_go.blk hcd_mo_readCommon 7 (g := (112, [some (.ref 16), some (.int x1), some (.int x2), some (.long y0), none, none, none, none, none, none], [.int (1 : Int32), .int (4 : Int32), .int ((s.1 7) + (4 : Int32)), .ref 16], zz_hM c s t, true)) rfl ?_
    obtain ⟨q1, hq1, hF⟩ := am_bd hF
    refine am_go.call hcd_mo_readCommon rfl rfl rfl rfl (am_le8 rfl) (am_ev.le (by decide) (tz_mo_peek (c := c) (t := t) hq1)) ?_
    exact tz_mo_readCommon_115  hF
  · replace hF := (if_neg hP).symm.trans hF
    refine am_go.blk hcd_mo_readCommon 2 (g := (115, [some (.ref 16), some (.int x1), some (.int x2), some (.long y0), none, none, none, none, none, none], [.long (0 : Int64)], zz_hM c s t, true)) rfl ?_
    exact tz_mo_readCommon_115  hF
def fz_mo_readCommon (s : am_Z) : Option (am_Z) :=
  (fz_mo_open s (1 : Int32) (18 : Int64) (18 : Int64) (18 : Int64)).bind fun q1 =>
  (fz_mo_exact q1.2 (2 : Int32) (1 : Int32) (1 : Int64)).bind fun q2 =>
  (fz_mo_ask q2 (4 : Int32) (1 : Int32) (0 : Int64) (64 : Int64)).bind fun q3 =>
  (fz_mo_ask (zz_i q3.2 10 (Int64.toInt32 q3.1)) (2 : Int32) (1 : Int32) (1 : Int64) (16 : Int64)).bind fun q4 =>
  (fz_mo_ask (zz_i q4.2 14 (Int64.toInt32 q4.1)) (2 : Int32) (1 : Int32) (16383 : Int64) (16400 : Int64)).bind fun q5 =>
  if (q5.2.1 8) = 0 then
    (fz_mo_peek q5.2 (q5.2.1 7) (4 : Int32) (1 : Int32)).bind fun q6 =>
    fz_mo_readCommon_91 q1.1 ((Int64.toInt32 q5.1) - (16383 : Int32)) q6 q5.2
  else
  fz_mo_readCommon_91 q1.1 ((Int64.toInt32 q5.1) - (16383 : Int32)) (0 : Int64) q5.2
set_option maxRecDepth 20000 in
theorem tz_mo_readCommon {sc : am_S} {c : am_Z} {t : am_H} {s : am_Z} {r : am_Z} (hF : fz_mo_readCommon s = some r) : am_ev sc 4 149 [.ref 16] (zz_hM c s t) ((.inl (none), zz_hM c r t, true) : am_R) := by
  unfold fz_mo_readCommon at hF
  refine am_ev.of true rfl ?_
  show am_go sc _ _ _ _ (0, [some (.ref 16), none, none, none, none, none, none, none, none, none], [], zz_hM c s t, true) _
  refine am_go.blk hcd_mo_readCommon 5 (g := (11, [some (.ref 16), none, none, none, none, none, none, none, none, none], [.long (18 : Int64), .long (18 : Int64), .long (18 : Int64), .int (1 : Int32), .ref 16], zz_hM c s t, true)) rfl ?_
  obtain ⟨q1, hq1, hF⟩ := am_bd hF
  refine am_go.call hcd_mo_readCommon rfl rfl rfl rfl (am_le8 rfl) (am_ev.le (by decide) (tz_mo_open (c := c) (t := t) hq1)) ?_
  refine am_go.blk hcd_mo_readCommon 5 (g := (19, [some (.ref 16), some (.int q1.1), none, none, none, none, none, none, none, none], [.long (1 : Int64), .int (1 : Int32), .int (2 : Int32), .ref 16], zz_hM c q1.2 t, true)) rfl ?_
  obtain ⟨q2, hq2, hF⟩ := am_bd hF
  refine am_go.call hcd_mo_readCommon rfl rfl rfl rfl (am_le8 rfl) (am_ev.le (by decide) (tz_mo_exact (c := c) (t := t) hq2)) ?_
  refine am_go.blk hcd_mo_readCommon 6 (g := (30, [some (.ref 16), some (.int q1.1), none, none, none, none, none, none, none, none], [.long (64 : Int64), .long (0 : Int64), .int (1 : Int32), .int (4 : Int32), .ref 16, .ref 16], zz_hM c q2 t, true)) rfl ?_
  obtain ⟨q3, hq3, hF⟩ := am_bd hF
  refine am_go.call hcd_mo_readCommon rfl rfl rfl rfl (am_le8 rfl) (am_ev.le (by decide) (tz_mo_ask (c := c) (t := t) hq3)) ?_
  refine am_go.blk hcd_mo_readCommon 8 (g := (45, [some (.ref 16), some (.int q1.1), none, none, none, none, none, none, none, none], [.long (16 : Int64), .long (1 : Int64), .int (1 : Int32), .int (2 : Int32), .ref 16, .ref 16], zz_hM c (zz_i q3.2 10 (Int64.toInt32 q3.1)) t, true)) rfl ?_
  obtain ⟨q4, hq4, hF⟩ := am_bd hF
  refine am_go.call hcd_mo_readCommon rfl rfl rfl rfl (am_le8 rfl) (am_ev.le (by decide) (tz_mo_ask (c := c) (t := t) hq4)) ?_
  refine am_go.blk hcd_mo_readCommon 7 (g := (61, [some (.ref 16), some (.int q1.1), none, none, none, none, none, none, none, none], [.long (16400 : Int64), .long (16383 : Int64), .int (1 : Int32), .int (2 : Int32), .ref 16], zz_hM c (zz_i q4.2 14 (Int64.toInt32 q4.1)) t, true)) rfl ?_
  obtain ⟨q5, hq5, hF⟩ := am_bd hF
  refine am_go.call hcd_mo_readCommon rfl rfl rfl rfl (am_le8 rfl) (am_ev.le (by decide) (tz_mo_ask (c := c) (t := t) hq5)) ?_
  refine am_go.blk hcd_mo_readCommon 7 (g := (bif decide ((q5.2.1 8) = 0) then 81 else 77, [some (.ref 16), some (.int q1.1), some (.int ((Int64.toInt32 q5.1) - (16383 : Int32))), none, none, none, none, none, none, none], [], zz_hM c q5.2 t, true)) rfl ?_
  refine am_go.br (fun hP => ?_) (fun hP => ?_)
  · replace hF := (if_pos hP).symm.trans hF
    refine am_go.blk hcd_mo_readCommon 5 (g := (88, [some (.ref 16), some (.int q1.1), some (.int ((Int64.toInt32 q5.1) - (16383 : Int32))), none, none, none, none, none, none, none], [.int (1 : Int32), .int (4 : Int32), .int (q5.2.1 7), .ref 16], zz_hM c q5.2 t, true)) rfl ?_
    obtain ⟨q6, hq6, hF⟩ := am_bd hF
    refine am_go.call hcd_mo_readCommon rfl rfl rfl rfl (am_le8 rfl) (am_ev.le (by decide) (tz_mo_peek (c := c) (t := t) hq6)) ?_
    exact tz_mo_readCommon_91  hF
  · replace hF := (if_neg hP).symm.trans hF
    refine am_go.blk hcd_mo_readCommon 2 (g := (91, [some (.ref 16), some (.int q1.1), some (.int ((Int64.toInt32 q5.1) - (16383 : Int32))), none, none, none, none, none, none, none], [.long (0 : Int64)], zz_hM c q5.2 t, true)) rfl ?_
    exact tz_mo_readCommon_91  hF
theorem hcd_mo_signed : am_code 143 = am_c_mo_signed := rfl
def fz_mo_signed (x0 : Int64) (x2 : Int32) : Option (Int32) :=
  if ¬ (lg_cmp (x0 >>> (Int32.toInt64 (x2 - (1 : Int32)) &&& 63)) (1 : Int64)) = 0 then
    some (Int64.toInt32 x0)
  else
  some (Int64.toInt32 (x0 - ((1 : Int64) <<< (Int32.toInt64 x2 &&& 63))))
theorem tz_mo_signed {sc : am_S} {h : am_H} {x0 : Int64} {x2 : Int32} {r : Int32} (hF : fz_mo_signed x0 x2 = some r) : am_ev sc 1 143 [.long x0, .int x2] (h) ((.inl (some (.int r)), h, false) : am_R) := by
  unfold fz_mo_signed at hF
  refine am_ev.of false rfl ?_
  show am_go sc _ _ _ _ (0, [some (.long x0), none, some (.int x2)], [], h, false) _
  refine am_go.blk hcd_mo_signed 8 (g := (bif decide (¬ (lg_cmp (x0 >>> (Int32.toInt64 (x2 - (1 : Int32)) &&& 63)) (1 : Int64)) = 0) then 18 else 10, [some (.long x0), none, some (.int x2)], [], h, false)) rfl ?_
  refine am_go.br (fun hP => ?_) (fun hP => ?_)
  · replace hF := (if_pos hP).symm.trans hF
    refine am_go.blk hcd_mo_signed 2 (g := (20, [some (.long x0), none, some (.int x2)], [.int (Int64.toInt32 x0)], h, false)) rfl ?_
    cases hF
    exact am_go.ret hcd_mo_signed rfl rfl ⟨rfl, rfl, (fun _ => rfl), Or.inl rfl, rfl⟩
  · replace hF := (if_neg hP).symm.trans hF
    refine am_go.blk hcd_mo_signed 7 (g := (20, [some (.long x0), none, some (.int x2)], [.int (Int64.toInt32 (x0 - ((1 : Int64) <<< (Int32.toInt64 x2 &&& 63))))], h, false)) rfl ?_
    cases hF
    exact am_go.ret hcd_mo_signed rfl rfl ⟨rfl, rfl, (fun _ => rfl), Or.inl rfl, rfl⟩
theorem hcd_mo_pad : am_code 139 = am_c_mo_pad := rfl
def fz_mo_pad (s : am_Z) (x1 : Int32) : Option (am_Z) :=
  if ¬ (x1 - x1 / (2 : Int32) * (2 : Int32)) = (1 : Int32) then
    some s
  else
  (fz_mo_exact s (1 : Int32) (0 : Int32) (0 : Int64)).bind fun q1 =>
  some q1
theorem tz_mo_pad {sc : am_S} {c : am_Z} {t : am_H} {s : am_Z} {x1 : Int32} {r : am_Z} (hF : fz_mo_pad s x1 = some r) : am_ev sc 4 139 [.ref 16, .int x1] (zz_hM c s t) ((.inl (none), zz_hM c r t, true) : am_R) := by
  unfold fz_mo_pad at hF
  refine am_ev.of true rfl ?_
  show am_go sc _ _ _ _ (0, [some (.ref 16), some (.int x1)], [], zz_hM c s t, true) _
  refine am_go.blk hcd_mo_pad 2 (g := (2, [some (.ref 16), some (.int x1)], [.int (2 : Int32), .int x1], zz_hM c s t, true)) rfl ?_
  refine am_go.irm hcd_mo_pad rfl (by decide) ?_
  refine am_go.blk hcd_mo_pad 2 (g := (bif decide (¬ (x1 - x1 / (2 : Int32) * (2 : Int32)) = (1 : Int32)) then 14 else 7, [some (.ref 16), some (.int x1)], [], zz_hM c s t, true)) rfl ?_
  refine am_go.br (fun hP => ?_) (fun hP => ?_)
  · replace hF := (if_pos hP).symm.trans hF
    cases hF
    exact am_go.ret hcd_mo_pad rfl rfl ⟨rfl, rfl, (fun h => by cases h), rfl, rfl⟩
  · replace hF := (if_neg hP).symm.trans hF
    refine am_go.blk hcd_mo_pad 4 (g := (11, [some (.ref 16), some (.int x1)], [.long (0 : Int64), .int (0 : Int32), .int (1 : Int32), .ref 16], zz_hM c s t, true)) rfl ?_
    obtain ⟨q1, hq1, hF⟩ := am_bd hF
    refine am_go.call hcd_mo_pad rfl rfl rfl rfl (am_le8 rfl) (am_ev.le (by decide) (tz_mo_exact (c := c) (t := t) hq1)) ?_
    cases hF
    exact am_go.ret hcd_mo_pad rfl rfl ⟨rfl, rfl, (fun h => by cases h), rfl, rfl⟩
theorem hcd_mo_readOtherData : am_code 150 = am_c_mo_readOtherData := rfl
def fz_mo_readOtherData_162  (x3 : Int32) (s : am_Z) : Option (am_Z) :=
  (fz_mo_pad s x3).bind fun q1 =>
  some q1
set_option maxRecDepth 20000 in
theorem tz_mo_readOtherData_162 {sc : am_S} {c : am_Z} {t : am_H} {h0 : am_H}   {x3 : Int32} {s : am_Z} {r : am_Z} (hF : fz_mo_readOtherData_162 x3 s = some r) : am_go sc 5 (am_ev sc 4) 150 h0 (162, [some (.ref 16), none, none, some (.int x3), none, none, none, none], [], zz_hM c s t, true) ((.inl (none), zz_hM c r t, true) : am_R) := by
  unfold fz_mo_readOtherData_162 at hF
  refine am_go.blk hcd_mo_readOtherData 2 (g := (164, [some (.ref 16), none, none, some (.int x3), none, none, none, none], [.int x3, .ref 16], zz_hM c s t, true)) rfl ?_
  obtain ⟨q1, hq1, hF⟩ := am_bd hF
  refine am_go.call hcd_mo_readOtherData rfl rfl rfl rfl (am_le8 rfl) (am_ev.le (by decide) (tz_mo_pad (c := c) (t := t) hq1)) ?_
  cases hF
  exact am_go.ret hcd_mo_readOtherData rfl rfl ⟨rfl, rfl, (fun h => by cases h), rfl, rfl⟩
def fz_mo_readOtherData_155 (K54 : Int32 → Int32 → Int32 → am_Z → Option (am_Z)) (x1 : Int32) (x3 : Int32) (x4 : Int32) (y0 : Int32) (y1 : Int32) (s : am_Z) : Option (am_Z) :=
  if y1 < 0 ∨ 64 ≤ Int32.toNatClampNeg y1 then none else
  K54 x1 x3 (x4 + (1 : Int32)) (zz_r s 2 (upd (s.2.2 2) (Int32.toNatClampNeg y1) y0))
set_option maxRecDepth 20000 in
theorem tz_mo_readOtherData_155 {sc : am_S} {c : am_Z} {t : am_H} {h0 : am_H} {K54 : Int32 → Int32 → Int32 → am_Z → Option (am_Z)} (hK54 : ∀ (x1 : Int32) (x3 : Int32) (x4 : Int32) (s : am_Z) (r : am_Z), K54 x1 x3 x4 s = some r → am_go sc 5 (am_ev sc 4) 150 h0 (54, [some (.ref 16), some (.int x1), none, some (.int x3), some (.int x4), none, none, none], [], zz_hM c s t, true) ((.inl (none), zz_hM c r t, true) : am_R)) {x1 : Int32} {x3 : Int32} {x4 : Int32} {y0 : Int32} {y1 : Int32} {s : am_Z} {r : am_Z} (hF : fz_mo_readOtherData_155 K54 x1 x3 x4 y0 y1 s = some r) : am_go sc 5 (am_ev sc 4) 150 h0 (155, [some (.ref 16), some (.int x1), none, some (.int x3), some (.int x4), none, none, none], [.int y0, .int y1, .ref 19], zz_hM c s t, true) ((.inl (none), zz_hM c r t, true) : am_R) := by
  unfold fz_mo_readOtherData_155 at hF
  obtain ⟨hi1, hF⟩ := am_ng hF
  refine am_go.iast hcd_mo_readOtherData rfl rfl hi1 ?_
  refine am_go.blk hcd_mo_readOtherData 2 (g := (54, [some (.ref 16), some (.int x1), none, some (.int x3), some (.int (x4 + (1 : Int32))), none, none, none], [], zz_hM c (zz_r s 2 (upd (s.2.2 2) (Int32.toNatClampNeg y1) y0)) t, true)) rfl ?_
  exact hK54 _ _ _ _ _ hF
def fz_mo_readOtherData_54  : Nat → Int32 → Int32 → Int32 → am_Z → Option (am_Z)
  | 0, _, _, _, _ => none
  | n + 1, x1, x3, x4, s =>
    if (s.1 10) ≤ x4 then
      fz_mo_readOtherData_162 x3 s
    else
    if ¬ (s.1 8) = 0 then
      fz_mo_readOtherData_162 x3 s
    else
    (fz_mo_peek s (s.1 7) x1 (1 : Int32)).bind fun q1 =>
    if (lg_cmp (q1 &&& (((1 : Int64) <<< (Int32.toInt64 (((8 : Int32) * x1) - (s.1 14)) &&& 63)) - (1 : Int64))) (0 : Int64)) = 0 then
      if ¬ x1 = (1 : Int32) then
        (fz_mo_signed q1 (16 : Int32)).bind fun q2 =>
        fz_mo_readOtherData_155 (fz_mo_readOtherData_54 n) x1 x3 x4 q2 x4 (zz_i s 7 ((s.1 7) + x1))
      else
      (fz_mo_signed q1 (8 : Int32)).bind fun q3 =>
      fz_mo_readOtherData_155 (fz_mo_readOtherData_54 n) x1 x3 x4 ((256 : Int32) * q3) x4 (zz_i s 7 ((s.1 7) + x1))
    else
    some (zz_i s 8 (1 : Int32))
set_option maxRecDepth 20000 in
theorem tz_mo_readOtherData_54 {sc : am_S} {c : am_Z} {t : am_H} {h0 : am_H}   : ∀ (n : Nat) (x1 : Int32) (x3 : Int32) (x4 : Int32) (s : am_Z) (r : am_Z), fz_mo_readOtherData_54  n x1 x3 x4 s = some r → am_go sc 5 (am_ev sc 4) 150 h0 (54, [some (.ref 16), some (.int x1), none, some (.int x3), some (.int x4), none, none, none], [], zz_hM c s t, true) ((.inl (none), zz_hM c r t, true) : am_R) := by
  intro n
  induction n with
  | zero => intro x1 x3 x4 s r hF; cases hF
  | succ n ih =>
    intro x1 x3 x4 s r hF
    unfold fz_mo_readOtherData_54 at hF
    refine am_go.blk hcd_mo_readOtherData 4 (g := (bif decide ((s.1 10) ≤ x4) then 162 else 63, [some (.ref 16), some (.int x1), none, some (.int x3), some (.int x4), none, none, none], [], zz_hM c s t, true)) rfl ?_
    refine am_go.br (fun hP => ?_) (fun hP => ?_)
    · replace hF := (if_pos hP).symm.trans hF
      refine am_go.fgl [some (.ref 16), none, none, some (.int x3), none, none, none, none] ⟨rfl, rfl, trivial⟩ ?_
      exact tz_mo_readOtherData_162  hF
    · replace hF := (if_neg hP).symm.trans hF
      refine am_go.blk hcd_mo_readOtherData 3 (g := (bif decide (¬ (s.1 8) = 0) then 162 else 70, [some (.ref 16), some (.int x1), none, some (.int x3), some (.int x4), none, none, none], [], zz_hM c s t, true)) rfl ?_
      refine am_go.br (fun hP => ?_) (fun hP => ?_)
      · replace hF := (if_pos hP).symm.trans hF
        refine am_go.fgl [some (.ref 16), none, none, some (.int x3), none, none, none, none] ⟨rfl, rfl, trivial⟩ ?_
        exact tz_mo_readOtherData_162  hF
      · replace hF := (if_neg hP).symm.trans hF
        refine am_go.blk hcd_mo_readOtherData 5 (g := (77, [some (.ref 16), some (.int x1), none, some (.int x3), some (.int x4), none, none, none], [.int (1 : Int32), .int x1, .int (s.1 7), .ref 16], zz_hM c s t, true)) rfl ?_
        obtain ⟨q1, hq1, hF⟩ := am_bd hF
        refine am_go.call hcd_mo_readOtherData rfl rfl rfl rfl (am_le8 rfl) (am_ev.le (by decide) (tz_mo_peek (c := c) (t := t) hq1)) ?_
        refine am_go.blk hcd_mo_readOtherData 18 (g := (bif decide ((lg_cmp (q1 &&& (((1 : Int64) <<< (Int32.toInt64 (((8 : Int32) * x1) - (s.1 14)) &&& 63)) - (1 : Int64))) (0 : Int64)) = 0) then 113 else 107, [some (.ref 16), some (.int x1), none, some (.int x3), some (.int x4), some (.long q1), none, some (.int (((8 : Int32) * x1) - (s.1 14)))], [], zz_hM c s t, true)) rfl ?_
        refine am_go.br (fun hP => ?_) (fun hP => ?_)
        · replace hF := (if_pos hP).symm.trans hF
          refine am_go.blk hcd_mo_readOtherData 12 (g := (bif decide (¬ x1 = (1 : Int32)) then 148 else 134, [some (.ref 16), some (.int x1), none, some (.int x3), some (.int x4), some (.long q1), none, some (.int (((8 : Int32) * x1) - (s.1 14)))], [.int x4, .ref 19], zz_hM c (zz_i s 7 ((s.1 7) + x1)) t, true)) rfl ?_
          refine am_go.br (fun hP => ?_) (fun hP => ?_)
          · replace hF := (if_pos hP).symm.trans hF
            refine am_go.blk hcd_mo_readOtherData 2 (g := (152, [some (.ref 16), some (.int x1), none, some (.int x3), some (.int x4), some (.long q1), none, some (.int (((8 : Int32) * x1) - (s.1 14)))], [.int (16 : Int32), .long q1, .int x4, .ref 19], zz_hM c (zz_i s 7 ((s.1 7) + x1)) t, true)) rfl ?_
            obtain ⟨q2, hq2, hF⟩ := am_bd hF
            refine am_go.call hcd_mo_readOtherData rfl rfl rfl rfl (am_le8 rfl) (am_ev.le (by decide) (tz_mo_signed (h := zz_hM c (zz_i s 7 ((s.1 7) + x1)) t) hq2)) ?_
            refine am_go.fgl [some (.ref 16), some (.int x1), none, some (.int x3), some (.int x4), none, none, none] ⟨rfl, rfl, rfl, rfl, trivial⟩ ?_
            exact tz_mo_readOtherData_155 (hK54 := ih) hF
          · replace hF := (if_neg hP).symm.trans hF
            refine am_go.blk hcd_mo_readOtherData 3 (g := (141, [some (.ref 16), some (.int x1), none, some (.int x3), some (.int x4), some (.long q1), none, some (.int (((8 : Int32) * x1) - (s.1 14)))], [.int (8 : Int32), .long q1, .int (256 : Int32), .int x4, .ref 19], zz_hM c (zz_i s 7 ((s.1 7) + x1)) t, true)) rfl ?_
            obtain ⟨q3, hq3, hF⟩ := am_bd hF
            refine am_go.call hcd_mo_readOtherData rfl rfl rfl rfl (am_le8 rfl) (am_ev.le (by decide) (tz_mo_signed (h := zz_hM c (zz_i s 7 ((s.1 7) + x1)) t) hq3)) ?_
            refine am_go.blk hcd_mo_readOtherData 2 (g := (155, [some (.ref 16), some (.int x1), none, some (.int x3), some (.int x4), some (.long q1), none, some (.int (((8 : Int32) * x1) - (s.1 14)))], [.int ((256 : Int32) * q3), .int x4, .ref 19], zz_hM c (zz_i s 7 ((s.1 7) + x1)) t, true)) rfl ?_
            refine am_go.fgl [some (.ref 16), some (.int x1), none, some (.int x3), some (.int x4), none, none, none] ⟨rfl, rfl, rfl, rfl, trivial⟩ ?_
            exact tz_mo_readOtherData_155 (hK54 := ih) hF
        · replace hF := (if_neg hP).symm.trans hF
          refine am_go.blk hcd_mo_readOtherData 3 (g := (112, [some (.ref 16), some (.int x1), none, some (.int x3), some (.int x4), some (.long q1), none, some (.int (((8 : Int32) * x1) - (s.1 14)))], [], zz_hM c (zz_i s 8 (1 : Int32)) t, true)) rfl ?_
          cases hF
          exact am_go.ret hcd_mo_readOtherData rfl rfl ⟨rfl, rfl, (fun h => by cases h), rfl, rfl⟩
def fz_mo_readOtherData_14  (y0 : Int32) (s : am_Z) : Option (am_Z) :=
  (fz_mo_open s (1 : Int32) (Int32.toInt64 ((8 : Int32) + (y0 * (s.1 10)))) (Int32.toInt64 ((8 : Int32) + (y0 * (s.1 10)))) (Int32.toInt64 ((8 : Int32) + (y0 * (s.1 10))))).bind fun q1 =>
  (fz_mo_exact q1.2 (4 : Int32) (1 : Int32) (0 : Int64)).bind fun q2 =>
  (fz_mo_exact q2 (4 : Int32) (1 : Int32) (0 : Int64)).bind fun q3 =>
  fz_mo_readOtherData_54 fz_fu y0 q1.1 (0 : Int32) q3
set_option maxRecDepth 20000 in
theorem tz_mo_readOtherData_14 {sc : am_S} {c : am_Z} {t : am_H} {h0 : am_H}   {y0 : Int32} {s : am_Z} {r : am_Z} (hF : fz_mo_readOtherData_14 y0 s = some r) : am_go sc 5 (am_ev sc 4) 150 h0 (14, [some (.ref 16), none, none, none, none, none, none, none], [.int y0], zz_hM c s t, true) ((.inl (none), zz_hM c r t, true) : am_R) := by
  unfold fz_mo_readOtherData_14 at hF
  refine am_go.blk hcd_mo_readOtherData 16 (g := (33, [some (.ref 16), some (.int y0), some (.int ((8 : Int32) + (y0 * (s.1 10)))), none, none, none, none, none], [.long (Int32.toInt64 ((8 : Int32) + (y0 * (s.1 10)))), .long (Int32.toInt64 ((8 : Int32) + (y0 * (s.1 10)))), .long (Int32.toInt64 ((8 : Int32) + (y0 * (s.1 10)))), .int (1 : Int32), .ref 16], zz_hM c s t, true)) rfl ?_
  obtain ⟨q1, hq1, hF⟩ := am_bd hF
  refine am_go.call hcd_mo_readOtherData rfl rfl rfl rfl (am_le8 rfl) (am_ev.le (by decide) (tz_mo_open (c := c) (t := t) hq1)) ?_
  refine am_go.blk hcd_mo_readOtherData 5 (g := (41, [some (.ref 16), some (.int y0), some (.int ((8 : Int32) + (y0 * (s.1 10)))), some (.int q1.1), none, none, none, none], [.long (0 : Int64), .int (1 : Int32), .int (4 : Int32), .ref 16], zz_hM c q1.2 t, true)) rfl ?_
  obtain ⟨q2, hq2, hF⟩ := am_bd hF
  refine am_go.call hcd_mo_readOtherData rfl rfl rfl rfl (am_le8 rfl) (am_ev.le (by decide) (tz_mo_exact (c := c) (t := t) hq2)) ?_
  refine am_go.blk hcd_mo_readOtherData 4 (g := (48, [some (.ref 16), some (.int y0), some (.int ((8 : Int32) + (y0 * (s.1 10)))), some (.int q1.1), none, none, none, none], [.long (0 : Int64), .int (1 : Int32), .int (4 : Int32), .ref 16], zz_hM c q2 t, true)) rfl ?_
  obtain ⟨q3, hq3, hF⟩ := am_bd hF
  refine am_go.call hcd_mo_readOtherData rfl rfl rfl rfl (am_le8 rfl) (am_ev.le (by decide) (tz_mo_exact (c := c) (t := t) hq3)) ?_
  refine am_go.blk hcd_mo_readOtherData 2 (g := (54, [some (.ref 16), some (.int y0), some (.int ((8 : Int32) + (y0 * (s.1 10)))), some (.int q1.1), some (.int (0 : Int32)), none, none, none], [], zz_hM c q3 t, true)) rfl ?_
  refine am_go.fgl [some (.ref 16), some (.int y0), none, some (.int q1.1), some (.int (0 : Int32)), none, none, none] ⟨rfl, rfl, rfl, rfl, trivial⟩ ?_
  exact tz_mo_readOtherData_54  fz_fu _ _ _ _ _ hF
def fz_mo_readOtherData (s : am_Z) : Option (am_Z) :=
  if (s.1 14) ≤ (8 : Int32) then
    fz_mo_readOtherData_14 (1 : Int32) s
  else
  fz_mo_readOtherData_14 (2 : Int32) s
set_option maxRecDepth 20000 in
theorem tz_mo_readOtherData {sc : am_S} {c : am_Z} {t : am_H} {s : am_Z} {r : am_Z} (hF : fz_mo_readOtherData s = some r) : am_ev sc 5 150 [.ref 16] (zz_hM c s t) ((.inl (none), zz_hM c r t, true) : am_R) := by
  unfold fz_mo_readOtherData at hF
  refine am_ev.of true rfl ?_
  show am_go sc _ _ _ _ (0, [some (.ref 16), none, none, none, none, none, none, none], [], zz_hM c s t, true) _
  refine am_go.blk hcd_mo_readOtherData 4 (g := (bif decide ((s.1 14) ≤ (8 : Int32)) then 13 else 9, [some (.ref 16), none, none, none, none, none, none, none], [], zz_hM c s t, true)) rfl ?_
  refine am_go.br (fun hP => ?_) (fun hP => ?_)
  · replace hF := (if_pos hP).symm.trans hF
    refine am_go.blk hcd_mo_readOtherData 1 (g := (14, [some (.ref 16), none, none, none, none, none, none, none], [.int (1 : Int32)], zz_hM c s t, true)) rfl ?_
    exact tz_mo_readOtherData_14  hF
  · replace hF := (if_neg hP).symm.trans hF
    refine am_go.blk hcd_mo_readOtherData 2 (g := (14, [some (.ref 16), none, none, none, none, none, none, none], [.int (2 : Int32)], zz_hM c s t, true)) rfl ?_
    exact tz_mo_readOtherData_14  hF
theorem hcd_mo_passOver : am_code 138 = am_c_mo_passOver := rfl
def fz_mo_passOver (s : am_Z) (x1 : Int32) : Option (am_Z) :=
  (fz_mo_peek s (s.1 7) (4 : Int32) x1).bind fun q1 =>
  (fz_mo_open s x1 q1 q1 q1).bind fun q2 =>
  (fz_mo_pad (zz_i q2.2 7 ((q2.2.1 7) + q2.1)) q2.1).bind fun q3 =>
  some q3
theorem tz_mo_passOver {sc : am_S} {c : am_Z} {t : am_H} {s : am_Z} {x1 : Int32} {r : am_Z} (hF : fz_mo_passOver s x1 = some r) : am_ev sc 5 138 [.ref 16, .int x1] (zz_hM c s t) ((.inl (none), zz_hM c r t, true) : am_R) := by
  unfold fz_mo_passOver at hF
  refine am_ev.of true rfl ?_
  show am_go sc _ _ _ _ (0, [some (.ref 16), some (.int x1), none, none, none], [], zz_hM c s t, true) _
  refine am_go.blk hcd_mo_passOver 5 (g := (7, [some (.ref 16), some (.int x1), none, none, none], [.int x1, .int (4 : Int32), .int (s.1 7), .ref 16], zz_hM c s t, true)) rfl ?_
  obtain ⟨q1, hq1, hF⟩ := am_bd hF
  refine am_go.call hcd_mo_passOver rfl rfl rfl rfl (am_le8 rfl) (am_ev.le (by decide) (tz_mo_peek (c := c) (t := t) hq1)) ?_
  refine am_go.blk hcd_mo_passOver 6 (g := (16, [some (.ref 16), some (.int x1), some (.long q1), none, none], [.long q1, .long q1, .long q1, .int x1, .ref 16], zz_hM c s t, true)) rfl ?_
  obtain ⟨q2, hq2, hF⟩ := am_bd hF
  refine am_go.call hcd_mo_passOver rfl rfl rfl rfl (am_le8 rfl) (am_ev.le (by decide) (tz_mo_open (c := c) (t := t) hq2)) ?_
  refine am_go.blk hcd_mo_passOver 9 (g := (35, [some (.ref 16), some (.int x1), some (.long q1), none, some (.int q2.1)], [.int q2.1, .ref 16], zz_hM c (zz_i q2.2 7 ((q2.2.1 7) + q2.1)) t, true)) rfl ?_
  obtain ⟨q3, hq3, hF⟩ := am_bd hF
  refine am_go.call hcd_mo_passOver rfl rfl rfl rfl (am_le8 rfl) (am_ev.le (by decide) (tz_mo_pad (c := c) (t := t) hq3)) ?_
  cases hF
  exact am_go.ret hcd_mo_passOver rfl rfl ⟨rfl, rfl, (fun h => by cases h), rfl, rfl⟩
theorem hcd_mo_readOther : am_code 151 = am_c_mo_readOther := rfl
def fz_mo_readOther_67  (s : am_Z) : Option (am_Z) :=
  some (zz_i s 8 (1 : Int32))
theorem tz_mo_readOther_67 {sc : am_S} {c : am_Z} {t : am_H} {h0 : am_H}   {s : am_Z} {r : am_Z} (hF : fz_mo_readOther_67 s = some r) : am_go sc 6 (am_ev sc 5) 151 h0 (67, [some (.ref 16), none, none, none], [], zz_hM c s t, true) ((.inl (none), zz_hM c r t, true) : am_R) := by
  unfold fz_mo_readOther_67 at hF
  refine am_go.blk hcd_mo_readOther 3 (g := (72, [some (.ref 16), none, none, none], [], zz_hM c (zz_i s 8 (1 : Int32)) t, true)) rfl ?_
  cases hF
  exact am_go.ret hcd_mo_readOther rfl rfl ⟨rfl, rfl, (fun h => by cases h), rfl, rfl⟩
def fz_mo_readOther_120 (K2 : Int32 → am_Z → Option (am_Z)) (x1 : Int32) (s : am_Z) : Option (am_Z) :=
  K2 x1 s
theorem tz_mo_readOther_120 {sc : am_S} {c : am_Z} {t : am_H} {h0 : am_H} {K2 : Int32 → am_Z → Option (am_Z)} (hK2 : ∀ (x1 : Int32) (s : am_Z) (r : am_Z), K2 x1 s = some r → am_go sc 6 (am_ev sc 5) 151 h0 (2, [some (.ref 16), some (.int x1), none, none], [], zz_hM c s t, true) ((.inl (none), zz_hM c r t, true) : am_R)) {x1 : Int32} {s : am_Z} {r : am_Z} (hF : fz_mo_readOther_120 K2 x1 s = some r) : am_go sc 6 (am_ev sc 5) 151 h0 (120, [some (.ref 16), some (.int x1), none, none], [], zz_hM c s t, true) ((.inl (none), zz_hM c r t, true) : am_R) := by
  unfold fz_mo_readOther_120 at hF
  refine am_go.blk hcd_mo_readOther 1 (g := (2, [some (.ref 16), some (.int x1), none, none], [], zz_hM c s t, true)) rfl ?_
  exact hK2 _ _ _ hF
def fz_mo_readOther_73 (K2 : Int32 → am_Z → Option (am_Z)) (x1 : Int32) (x2 : Int64) (s : am_Z) : Option (am_Z) :=
  if ¬ (lg_cmp x2 (1129270605 : Int64)) = 0 then
    if ¬ (lg_cmp x2 (1397968452 : Int64)) = 0 then
      (fz_mo_passOver (zz_i s 7 ((s.1 7) + (4 : Int32))) (1 : Int32)).bind fun q1 =>
      fz_mo_readOther_120 K2 x1 q1
    else
    (fz_mo_readOtherData (zz_i s 7 ((s.1 7) + (4 : Int32)))).bind fun q2 =>
    fz_mo_readOther_120 K2 (1 : Int32) q2
  else
  (fz_mo_readCommon (zz_i s 7 ((s.1 7) + (4 : Int32)))).bind fun q3 =>
  fz_mo_readOther_120 K2 x1 q3
theorem tz_mo_readOther_73 {sc : am_S} {c : am_Z} {t : am_H} {h0 : am_H} {K2 : Int32 → am_Z → Option (am_Z)} (hK2 : ∀ (x1 : Int32) (s : am_Z) (r : am_Z), K2 x1 s = some r → am_go sc 6 (am_ev sc 5) 151 h0 (2, [some (.ref 16), some (.int x1), none, none], [], zz_hM c s t, true) ((.inl (none), zz_hM c r t, true) : am_R)) {x1 : Int32} {x2 : Int64} {s : am_Z} {r : am_Z} (hF : fz_mo_readOther_73 K2 x1 x2 s = some r) : am_go sc 6 (am_ev sc 5) 151 h0 (73, [some (.ref 16), some (.int x1), some (.long x2), none], [], zz_hM c s t, true) ((.inl (none), zz_hM c r t, true) : am_R) := by
  unfold fz_mo_readOther_73 at hF
  refine am_go.blk hcd_mo_readOther 10 (g := (bif decide (¬ (lg_cmp x2 (1129270605 : Int64)) = 0) then 98 else 91, [some (.ref 16), some (.int x1), some (.long x2), none], [], zz_hM c (zz_i s 7 ((s.1 7) + (4 : Int32))) t, true)) rfl ?_
  refine am_go.br (fun hP => ?_) (fun hP => ?_)
  · replace hF := (if_pos hP).symm.trans hF
    refine am_go.blk hcd_mo_readOther 4 (g := (bif decide (¬ (lg_cmp x2 (1397968452 : Int64)) = 0) then 115 else 106, [some (.ref 16), some (.int x1), some (.long x2), none], [], zz_hM c (zz_i s 7 ((s.1 7) + (4 : Int32))) t, true)) rfl ?_
    refine am_go.br (fun hP => ?_) (fun hP => ?_)
    · replace hF := (if_pos hP).symm.trans hF
      refine am_go.blk hcd_mo_readOther 2 (g := (117, [some (.ref 16), some (.int x1), some (.long x2), none], [.int (1 : Int32), .ref 16], zz_hM c (zz_i s 7 ((s.1 7) + (4 : Int32))) t, true)) rfl ?_
      obtain ⟨q1, hq1, hF⟩ := am_bd hF
      refine am_go.call hcd_mo_readOther rfl rfl rfl rfl (am_le8 rfl) (am_ev.le (by decide) (tz_mo_passOver (c := c) (t := t) hq1)) ?_
      refine am_go.fgl [some (.ref 16), some (.int x1), none, none] ⟨rfl, rfl, trivial⟩ ?_
      exact tz_mo_readOther_120 (hK2 := hK2) hF
    · replace hF := (if_neg hP).symm.trans hF
      refine am_go.blk hcd_mo_readOther 1 (g := (107, [some (.ref 16), some (.int x1), some (.long x2), none], [.ref 16], zz_hM c (zz_i s 7 ((s.1 7) + (4 : Int32))) t, true)) rfl ?_
      obtain ⟨q2, hq2, hF⟩ := am_bd hF
      refine am_go.call hcd_mo_readOther rfl rfl rfl rfl (am_le8 rfl) (am_ev.le (by decide) (tz_mo_readOtherData (c := c) (t := t) hq2)) ?_
      refine am_go.blk hcd_mo_readOther 3 (g := (120, [some (.ref 16), some (.int (1 : Int32)), some (.long x2), none], [], zz_hM c q2 t, true)) rfl ?_
      refine am_go.fgl [some (.ref 16), some (.int (1 : Int32)), none, none] ⟨rfl, rfl, trivial⟩ ?_
      exact tz_mo_readOther_120 (hK2 := hK2) hF
  · replace hF := (if_neg hP).symm.trans hF
    refine am_go.blk hcd_mo_readOther 1 (g := (92, [some (.ref 16), some (.int x1), some (.long x2), none], [.ref 16], zz_hM c (zz_i s 7 ((s.1 7) + (4 : Int32))) t, true)) rfl ?_
    obtain ⟨q3, hq3, hF⟩ := am_bd hF
    refine am_go.call hcd_mo_readOther rfl rfl rfl rfl (am_le8 rfl) (am_ev.le (by decide) (tz_mo_readCommon (c := c) (t := t) hq3)) ?_
    refine am_go.blk hcd_mo_readOther 1 (g := (120, [some (.ref 16), some (.int x1), some (.long x2), none], [], zz_hM c q3 t, true)) rfl ?_
    refine am_go.fgl [some (.ref 16), some (.int x1), none, none] ⟨rfl, rfl, trivial⟩ ?_
    exact tz_mo_readOther_120 (hK2 := hK2) hF
def fz_mo_readOther_52 (K2 : Int32 → am_Z → Option (am_Z)) (x1 : Int32) (x2 : Int64) (s : am_Z) : Option (am_Z) :=
  if ¬ (lg_cmp x2 (1397968452 : Int64)) = 0 then
    fz_mo_readOther_73 K2 x1 x2 s
  else
  if ¬ (s.1 15) = 0 then
    fz_mo_readOther_73 K2 x1 x2 s
  else
  fz_mo_readOther_67 s
theorem tz_mo_readOther_52 {sc : am_S} {c : am_Z} {t : am_H} {h0 : am_H} {K2 : Int32 → am_Z → Option (am_Z)} (hK2 : ∀ (x1 : Int32) (s : am_Z) (r : am_Z), K2 x1 s = some r → am_go sc 6 (am_ev sc 5) 151 h0 (2, [some (.ref 16), some (.int x1), none, none], [], zz_hM c s t, true) ((.inl (none), zz_hM c r t, true) : am_R)) {x1 : Int32} {x2 : Int64} {s : am_Z} {r : am_Z} (hF : fz_mo_readOther_52 K2 x1 x2 s = some r) : am_go sc 6 (am_ev sc 5) 151 h0 (52, [some (.ref 16), some (.int x1), some (.long x2), none], [], zz_hM c s t, true) ((.inl (none), zz_hM c r t, true) : am_R) := by
  unfold fz_mo_readOther_52 at hF
  refine am_go.blk hcd_mo_readOther 4 (g := (bif decide (¬ (lg_cmp x2 (1397968452 : Int64)) = 0) then 73 else 60, [some (.ref 16), some (.int x1), some (.long x2), none], [], zz_hM c s t, true)) rfl ?_
  refine am_go.br (fun hP => ?_) (fun hP => ?_)
  · replace hF := (if_pos hP).symm.trans hF
    exact tz_mo_readOther_73 (hK2 := hK2) hF
  · replace hF := (if_neg hP).symm.trans hF
    refine am_go.blk hcd_mo_readOther 3 (g := (bif decide (¬ (s.1 15) = 0) then 73 else 67, [some (.ref 16), some (.int x1), some (.long x2), none], [], zz_hM c s t, true)) rfl ?_
    refine am_go.br (fun hP => ?_) (fun hP => ?_)
    · replace hF := (if_pos hP).symm.trans hF
      exact tz_mo_readOther_73 (hK2 := hK2) hF
    · replace hF := (if_neg hP).symm.trans hF
      refine am_go.fgl [some (.ref 16), none, none, none] ⟨rfl, trivial⟩ ?_
      exact tz_mo_readOther_67  hF
def fz_mo_readOther_2  : Nat → Int32 → am_Z → Option (am_Z)
  | 0, _, _ => none
  | n + 1, x1, s =>
    if ¬ (s.1 8) = 0 then
      some s
    else
    if ¬ x1 = 0 then
      some s
    else
    (fz_mo_peek s (s.1 7) (4 : Int32) (1 : Int32)).bind fun q1 =>
    if (s.1 4) < ((s.1 7) + (4 : Int32)) then
      fz_mo_readOther_67 s
    else
    if ¬ (lg_cmp q1 (1129270605 : Int64)) = 0 then
      fz_mo_readOther_52 (fz_mo_readOther_2 n) x1 q1 s
    else
    if ¬ (s.1 15) = 0 then
      fz_mo_readOther_67 s
    else
    fz_mo_readOther_52 (fz_mo_readOther_2 n) x1 q1 s
theorem tz_mo_readOther_2 {sc : am_S} {c : am_Z} {t : am_H} {h0 : am_H}   : ∀ (n : Nat) (x1 : Int32) (s : am_Z) (r : am_Z), fz_mo_readOther_2  n x1 s = some r → am_go sc 6 (am_ev sc 5) 151 h0 (2, [some (.ref 16), some (.int x1), none, none], [], zz_hM c s t, true) ((.inl (none), zz_hM c r t, true) : am_R) := by
  intro n
  induction n with
  | zero => intro x1 s r hF; cases hF
  | succ n ih =>
    intro x1 s r hF
    unfold fz_mo_readOther_2 at hF
    refine am_go.blk hcd_mo_readOther 3 (g := (bif decide (¬ (s.1 8) = 0) then 123 else 9, [some (.ref 16), some (.int x1), none, none], [], zz_hM c s t, true)) rfl ?_
    refine am_go.br (fun hP => ?_) (fun hP => ?_)
    · replace hF := (if_pos hP).symm.trans hF
      cases hF
      exact am_go.ret hcd_mo_readOther rfl rfl ⟨rfl, rfl, (fun h => by cases h), rfl, rfl⟩
    · replace hF := (if_neg hP).symm.trans hF
      refine am_go.blk hcd_mo_readOther 2 (g := (bif decide (¬ x1 = 0) then 123 else 13, [some (.ref 16), some (.int x1), none, none], [], zz_hM c s t, true)) rfl ?_
      refine am_go.br (fun hP => ?_) (fun hP => ?_)
      · replace hF := (if_pos hP).symm.trans hF
        cases hF
        exact am_go.ret hcd_mo_readOther rfl rfl ⟨rfl, rfl, (fun h => by cases h), rfl, rfl⟩
      · replace hF := (if_neg hP).symm.trans hF
        refine am_go.blk hcd_mo_readOther 5 (g := (20, [some (.ref 16), some (.int x1), none, none], [.int (1 : Int32), .int (4 : Int32), .int (s.1 7), .ref 16], zz_hM c s t, true)) rfl ?_
        obtain ⟨q1, hq1, hF⟩ := am_bd hF
        refine am_go.call hcd_mo_readOther rfl rfl rfl rfl (am_le8 rfl) (am_ev.le (by decide) (tz_mo_peek (c := c) (t := t) hq1)) ?_
        refine am_go.blk hcd_mo_readOther 8 (g := (bif decide ((s.1 4) < ((s.1 7) + (4 : Int32))) then 67 else 37, [some (.ref 16), some (.int x1), some (.long q1), none], [], zz_hM c s t, true)) rfl ?_
        refine am_go.br (fun hP => ?_) (fun hP => ?_)
        · replace hF := (if_pos hP).symm.trans hF
          refine am_go.fgl [some (.ref 16), none, none, none] ⟨rfl, trivial⟩ ?_
          exact tz_mo_readOther_67  hF
        · replace hF := (if_neg hP).symm.trans hF
          refine am_go.blk hcd_mo_readOther 4 (g := (bif decide (¬ (lg_cmp q1 (1129270605 : Int64)) = 0) then 52 else 45, [some (.ref 16), some (.int x1), some (.long q1), none], [], zz_hM c s t, true)) rfl ?_
          refine am_go.br (fun hP => ?_) (fun hP => ?_)
          · replace hF := (if_pos hP).symm.trans hF
            exact tz_mo_readOther_52 (hK2 := ih) hF
          · replace hF := (if_neg hP).symm.trans hF
            refine am_go.blk hcd_mo_readOther 3 (g := (bif decide (¬ (s.1 15) = 0) then 67 else 52, [some (.ref 16), some (.int x1), some (.long q1), none], [], zz_hM c s t, true)) rfl ?_
            refine am_go.br (fun hP => ?_) (fun hP => ?_)
            · replace hF := (if_pos hP).symm.trans hF
              refine am_go.fgl [some (.ref 16), none, none, none] ⟨rfl, trivial⟩ ?_
              exact tz_mo_readOther_67  hF
            · replace hF := (if_neg hP).symm.trans hF
              exact tz_mo_readOther_52 (hK2 := ih) hF
def fz_mo_readOther (s : am_Z) : Option (am_Z) :=
  fz_mo_readOther_2 fz_fu (0 : Int32) s
theorem tz_mo_readOther {sc : am_S} {c : am_Z} {t : am_H} {s : am_Z} {r : am_Z} (hF : fz_mo_readOther s = some r) : am_ev sc 6 151 [.ref 16] (zz_hM c s t) ((.inl (none), zz_hM c r t, true) : am_R) := by
  unfold fz_mo_readOther at hF
  refine am_ev.of true rfl ?_
  show am_go sc _ _ _ _ (0, [some (.ref 16), none, none, none], [], zz_hM c s t, true) _
  refine am_go.blk hcd_mo_readOther 2 (g := (2, [some (.ref 16), some (.int (0 : Int32)), none, none], [], zz_hM c s t, true)) rfl ?_
  exact tz_mo_readOther_2  fz_fu _ _ _ hF
theorem hcd_mo_perBlock : am_code 140 = am_c_mo_perBlock := rfl
def fz_mo_perBlock (s : am_Z) : Option (Int32) :=
  if ¬ (s.1 12) = (17 : Int32) then
    if ¬ (s.1 12) = (2 : Int32) then
      some (1 : Int32)
    else
    some (((2 : Int32) * ((s.1 13) - (7 : Int32))) + (2 : Int32))
  else
  some (((2 : Int32) * ((s.1 13) - (4 : Int32))) + (1 : Int32))
theorem tz_mo_perBlock {sc : am_S} {c : am_Z} {t : am_H} {s : am_Z} {r : Int32} (hF : fz_mo_perBlock s = some r) : am_ev sc 1 140 [.ref 16] (zz_hM c s t) ((.inl (some (.int r)), zz_hM c s t, false) : am_R) := by
  unfold fz_mo_perBlock at hF
  refine am_ev.of false rfl ?_
  show am_go sc _ _ _ _ (0, [some (.ref 16)], [], zz_hM c s t, false) _
  refine am_go.blk hcd_mo_perBlock 4 (g := (bif decide (¬ (s.1 12) = (17 : Int32)) then 22 else 9, [some (.ref 16)], [], zz_hM c s t, false)) rfl ?_
  refine am_go.br (fun hP => ?_) (fun hP => ?_)
  · replace hF := (if_pos hP).symm.trans hF
    refine am_go.blk hcd_mo_perBlock 4 (g := (bif decide (¬ (s.1 12) = (2 : Int32)) then 44 else 30, [some (.ref 16)], [], zz_hM c s t, false)) rfl ?_
    refine am_go.br (fun hP => ?_) (fun hP => ?_)
    · replace hF := (if_pos hP).symm.trans hF
      refine am_go.blk hcd_mo_perBlock 1 (g := (45, [some (.ref 16)], [.int (1 : Int32)], zz_hM c s t, false)) rfl ?_
      cases hF
      exact am_go.ret hcd_mo_perBlock rfl rfl ⟨rfl, rfl, (fun _ => rfl), Or.inl rfl, rfl⟩
    · replace hF := (if_neg hP).symm.trans hF
      refine am_go.blk hcd_mo_perBlock 9 (g := (45, [some (.ref 16)], [.int (((2 : Int32) * ((s.1 13) - (7 : Int32))) + (2 : Int32))], zz_hM c s t, false)) rfl ?_
      cases hF
      exact am_go.ret hcd_mo_perBlock rfl rfl ⟨rfl, rfl, (fun _ => rfl), Or.inl rfl, rfl⟩
  · replace hF := (if_neg hP).symm.trans hF
    refine am_go.blk hcd_mo_perBlock 9 (g := (45, [some (.ref 16)], [.int (((2 : Int32) * ((s.1 13) - (4 : Int32))) + (1 : Int32))], zz_hM c s t, false)) rfl ?_
    cases hF
    exact am_go.ret hcd_mo_perBlock rfl rfl ⟨rfl, rfl, (fun _ => rfl), Or.inl rfl, rfl⟩
theorem hcd_mo_first : am_code 112 = am_c_mo_first := rfl
def fz_mo_first (x0 : Int32) : Option (Int32) :=
  if Int32.toInt x0 < 0 ∨ 5 < Int32.toInt x0 then
    some (392 : Int32)
  else
  if x0 = 0 then
    some (256 : Int32)
  else
  if x0 = 1 then
    some (512 : Int32)
  else
  if x0 = 2 then
    some (0 : Int32)
  else
  if x0 = 3 then
    some (192 : Int32)
  else
  if x0 = 4 then
    some (240 : Int32)
  else
  if x0 = 5 then
    some (460 : Int32)
  else
  none
theorem tz_mo_first {sc : am_S} {h : am_H} {x0 : Int32} {r : Int32} (hF : fz_mo_first x0 = some r) : am_ev sc 1 112 [.int x0] (h) ((.inl (some (.int r)), h, false) : am_R) := by
  unfold fz_mo_first at hF
  refine am_ev.of false rfl ?_
  show am_go sc _ _ _ _ (0, [some (.int x0)], [], h, false) _
  refine am_go.blk hcd_mo_first 1 (g := (1, [some (.int x0)], [.int x0], h, false)) rfl ?_
  by_cases hsw : Int32.toInt x0 < 0 ∨ 5 < Int32.toInt x0
  · replace hF := (if_pos hsw).symm.trans hF
    refine am_go.tsO hcd_mo_first rfl hsw rfl (t := 62) ?_
    refine am_go.blk hcd_mo_first 1 (g := (65, [some (.int x0)], [.int (392 : Int32)], h, false)) rfl ?_
    cases hF
    exact am_go.ret hcd_mo_first rfl rfl ⟨rfl, rfl, (fun _ => rfl), Or.inl rfl, rfl⟩
  replace hF := (if_neg hsw).symm.trans hF
  by_cases hc : x0 = 0
  · replace hF := (if_pos hc).symm.trans hF
    refine am_go.tsI hcd_mo_first rfl hc (by decide) rfl rfl (t := 40) ?_
    refine am_go.blk hcd_mo_first 1 (g := (43, [some (.int x0)], [.int (256 : Int32)], h, false)) rfl ?_
    cases hF
    exact am_go.ret hcd_mo_first rfl rfl ⟨rfl, rfl, (fun _ => rfl), Or.inl rfl, rfl⟩
  replace hF := (if_neg hc).symm.trans hF
  by_cases hc : x0 = 1
  · replace hF := (if_pos hc).symm.trans hF
    refine am_go.tsI hcd_mo_first rfl hc (by decide) rfl rfl (t := 44) ?_
    refine am_go.blk hcd_mo_first 1 (g := (47, [some (.int x0)], [.int (512 : Int32)], h, false)) rfl ?_
    cases hF
    exact am_go.ret hcd_mo_first rfl rfl ⟨rfl, rfl, (fun _ => rfl), Or.inl rfl, rfl⟩
  replace hF := (if_neg hc).symm.trans hF
  by_cases hc : x0 = 2
  · replace hF := (if_pos hc).symm.trans hF
    refine am_go.tsI hcd_mo_first rfl hc (by decide) rfl rfl (t := 48) ?_
    refine am_go.blk hcd_mo_first 1 (g := (49, [some (.int x0)], [.int (0 : Int32)], h, false)) rfl ?_
    cases hF
    exact am_go.ret hcd_mo_first rfl rfl ⟨rfl, rfl, (fun _ => rfl), Or.inl rfl, rfl⟩
  replace hF := (if_neg hc).symm.trans hF
  by_cases hc : x0 = 3
  · replace hF := (if_pos hc).symm.trans hF
    refine am_go.tsI hcd_mo_first rfl hc (by decide) rfl rfl (t := 50) ?_
    refine am_go.blk hcd_mo_first 1 (g := (53, [some (.int x0)], [.int (192 : Int32)], h, false)) rfl ?_
    cases hF
    exact am_go.ret hcd_mo_first rfl rfl ⟨rfl, rfl, (fun _ => rfl), Or.inl rfl, rfl⟩
  replace hF := (if_neg hc).symm.trans hF
  by_cases hc : x0 = 4
  · replace hF := (if_pos hc).symm.trans hF
    refine am_go.tsI hcd_mo_first rfl hc (by decide) rfl rfl (t := 54) ?_
    refine am_go.blk hcd_mo_first 1 (g := (57, [some (.int x0)], [.int (240 : Int32)], h, false)) rfl ?_
    cases hF
    exact am_go.ret hcd_mo_first rfl rfl ⟨rfl, rfl, (fun _ => rfl), Or.inl rfl, rfl⟩
  replace hF := (if_neg hc).symm.trans hF
  by_cases hc : x0 = 5
  · replace hF := (if_pos hc).symm.trans hF
    refine am_go.tsI hcd_mo_first rfl hc (by decide) rfl rfl (t := 58) ?_
    refine am_go.blk hcd_mo_first 1 (g := (61, [some (.int x0)], [.int (460 : Int32)], h, false)) rfl ?_
    cases hF
    exact am_go.ret hcd_mo_first rfl rfl ⟨rfl, rfl, (fun _ => rfl), Or.inl rfl, rfl⟩
  replace hF := (if_neg hc).symm.trans hF
  cases hF
theorem hcd_mo_second : am_code 113 = am_c_mo_second := rfl
def fz_mo_second (x0 : Int32) : Option (Int32) :=
  if Int32.toInt x0 < 1 ∨ 6 < Int32.toInt x0 then
    some (0 : Int32)
  else
  if x0 = 1 then
    some (-256 : Int32)
  else
  if x0 = 2 then
    some (0 : Int32)
  else
  if x0 = 3 then
    some (64 : Int32)
  else
  if x0 = 4 then
    some (0 : Int32)
  else
  if x0 = 5 then
    some (-208 : Int32)
  else
  if x0 = 6 then
    some (-232 : Int32)
  else
  none
theorem tz_mo_second {sc : am_S} {h : am_H} {x0 : Int32} {r : Int32} (hF : fz_mo_second x0 = some r) : am_ev sc 1 113 [.int x0] (h) ((.inl (some (.int r)), h, false) : am_R) := by
  unfold fz_mo_second at hF
  refine am_ev.of false rfl ?_
  show am_go sc _ _ _ _ (0, [some (.int x0)], [], h, false) _
  refine am_go.blk hcd_mo_second 1 (g := (1, [some (.int x0)], [.int x0], h, false)) rfl ?_
  by_cases hsw : Int32.toInt x0 < 1 ∨ 6 < Int32.toInt x0
  · replace hF := (if_pos hsw).symm.trans hF
    refine am_go.tsO hcd_mo_second rfl hsw rfl (t := 55) ?_
    refine am_go.blk hcd_mo_second 1 (g := (56, [some (.int x0)], [.int (0 : Int32)], h, false)) rfl ?_
    cases hF
    exact am_go.ret hcd_mo_second rfl rfl ⟨rfl, rfl, (fun _ => rfl), Or.inl rfl, rfl⟩
  replace hF := (if_neg hsw).symm.trans hF
  by_cases hc : x0 = 1
  · replace hF := (if_pos hc).symm.trans hF
    refine am_go.tsI hcd_mo_second rfl hc (by decide) rfl rfl (t := 40) ?_
    refine am_go.blk hcd_mo_second 1 (g := (43, [some (.int x0)], [.int (-256 : Int32)], h, false)) rfl ?_
    cases hF
    exact am_go.ret hcd_mo_second rfl rfl ⟨rfl, rfl, (fun _ => rfl), Or.inl rfl, rfl⟩
  replace hF := (if_neg hc).symm.trans hF
  by_cases hc : x0 = 2
  · replace hF := (if_pos hc).symm.trans hF
    refine am_go.tsI hcd_mo_second rfl hc (by decide) rfl rfl (t := 55) ?_
    refine am_go.blk hcd_mo_second 1 (g := (56, [some (.int x0)], [.int (0 : Int32)], h, false)) rfl ?_
    cases hF
    exact am_go.ret hcd_mo_second rfl rfl ⟨rfl, rfl, (fun _ => rfl), Or.inl rfl, rfl⟩
  replace hF := (if_neg hc).symm.trans hF
  by_cases hc : x0 = 3
  · replace hF := (if_pos hc).symm.trans hF
    refine am_go.tsI hcd_mo_second rfl hc (by decide) rfl rfl (t := 44) ?_
    refine am_go.blk hcd_mo_second 1 (g := (46, [some (.int x0)], [.int (64 : Int32)], h, false)) rfl ?_
    cases hF
    exact am_go.ret hcd_mo_second rfl rfl ⟨rfl, rfl, (fun _ => rfl), Or.inl rfl, rfl⟩
  replace hF := (if_neg hc).symm.trans hF
  by_cases hc : x0 = 4
  · replace hF := (if_pos hc).symm.trans hF
    refine am_go.tsI hcd_mo_second rfl hc (by decide) rfl rfl (t := 55) ?_
    refine am_go.blk hcd_mo_second 1 (g := (56, [some (.int x0)], [.int (0 : Int32)], h, false)) rfl ?_
    cases hF
    exact am_go.ret hcd_mo_second rfl rfl ⟨rfl, rfl, (fun _ => rfl), Or.inl rfl, rfl⟩
  replace hF := (if_neg hc).symm.trans hF
  by_cases hc : x0 = 5
  · replace hF := (if_pos hc).symm.trans hF
    refine am_go.tsI hcd_mo_second rfl hc (by decide) rfl rfl (t := 47) ?_
    refine am_go.blk hcd_mo_second 1 (g := (50, [some (.int x0)], [.int (-208 : Int32)], h, false)) rfl ?_
    cases hF
    exact am_go.ret hcd_mo_second rfl rfl ⟨rfl, rfl, (fun _ => rfl), Or.inl rfl, rfl⟩
  replace hF := (if_neg hc).symm.trans hF
  by_cases hc : x0 = 6
  · replace hF := (if_pos hc).symm.trans hF
    refine am_go.tsI hcd_mo_second rfl hc (by decide) rfl rfl (t := 51) ?_
    refine am_go.blk hcd_mo_second 1 (g := (54, [some (.int x0)], [.int (-232 : Int32)], h, false)) rfl ?_
    cases hF
    exact am_go.ret hcd_mo_second rfl rfl ⟨rfl, rfl, (fun _ => rfl), Or.inl rfl, rfl⟩
  replace hF := (if_neg hc).symm.trans hF
  cases hF
theorem hcd_mo_readFormat : am_code 141 = am_c_mo_readFormat := rfl
def fz_mo_readFormat_332  (s : am_Z) : Option (am_Z) :=
  some (zz_i s 15 (1 : Int32))
set_option maxRecDepth 20000 in
theorem tz_mo_readFormat_332 {sc : am_S} {c : am_Z} {t : am_H} {h0 : am_H}   {s : am_Z} {r : am_Z} (hF : fz_mo_readFormat_332 s = some r) : am_go sc 4 (am_ev sc 3) 141 h0 (332, [some (.ref 16), none, none, none, none, none, none], [], zz_hM c s t, true) ((.inl (none), zz_hM c r t, true) : am_R) := by
  unfold fz_mo_readFormat_332 at hF
  refine am_go.blk hcd_mo_readFormat 3 (g := (337, [some (.ref 16), none, none, none, none, none, none], [], zz_hM c (zz_i s 15 (1 : Int32)) t, true)) rfl ?_
  cases hF
  exact am_go.ret hcd_mo_readFormat rfl rfl ⟨rfl, rfl, (fun h => by cases h), rfl, rfl⟩
def fz_mo_readFormat_294  (x3 : Int32) (x4 : Int64) (s : am_Z) : Option (am_Z) :=
  if ¬ (s.1 8) = 0 then
    fz_mo_readFormat_332 s
  else
  (fz_mo_perBlock s).bind fun q1 =>
  if q1 = 0 then none else
  if (lg_cmp x4 (Int32.toInt64 (((s.1 11) * (s.1 13)) / q1))) = 0 then
    fz_mo_readFormat_332 s
  else
  fz_mo_readFormat_332 (zz_i (zz_i s 8 (1 : Int32)) 7 x3)
set_option maxRecDepth 20000 in
theorem tz_mo_readFormat_294 {sc : am_S} {c : am_Z} {t : am_H} {h0 : am_H}   {x3 : Int32} {x4 : Int64} {s : am_Z} {r : am_Z} (hF : fz_mo_readFormat_294 x3 x4 s = some r) : am_go sc 4 (am_ev sc 3) 141 h0 (294, [some (.ref 16), none, none, some (.int x3), some (.long x4), none, none], [], zz_hM c s t, true) ((.inl (none), zz_hM c r t, true) : am_R) := by
  unfold fz_mo_readFormat_294 at hF
  refine am_go.blk hcd_mo_readFormat 3 (g := (bif decide (¬ (s.1 8) = 0) then 332 else 301, [some (.ref 16), none, none, some (.int x3), some (.long x4), none, none], [], zz_hM c s t, true)) rfl ?_
  refine am_go.br (fun hP => ?_) (fun hP => ?_)
  · replace hF := (if_pos hP).symm.trans hF
    refine am_go.fgl [some (.ref 16), none, none, none, none, none, none] ⟨rfl, trivial⟩ ?_
    exact tz_mo_readFormat_332  hF
  · replace hF := (if_neg hP).symm.trans hF
    refine am_go.blk hcd_mo_readFormat 7 (g := (313, [some (.ref 16), none, none, some (.int x3), some (.long x4), none, none], [.ref 16, .int ((s.1 11) * (s.1 13)), .long x4], zz_hM c s t, true)) rfl ?_
    obtain ⟨q1, hq1, hF⟩ := am_bd hF
    refine am_go.call hcd_mo_readFormat rfl rfl rfl rfl (am_le8 rfl) (am_ev.le (by decide) (tz_mo_perBlock (c := c) (t := t) hq1)) ?_
    obtain ⟨hd2, hF⟩ := am_ng hF
    refine am_go.idv hcd_mo_readFormat rfl hd2 ?_
    refine am_go.blk hcd_mo_readFormat 3 (g := (bif decide ((lg_cmp x4 (Int32.toInt64 (((s.1 11) * (s.1 13)) / q1))) = 0) then 332 else 322, [some (.ref 16), none, none, some (.int x3), some (.long x4), none, none], [], zz_hM c s t, true)) rfl ?_
    refine am_go.br (fun hP => ?_) (fun hP => ?_)
    · replace hF := (if_pos hP).symm.trans hF
      refine am_go.fgl [some (.ref 16), none, none, none, none, none, none] ⟨rfl, trivial⟩ ?_
      exact tz_mo_readFormat_332  hF
    · replace hF := (if_neg hP).symm.trans hF
      refine am_go.blk hcd_mo_readFormat 6 (g := (332, [some (.ref 16), none, none, some (.int x3), some (.long x4), none, none], [], zz_hM c (zz_i (zz_i s 8 (1 : Int32)) 7 x3) t, true)) rfl ?_
      refine am_go.fgl [some (.ref 16), none, none, none, none, none, none] ⟨rfl, trivial⟩ ?_
      exact tz_mo_readFormat_332  hF
def fz_mo_readFormat_254  : Nat → Int32 → Int64 → Int32 → am_Z → Option (am_Z)
  | 0, _, _, _, _ => none
  | n + 1, x3, x4, x6, s =>
    if (7 : Int32) ≤ x6 then
      fz_mo_readFormat_294 x3 x4 s
    else
    (fz_mo_first x6).bind fun q1 =>
    (fz_mo_exact s (2 : Int32) (0 : Int32) (Int32.toInt64 q1)).bind fun q2 =>
    (fz_mo_second x6).bind fun q3 =>
    (fz_mo_exact q2 (2 : Int32) (0 : Int32) (Int32.toInt64 (q3 &&& (65535 : Int32)))).bind fun q4 =>
    fz_mo_readFormat_254 n x3 x4 (x6 + (1 : Int32)) q4
set_option maxRecDepth 20000 in
theorem tz_mo_readFormat_254 {sc : am_S} {c : am_Z} {t : am_H} {h0 : am_H}   : ∀ (n : Nat) (x3 : Int32) (x4 : Int64) (x6 : Int32) (s : am_Z) (r : am_Z), fz_mo_readFormat_254  n x3 x4 x6 s = some r → am_go sc 4 (am_ev sc 3) 141 h0 (254, [some (.ref 16), none, none, some (.int x3), some (.long x4), none, some (.int x6)], [], zz_hM c s t, true) ((.inl (none), zz_hM c r t, true) : am_R) := by
  intro n
  induction n with
  | zero => intro x3 x4 x6 s r hF; cases hF
  | succ n ih =>
    intro x3 x4 x6 s r hF
    unfold fz_mo_readFormat_254 at hF
    refine am_go.blk hcd_mo_readFormat 3 (g := (bif decide ((7 : Int32) ≤ x6) then 294 else 261, [some (.ref 16), none, none, some (.int x3), some (.long x4), none, some (.int x6)], [], zz_hM c s t, true)) rfl ?_
    refine am_go.br (fun hP => ?_) (fun hP => ?_)
    · replace hF := (if_pos hP).symm.trans hF
      refine am_go.fgl [some (.ref 16), none, none, some (.int x3), some (.long x4), none, none] ⟨rfl, rfl, rfl, trivial⟩ ?_
      exact tz_mo_readFormat_294  hF
    · replace hF := (if_neg hP).symm.trans hF
      refine am_go.blk hcd_mo_readFormat 4 (g := (266, [some (.ref 16), none, none, some (.int x3), some (.long x4), none, some (.int x6)], [.int x6, .int (0 : Int32), .int (2 : Int32), .ref 16], zz_hM c s t, true)) rfl ?_
      obtain ⟨q1, hq1, hF⟩ := am_bd hF
      refine am_go.call hcd_mo_readFormat rfl rfl rfl rfl (am_le8 rfl) (am_ev.le (by decide) (tz_mo_first (h := zz_hM c s t) hq1)) ?_
      refine am_go.blk hcd_mo_readFormat 1 (g := (270, [some (.ref 16), none, none, some (.int x3), some (.long x4), none, some (.int x6)], [.long (Int32.toInt64 q1), .int (0 : Int32), .int (2 : Int32), .ref 16], zz_hM c s t, true)) rfl ?_
      obtain ⟨q2, hq2, hF⟩ := am_bd hF
      refine am_go.call hcd_mo_readFormat rfl rfl rfl rfl (am_le8 rfl) (am_ev.le (by decide) (tz_mo_exact (c := c) (t := t) hq2)) ?_
      refine am_go.blk hcd_mo_readFormat 4 (g := (278, [some (.ref 16), none, none, some (.int x3), some (.long x4), none, some (.int x6)], [.int x6, .int (0 : Int32), .int (2 : Int32), .ref 16], zz_hM c q2 t, true)) rfl ?_
      obtain ⟨q3, hq3, hF⟩ := am_bd hF
      refine am_go.call hcd_mo_readFormat rfl rfl rfl rfl (am_le8 rfl) (am_ev.le (by decide) (tz_mo_second (h := zz_hM c q2 t) hq3)) ?_
      refine am_go.blk hcd_mo_readFormat 3 (g := (285, [some (.ref 16), none, none, some (.int x3), some (.long x4), none, some (.int x6)], [.long (Int32.toInt64 (q3 &&& (65535 : Int32))), .int (0 : Int32), .int (2 : Int32), .ref 16], zz_hM c q2 t, true)) rfl ?_
      obtain ⟨q4, hq4, hF⟩ := am_bd hF
      refine am_go.call hcd_mo_readFormat rfl rfl rfl rfl (am_le8 rfl) (am_ev.le (by decide) (tz_mo_exact (c := c) (t := t) hq4)) ?_
      refine am_go.blk hcd_mo_readFormat 2 (g := (254, [some (.ref 16), none, none, some (.int x3), some (.long x4), none, some (.int (x6 + (1 : Int32)))], [], zz_hM c q4 t, true)) rfl ?_
      exact ih _ _ _ _ _ hF
def fz_mo_readFormat_234  (x3 : Int32) (x4 : Int64) (s : am_Z) : Option (am_Z) :=
  if ¬ (s.1 12) = (2 : Int32) then
    fz_mo_readFormat_294 x3 x4 s
  else
  (fz_mo_exact s (2 : Int32) (0 : Int32) (7 : Int64)).bind fun q1 =>
  fz_mo_readFormat_254 fz_fu x3 x4 (0 : Int32) q1
set_option maxRecDepth 20000 in
theorem tz_mo_readFormat_234 {sc : am_S} {c : am_Z} {t : am_H} {h0 : am_H}   {x3 : Int32} {x4 : Int64} {s : am_Z} {r : am_Z} (hF : fz_mo_readFormat_234 x3 x4 s = some r) : am_go sc 4 (am_ev sc 3) 141 h0 (234, [some (.ref 16), none, none, some (.int x3), some (.long x4), none, none], [], zz_hM c s t, true) ((.inl (none), zz_hM c r t, true) : am_R) := by
  unfold fz_mo_readFormat_234 at hF
  refine am_go.blk hcd_mo_readFormat 4 (g := (bif decide (¬ (s.1 12) = (2 : Int32)) then 294 else 242, [some (.ref 16), none, none, some (.int x3), some (.long x4), none, none], [], zz_hM c s t, true)) rfl ?_
  refine am_go.br (fun hP => ?_) (fun hP => ?_)
  · replace hF := (if_pos hP).symm.trans hF
    exact tz_mo_readFormat_294  hF
  · replace hF := (if_neg hP).symm.trans hF
    refine am_go.blk hcd_mo_readFormat 4 (g := (248, [some (.ref 16), none, none, some (.int x3), some (.long x4), none, none], [.long (7 : Int64), .int (0 : Int32), .int (2 : Int32), .ref 16], zz_hM c s t, true)) rfl ?_
    obtain ⟨q1, hq1, hF⟩ := am_bd hF
    refine am_go.call hcd_mo_readFormat rfl rfl rfl rfl (am_le8 rfl) (am_ev.le (by decide) (tz_mo_exact (c := c) (t := t) hq1)) ?_
    refine am_go.blk hcd_mo_readFormat 2 (g := (254, [some (.ref 16), none, none, some (.int x3), some (.long x4), none, some (.int (0 : Int32))], [], zz_hM c q1 t, true)) rfl ?_
    exact tz_mo_readFormat_254  fz_fu _ _ _ _ _ hF
def fz_mo_readFormat_220  (x3 : Int32) (x4 : Int64) (y0 : Int64) (y1 : Int32) (y2 : Int32) (s : am_Z) : Option (am_Z) :=
  (fz_mo_exact s y2 y1 y0).bind fun q1 =>
  (fz_mo_perBlock q1).bind fun q2 =>
  (fz_mo_exact q1 (2 : Int32) (0 : Int32) (Int32.toInt64 q2)).bind fun q3 =>
  fz_mo_readFormat_234 x3 x4 q3
set_option maxRecDepth 20000 in
theorem tz_mo_readFormat_220 {sc : am_S} {c : am_Z} {t : am_H} {h0 : am_H}   {x3 : Int32} {x4 : Int64} {y0 : Int64} {y1 : Int32} {y2 : Int32} {s : am_Z} {r : am_Z} (hF : fz_mo_readFormat_220 x3 x4 y0 y1 y2 s = some r) : am_go sc 4 (am_ev sc 3) 141 h0 (220, [some (.ref 16), none, none, some (.int x3), some (.long x4), none, none], [.long y0, .int y1, .int y2, .ref 16], zz_hM c s t, true) ((.inl (none), zz_hM c r t, true) : am_R) := by
  unfold fz_mo_readFormat_220 at hF
  obtain ⟨q1, hq1, hF⟩ := am_bd hF
  refine am_go.call hcd_mo_readFormat rfl rfl rfl rfl (am_le8 rfl) (am_ev.le (by decide) (tz_mo_exact (c := c) (t := t) hq1)) ?_
  refine am_go.blk hcd_mo_readFormat 4 (g := (227, [some (.ref 16), none, none, some (.int x3), some (.long x4), none, none], [.ref 16, .int (0 : Int32), .int (2 : Int32), .ref 16], zz_hM c q1 t, true)) rfl ?_
  obtain ⟨q2, hq2, hF⟩ := am_bd hF
  refine am_go.call hcd_mo_readFormat rfl rfl rfl rfl (am_le8 rfl) (am_ev.le (by decide) (tz_mo_perBlock (c := c) (t := t) hq2)) ?_
  refine am_go.blk hcd_mo_readFormat 1 (g := (231, [some (.ref 16), none, none, some (.int x3), some (.long x4), none, none], [.long (Int32.toInt64 q2), .int (0 : Int32), .int (2 : Int32), .ref 16], zz_hM c q1 t, true)) rfl ?_
  obtain ⟨q3, hq3, hF⟩ := am_bd hF
  refine am_go.call hcd_mo_readFormat rfl rfl rfl rfl (am_le8 rfl) (am_ev.le (by decide) (tz_mo_exact (c := c) (t := t) hq3)) ?_
  exact tz_mo_readFormat_234  hF
def fz_mo_readFormat_188  (x3 : Int32) (x4 : Int64) (y0 : Int64) (y1 : Int32) (y2 : Int32) (s : am_Z) : Option (am_Z) :=
  (fz_mo_exact s y2 y1 y0).bind fun q1 =>
  if (q1.1 12) = (1 : Int32) then
    fz_mo_readFormat_234 x3 x4 q1
  else
  if ¬ (q1.1 12) = (17 : Int32) then
    fz_mo_readFormat_220 x3 x4 (32 : Int64) (0 : Int32) (2 : Int32) q1
  else
  fz_mo_readFormat_220 x3 x4 (2 : Int64) (0 : Int32) (2 : Int32) q1
set_option maxRecDepth 20000 in
theorem tz_mo_readFormat_188 {sc : am_S} {c : am_Z} {t : am_H} {h0 : am_H}   {x3 : Int32} {x4 : Int64} {y0 : Int64} {y1 : Int32} {y2 : Int32} {s : am_Z} {r : am_Z} (hF : fz_mo_readFormat_188 x3 x4 y0 y1 y2 s = some r) : am_go sc 4 (am_ev sc 3) 141 h0 (188, [some (.ref 16), none, none, some (.int x3), some (.long x4), none, none], [.long y0, .int y1, .int y2, .ref 16], zz_hM c s t, true) ((.inl (none), zz_hM c r t, true) : am_R) := by
  unfold fz_mo_readFormat_188 at hF
  obtain ⟨q1, hq1, hF⟩ := am_bd hF
  refine am_go.call hcd_mo_readFormat rfl rfl rfl rfl (am_le8 rfl) (am_ev.le (by decide) (tz_mo_exact (c := c) (t := t) hq1)) ?_
  refine am_go.blk hcd_mo_readFormat 4 (g := (bif decide ((q1.1 12) = (1 : Int32)) then 234 else 199, [some (.ref 16), none, none, some (.int x3), some (.long x4), none, none], [], zz_hM c q1 t, true)) rfl ?_
  refine am_go.br (fun hP => ?_) (fun hP => ?_)
  · replace hF := (if_pos hP).symm.trans hF
    exact tz_mo_readFormat_234  hF
  · replace hF := (if_neg hP).symm.trans hF
    refine am_go.blk hcd_mo_readFormat 7 (g := (bif decide (¬ (q1.1 12) = (17 : Int32)) then 217 else 211, [some (.ref 16), none, none, some (.int x3), some (.long x4), none, none], [.int (0 : Int32), .int (2 : Int32), .ref 16], zz_hM c q1 t, true)) rfl ?_
    refine am_go.br (fun hP => ?_) (fun hP => ?_)
    · replace hF := (if_pos hP).symm.trans hF
      refine am_go.blk hcd_mo_readFormat 1 (g := (220, [some (.ref 16), none, none, some (.int x3), some (.long x4), none, none], [.long (32 : Int64), .int (0 : Int32), .int (2 : Int32), .ref 16], zz_hM c q1 t, true)) rfl ?_
      exact tz_mo_readFormat_220  hF
    · replace hF := (if_neg hP).symm.trans hF
      refine am_go.blk hcd_mo_readFormat 2 (g := (220, [some (.ref 16), none, none, some (.int x3), some (.long x4), none, none], [.long (2 : Int64), .int (0 : Int32), .int (2 : Int32), .ref 16], zz_hM c q1 t, true)) rfl ?_
      exact tz_mo_readFormat_220  hF
def fz_mo_readFormat_156  (x3 : Int32) (x4 : Int64) (y0 : Int64) (y1 : Int64) (y2 : Int32) (y3 : Int32) (s : am_Z) : Option (am_Z) :=
  (fz_mo_ask s y3 y2 y1 y0).bind fun q1 =>
  if ¬ (q1.2.1 12) = (1 : Int32) then
    fz_mo_readFormat_188 x3 x4 (4 : Int64) (0 : Int32) (2 : Int32) (zz_i q1.2 13 (Int64.toInt32 q1.1))
  else
  fz_mo_readFormat_188 x3 x4 (Int32.toInt64 ((8 : Int32) * (Int64.toInt32 q1.1))) (0 : Int32) (2 : Int32) (zz_i q1.2 13 (Int64.toInt32 q1.1))
set_option maxRecDepth 20000 in
theorem tz_mo_readFormat_156 {sc : am_S} {c : am_Z} {t : am_H} {h0 : am_H}   {x3 : Int32} {x4 : Int64} {y0 : Int64} {y1 : Int64} {y2 : Int32} {y3 : Int32} {s : am_Z} {r : am_Z} (hF : fz_mo_readFormat_156 x3 x4 y0 y1 y2 y3 s = some r) : am_go sc 4 (am_ev sc 3) 141 h0 (156, [some (.ref 16), none, none, some (.int x3), some (.long x4), none, none], [.long y0, .long y1, .int y2, .int y3, .ref 16, .ref 16], zz_hM c s t, true) ((.inl (none), zz_hM c r t, true) : am_R) := by
  unfold fz_mo_readFormat_156 at hF
  obtain ⟨q1, hq1, hF⟩ := am_bd hF
  refine am_go.call hcd_mo_readFormat rfl rfl rfl rfl (am_le8 rfl) (am_ev.le (by decide) (tz_mo_ask (c := c) (t := t) hq1)) ?_
  refine am_go.blk hcd_mo_readFormat 9 (g := (bif decide (¬ (q1.2.1 12) = (1 : Int32)) then 185 else 174, [some (.ref 16), none, none, some (.int x3), some (.long x4), none, none], [.int (0 : Int32), .int (2 : Int32), .ref 16], zz_hM c (zz_i q1.2 13 (Int64.toInt32 q1.1)) t, true)) rfl ?_
  refine am_go.br (fun hP => ?_) (fun hP => ?_)
  · replace hF := (if_pos hP).symm.trans hF
    refine am_go.blk hcd_mo_readFormat 1 (g := (188, [some (.ref 16), none, none, some (.int x3), some (.long x4), none, none], [.long (4 : Int64), .int (0 : Int32), .int (2 : Int32), .ref 16], zz_hM c (zz_i q1.2 13 (Int64.toInt32 q1.1)) t, true)) rfl ?_
    exact tz_mo_readFormat_188  hF
  · replace hF := (if_neg hP).symm.trans hF
    refine am_go.blk hcd_mo_readFormat 6 (g := (188, [some (.ref 16), none, none, some (.int x3), some (.long x4), none, none], [.long (Int32.toInt64 ((8 : Int32) * (Int64.toInt32 q1.1))), .int (0 : Int32), .int (2 : Int32), .ref 16], zz_hM c (zz_i q1.2 13 (Int64.toInt32 q1.1)) t, true)) rfl ?_
    exact tz_mo_readFormat_188  hF
def fz_mo_readFormat_124  (x3 : Int32) (x4 : Int64) (y0 : Int64) (y1 : Int32) (y2 : Int32) (s : am_Z) : Option (am_Z) :=
  if ¬ (s.1 12) = (1 : Int32) then
    if ¬ (s.1 12) = (17 : Int32) then
      fz_mo_readFormat_156 x3 x4 (15 : Int64) y0 y1 y2 s
    else
    fz_mo_readFormat_156 x3 x4 (12 : Int64) y0 y1 y2 s
  else
  fz_mo_readFormat_156 x3 x4 (2 : Int64) y0 y1 y2 s
set_option maxRecDepth 20000 in
theorem tz_mo_readFormat_124 {sc : am_S} {c : am_Z} {t : am_H} {h0 : am_H}   {x3 : Int32} {x4 : Int64} {y0 : Int64} {y1 : Int32} {y2 : Int32} {s : am_Z} {r : am_Z} (hF : fz_mo_readFormat_124 x3 x4 y0 y1 y2 s = some r) : am_go sc 4 (am_ev sc 3) 141 h0 (124, [some (.ref 16), none, none, some (.int x3), some (.long x4), none, none], [.long y0, .int y1, .int y2, .ref 16, .ref 16], zz_hM c s t, true) ((.inl (none), zz_hM c r t, true) : am_R) := by
  unfold fz_mo_readFormat_124 at hF
  refine am_go.blk hcd_mo_readFormat 4 (g := (bif decide (¬ (s.1 12) = (1 : Int32)) then 138 else 132, [some (.ref 16), none, none, some (.int x3), some (.long x4), none, none], [.long y0, .int y1, .int y2, .ref 16, .ref 16], zz_hM c s t, true)) rfl ?_
  refine am_go.br (fun hP => ?_) (fun hP => ?_)
  · replace hF := (if_pos hP).symm.trans hF
    refine am_go.blk hcd_mo_readFormat 4 (g := (bif decide (¬ (s.1 12) = (17 : Int32)) then 153 else 147, [some (.ref 16), none, none, some (.int x3), some (.long x4), none, none], [.long y0, .int y1, .int y2, .ref 16, .ref 16], zz_hM c s t, true)) rfl ?_
    refine am_go.br (fun hP => ?_) (fun hP => ?_)
    · replace hF := (if_pos hP).symm.trans hF
      refine am_go.blk hcd_mo_readFormat 1 (g := (156, [some (.ref 16), none, none, some (.int x3), some (.long x4), none, none], [.long (15 : Int64), .long y0, .int y1, .int y2, .ref 16, .ref 16], zz_hM c s t, true)) rfl ?_
      exact tz_mo_readFormat_156  hF
    · replace hF := (if_neg hP).symm.trans hF
      refine am_go.blk hcd_mo_readFormat 2 (g := (156, [some (.ref 16), none, none, some (.int x3), some (.long x4), none, none], [.long (12 : Int64), .long y0, .int y1, .int y2, .ref 16, .ref 16], zz_hM c s t, true)) rfl ?_
      exact tz_mo_readFormat_156  hF
  · replace hF := (if_neg hP).symm.trans hF
    refine am_go.blk hcd_mo_readFormat 2 (g := (156, [some (.ref 16), none, none, some (.int x3), some (.long x4), none, none], [.long (2 : Int64), .long y0, .int y1, .int y2, .ref 16, .ref 16], zz_hM c s t, true)) rfl ?_
    exact tz_mo_readFormat_156  hF
def fz_mo_readFormat_37  (y0 : Int32) (s : am_Z) : Option (am_Z) :=
  (fz_mo_exact s (2 : Int32) (0 : Int32) (Int32.toInt64 y0)).bind fun q1 =>
  (fz_mo_exact (zz_i q1 12 y0) (2 : Int32) (0 : Int32) (1 : Int64)).bind fun q2 =>
  (fz_mo_ask q2 (4 : Int32) (0 : Int32) (1 : Int64) (192000 : Int64)).bind fun q3 =>
  (fz_mo_ask (zz_i q3.2 11 (Int64.toInt32 q3.1)) (4 : Int32) (0 : Int32) (0 : Int64) (4294967295 : Int64)).bind fun q4 =>
  if ¬ (q4.2.1 12) = (1 : Int32) then
    if ¬ (q4.2.1 12) = (17 : Int32) then
      fz_mo_readFormat_124 (q3.2.1 7) q4.1 (8 : Int64) (0 : Int32) (2 : Int32) q4.2
    else
    fz_mo_readFormat_124 (q3.2.1 7) q4.1 (5 : Int64) (0 : Int32) (2 : Int32) q4.2
  else
  fz_mo_readFormat_124 (q3.2.1 7) q4.1 (1 : Int64) (0 : Int32) (2 : Int32) q4.2
set_option maxRecDepth 20000 in
theorem tz_mo_readFormat_37 {sc : am_S} {c : am_Z} {t : am_H} {h0 : am_H}   {y0 : Int32} {s : am_Z} {r : am_Z} (hF : fz_mo_readFormat_37 y0 s = some r) : am_go sc 4 (am_ev sc 3) 141 h0 (37, [some (.ref 16), none, none, none, none, none, none], [.int y0], zz_hM c s t, true) ((.inl (none), zz_hM c r t, true) : am_R) := by
  unfold fz_mo_readFormat_37 at hF
  refine am_go.blk hcd_mo_readFormat 6 (g := (43, [some (.ref 16), none, some (.int y0), none, none, none, none], [.long (Int32.toInt64 y0), .int (0 : Int32), .int (2 : Int32), .ref 16], zz_hM c s t, true)) rfl ?_
  obtain ⟨q1, hq1, hF⟩ := am_bd hF
  refine am_go.call hcd_mo_readFormat rfl rfl rfl rfl (am_le8 rfl) (am_ev.le (by decide) (tz_mo_exact (c := c) (t := t) hq1)) ?_
  refine am_go.blk hcd_mo_readFormat 7 (g := (55, [some (.ref 16), none, some (.int y0), none, none, none, none], [.long (1 : Int64), .int (0 : Int32), .int (2 : Int32), .ref 16], zz_hM c (zz_i q1 12 y0) t, true)) rfl ?_
  obtain ⟨q2, hq2, hF⟩ := am_bd hF
  refine am_go.call hcd_mo_readFormat rfl rfl rfl rfl (am_le8 rfl) (am_ev.le (by decide) (tz_mo_exact (c := c) (t := t) hq2)) ?_
  refine am_go.blk hcd_mo_readFormat 6 (g := (66, [some (.ref 16), none, some (.int y0), none, none, none, none], [.long (192000 : Int64), .long (1 : Int64), .int (0 : Int32), .int (4 : Int32), .ref 16, .ref 16], zz_hM c q2 t, true)) rfl ?_
  obtain ⟨q3, hq3, hF⟩ := am_bd hF
  refine am_go.call hcd_mo_readFormat rfl rfl rfl rfl (am_le8 rfl) (am_ev.le (by decide) (tz_mo_ask (c := c) (t := t) hq3)) ?_
  refine am_go.blk hcd_mo_readFormat 10 (g := (85, [some (.ref 16), none, some (.int y0), some (.int (q3.2.1 7)), none, none, none], [.long (4294967295 : Int64), .long (0 : Int64), .int (0 : Int32), .int (4 : Int32), .ref 16], zz_hM c (zz_i q3.2 11 (Int64.toInt32 q3.1)) t, true)) rfl ?_
  obtain ⟨q4, hq4, hF⟩ := am_bd hF
  refine am_go.call hcd_mo_readFormat rfl rfl rfl rfl (am_le8 rfl) (am_ev.le (by decide) (tz_mo_ask (c := c) (t := t) hq4)) ?_
  refine am_go.blk hcd_mo_readFormat 9 (g := (bif decide (¬ (q4.2.1 12) = (1 : Int32)) then 106 else 102, [some (.ref 16), none, some (.int y0), some (.int (q3.2.1 7)), some (.long q4.1), none, none], [.int (0 : Int32), .int (2 : Int32), .ref 16, .ref 16], zz_hM c q4.2 t, true)) rfl ?_
  refine am_go.br (fun hP => ?_) (fun hP => ?_)
  · replace hF := (if_pos hP).symm.trans hF
    refine am_go.blk hcd_mo_readFormat 4 (g := (bif decide (¬ (q4.2.1 12) = (17 : Int32)) then 121 else 115, [some (.ref 16), none, some (.int y0), some (.int (q3.2.1 7)), some (.long q4.1), none, none], [.int (0 : Int32), .int (2 : Int32), .ref 16, .ref 16], zz_hM c q4.2 t, true)) rfl ?_
    refine am_go.br (fun hP => ?_) (fun hP => ?_)
    · replace hF := (if_pos hP).symm.trans hF
      refine am_go.blk hcd_mo_readFormat 1 (g := (124, [some (.ref 16), none, some (.int y0), some (.int (q3.2.1 7)), some (.long q4.1), none, none], [.long (8 : Int64), .int (0 : Int32), .int (2 : Int32), .ref 16, .ref 16], zz_hM c q4.2 t, true)) rfl ?_
      refine am_go.fgl [some (.ref 16), none, none, some (.int (q3.2.1 7)), some (.long q4.1), none, none] ⟨rfl, rfl, rfl, trivial⟩ ?_
      exact tz_mo_readFormat_124  hF
    · replace hF := (if_neg hP).symm.trans hF
      refine am_go.blk hcd_mo_readFormat 2 (g := (124, [some (.ref 16), none, some (.int y0), some (.int (q3.2.1 7)), some (.long q4.1), none, none], [.long (5 : Int64), .int (0 : Int32), .int (2 : Int32), .ref 16, .ref 16], zz_hM c q4.2 t, true)) rfl ?_
      refine am_go.fgl [some (.ref 16), none, none, some (.int (q3.2.1 7)), some (.long q4.1), none, none] ⟨rfl, rfl, rfl, trivial⟩ ?_
      exact tz_mo_readFormat_124  hF
  · replace hF := (if_neg hP).symm.trans hF
    refine am_go.blk hcd_mo_readFormat 2 (g := (124, [some (.ref 16), none, some (.int y0), some (.int (q3.2.1 7)), some (.long q4.1), none, none], [.long (1 : Int64), .int (0 : Int32), .int (2 : Int32), .ref 16, .ref 16], zz_hM c q4.2 t, true)) rfl ?_
    refine am_go.fgl [some (.ref 16), none, none, some (.int (q3.2.1 7)), some (.long q4.1), none, none] ⟨rfl, rfl, rfl, trivial⟩ ?_
    exact tz_mo_readFormat_124  hF
def fz_mo_readFormat (s : am_Z) : Option (am_Z) :=
  (fz_mo_open s (0 : Int32) (16 : Int64) (20 : Int64) (50 : Int64)).bind fun q1 =>
  if ¬ q1.1 = (16 : Int32) then
    if ¬ q1.1 = (20 : Int32) then
      fz_mo_readFormat_37 (2 : Int32) q1.2
    else
    fz_mo_readFormat_37 (17 : Int32) q1.2
  else
  fz_mo_readFormat_37 (1 : Int32) q1.2
set_option maxRecDepth 20000 in
theorem tz_mo_readFormat {sc : am_S} {c : am_Z} {t : am_H} {s : am_Z} {r : am_Z} (hF : fz_mo_readFormat s = some r) : am_ev sc 4 141 [.ref 16] (zz_hM c s t) ((.inl (none), zz_hM c r t, true) : am_R) := by
  unfold fz_mo_readFormat at hF
  refine am_ev.of true rfl ?_
  show am_go sc _ _ _ _ (0, [some (.ref 16), none, none, none, none, none, none], [], zz_hM c s t, true) _
  refine am_go.blk hcd_mo_readFormat 5 (g := (11, [some (.ref 16), none, none, none, none, none, none], [.long (50 : Int64), .long (20 : Int64), .long (16 : Int64), .int (0 : Int32), .ref 16], zz_hM c s t, true)) rfl ?_
  obtain ⟨q1, hq1, hF⟩ := am_bd hF
  refine am_go.call hcd_mo_readFormat rfl rfl rfl rfl (am_le8 rfl) (am_ev.le (by decide) (tz_mo_open (c := c) (t := t) hq1)) ?_
  refine am_go.blk hcd_mo_readFormat 4 (g := (bif decide (¬ q1.1 = (16 : Int32)) then 25 else 21, [some (.ref 16), some (.int q1.1), none, none, none, none, none], [], zz_hM c q1.2 t, true)) rfl ?_
  refine am_go.br (fun hP => ?_) (fun hP => ?_)
  · replace hF := (if_pos hP).symm.trans hF
    refine am_go.blk hcd_mo_readFormat 3 (g := (bif decide (¬ q1.1 = (20 : Int32)) then 36 else 31, [some (.ref 16), some (.int q1.1), none, none, none, none, none], [], zz_hM c q1.2 t, true)) rfl ?_
    refine am_go.br (fun hP => ?_) (fun hP => ?_)
    · replace hF := (if_pos hP).symm.trans hF
      refine am_go.blk hcd_mo_readFormat 1 (g := (37, [some (.ref 16), some (.int q1.1), none, none, none, none, none], [.int (2 : Int32)], zz_hM c q1.2 t, true)) rfl ?_
      refine am_go.fgl [some (.ref 16), none, none, none, none, none, none] ⟨rfl, trivial⟩ ?_
      exact tz_mo_readFormat_37  hF
    · replace hF := (if_neg hP).symm.trans hF
      refine am_go.blk hcd_mo_readFormat 2 (g := (37, [some (.ref 16), some (.int q1.1), none, none, none, none, none], [.int (17 : Int32)], zz_hM c q1.2 t, true)) rfl ?_
      refine am_go.fgl [some (.ref 16), none, none, none, none, none, none] ⟨rfl, trivial⟩ ?_
      exact tz_mo_readFormat_37  hF
  · replace hF := (if_neg hP).symm.trans hF
    refine am_go.blk hcd_mo_readFormat 2 (g := (37, [some (.ref 16), some (.int q1.1), none, none, none, none, none], [.int (1 : Int32)], zz_hM c q1.2 t, true)) rfl ?_
    refine am_go.fgl [some (.ref 16), none, none, none, none, none, none] ⟨rfl, trivial⟩ ?_
    exact tz_mo_readFormat_37  hF
theorem hcd_mo_readCount : am_code 142 = am_c_mo_readCount := rfl
def fz_mo_readCount_36  (y0 : Int32) (s : am_Z) : Option (am_Z) :=
  some (zz_i (zz_i s 10 y0) 16 (1 : Int32))
theorem tz_mo_readCount_36 {sc : am_S} {c : am_Z} {t : am_H} {h0 : am_H}   {y0 : Int32} {s : am_Z} {r : am_Z} (hF : fz_mo_readCount_36 y0 s = some r) : am_go sc 3 (am_ev sc 2) 142 h0 (36, [some (.ref 16), none], [.int y0, .ref 16], zz_hM c s t, true) ((.inl (none), zz_hM c r t, true) : am_R) := by
  unfold fz_mo_readCount_36 at hF
  refine am_go.blk hcd_mo_readCount 4 (g := (44, [some (.ref 16), none], [], zz_hM c (zz_i (zz_i s 10 y0) 16 (1 : Int32)) t, true)) rfl ?_
  cases hF
  exact am_go.ret hcd_mo_readCount rfl rfl ⟨rfl, rfl, (fun h => by cases h), rfl, rfl⟩
def fz_mo_readCount (s : am_Z) : Option (am_Z) :=
  (fz_mo_open s (0 : Int32) (4 : Int64) (4 : Int64) (4 : Int64)).bind fun q1 =>
  if ¬ q1.1 = (4 : Int32) then
    fz_mo_readCount_36 (0 : Int32) q1.2
  else
  (fz_mo_ask q1.2 (4 : Int32) (0 : Int32) (0 : Int64) (64 : Int64)).bind fun q2 =>
  fz_mo_readCount_36 (Int64.toInt32 q2.1) q2.2
theorem tz_mo_readCount {sc : am_S} {c : am_Z} {t : am_H} {s : am_Z} {r : am_Z} (hF : fz_mo_readCount s = some r) : am_ev sc 3 142 [.ref 16] (zz_hM c s t) ((.inl (none), zz_hM c r t, true) : am_R) := by
  unfold fz_mo_readCount at hF
  refine am_ev.of true rfl ?_
  show am_go sc _ _ _ _ (0, [some (.ref 16), none], [], zz_hM c s t, true) _
  refine am_go.blk hcd_mo_readCount 5 (g := (11, [some (.ref 16), none], [.long (4 : Int64), .long (4 : Int64), .long (4 : Int64), .int (0 : Int32), .ref 16], zz_hM c s t, true)) rfl ?_
  obtain ⟨q1, hq1, hF⟩ := am_bd hF
  refine am_go.call hcd_mo_readCount rfl rfl rfl rfl (am_le8 rfl) (am_ev.le (by decide) (tz_mo_open (c := c) (t := t) hq1)) ?_
  refine am_go.blk hcd_mo_readCount 5 (g := (bif decide (¬ q1.1 = (4 : Int32)) then 35 else 21, [some (.ref 16), some (.int q1.1)], [.ref 16], zz_hM c q1.2 t, true)) rfl ?_
  refine am_go.br (fun hP => ?_) (fun hP => ?_)
  · replace hF := (if_pos hP).symm.trans hF
    refine am_go.blk hcd_mo_readCount 1 (g := (36, [some (.ref 16), some (.int q1.1)], [.int (0 : Int32), .ref 16], zz_hM c q1.2 t, true)) rfl ?_
    refine am_go.fgl [some (.ref 16), none] ⟨rfl, trivial⟩ ?_
    exact tz_mo_readCount_36  hF
  · replace hF := (if_neg hP).symm.trans hF
    refine am_go.blk hcd_mo_readCount 5 (g := (28, [some (.ref 16), some (.int q1.1)], [.long (64 : Int64), .long (0 : Int64), .int (0 : Int32), .int (4 : Int32), .ref 16, .ref 16], zz_hM c q1.2 t, true)) rfl ?_
    obtain ⟨q2, hq2, hF⟩ := am_bd hF
    refine am_go.call hcd_mo_readCount rfl rfl rfl rfl (am_le8 rfl) (am_ev.le (by decide) (tz_mo_ask (c := c) (t := t) hq2)) ?_
    refine am_go.blk hcd_mo_readCount 2 (g := (36, [some (.ref 16), some (.int q1.1)], [.int (Int64.toInt32 q2.1), .ref 16], zz_hM c q2.2 t, true)) rfl ?_
    refine am_go.fgl [some (.ref 16), none] ⟨rfl, trivial⟩ ?_
    exact tz_mo_readCount_36  hF
theorem hcd_mo_keep : am_code 144 = am_c_mo_keep := rfl
def fz_mo_keep (s : am_Z) (x1 : Int32) : Option (am_Z) :=
  if (s.1 10) ≤ x1 then
    some s
  else
  if x1 < 0 ∨ 64 ≤ Int32.toNatClampNeg x1 then none else
  some (zz_r s 2 (upd (s.2.2 2) (Int32.toNatClampNeg x1) (s.1 17)))
theorem tz_mo_keep {sc : am_S} {c : am_Z} {t : am_H} {s : am_Z} {x1 : Int32} {r : am_Z} (hF : fz_mo_keep s x1 = some r) : am_ev sc 1 144 [.ref 16, .int x1] (zz_hM c s t) ((.inl (none), zz_hM c r t, true) : am_R) := by
  unfold fz_mo_keep at hF
  refine am_ev.of true rfl ?_
  show am_go sc _ _ _ _ (0, [some (.ref 16), some (.int x1)], [], zz_hM c s t, true) _
  refine am_go.blk hcd_mo_keep 4 (g := (bif decide ((s.1 10) ≤ x1) then 18 else 8, [some (.ref 16), some (.int x1)], [], zz_hM c s t, true)) rfl ?_
  refine am_go.br (fun hP => ?_) (fun hP => ?_)
  · replace hF := (if_pos hP).symm.trans hF
    cases hF
    exact am_go.ret hcd_mo_keep rfl rfl ⟨rfl, rfl, (fun h => by cases h), rfl, rfl⟩
  · replace hF := (if_neg hP).symm.trans hF
    refine am_go.blk hcd_mo_keep 5 (g := (17, [some (.ref 16), some (.int x1)], [.int (s.1 17), .int x1, .ref 19], zz_hM c s t, true)) rfl ?_
    obtain ⟨hi1, hF⟩ := am_ng hF
    refine am_go.iast hcd_mo_keep rfl rfl hi1 ?_
    cases hF
    exact am_go.ret hcd_mo_keep rfl rfl ⟨rfl, rfl, (fun h => by cases h), rfl, rfl⟩
theorem hcd_mo_step : am_code 111 = am_c_mo_step := rfl
def fz_mo_step (x0 : Int32) : Option (Int32) :=
  if Int32.toInt x0 < 0 ∨ 87 < Int32.toInt x0 then
    some (32767 : Int32)
  else
  if x0 = 0 then
    some (7 : Int32)
  else
  if x0 = 1 then
    some (8 : Int32)
  else
  if x0 = 2 then
    some (9 : Int32)
  else
  if x0 = 3 then
    some (10 : Int32)
  else
  if x0 = 4 then
    some (11 : Int32)
  else
  if x0 = 5 then
    some (12 : Int32)
  else
  if x0 = 6 then
    some (13 : Int32)
  else
  if x0 = 7 then
    some (14 : Int32)
  else
  if x0 = 8 then
    some (16 : Int32)
  else
  if x0 = 9 then
    some (17 : Int32)
  else
  if x0 = 10 then
    some (19 : Int32)
  else
  if x0 = 11 then
    some (21 : Int32)
  else
  if x0 = 12 then
    some (23 : Int32)
  else
  if x0 = 13 then
    some (25 : Int32)
  else
  if x0 = 14 then
    some (28 : Int32)
  else
  if x0 = 15 then
    some (31 : Int32)
  else
  if x0 = 16 then
    some (34 : Int32)
  else
  if x0 = 17 then
    some (37 : Int32)
  else
  if x0 = 18 then
    some (41 : Int32)
  else
  if x0 = 19 then
    some (45 : Int32)
  else
  if x0 = 20 then
    some (50 : Int32)
  else
  if x0 = 21 then
    some (55 : Int32)
  else
  if x0 = 22 then
    some (60 : Int32)
  else
  if x0 = 23 then
    some (66 : Int32)
  else
  if x0 = 24 then
    some (73 : Int32)
  else
  if x0 = 25 then
    some (80 : Int32)
  else
  if x0 = 26 then
    some (88 : Int32)
  else
  if x0 = 27 then
    some (97 : Int32)
  else
  if x0 = 28 then
    some (107 : Int32)
  else
  if x0 = 29 then
    some (118 : Int32)
  else
  if x0 = 30 then
    some (130 : Int32)
  else
  if x0 = 31 then
    some (143 : Int32)
  else
  if x0 = 32 then
    some (157 : Int32)
  else
  if x0 = 33 then
    some (173 : Int32)
  else
  if x0 = 34 then
    some (190 : Int32)
  else
  if x0 = 35 then
    some (209 : Int32)
  else
  if x0 = 36 then
    some (230 : Int32)
  else
  if x0 = 37 then
    some (253 : Int32)
  else
  if x0 = 38 then
    some (279 : Int32)
  else
  if x0 = 39 then
    some (307 : Int32)
  else
  if x0 = 40 then
    some (337 : Int32)
  else
  if x0 = 41 then
    some (371 : Int32)
  else
  if x0 = 42 then
    some (408 : Int32)
  else
  if x0 = 43 then
    some (449 : Int32)
  else
  if x0 = 44 then
    some (494 : Int32)
  else
  if x0 = 45 then
    some (544 : Int32)
  else
  if x0 = 46 then
    some (598 : Int32)
  else
  if x0 = 47 then
    some (658 : Int32)
  else
  if x0 = 48 then
    some (724 : Int32)
  else
  if x0 = 49 then
    some (796 : Int32)
  else
  if x0 = 50 then
    some (876 : Int32)
  else
  if x0 = 51 then
    some (963 : Int32)
  else
  if x0 = 52 then
    some (1060 : Int32)
  else
  if x0 = 53 then
    some (1166 : Int32)
  else
  if x0 = 54 then
    some (1282 : Int32)
  else
  if x0 = 55 then
    some (1411 : Int32)
  else
  if x0 = 56 then
    some (1552 : Int32)
  else
  if x0 = 57 then
    some (1707 : Int32)
  else
  if x0 = 58 then
    some (1878 : Int32)
  else
  if x0 = 59 then
    some (2066 : Int32)
  else
  if x0 = 60 then
    some (2272 : Int32)
  else
  if x0 = 61 then
    some (2499 : Int32)
  else
  if x0 = 62 then
    some (2749 : Int32)
  else
  if x0 = 63 then
    some (3024 : Int32)
  else
  if x0 = 64 then
    some (3327 : Int32)
  else
  if x0 = 65 then
    some (3660 : Int32)
  else
  if x0 = 66 then
    some (4026 : Int32)
  else
  if x0 = 67 then
    some (4428 : Int32)
  else
  if x0 = 68 then
    some (4871 : Int32)
  else
  if x0 = 69 then
    some (5358 : Int32)
  else
  if x0 = 70 then
    some (5894 : Int32)
  else
  if x0 = 71 then
    some (6484 : Int32)
  else
  if x0 = 72 then
    some (7132 : Int32)
  else
  if x0 = 73 then
    some (7845 : Int32)
  else
  if x0 = 74 then
    some (8630 : Int32)
  else
  if x0 = 75 then
    some (9493 : Int32)
  else
  if x0 = 76 then
    some (10442 : Int32)
  else
  if x0 = 77 then
    some (11487 : Int32)
  else
  if x0 = 78 then
    some (12635 : Int32)
  else
  if x0 = 79 then
    some (13899 : Int32)
  else
  if x0 = 80 then
    some (15289 : Int32)
  else
  if x0 = 81 then
    some (16818 : Int32)
  else
  if x0 = 82 then
    some (18500 : Int32)
  else
  if x0 = 83 then
    some (20350 : Int32)
  else
  if x0 = 84 then
    some (22385 : Int32)
  else
  if x0 = 85 then
    some (24623 : Int32)
  else
  if x0 = 86 then
    some (27086 : Int32)
  else
  if x0 = 87 then
    some (29794 : Int32)
  else
  none
set_option maxRecDepth 20000 in
theorem tz_mo_step {sc : am_S} {h : am_H} {x0 : Int32} {r : Int32} (hF : fz_mo_step x0 = some r) : am_ev sc 1 111 [.int x0] (h) ((.inl (some (.int r)), h, false) : am_R) := by
  unfold fz_mo_step at hF
  refine am_ev.of false rfl ?_
  show am_go sc _ _ _ _ (0, [some (.int x0)], [], h, false) _
  refine am_go.blk hcd_mo_step 1 (g := (1, [some (.int x0)], [.int x0], h, false)) rfl ?_
  by_cases hsw : Int32.toInt x0 < 0 ∨ 87 < Int32.toInt x0
  · replace hF := (if_pos hsw).symm.trans hF
    refine am_go.tsO hcd_mo_step rfl hsw rfl (t := 690) ?_
    refine am_go.blk hcd_mo_step 1 (g := (693, [some (.int x0)], [.int (32767 : Int32)], h, false)) rfl ?_
    cases hF
    exact am_go.ret hcd_mo_step rfl rfl ⟨rfl, rfl, (fun _ => rfl), Or.inl rfl, rfl⟩
  replace hF := (if_neg hsw).symm.trans hF
  by_cases hc : x0 = 0
  · replace hF := (if_pos hc).symm.trans hF
    refine am_go.tsI hcd_mo_step rfl hc (by decide) rfl rfl (t := 368) ?_
    refine am_go.blk hcd_mo_step 1 (g := (370, [some (.int x0)], [.int (7 : Int32)], h, false)) rfl ?_
    cases hF
    exact am_go.ret hcd_mo_step rfl rfl ⟨rfl, rfl, (fun _ => rfl), Or.inl rfl, rfl⟩
  replace hF := (if_neg hc).symm.trans hF
  by_cases hc : x0 = 1
  · replace hF := (if_pos hc).symm.trans hF
    refine am_go.tsI hcd_mo_step rfl hc (by decide) rfl rfl (t := 371) ?_
    refine am_go.blk hcd_mo_step 1 (g := (373, [some (.int x0)], [.int (8 : Int32)], h, false)) rfl ?_
    cases hF
    exact am_go.ret hcd_mo_step rfl rfl ⟨rfl, rfl, (fun _ => rfl), Or.inl rfl, rfl⟩
  replace hF := (if_neg hc).symm.trans hF
  by_cases hc : x0 = 2
  · replace hF := (if_pos hc).symm.trans hF
    refine am_go.tsI hcd_mo_step rfl hc (by decide) rfl rfl (t := 374) ?_
    refine am_go.blk hcd_mo_step 1 (g := (376, [some (.int x0)], [.int (9 : Int32)], h, false)) rfl ?_
    cases hF
    exact am_go.ret hcd_mo_step rfl rfl ⟨rfl, rfl, (fun _ => rfl), Or.inl rfl, rfl⟩
  replace hF := (if_neg hc).symm.trans hF
  by_cases hc : x0 = 3
  · replace hF := (if_pos hc).symm.trans hF
    refine am_go.tsI hcd_mo_step rfl hc (by decide) rfl rfl (t := 377) ?_
    refine am_go.blk hcd_mo_step 1 (g := (379, [some (.int x0)], [.int (10 : Int32)], h, false)) rfl ?_
    cases hF
    exact am_go.ret hcd_mo_step rfl rfl ⟨rfl, rfl, (fun _ => rfl), Or.inl rfl, rfl⟩
  replace hF := (if_neg hc).symm.trans hF
  by_cases hc : x0 = 4
  · replace hF := (if_pos hc).symm.trans hF
    refine am_go.tsI hcd_mo_step rfl hc (by decide) rfl rfl (t := 380) ?_
    refine am_go.blk hcd_mo_step 1 (g := (382, [some (.int x0)], [.int (11 : Int32)], h, false)) rfl ?_
    cases hF
    exact am_go.ret hcd_mo_step rfl rfl ⟨rfl, rfl, (fun _ => rfl), Or.inl rfl, rfl⟩
  replace hF := (if_neg hc).symm.trans hF
  by_cases hc : x0 = 5
  · replace hF := (if_pos hc).symm.trans hF
    refine am_go.tsI hcd_mo_step rfl hc (by decide) rfl rfl (t := 383) ?_
    refine am_go.blk hcd_mo_step 1 (g := (385, [some (.int x0)], [.int (12 : Int32)], h, false)) rfl ?_
    cases hF
    exact am_go.ret hcd_mo_step rfl rfl ⟨rfl, rfl, (fun _ => rfl), Or.inl rfl, rfl⟩
  replace hF := (if_neg hc).symm.trans hF
  by_cases hc : x0 = 6
  · replace hF := (if_pos hc).symm.trans hF
    refine am_go.tsI hcd_mo_step rfl hc (by decide) rfl rfl (t := 386) ?_
    refine am_go.blk hcd_mo_step 1 (g := (388, [some (.int x0)], [.int (13 : Int32)], h, false)) rfl ?_
    cases hF
    exact am_go.ret hcd_mo_step rfl rfl ⟨rfl, rfl, (fun _ => rfl), Or.inl rfl, rfl⟩
  replace hF := (if_neg hc).symm.trans hF
  by_cases hc : x0 = 7
  · replace hF := (if_pos hc).symm.trans hF
    refine am_go.tsI hcd_mo_step rfl hc (by decide) rfl rfl (t := 389) ?_
    refine am_go.blk hcd_mo_step 1 (g := (391, [some (.int x0)], [.int (14 : Int32)], h, false)) rfl ?_
    cases hF
    exact am_go.ret hcd_mo_step rfl rfl ⟨rfl, rfl, (fun _ => rfl), Or.inl rfl, rfl⟩
  replace hF := (if_neg hc).symm.trans hF
  by_cases hc : x0 = 8
  · replace hF := (if_pos hc).symm.trans hF
    refine am_go.tsI hcd_mo_step rfl hc (by decide) rfl rfl (t := 392) ?_
    refine am_go.blk hcd_mo_step 1 (g := (394, [some (.int x0)], [.int (16 : Int32)], h, false)) rfl ?_
    cases hF
    exact am_go.ret hcd_mo_step rfl rfl ⟨rfl, rfl, (fun _ => rfl), Or.inl rfl, rfl⟩
  replace hF := (if_neg hc).symm.trans hF
  by_cases hc : x0 = 9
  · replace hF := (if_pos hc).symm.trans hF
    refine am_go.tsI hcd_mo_step rfl hc (by decide) rfl rfl (t := 395) ?_
    refine am_go.blk hcd_mo_step 1 (g := (397, [some (.int x0)], [.int (17 : Int32)], h, false)) rfl ?_
    cases hF
    exact am_go.ret hcd_mo_step rfl rfl ⟨rfl, rfl, (fun _ => rfl), Or.inl rfl, rfl⟩
  replace hF := (if_neg hc).symm.trans hF
  by_cases hc : x0 = 10
  · replace hF := (if_pos hc).symm.trans hF
    refine am_go.tsI hcd_mo_step rfl hc (by decide) rfl rfl (t := 398) ?_
    refine am_go.blk hcd_mo_step 1 (g := (400, [some (.int x0)], [.int (19 : Int32)], h, false)) rfl ?_
    cases hF
    exact am_go.ret hcd_mo_step rfl rfl ⟨rfl, rfl, (fun _ => rfl), Or.inl rfl, rfl⟩
  replace hF := (if_neg hc).symm.trans hF
  by_cases hc : x0 = 11
  · replace hF := (if_pos hc).symm.trans hF
    refine am_go.tsI hcd_mo_step rfl hc (by decide) rfl rfl (t := 401) ?_
    refine am_go.blk hcd_mo_step 1 (g := (403, [some (.int x0)], [.int (21 : Int32)], h, false)) rfl ?_
    cases hF
    exact am_go.ret hcd_mo_step rfl rfl ⟨rfl, rfl, (fun _ => rfl), Or.inl rfl, rfl⟩
  replace hF := (if_neg hc).symm.trans hF
  by_cases hc : x0 = 12
  · replace hF := (if_pos hc).symm.trans hF
    refine am_go.tsI hcd_mo_step rfl hc (by decide) rfl rfl (t := 404) ?_
    refine am_go.blk hcd_mo_step 1 (g := (406, [some (.int x0)], [.int (23 : Int32)], h, false)) rfl ?_
    cases hF
    exact am_go.ret hcd_mo_step rfl rfl ⟨rfl, rfl, (fun _ => rfl), Or.inl rfl, rfl⟩
  replace hF := (if_neg hc).symm.trans hF
  by_cases hc : x0 = 13
  · replace hF := (if_pos hc).symm.trans hF
    refine am_go.tsI hcd_mo_step rfl hc (by decide) rfl rfl (t := 407) ?_
    refine am_go.blk hcd_mo_step 1 (g := (409, [some (.int x0)], [.int (25 : Int32)], h, false)) rfl ?_
    cases hF
    exact am_go.ret hcd_mo_step rfl rfl ⟨rfl, rfl, (fun _ => rfl), Or.inl rfl, rfl⟩
  replace hF := (if_neg hc).symm.trans hF
  by_cases hc : x0 = 14
  · replace hF := (if_pos hc).symm.trans hF
    refine am_go.tsI hcd_mo_step rfl hc (by decide) rfl rfl (t := 410) ?_
    refine am_go.blk hcd_mo_step 1 (g := (412, [some (.int x0)], [.int (28 : Int32)], h, false)) rfl ?_
    cases hF
    exact am_go.ret hcd_mo_step rfl rfl ⟨rfl, rfl, (fun _ => rfl), Or.inl rfl, rfl⟩
  replace hF := (if_neg hc).symm.trans hF
  by_cases hc : x0 = 15
  · replace hF := (if_pos hc).symm.trans hF
    refine am_go.tsI hcd_mo_step rfl hc (by decide) rfl rfl (t := 413) ?_
    refine am_go.blk hcd_mo_step 1 (g := (415, [some (.int x0)], [.int (31 : Int32)], h, false)) rfl ?_
    cases hF
    exact am_go.ret hcd_mo_step rfl rfl ⟨rfl, rfl, (fun _ => rfl), Or.inl rfl, rfl⟩
  replace hF := (if_neg hc).symm.trans hF
  by_cases hc : x0 = 16
  · replace hF := (if_pos hc).symm.trans hF
    refine am_go.tsI hcd_mo_step rfl hc (by decide) rfl rfl (t := 416) ?_
    refine am_go.blk hcd_mo_step 1 (g := (418, [some (.int x0)], [.int (34 : Int32)], h, false)) rfl ?_
    cases hF
    exact am_go.ret hcd_mo_step rfl rfl ⟨rfl, rfl, (fun _ => rfl), Or.inl rfl, rfl⟩
  replace hF := (if_neg hc).symm.trans hF
  by_cases hc : x0 = 17
  · replace hF := (if_pos hc).symm.trans hF
    refine am_go.tsI hcd_mo_step rfl hc (by decide) rfl rfl (t := 419) ?_
    refine am_go.blk hcd_mo_step 1 (g := (421, [some (.int x0)], [.int (37 : Int32)], h, false)) rfl ?_
    cases hF
    exact am_go.ret hcd_mo_step rfl rfl ⟨rfl, rfl, (fun _ => rfl), Or.inl rfl, rfl⟩
  replace hF := (if_neg hc).symm.trans hF
  by_cases hc : x0 = 18
  · replace hF := (if_pos hc).symm.trans hF
    refine am_go.tsI hcd_mo_step rfl hc (by decide) rfl rfl (t := 422) ?_
    refine am_go.blk hcd_mo_step 1 (g := (424, [some (.int x0)], [.int (41 : Int32)], h, false)) rfl ?_
    cases hF
    exact am_go.ret hcd_mo_step rfl rfl ⟨rfl, rfl, (fun _ => rfl), Or.inl rfl, rfl⟩
  replace hF := (if_neg hc).symm.trans hF
  by_cases hc : x0 = 19
  · replace hF := (if_pos hc).symm.trans hF
    refine am_go.tsI hcd_mo_step rfl hc (by decide) rfl rfl (t := 425) ?_
    refine am_go.blk hcd_mo_step 1 (g := (427, [some (.int x0)], [.int (45 : Int32)], h, false)) rfl ?_
    cases hF
    exact am_go.ret hcd_mo_step rfl rfl ⟨rfl, rfl, (fun _ => rfl), Or.inl rfl, rfl⟩
  replace hF := (if_neg hc).symm.trans hF
  by_cases hc : x0 = 20
  · replace hF := (if_pos hc).symm.trans hF
    refine am_go.tsI hcd_mo_step rfl hc (by decide) rfl rfl (t := 428) ?_
    refine am_go.blk hcd_mo_step 1 (g := (430, [some (.int x0)], [.int (50 : Int32)], h, false)) rfl ?_
    cases hF
    exact am_go.ret hcd_mo_step rfl rfl ⟨rfl, rfl, (fun _ => rfl), Or.inl rfl, rfl⟩
  replace hF := (if_neg hc).symm.trans hF
  by_cases hc : x0 = 21
  · replace hF := (if_pos hc).symm.trans hF
    refine am_go.tsI hcd_mo_step rfl hc (by decide) rfl rfl (t := 431) ?_
    refine am_go.blk hcd_mo_step 1 (g := (433, [some (.int x0)], [.int (55 : Int32)], h, false)) rfl ?_
    cases hF
    exact am_go.ret hcd_mo_step rfl rfl ⟨rfl, rfl, (fun _ => rfl), Or.inl rfl, rfl⟩
  replace hF := (if_neg hc).symm.trans hF
  by_cases hc : x0 = 22
  · replace hF := (if_pos hc).symm.trans hF
    refine am_go.tsI hcd_mo_step rfl hc (by decide) rfl rfl (t := 434) ?_
    refine am_go.blk hcd_mo_step 1 (g := (436, [some (.int x0)], [.int (60 : Int32)], h, false)) rfl ?_
    cases hF
    exact am_go.ret hcd_mo_step rfl rfl ⟨rfl, rfl, (fun _ => rfl), Or.inl rfl, rfl⟩
  replace hF := (if_neg hc).symm.trans hF
  by_cases hc : x0 = 23
  · replace hF := (if_pos hc).symm.trans hF
    refine am_go.tsI hcd_mo_step rfl hc (by decide) rfl rfl (t := 437) ?_
    refine am_go.blk hcd_mo_step 1 (g := (439, [some (.int x0)], [.int (66 : Int32)], h, false)) rfl ?_
    cases hF
    exact am_go.ret hcd_mo_step rfl rfl ⟨rfl, rfl, (fun _ => rfl), Or.inl rfl, rfl⟩
  replace hF := (if_neg hc).symm.trans hF
  by_cases hc : x0 = 24
  · replace hF := (if_pos hc).symm.trans hF
    refine am_go.tsI hcd_mo_step rfl hc (by decide) rfl rfl (t := 440) ?_
    refine am_go.blk hcd_mo_step 1 (g := (442, [some (.int x0)], [.int (73 : Int32)], h, false)) rfl ?_
    cases hF
    exact am_go.ret hcd_mo_step rfl rfl ⟨rfl, rfl, (fun _ => rfl), Or.inl rfl, rfl⟩
  replace hF := (if_neg hc).symm.trans hF
  by_cases hc : x0 = 25
  · replace hF := (if_pos hc).symm.trans hF
    refine am_go.tsI hcd_mo_step rfl hc (by decide) rfl rfl (t := 443) ?_
    refine am_go.blk hcd_mo_step 1 (g := (445, [some (.int x0)], [.int (80 : Int32)], h, false)) rfl ?_
    cases hF
    exact am_go.ret hcd_mo_step rfl rfl ⟨rfl, rfl, (fun _ => rfl), Or.inl rfl, rfl⟩
  replace hF := (if_neg hc).symm.trans hF
  by_cases hc : x0 = 26
  · replace hF := (if_pos hc).symm.trans hF
    refine am_go.tsI hcd_mo_step rfl hc (by decide) rfl rfl (t := 446) ?_
    refine am_go.blk hcd_mo_step 1 (g := (448, [some (.int x0)], [.int (88 : Int32)], h, false)) rfl ?_
    cases hF
    exact am_go.ret hcd_mo_step rfl rfl ⟨rfl, rfl, (fun _ => rfl), Or.inl rfl, rfl⟩
  replace hF := (if_neg hc).symm.trans hF
  by_cases hc : x0 = 27
  · replace hF := (if_pos hc).symm.trans hF
    refine am_go.tsI hcd_mo_step rfl hc (by decide) rfl rfl (t := 449) ?_
    refine am_go.blk hcd_mo_step 1 (g := (451, [some (.int x0)], [.int (97 : Int32)], h, false)) rfl ?_
    cases hF
    exact am_go.ret hcd_mo_step rfl rfl ⟨rfl, rfl, (fun _ => rfl), Or.inl rfl, rfl⟩
  replace hF := (if_neg hc).symm.trans hF
  by_cases hc : x0 = 28
  · replace hF := (if_pos hc).symm.trans hF
    refine am_go.tsI hcd_mo_step rfl hc (by decide) rfl rfl (t := 452) ?_
    refine am_go.blk hcd_mo_step 1 (g := (454, [some (.int x0)], [.int (107 : Int32)], h, false)) rfl ?_
    cases hF
    exact am_go.ret hcd_mo_step rfl rfl ⟨rfl, rfl, (fun _ => rfl), Or.inl rfl, rfl⟩
  replace hF := (if_neg hc).symm.trans hF
  by_cases hc : x0 = 29
  · replace hF := (if_pos hc).symm.trans hF
    refine am_go.tsI hcd_mo_step rfl hc (by decide) rfl rfl (t := 455) ?_
    refine am_go.blk hcd_mo_step 1 (g := (457, [some (.int x0)], [.int (118 : Int32)], h, false)) rfl ?_
    cases hF
    exact am_go.ret hcd_mo_step rfl rfl ⟨rfl, rfl, (fun _ => rfl), Or.inl rfl, rfl⟩
  replace hF := (if_neg hc).symm.trans hF
  by_cases hc : x0 = 30
  · replace hF := (if_pos hc).symm.trans hF
    refine am_go.tsI hcd_mo_step rfl hc (by decide) rfl rfl (t := 458) ?_
    refine am_go.blk hcd_mo_step 1 (g := (461, [some (.int x0)], [.int (130 : Int32)], h, false)) rfl ?_
    cases hF
    exact am_go.ret hcd_mo_step rfl rfl ⟨rfl, rfl, (fun _ => rfl), Or.inl rfl, rfl⟩
  replace hF := (if_neg hc).symm.trans hF
  by_cases hc : x0 = 31
  · replace hF := (if_pos hc).symm.trans hF
    refine am_go.tsI hcd_mo_step rfl hc (by decide) rfl rfl (t := 462) ?_
    refine am_go.blk hcd_mo_step 1 (g := (465, [some (.int x0)], [.int (143 : Int32)], h, false)) rfl ?_
    cases hF
    exact am_go.ret hcd_mo_step rfl rfl ⟨rfl, rfl, (fun _ => rfl), Or.inl rfl, rfl⟩
  replace hF := (if_neg hc).symm.trans hF
  by_cases hc : x0 = 32
  · replace hF := (if_pos hc).symm.trans hF
    refine am_go.tsI hcd_mo_step rfl hc (by decide) rfl rfl (t := 466) ?_
    refine am_go.blk hcd_mo_step 1 (g := (469, [some (.int x0)], [.int (157 : Int32)], h, false)) rfl ?_
    cases hF
    exact am_go.ret hcd_mo_step rfl rfl ⟨rfl, rfl, (fun _ => rfl), Or.inl rfl, rfl⟩
  replace hF := (if_neg hc).symm.trans hF
  by_cases hc : x0 = 33
  · replace hF := (if_pos hc).symm.trans hF
    refine am_go.tsI hcd_mo_step rfl hc (by decide) rfl rfl (t := 470) ?_
    refine am_go.blk hcd_mo_step 1 (g := (473, [some (.int x0)], [.int (173 : Int32)], h, false)) rfl ?_
    cases hF
    exact am_go.ret hcd_mo_step rfl rfl ⟨rfl, rfl, (fun _ => rfl), Or.inl rfl, rfl⟩
  replace hF := (if_neg hc).symm.trans hF
  by_cases hc : x0 = 34
  · replace hF := (if_pos hc).symm.trans hF
    refine am_go.tsI hcd_mo_step rfl hc (by decide) rfl rfl (t := 474) ?_
    refine am_go.blk hcd_mo_step 1 (g := (477, [some (.int x0)], [.int (190 : Int32)], h, false)) rfl ?_
    cases hF
    exact am_go.ret hcd_mo_step rfl rfl ⟨rfl, rfl, (fun _ => rfl), Or.inl rfl, rfl⟩
  replace hF := (if_neg hc).symm.trans hF
  by_cases hc : x0 = 35
  · replace hF := (if_pos hc).symm.trans hF
    refine am_go.tsI hcd_mo_step rfl hc (by decide) rfl rfl (t := 478) ?_
    refine am_go.blk hcd_mo_step 1 (g := (481, [some (.int x0)], [.int (209 : Int32)], h, false)) rfl ?_
    cases hF
    exact am_go.ret hcd_mo_step rfl rfl ⟨rfl, rfl, (fun _ => rfl), Or.inl rfl, rfl⟩
  replace hF := (if_neg hc).symm.trans hF
  by_cases hc : x0 = 36
  · replace hF := (if_pos hc).symm.trans hF
    refine am_go.tsI hcd_mo_step rfl hc (by decide) rfl rfl (t := 482) ?_
    refine am_go.blk hcd_mo_step 1 (g := (485, [some (.int x0)], [.int (230 : Int32)], h, false)) rfl ?_
    cases hF
    exact am_go.ret hcd_mo_step rfl rfl ⟨rfl, rfl, (fun _ => rfl), Or.inl rfl, rfl⟩
  replace hF := (if_neg hc).symm.trans hF
  by_cases hc : x0 = 37
  · replace hF := (if_pos hc).symm.trans hF
    refine am_go.tsI hcd_mo_step rfl hc (by decide) rfl rfl (t := 486) ?_
    refine am_go.blk hcd_mo_step 1 (g := (489, [some (.int x0)], [.int (253 : Int32)], h, false)) rfl ?_
    cases hF
    exact am_go.ret hcd_mo_step rfl rfl ⟨rfl, rfl, (fun _ => rfl), Or.inl rfl, rfl⟩
  replace hF := (if_neg hc).symm.trans hF
  by_cases hc : x0 = 38
  · replace hF := (if_pos hc).symm.trans hF
    refine am_go.tsI hcd_mo_step rfl hc (by decide) rfl rfl (t := 490) ?_
    refine am_go.blk hcd_mo_step 1 (g := (493, [some (.int x0)], [.int (279 : Int32)], h, false)) rfl ?_
    cases hF
    exact am_go.ret hcd_mo_step rfl rfl ⟨rfl, rfl, (fun _ => rfl), Or.inl rfl, rfl⟩
  replace hF := (if_neg hc).symm.trans hF
  by_cases hc : x0 = 39
  · replace hF := (if_pos hc).symm.trans hF
    refine am_go.tsI hcd_mo_step rfl hc (by decide) rfl rfl (t := 494) ?_
    refine am_go.blk hcd_mo_step 1 (g := (497, [some (.int x0)], [.int (307 : Int32)], h, false)) rfl ?_
    cases hF
    exact am_go.ret hcd_mo_step rfl rfl ⟨rfl, rfl, (fun _ => rfl), Or.inl rfl, rfl⟩
  replace hF := (if_neg hc).symm.trans hF
  by_cases hc : x0 = 40
  · replace hF := (if_pos hc).symm.trans hF
    refine am_go.tsI hcd_mo_step rfl hc (by decide) rfl rfl (t := 498) ?_
    refine am_go.blk hcd_mo_step 1 (g := (501, [some (.int x0)], [.int (337 : Int32)], h, false)) rfl ?_
    cases hF
    exact am_go.ret hcd_mo_step rfl rfl ⟨rfl, rfl, (fun _ => rfl), Or.inl rfl, rfl⟩
  replace hF := (if_neg hc).symm.trans hF
  by_cases hc : x0 = 41
  · replace hF := (if_pos hc).symm.trans hF
    refine am_go.tsI hcd_mo_step rfl hc (by decide) rfl rfl (t := 502) ?_
    refine am_go.blk hcd_mo_step 1 (g := (505, [some (.int x0)], [.int (371 : Int32)], h, false)) rfl ?_
    cases hF
    exact am_go.ret hcd_mo_step rfl rfl ⟨rfl, rfl, (fun _ => rfl), Or.inl rfl, rfl⟩
  replace hF := (if_neg hc).symm.trans hF
  by_cases hc : x0 = 42
  · replace hF := (if_pos hc).symm.trans hF
    refine am_go.tsI hcd_mo_step rfl hc (by decide) rfl rfl (t := 506) ?_
    refine am_go.blk hcd_mo_step 1 (g := (509, [some (.int x0)], [.int (408 : Int32)], h, false)) rfl ?_
    cases hF
    exact am_go.ret hcd_mo_step rfl rfl ⟨rfl, rfl, (fun _ => rfl), Or.inl rfl, rfl⟩
  replace hF := (if_neg hc).symm.trans hF
  by_cases hc : x0 = 43
  · replace hF := (if_pos hc).symm.trans hF
    refine am_go.tsI hcd_mo_step rfl hc (by decide) rfl rfl (t := 510) ?_
    refine am_go.blk hcd_mo_step 1 (g := (513, [some (.int x0)], [.int (449 : Int32)], h, false)) rfl ?_
    cases hF
    exact am_go.ret hcd_mo_step rfl rfl ⟨rfl, rfl, (fun _ => rfl), Or.inl rfl, rfl⟩
  replace hF := (if_neg hc).symm.trans hF
  by_cases hc : x0 = 44
  · replace hF := (if_pos hc).symm.trans hF
    refine am_go.tsI hcd_mo_step rfl hc (by decide) rfl rfl (t := 514) ?_
    refine am_go.blk hcd_mo_step 1 (g := (517, [some (.int x0)], [.int (494 : Int32)], h, false)) rfl ?_
    cases hF
    exact am_go.ret hcd_mo_step rfl rfl ⟨rfl, rfl, (fun _ => rfl), Or.inl rfl, rfl⟩
  replace hF := (if_neg hc).symm.trans hF
  by_cases hc : x0 = 45
  · replace hF := (if_pos hc).symm.trans hF
    refine am_go.tsI hcd_mo_step rfl hc (by decide) rfl rfl (t := 518) ?_
    refine am_go.blk hcd_mo_step 1 (g := (521, [some (.int x0)], [.int (544 : Int32)], h, false)) rfl ?_
    cases hF
    exact am_go.ret hcd_mo_step rfl rfl ⟨rfl, rfl, (fun _ => rfl), Or.inl rfl, rfl⟩
  replace hF := (if_neg hc).symm.trans hF
  by_cases hc : x0 = 46
  · replace hF := (if_pos hc).symm.trans hF
    refine am_go.tsI hcd_mo_step rfl hc (by decide) rfl rfl (t := 522) ?_
    refine am_go.blk hcd_mo_step 1 (g := (525, [some (.int x0)], [.int (598 : Int32)], h, false)) rfl ?_
    cases hF
    exact am_go.ret hcd_mo_step rfl rfl ⟨rfl, rfl, (fun _ => rfl), Or.inl rfl, rfl⟩
  replace hF := (if_neg hc).symm.trans hF
  by_cases hc : x0 = 47
  · replace hF := (if_pos hc).symm.trans hF
    refine am_go.tsI hcd_mo_step rfl hc (by decide) rfl rfl (t := 526) ?_
    refine am_go.blk hcd_mo_step 1 (g := (529, [some (.int x0)], [.int (658 : Int32)], h, false)) rfl ?_
    cases hF
    exact am_go.ret hcd_mo_step rfl rfl ⟨rfl, rfl, (fun _ => rfl), Or.inl rfl, rfl⟩
  replace hF := (if_neg hc).symm.trans hF
  by_cases hc : x0 = 48
  · replace hF := (if_pos hc).symm.trans hF
    refine am_go.tsI hcd_mo_step rfl hc (by decide) rfl rfl (t := 530) ?_
    refine am_go.blk hcd_mo_step 1 (g := (533, [some (.int x0)], [.int (724 : Int32)], h, false)) rfl ?_
    cases hF
    exact am_go.ret hcd_mo_step rfl rfl ⟨rfl, rfl, (fun _ => rfl), Or.inl rfl, rfl⟩
  replace hF := (if_neg hc).symm.trans hF
  by_cases hc : x0 = 49
  · replace hF := (if_pos hc).symm.trans hF
    refine am_go.tsI hcd_mo_step rfl hc (by decide) rfl rfl (t := 534) ?_
    refine am_go.blk hcd_mo_step 1 (g := (537, [some (.int x0)], [.int (796 : Int32)], h, false)) rfl ?_
    cases hF
    exact am_go.ret hcd_mo_step rfl rfl ⟨rfl, rfl, (fun _ => rfl), Or.inl rfl, rfl⟩
  replace hF := (if_neg hc).symm.trans hF
  by_cases hc : x0 = 50
  · replace hF := (if_pos hc).symm.trans hF
    refine am_go.tsI hcd_mo_step rfl hc (by decide) rfl rfl (t := 538) ?_
    refine am_go.blk hcd_mo_step 1 (g := (541, [some (.int x0)], [.int (876 : Int32)], h, false)) rfl ?_
    cases hF
    exact am_go.ret hcd_mo_step rfl rfl ⟨rfl, rfl, (fun _ => rfl), Or.inl rfl, rfl⟩
  replace hF := (if_neg hc).symm.trans hF
  by_cases hc : x0 = 51
  · replace hF := (if_pos hc).symm.trans hF
    refine am_go.tsI hcd_mo_step rfl hc (by decide) rfl rfl (t := 542) ?_
    refine am_go.blk hcd_mo_step 1 (g := (545, [some (.int x0)], [.int (963 : Int32)], h, false)) rfl ?_
    cases hF
    exact am_go.ret hcd_mo_step rfl rfl ⟨rfl, rfl, (fun _ => rfl), Or.inl rfl, rfl⟩
  replace hF := (if_neg hc).symm.trans hF
  by_cases hc : x0 = 52
  · replace hF := (if_pos hc).symm.trans hF
    refine am_go.tsI hcd_mo_step rfl hc (by decide) rfl rfl (t := 546) ?_
    refine am_go.blk hcd_mo_step 1 (g := (549, [some (.int x0)], [.int (1060 : Int32)], h, false)) rfl ?_
    cases hF
    exact am_go.ret hcd_mo_step rfl rfl ⟨rfl, rfl, (fun _ => rfl), Or.inl rfl, rfl⟩
  replace hF := (if_neg hc).symm.trans hF
  by_cases hc : x0 = 53
  · replace hF := (if_pos hc).symm.trans hF
    refine am_go.tsI hcd_mo_step rfl hc (by decide) rfl rfl (t := 550) ?_
    refine am_go.blk hcd_mo_step 1 (g := (553, [some (.int x0)], [.int (1166 : Int32)], h, false)) rfl ?_
    cases hF
    exact am_go.ret hcd_mo_step rfl rfl ⟨rfl, rfl, (fun _ => rfl), Or.inl rfl, rfl⟩
  replace hF := (if_neg hc).symm.trans hF
  by_cases hc : x0 = 54
  · replace hF := (if_pos hc).symm.trans hF
    refine am_go.tsI hcd_mo_step rfl hc (by decide) rfl rfl (t := 554) ?_
    refine am_go.blk hcd_mo_step 1 (g := (557, [some (.int x0)], [.int (1282 : Int32)], h, false)) rfl ?_
    cases hF
    exact am_go.ret hcd_mo_step rfl rfl ⟨rfl, rfl, (fun _ => rfl), Or.inl rfl, rfl⟩
  replace hF := (if_neg hc).symm.trans hF
  by_cases hc : x0 = 55
  · replace hF := (if_pos hc).symm.trans hF
    refine am_go.tsI hcd_mo_step rfl hc (by decide) rfl rfl (t := 558) ?_
    refine am_go.blk hcd_mo_step 1 (g := (561, [some (.int x0)], [.int (1411 : Int32)], h, false)) rfl ?_
    cases hF
    exact am_go.ret hcd_mo_step rfl rfl ⟨rfl, rfl, (fun _ => rfl), Or.inl rfl, rfl⟩
  replace hF := (if_neg hc).symm.trans hF
  by_cases hc : x0 = 56
  · replace hF := (if_pos hc).symm.trans hF
    refine am_go.tsI hcd_mo_step rfl hc (by decide) rfl rfl (t := 562) ?_
    refine am_go.blk hcd_mo_step 1 (g := (565, [some (.int x0)], [.int (1552 : Int32)], h, false)) rfl ?_
    cases hF
    exact am_go.ret hcd_mo_step rfl rfl ⟨rfl, rfl, (fun _ => rfl), Or.inl rfl, rfl⟩
  replace hF := (if_neg hc).symm.trans hF
  by_cases hc : x0 = 57
  · replace hF := (if_pos hc).symm.trans hF
    refine am_go.tsI hcd_mo_step rfl hc (by decide) rfl rfl (t := 566) ?_
    refine am_go.blk hcd_mo_step 1 (g := (569, [some (.int x0)], [.int (1707 : Int32)], h, false)) rfl ?_
    cases hF
    exact am_go.ret hcd_mo_step rfl rfl ⟨rfl, rfl, (fun _ => rfl), Or.inl rfl, rfl⟩
  replace hF := (if_neg hc).symm.trans hF
  by_cases hc : x0 = 58
  · replace hF := (if_pos hc).symm.trans hF
    refine am_go.tsI hcd_mo_step rfl hc (by decide) rfl rfl (t := 570) ?_
    refine am_go.blk hcd_mo_step 1 (g := (573, [some (.int x0)], [.int (1878 : Int32)], h, false)) rfl ?_
    cases hF
    exact am_go.ret hcd_mo_step rfl rfl ⟨rfl, rfl, (fun _ => rfl), Or.inl rfl, rfl⟩
  replace hF := (if_neg hc).symm.trans hF
  by_cases hc : x0 = 59
  · replace hF := (if_pos hc).symm.trans hF
    refine am_go.tsI hcd_mo_step rfl hc (by decide) rfl rfl (t := 574) ?_
    refine am_go.blk hcd_mo_step 1 (g := (577, [some (.int x0)], [.int (2066 : Int32)], h, false)) rfl ?_
    cases hF
    exact am_go.ret hcd_mo_step rfl rfl ⟨rfl, rfl, (fun _ => rfl), Or.inl rfl, rfl⟩
  replace hF := (if_neg hc).symm.trans hF
  by_cases hc : x0 = 60
  · replace hF := (if_pos hc).symm.trans hF
    refine am_go.tsI hcd_mo_step rfl hc (by decide) rfl rfl (t := 578) ?_
    refine am_go.blk hcd_mo_step 1 (g := (581, [some (.int x0)], [.int (2272 : Int32)], h, false)) rfl ?_
    cases hF
    exact am_go.ret hcd_mo_step rfl rfl ⟨rfl, rfl, (fun _ => rfl), Or.inl rfl, rfl⟩
  replace hF := (if_neg hc).symm.trans hF
  by_cases hc : x0 = 61
  · replace hF := (if_pos hc).symm.trans hF
    refine am_go.tsI hcd_mo_step rfl hc (by decide) rfl rfl (t := 582) ?_
    refine am_go.blk hcd_mo_step 1 (g := (585, [some (.int x0)], [.int (2499 : Int32)], h, false)) rfl ?_
    cases hF
    exact am_go.ret hcd_mo_step rfl rfl ⟨rfl, rfl, (fun _ => rfl), Or.inl rfl, rfl⟩
  replace hF := (if_neg hc).symm.trans hF
  by_cases hc : x0 = 62
  · replace hF := (if_pos hc).symm.trans hF
    refine am_go.tsI hcd_mo_step rfl hc (by decide) rfl rfl (t := 586) ?_
    refine am_go.blk hcd_mo_step 1 (g := (589, [some (.int x0)], [.int (2749 : Int32)], h, false)) rfl ?_
    cases hF
    exact am_go.ret hcd_mo_step rfl rfl ⟨rfl, rfl, (fun _ => rfl), Or.inl rfl, rfl⟩
  replace hF := (if_neg hc).symm.trans hF
  by_cases hc : x0 = 63
  · replace hF := (if_pos hc).symm.trans hF
    refine am_go.tsI hcd_mo_step rfl hc (by decide) rfl rfl (t := 590) ?_
    refine am_go.blk hcd_mo_step 1 (g := (593, [some (.int x0)], [.int (3024 : Int32)], h, false)) rfl ?_
    cases hF
    exact am_go.ret hcd_mo_step rfl rfl ⟨rfl, rfl, (fun _ => rfl), Or.inl rfl, rfl⟩
  replace hF := (if_neg hc).symm.trans hF
  by_cases hc : x0 = 64
  · replace hF := (if_pos hc).symm.trans hF
    refine am_go.tsI hcd_mo_step rfl hc (by decide) rfl rfl (t := 594) ?_
    refine am_go.blk hcd_mo_step 1 (g := (597, [some (.int x0)], [.int (3327 : Int32)], h, false)) rfl ?_
    cases hF
    exact am_go.ret hcd_mo_step rfl rfl ⟨rfl, rfl, (fun _ => rfl), Or.inl rfl, rfl⟩
  replace hF := (if_neg hc).symm.trans hF
  by_cases hc : x0 = 65
  · replace hF := (if_pos hc).symm.trans hF
    refine am_go.tsI hcd_mo_step rfl hc (by decide) rfl rfl (t := 598) ?_
    refine am_go.blk hcd_mo_step 1 (g := (601, [some (.int x0)], [.int (3660 : Int32)], h, false)) rfl ?_
    cases hF
    exact am_go.ret hcd_mo_step rfl rfl ⟨rfl, rfl, (fun _ => rfl), Or.inl rfl, rfl⟩
  replace hF := (if_neg hc).symm.trans hF
  by_cases hc : x0 = 66
  · replace hF := (if_pos hc).symm.trans hF
    refine am_go.tsI hcd_mo_step rfl hc (by decide) rfl rfl (t := 602) ?_
    refine am_go.blk hcd_mo_step 1 (g := (605, [some (.int x0)], [.int (4026 : Int32)], h, false)) rfl ?_
    cases hF
    exact am_go.ret hcd_mo_step rfl rfl ⟨rfl, rfl, (fun _ => rfl), Or.inl rfl, rfl⟩
  replace hF := (if_neg hc).symm.trans hF
  by_cases hc : x0 = 67
  · replace hF := (if_pos hc).symm.trans hF
    refine am_go.tsI hcd_mo_step rfl hc (by decide) rfl rfl (t := 606) ?_
    refine am_go.blk hcd_mo_step 1 (g := (609, [some (.int x0)], [.int (4428 : Int32)], h, false)) rfl ?_
    cases hF
    exact am_go.ret hcd_mo_step rfl rfl ⟨rfl, rfl, (fun _ => rfl), Or.inl rfl, rfl⟩
  replace hF := (if_neg hc).symm.trans hF
  by_cases hc : x0 = 68
  · replace hF := (if_pos hc).symm.trans hF
    refine am_go.tsI hcd_mo_step rfl hc (by decide) rfl rfl (t := 610) ?_
    refine am_go.blk hcd_mo_step 1 (g := (613, [some (.int x0)], [.int (4871 : Int32)], h, false)) rfl ?_
    cases hF
    exact am_go.ret hcd_mo_step rfl rfl ⟨rfl, rfl, (fun _ => rfl), Or.inl rfl, rfl⟩
  replace hF := (if_neg hc).symm.trans hF
  by_cases hc : x0 = 69
  · replace hF := (if_pos hc).symm.trans hF
    refine am_go.tsI hcd_mo_step rfl hc (by decide) rfl rfl (t := 614) ?_
    refine am_go.blk hcd_mo_step 1 (g := (617, [some (.int x0)], [.int (5358 : Int32)], h, false)) rfl ?_
    cases hF
    exact am_go.ret hcd_mo_step rfl rfl ⟨rfl, rfl, (fun _ => rfl), Or.inl rfl, rfl⟩
  replace hF := (if_neg hc).symm.trans hF
  by_cases hc : x0 = 70
  · replace hF := (if_pos hc).symm.trans hF
    refine am_go.tsI hcd_mo_step rfl hc (by decide) rfl rfl (t := 618) ?_
    refine am_go.blk hcd_mo_step 1 (g := (621, [some (.int x0)], [.int (5894 : Int32)], h, false)) rfl ?_
    cases hF
    exact am_go.ret hcd_mo_step rfl rfl ⟨rfl, rfl, (fun _ => rfl), Or.inl rfl, rfl⟩
  replace hF := (if_neg hc).symm.trans hF
  by_cases hc : x0 = 71
  · replace hF := (if_pos hc).symm.trans hF
    refine am_go.tsI hcd_mo_step rfl hc (by decide) rfl rfl (t := 622) ?_
    refine am_go.blk hcd_mo_step 1 (g := (625, [some (.int x0)], [.int (6484 : Int32)], h, false)) rfl ?_
    cases hF
    exact am_go.ret hcd_mo_step rfl rfl ⟨rfl, rfl, (fun _ => rfl), Or.inl rfl, rfl⟩
  replace hF := (if_neg hc).symm.trans hF
  by_cases hc : x0 = 72
  · replace hF := (if_pos hc).symm.trans hF
    refine am_go.tsI hcd_mo_step rfl hc (by decide) rfl rfl (t := 626) ?_
    refine am_go.blk hcd_mo_step 1 (g := (629, [some (.int x0)], [.int (7132 : Int32)], h, false)) rfl ?_
    cases hF
    exact am_go.ret hcd_mo_step rfl rfl ⟨rfl, rfl, (fun _ => rfl), Or.inl rfl, rfl⟩
  replace hF := (if_neg hc).symm.trans hF
  by_cases hc : x0 = 73
  · replace hF := (if_pos hc).symm.trans hF
    refine am_go.tsI hcd_mo_step rfl hc (by decide) rfl rfl (t := 630) ?_
    refine am_go.blk hcd_mo_step 1 (g := (633, [some (.int x0)], [.int (7845 : Int32)], h, false)) rfl ?_
    cases hF
    exact am_go.ret hcd_mo_step rfl rfl ⟨rfl, rfl, (fun _ => rfl), Or.inl rfl, rfl⟩
  replace hF := (if_neg hc).symm.trans hF
  by_cases hc : x0 = 74
  · replace hF := (if_pos hc).symm.trans hF
    refine am_go.tsI hcd_mo_step rfl hc (by decide) rfl rfl (t := 634) ?_
    refine am_go.blk hcd_mo_step 1 (g := (637, [some (.int x0)], [.int (8630 : Int32)], h, false)) rfl ?_
    cases hF
    exact am_go.ret hcd_mo_step rfl rfl ⟨rfl, rfl, (fun _ => rfl), Or.inl rfl, rfl⟩
  replace hF := (if_neg hc).symm.trans hF
  by_cases hc : x0 = 75
  · replace hF := (if_pos hc).symm.trans hF
    refine am_go.tsI hcd_mo_step rfl hc (by decide) rfl rfl (t := 638) ?_
    refine am_go.blk hcd_mo_step 1 (g := (641, [some (.int x0)], [.int (9493 : Int32)], h, false)) rfl ?_
    cases hF
    exact am_go.ret hcd_mo_step rfl rfl ⟨rfl, rfl, (fun _ => rfl), Or.inl rfl, rfl⟩
  replace hF := (if_neg hc).symm.trans hF
  by_cases hc : x0 = 76
  · replace hF := (if_pos hc).symm.trans hF
    refine am_go.tsI hcd_mo_step rfl hc (by decide) rfl rfl (t := 642) ?_
    refine am_go.blk hcd_mo_step 1 (g := (645, [some (.int x0)], [.int (10442 : Int32)], h, false)) rfl ?_
    cases hF
    exact am_go.ret hcd_mo_step rfl rfl ⟨rfl, rfl, (fun _ => rfl), Or.inl rfl, rfl⟩
  replace hF := (if_neg hc).symm.trans hF
  by_cases hc : x0 = 77
  · replace hF := (if_pos hc).symm.trans hF
    refine am_go.tsI hcd_mo_step rfl hc (by decide) rfl rfl (t := 646) ?_
    refine am_go.blk hcd_mo_step 1 (g := (649, [some (.int x0)], [.int (11487 : Int32)], h, false)) rfl ?_
    cases hF
    exact am_go.ret hcd_mo_step rfl rfl ⟨rfl, rfl, (fun _ => rfl), Or.inl rfl, rfl⟩
  replace hF := (if_neg hc).symm.trans hF
  by_cases hc : x0 = 78
  · replace hF := (if_pos hc).symm.trans hF
    refine am_go.tsI hcd_mo_step rfl hc (by decide) rfl rfl (t := 650) ?_
    refine am_go.blk hcd_mo_step 1 (g := (653, [some (.int x0)], [.int (12635 : Int32)], h, false)) rfl ?_
    cases hF
    exact am_go.ret hcd_mo_step rfl rfl ⟨rfl, rfl, (fun _ => rfl), Or.inl rfl, rfl⟩
  replace hF := (if_neg hc).symm.trans hF
  by_cases hc : x0 = 79
  · replace hF := (if_pos hc).symm.trans hF
    refine am_go.tsI hcd_mo_step rfl hc (by decide) rfl rfl (t := 654) ?_
    refine am_go.blk hcd_mo_step 1 (g := (657, [some (.int x0)], [.int (13899 : Int32)], h, false)) rfl ?_
    cases hF
    exact am_go.ret hcd_mo_step rfl rfl ⟨rfl, rfl, (fun _ => rfl), Or.inl rfl, rfl⟩
  replace hF := (if_neg hc).symm.trans hF
  by_cases hc : x0 = 80
  · replace hF := (if_pos hc).symm.trans hF
    refine am_go.tsI hcd_mo_step rfl hc (by decide) rfl rfl (t := 658) ?_
    refine am_go.blk hcd_mo_step 1 (g := (661, [some (.int x0)], [.int (15289 : Int32)], h, false)) rfl ?_
    cases hF
    exact am_go.ret hcd_mo_step rfl rfl ⟨rfl, rfl, (fun _ => rfl), Or.inl rfl, rfl⟩
  replace hF := (if_neg hc).symm.trans hF
  by_cases hc : x0 = 81
  · replace hF := (if_pos hc).symm.trans hF
    refine am_go.tsI hcd_mo_step rfl hc (by decide) rfl rfl (t := 662) ?_
    refine am_go.blk hcd_mo_step 1 (g := (665, [some (.int x0)], [.int (16818 : Int32)], h, false)) rfl ?_
    cases hF
    exact am_go.ret hcd_mo_step rfl rfl ⟨rfl, rfl, (fun _ => rfl), Or.inl rfl, rfl⟩
  replace hF := (if_neg hc).symm.trans hF
  by_cases hc : x0 = 82
  · replace hF := (if_pos hc).symm.trans hF
    refine am_go.tsI hcd_mo_step rfl hc (by decide) rfl rfl (t := 666) ?_
    refine am_go.blk hcd_mo_step 1 (g := (669, [some (.int x0)], [.int (18500 : Int32)], h, false)) rfl ?_
    cases hF
    exact am_go.ret hcd_mo_step rfl rfl ⟨rfl, rfl, (fun _ => rfl), Or.inl rfl, rfl⟩
  replace hF := (if_neg hc).symm.trans hF
  by_cases hc : x0 = 83
  · replace hF := (if_pos hc).symm.trans hF
    refine am_go.tsI hcd_mo_step rfl hc (by decide) rfl rfl (t := 670) ?_
    refine am_go.blk hcd_mo_step 1 (g := (673, [some (.int x0)], [.int (20350 : Int32)], h, false)) rfl ?_
    cases hF
    exact am_go.ret hcd_mo_step rfl rfl ⟨rfl, rfl, (fun _ => rfl), Or.inl rfl, rfl⟩
  replace hF := (if_neg hc).symm.trans hF
  by_cases hc : x0 = 84
  · replace hF := (if_pos hc).symm.trans hF
    refine am_go.tsI hcd_mo_step rfl hc (by decide) rfl rfl (t := 674) ?_
    refine am_go.blk hcd_mo_step 1 (g := (677, [some (.int x0)], [.int (22385 : Int32)], h, false)) rfl ?_
    cases hF
    exact am_go.ret hcd_mo_step rfl rfl ⟨rfl, rfl, (fun _ => rfl), Or.inl rfl, rfl⟩
  replace hF := (if_neg hc).symm.trans hF
  by_cases hc : x0 = 85
  · replace hF := (if_pos hc).symm.trans hF
    refine am_go.tsI hcd_mo_step rfl hc (by decide) rfl rfl (t := 678) ?_
    refine am_go.blk hcd_mo_step 1 (g := (681, [some (.int x0)], [.int (24623 : Int32)], h, false)) rfl ?_
    cases hF
    exact am_go.ret hcd_mo_step rfl rfl ⟨rfl, rfl, (fun _ => rfl), Or.inl rfl, rfl⟩
  replace hF := (if_neg hc).symm.trans hF
  by_cases hc : x0 = 86
  · replace hF := (if_pos hc).symm.trans hF
    refine am_go.tsI hcd_mo_step rfl hc (by decide) rfl rfl (t := 682) ?_
    refine am_go.blk hcd_mo_step 1 (g := (685, [some (.int x0)], [.int (27086 : Int32)], h, false)) rfl ?_
    cases hF
    exact am_go.ret hcd_mo_step rfl rfl ⟨rfl, rfl, (fun _ => rfl), Or.inl rfl, rfl⟩
  replace hF := (if_neg hc).symm.trans hF
  by_cases hc : x0 = 87
  · replace hF := (if_pos hc).symm.trans hF
    refine am_go.tsI hcd_mo_step rfl hc (by decide) rfl rfl (t := 686) ?_
    refine am_go.blk hcd_mo_step 1 (g := (689, [some (.int x0)], [.int (29794 : Int32)], h, false)) rfl ?_
    cases hF
    exact am_go.ret hcd_mo_step rfl rfl ⟨rfl, rfl, (fun _ => rfl), Or.inl rfl, rfl⟩
  replace hF := (if_neg hc).symm.trans hF
  cases hF
theorem hcd_mo_clip : am_code 104 = am_c_mo_clip := rfl
def fz_mo_clip (x0 : Int32) : Option (Int32) :=
  if (-32768 : Int32) ≤ x0 then
    if x0 ≤ (32767 : Int32) then
      some x0
    else
    some (32767 : Int32)
  else
  some (-32768 : Int32)
theorem tz_mo_clip {sc : am_S} {h : am_H} {x0 : Int32} {r : Int32} (hF : fz_mo_clip x0 = some r) : am_ev sc 1 104 [.int x0] (h) ((.inl (some (.int r)), h, false) : am_R) := by
  unfold fz_mo_clip at hF
  refine am_ev.of false rfl ?_
  show am_go sc _ _ _ _ (0, [some (.int x0)], [], h, false) _
  refine am_go.blk hcd_mo_clip 3 (g := (bif decide ((-32768 : Int32) ≤ x0) then 13 else 7, [some (.int x0)], [], h, false)) rfl ?_
  refine am_go.br (fun hP => ?_) (fun hP => ?_)
  · replace hF := (if_pos hP).symm.trans hF
    refine am_go.blk hcd_mo_clip 3 (g := (bif decide (x0 ≤ (32767 : Int32)) then 26 else 20, [some (.int x0)], [], h, false)) rfl ?_
    refine am_go.br (fun hP => ?_) (fun hP => ?_)
    · replace hF := (if_pos hP).symm.trans hF
      refine am_go.blk hcd_mo_clip 1 (g := (27, [some (.int x0)], [.int x0], h, false)) rfl ?_
      cases hF
      exact am_go.ret hcd_mo_clip rfl rfl ⟨rfl, rfl, (fun _ => rfl), Or.inl rfl, rfl⟩
    · replace hF := (if_neg hP).symm.trans hF
      refine am_go.blk hcd_mo_clip 2 (g := (27, [some (.int x0)], [.int (32767 : Int32)], h, false)) rfl ?_
      cases hF
      exact am_go.ret hcd_mo_clip rfl rfl ⟨rfl, rfl, (fun _ => rfl), Or.inl rfl, rfl⟩
  · replace hF := (if_neg hP).symm.trans hF
    refine am_go.blk hcd_mo_clip 2 (g := (27, [some (.int x0)], [.int (-32768 : Int32)], h, false)) rfl ?_
    cases hF
    exact am_go.ret hcd_mo_clip rfl rfl ⟨rfl, rfl, (fun _ => rfl), Or.inl rfl, rfl⟩
theorem hcd_mo_stepped : am_code 115 = am_c_mo_stepped := rfl
def fz_mo_stepped_59 (s : am_Z) (y0 : Int32) : Option (Int32) :=
  (fz_mo_clip y0).bind fun q1 =>
  some q1
theorem tz_mo_stepped_59 {sc : am_S} {c : am_Z} {t : am_H} {h0 : am_H} {s : am_Z}  {y0 : Int32} {r : Int32} (hF : fz_mo_stepped_59 s y0 = some r) : am_go sc 2 (am_ev sc 1) 115 h0 (59, [none, none, none, none], [.int y0], zz_hM c s t, false) ((.inl (some (.int r)), zz_hM c s t, false) : am_R) := by
  unfold fz_mo_stepped_59 at hF
  obtain ⟨q1, hq1, hF⟩ := am_bd hF
  refine am_go.call hcd_mo_stepped rfl rfl rfl rfl (am_le8 rfl) (am_ev.le (by decide) (tz_mo_clip (h := zz_hM c s t) hq1)) ?_
  cases hF
  exact am_go.ret hcd_mo_stepped rfl rfl ⟨rfl, rfl, (fun _ => rfl), Or.inl rfl, rfl⟩
def fz_mo_stepped (s : am_Z) (x1 : Int32) : Option (Int32) :=
  (fz_mo_step (s.1 19)).bind fun q1 =>
  if (8 : Int32) ≤ x1 then
    fz_mo_stepped_59 s ((s.1 17) - ((((q1 >>> ((3 : Int32) &&& 31)) + ((x1 &&& (1 : Int32)) * (q1 >>> ((2 : Int32) &&& 31)))) + (((x1 >>> ((1 : Int32) &&& 31)) &&& (1 : Int32)) * (q1 >>> ((1 : Int32) &&& 31)))) + (((x1 >>> ((2 : Int32) &&& 31)) &&& (1 : Int32)) * q1)))
  else
  fz_mo_stepped_59 s ((s.1 17) + ((((q1 >>> ((3 : Int32) &&& 31)) + ((x1 &&& (1 : Int32)) * (q1 >>> ((2 : Int32) &&& 31)))) + (((x1 >>> ((1 : Int32) &&& 31)) &&& (1 : Int32)) * (q1 >>> ((1 : Int32) &&& 31)))) + (((x1 >>> ((2 : Int32) &&& 31)) &&& (1 : Int32)) * q1)))
theorem tz_mo_stepped {sc : am_S} {c : am_Z} {t : am_H} {s : am_Z} {x1 : Int32} {r : Int32} (hF : fz_mo_stepped s x1 = some r) : am_ev sc 2 115 [.ref 16, .int x1] (zz_hM c s t) ((.inl (some (.int r)), zz_hM c s t, false) : am_R) := by
  unfold fz_mo_stepped at hF
  refine am_ev.of false rfl ?_
  show am_go sc _ _ _ _ (0, [some (.ref 16), some (.int x1), none, none], [], zz_hM c s t, false) _
  refine am_go.blk hcd_mo_stepped 2 (g := (4, [some (.ref 16), some (.int x1), none, none], [.int (s.1 19)], zz_hM c s t, false)) rfl ?_
  obtain ⟨q1, hq1, hF⟩ := am_bd hF
  refine am_go.call hcd_mo_stepped rfl rfl rfl rfl (am_le8 rfl) (am_ev.le (by decide) (tz_mo_step (h := zz_hM c s t) hq1)) ?_
  refine am_go.blk hcd_mo_stepped 34 (g := (bif decide ((8 : Int32) ≤ x1) then 53 else 44, [some (.ref 16), some (.int x1), some (.int q1), some (.int ((((q1 >>> ((3 : Int32) &&& 31)) + ((x1 &&& (1 : Int32)) * (q1 >>> ((2 : Int32) &&& 31)))) + (((x1 >>> ((1 : Int32) &&& 31)) &&& (1 : Int32)) * (q1 >>> ((1 : Int32) &&& 31)))) + (((x1 >>> ((2 : Int32) &&& 31)) &&& (1 : Int32)) * q1)))], [], zz_hM c s t, false)) rfl ?_
  refine am_go.br (fun hP => ?_) (fun hP => ?_)
  · replace hF := (if_pos hP).symm.trans hF
    refine am_go.blk hcd_mo_stepped 4 (g := (59, [some (.ref 16), some (.int x1), some (.int q1), some (.int ((((q1 >>> ((3 : Int32) &&& 31)) + ((x1 &&& (1 : Int32)) * (q1 >>> ((2 : Int32) &&& 31)))) + (((x1 >>> ((1 : Int32) &&& 31)) &&& (1 : Int32)) * (q1 >>> ((1 : Int32) &&& 31)))) + (((x1 >>> ((2 : Int32) &&& 31)) &&& (1 : Int32)) * q1)))], [.int ((s.1 17) - ((((q1 >>> ((3 : Int32) &&& 31)) + ((x1 &&& (1 : Int32)) * (q1 >>> ((2 : Int32) &&& 31)))) + (((x1 >>> ((1 : Int32) &&& 31)) &&& (1 : Int32)) * (q1 >>> ((1 : Int32) &&& 31)))) + (((x1 >>> ((2 : Int32) &&& 31)) &&& (1 : Int32)) * q1)))], zz_hM c s t, false)) rfl ?_
    refine am_go.fgl [none, none, none, none] trivial ?_
    exact tz_mo_stepped_59  hF
  · replace hF := (if_neg hP).symm.trans hF
    refine am_go.blk hcd_mo_stepped 5 (g := (59, [some (.ref 16), some (.int x1), some (.int q1), some (.int ((((q1 >>> ((3 : Int32) &&& 31)) + ((x1 &&& (1 : Int32)) * (q1 >>> ((2 : Int32) &&& 31)))) + (((x1 >>> ((1 : Int32) &&& 31)) &&& (1 : Int32)) * (q1 >>> ((1 : Int32) &&& 31)))) + (((x1 >>> ((2 : Int32) &&& 31)) &&& (1 : Int32)) * q1)))], [.int ((s.1 17) + ((((q1 >>> ((3 : Int32) &&& 31)) + ((x1 &&& (1 : Int32)) * (q1 >>> ((2 : Int32) &&& 31)))) + (((x1 >>> ((1 : Int32) &&& 31)) &&& (1 : Int32)) * (q1 >>> ((1 : Int32) &&& 31)))) + (((x1 >>> ((2 : Int32) &&& 31)) &&& (1 : Int32)) * q1)))], zz_hM c s t, false)) rfl ?_
    refine am_go.fgl [none, none, none, none] trivial ?_
    exact tz_mo_stepped_59  hF
theorem hcd_mo_goStepped : am_code 116 = am_c_mo_goStepped := rfl
def fz_mo_goStepped_73  (y0 : Int32) (s : am_Z) : Option (am_Z) :=
  some (zz_i s 19 y0)
theorem tz_mo_goStepped_73 {sc : am_S} {c : am_Z} {t : am_H} {h0 : am_H}   {y0 : Int32} {s : am_Z} {r : am_Z} (hF : fz_mo_goStepped_73 y0 s = some r) : am_go sc 3 (am_ev sc 2) 116 h0 (73, [none, none, none], [.int y0, .ref 16], zz_hM c s t, true) ((.inl (none), zz_hM c r t, true) : am_R) := by
  unfold fz_mo_goStepped_73 at hF
  refine am_go.blk hcd_mo_goStepped 1 (g := (76, [none, none, none], [], zz_hM c (zz_i s 19 y0) t, true)) rfl ?_
  cases hF
  exact am_go.ret hcd_mo_goStepped rfl rfl ⟨rfl, rfl, (fun h => by cases h), rfl, rfl⟩
def fz_mo_goStepped_40  (y0 : Int32) (s : am_Z) : Option (am_Z) :=
  if 0 ≤ y0 then
    if y0 ≤ (88 : Int32) then
      fz_mo_goStepped_73 y0 (zz_i s 19 y0)
    else
    fz_mo_goStepped_73 (88 : Int32) (zz_i s 19 y0)
  else
  fz_mo_goStepped_73 (0 : Int32) (zz_i s 19 y0)
theorem tz_mo_goStepped_40 {sc : am_S} {c : am_Z} {t : am_H} {h0 : am_H}   {y0 : Int32} {s : am_Z} {r : am_Z} (hF : fz_mo_goStepped_40 y0 s = some r) : am_go sc 3 (am_ev sc 2) 116 h0 (40, [some (.ref 16), none, none], [.int y0, .ref 16], zz_hM c s t, true) ((.inl (none), zz_hM c r t, true) : am_R) := by
  unfold fz_mo_goStepped_40 at hF
  refine am_go.blk hcd_mo_goStepped 5 (g := (bif decide (0 ≤ y0) then 55 else 51, [some (.ref 16), none, none], [.ref 16], zz_hM c (zz_i s 19 y0) t, true)) rfl ?_
  refine am_go.br (fun hP => ?_) (fun hP => ?_)
  · replace hF := (if_pos hP).symm.trans hF
    refine am_go.blk hcd_mo_goStepped 4 (g := (bif decide (y0 ≤ (88 : Int32)) then 69 else 64, [some (.ref 16), none, none], [.ref 16], zz_hM c (zz_i s 19 y0) t, true)) rfl ?_
    refine am_go.br (fun hP => ?_) (fun hP => ?_)
    · replace hF := (if_pos hP).symm.trans hF
      refine am_go.blk hcd_mo_goStepped 2 (g := (73, [some (.ref 16), none, none], [.int y0, .ref 16], zz_hM c (zz_i s 19 y0) t, true)) rfl ?_
      refine am_go.fgl [none, none, none] trivial ?_
      exact tz_mo_goStepped_73  hF
    · replace hF := (if_neg hP).symm.trans hF
      refine am_go.blk hcd_mo_goStepped 2 (g := (73, [some (.ref 16), none, none], [.int (88 : Int32), .ref 16], zz_hM c (zz_i s 19 y0) t, true)) rfl ?_
      refine am_go.fgl [none, none, none] trivial ?_
      exact tz_mo_goStepped_73  hF
  · replace hF := (if_neg hP).symm.trans hF
    refine am_go.blk hcd_mo_goStepped 2 (g := (73, [some (.ref 16), none, none], [.int (0 : Int32), .ref 16], zz_hM c (zz_i s 19 y0) t, true)) rfl ?_
    refine am_go.fgl [none, none, none] trivial ?_
    exact tz_mo_goStepped_73  hF
def fz_mo_goStepped (s : am_Z) (x1 : Int32) : Option (am_Z) :=
  (fz_mo_stepped s x1).bind fun q1 =>
  if (4 : Int32) ≤ (x1 - x1 / (8 : Int32) * (8 : Int32)) then
    fz_mo_goStepped_40 (((s.1 19) + ((2 : Int32) * (x1 - x1 / (8 : Int32) * (8 : Int32)))) - (6 : Int32)) (zz_i s 17 q1)
  else
  fz_mo_goStepped_40 ((s.1 19) - (1 : Int32)) (zz_i s 17 q1)
theorem tz_mo_goStepped {sc : am_S} {c : am_Z} {t : am_H} {s : am_Z} {x1 : Int32} {r : am_Z} (hF : fz_mo_goStepped s x1 = some r) : am_ev sc 3 116 [.ref 16, .int x1] (zz_hM c s t) ((.inl (none), zz_hM c r t, true) : am_R) := by
  unfold fz_mo_goStepped at hF
  refine am_ev.of true rfl ?_
  show am_go sc _ _ _ _ (0, [some (.ref 16), some (.int x1), none], [], zz_hM c s t, true) _
  refine am_go.blk hcd_mo_goStepped 3 (g := (3, [some (.ref 16), some (.int x1), none], [.int x1, .ref 16, .ref 16], zz_hM c s t, true)) rfl ?_
  obtain ⟨q1, hq1, hF⟩ := am_bd hF
  refine am_go.call hcd_mo_goStepped rfl rfl rfl rfl (am_le8 rfl) (am_ev.le (by decide) (tz_mo_stepped (c := c) (t := t) hq1)) ?_
  refine am_go.blk hcd_mo_goStepped 3 (g := (12, [some (.ref 16), some (.int x1), none], [.int (8 : Int32), .int x1], zz_hM c (zz_i s 17 q1) t, true)) rfl ?_
  refine am_go.irm hcd_mo_goStepped rfl (by decide) ?_
  refine am_go.blk hcd_mo_goStepped 5 (g := (bif decide ((4 : Int32) ≤ (x1 - x1 / (8 : Int32) * (8 : Int32))) then 29 else 20, [some (.ref 16), some (.int x1), some (.int (x1 - x1 / (8 : Int32) * (8 : Int32)))], [.ref 16], zz_hM c (zz_i s 17 q1) t, true)) rfl ?_
  refine am_go.br (fun hP => ?_) (fun hP => ?_)
  · replace hF := (if_pos hP).symm.trans hF
    refine am_go.blk hcd_mo_goStepped 8 (g := (40, [some (.ref 16), some (.int x1), some (.int (x1 - x1 / (8 : Int32) * (8 : Int32)))], [.int (((s.1 19) + ((2 : Int32) * (x1 - x1 / (8 : Int32) * (8 : Int32)))) - (6 : Int32)), .ref 16], zz_hM c (zz_i s 17 q1) t, true)) rfl ?_
    refine am_go.fgl [some (.ref 16), none, none] ⟨rfl, trivial⟩ ?_
    exact tz_mo_goStepped_40  hF
  · replace hF := (if_neg hP).symm.trans hF
    refine am_go.blk hcd_mo_goStepped 5 (g := (40, [some (.ref 16), some (.int x1), some (.int (x1 - x1 / (8 : Int32) * (8 : Int32)))], [.int ((s.1 19) - (1 : Int32)), .ref 16], zz_hM c (zz_i s 17 q1) t, true)) rfl ?_
    refine am_go.fgl [some (.ref 16), none, none] ⟨rfl, trivial⟩ ?_
    exact tz_mo_goStepped_40  hF
theorem hcd_mo_readStepped : am_code 145 = am_c_mo_readStepped := rfl
def fz_mo_readStepped_48  : Nat → Int32 → Int32 → am_Z → Option (am_Z)
  | 0, _, _, _ => none
  | n + 1, x1, x2, s =>
    (fz_mo_perBlock s).bind fun q1 =>
    if q1 ≤ x2 then
      some s
    else
    if ¬ (s.1 8) = 0 then
      some s
    else
    (fz_mo_ask s (1 : Int32) (0 : Int32) (0 : Int64) (255 : Int64)).bind fun q2 =>
    (fz_mo_goStepped q2.2 ((Int64.toInt32 q2.1) - (Int64.toInt32 q2.1) / (16 : Int32) * (16 : Int32))).bind fun q3 =>
    (fz_mo_keep q3 (x1 + x2)).bind fun q4 =>
    (fz_mo_goStepped q4 ((Int64.toInt32 q2.1) / (16 : Int32))).bind fun q5 =>
    (fz_mo_keep q5 ((x1 + x2) + (1 : Int32))).bind fun q6 =>
    fz_mo_readStepped_48 n x1 (x2 + (2 : Int32)) q6
theorem tz_mo_readStepped_48 {sc : am_S} {c : am_Z} {t : am_H} {h0 : am_H}   : ∀ (n : Nat) (x1 : Int32) (x2 : Int32) (s : am_Z) (r : am_Z), fz_mo_readStepped_48  n x1 x2 s = some r → am_go sc 4 (am_ev sc 3) 145 h0 (48, [some (.ref 16), some (.int x1), some (.int x2), none], [], zz_hM c s t, true) ((.inl (none), zz_hM c r t, true) : am_R) := by
  intro n
  induction n with
  | zero => intro x1 x2 s r hF; cases hF
  | succ n ih =>
    intro x1 x2 s r hF
    unfold fz_mo_readStepped_48 at hF
    refine am_go.blk hcd_mo_readStepped 2 (g := (50, [some (.ref 16), some (.int x1), some (.int x2), none], [.ref 16, .int x2], zz_hM c s t, true)) rfl ?_
    obtain ⟨q1, hq1, hF⟩ := am_bd hF
    refine am_go.call hcd_mo_readStepped rfl rfl rfl rfl (am_le8 rfl) (am_ev.le (by decide) (tz_mo_perBlock (c := c) (t := t) hq1)) ?_
    refine am_go.blk hcd_mo_readStepped 1 (g := (bif decide (q1 ≤ x2) then 113 else 56, [some (.ref 16), some (.int x1), some (.int x2), none], [], zz_hM c s t, true)) rfl ?_
    refine am_go.br (fun hP => ?_) (fun hP => ?_)
    · replace hF := (if_pos hP).symm.trans hF
      cases hF
      exact am_go.ret hcd_mo_readStepped rfl rfl ⟨rfl, rfl, (fun h => by cases h), rfl, rfl⟩
    · replace hF := (if_neg hP).symm.trans hF
      refine am_go.blk hcd_mo_readStepped 3 (g := (bif decide (¬ (s.1 8) = 0) then 113 else 63, [some (.ref 16), some (.int x1), some (.int x2), none], [], zz_hM c s t, true)) rfl ?_
      refine am_go.br (fun hP => ?_) (fun hP => ?_)
      · replace hF := (if_pos hP).symm.trans hF
        cases hF
        exact am_go.ret hcd_mo_readStepped rfl rfl ⟨rfl, rfl, (fun h => by cases h), rfl, rfl⟩
      · replace hF := (if_neg hP).symm.trans hF
        refine am_go.blk hcd_mo_readStepped 5 (g := (70, [some (.ref 16), some (.int x1), some (.int x2), none], [.long (255 : Int64), .long (0 : Int64), .int (0 : Int32), .int (1 : Int32), .ref 16], zz_hM c s t, true)) rfl ?_
        obtain ⟨q2, hq2, hF⟩ := am_bd hF
        refine am_go.call hcd_mo_readStepped rfl rfl rfl rfl (am_le8 rfl) (am_ev.le (by decide) (tz_mo_ask (c := c) (t := t) hq2)) ?_
        refine am_go.blk hcd_mo_readStepped 5 (g := (79, [some (.ref 16), some (.int x1), some (.int x2), some (.int (Int64.toInt32 q2.1))], [.int (16 : Int32), .int (Int64.toInt32 q2.1), .ref 16], zz_hM c q2.2 t, true)) rfl ?_
        refine am_go.irm hcd_mo_readStepped rfl (by decide) ?_
        obtain ⟨q3, hq3, hF⟩ := am_bd hF
        refine am_go.call hcd_mo_readStepped rfl rfl rfl rfl (am_le8 rfl) (am_ev.le (by decide) (tz_mo_goStepped (c := c) (t := t) hq3)) ?_
        refine am_go.blk hcd_mo_readStepped 4 (g := (87, [some (.ref 16), some (.int x1), some (.int x2), some (.int (Int64.toInt32 q2.1))], [.int (x1 + x2), .ref 16], zz_hM c q3 t, true)) rfl ?_
        obtain ⟨q4, hq4, hF⟩ := am_bd hF
        refine am_go.call hcd_mo_readStepped rfl rfl rfl rfl (am_le8 rfl) (am_ev.le (by decide) (tz_mo_keep (c := c) (t := t) hq4)) ?_
        refine am_go.blk hcd_mo_readStepped 3 (g := (94, [some (.ref 16), some (.int x1), some (.int x2), some (.int (Int64.toInt32 q2.1))], [.int (16 : Int32), .int (Int64.toInt32 q2.1), .ref 16], zz_hM c q4 t, true)) rfl ?_
        refine am_go.idv hcd_mo_readStepped rfl (by decide) ?_
        obtain ⟨q5, hq5, hF⟩ := am_bd hF
        refine am_go.call hcd_mo_readStepped rfl rfl rfl rfl (am_le8 rfl) (am_ev.le (by decide) (tz_mo_goStepped (c := c) (t := t) hq5)) ?_
        refine am_go.blk hcd_mo_readStepped 6 (g := (104, [some (.ref 16), some (.int x1), some (.int x2), some (.int (Int64.toInt32 q2.1))], [.int ((x1 + x2) + (1 : Int32)), .ref 16], zz_hM c q5 t, true)) rfl ?_
        obtain ⟨q6, hq6, hF⟩ := am_bd hF
        refine am_go.call hcd_mo_readStepped rfl rfl rfl rfl (am_le8 rfl) (am_ev.le (by decide) (tz_mo_keep (c := c) (t := t) hq6)) ?_
        refine am_go.blk hcd_mo_readStepped 2 (g := (48, [some (.ref 16), some (.int x1), some (.int (x2 + (2 : Int32))), some (.int (Int64.toInt32 q2.1))], [], zz_hM c q6 t, true)) rfl ?_
        refine am_go.fgl [some (.ref 16), some (.int x1), some (.int (x2 + (2 : Int32))), none] ⟨rfl, rfl, rfl, trivial⟩ ?_
        exact ih _ _ _ _ hF
def fz_mo_readStepped (s : am_Z) (x1 : Int32) : Option (am_Z) :=
  (fz_mo_ask s (2 : Int32) (0 : Int32) (0 : Int64) (65535 : Int64)).bind fun q1 =>
  (fz_mo_signed q1.1 (16 : Int32)).bind fun q2 =>
  (fz_mo_ask (zz_i q1.2 17 q2) (1 : Int32) (0 : Int32) (0 : Int64) (88 : Int64)).bind fun q3 =>
  (fz_mo_exact (zz_i q3.2 19 (Int64.toInt32 q3.1)) (1 : Int32) (0 : Int32) (0 : Int64)).bind fun q4 =>
  (fz_mo_keep q4 x1).bind fun q5 =>
  fz_mo_readStepped_48 fz_fu x1 (1 : Int32) q5
theorem tz_mo_readStepped {sc : am_S} {c : am_Z} {t : am_H} {s : am_Z} {x1 : Int32} {r : am_Z} (hF : fz_mo_readStepped s x1 = some r) : am_ev sc 4 145 [.ref 16, .int x1] (zz_hM c s t) ((.inl (none), zz_hM c r t, true) : am_R) := by
  unfold fz_mo_readStepped at hF
  refine am_ev.of true rfl ?_
  show am_go sc _ _ _ _ (0, [some (.ref 16), some (.int x1), none, none], [], zz_hM c s t, true) _
  refine am_go.blk hcd_mo_readStepped 6 (g := (8, [some (.ref 16), some (.int x1), none, none], [.long (65535 : Int64), .long (0 : Int64), .int (0 : Int32), .int (2 : Int32), .ref 16, .ref 16], zz_hM c s t, true)) rfl ?_
  obtain ⟨q1, hq1, hF⟩ := am_bd hF
  refine am_go.call hcd_mo_readStepped rfl rfl rfl rfl (am_le8 rfl) (am_ev.le (by decide) (tz_mo_ask (c := c) (t := t) hq1)) ?_
  refine am_go.blk hcd_mo_readStepped 1 (g := (13, [some (.ref 16), some (.int x1), none, none], [.int (16 : Int32), .long q1.1, .ref 16], zz_hM c q1.2 t, true)) rfl ?_
  obtain ⟨q2, hq2, hF⟩ := am_bd hF
  refine am_go.call hcd_mo_readStepped rfl rfl rfl rfl (am_le8 rfl) (am_ev.le (by decide) (tz_mo_signed (h := zz_hM c q1.2 t) hq2)) ?_
  refine am_go.blk hcd_mo_readStepped 7 (g := (27, [some (.ref 16), some (.int x1), none, none], [.long (88 : Int64), .long (0 : Int64), .int (0 : Int32), .int (1 : Int32), .ref 16, .ref 16], zz_hM c (zz_i q1.2 17 q2) t, true)) rfl ?_
  obtain ⟨q3, hq3, hF⟩ := am_bd hF
  refine am_go.call hcd_mo_readStepped rfl rfl rfl rfl (am_le8 rfl) (am_ev.le (by decide) (tz_mo_ask (c := c) (t := t) hq3)) ?_
  refine am_go.blk hcd_mo_readStepped 6 (g := (38, [some (.ref 16), some (.int x1), none, none], [.long (0 : Int64), .int (0 : Int32), .int (1 : Int32), .ref 16], zz_hM c (zz_i q3.2 19 (Int64.toInt32 q3.1)) t, true)) rfl ?_
  obtain ⟨q4, hq4, hF⟩ := am_bd hF
  refine am_go.call hcd_mo_readStepped rfl rfl rfl rfl (am_le8 rfl) (am_ev.le (by decide) (tz_mo_exact (c := c) (t := t) hq4)) ?_
  refine am_go.blk hcd_mo_readStepped 2 (g := (43, [some (.ref 16), some (.int x1), none, none], [.int x1, .ref 16], zz_hM c q4 t, true)) rfl ?_
  obtain ⟨q5, hq5, hF⟩ := am_bd hF
  refine am_go.call hcd_mo_readStepped rfl rfl rfl rfl (am_le8 rfl) (am_ev.le (by decide) (tz_mo_keep (c := c) (t := t) hq5)) ?_
  refine am_go.blk hcd_mo_readStepped 2 (g := (48, [some (.ref 16), some (.int x1), some (.int (1 : Int32)), none], [], zz_hM c q5 t, true)) rfl ?_
  exact tz_mo_readStepped_48  fz_fu _ _ _ _ hF
theorem hcd_mo_predicted : am_code 117 = am_c_mo_predicted := rfl
def fz_mo_predicted_14 (s : am_Z) (x2 : Int32) (y0 : Int32) : Option (Int32) :=
  (fz_mo_first x2).bind fun q1 =>
  (fz_mo_second x2).bind fun q2 =>
  (fz_mo_clip (((((s.1 17) * q1) + ((s.1 18) * q2)) >>> ((8 : Int32) &&& 31)) + (y0 * (s.1 20)))).bind fun q3 =>
  some q3
theorem tz_mo_predicted_14 {sc : am_S} {c : am_Z} {t : am_H} {h0 : am_H} {s : am_Z}  {x2 : Int32} {y0 : Int32} {r : Int32} (hF : fz_mo_predicted_14 s x2 y0 = some r) : am_go sc 2 (am_ev sc 1) 117 h0 (14, [some (.ref 16), none, some (.int x2), none], [.int y0], zz_hM c s t, false) ((.inl (some (.int r)), zz_hM c s t, false) : am_R) := by
  unfold fz_mo_predicted_14 at hF
  refine am_go.blk hcd_mo_predicted 4 (g := (20, [some (.ref 16), none, some (.int x2), some (.int y0)], [.int x2, .int (s.1 17)], zz_hM c s t, false)) rfl ?_
  obtain ⟨q1, hq1, hF⟩ := am_bd hF
  refine am_go.call hcd_mo_predicted rfl rfl rfl rfl (am_le8 rfl) (am_ev.le (by decide) (tz_mo_first (h := zz_hM c s t) hq1)) ?_
  refine am_go.blk hcd_mo_predicted 4 (g := (29, [some (.ref 16), none, some (.int x2), some (.int y0)], [.int x2, .int (s.1 18), .int ((s.1 17) * q1)], zz_hM c s t, false)) rfl ?_
  obtain ⟨q2, hq2, hF⟩ := am_bd hF
  refine am_go.call hcd_mo_predicted rfl rfl rfl rfl (am_le8 rfl) (am_ev.le (by decide) (tz_mo_second (h := zz_hM c s t) hq2)) ?_
  refine am_go.blk hcd_mo_predicted 9 (g := (44, [some (.ref 16), none, some (.int x2), some (.int y0)], [.int (((((s.1 17) * q1) + ((s.1 18) * q2)) >>> ((8 : Int32) &&& 31)) + (y0 * (s.1 20)))], zz_hM c s t, false)) rfl ?_
  obtain ⟨q3, hq3, hF⟩ := am_bd hF
  refine am_go.call hcd_mo_predicted rfl rfl rfl rfl (am_le8 rfl) (am_ev.le (by decide) (tz_mo_clip (h := zz_hM c s t) hq3)) ?_
  cases hF
  exact am_go.ret hcd_mo_predicted rfl rfl ⟨rfl, rfl, (fun _ => rfl), Or.inl rfl, rfl⟩
def fz_mo_predicted (s : am_Z) (x1 : Int32) (x2 : Int32) : Option (Int32) :=
  if (8 : Int32) ≤ x1 then
    fz_mo_predicted_14 s x2 (x1 - (16 : Int32))
  else
  fz_mo_predicted_14 s x2 x1
theorem tz_mo_predicted {sc : am_S} {c : am_Z} {t : am_H} {s : am_Z} {x1 : Int32} {x2 : Int32} {r : Int32} (hF : fz_mo_predicted s x1 x2 = some r) : am_ev sc 2 117 [.ref 16, .int x1, .int x2] (zz_hM c s t) ((.inl (some (.int r)), zz_hM c s t, false) : am_R) := by
  unfold fz_mo_predicted at hF
  refine am_ev.of false rfl ?_
  show am_go sc _ _ _ _ (0, [some (.ref 16), some (.int x1), some (.int x2), none], [], zz_hM c s t, false) _
  refine am_go.blk hcd_mo_predicted 3 (g := (bif decide ((8 : Int32) ≤ x1) then 10 else 6, [some (.ref 16), some (.int x1), some (.int x2), none], [], zz_hM c s t, false)) rfl ?_
  refine am_go.br (fun hP => ?_) (fun hP => ?_)
  · replace hF := (if_pos hP).symm.trans hF
    refine am_go.blk hcd_mo_predicted 3 (g := (14, [some (.ref 16), some (.int x1), some (.int x2), none], [.int (x1 - (16 : Int32))], zz_hM c s t, false)) rfl ?_
    refine am_go.fgl [some (.ref 16), none, some (.int x2), none] ⟨rfl, rfl, trivial⟩ ?_
    exact tz_mo_predicted_14  hF
  · replace hF := (if_neg hP).symm.trans hF
    refine am_go.blk hcd_mo_predicted 2 (g := (14, [some (.ref 16), some (.int x1), some (.int x2), none], [.int x1], zz_hM c s t, false)) rfl ?_
    refine am_go.fgl [some (.ref 16), none, some (.int x2), none] ⟨rfl, rfl, trivial⟩ ?_
    exact tz_mo_predicted_14  hF
theorem hcd_mo_growth : am_code 114 = am_c_mo_growth := rfl
def fz_mo_growth_14  (y0 : Int32) : Option (Int32) :=
  if (4 : Int32) ≤ y0 then
    if ¬ y0 = (4 : Int32) then
      if ¬ y0 = (5 : Int32) then
        if ¬ y0 = (6 : Int32) then
          if ¬ y0 = (7 : Int32) then
            some (768 : Int32)
          else
          some (614 : Int32)
        else
        some (512 : Int32)
      else
      some (409 : Int32)
    else
    some (307 : Int32)
  else
  some (230 : Int32)
theorem tz_mo_growth_14 {sc : am_S} {h : am_H} {h0 : am_H}   {y0 : Int32} {r : Int32} (hF : fz_mo_growth_14 y0 = some r) : am_go sc 1 (am_ev sc 0) 114 h0 (14, [none, none], [.int y0], h, false) ((.inl (some (.int r)), h, false) : am_R) := by
  unfold fz_mo_growth_14 at hF
  refine am_go.blk hcd_mo_growth 4 (g := (bif decide ((4 : Int32) ≤ y0) then 26 else 20, [none, some (.int y0)], [], h, false)) rfl ?_
  refine am_go.br (fun hP => ?_) (fun hP => ?_)
  · replace hF := (if_pos hP).symm.trans hF
    refine am_go.blk hcd_mo_growth 3 (g := (bif decide (¬ y0 = (4 : Int32)) then 37 else 31, [none, some (.int y0)], [], h, false)) rfl ?_
    refine am_go.br (fun hP => ?_) (fun hP => ?_)
    · replace hF := (if_pos hP).symm.trans hF
      refine am_go.blk hcd_mo_growth 3 (g := (bif decide (¬ y0 = (5 : Int32)) then 48 else 42, [none, some (.int y0)], [], h, false)) rfl ?_
      refine am_go.br (fun hP => ?_) (fun hP => ?_)
      · replace hF := (if_pos hP).symm.trans hF
        refine am_go.blk hcd_mo_growth 3 (g := (bif decide (¬ y0 = (6 : Int32)) then 60 else 54, [none, some (.int y0)], [], h, false)) rfl ?_
        refine am_go.br (fun hP => ?_) (fun hP => ?_)
        · replace hF := (if_pos hP).symm.trans hF
          refine am_go.blk hcd_mo_growth 3 (g := (bif decide (¬ y0 = (7 : Int32)) then 72 else 66, [none, some (.int y0)], [], h, false)) rfl ?_
          refine am_go.br (fun hP => ?_) (fun hP => ?_)
          · replace hF := (if_pos hP).symm.trans hF
            refine am_go.blk hcd_mo_growth 1 (g := (75, [none, some (.int y0)], [.int (768 : Int32)], h, false)) rfl ?_
            cases hF
            exact am_go.ret hcd_mo_growth rfl rfl ⟨rfl, rfl, (fun _ => rfl), Or.inl rfl, rfl⟩
          · replace hF := (if_neg hP).symm.trans hF
            refine am_go.blk hcd_mo_growth 2 (g := (75, [none, some (.int y0)], [.int (614 : Int32)], h, false)) rfl ?_
            cases hF
            exact am_go.ret hcd_mo_growth rfl rfl ⟨rfl, rfl, (fun _ => rfl), Or.inl rfl, rfl⟩
        · replace hF := (if_neg hP).symm.trans hF
          refine am_go.blk hcd_mo_growth 2 (g := (75, [none, some (.int y0)], [.int (512 : Int32)], h, false)) rfl ?_
          cases hF
          exact am_go.ret hcd_mo_growth rfl rfl ⟨rfl, rfl, (fun _ => rfl), Or.inl rfl, rfl⟩
      · replace hF := (if_neg hP).symm.trans hF
        refine am_go.blk hcd_mo_growth 2 (g := (75, [none, some (.int y0)], [.int (409 : Int32)], h, false)) rfl ?_
        cases hF
        exact am_go.ret hcd_mo_growth rfl rfl ⟨rfl, rfl, (fun _ => rfl), Or.inl rfl, rfl⟩
    · replace hF := (if_neg hP).symm.trans hF
      refine am_go.blk hcd_mo_growth 2 (g := (75, [none, some (.int y0)], [.int (307 : Int32)], h, false)) rfl ?_
      cases hF
      exact am_go.ret hcd_mo_growth rfl rfl ⟨rfl, rfl, (fun _ => rfl), Or.inl rfl, rfl⟩
  · replace hF := (if_neg hP).symm.trans hF
    refine am_go.blk hcd_mo_growth 2 (g := (75, [none, some (.int y0)], [.int (230 : Int32)], h, false)) rfl ?_
    cases hF
    exact am_go.ret hcd_mo_growth rfl rfl ⟨rfl, rfl, (fun _ => rfl), Or.inl rfl, rfl⟩
def fz_mo_growth (x0 : Int32) : Option (Int32) :=
  if (8 : Int32) ≤ x0 then
    fz_mo_growth_14 ((16 : Int32) - x0)
  else
  fz_mo_growth_14 x0
theorem tz_mo_growth {sc : am_S} {h : am_H} {x0 : Int32} {r : Int32} (hF : fz_mo_growth x0 = some r) : am_ev sc 1 114 [.int x0] (h) ((.inl (some (.int r)), h, false) : am_R) := by
  unfold fz_mo_growth at hF
  refine am_ev.of false rfl ?_
  show am_go sc _ _ _ _ (0, [some (.int x0), none], [], h, false) _
  refine am_go.blk hcd_mo_growth 3 (g := (bif decide ((8 : Int32) ≤ x0) then 10 else 6, [some (.int x0), none], [], h, false)) rfl ?_
  refine am_go.br (fun hP => ?_) (fun hP => ?_)
  · replace hF := (if_pos hP).symm.trans hF
    refine am_go.blk hcd_mo_growth 3 (g := (14, [some (.int x0), none], [.int ((16 : Int32) - x0)], h, false)) rfl ?_
    refine am_go.fgl [none, none] trivial ?_
    exact tz_mo_growth_14  hF
  · replace hF := (if_neg hP).symm.trans hF
    refine am_go.blk hcd_mo_growth 2 (g := (14, [some (.int x0), none], [.int x0], h, false)) rfl ?_
    refine am_go.fgl [none, none] trivial ?_
    exact tz_mo_growth_14  hF
theorem hcd_mo_goPredicted : am_code 118 = am_c_mo_goPredicted := rfl
def fz_mo_goPredicted_71  (y0 : Int32) (s : am_Z) : Option (am_Z) :=
  some (zz_i s 20 y0)
theorem tz_mo_goPredicted_71 {sc : am_S} {c : am_Z} {t : am_H} {h0 : am_H}   {y0 : Int32} {s : am_Z} {r : am_Z} (hF : fz_mo_goPredicted_71 y0 s = some r) : am_go sc 3 (am_ev sc 2) 118 h0 (71, [none, none, none, none], [.int y0, .ref 16], zz_hM c s t, true) ((.inl (none), zz_hM c r t, true) : am_R) := by
  unfold fz_mo_goPredicted_71 at hF
  refine am_go.blk hcd_mo_goPredicted 1 (g := (74, [none, none, none, none], [], zz_hM c (zz_i s 20 y0) t, true)) rfl ?_
  cases hF
  exact am_go.ret hcd_mo_goPredicted rfl rfl ⟨rfl, rfl, (fun h => by cases h), rfl, rfl⟩
def fz_mo_goPredicted (s : am_Z) (x1 : Int32) (x2 : Int32) : Option (am_Z) :=
  (fz_mo_predicted s x1 x2).bind fun q1 =>
  (fz_mo_growth x1).bind fun q2 =>
  if (16 : Int32) ≤ (((s.1 20) * q2) >>> ((8 : Int32) &&& 31)) then
    if (((s.1 20) * q2) >>> ((8 : Int32) &&& 31)) ≤ (32767 : Int32) then
      fz_mo_goPredicted_71 (((s.1 20) * q2) >>> ((8 : Int32) &&& 31)) (zz_i (zz_i (zz_i s 18 (s.1 17)) 17 q1) 20 (((s.1 20) * q2) >>> ((8 : Int32) &&& 31)))
    else
    fz_mo_goPredicted_71 (32767 : Int32) (zz_i (zz_i (zz_i s 18 (s.1 17)) 17 q1) 20 (((s.1 20) * q2) >>> ((8 : Int32) &&& 31)))
  else
  fz_mo_goPredicted_71 (16 : Int32) (zz_i (zz_i (zz_i s 18 (s.1 17)) 17 q1) 20 (((s.1 20) * q2) >>> ((8 : Int32) &&& 31)))
theorem tz_mo_goPredicted {sc : am_S} {c : am_Z} {t : am_H} {s : am_Z} {x1 : Int32} {x2 : Int32} {r : am_Z} (hF : fz_mo_goPredicted s x1 x2 = some r) : am_ev sc 3 118 [.ref 16, .int x1, .int x2] (zz_hM c s t) ((.inl (none), zz_hM c r t, true) : am_R) := by
  unfold fz_mo_goPredicted at hF
  refine am_ev.of true rfl ?_
  show am_go sc _ _ _ _ (0, [some (.ref 16), some (.int x1), some (.int x2), none], [], zz_hM c s t, true) _
  refine am_go.blk hcd_mo_goPredicted 3 (g := (3, [some (.ref 16), some (.int x1), some (.int x2), none], [.int x2, .int x1, .ref 16], zz_hM c s t, true)) rfl ?_
  obtain ⟨q1, hq1, hF⟩ := am_bd hF
  refine am_go.call hcd_mo_goPredicted rfl rfl rfl rfl (am_le8 rfl) (am_ev.le (by decide) (tz_mo_predicted (c := c) (t := t) hq1)) ?_
  refine am_go.blk hcd_mo_goPredicted 12 (g := (26, [some (.ref 16), some (.int x1), some (.int x2), some (.int q1)], [.int x1, .int (s.1 20), .ref 16], zz_hM c (zz_i (zz_i s 18 (s.1 17)) 17 q1) t, true)) rfl ?_
  obtain ⟨q2, hq2, hF⟩ := am_bd hF
  refine am_go.call hcd_mo_goPredicted rfl rfl rfl rfl (am_le8 rfl) (am_ev.le (by decide) (tz_mo_growth (h := zz_hM c (zz_i (zz_i s 18 (s.1 17)) 17 q1) t) hq2)) ?_
  refine am_go.blk hcd_mo_goPredicted 9 (g := (bif decide ((16 : Int32) ≤ (((s.1 20) * q2) >>> ((8 : Int32) &&& 31))) then 51 else 46, [some (.ref 16), some (.int x1), some (.int x2), some (.int q1)], [.ref 16], zz_hM c (zz_i (zz_i (zz_i s 18 (s.1 17)) 17 q1) 20 (((s.1 20) * q2) >>> ((8 : Int32) &&& 31))) t, true)) rfl ?_
  refine am_go.br (fun hP => ?_) (fun hP => ?_)
  · replace hF := (if_pos hP).symm.trans hF
    refine am_go.blk hcd_mo_goPredicted 4 (g := (bif decide ((((s.1 20) * q2) >>> ((8 : Int32) &&& 31)) ≤ (32767 : Int32)) then 67 else 61, [some (.ref 16), some (.int x1), some (.int x2), some (.int q1)], [.ref 16], zz_hM c (zz_i (zz_i (zz_i s 18 (s.1 17)) 17 q1) 20 (((s.1 20) * q2) >>> ((8 : Int32) &&& 31))) t, true)) rfl ?_
    refine am_go.br (fun hP => ?_) (fun hP => ?_)
    · replace hF := (if_pos hP).symm.trans hF
      refine am_go.blk hcd_mo_goPredicted 2 (g := (71, [some (.ref 16), some (.int x1), some (.int x2), some (.int q1)], [.int (((s.1 20) * q2) >>> ((8 : Int32) &&& 31)), .ref 16], zz_hM c (zz_i (zz_i (zz_i s 18 (s.1 17)) 17 q1) 20 (((s.1 20) * q2) >>> ((8 : Int32) &&& 31))) t, true)) rfl ?_
      refine am_go.fgl [none, none, none, none] trivial ?_
      exact tz_mo_goPredicted_71  hF
    · replace hF := (if_neg hP).symm.trans hF
      refine am_go.blk hcd_mo_goPredicted 2 (g := (71, [some (.ref 16), some (.int x1), some (.int x2), some (.int q1)], [.int (32767 : Int32), .ref 16], zz_hM c (zz_i (zz_i (zz_i s 18 (s.1 17)) 17 q1) 20 (((s.1 20) * q2) >>> ((8 : Int32) &&& 31))) t, true)) rfl ?_
      refine am_go.fgl [none, none, none, none] trivial ?_
      exact tz_mo_goPredicted_71  hF
  · replace hF := (if_neg hP).symm.trans hF
    refine am_go.blk hcd_mo_goPredicted 2 (g := (71, [some (.ref 16), some (.int x1), some (.int x2), some (.int q1)], [.int (16 : Int32), .ref 16], zz_hM c (zz_i (zz_i (zz_i s 18 (s.1 17)) 17 q1) 20 (((s.1 20) * q2) >>> ((8 : Int32) &&& 31))) t, true)) rfl ?_
    refine am_go.fgl [none, none, none, none] trivial ?_
    exact tz_mo_goPredicted_71  hF
theorem hcd_mo_readPredicted : am_code 146 = am_c_mo_readPredicted := rfl
def fz_mo_readPredicted_90  : Nat → Int32 → Int32 → Int32 → am_Z → Option (am_Z)
  | 0, _, _, _, _ => none
  | n + 1, x1, x2, x4, s =>
    (fz_mo_perBlock s).bind fun q1 =>
    if q1 ≤ x4 then
      some s
    else
    if ¬ (s.1 8) = 0 then
      some s
    else
    (fz_mo_ask s (1 : Int32) (0 : Int32) (0 : Int64) (255 : Int64)).bind fun q2 =>
    (fz_mo_goPredicted q2.2 ((Int64.toInt32 q2.1) / (16 : Int32)) x2).bind fun q3 =>
    (fz_mo_keep q3 (x1 + x4)).bind fun q4 =>
    (fz_mo_goPredicted q4 ((Int64.toInt32 q2.1) - (Int64.toInt32 q2.1) / (16 : Int32) * (16 : Int32)) x2).bind fun q5 =>
    (fz_mo_keep q5 ((x1 + x4) + (1 : Int32))).bind fun q6 =>
    fz_mo_readPredicted_90 n x1 x2 (x4 + (2 : Int32)) q6
set_option maxRecDepth 20000 in
theorem tz_mo_readPredicted_90 {sc : am_S} {c : am_Z} {t : am_H} {h0 : am_H}   : ∀ (n : Nat) (x1 : Int32) (x2 : Int32) (x4 : Int32) (s : am_Z) (r : am_Z), fz_mo_readPredicted_90  n x1 x2 x4 s = some r → am_go sc 4 (am_ev sc 3) 146 h0 (90, [some (.ref 16), some (.int x1), some (.int x2), none, some (.int x4), none], [], zz_hM c s t, true) ((.inl (none), zz_hM c r t, true) : am_R) := by
  intro n
  induction n with
  | zero => intro x1 x2 x4 s r hF; cases hF
  | succ n ih =>
    intro x1 x2 x4 s r hF
    unfold fz_mo_readPredicted_90 at hF
    refine am_go.blk hcd_mo_readPredicted 2 (g := (93, [some (.ref 16), some (.int x1), some (.int x2), none, some (.int x4), none], [.ref 16, .int x4], zz_hM c s t, true)) rfl ?_
    obtain ⟨q1, hq1, hF⟩ := am_bd hF
    refine am_go.call hcd_mo_readPredicted rfl rfl rfl rfl (am_le8 rfl) (am_ev.le (by decide) (tz_mo_perBlock (c := c) (t := t) hq1)) ?_
    refine am_go.blk hcd_mo_readPredicted 1 (g := (bif decide (q1 ≤ x4) then 163 else 99, [some (.ref 16), some (.int x1), some (.int x2), none, some (.int x4), none], [], zz_hM c s t, true)) rfl ?_
    refine am_go.br (fun hP => ?_) (fun hP => ?_)
    · replace hF := (if_pos hP).symm.trans hF
      cases hF
      exact am_go.ret hcd_mo_readPredicted rfl rfl ⟨rfl, rfl, (fun h => by cases h), rfl, rfl⟩
    · replace hF := (if_neg hP).symm.trans hF
      refine am_go.blk hcd_mo_readPredicted 3 (g := (bif decide (¬ (s.1 8) = 0) then 163 else 106, [some (.ref 16), some (.int x1), some (.int x2), none, some (.int x4), none], [], zz_hM c s t, true)) rfl ?_
      refine am_go.br (fun hP => ?_) (fun hP => ?_)
      · replace hF := (if_pos hP).symm.trans hF
        cases hF
        exact am_go.ret hcd_mo_readPredicted rfl rfl ⟨rfl, rfl, (fun h => by cases h), rfl, rfl⟩
      · replace hF := (if_neg hP).symm.trans hF
        refine am_go.blk hcd_mo_readPredicted 5 (g := (113, [some (.ref 16), some (.int x1), some (.int x2), none, some (.int x4), none], [.long (255 : Int64), .long (0 : Int64), .int (0 : Int32), .int (1 : Int32), .ref 16], zz_hM c s t, true)) rfl ?_
        obtain ⟨q2, hq2, hF⟩ := am_bd hF
        refine am_go.call hcd_mo_readPredicted rfl rfl rfl rfl (am_le8 rfl) (am_ev.le (by decide) (tz_mo_ask (c := c) (t := t) hq2)) ?_
        refine am_go.blk hcd_mo_readPredicted 5 (g := (124, [some (.ref 16), some (.int x1), some (.int x2), none, some (.int x4), some (.int (Int64.toInt32 q2.1))], [.int (16 : Int32), .int (Int64.toInt32 q2.1), .ref 16], zz_hM c q2.2 t, true)) rfl ?_
        refine am_go.idv hcd_mo_readPredicted rfl (by decide) ?_
        refine am_go.blk hcd_mo_readPredicted 1 (g := (126, [some (.ref 16), some (.int x1), some (.int x2), none, some (.int x4), some (.int (Int64.toInt32 q2.1))], [.int x2, .int ((Int64.toInt32 q2.1) / (16 : Int32)), .ref 16], zz_hM c q2.2 t, true)) rfl ?_
        obtain ⟨q3, hq3, hF⟩ := am_bd hF
        refine am_go.call hcd_mo_readPredicted rfl rfl rfl rfl (am_le8 rfl) (am_ev.le (by decide) (tz_mo_goPredicted (c := c) (t := t) hq3)) ?_
        refine am_go.blk hcd_mo_readPredicted 4 (g := (134, [some (.ref 16), some (.int x1), some (.int x2), none, some (.int x4), some (.int (Int64.toInt32 q2.1))], [.int (x1 + x4), .ref 16], zz_hM c q3 t, true)) rfl ?_
        obtain ⟨q4, hq4, hF⟩ := am_bd hF
        refine am_go.call hcd_mo_readPredicted rfl rfl rfl rfl (am_le8 rfl) (am_ev.le (by decide) (tz_mo_keep (c := c) (t := t) hq4)) ?_
        refine am_go.blk hcd_mo_readPredicted 3 (g := (142, [some (.ref 16), some (.int x1), some (.int x2), none, some (.int x4), some (.int (Int64.toInt32 q2.1))], [.int (16 : Int32), .int (Int64.toInt32 q2.1), .ref 16], zz_hM c q4 t, true)) rfl ?_
        refine am_go.irm hcd_mo_readPredicted rfl (by decide) ?_
        refine am_go.blk hcd_mo_readPredicted 1 (g := (144, [some (.ref 16), some (.int x1), some (.int x2), none, some (.int x4), some (.int (Int64.toInt32 q2.1))], [.int x2, .int ((Int64.toInt32 q2.1) - (Int64.toInt32 q2.1) / (16 : Int32) * (16 : Int32)), .ref 16], zz_hM c q4 t, true)) rfl ?_
        obtain ⟨q5, hq5, hF⟩ := am_bd hF
        refine am_go.call hcd_mo_readPredicted rfl rfl rfl rfl (am_le8 rfl) (am_ev.le (by decide) (tz_mo_goPredicted (c := c) (t := t) hq5)) ?_
        refine am_go.blk hcd_mo_readPredicted 6 (g := (154, [some (.ref 16), some (.int x1), some (.int x2), none, some (.int x4), some (.int (Int64.toInt32 q2.1))], [.int ((x1 + x4) + (1 : Int32)), .ref 16], zz_hM c q5 t, true)) rfl ?_
        obtain ⟨q6, hq6, hF⟩ := am_bd hF
        refine am_go.call hcd_mo_readPredicted rfl rfl rfl rfl (am_le8 rfl) (am_ev.le (by decide) (tz_mo_keep (c := c) (t := t) hq6)) ?_
        refine am_go.blk hcd_mo_readPredicted 2 (g := (90, [some (.ref 16), some (.int x1), some (.int x2), none, some (.int (x4 + (2 : Int32))), some (.int (Int64.toInt32 q2.1))], [], zz_hM c q6 t, true)) rfl ?_
        refine am_go.fgl [some (.ref 16), some (.int x1), some (.int x2), none, some (.int (x4 + (2 : Int32))), none] ⟨rfl, rfl, rfl, rfl, trivial⟩ ?_
        exact ih _ _ _ _ _ hF
def fz_mo_readPredicted (s : am_Z) (x1 : Int32) : Option (am_Z) :=
  (fz_mo_ask s (1 : Int32) (0 : Int32) (0 : Int64) (6 : Int64)).bind fun q1 =>
  (fz_mo_ask q1.2 (2 : Int32) (0 : Int32) (1 : Int64) (65535 : Int64)).bind fun q2 =>
  (fz_mo_ask (zz_i q2.2 20 (Int64.toInt32 q2.1)) (2 : Int32) (0 : Int32) (0 : Int64) (65535 : Int64)).bind fun q3 =>
  (fz_mo_signed q3.1 (16 : Int32)).bind fun q4 =>
  (fz_mo_ask q3.2 (2 : Int32) (0 : Int32) (0 : Int64) (65535 : Int64)).bind fun q5 =>
  (fz_mo_signed q5.1 (16 : Int32)).bind fun q6 =>
  (fz_mo_keep (zz_i (zz_i q5.2 17 q6) 18 q6) x1).bind fun q7 =>
  (fz_mo_keep (zz_i q7 17 q4) (x1 + (1 : Int32))).bind fun q8 =>
  fz_mo_readPredicted_90 fz_fu x1 (Int64.toInt32 q1.1) (2 : Int32) q8
set_option maxRecDepth 20000 in
theorem tz_mo_readPredicted {sc : am_S} {c : am_Z} {t : am_H} {s : am_Z} {x1 : Int32} {r : am_Z} (hF : fz_mo_readPredicted s x1 = some r) : am_ev sc 4 146 [.ref 16, .int x1] (zz_hM c s t) ((.inl (none), zz_hM c r t, true) : am_R) := by
  unfold fz_mo_readPredicted at hF
  refine am_ev.of true rfl ?_
  show am_go sc _ _ _ _ (0, [some (.ref 16), some (.int x1), none, none, none, none], [], zz_hM c s t, true) _
  refine am_go.blk hcd_mo_readPredicted 5 (g := (7, [some (.ref 16), some (.int x1), none, none, none, none], [.long (6 : Int64), .long (0 : Int64), .int (0 : Int32), .int (1 : Int32), .ref 16], zz_hM c s t, true)) rfl ?_
  obtain ⟨q1, hq1, hF⟩ := am_bd hF
  refine am_go.call hcd_mo_readPredicted rfl rfl rfl rfl (am_le8 rfl) (am_ev.le (by decide) (tz_mo_ask (c := c) (t := t) hq1)) ?_
  refine am_go.blk hcd_mo_readPredicted 8 (g := (20, [some (.ref 16), some (.int x1), some (.int (Int64.toInt32 q1.1)), none, none, none], [.long (65535 : Int64), .long (1 : Int64), .int (0 : Int32), .int (2 : Int32), .ref 16, .ref 16], zz_hM c q1.2 t, true)) rfl ?_
  obtain ⟨q2, hq2, hF⟩ := am_bd hF
  refine am_go.call hcd_mo_readPredicted rfl rfl rfl rfl (am_le8 rfl) (am_ev.le (by decide) (tz_mo_ask (c := c) (t := t) hq2)) ?_
  refine am_go.blk hcd_mo_readPredicted 7 (g := (34, [some (.ref 16), some (.int x1), some (.int (Int64.toInt32 q1.1)), none, none, none], [.long (65535 : Int64), .long (0 : Int64), .int (0 : Int32), .int (2 : Int32), .ref 16], zz_hM c (zz_i q2.2 20 (Int64.toInt32 q2.1)) t, true)) rfl ?_
  obtain ⟨q3, hq3, hF⟩ := am_bd hF
  refine am_go.call hcd_mo_readPredicted rfl rfl rfl rfl (am_le8 rfl) (am_ev.le (by decide) (tz_mo_ask (c := c) (t := t) hq3)) ?_
  refine am_go.blk hcd_mo_readPredicted 1 (g := (39, [some (.ref 16), some (.int x1), some (.int (Int64.toInt32 q1.1)), none, none, none], [.int (16 : Int32), .long q3.1], zz_hM c q3.2 t, true)) rfl ?_
  obtain ⟨q4, hq4, hF⟩ := am_bd hF
  refine am_go.call hcd_mo_readPredicted rfl rfl rfl rfl (am_le8 rfl) (am_ev.le (by decide) (tz_mo_signed (h := zz_hM c q3.2 t) hq4)) ?_
  refine am_go.blk hcd_mo_readPredicted 7 (g := (51, [some (.ref 16), some (.int x1), some (.int (Int64.toInt32 q1.1)), some (.int q4), none, none], [.long (65535 : Int64), .long (0 : Int64), .int (0 : Int32), .int (2 : Int32), .ref 16, .ref 16], zz_hM c q3.2 t, true)) rfl ?_
  obtain ⟨q5, hq5, hF⟩ := am_bd hF
  refine am_go.call hcd_mo_readPredicted rfl rfl rfl rfl (am_le8 rfl) (am_ev.le (by decide) (tz_mo_ask (c := c) (t := t) hq5)) ?_
  refine am_go.blk hcd_mo_readPredicted 1 (g := (56, [some (.ref 16), some (.int x1), some (.int (Int64.toInt32 q1.1)), some (.int q4), none, none], [.int (16 : Int32), .long q5.1, .ref 16], zz_hM c q5.2 t, true)) rfl ?_
  obtain ⟨q6, hq6, hF⟩ := am_bd hF
  refine am_go.call hcd_mo_readPredicted rfl rfl rfl rfl (am_le8 rfl) (am_ev.le (by decide) (tz_mo_signed (h := zz_hM c q5.2 t) hq6)) ?_
  refine am_go.blk hcd_mo_readPredicted 7 (g := (72, [some (.ref 16), some (.int x1), some (.int (Int64.toInt32 q1.1)), some (.int q4), none, none], [.int x1, .ref 16], zz_hM c (zz_i (zz_i q5.2 17 q6) 18 q6) t, true)) rfl ?_
  obtain ⟨q7, hq7, hF⟩ := am_bd hF
  refine am_go.call hcd_mo_readPredicted rfl rfl rfl rfl (am_le8 rfl) (am_ev.le (by decide) (tz_mo_keep (c := c) (t := t) hq7)) ?_
  refine am_go.blk hcd_mo_readPredicted 7 (g := (84, [some (.ref 16), some (.int x1), some (.int (Int64.toInt32 q1.1)), some (.int q4), none, none], [.int (x1 + (1 : Int32)), .ref 16], zz_hM c (zz_i q7 17 q4) t, true)) rfl ?_
  obtain ⟨q8, hq8, hF⟩ := am_bd hF
  refine am_go.call hcd_mo_readPredicted rfl rfl rfl rfl (am_le8 rfl) (am_ev.le (by decide) (tz_mo_keep (c := c) (t := t) hq8)) ?_
  refine am_go.blk hcd_mo_readPredicted 2 (g := (90, [some (.ref 16), some (.int x1), some (.int (Int64.toInt32 q1.1)), some (.int q4), some (.int (2 : Int32)), none], [], zz_hM c q8 t, true)) rfl ?_
  refine am_go.fgl [some (.ref 16), some (.int x1), some (.int (Int64.toInt32 q1.1)), none, some (.int (2 : Int32)), none] ⟨rfl, rfl, rfl, rfl, trivial⟩ ?_
  exact tz_mo_readPredicted_90  fz_fu _ _ _ _ _ hF
theorem hcd_mo_blocks : am_code 129 = am_c_mo_blocks := rfl
def fz_mo_blocks (x0 : Int32) (x1 : Int32) : Option (Int32) :=
  if x1 = 0 then none else
  some (((x0 + x1) - (1 : Int32)) / x1)
theorem tz_mo_blocks {sc : am_S} {h : am_H} {x0 : Int32} {x1 : Int32} {r : Int32} (hF : fz_mo_blocks x0 x1 = some r) : am_ev sc 1 129 [.int x0, .int x1] (h) ((.inl (some (.int r)), h, false) : am_R) := by
  unfold fz_mo_blocks at hF
  refine am_ev.of false rfl ?_
  show am_go sc _ _ _ _ (0, [some (.int x0), some (.int x1)], [], h, false) _
  refine am_go.blk hcd_mo_blocks 6 (g := (6, [some (.int x0), some (.int x1)], [.int x1, .int ((x0 + x1) - (1 : Int32))], h, false)) rfl ?_
  obtain ⟨hd1, hF⟩ := am_ng hF
  refine am_go.idv hcd_mo_blocks rfl hd1 ?_
  cases hF
  exact am_go.ret hcd_mo_blocks rfl rfl ⟨rfl, rfl, (fun _ => rfl), Or.inl rfl, rfl⟩
theorem hcd_mo_readData : am_code 147 = am_c_mo_readData := rfl
def fz_mo_readData_251  (x5 : Int32) (s : am_Z) : Option (am_Z) :=
  (fz_mo_pad s x5).bind fun q1 =>
  some q1
set_option maxRecDepth 20000 in
theorem tz_mo_readData_251 {sc : am_S} {c : am_Z} {t : am_H} {h0 : am_H}   {x5 : Int32} {s : am_Z} {r : am_Z} (hF : fz_mo_readData_251 x5 s = some r) : am_go sc 5 (am_ev sc 4) 147 h0 (251, [some (.ref 16), none, none, none, none, some (.int x5), none, none, none], [], zz_hM c s t, true) ((.inl (none), zz_hM c r t, true) : am_R) := by
  unfold fz_mo_readData_251 at hF
  refine am_go.blk hcd_mo_readData 2 (g := (254, [some (.ref 16), none, none, none, none, some (.int x5), none, none, none], [.int x5, .ref 16], zz_hM c s t, true)) rfl ?_
  obtain ⟨q1, hq1, hF⟩ := am_bd hF
  refine am_go.call hcd_mo_readData rfl rfl rfl rfl (am_le8 rfl) (am_ev.le (by decide) (tz_mo_pad (c := c) (t := t) hq1)) ?_
  cases hF
  exact am_go.ret hcd_mo_readData rfl rfl ⟨rfl, rfl, (fun h => by cases h), rfl, rfl⟩
def fz_mo_readData_239 (K137 : Int32 → Int32 → am_Z → Option (am_Z)) (x5 : Int32) (x6 : Int32) (s : am_Z) : Option (am_Z) :=
  (fz_mo_perBlock s).bind fun q1 =>
  K137 x5 (x6 + q1) s
set_option maxRecDepth 20000 in
theorem tz_mo_readData_239 {sc : am_S} {c : am_Z} {t : am_H} {h0 : am_H} {K137 : Int32 → Int32 → am_Z → Option (am_Z)} (hK137 : ∀ (x5 : Int32) (x6 : Int32) (s : am_Z) (r : am_Z), K137 x5 x6 s = some r → am_go sc 5 (am_ev sc 4) 147 h0 (137, [some (.ref 16), none, none, none, none, some (.int x5), some (.int x6), none, none], [], zz_hM c s t, true) ((.inl (none), zz_hM c r t, true) : am_R)) {x5 : Int32} {x6 : Int32} {s : am_Z} {r : am_Z} (hF : fz_mo_readData_239 K137 x5 x6 s = some r) : am_go sc 5 (am_ev sc 4) 147 h0 (239, [some (.ref 16), none, none, none, none, some (.int x5), some (.int x6), none, none], [], zz_hM c s t, true) ((.inl (none), zz_hM c r t, true) : am_R) := by
  unfold fz_mo_readData_239 at hF
  refine am_go.blk hcd_mo_readData 2 (g := (242, [some (.ref 16), none, none, none, none, some (.int x5), some (.int x6), none, none], [.ref 16, .int x6], zz_hM c s t, true)) rfl ?_
  obtain ⟨q1, hq1, hF⟩ := am_bd hF
  refine am_go.call hcd_mo_readData rfl rfl rfl rfl (am_le8 rfl) (am_ev.le (by decide) (tz_mo_perBlock (c := c) (t := t) hq1)) ?_
  refine am_go.blk hcd_mo_readData 3 (g := (137, [some (.ref 16), none, none, none, none, some (.int x5), some (.int (x6 + q1)), none, none], [], zz_hM c s t, true)) rfl ?_
  exact hK137 _ _ _ _ hF
def fz_mo_readData_238 (K137 : Int32 → Int32 → am_Z → Option (am_Z)) (x5 : Int32) (x6 : Int32) (y0 : Int32) (y1 : Int32) (s : am_Z) : Option (am_Z) :=
  if y1 < 0 ∨ 64 ≤ Int32.toNatClampNeg y1 then none else
  fz_mo_readData_239 K137 x5 x6 (zz_r s 2 (upd (s.2.2 2) (Int32.toNatClampNeg y1) y0))
set_option maxRecDepth 20000 in
theorem tz_mo_readData_238 {sc : am_S} {c : am_Z} {t : am_H} {h0 : am_H} {K137 : Int32 → Int32 → am_Z → Option (am_Z)} (hK137 : ∀ (x5 : Int32) (x6 : Int32) (s : am_Z) (r : am_Z), K137 x5 x6 s = some r → am_go sc 5 (am_ev sc 4) 147 h0 (137, [some (.ref 16), none, none, none, none, some (.int x5), some (.int x6), none, none], [], zz_hM c s t, true) ((.inl (none), zz_hM c r t, true) : am_R)) {x5 : Int32} {x6 : Int32} {y0 : Int32} {y1 : Int32} {s : am_Z} {r : am_Z} (hF : fz_mo_readData_238 K137 x5 x6 y0 y1 s = some r) : am_go sc 5 (am_ev sc 4) 147 h0 (238, [some (.ref 16), none, none, none, none, some (.int x5), some (.int x6), none, none], [.int y0, .int y1, .ref 19], zz_hM c s t, true) ((.inl (none), zz_hM c r t, true) : am_R) := by
  unfold fz_mo_readData_238 at hF
  obtain ⟨hi1, hF⟩ := am_ng hF
  refine am_go.iast hcd_mo_readData rfl rfl hi1 ?_
  exact tz_mo_readData_239 (hK137 := hK137) hF
def fz_mo_readData_137  : Nat → Int32 → Int32 → am_Z → Option (am_Z)
  | 0, _, _, _ => none
  | n + 1, x5, x6, s =>
    if (s.1 10) ≤ x6 then
      fz_mo_readData_251 x5 s
    else
    if ¬ (s.1 8) = 0 then
      fz_mo_readData_251 x5 s
    else
    if ¬ (s.1 12) = (17 : Int32) then
      if ¬ (s.1 12) = (2 : Int32) then
        (fz_mo_ask s (s.1 13) (0 : Int32) (0 : Int64) (65535 : Int64)).bind fun q1 =>
        if ¬ (q1.2.1 13) = (1 : Int32) then
          (fz_mo_signed q1.1 (16 : Int32)).bind fun q2 =>
          fz_mo_readData_238 (fz_mo_readData_137 n) x5 x6 q2 x6 q1.2
        else
        fz_mo_readData_238 (fz_mo_readData_137 n) x5 x6 ((256 : Int32) * ((Int64.toInt32 q1.1) - (128 : Int32))) x6 q1.2
      else
      (fz_mo_readPredicted s x6).bind fun q3 =>
      fz_mo_readData_239 (fz_mo_readData_137 n) x5 x6 q3
    else
    (fz_mo_readStepped s x6).bind fun q4 =>
    fz_mo_readData_239 (fz_mo_readData_137 n) x5 x6 q4
set_option maxRecDepth 20000 in
theorem tz_mo_readData_137 {sc : am_S} {c : am_Z} {t : am_H} {h0 : am_H}   : ∀ (n : Nat) (x5 : Int32) (x6 : Int32) (s : am_Z) (r : am_Z), fz_mo_readData_137  n x5 x6 s = some r → am_go sc 5 (am_ev sc 4) 147 h0 (137, [some (.ref 16), none, none, none, none, some (.int x5), some (.int x6), none, none], [], zz_hM c s t, true) ((.inl (none), zz_hM c r t, true) : am_R) := by
  intro n
  induction n with
  | zero => intro x5 x6 s r hF; cases hF
  | succ n ih =>
    intro x5 x6 s r hF
    unfold fz_mo_readData_137 at hF
    refine am_go.blk hcd_mo_readData 4 (g := (bif decide ((s.1 10) ≤ x6) then 251 else 146, [some (.ref 16), none, none, none, none, some (.int x5), some (.int x6), none, none], [], zz_hM c s t, true)) rfl ?_
    refine am_go.br (fun hP => ?_) (fun hP => ?_)
    · replace hF := (if_pos hP).symm.trans hF
      refine am_go.fgl [some (.ref 16), none, none, none, none, some (.int x5), none, none, none] ⟨rfl, rfl, trivial⟩ ?_
      exact tz_mo_readData_251  hF
    · replace hF := (if_neg hP).symm.trans hF
      refine am_go.blk hcd_mo_readData 3 (g := (bif decide (¬ (s.1 8) = 0) then 251 else 153, [some (.ref 16), none, none, none, none, some (.int x5), some (.int x6), none, none], [], zz_hM c s t, true)) rfl ?_
      refine am_go.br (fun hP => ?_) (fun hP => ?_)
      · replace hF := (if_pos hP).symm.trans hF
        refine am_go.fgl [some (.ref 16), none, none, none, none, some (.int x5), none, none, none] ⟨rfl, rfl, trivial⟩ ?_
        exact tz_mo_readData_251  hF
      · replace hF := (if_neg hP).symm.trans hF
        refine am_go.blk hcd_mo_readData 4 (g := (bif decide (¬ (s.1 12) = (17 : Int32)) then 171 else 162, [some (.ref 16), none, none, none, none, some (.int x5), some (.int x6), none, none], [], zz_hM c s t, true)) rfl ?_
        refine am_go.br (fun hP => ?_) (fun hP => ?_)
        · replace hF := (if_pos hP).symm.trans hF
          refine am_go.blk hcd_mo_readData 4 (g := (bif decide (¬ (s.1 12) = (2 : Int32)) then 188 else 179, [some (.ref 16), none, none, none, none, some (.int x5), some (.int x6), none, none], [], zz_hM c s t, true)) rfl ?_
          refine am_go.br (fun hP => ?_) (fun hP => ?_)
          · replace hF := (if_pos hP).symm.trans hF
            refine am_go.blk hcd_mo_readData 6 (g := (198, [some (.ref 16), none, none, none, none, some (.int x5), some (.int x6), none, none], [.long (65535 : Int64), .long (0 : Int64), .int (0 : Int32), .int (s.1 13), .ref 16], zz_hM c s t, true)) rfl ?_
            obtain ⟨q1, hq1, hF⟩ := am_bd hF
            refine am_go.call hcd_mo_readData rfl rfl rfl rfl (am_le8 rfl) (am_ev.le (by decide) (tz_mo_ask (c := c) (t := t) hq1)) ?_
            refine am_go.blk hcd_mo_readData 8 (g := (bif decide (¬ (q1.2.1 13) = (1 : Int32)) then 231 else 217, [some (.ref 16), none, none, none, none, some (.int x5), some (.int x6), some (.long q1.1), none], [.int x6, .ref 19], zz_hM c q1.2 t, true)) rfl ?_
            refine am_go.br (fun hP => ?_) (fun hP => ?_)
            · replace hF := (if_pos hP).symm.trans hF
              refine am_go.blk hcd_mo_readData 2 (g := (235, [some (.ref 16), none, none, none, none, some (.int x5), some (.int x6), some (.long q1.1), none], [.int (16 : Int32), .long q1.1, .int x6, .ref 19], zz_hM c q1.2 t, true)) rfl ?_
              obtain ⟨q2, hq2, hF⟩ := am_bd hF
              refine am_go.call hcd_mo_readData rfl rfl rfl rfl (am_le8 rfl) (am_ev.le (by decide) (tz_mo_signed (h := zz_hM c q1.2 t) hq2)) ?_
              refine am_go.fgl [some (.ref 16), none, none, none, none, some (.int x5), some (.int x6), none, none] ⟨rfl, rfl, rfl, trivial⟩ ?_
              exact tz_mo_readData_238 (hK137 := ih) hF
            · replace hF := (if_neg hP).symm.trans hF
              refine am_go.blk hcd_mo_readData 7 (g := (238, [some (.ref 16), none, none, none, none, some (.int x5), some (.int x6), some (.long q1.1), none], [.int ((256 : Int32) * ((Int64.toInt32 q1.1) - (128 : Int32))), .int x6, .ref 19], zz_hM c q1.2 t, true)) rfl ?_
              refine am_go.fgl [some (.ref 16), none, none, none, none, some (.int x5), some (.int x6), none, none] ⟨rfl, rfl, rfl, trivial⟩ ?_
              exact tz_mo_readData_238 (hK137 := ih) hF
          · replace hF := (if_neg hP).symm.trans hF
            refine am_go.blk hcd_mo_readData 2 (g := (182, [some (.ref 16), none, none, none, none, some (.int x5), some (.int x6), none, none], [.int x6, .ref 16], zz_hM c s t, true)) rfl ?_
            obtain ⟨q3, hq3, hF⟩ := am_bd hF
            refine am_go.call hcd_mo_readData rfl rfl rfl rfl (am_le8 rfl) (am_ev.le (by decide) (tz_mo_readPredicted (c := c) (t := t) hq3)) ?_
            refine am_go.blk hcd_mo_readData 1 (g := (239, [some (.ref 16), none, none, none, none, some (.int x5), some (.int x6), none, none], [], zz_hM c q3 t, true)) rfl ?_
            exact tz_mo_readData_239 (hK137 := ih) hF
        · replace hF := (if_neg hP).symm.trans hF
          refine am_go.blk hcd_mo_readData 2 (g := (165, [some (.ref 16), none, none, none, none, some (.int x5), some (.int x6), none, none], [.int x6, .ref 16], zz_hM c s t, true)) rfl ?_
          obtain ⟨q4, hq4, hF⟩ := am_bd hF
          refine am_go.call hcd_mo_readData rfl rfl rfl rfl (am_le8 rfl) (am_ev.le (by decide) (tz_mo_readStepped (c := c) (t := t) hq4)) ?_
          refine am_go.blk hcd_mo_readData 1 (g := (239, [some (.ref 16), none, none, none, none, some (.int x5), some (.int x6), none, none], [], zz_hM c q4 t, true)) rfl ?_
          exact tz_mo_readData_239 (hK137 := ih) hF
def fz_mo_readData_134  (x5 : Int32) (s : am_Z) : Option (am_Z) :=
  fz_mo_readData_137 fz_fu x5 (0 : Int32) s
set_option maxRecDepth 20000 in
theorem tz_mo_readData_134 {sc : am_S} {c : am_Z} {t : am_H} {h0 : am_H}   {x5 : Int32} {s : am_Z} {r : am_Z} (hF : fz_mo_readData_134 x5 s = some r) : am_go sc 5 (am_ev sc 4) 147 h0 (134, [some (.ref 16), none, none, none, none, some (.int x5), none, none, none], [], zz_hM c s t, true) ((.inl (none), zz_hM c r t, true) : am_R) := by
  unfold fz_mo_readData_134 at hF
  refine am_go.blk hcd_mo_readData 2 (g := (137, [some (.ref 16), none, none, none, none, some (.int x5), some (.int (0 : Int32)), none, none], [], zz_hM c s t, true)) rfl ?_
  exact tz_mo_readData_137  fz_fu _ _ _ _ hF
def fz_mo_readData_96  (x1 : Int64) (x3 : Int32) (y0 : Int32) (s : am_Z) : Option (am_Z) :=
  if ¬ y0 = 0 then
    (fz_mo_open s (0 : Int32) x1 x1 x1).bind fun q1 =>
    if x3 = 0 then
      fz_mo_readData_134 q1.1 q1.2
    else
    if (q1.2.1 13) = 0 then none else
    fz_mo_readData_134 q1.1 (zz_i q1.2 10 (q1.1 / (q1.2.1 13)))
  else
  some (zz_i s 8 (1 : Int32))
set_option maxRecDepth 20000 in
theorem tz_mo_readData_96 {sc : am_S} {c : am_Z} {t : am_H} {h0 : am_H}   {x1 : Int64} {x3 : Int32} {y0 : Int32} {s : am_Z} {r : am_Z} (hF : fz_mo_readData_96 x1 x3 y0 s = some r) : am_go sc 5 (am_ev sc 4) 147 h0 (96, [some (.ref 16), some (.long x1), none, some (.int x3), none, none, none, none, none], [.int y0], zz_hM c s t, true) ((.inl (none), zz_hM c r t, true) : am_R) := by
  unfold fz_mo_readData_96 at hF
  refine am_go.blk hcd_mo_readData 3 (g := (bif decide (¬ y0 = 0) then 109 else 103, [some (.ref 16), some (.long x1), none, some (.int x3), some (.int y0), none, none, none, none], [], zz_hM c s t, true)) rfl ?_
  refine am_go.br (fun hP => ?_) (fun hP => ?_)
  · replace hF := (if_pos hP).symm.trans hF
    refine am_go.blk hcd_mo_readData 5 (g := (114, [some (.ref 16), some (.long x1), none, some (.int x3), some (.int y0), none, none, none, none], [.long x1, .long x1, .long x1, .int (0 : Int32), .ref 16], zz_hM c s t, true)) rfl ?_
    obtain ⟨q1, hq1, hF⟩ := am_bd hF
    refine am_go.call hcd_mo_readData rfl rfl rfl rfl (am_le8 rfl) (am_ev.le (by decide) (tz_mo_open (c := c) (t := t) hq1)) ?_
    refine am_go.blk hcd_mo_readData 3 (g := (bif decide (x3 = 0) then 134 else 123, [some (.ref 16), some (.long x1), none, some (.int x3), some (.int y0), some (.int q1.1), none, none, none], [], zz_hM c q1.2 t, true)) rfl ?_
    refine am_go.br (fun hP => ?_) (fun hP => ?_)
    · replace hF := (if_pos hP).symm.trans hF
      refine am_go.fgl [some (.ref 16), none, none, none, none, some (.int q1.1), none, none, none] ⟨rfl, rfl, trivial⟩ ?_
      exact tz_mo_readData_134  hF
    · replace hF := (if_neg hP).symm.trans hF
      refine am_go.blk hcd_mo_readData 4 (g := (130, [some (.ref 16), some (.long x1), none, some (.int x3), some (.int y0), some (.int q1.1), none, none, none], [.int (q1.2.1 13), .int q1.1, .ref 16], zz_hM c q1.2 t, true)) rfl ?_
      obtain ⟨hd2, hF⟩ := am_ng hF
      refine am_go.idv hcd_mo_readData rfl hd2 ?_
      refine am_go.blk hcd_mo_readData 1 (g := (134, [some (.ref 16), some (.long x1), none, some (.int x3), some (.int y0), some (.int q1.1), none, none, none], [], zz_hM c (zz_i q1.2 10 (q1.1 / (q1.2.1 13))) t, true)) rfl ?_
      refine am_go.fgl [some (.ref 16), none, none, none, none, some (.int q1.1), none, none, none] ⟨rfl, rfl, trivial⟩ ?_
      exact tz_mo_readData_134  hF
  · replace hF := (if_neg hP).symm.trans hF
    refine am_go.blk hcd_mo_readData 3 (g := (108, [some (.ref 16), some (.long x1), none, some (.int x3), some (.int y0), none, none, none, none], [], zz_hM c (zz_i s 8 (1 : Int32)) t, true)) rfl ?_
    cases hF
    exact am_go.ret hcd_mo_readData rfl rfl ⟨rfl, rfl, (fun h => by cases h), rfl, rfl⟩
def fz_mo_readData_65  (x1 : Int64) (x3 : Int32) (s : am_Z) : Option (am_Z) :=
  fz_mo_readData_96 x1 x3 (0 : Int32) s
set_option maxRecDepth 20000 in
theorem tz_mo_readData_65 {sc : am_S} {c : am_Z} {t : am_H} {h0 : am_H}   {x1 : Int64} {x3 : Int32} {s : am_Z} {r : am_Z} (hF : fz_mo_readData_65 x1 x3 s = some r) : am_go sc 5 (am_ev sc 4) 147 h0 (65, [some (.ref 16), some (.long x1), none, some (.int x3), none, none, none, none, none], [], zz_hM c s t, true) ((.inl (none), zz_hM c r t, true) : am_R) := by
  unfold fz_mo_readData_65 at hF
  refine am_go.blk hcd_mo_readData 2 (g := (96, [some (.ref 16), some (.long x1), none, some (.int x3), none, none, none, none, none], [.int (0 : Int32)], zz_hM c s t, true)) rfl ?_
  exact tz_mo_readData_96  hF
def fz_mo_readData_24  (x1 : Int64) (y0 : Int32) (s : am_Z) : Option (am_Z) :=
  if y0 = 0 then
    (fz_mo_perBlock s).bind fun q1 =>
    (fz_mo_blocks (s.1 10) q1).bind fun q2 =>
    if ¬ (lg_cmp x1 (Int32.toInt64 ((s.1 13) * q2))) = 0 then
      fz_mo_readData_96 x1 y0 (0 : Int32) s
    else
    fz_mo_readData_96 x1 y0 (1 : Int32) s
  else
  if (lg_cmp x1 (0 : Int64)) < 0 then
    fz_mo_readData_65 x1 y0 s
  else
  if (Int32.toInt64 (s.1 13)) = 0 then none else
  if ¬ (lg_cmp (x1 - x1 / (Int32.toInt64 (s.1 13)) * (Int32.toInt64 (s.1 13))) (0 : Int64)) = 0 then
    fz_mo_readData_65 x1 y0 s
  else
  if (Int32.toInt64 (s.1 13)) = 0 then none else
  if 0 < (lg_cmp (x1 / (Int32.toInt64 (s.1 13))) (64 : Int64)) then
    fz_mo_readData_65 x1 y0 s
  else
  fz_mo_readData_96 x1 y0 (1 : Int32) s
set_option maxRecDepth 20000 in
theorem tz_mo_readData_24 {sc : am_S} {c : am_Z} {t : am_H} {h0 : am_H}   {x1 : Int64} {y0 : Int32} {s : am_Z} {r : am_Z} (hF : fz_mo_readData_24 x1 y0 s = some r) : am_go sc 5 (am_ev sc 4) 147 h0 (24, [some (.ref 16), some (.long x1), none, none, none, none, none, none, none], [.int y0], zz_hM c s t, true) ((.inl (none), zz_hM c r t, true) : am_R) := by
  unfold fz_mo_readData_24 at hF
  refine am_go.blk hcd_mo_readData 3 (g := (bif decide (y0 = 0) then 69 else 29, [some (.ref 16), some (.long x1), none, some (.int y0), none, none, none, none, none], [], zz_hM c s t, true)) rfl ?_
  refine am_go.br (fun hP => ?_) (fun hP => ?_)
  · replace hF := (if_pos hP).symm.trans hF
    refine am_go.blk hcd_mo_readData 6 (g := (79, [some (.ref 16), some (.long x1), none, some (.int y0), none, none, none, none, none], [.ref 16, .int (s.1 10), .int (s.1 13), .long x1], zz_hM c s t, true)) rfl ?_
    obtain ⟨q1, hq1, hF⟩ := am_bd hF
    refine am_go.call hcd_mo_readData rfl rfl rfl rfl (am_le8 rfl) (am_ev.le (by decide) (tz_mo_perBlock (c := c) (t := t) hq1)) ?_
    obtain ⟨q2, hq2, hF⟩ := am_bd hF
    refine am_go.call hcd_mo_readData rfl rfl rfl rfl (am_le8 rfl) (am_ev.le (by decide) (tz_mo_blocks (h := zz_hM c s t) hq2)) ?_
    refine am_go.blk hcd_mo_readData 4 (g := (bif decide (¬ (lg_cmp x1 (Int32.toInt64 ((s.1 13) * q2))) = 0) then 95 else 91, [some (.ref 16), some (.long x1), none, some (.int y0), none, none, none, none, none], [], zz_hM c s t, true)) rfl ?_
    refine am_go.br (fun hP => ?_) (fun hP => ?_)
    · replace hF := (if_pos hP).symm.trans hF
      refine am_go.blk hcd_mo_readData 1 (g := (96, [some (.ref 16), some (.long x1), none, some (.int y0), none, none, none, none, none], [.int (0 : Int32)], zz_hM c s t, true)) rfl ?_
      exact tz_mo_readData_96  hF
    · replace hF := (if_neg hP).symm.trans hF
      refine am_go.blk hcd_mo_readData 2 (g := (96, [some (.ref 16), some (.long x1), none, some (.int y0), none, none, none, none, none], [.int (1 : Int32)], zz_hM c s t, true)) rfl ?_
      exact tz_mo_readData_96  hF
  · replace hF := (if_neg hP).symm.trans hF
    refine am_go.blk hcd_mo_readData 4 (g := (bif decide ((lg_cmp x1 (0 : Int64)) < 0) then 65 else 35, [some (.ref 16), some (.long x1), none, some (.int y0), none, none, none, none, none], [], zz_hM c s t, true)) rfl ?_
    refine am_go.br (fun hP => ?_) (fun hP => ?_)
    · replace hF := (if_pos hP).symm.trans hF
      exact tz_mo_readData_65  hF
    · replace hF := (if_neg hP).symm.trans hF
      refine am_go.blk hcd_mo_readData 4 (g := (41, [some (.ref 16), some (.long x1), none, some (.int y0), none, none, none, none, none], [.long (Int32.toInt64 (s.1 13)), .long x1], zz_hM c s t, true)) rfl ?_
      obtain ⟨hd3, hF⟩ := am_ng hF
      refine am_go.lrm hcd_mo_readData rfl hd3 ?_
      refine am_go.blk hcd_mo_readData 3 (g := (bif decide (¬ (lg_cmp (x1 - x1 / (Int32.toInt64 (s.1 13)) * (Int32.toInt64 (s.1 13))) (0 : Int64)) = 0) then 65 else 47, [some (.ref 16), some (.long x1), none, some (.int y0), none, none, none, none, none], [], zz_hM c s t, true)) rfl ?_
      refine am_go.br (fun hP => ?_) (fun hP => ?_)
      · replace hF := (if_pos hP).symm.trans hF
        exact tz_mo_readData_65  hF
      · replace hF := (if_neg hP).symm.trans hF
        refine am_go.blk hcd_mo_readData 4 (g := (53, [some (.ref 16), some (.long x1), none, some (.int y0), none, none, none, none, none], [.long (Int32.toInt64 (s.1 13)), .long x1], zz_hM c s t, true)) rfl ?_
        obtain ⟨hd4, hF⟩ := am_ng hF
        refine am_go.ldv hcd_mo_readData rfl hd4 ?_
        refine am_go.blk hcd_mo_readData 3 (g := (bif decide (0 < (lg_cmp (x1 / (Int32.toInt64 (s.1 13))) (64 : Int64))) then 65 else 61, [some (.ref 16), some (.long x1), none, some (.int y0), none, none, none, none, none], [], zz_hM c s t, true)) rfl ?_
        refine am_go.br (fun hP => ?_) (fun hP => ?_)
        · replace hF := (if_pos hP).symm.trans hF
          exact tz_mo_readData_65  hF
        · replace hF := (if_neg hP).symm.trans hF
          refine am_go.blk hcd_mo_readData 2 (g := (96, [some (.ref 16), some (.long x1), none, some (.int y0), none, none, none, none, none], [.int (1 : Int32)], zz_hM c s t, true)) rfl ?_
          exact tz_mo_readData_96  hF
def fz_mo_readData (s : am_Z) : Option (am_Z) :=
  (fz_mo_peek s (s.1 7) (4 : Int32) (0 : Int32)).bind fun q1 =>
  if ¬ (s.1 12) = (1 : Int32) then
    fz_mo_readData_24 q1 (0 : Int32) s
  else
  fz_mo_readData_24 q1 (1 : Int32) s
set_option maxRecDepth 20000 in
theorem tz_mo_readData {sc : am_S} {c : am_Z} {t : am_H} {s : am_Z} {r : am_Z} (hF : fz_mo_readData s = some r) : am_ev sc 5 147 [.ref 16] (zz_hM c s t) ((.inl (none), zz_hM c r t, true) : am_R) := by
  unfold fz_mo_readData at hF
  refine am_ev.of true rfl ?_
  show am_go sc _ _ _ _ (0, [some (.ref 16), none, none, none, none, none, none, none, none], [], zz_hM c s t, true) _
  refine am_go.blk hcd_mo_readData 5 (g := (7, [some (.ref 16), none, none, none, none, none, none, none, none], [.int (0 : Int32), .int (4 : Int32), .int (s.1 7), .ref 16], zz_hM c s t, true)) rfl ?_
  obtain ⟨q1, hq1, hF⟩ := am_bd hF
  refine am_go.call hcd_mo_readData rfl rfl rfl rfl (am_le8 rfl) (am_ev.le (by decide) (tz_mo_peek (c := c) (t := t) hq1)) ?_
  refine am_go.blk hcd_mo_readData 5 (g := (bif decide (¬ (s.1 12) = (1 : Int32)) then 23 else 19, [some (.ref 16), some (.long q1), none, none, none, none, none, none, none], [], zz_hM c s t, true)) rfl ?_
  refine am_go.br (fun hP => ?_) (fun hP => ?_)
  · replace hF := (if_pos hP).symm.trans hF
    refine am_go.blk hcd_mo_readData 1 (g := (24, [some (.ref 16), some (.long q1), none, none, none, none, none, none, none], [.int (0 : Int32)], zz_hM c s t, true)) rfl ?_
    exact tz_mo_readData_24  hF
  · replace hF := (if_neg hP).symm.trans hF
    refine am_go.blk hcd_mo_readData 2 (g := (24, [some (.ref 16), some (.long q1), none, none, none, none, none, none, none], [.int (1 : Int32)], zz_hM c s t, true)) rfl ?_
    exact tz_mo_readData_24  hF
theorem hcd_mo_readWave : am_code 148 = am_c_mo_readWave := rfl
def fz_mo_readWave_207 (K2 : Int32 → am_Z → Option (am_Z)) (x1 : Int32) (s : am_Z) : Option (am_Z) :=
  K2 x1 s
set_option maxRecDepth 20000 in
theorem tz_mo_readWave_207 {sc : am_S} {c : am_Z} {t : am_H} {h0 : am_H} {K2 : Int32 → am_Z → Option (am_Z)} (hK2 : ∀ (x1 : Int32) (s : am_Z) (r : am_Z), K2 x1 s = some r → am_go sc 6 (am_ev sc 5) 148 h0 (2, [some (.ref 16), some (.int x1), none, none, none, none], [], zz_hM c s t, true) ((.inl (none), zz_hM c r t, true) : am_R)) {x1 : Int32} {s : am_Z} {r : am_Z} (hF : fz_mo_readWave_207 K2 x1 s = some r) : am_go sc 6 (am_ev sc 5) 148 h0 (207, [some (.ref 16), some (.int x1), none, none, none, none], [], zz_hM c s t, true) ((.inl (none), zz_hM c r t, true) : am_R) := by
  unfold fz_mo_readWave_207 at hF
  refine am_go.blk hcd_mo_readWave 1 (g := (2, [some (.ref 16), some (.int x1), none, none, none, none], [], zz_hM c s t, true)) rfl ?_
  exact hK2 _ _ _ hF
def fz_mo_readWave_148 (K2 : Int32 → am_Z → Option (am_Z)) (x1 : Int32) (x2 : Int64) (x4 : Int32) (s : am_Z) : Option (am_Z) :=
  if ¬ (lg_cmp x2 (1718449184 : Int64)) = 0 then
    if x4 = 0 then
      if ¬ (lg_cmp x2 (1684108385 : Int64)) = 0 then
        (fz_mo_passOver (zz_i s 7 ((s.1 7) + (4 : Int32))) (0 : Int32)).bind fun q1 =>
        fz_mo_readWave_207 K2 x1 q1
      else
      (fz_mo_readData (zz_i s 7 ((s.1 7) + (4 : Int32)))).bind fun q2 =>
      fz_mo_readWave_207 K2 (1 : Int32) q2
    else
    (fz_mo_readCount (zz_i s 7 ((s.1 7) + (4 : Int32)))).bind fun q3 =>
    fz_mo_readWave_207 K2 x1 q3
  else
  (fz_mo_readFormat (zz_i s 7 ((s.1 7) + (4 : Int32)))).bind fun q4 =>
  fz_mo_readWave_207 K2 x1 q4
set_option maxRecDepth 20000 in
theorem tz_mo_readWave_148 {sc : am_S} {c : am_Z} {t : am_H} {h0 : am_H} {K2 : Int32 → am_Z → Option (am_Z)} (hK2 : ∀ (x1 : Int32) (s : am_Z) (r : am_Z), K2 x1 s = some r → am_go sc 6 (am_ev sc 5) 148 h0 (2, [some (.ref 16), some (.int x1), none, none, none, none], [], zz_hM c s t, true) ((.inl (none), zz_hM c r t, true) : am_R)) {x1 : Int32} {x2 : Int64} {x4 : Int32} {s : am_Z} {r : am_Z} (hF : fz_mo_readWave_148 K2 x1 x2 x4 s = some r) : am_go sc 6 (am_ev sc 5) 148 h0 (148, [some (.ref 16), some (.int x1), some (.long x2), none, some (.int x4), none], [], zz_hM c s t, true) ((.inl (none), zz_hM c r t, true) : am_R) := by
  unfold fz_mo_readWave_148 at hF
  refine am_go.blk hcd_mo_readWave 10 (g := (bif decide (¬ (lg_cmp x2 (1718449184 : Int64)) = 0) then 173 else 166, [some (.ref 16), some (.int x1), some (.long x2), none, some (.int x4), none], [], zz_hM c (zz_i s 7 ((s.1 7) + (4 : Int32))) t, true)) rfl ?_
  refine am_go.br (fun hP => ?_) (fun hP => ?_)
  · replace hF := (if_pos hP).symm.trans hF
    refine am_go.blk hcd_mo_readWave 2 (g := (bif decide (x4 = 0) then 185 else 178, [some (.ref 16), some (.int x1), some (.long x2), none, some (.int x4), none], [], zz_hM c (zz_i s 7 ((s.1 7) + (4 : Int32))) t, true)) rfl ?_
    refine am_go.br (fun hP => ?_) (fun hP => ?_)
    · replace hF := (if_pos hP).symm.trans hF
      refine am_go.blk hcd_mo_readWave 4 (g := (bif decide (¬ (lg_cmp x2 (1684108385 : Int64)) = 0) then 202 else 193, [some (.ref 16), some (.int x1), some (.long x2), none, some (.int x4), none], [], zz_hM c (zz_i s 7 ((s.1 7) + (4 : Int32))) t, true)) rfl ?_
      refine am_go.br (fun hP => ?_) (fun hP => ?_)
      · replace hF := (if_pos hP).symm.trans hF
        refine am_go.blk hcd_mo_readWave 2 (g := (204, [some (.ref 16), some (.int x1), some (.long x2), none, some (.int x4), none], [.int (0 : Int32), .ref 16], zz_hM c (zz_i s 7 ((s.1 7) + (4 : Int32))) t, true)) rfl ?_
        obtain ⟨q1, hq1, hF⟩ := am_bd hF
        refine am_go.call hcd_mo_readWave rfl rfl rfl rfl (am_le8 rfl) (am_ev.le (by decide) (tz_mo_passOver (c := c) (t := t) hq1)) ?_
        refine am_go.fgl [some (.ref 16), some (.int x1), none, none, none, none] ⟨rfl, rfl, trivial⟩ ?_
        exact tz_mo_readWave_207 (hK2 := hK2) hF
      · replace hF := (if_neg hP).symm.trans hF
        refine am_go.blk hcd_mo_readWave 1 (g := (194, [some (.ref 16), some (.int x1), some (.long x2), none, some (.int x4), none], [.ref 16], zz_hM c (zz_i s 7 ((s.1 7) + (4 : Int32))) t, true)) rfl ?_
        obtain ⟨q2, hq2, hF⟩ := am_bd hF
        refine am_go.call hcd_mo_readWave rfl rfl rfl rfl (am_le8 rfl) (am_ev.le (by decide) (tz_mo_readData (c := c) (t := t) hq2)) ?_
        refine am_go.blk hcd_mo_readWave 3 (g := (207, [some (.ref 16), some (.int (1 : Int32)), some (.long x2), none, some (.int x4), none], [], zz_hM c q2 t, true)) rfl ?_
        refine am_go.fgl [some (.ref 16), some (.int (1 : Int32)), none, none, none, none] ⟨rfl, rfl, trivial⟩ ?_
        exact tz_mo_readWave_207 (hK2 := hK2) hF
    · replace hF := (if_neg hP).symm.trans hF
      refine am_go.blk hcd_mo_readWave 1 (g := (179, [some (.ref 16), some (.int x1), some (.long x2), none, some (.int x4), none], [.ref 16], zz_hM c (zz_i s 7 ((s.1 7) + (4 : Int32))) t, true)) rfl ?_
      obtain ⟨q3, hq3, hF⟩ := am_bd hF
      refine am_go.call hcd_mo_readWave rfl rfl rfl rfl (am_le8 rfl) (am_ev.le (by decide) (tz_mo_readCount (c := c) (t := t) hq3)) ?_
      refine am_go.blk hcd_mo_readWave 1 (g := (207, [some (.ref 16), some (.int x1), some (.long x2), none, some (.int x4), none], [], zz_hM c q3 t, true)) rfl ?_
      refine am_go.fgl [some (.ref 16), some (.int x1), none, none, none, none] ⟨rfl, rfl, trivial⟩ ?_
      exact tz_mo_readWave_207 (hK2 := hK2) hF
  · replace hF := (if_neg hP).symm.trans hF
    refine am_go.blk hcd_mo_readWave 1 (g := (167, [some (.ref 16), some (.int x1), some (.long x2), none, some (.int x4), none], [.ref 16], zz_hM c (zz_i s 7 ((s.1 7) + (4 : Int32))) t, true)) rfl ?_
    obtain ⟨q4, hq4, hF⟩ := am_bd hF
    refine am_go.call hcd_mo_readWave rfl rfl rfl rfl (am_le8 rfl) (am_ev.le (by decide) (tz_mo_readFormat (c := c) (t := t) hq4)) ?_
    refine am_go.blk hcd_mo_readWave 1 (g := (207, [some (.ref 16), some (.int x1), some (.long x2), none, some (.int x4), none], [], zz_hM c q4 t, true)) rfl ?_
    refine am_go.fgl [some (.ref 16), some (.int x1), none, none, none, none] ⟨rfl, rfl, trivial⟩ ?_
    exact tz_mo_readWave_207 (hK2 := hK2) hF
def fz_mo_readWave_142  (s : am_Z) : Option (am_Z) :=
  some (zz_i s 8 (1 : Int32))
set_option maxRecDepth 20000 in
theorem tz_mo_readWave_142 {sc : am_S} {c : am_Z} {t : am_H} {h0 : am_H}   {s : am_Z} {r : am_Z} (hF : fz_mo_readWave_142 s = some r) : am_go sc 6 (am_ev sc 5) 148 h0 (142, [some (.ref 16), none, none, none, none, none], [], zz_hM c s t, true) ((.inl (none), zz_hM c r t, true) : am_R) := by
  unfold fz_mo_readWave_142 at hF
  refine am_go.blk hcd_mo_readWave 3 (g := (147, [some (.ref 16), none, none, none, none, none], [], zz_hM c (zz_i s 8 (1 : Int32)) t, true)) rfl ?_
  cases hF
  exact am_go.ret hcd_mo_readWave rfl rfl ⟨rfl, rfl, (fun h => by cases h), rfl, rfl⟩
def fz_mo_readWave_129 (K2 : Int32 → am_Z → Option (am_Z)) (x1 : Int32) (x2 : Int64) (x4 : Int32) (x5 : Int32) (s : am_Z) : Option (am_Z) :=
  if ¬ (lg_cmp x2 (1684108385 : Int64)) = 0 then
    fz_mo_readWave_148 K2 x1 x2 x4 s
  else
  if x5 = 0 then
    fz_mo_readWave_148 K2 x1 x2 x4 s
  else
  fz_mo_readWave_142 s
set_option maxRecDepth 20000 in
theorem tz_mo_readWave_129 {sc : am_S} {c : am_Z} {t : am_H} {h0 : am_H} {K2 : Int32 → am_Z → Option (am_Z)} (hK2 : ∀ (x1 : Int32) (s : am_Z) (r : am_Z), K2 x1 s = some r → am_go sc 6 (am_ev sc 5) 148 h0 (2, [some (.ref 16), some (.int x1), none, none, none, none], [], zz_hM c s t, true) ((.inl (none), zz_hM c r t, true) : am_R)) {x1 : Int32} {x2 : Int64} {x4 : Int32} {x5 : Int32} {s : am_Z} {r : am_Z} (hF : fz_mo_readWave_129 K2 x1 x2 x4 x5 s = some r) : am_go sc 6 (am_ev sc 5) 148 h0 (129, [some (.ref 16), some (.int x1), some (.long x2), none, some (.int x4), some (.int x5)], [], zz_hM c s t, true) ((.inl (none), zz_hM c r t, true) : am_R) := by
  unfold fz_mo_readWave_129 at hF
  refine am_go.blk hcd_mo_readWave 4 (g := (bif decide (¬ (lg_cmp x2 (1684108385 : Int64)) = 0) then 148 else 137, [some (.ref 16), some (.int x1), some (.long x2), none, some (.int x4), some (.int x5)], [], zz_hM c s t, true)) rfl ?_
  refine am_go.br (fun hP => ?_) (fun hP => ?_)
  · replace hF := (if_pos hP).symm.trans hF
    refine am_go.fgl [some (.ref 16), some (.int x1), some (.long x2), none, some (.int x4), none] ⟨rfl, rfl, rfl, rfl, trivial⟩ ?_
    exact tz_mo_readWave_148 (hK2 := hK2) hF
  · replace hF := (if_neg hP).symm.trans hF
    refine am_go.blk hcd_mo_readWave 2 (g := (bif decide (x5 = 0) then 148 else 142, [some (.ref 16), some (.int x1), some (.long x2), none, some (.int x4), some (.int x5)], [], zz_hM c s t, true)) rfl ?_
    refine am_go.br (fun hP => ?_) (fun hP => ?_)
    · replace hF := (if_pos hP).symm.trans hF
      refine am_go.fgl [some (.ref 16), some (.int x1), some (.long x2), none, some (.int x4), none] ⟨rfl, rfl, rfl, rfl, trivial⟩ ?_
      exact tz_mo_readWave_148 (hK2 := hK2) hF
    · replace hF := (if_neg hP).symm.trans hF
      refine am_go.fgl [some (.ref 16), none, none, none, none, none] ⟨rfl, trivial⟩ ?_
      exact tz_mo_readWave_142  hF
def fz_mo_readWave_117 (K2 : Int32 → am_Z → Option (am_Z)) (x1 : Int32) (x2 : Int64) (x4 : Int32) (x5 : Int32) (s : am_Z) : Option (am_Z) :=
  if x4 = 0 then
    fz_mo_readWave_129 K2 x1 x2 x4 x5 s
  else
  if ¬ (s.1 16) = 0 then
    fz_mo_readWave_142 s
  else
  fz_mo_readWave_129 K2 x1 x2 x4 x5 s
set_option maxRecDepth 20000 in
theorem tz_mo_readWave_117 {sc : am_S} {c : am_Z} {t : am_H} {h0 : am_H} {K2 : Int32 → am_Z → Option (am_Z)} (hK2 : ∀ (x1 : Int32) (s : am_Z) (r : am_Z), K2 x1 s = some r → am_go sc 6 (am_ev sc 5) 148 h0 (2, [some (.ref 16), some (.int x1), none, none, none, none], [], zz_hM c s t, true) ((.inl (none), zz_hM c r t, true) : am_R)) {x1 : Int32} {x2 : Int64} {x4 : Int32} {x5 : Int32} {s : am_Z} {r : am_Z} (hF : fz_mo_readWave_117 K2 x1 x2 x4 x5 s = some r) : am_go sc 6 (am_ev sc 5) 148 h0 (117, [some (.ref 16), some (.int x1), some (.long x2), none, some (.int x4), some (.int x5)], [], zz_hM c s t, true) ((.inl (none), zz_hM c r t, true) : am_R) := by
  unfold fz_mo_readWave_117 at hF
  refine am_go.blk hcd_mo_readWave 2 (g := (bif decide (x4 = 0) then 129 else 122, [some (.ref 16), some (.int x1), some (.long x2), none, some (.int x4), some (.int x5)], [], zz_hM c s t, true)) rfl ?_
  refine am_go.br (fun hP => ?_) (fun hP => ?_)
  · replace hF := (if_pos hP).symm.trans hF
    exact tz_mo_readWave_129 (hK2 := hK2) hF
  · replace hF := (if_neg hP).symm.trans hF
    refine am_go.blk hcd_mo_readWave 3 (g := (bif decide (¬ (s.1 16) = 0) then 142 else 129, [some (.ref 16), some (.int x1), some (.long x2), none, some (.int x4), some (.int x5)], [], zz_hM c s t, true)) rfl ?_
    refine am_go.br (fun hP => ?_) (fun hP => ?_)
    · replace hF := (if_pos hP).symm.trans hF
      refine am_go.fgl [some (.ref 16), none, none, none, none, none] ⟨rfl, trivial⟩ ?_
      exact tz_mo_readWave_142  hF
    · replace hF := (if_neg hP).symm.trans hF
      exact tz_mo_readWave_129 (hK2 := hK2) hF
def fz_mo_readWave_102 (K2 : Int32 → am_Z → Option (am_Z)) (x1 : Int32) (x2 : Int64) (x4 : Int32) (x5 : Int32) (s : am_Z) : Option (am_Z) :=
  if ¬ (lg_cmp x2 (1718449184 : Int64)) = 0 then
    fz_mo_readWave_117 K2 x1 x2 x4 x5 s
  else
  if ¬ (s.1 15) = 0 then
    fz_mo_readWave_142 s
  else
  fz_mo_readWave_117 K2 x1 x2 x4 x5 s
set_option maxRecDepth 20000 in
theorem tz_mo_readWave_102 {sc : am_S} {c : am_Z} {t : am_H} {h0 : am_H} {K2 : Int32 → am_Z → Option (am_Z)} (hK2 : ∀ (x1 : Int32) (s : am_Z) (r : am_Z), K2 x1 s = some r → am_go sc 6 (am_ev sc 5) 148 h0 (2, [some (.ref 16), some (.int x1), none, none, none, none], [], zz_hM c s t, true) ((.inl (none), zz_hM c r t, true) : am_R)) {x1 : Int32} {x2 : Int64} {x4 : Int32} {x5 : Int32} {s : am_Z} {r : am_Z} (hF : fz_mo_readWave_102 K2 x1 x2 x4 x5 s = some r) : am_go sc 6 (am_ev sc 5) 148 h0 (102, [some (.ref 16), some (.int x1), some (.long x2), none, some (.int x4), some (.int x5)], [], zz_hM c s t, true) ((.inl (none), zz_hM c r t, true) : am_R) := by
  unfold fz_mo_readWave_102 at hF
  refine am_go.blk hcd_mo_readWave 4 (g := (bif decide (¬ (lg_cmp x2 (1718449184 : Int64)) = 0) then 117 else 110, [some (.ref 16), some (.int x1), some (.long x2), none, some (.int x4), some (.int x5)], [], zz_hM c s t, true)) rfl ?_
  refine am_go.br (fun hP => ?_) (fun hP => ?_)
  · replace hF := (if_pos hP).symm.trans hF
    exact tz_mo_readWave_117 (hK2 := hK2) hF
  · replace hF := (if_neg hP).symm.trans hF
    refine am_go.blk hcd_mo_readWave 3 (g := (bif decide (¬ (s.1 15) = 0) then 142 else 117, [some (.ref 16), some (.int x1), some (.long x2), none, some (.int x4), some (.int x5)], [], zz_hM c s t, true)) rfl ?_
    refine am_go.br (fun hP => ?_) (fun hP => ?_)
    · replace hF := (if_pos hP).symm.trans hF
      refine am_go.fgl [some (.ref 16), none, none, none, none, none] ⟨rfl, trivial⟩ ?_
      exact tz_mo_readWave_142  hF
    · replace hF := (if_neg hP).symm.trans hF
      exact tz_mo_readWave_117 (hK2 := hK2) hF
def fz_mo_readWave_81 (K2 : Int32 → am_Z → Option (am_Z)) (x1 : Int32) (x2 : Int64) (x4 : Int32) (y0 : Int32) (s : am_Z) : Option (am_Z) :=
  if 0 ≤ (lg_cmp x2 (0 : Int64)) then
    fz_mo_readWave_102 K2 x1 x2 x4 y0 s
  else
  if (s.1 4) < ((s.1 7) + (4 : Int32)) then
    fz_mo_readWave_142 s
  else
  fz_mo_readWave_102 K2 x1 x2 x4 y0 s
set_option maxRecDepth 20000 in
theorem tz_mo_readWave_81 {sc : am_S} {c : am_Z} {t : am_H} {h0 : am_H} {K2 : Int32 → am_Z → Option (am_Z)} (hK2 : ∀ (x1 : Int32) (s : am_Z) (r : am_Z), K2 x1 s = some r → am_go sc 6 (am_ev sc 5) 148 h0 (2, [some (.ref 16), some (.int x1), none, none, none, none], [], zz_hM c s t, true) ((.inl (none), zz_hM c r t, true) : am_R)) {x1 : Int32} {x2 : Int64} {x4 : Int32} {y0 : Int32} {s : am_Z} {r : am_Z} (hF : fz_mo_readWave_81 K2 x1 x2 x4 y0 s = some r) : am_go sc 6 (am_ev sc 5) 148 h0 (81, [some (.ref 16), some (.int x1), some (.long x2), none, some (.int x4), none], [.int y0], zz_hM c s t, true) ((.inl (none), zz_hM c r t, true) : am_R) := by
  unfold fz_mo_readWave_81 at hF
  refine am_go.blk hcd_mo_readWave 5 (g := (bif decide (0 ≤ (lg_cmp x2 (0 : Int64))) then 102 else 89, [some (.ref 16), some (.int x1), some (.long x2), none, some (.int x4), some (.int y0)], [], zz_hM c s t, true)) rfl ?_
  refine am_go.br (fun hP => ?_) (fun hP => ?_)
  · replace hF := (if_pos hP).symm.trans hF
    exact tz_mo_readWave_102 (hK2 := hK2) hF
  · replace hF := (if_neg hP).symm.trans hF
    refine am_go.blk hcd_mo_readWave 7 (g := (bif decide ((s.1 4) < ((s.1 7) + (4 : Int32))) then 142 else 102, [some (.ref 16), some (.int x1), some (.long x2), none, some (.int x4), some (.int y0)], [], zz_hM c s t, true)) rfl ?_
    refine am_go.br (fun hP => ?_) (fun hP => ?_)
    · replace hF := (if_pos hP).symm.trans hF
      refine am_go.fgl [some (.ref 16), none, none, none, none, none] ⟨rfl, trivial⟩ ?_
      exact tz_mo_readWave_142  hF
    · replace hF := (if_neg hP).symm.trans hF
      exact tz_mo_readWave_102 (hK2 := hK2) hF
def fz_mo_readWave_76 (K2 : Int32 → am_Z → Option (am_Z)) (x1 : Int32) (x2 : Int64) (x4 : Int32) (s : am_Z) : Option (am_Z) :=
  fz_mo_readWave_81 K2 x1 x2 x4 (1 : Int32) s
set_option maxRecDepth 20000 in
theorem tz_mo_readWave_76 {sc : am_S} {c : am_Z} {t : am_H} {h0 : am_H} {K2 : Int32 → am_Z → Option (am_Z)} (hK2 : ∀ (x1 : Int32) (s : am_Z) (r : am_Z), K2 x1 s = some r → am_go sc 6 (am_ev sc 5) 148 h0 (2, [some (.ref 16), some (.int x1), none, none, none, none], [], zz_hM c s t, true) ((.inl (none), zz_hM c r t, true) : am_R)) {x1 : Int32} {x2 : Int64} {x4 : Int32} {s : am_Z} {r : am_Z} (hF : fz_mo_readWave_76 K2 x1 x2 x4 s = some r) : am_go sc 6 (am_ev sc 5) 148 h0 (76, [some (.ref 16), some (.int x1), some (.long x2), none, some (.int x4), none], [], zz_hM c s t, true) ((.inl (none), zz_hM c r t, true) : am_R) := by
  unfold fz_mo_readWave_76 at hF
  refine am_go.blk hcd_mo_readWave 2 (g := (81, [some (.ref 16), some (.int x1), some (.long x2), none, some (.int x4), none], [.int (1 : Int32)], zz_hM c s t, true)) rfl ?_
  exact tz_mo_readWave_81 (hK2 := hK2) hF
def fz_mo_readWave_80 (K2 : Int32 → am_Z → Option (am_Z)) (x1 : Int32) (x2 : Int64) (x4 : Int32) (s : am_Z) : Option (am_Z) :=
  fz_mo_readWave_81 K2 x1 x2 x4 (0 : Int32) s
set_option maxRecDepth 20000 in
theorem tz_mo_readWave_80 {sc : am_S} {c : am_Z} {t : am_H} {h0 : am_H} {K2 : Int32 → am_Z → Option (am_Z)} (hK2 : ∀ (x1 : Int32) (s : am_Z) (r : am_Z), K2 x1 s = some r → am_go sc 6 (am_ev sc 5) 148 h0 (2, [some (.ref 16), some (.int x1), none, none, none, none], [], zz_hM c s t, true) ((.inl (none), zz_hM c r t, true) : am_R)) {x1 : Int32} {x2 : Int64} {x4 : Int32} {s : am_Z} {r : am_Z} (hF : fz_mo_readWave_80 K2 x1 x2 x4 s = some r) : am_go sc 6 (am_ev sc 5) 148 h0 (80, [some (.ref 16), some (.int x1), some (.long x2), none, some (.int x4), none], [], zz_hM c s t, true) ((.inl (none), zz_hM c r t, true) : am_R) := by
  unfold fz_mo_readWave_80 at hF
  refine am_go.blk hcd_mo_readWave 1 (g := (81, [some (.ref 16), some (.int x1), some (.long x2), none, some (.int x4), none], [.int (0 : Int32)], zz_hM c s t, true)) rfl ?_
  exact tz_mo_readWave_81 (hK2 := hK2) hF
def fz_mo_readWave_52 (K2 : Int32 → am_Z → Option (am_Z)) (x1 : Int32) (x2 : Int64) (y0 : Int32) (s : am_Z) : Option (am_Z) :=
  if (s.1 15) = 0 then
    fz_mo_readWave_76 K2 x1 x2 y0 s
  else
  if (s.1 12) = (1 : Int32) then
    fz_mo_readWave_80 K2 x1 x2 y0 s
  else
  if ¬ (s.1 16) = 0 then
    fz_mo_readWave_80 K2 x1 x2 y0 s
  else
  fz_mo_readWave_76 K2 x1 x2 y0 s
set_option maxRecDepth 20000 in
theorem tz_mo_readWave_52 {sc : am_S} {c : am_Z} {t : am_H} {h0 : am_H} {K2 : Int32 → am_Z → Option (am_Z)} (hK2 : ∀ (x1 : Int32) (s : am_Z) (r : am_Z), K2 x1 s = some r → am_go sc 6 (am_ev sc 5) 148 h0 (2, [some (.ref 16), some (.int x1), none, none, none, none], [], zz_hM c s t, true) ((.inl (none), zz_hM c r t, true) : am_R)) {x1 : Int32} {x2 : Int64} {y0 : Int32} {s : am_Z} {r : am_Z} (hF : fz_mo_readWave_52 K2 x1 x2 y0 s = some r) : am_go sc 6 (am_ev sc 5) 148 h0 (52, [some (.ref 16), some (.int x1), some (.long x2), none, none, none], [.int y0], zz_hM c s t, true) ((.inl (none), zz_hM c r t, true) : am_R) := by
  unfold fz_mo_readWave_52 at hF
  refine am_go.blk hcd_mo_readWave 4 (g := (bif decide ((s.1 15) = 0) then 76 else 61, [some (.ref 16), some (.int x1), some (.long x2), none, some (.int y0), none], [], zz_hM c s t, true)) rfl ?_
  refine am_go.br (fun hP => ?_) (fun hP => ?_)
  · replace hF := (if_pos hP).symm.trans hF
    exact tz_mo_readWave_76 (hK2 := hK2) hF
  · replace hF := (if_neg hP).symm.trans hF
    refine am_go.blk hcd_mo_readWave 4 (g := (bif decide ((s.1 12) = (1 : Int32)) then 80 else 69, [some (.ref 16), some (.int x1), some (.long x2), none, some (.int y0), none], [], zz_hM c s t, true)) rfl ?_
    refine am_go.br (fun hP => ?_) (fun hP => ?_)
    · replace hF := (if_pos hP).symm.trans hF
      exact tz_mo_readWave_80 (hK2 := hK2) hF
    · replace hF := (if_neg hP).symm.trans hF
      refine am_go.blk hcd_mo_readWave 3 (g := (bif decide (¬ (s.1 16) = 0) then 80 else 76, [some (.ref 16), some (.int x1), some (.long x2), none, some (.int y0), none], [], zz_hM c s t, true)) rfl ?_
      refine am_go.br (fun hP => ?_) (fun hP => ?_)
      · replace hF := (if_pos hP).symm.trans hF
        exact tz_mo_readWave_80 (hK2 := hK2) hF
      · replace hF := (if_neg hP).symm.trans hF
        exact tz_mo_readWave_76 (hK2 := hK2) hF
def fz_mo_readWave_51 (K2 : Int32 → am_Z → Option (am_Z)) (x1 : Int32) (x2 : Int64) (s : am_Z) : Option (am_Z) :=
  fz_mo_readWave_52 K2 x1 x2 (0 : Int32) s
set_option maxRecDepth 20000 in
theorem tz_mo_readWave_51 {sc : am_S} {c : am_Z} {t : am_H} {h0 : am_H} {K2 : Int32 → am_Z → Option (am_Z)} (hK2 : ∀ (x1 : Int32) (s : am_Z) (r : am_Z), K2 x1 s = some r → am_go sc 6 (am_ev sc 5) 148 h0 (2, [some (.ref 16), some (.int x1), none, none, none, none], [], zz_hM c s t, true) ((.inl (none), zz_hM c r t, true) : am_R)) {x1 : Int32} {x2 : Int64} {s : am_Z} {r : am_Z} (hF : fz_mo_readWave_51 K2 x1 x2 s = some r) : am_go sc 6 (am_ev sc 5) 148 h0 (51, [some (.ref 16), some (.int x1), some (.long x2), none, none, none], [], zz_hM c s t, true) ((.inl (none), zz_hM c r t, true) : am_R) := by
  unfold fz_mo_readWave_51 at hF
  refine am_go.blk hcd_mo_readWave 1 (g := (52, [some (.ref 16), some (.int x1), some (.long x2), none, none, none], [.int (0 : Int32)], zz_hM c s t, true)) rfl ?_
  exact tz_mo_readWave_52 (hK2 := hK2) hF
def fz_mo_readWave_2  : Nat → Int32 → am_Z → Option (am_Z)
  | 0, _, _ => none
  | n + 1, x1, s =>
    if ¬ (s.1 8) = 0 then
      some s
    else
    if ¬ x1 = 0 then
      some s
    else
    (fz_mo_peek s (s.1 7) (4 : Int32) (1 : Int32)).bind fun q1 =>
    if ¬ (lg_cmp q1 (1717658484 : Int64)) = 0 then
      fz_mo_readWave_51 (fz_mo_readWave_2 n) x1 q1 s
    else
    if (s.1 15) = 0 then
      fz_mo_readWave_51 (fz_mo_readWave_2 n) x1 q1 s
    else
    if (s.1 12) = (1 : Int32) then
      fz_mo_readWave_51 (fz_mo_readWave_2 n) x1 q1 s
    else
    fz_mo_readWave_52 (fz_mo_readWave_2 n) x1 q1 (1 : Int32) s
set_option maxRecDepth 20000 in
theorem tz_mo_readWave_2 {sc : am_S} {c : am_Z} {t : am_H} {h0 : am_H}   : ∀ (n : Nat) (x1 : Int32) (s : am_Z) (r : am_Z), fz_mo_readWave_2  n x1 s = some r → am_go sc 6 (am_ev sc 5) 148 h0 (2, [some (.ref 16), some (.int x1), none, none, none, none], [], zz_hM c s t, true) ((.inl (none), zz_hM c r t, true) : am_R) := by
  intro n
  induction n with
  | zero => intro x1 s r hF; cases hF
  | succ n ih =>
    intro x1 s r hF
    unfold fz_mo_readWave_2 at hF
    refine am_go.blk hcd_mo_readWave 3 (g := (bif decide (¬ (s.1 8) = 0) then 210 else 9, [some (.ref 16), some (.int x1), none, none, none, none], [], zz_hM c s t, true)) rfl ?_
    refine am_go.br (fun hP => ?_) (fun hP => ?_)
    · replace hF := (if_pos hP).symm.trans hF
      cases hF
      exact am_go.ret hcd_mo_readWave rfl rfl ⟨rfl, rfl, (fun h => by cases h), rfl, rfl⟩
    · replace hF := (if_neg hP).symm.trans hF
      refine am_go.blk hcd_mo_readWave 2 (g := (bif decide (¬ x1 = 0) then 210 else 13, [some (.ref 16), some (.int x1), none, none, none, none], [], zz_hM c s t, true)) rfl ?_
      refine am_go.br (fun hP => ?_) (fun hP => ?_)
      · replace hF := (if_pos hP).symm.trans hF
        cases hF
        exact am_go.ret hcd_mo_readWave rfl rfl ⟨rfl, rfl, (fun h => by cases h), rfl, rfl⟩
      · replace hF := (if_neg hP).symm.trans hF
        refine am_go.blk hcd_mo_readWave 5 (g := (20, [some (.ref 16), some (.int x1), none, none, none, none], [.int (1 : Int32), .int (4 : Int32), .int (s.1 7), .ref 16], zz_hM c s t, true)) rfl ?_
        obtain ⟨q1, hq1, hF⟩ := am_bd hF
        refine am_go.call hcd_mo_readWave rfl rfl rfl rfl (am_le8 rfl) (am_ev.le (by decide) (tz_mo_peek (c := c) (t := t) hq1)) ?_
        refine am_go.blk hcd_mo_readWave 5 (g := (bif decide (¬ (lg_cmp q1 (1717658484 : Int64)) = 0) then 51 else 32, [some (.ref 16), some (.int x1), some (.long q1), none, none, none], [], zz_hM c s t, true)) rfl ?_
        refine am_go.br (fun hP => ?_) (fun hP => ?_)
        · replace hF := (if_pos hP).symm.trans hF
          exact tz_mo_readWave_51 (hK2 := ih) hF
        · replace hF := (if_neg hP).symm.trans hF
          refine am_go.blk hcd_mo_readWave 3 (g := (bif decide ((s.1 15) = 0) then 51 else 39, [some (.ref 16), some (.int x1), some (.long q1), none, none, none], [], zz_hM c s t, true)) rfl ?_
          refine am_go.br (fun hP => ?_) (fun hP => ?_)
          · replace hF := (if_pos hP).symm.trans hF
            exact tz_mo_readWave_51 (hK2 := ih) hF
          · replace hF := (if_neg hP).symm.trans hF
            refine am_go.blk hcd_mo_readWave 4 (g := (bif decide ((s.1 12) = (1 : Int32)) then 51 else 47, [some (.ref 16), some (.int x1), some (.long q1), none, none, none], [], zz_hM c s t, true)) rfl ?_
            refine am_go.br (fun hP => ?_) (fun hP => ?_)
            · replace hF := (if_pos hP).symm.trans hF
              exact tz_mo_readWave_51 (hK2 := ih) hF
            · replace hF := (if_neg hP).symm.trans hF
              refine am_go.blk hcd_mo_readWave 2 (g := (52, [some (.ref 16), some (.int x1), some (.long q1), none, none, none], [.int (1 : Int32)], zz_hM c s t, true)) rfl ?_
              exact tz_mo_readWave_52 (hK2 := ih) hF
def fz_mo_readWave (s : am_Z) : Option (am_Z) :=
  fz_mo_readWave_2 fz_fu (0 : Int32) s
set_option maxRecDepth 20000 in
theorem tz_mo_readWave {sc : am_S} {c : am_Z} {t : am_H} {s : am_Z} {r : am_Z} (hF : fz_mo_readWave s = some r) : am_ev sc 6 148 [.ref 16] (zz_hM c s t) ((.inl (none), zz_hM c r t, true) : am_R) := by
  unfold fz_mo_readWave at hF
  refine am_ev.of true rfl ?_
  show am_go sc _ _ _ _ (0, [some (.ref 16), none, none, none, none, none], [], zz_hM c s t, true) _
  refine am_go.blk hcd_mo_readWave 2 (g := (2, [some (.ref 16), some (.int (0 : Int32)), none, none, none, none], [], zz_hM c s t, true)) rfl ?_
  exact tz_mo_readWave_2  fz_fu _ _ _ hF
theorem hcd_mo_read : am_code 152 = am_c_mo_read := rfl
def fz_mo_read_217  : Nat → Int32 → am_Z → Option (Int32 × am_Z)
  | 0, _, _ => none
  | n + 1, x4, s =>
    if (s.1 1) ≤ x4 then
      some ((-1 : Int32), s)
    else
    if x4 < 0 ∨ 64 ≤ Int32.toNatClampNeg x4 then none else
    if x4 < 0 ∨ 64 ≤ Int32.toNatClampNeg x4 then none else
    fz_mo_read_217 n (x4 + (1 : Int32)) (zz_r s 0 (upd (s.2.2 0) (Int32.toNatClampNeg x4) ((s.2.2 2) (Int32.toNatClampNeg x4))))
set_option maxRecDepth 20000 in
theorem tz_mo_read_217 {sc : am_S} {c : am_Z} {t : am_H} {h0 : am_H}   : ∀ (n : Nat) (x4 : Int32) (s : am_Z) (r : Int32 × am_Z), fz_mo_read_217  n x4 s = some r → am_go sc 7 (am_ev sc 6) 152 h0 (217, [some (.ref 16), none, none, none, some (.int x4)], [], zz_hM c s t, true) ((.inl (some (.int r.1)), zz_hM c r.2 t, true) : am_R) := by
  intro n
  induction n with
  | zero => intro x4 s r hF; cases hF
  | succ n ih =>
    intro x4 s r hF
    unfold fz_mo_read_217 at hF
    refine am_go.blk hcd_mo_read 4 (g := (bif decide ((s.1 1) ≤ x4) then 246 else 226, [some (.ref 16), none, none, none, some (.int x4)], [], zz_hM c s t, true)) rfl ?_
    refine am_go.br (fun hP => ?_) (fun hP => ?_)
    · replace hF := (if_pos hP).symm.trans hF
      refine am_go.blk hcd_mo_read 1 (g := (247, [some (.ref 16), none, none, none, some (.int x4)], [.int (-1 : Int32)], zz_hM c s t, true)) rfl ?_
      cases hF
      exact am_go.ret hcd_mo_read rfl rfl ⟨rfl, rfl, (fun h => by cases h), Or.inl rfl, rfl⟩
    · replace hF := (if_neg hP).symm.trans hF
      refine am_go.blk hcd_mo_read 6 (g := (238, [some (.ref 16), none, none, none, some (.int x4)], [.int x4, .ref 19, .int x4, .ref 17], zz_hM c s t, true)) rfl ?_
      obtain ⟨hi1, hF⟩ := am_ng hF
      refine am_go.iald hcd_mo_read rfl rfl hi1 ?_
      obtain ⟨hi2, hF⟩ := am_ng hF
      refine am_go.iast hcd_mo_read rfl rfl hi2 ?_
      refine am_go.blk hcd_mo_read 2 (g := (217, [some (.ref 16), none, none, none, some (.int (x4 + (1 : Int32)))], [], zz_hM c (zz_r s 0 (upd (s.2.2 0) (Int32.toNatClampNeg x4) ((s.2.2 2) (Int32.toNatClampNeg x4)))) t, true)) rfl ?_
      exact ih _ _ _ hF
def fz_mo_read_195  (y0 : Int32) (s : am_Z) : Option (Int32 × am_Z) :=
  fz_mo_read_217 fz_fu (0 : Int32) (zz_i (zz_i (zz_i s 6 y0) 3 (s.1 11)) 1 (s.1 10))
set_option maxRecDepth 20000 in
theorem tz_mo_read_195 {sc : am_S} {c : am_Z} {t : am_H} {h0 : am_H}   {y0 : Int32} {s : am_Z} {r : Int32 × am_Z} (hF : fz_mo_read_195 y0 s = some r) : am_go sc 7 (am_ev sc 6) 152 h0 (195, [some (.ref 16), none, none, none, none], [.int y0, .ref 16], zz_hM c s t, true) ((.inl (some (.int r.1)), zz_hM c r.2 t, true) : am_R) := by
  unfold fz_mo_read_195 at hF
  refine am_go.blk hcd_mo_read 11 (g := (217, [some (.ref 16), none, none, none, some (.int (0 : Int32))], [], zz_hM c (zz_i (zz_i (zz_i s 6 y0) 3 (s.1 11)) 1 (s.1 10)) t, true)) rfl ?_
  exact tz_mo_read_217  fz_fu _ _ _ hF
def fz_mo_read_132  (x3 : Int32) (s : am_Z) : Option (Int32 × am_Z) :=
  if ¬ (s.1 8) = 0 then
    some ((s.1 7), s)
  else
  if (s.1 4) ≤ (s.1 7) then
    if x3 = 0 then
      if ¬ (s.1 12) = (17 : Int32) then
        if ¬ (s.1 12) = (2 : Int32) then
          fz_mo_read_195 ((s.1 13) - (1 : Int32)) s
        else
        fz_mo_read_195 (3 : Int32) s
      else
      fz_mo_read_195 (2 : Int32) s
    else
    fz_mo_read_195 (4 : Int32) s
  else
  some ((s.1 7), s)
set_option maxRecDepth 20000 in
theorem tz_mo_read_132 {sc : am_S} {c : am_Z} {t : am_H} {h0 : am_H}   {x3 : Int32} {s : am_Z} {r : Int32 × am_Z} (hF : fz_mo_read_132 x3 s = some r) : am_go sc 7 (am_ev sc 6) 152 h0 (132, [some (.ref 16), none, none, some (.int x3), none], [], zz_hM c s t, true) ((.inl (some (.int r.1)), zz_hM c r.2 t, true) : am_R) := by
  unfold fz_mo_read_132 at hF
  refine am_go.blk hcd_mo_read 3 (g := (bif decide (¬ (s.1 8) = 0) then 150 else 139, [some (.ref 16), none, none, some (.int x3), none], [], zz_hM c s t, true)) rfl ?_
  refine am_go.br (fun hP => ?_) (fun hP => ?_)
  · replace hF := (if_pos hP).symm.trans hF
    refine am_go.blk hcd_mo_read 2 (g := (154, [some (.ref 16), none, none, some (.int x3), none], [.int (s.1 7)], zz_hM c s t, true)) rfl ?_
    cases hF
    exact am_go.ret hcd_mo_read rfl rfl ⟨rfl, rfl, (fun h => by cases h), Or.inl rfl, rfl⟩
  · replace hF := (if_neg hP).symm.trans hF
    refine am_go.blk hcd_mo_read 5 (g := (bif decide ((s.1 4) ≤ (s.1 7)) then 155 else 150, [some (.ref 16), none, none, some (.int x3), none], [], zz_hM c s t, true)) rfl ?_
    refine am_go.br (fun hP => ?_) (fun hP => ?_)
    · replace hF := (if_pos hP).symm.trans hF
      refine am_go.blk hcd_mo_read 3 (g := (bif decide (x3 = 0) then 164 else 160, [some (.ref 16), none, none, some (.int x3), none], [.ref 16], zz_hM c s t, true)) rfl ?_
      refine am_go.br (fun hP => ?_) (fun hP => ?_)
      · replace hF := (if_pos hP).symm.trans hF
        refine am_go.blk hcd_mo_read 4 (g := (bif decide (¬ (s.1 12) = (17 : Int32)) then 177 else 173, [some (.ref 16), none, none, some (.int x3), none], [.ref 16], zz_hM c s t, true)) rfl ?_
        refine am_go.br (fun hP => ?_) (fun hP => ?_)
        · replace hF := (if_pos hP).symm.trans hF
          refine am_go.blk hcd_mo_read 4 (g := (bif decide (¬ (s.1 12) = (2 : Int32)) then 189 else 185, [some (.ref 16), none, none, some (.int x3), none], [.ref 16], zz_hM c s t, true)) rfl ?_
          refine am_go.br (fun hP => ?_) (fun hP => ?_)
          · replace hF := (if_pos hP).symm.trans hF
            refine am_go.blk hcd_mo_read 4 (g := (195, [some (.ref 16), none, none, some (.int x3), none], [.int ((s.1 13) - (1 : Int32)), .ref 16], zz_hM c s t, true)) rfl ?_
            refine am_go.fgl [some (.ref 16), none, none, none, none] ⟨rfl, trivial⟩ ?_
            exact tz_mo_read_195  hF
          · replace hF := (if_neg hP).symm.trans hF
            refine am_go.blk hcd_mo_read 2 (g := (195, [some (.ref 16), none, none, some (.int x3), none], [.int (3 : Int32), .ref 16], zz_hM c s t, true)) rfl ?_
            refine am_go.fgl [some (.ref 16), none, none, none, none] ⟨rfl, trivial⟩ ?_
            exact tz_mo_read_195  hF
        · replace hF := (if_neg hP).symm.trans hF
          refine am_go.blk hcd_mo_read 2 (g := (195, [some (.ref 16), none, none, some (.int x3), none], [.int (2 : Int32), .ref 16], zz_hM c s t, true)) rfl ?_
          refine am_go.fgl [some (.ref 16), none, none, none, none] ⟨rfl, trivial⟩ ?_
          exact tz_mo_read_195  hF
      · replace hF := (if_neg hP).symm.trans hF
        refine am_go.blk hcd_mo_read 2 (g := (195, [some (.ref 16), none, none, some (.int x3), none], [.int (4 : Int32), .ref 16], zz_hM c s t, true)) rfl ?_
        refine am_go.fgl [some (.ref 16), none, none, none, none] ⟨rfl, trivial⟩ ?_
        exact tz_mo_read_195  hF
    · replace hF := (if_neg hP).symm.trans hF
      refine am_go.blk hcd_mo_read 2 (g := (154, [some (.ref 16), none, none, some (.int x3), none], [.int (s.1 7)], zz_hM c s t, true)) rfl ?_
      cases hF
      exact am_go.ret hcd_mo_read rfl rfl ⟨rfl, rfl, (fun h => by cases h), Or.inl rfl, rfl⟩
def fz_mo_read_121  (x3 : Int32) (s : am_Z) : Option (Int32 × am_Z) :=
  if ¬ (s.1 8) = 0 then
    fz_mo_read_132 x3 s
  else
  (fz_mo_readWave s).bind fun q1 =>
  fz_mo_read_132 x3 q1
set_option maxRecDepth 20000 in
theorem tz_mo_read_121 {sc : am_S} {c : am_Z} {t : am_H} {h0 : am_H}   {x3 : Int32} {s : am_Z} {r : Int32 × am_Z} (hF : fz_mo_read_121 x3 s = some r) : am_go sc 7 (am_ev sc 6) 152 h0 (121, [some (.ref 16), none, none, some (.int x3), none], [], zz_hM c s t, true) ((.inl (some (.int r.1)), zz_hM c r.2 t, true) : am_R) := by
  unfold fz_mo_read_121 at hF
  refine am_go.blk hcd_mo_read 3 (g := (bif decide (¬ (s.1 8) = 0) then 132 else 128, [some (.ref 16), none, none, some (.int x3), none], [], zz_hM c s t, true)) rfl ?_
  refine am_go.br (fun hP => ?_) (fun hP => ?_)
  · replace hF := (if_pos hP).symm.trans hF
    exact tz_mo_read_132  hF
  · replace hF := (if_neg hP).symm.trans hF
    refine am_go.blk hcd_mo_read 1 (g := (129, [some (.ref 16), none, none, some (.int x3), none], [.ref 16], zz_hM c s t, true)) rfl ?_
    obtain ⟨q1, hq1, hF⟩ := am_bd hF
    refine am_go.call hcd_mo_read rfl rfl rfl rfl (am_le8 rfl) (am_ev.le (by decide) (tz_mo_readWave (c := c) (t := t) hq1)) ?_
    exact tz_mo_read_132  hF
def fz_mo_read_100  (x3 : Int32) (y0 : Int64) (y1 : Int32) (y2 : Int32) (s : am_Z) : Option (Int32 × am_Z) :=
  (fz_mo_exact s y2 y1 y0).bind fun q1 =>
  if ¬ (q1.1 8) = 0 then
    fz_mo_read_121 x3 q1
  else
  if x3 = 0 then
    fz_mo_read_121 x3 q1
  else
  (fz_mo_readOther q1).bind fun q2 =>
  fz_mo_read_132 x3 q2
set_option maxRecDepth 20000 in
theorem tz_mo_read_100 {sc : am_S} {c : am_Z} {t : am_H} {h0 : am_H}   {x3 : Int32} {y0 : Int64} {y1 : Int32} {y2 : Int32} {s : am_Z} {r : Int32 × am_Z} (hF : fz_mo_read_100 x3 y0 y1 y2 s = some r) : am_go sc 7 (am_ev sc 6) 152 h0 (100, [some (.ref 16), none, none, some (.int x3), none], [.long y0, .int y1, .int y2, .ref 16], zz_hM c s t, true) ((.inl (some (.int r.1)), zz_hM c r.2 t, true) : am_R) := by
  unfold fz_mo_read_100 at hF
  obtain ⟨q1, hq1, hF⟩ := am_bd hF
  refine am_go.call hcd_mo_read rfl rfl rfl rfl (am_le8 rfl) (am_ev.le (by decide) (tz_mo_exact (c := c) (t := t) hq1)) ?_
  refine am_go.blk hcd_mo_read 3 (g := (bif decide (¬ (q1.1 8) = 0) then 121 else 110, [some (.ref 16), none, none, some (.int x3), none], [], zz_hM c q1 t, true)) rfl ?_
  refine am_go.br (fun hP => ?_) (fun hP => ?_)
  · replace hF := (if_pos hP).symm.trans hF
    exact tz_mo_read_121  hF
  · replace hF := (if_neg hP).symm.trans hF
    refine am_go.blk hcd_mo_read 2 (g := (bif decide (x3 = 0) then 121 else 114, [some (.ref 16), none, none, some (.int x3), none], [], zz_hM c q1 t, true)) rfl ?_
    refine am_go.br (fun hP => ?_) (fun hP => ?_)
    · replace hF := (if_pos hP).symm.trans hF
      exact tz_mo_read_121  hF
    · replace hF := (if_neg hP).symm.trans hF
      refine am_go.blk hcd_mo_read 1 (g := (115, [some (.ref 16), none, none, some (.int x3), none], [.ref 16], zz_hM c q1 t, true)) rfl ?_
      obtain ⟨q2, hq2, hF⟩ := am_bd hF
      refine am_go.call hcd_mo_read rfl rfl rfl rfl (am_le8 rfl) (am_ev.le (by decide) (tz_mo_readOther (c := c) (t := t) hq2)) ?_
      refine am_go.blk hcd_mo_read 1 (g := (132, [some (.ref 16), none, none, some (.int x3), none], [], zz_hM c q2 t, true)) rfl ?_
      exact tz_mo_read_132  hF
def fz_mo_read_64  (y0 : Int32) (s : am_Z) : Option (Int32 × am_Z) :=
  (fz_mo_exact (zz_i s 7 (4 : Int32)) (4 : Int32) y0 (Int32.toInt64 ((s.1 4) - (8 : Int32)))).bind fun q1 =>
  if y0 = 0 then
    fz_mo_read_100 y0 (1463899717 : Int64) (1 : Int32) (4 : Int32) q1
  else
  fz_mo_read_100 y0 (1095321158 : Int64) (1 : Int32) (4 : Int32) q1
set_option maxRecDepth 20000 in
theorem tz_mo_read_64 {sc : am_S} {c : am_Z} {t : am_H} {h0 : am_H}   {y0 : Int32} {s : am_Z} {r : Int32 × am_Z} (hF : fz_mo_read_64 y0 s = some r) : am_go sc 7 (am_ev sc 6) 152 h0 (64, [some (.ref 16), none, none, none, none], [.int y0], zz_hM c s t, true) ((.inl (some (.int r.1)), zz_hM c r.2 t, true) : am_R) := by
  unfold fz_mo_read_64 at hF
  refine am_go.blk hcd_mo_read 12 (g := (81, [some (.ref 16), none, none, some (.int y0), none], [.long (Int32.toInt64 ((s.1 4) - (8 : Int32))), .int y0, .int (4 : Int32), .ref 16], zz_hM c (zz_i s 7 (4 : Int32)) t, true)) rfl ?_
  obtain ⟨q1, hq1, hF⟩ := am_bd hF
  refine am_go.call hcd_mo_read rfl rfl rfl rfl (am_le8 rfl) (am_ev.le (by decide) (tz_mo_exact (c := c) (t := t) hq1)) ?_
  refine am_go.blk hcd_mo_read 5 (g := (bif decide (y0 = 0) then 97 else 91, [some (.ref 16), none, none, some (.int y0), none], [.int (1 : Int32), .int (4 : Int32), .ref 16], zz_hM c q1 t, true)) rfl ?_
  refine am_go.br (fun hP => ?_) (fun hP => ?_)
  · replace hF := (if_pos hP).symm.trans hF
    refine am_go.blk hcd_mo_read 1 (g := (100, [some (.ref 16), none, none, some (.int y0), none], [.long (1463899717 : Int64), .int (1 : Int32), .int (4 : Int32), .ref 16], zz_hM c q1 t, true)) rfl ?_
    exact tz_mo_read_100  hF
  · replace hF := (if_neg hP).symm.trans hF
    refine am_go.blk hcd_mo_read 2 (g := (100, [some (.ref 16), none, none, some (.int y0), none], [.long (1095321158 : Int64), .int (1 : Int32), .int (4 : Int32), .ref 16], zz_hM c q1 t, true)) rfl ?_
    exact tz_mo_read_100  hF
def fz_mo_read_51  (x1 : Int64) (s : am_Z) : Option (Int32 × am_Z) :=
  if ¬ (lg_cmp x1 (1179603533 : Int64)) = 0 then
    fz_mo_read_64 (0 : Int32) s
  else
  fz_mo_read_64 (1 : Int32) s
set_option maxRecDepth 20000 in
theorem tz_mo_read_51 {sc : am_S} {c : am_Z} {t : am_H} {h0 : am_H}   {x1 : Int64} {s : am_Z} {r : Int32 × am_Z} (hF : fz_mo_read_51 x1 s = some r) : am_go sc 7 (am_ev sc 6) 152 h0 (51, [some (.ref 16), some (.long x1), none, none, none], [], zz_hM c s t, true) ((.inl (some (.int r.1)), zz_hM c r.2 t, true) : am_R) := by
  unfold fz_mo_read_51 at hF
  refine am_go.blk hcd_mo_read 4 (g := (bif decide (¬ (lg_cmp x1 (1179603533 : Int64)) = 0) then 63 else 59, [some (.ref 16), some (.long x1), none, none, none], [], zz_hM c s t, true)) rfl ?_
  refine am_go.br (fun hP => ?_) (fun hP => ?_)
  · replace hF := (if_pos hP).symm.trans hF
    refine am_go.blk hcd_mo_read 1 (g := (64, [some (.ref 16), some (.long x1), none, none, none], [.int (0 : Int32)], zz_hM c s t, true)) rfl ?_
    refine am_go.fgl [some (.ref 16), none, none, none, none] ⟨rfl, trivial⟩ ?_
    exact tz_mo_read_64  hF
  · replace hF := (if_neg hP).symm.trans hF
    refine am_go.blk hcd_mo_read 2 (g := (64, [some (.ref 16), some (.long x1), none, none, none], [.int (1 : Int32)], zz_hM c s t, true)) rfl ?_
    refine am_go.fgl [some (.ref 16), none, none, none, none] ⟨rfl, trivial⟩ ?_
    exact tz_mo_read_64  hF
def fz_mo_read (s : am_Z) : Option (Int32 × am_Z) :=
  (fz_mo_peek (zz_i (zz_i (zz_i (zz_i (zz_i s 0 (0 : Int32)) 8 (0 : Int32)) 7 (0 : Int32)) 15 (0 : Int32)) 16 (0 : Int32)) (0 : Int32) (4 : Int32) (1 : Int32)).bind fun q1 =>
  if (lg_cmp q1 (1380533830 : Int64)) = 0 then
    fz_mo_read_51 q1 (zz_i (zz_i (zz_i (zz_i (zz_i s 0 (0 : Int32)) 8 (0 : Int32)) 7 (0 : Int32)) 15 (0 : Int32)) 16 (0 : Int32))
  else
  if (lg_cmp q1 (1179603533 : Int64)) = 0 then
    fz_mo_read_51 q1 (zz_i (zz_i (zz_i (zz_i (zz_i s 0 (0 : Int32)) 8 (0 : Int32)) 7 (0 : Int32)) 15 (0 : Int32)) 16 (0 : Int32))
  else
  some ((0 : Int32), (zz_i (zz_i (zz_i (zz_i (zz_i s 0 (0 : Int32)) 8 (0 : Int32)) 7 (0 : Int32)) 15 (0 : Int32)) 16 (0 : Int32)))
set_option maxRecDepth 20000 in
theorem tz_mo_read {sc : am_S} {c : am_Z} {t : am_H} {s : am_Z} {r : Int32 × am_Z} (hF : fz_mo_read s = some r) : am_ev sc 7 152 [.ref 16] (zz_hM c s t) ((.inl (some (.int r.1)), zz_hM c r.2 t, true) : am_R) := by
  unfold fz_mo_read at hF
  refine am_ev.of true rfl ?_
  show am_go sc _ _ _ _ (0, [some (.ref 16), none, none, none, none], [], zz_hM c s t, true) _
  refine am_go.blk hcd_mo_read 19 (g := (29, [some (.ref 16), none, none, none, none], [.int (1 : Int32), .int (4 : Int32), .int (0 : Int32), .ref 16], zz_hM c (zz_i (zz_i (zz_i (zz_i (zz_i s 0 (0 : Int32)) 8 (0 : Int32)) 7 (0 : Int32)) 15 (0 : Int32)) 16 (0 : Int32)) t, true)) rfl ?_
  obtain ⟨q1, hq1, hF⟩ := am_bd hF
  refine am_go.call hcd_mo_read rfl rfl rfl rfl (am_le8 rfl) (am_ev.le (by decide) (tz_mo_peek (c := c) (t := t) hq1)) ?_
  refine am_go.blk hcd_mo_read 5 (g := (bif decide ((lg_cmp q1 (1380533830 : Int64)) = 0) then 51 else 41, [some (.ref 16), some (.long q1), none, none, none], [], zz_hM c (zz_i (zz_i (zz_i (zz_i (zz_i s 0 (0 : Int32)) 8 (0 : Int32)) 7 (0 : Int32)) 15 (0 : Int32)) 16 (0 : Int32)) t, true)) rfl ?_
  refine am_go.br (fun hP => ?_) (fun hP => ?_)
  · replace hF := (if_pos hP).symm.trans hF
    exact tz_mo_read_51  hF
  · replace hF := (if_neg hP).symm.trans hF
    refine am_go.blk hcd_mo_read 4 (g := (bif decide ((lg_cmp q1 (1179603533 : Int64)) = 0) then 51 else 49, [some (.ref 16), some (.long q1), none, none, none], [], zz_hM c (zz_i (zz_i (zz_i (zz_i (zz_i s 0 (0 : Int32)) 8 (0 : Int32)) 7 (0 : Int32)) 15 (0 : Int32)) 16 (0 : Int32)) t, true)) rfl ?_
    refine am_go.br (fun hP => ?_) (fun hP => ?_)
    · replace hF := (if_pos hP).symm.trans hF
      exact tz_mo_read_51  hF
    · replace hF := (if_neg hP).symm.trans hF
      refine am_go.blk hcd_mo_read 1 (g := (50, [some (.ref 16), some (.long q1), none, none, none], [.int (0 : Int32)], zz_hM c (zz_i (zz_i (zz_i (zz_i (zz_i s 0 (0 : Int32)) 8 (0 : Int32)) 7 (0 : Int32)) 15 (0 : Int32)) 16 (0 : Int32)) t, true)) rfl ?_
      cases hF
      exact am_go.ret hcd_mo_read rfl rfl ⟨rfl, rfl, (fun h => by cases h), Or.inl rfl, rfl⟩
theorem hcd_mo_greatest : am_code 131 = am_c_mo_greatest := rfl
def fz_mo_greatest_2  : Nat → Int32 → Int32 → Option (Int32)
  | 0, _, _ => none
  | n + 1, x0, x1 =>
    if (x0 >>> ((x1 + (1 : Int32)) &&& 31)) ≤ 0 then
      some x1
    else
    fz_mo_greatest_2 n x0 (x1 + (1 : Int32))
theorem tz_mo_greatest_2 {sc : am_S} {h : am_H} {h0 : am_H}   : ∀ (n : Nat) (x0 : Int32) (x1 : Int32) (r : Int32), fz_mo_greatest_2  n x0 x1 = some r → am_go sc 1 (am_ev sc 0) 131 h0 (2, [some (.int x0), some (.int x1)], [], h, false) ((.inl (some (.int r)), h, false) : am_R) := by
  intro n
  induction n with
  | zero => intro x0 x1 r hF; cases hF
  | succ n ih =>
    intro x0 x1 r hF
    unfold fz_mo_greatest_2 at hF
    refine am_go.blk hcd_mo_greatest 6 (g := (bif decide ((x0 >>> ((x1 + (1 : Int32)) &&& 31)) ≤ 0) then 16 else 10, [some (.int x0), some (.int x1)], [], h, false)) rfl ?_
    refine am_go.br (fun hP => ?_) (fun hP => ?_)
    · replace hF := (if_pos hP).symm.trans hF
      refine am_go.blk hcd_mo_greatest 1 (g := (17, [some (.int x0), some (.int x1)], [.int x1], h, false)) rfl ?_
      cases hF
      exact am_go.ret hcd_mo_greatest rfl rfl ⟨rfl, rfl, (fun _ => rfl), Or.inl rfl, rfl⟩
    · replace hF := (if_neg hP).symm.trans hF
      refine am_go.blk hcd_mo_greatest 2 (g := (2, [some (.int x0), some (.int (x1 + (1 : Int32)))], [], h, false)) rfl ?_
      exact ih _ _ _ hF
def fz_mo_greatest (x0 : Int32) : Option (Int32) :=
  fz_mo_greatest_2 fz_fu x0 (0 : Int32)
theorem tz_mo_greatest {sc : am_S} {h : am_H} {x0 : Int32} {r : Int32} (hF : fz_mo_greatest x0 = some r) : am_ev sc 1 131 [.int x0] (h) ((.inl (some (.int r)), h, false) : am_R) := by
  unfold fz_mo_greatest at hF
  refine am_ev.of false rfl ?_
  show am_go sc _ _ _ _ (0, [some (.int x0), none], [], h, false) _
  refine am_go.blk hcd_mo_greatest 2 (g := (2, [some (.int x0), some (.int (0 : Int32))], [], h, false)) rfl ?_
  exact tz_mo_greatest_2  fz_fu _ _ _ hF
theorem hcd_mo_writeOther : am_code 132 = am_c_mo_writeOther := rfl
def fz_mo_writeOther_154  : Nat → Int32 → Int32 → Int32 → am_Z → Option (am_Z)
  | 0, _, _, _, _ => none
  | n + 1, x1, x2, x4, s =>
    if (s.1 1) ≤ x4 then
      (fz_mo_put s (0 : Int64) ((x2 * (s.1 1)) - (x2 * (s.1 1)) / (2 : Int32) * (2 : Int32)) (1 : Int32)).bind fun q1 =>
      some q1
    else
    if x4 < 0 ∨ 64 ≤ Int32.toNatClampNeg x4 then none else
    (fz_mo_put s (Int32.toInt64 ((((s.2.2 0) (Int32.toNatClampNeg x4)) >>> (((16 : Int32) - x1) &&& 31)) <<< ((((8 : Int32) * x2) - x1) &&& 31))) x2 (1 : Int32)).bind fun q3 =>
    fz_mo_writeOther_154 n x1 x2 (x4 + (1 : Int32)) q3
set_option maxRecDepth 20000 in
theorem tz_mo_writeOther_154 {sc : am_S} {c : am_Z} {t : am_H} {h0 : am_H}   : ∀ (n : Nat) (x1 : Int32) (x2 : Int32) (x4 : Int32) (s : am_Z) (r : am_Z), fz_mo_writeOther_154  n x1 x2 x4 s = some r → am_go sc 2 (am_ev sc 1) 132 h0 (154, [some (.ref 16), some (.int x1), some (.int x2), none, some (.int x4)], [], zz_hM c s t, true) ((.inl (none), zz_hM c r t, true) : am_R) := by
  intro n
  induction n with
  | zero => intro x1 x2 x4 s r hF; cases hF
  | succ n ih =>
    intro x1 x2 x4 s r hF
    unfold fz_mo_writeOther_154 at hF
    refine am_go.blk hcd_mo_writeOther 4 (g := (bif decide ((s.1 1) ≤ x4) then 195 else 163, [some (.ref 16), some (.int x1), some (.int x2), none, some (.int x4)], [], zz_hM c s t, true)) rfl ?_
    refine am_go.br (fun hP => ?_) (fun hP => ?_)
    · replace hF := (if_pos hP).symm.trans hF
      refine am_go.blk hcd_mo_writeOther 7 (g := (204, [some (.ref 16), some (.int x1), some (.int x2), none, some (.int x4)], [.int (2 : Int32), .int (x2 * (s.1 1)), .long (0 : Int64), .ref 16], zz_hM c s t, true)) rfl ?_
      refine am_go.irm hcd_mo_writeOther rfl (by decide) ?_
      refine am_go.blk hcd_mo_writeOther 1 (g := (206, [some (.ref 16), some (.int x1), some (.int x2), none, some (.int x4)], [.int (1 : Int32), .int ((x2 * (s.1 1)) - (x2 * (s.1 1)) / (2 : Int32) * (2 : Int32)), .long (0 : Int64), .ref 16], zz_hM c s t, true)) rfl ?_
      obtain ⟨q1, hq1, hF⟩ := am_bd hF
      refine am_go.call hcd_mo_writeOther rfl rfl rfl rfl (am_le8 rfl) (am_ev.le (by decide) (tz_mo_put (c := c) (t := t) hq1)) ?_
      cases hF
      exact am_go.ret hcd_mo_writeOther rfl rfl ⟨rfl, rfl, (fun h => by cases h), rfl, rfl⟩
    · replace hF := (if_neg hP).symm.trans hF
      refine am_go.blk hcd_mo_writeOther 4 (g := (170, [some (.ref 16), some (.int x1), some (.int x2), none, some (.int x4)], [.int x4, .ref 17, .ref 16], zz_hM c s t, true)) rfl ?_
      obtain ⟨hi2, hF⟩ := am_ng hF
      refine am_go.iald hcd_mo_writeOther rfl rfl hi2 ?_
      refine am_go.blk hcd_mo_writeOther 13 (g := (186, [some (.ref 16), some (.int x1), some (.int x2), none, some (.int x4)], [.int (1 : Int32), .int x2, .long (Int32.toInt64 ((((s.2.2 0) (Int32.toNatClampNeg x4)) >>> (((16 : Int32) - x1) &&& 31)) <<< ((((8 : Int32) * x2) - x1) &&& 31))), .ref 16], zz_hM c s t, true)) rfl ?_
      obtain ⟨q3, hq3, hF⟩ := am_bd hF
      refine am_go.call hcd_mo_writeOther rfl rfl rfl rfl (am_le8 rfl) (am_ev.le (by decide) (tz_mo_put (c := c) (t := t) hq3)) ?_
      refine am_go.blk hcd_mo_writeOther 2 (g := (154, [some (.ref 16), some (.int x1), some (.int x2), none, some (.int (x4 + (1 : Int32)))], [], zz_hM c q3 t, true)) rfl ?_
      exact ih _ _ _ _ _ hF
def fz_mo_writeOther_11  (x1 : Int32) (y0 : Int32) (s : am_Z) : Option (am_Z) :=
  (fz_mo_put s (1179603533 : Int64) (4 : Int32) (1 : Int32)).bind fun q1 =>
  (fz_mo_put q1 (0 : Int64) (4 : Int32) (1 : Int32)).bind fun q2 =>
  (fz_mo_put q2 (1095321158 : Int64) (4 : Int32) (1 : Int32)).bind fun q3 =>
  (fz_mo_put q3 (1129270605 : Int64) (4 : Int32) (1 : Int32)).bind fun q4 =>
  (fz_mo_put q4 (18 : Int64) (4 : Int32) (1 : Int32)).bind fun q5 =>
  (fz_mo_put q5 (1 : Int64) (2 : Int32) (1 : Int32)).bind fun q6 =>
  (fz_mo_put q6 (Int32.toInt64 (q6.1 1)) (4 : Int32) (1 : Int32)).bind fun q7 =>
  (fz_mo_put q7 (Int32.toInt64 x1) (2 : Int32) (1 : Int32)).bind fun q8 =>
  (fz_mo_greatest (q8.1 3)).bind fun q9 =>
  (fz_mo_put q8 (Int32.toInt64 ((16383 : Int32) + q9)) (2 : Int32) (1 : Int32)).bind fun q10 =>
  (fz_mo_put q10 ((Int32.toInt64 (q10.1 3)) <<< (Int32.toInt64 ((63 : Int32) - q9) &&& 63)) (8 : Int32) (1 : Int32)).bind fun q11 =>
  (fz_mo_put q11 (1397968452 : Int64) (4 : Int32) (1 : Int32)).bind fun q12 =>
  (fz_mo_put q12 (Int32.toInt64 ((8 : Int32) + (y0 * (q12.1 1)))) (4 : Int32) (1 : Int32)).bind fun q13 =>
  (fz_mo_put q13 (0 : Int64) (8 : Int32) (1 : Int32)).bind fun q14 =>
  fz_mo_writeOther_154 fz_fu x1 y0 (0 : Int32) q14
set_option maxRecDepth 20000 in
theorem tz_mo_writeOther_11 {sc : am_S} {c : am_Z} {t : am_H} {h0 : am_H}   {x1 : Int32} {y0 : Int32} {s : am_Z} {r : am_Z} (hF : fz_mo_writeOther_11 x1 y0 s = some r) : am_go sc 2 (am_ev sc 1) 132 h0 (11, [some (.ref 16), some (.int x1), none, none, none], [.int y0], zz_hM c s t, true) ((.inl (none), zz_hM c r t, true) : am_R) := by
  unfold fz_mo_writeOther_11 at hF
  refine am_go.blk hcd_mo_writeOther 5 (g := (18, [some (.ref 16), some (.int x1), some (.int y0), none, none], [.int (1 : Int32), .int (4 : Int32), .long (1179603533 : Int64), .ref 16], zz_hM c s t, true)) rfl ?_
  obtain ⟨q1, hq1, hF⟩ := am_bd hF
  refine am_go.call hcd_mo_writeOther rfl rfl rfl rfl (am_le8 rfl) (am_ev.le (by decide) (tz_mo_put (c := c) (t := t) hq1)) ?_
  refine am_go.blk hcd_mo_writeOther 4 (g := (25, [some (.ref 16), some (.int x1), some (.int y0), none, none], [.int (1 : Int32), .int (4 : Int32), .long (0 : Int64), .ref 16], zz_hM c q1 t, true)) rfl ?_
  obtain ⟨q2, hq2, hF⟩ := am_bd hF
  refine am_go.call hcd_mo_writeOther rfl rfl rfl rfl (am_le8 rfl) (am_ev.le (by decide) (tz_mo_put (c := c) (t := t) hq2)) ?_
  refine am_go.blk hcd_mo_writeOther 4 (g := (34, [some (.ref 16), some (.int x1), some (.int y0), none, none], [.int (1 : Int32), .int (4 : Int32), .long (1095321158 : Int64), .ref 16], zz_hM c q2 t, true)) rfl ?_
  obtain ⟨q3, hq3, hF⟩ := am_bd hF
  refine am_go.call hcd_mo_writeOther rfl rfl rfl rfl (am_le8 rfl) (am_ev.le (by decide) (tz_mo_put (c := c) (t := t) hq3)) ?_
  refine am_go.blk hcd_mo_writeOther 4 (g := (43, [some (.ref 16), some (.int x1), some (.int y0), none, none], [.int (1 : Int32), .int (4 : Int32), .long (1129270605 : Int64), .ref 16], zz_hM c q3 t, true)) rfl ?_
  obtain ⟨q4, hq4, hF⟩ := am_bd hF
  refine am_go.call hcd_mo_writeOther rfl rfl rfl rfl (am_le8 rfl) (am_ev.le (by decide) (tz_mo_put (c := c) (t := t) hq4)) ?_
  refine am_go.blk hcd_mo_writeOther 4 (g := (52, [some (.ref 16), some (.int x1), some (.int y0), none, none], [.int (1 : Int32), .int (4 : Int32), .long (18 : Int64), .ref 16], zz_hM c q4 t, true)) rfl ?_
  obtain ⟨q5, hq5, hF⟩ := am_bd hF
  refine am_go.call hcd_mo_writeOther rfl rfl rfl rfl (am_le8 rfl) (am_ev.le (by decide) (tz_mo_put (c := c) (t := t) hq5)) ?_
  refine am_go.blk hcd_mo_writeOther 4 (g := (59, [some (.ref 16), some (.int x1), some (.int y0), none, none], [.int (1 : Int32), .int (2 : Int32), .long (1 : Int64), .ref 16], zz_hM c q5 t, true)) rfl ?_
  obtain ⟨q6, hq6, hF⟩ := am_bd hF
  refine am_go.call hcd_mo_writeOther rfl rfl rfl rfl (am_le8 rfl) (am_ev.le (by decide) (tz_mo_put (c := c) (t := t) hq6)) ?_
  refine am_go.blk hcd_mo_writeOther 6 (g := (70, [some (.ref 16), some (.int x1), some (.int y0), none, none], [.int (1 : Int32), .int (4 : Int32), .long (Int32.toInt64 (q6.1 1)), .ref 16], zz_hM c q6 t, true)) rfl ?_
  obtain ⟨q7, hq7, hF⟩ := am_bd hF
  refine am_go.call hcd_mo_writeOther rfl rfl rfl rfl (am_le8 rfl) (am_ev.le (by decide) (tz_mo_put (c := c) (t := t) hq7)) ?_
  refine am_go.blk hcd_mo_writeOther 5 (g := (78, [some (.ref 16), some (.int x1), some (.int y0), none, none], [.int (1 : Int32), .int (2 : Int32), .long (Int32.toInt64 x1), .ref 16], zz_hM c q7 t, true)) rfl ?_
  obtain ⟨q8, hq8, hF⟩ := am_bd hF
  refine am_go.call hcd_mo_writeOther rfl rfl rfl rfl (am_le8 rfl) (am_ev.le (by decide) (tz_mo_put (c := c) (t := t) hq8)) ?_
  refine am_go.blk hcd_mo_writeOther 2 (g := (85, [some (.ref 16), some (.int x1), some (.int y0), none, none], [.int (q8.1 3)], zz_hM c q8 t, true)) rfl ?_
  obtain ⟨q9, hq9, hF⟩ := am_bd hF
  refine am_go.call hcd_mo_writeOther rfl rfl rfl rfl (am_le8 rfl) (am_ev.le (by decide) (tz_mo_greatest (h := zz_hM c q8 t) hq9)) ?_
  refine am_go.blk hcd_mo_writeOther 8 (g := (98, [some (.ref 16), some (.int x1), some (.int y0), some (.int q9), none], [.int (1 : Int32), .int (2 : Int32), .long (Int32.toInt64 ((16383 : Int32) + q9)), .ref 16], zz_hM c q8 t, true)) rfl ?_
  obtain ⟨q10, hq10, hF⟩ := am_bd hF
  refine am_go.call hcd_mo_writeOther rfl rfl rfl rfl (am_le8 rfl) (am_ev.le (by decide) (tz_mo_put (c := c) (t := t) hq10)) ?_
  refine am_go.blk hcd_mo_writeOther 10 (g := (115, [some (.ref 16), some (.int x1), some (.int y0), some (.int q9), none], [.int (1 : Int32), .int (8 : Int32), .long ((Int32.toInt64 (q10.1 3)) <<< (Int32.toInt64 ((63 : Int32) - q9) &&& 63)), .ref 16], zz_hM c q10 t, true)) rfl ?_
  obtain ⟨q11, hq11, hF⟩ := am_bd hF
  refine am_go.call hcd_mo_writeOther rfl rfl rfl rfl (am_le8 rfl) (am_ev.le (by decide) (tz_mo_put (c := c) (t := t) hq11)) ?_
  refine am_go.blk hcd_mo_writeOther 4 (g := (124, [some (.ref 16), some (.int x1), some (.int y0), some (.int q9), none], [.int (1 : Int32), .int (4 : Int32), .long (1397968452 : Int64), .ref 16], zz_hM c q11 t, true)) rfl ?_
  obtain ⟨q12, hq12, hF⟩ := am_bd hF
  refine am_go.call hcd_mo_writeOther rfl rfl rfl rfl (am_le8 rfl) (am_ev.le (by decide) (tz_mo_put (c := c) (t := t) hq12)) ?_
  refine am_go.blk hcd_mo_writeOther 10 (g := (140, [some (.ref 16), some (.int x1), some (.int y0), some (.int q9), none], [.int (1 : Int32), .int (4 : Int32), .long (Int32.toInt64 ((8 : Int32) + (y0 * (q12.1 1)))), .ref 16], zz_hM c q12 t, true)) rfl ?_
  obtain ⟨q13, hq13, hF⟩ := am_bd hF
  refine am_go.call hcd_mo_writeOther rfl rfl rfl rfl (am_le8 rfl) (am_ev.le (by decide) (tz_mo_put (c := c) (t := t) hq13)) ?_
  refine am_go.blk hcd_mo_writeOther 4 (g := (148, [some (.ref 16), some (.int x1), some (.int y0), some (.int q9), none], [.int (1 : Int32), .int (8 : Int32), .long (0 : Int64), .ref 16], zz_hM c q13 t, true)) rfl ?_
  obtain ⟨q14, hq14, hF⟩ := am_bd hF
  refine am_go.call hcd_mo_writeOther rfl rfl rfl rfl (am_le8 rfl) (am_ev.le (by decide) (tz_mo_put (c := c) (t := t) hq14)) ?_
  refine am_go.blk hcd_mo_writeOther 2 (g := (154, [some (.ref 16), some (.int x1), some (.int y0), some (.int q9), some (.int (0 : Int32))], [], zz_hM c q14 t, true)) rfl ?_
  refine am_go.fgl [some (.ref 16), some (.int x1), some (.int y0), none, some (.int (0 : Int32))] ⟨rfl, rfl, rfl, rfl, trivial⟩ ?_
  exact tz_mo_writeOther_154  fz_fu _ _ _ _ _ hF
def fz_mo_writeOther (s : am_Z) (x1 : Int32) : Option (am_Z) :=
  if x1 ≤ (8 : Int32) then
    fz_mo_writeOther_11 x1 (1 : Int32) s
  else
  fz_mo_writeOther_11 x1 (2 : Int32) s
set_option maxRecDepth 20000 in
theorem tz_mo_writeOther {sc : am_S} {c : am_Z} {t : am_H} {s : am_Z} {x1 : Int32} {r : am_Z} (hF : fz_mo_writeOther s x1 = some r) : am_ev sc 2 132 [.ref 16, .int x1] (zz_hM c s t) ((.inl (none), zz_hM c r t, true) : am_R) := by
  unfold fz_mo_writeOther at hF
  refine am_ev.of true rfl ?_
  show am_go sc _ _ _ _ (0, [some (.ref 16), some (.int x1), none, none, none], [], zz_hM c s t, true) _
  refine am_go.blk hcd_mo_writeOther 3 (g := (bif decide (x1 ≤ (8 : Int32)) then 10 else 6, [some (.ref 16), some (.int x1), none, none, none], [], zz_hM c s t, true)) rfl ?_
  refine am_go.br (fun hP => ?_) (fun hP => ?_)
  · replace hF := (if_pos hP).symm.trans hF
    refine am_go.blk hcd_mo_writeOther 1 (g := (11, [some (.ref 16), some (.int x1), none, none, none], [.int (1 : Int32)], zz_hM c s t, true)) rfl ?_
    exact tz_mo_writeOther_11  hF
  · replace hF := (if_neg hP).symm.trans hF
    refine am_go.blk hcd_mo_writeOther 2 (g := (11, [some (.ref 16), some (.int x1), none, none, none], [.int (2 : Int32)], zz_hM c s t, true)) rfl ?_
    exact tz_mo_writeOther_11  hF
theorem hcd_mo_little : am_code 123 = am_c_mo_little := rfl
def fz_mo_little (s : am_Z) (x1 : Int64) (x3 : Int32) : Option (am_Z) :=
  (fz_mo_put s x1 x3 (0 : Int32)).bind fun q1 =>
  some q1
theorem tz_mo_little {sc : am_S} {c : am_Z} {t : am_H} {s : am_Z} {x1 : Int64} {x3 : Int32} {r : am_Z} (hF : fz_mo_little s x1 x3 = some r) : am_ev sc 2 123 [.ref 16, .long x1, .int x3] (zz_hM c s t) ((.inl (none), zz_hM c r t, true) : am_R) := by
  unfold fz_mo_little at hF
  refine am_ev.of true rfl ?_
  show am_go sc _ _ _ _ (0, [some (.ref 16), some (.long x1), none, some (.int x3)], [], zz_hM c s t, true) _
  refine am_go.blk hcd_mo_little 4 (g := (4, [some (.ref 16), some (.long x1), none, some (.int x3)], [.int (0 : Int32), .int x3, .long x1, .ref 16], zz_hM c s t, true)) rfl ?_
  obtain ⟨q1, hq1, hF⟩ := am_bd hF
  refine am_go.call hcd_mo_little rfl rfl rfl rfl (am_le8 rfl) (am_ev.le (by decide) (tz_mo_put (c := c) (t := t) hq1)) ?_
  cases hF
  exact am_go.ret hcd_mo_little rfl rfl ⟨rfl, rfl, (fun h => by cases h), rfl, rfl⟩
theorem hcd_mo_writeFormat : am_code 124 = am_c_mo_writeFormat := rfl
def fz_mo_writeFormat_269  (x1 : Int32) (s : am_Z) : Option (am_Z) :=
  if x1 ≤ (1 : Int32) then
    some s
  else
  (fz_mo_put s (1717658484 : Int64) (4 : Int32) (1 : Int32)).bind fun q1 =>
  (fz_mo_little q1 (4 : Int64) (4 : Int32)).bind fun q2 =>
  (fz_mo_little q2 (Int32.toInt64 (q2.1 1)) (4 : Int32)).bind fun q3 =>
  some q3
set_option maxRecDepth 20000 in
theorem tz_mo_writeFormat_269 {sc : am_S} {c : am_Z} {t : am_H} {h0 : am_H}   {x1 : Int32} {s : am_Z} {r : am_Z} (hF : fz_mo_writeFormat_269 x1 s = some r) : am_go sc 3 (am_ev sc 2) 124 h0 (269, [some (.ref 16), some (.int x1), none, none, none, none, none], [], zz_hM c s t, true) ((.inl (none), zz_hM c r t, true) : am_R) := by
  unfold fz_mo_writeFormat_269 at hF
  refine am_go.blk hcd_mo_writeFormat 3 (g := (bif decide (x1 ≤ (1 : Int32)) then 301 else 274, [some (.ref 16), some (.int x1), none, none, none, none, none], [], zz_hM c s t, true)) rfl ?_
  refine am_go.br (fun hP => ?_) (fun hP => ?_)
  · replace hF := (if_pos hP).symm.trans hF
    cases hF
    exact am_go.ret hcd_mo_writeFormat rfl rfl ⟨rfl, rfl, (fun h => by cases h), rfl, rfl⟩
  · replace hF := (if_neg hP).symm.trans hF
    refine am_go.blk hcd_mo_writeFormat 4 (g := (280, [some (.ref 16), some (.int x1), none, none, none, none, none], [.int (1 : Int32), .int (4 : Int32), .long (1717658484 : Int64), .ref 16], zz_hM c s t, true)) rfl ?_
    obtain ⟨q1, hq1, hF⟩ := am_bd hF
    refine am_go.call hcd_mo_writeFormat rfl rfl rfl rfl (am_le8 rfl) (am_ev.le (by decide) (tz_mo_put (c := c) (t := t) hq1)) ?_
    refine am_go.blk hcd_mo_writeFormat 3 (g := (288, [some (.ref 16), some (.int x1), none, none, none, none, none], [.int (4 : Int32), .long (4 : Int64), .ref 16], zz_hM c q1 t, true)) rfl ?_
    obtain ⟨q2, hq2, hF⟩ := am_bd hF
    refine am_go.call hcd_mo_writeFormat rfl rfl rfl rfl (am_le8 rfl) (am_ev.le (by decide) (tz_mo_little (c := c) (t := t) hq2)) ?_
    refine am_go.blk hcd_mo_writeFormat 5 (g := (298, [some (.ref 16), some (.int x1), none, none, none, none, none], [.int (4 : Int32), .long (Int32.toInt64 (q2.1 1)), .ref 16], zz_hM c q2 t, true)) rfl ?_
    obtain ⟨q3, hq3, hF⟩ := am_bd hF
    refine am_go.call hcd_mo_writeFormat rfl rfl rfl rfl (am_le8 rfl) (am_ev.le (by decide) (tz_mo_little (c := c) (t := t) hq3)) ?_
    cases hF
    exact am_go.ret hcd_mo_writeFormat rfl rfl ⟨rfl, rfl, (fun h => by cases h), rfl, rfl⟩
def fz_mo_writeFormat_234  : Nat → Int32 → Int32 → am_Z → Option (am_Z)
  | 0, _, _, _ => none
  | n + 1, x1, x6, s =>
    if (7 : Int32) ≤ x6 then
      fz_mo_writeFormat_269 x1 s
    else
    (fz_mo_first x6).bind fun q1 =>
    (fz_mo_little s (Int32.toInt64 q1) (2 : Int32)).bind fun q2 =>
    (fz_mo_second x6).bind fun q3 =>
    (fz_mo_little q2 (Int32.toInt64 q3) (2 : Int32)).bind fun q4 =>
    fz_mo_writeFormat_234 n x1 (x6 + (1 : Int32)) q4
set_option maxRecDepth 20000 in
theorem tz_mo_writeFormat_234 {sc : am_S} {c : am_Z} {t : am_H} {h0 : am_H}   : ∀ (n : Nat) (x1 : Int32) (x6 : Int32) (s : am_Z) (r : am_Z), fz_mo_writeFormat_234  n x1 x6 s = some r → am_go sc 3 (am_ev sc 2) 124 h0 (234, [some (.ref 16), some (.int x1), none, none, none, none, some (.int x6)], [], zz_hM c s t, true) ((.inl (none), zz_hM c r t, true) : am_R) := by
  intro n
  induction n with
  | zero => intro x1 x6 s r hF; cases hF
  | succ n ih =>
    intro x1 x6 s r hF
    unfold fz_mo_writeFormat_234 at hF
    refine am_go.blk hcd_mo_writeFormat 3 (g := (bif decide ((7 : Int32) ≤ x6) then 269 else 241, [some (.ref 16), some (.int x1), none, none, none, none, some (.int x6)], [], zz_hM c s t, true)) rfl ?_
    refine am_go.br (fun hP => ?_) (fun hP => ?_)
    · replace hF := (if_pos hP).symm.trans hF
      refine am_go.fgl [some (.ref 16), some (.int x1), none, none, none, none, none] ⟨rfl, rfl, trivial⟩ ?_
      exact tz_mo_writeFormat_269  hF
    · replace hF := (if_neg hP).symm.trans hF
      refine am_go.blk hcd_mo_writeFormat 2 (g := (244, [some (.ref 16), some (.int x1), none, none, none, none, some (.int x6)], [.int x6, .ref 16], zz_hM c s t, true)) rfl ?_
      obtain ⟨q1, hq1, hF⟩ := am_bd hF
      refine am_go.call hcd_mo_writeFormat rfl rfl rfl rfl (am_le8 rfl) (am_ev.le (by decide) (tz_mo_first (h := zz_hM c s t) hq1)) ?_
      refine am_go.blk hcd_mo_writeFormat 2 (g := (249, [some (.ref 16), some (.int x1), none, none, none, none, some (.int x6)], [.int (2 : Int32), .long (Int32.toInt64 q1), .ref 16], zz_hM c s t, true)) rfl ?_
      obtain ⟨q2, hq2, hF⟩ := am_bd hF
      refine am_go.call hcd_mo_writeFormat rfl rfl rfl rfl (am_le8 rfl) (am_ev.le (by decide) (tz_mo_little (c := c) (t := t) hq2)) ?_
      refine am_go.blk hcd_mo_writeFormat 2 (g := (255, [some (.ref 16), some (.int x1), none, none, none, none, some (.int x6)], [.int x6, .ref 16], zz_hM c q2 t, true)) rfl ?_
      obtain ⟨q3, hq3, hF⟩ := am_bd hF
      refine am_go.call hcd_mo_writeFormat rfl rfl rfl rfl (am_le8 rfl) (am_ev.le (by decide) (tz_mo_second (h := zz_hM c q2 t) hq3)) ?_
      refine am_go.blk hcd_mo_writeFormat 2 (g := (260, [some (.ref 16), some (.int x1), none, none, none, none, some (.int x6)], [.int (2 : Int32), .long (Int32.toInt64 q3), .ref 16], zz_hM c q2 t, true)) rfl ?_
      obtain ⟨q4, hq4, hF⟩ := am_bd hF
      refine am_go.call hcd_mo_writeFormat rfl rfl rfl rfl (am_le8 rfl) (am_ev.le (by decide) (tz_mo_little (c := c) (t := t) hq4)) ?_
      refine am_go.blk hcd_mo_writeFormat 2 (g := (234, [some (.ref 16), some (.int x1), none, none, none, none, some (.int (x6 + (1 : Int32)))], [], zz_hM c q4 t, true)) rfl ?_
      exact ih _ _ _ _ hF
def fz_mo_writeFormat_218  (x1 : Int32) (s : am_Z) : Option (am_Z) :=
  if ¬ x1 = (3 : Int32) then
    fz_mo_writeFormat_269 x1 s
  else
  (fz_mo_little s (7 : Int64) (2 : Int32)).bind fun q1 =>
  fz_mo_writeFormat_234 fz_fu x1 (0 : Int32) q1
set_option maxRecDepth 20000 in
theorem tz_mo_writeFormat_218 {sc : am_S} {c : am_Z} {t : am_H} {h0 : am_H}   {x1 : Int32} {s : am_Z} {r : am_Z} (hF : fz_mo_writeFormat_218 x1 s = some r) : am_go sc 3 (am_ev sc 2) 124 h0 (218, [some (.ref 16), some (.int x1), none, none, none, none, none], [], zz_hM c s t, true) ((.inl (none), zz_hM c r t, true) : am_R) := by
  unfold fz_mo_writeFormat_218 at hF
  refine am_go.blk hcd_mo_writeFormat 3 (g := (bif decide (¬ x1 = (3 : Int32)) then 269 else 223, [some (.ref 16), some (.int x1), none, none, none, none, none], [], zz_hM c s t, true)) rfl ?_
  refine am_go.br (fun hP => ?_) (fun hP => ?_)
  · replace hF := (if_pos hP).symm.trans hF
    exact tz_mo_writeFormat_269  hF
  · replace hF := (if_neg hP).symm.trans hF
    refine am_go.blk hcd_mo_writeFormat 3 (g := (228, [some (.ref 16), some (.int x1), none, none, none, none, none], [.int (2 : Int32), .long (7 : Int64), .ref 16], zz_hM c s t, true)) rfl ?_
    obtain ⟨q1, hq1, hF⟩ := am_bd hF
    refine am_go.call hcd_mo_writeFormat rfl rfl rfl rfl (am_le8 rfl) (am_ev.le (by decide) (tz_mo_little (c := c) (t := t) hq1)) ?_
    refine am_go.blk hcd_mo_writeFormat 2 (g := (234, [some (.ref 16), some (.int x1), none, none, none, none, some (.int (0 : Int32))], [], zz_hM c q1 t, true)) rfl ?_
    exact tz_mo_writeFormat_234  fz_fu _ _ _ _ hF
def fz_mo_writeFormat_206  (x1 : Int32) (x5 : Int32) (y0 : Int64) (s : am_Z) : Option (am_Z) :=
  (fz_mo_little s y0 (2 : Int32)).bind fun q1 =>
  (fz_mo_little q1 (Int32.toInt64 x5) (2 : Int32)).bind fun q2 =>
  fz_mo_writeFormat_218 x1 q2
set_option maxRecDepth 20000 in
theorem tz_mo_writeFormat_206 {sc : am_S} {c : am_Z} {t : am_H} {h0 : am_H}   {x1 : Int32} {x5 : Int32} {y0 : Int64} {s : am_Z} {r : am_Z} (hF : fz_mo_writeFormat_206 x1 x5 y0 s = some r) : am_go sc 3 (am_ev sc 2) 124 h0 (206, [some (.ref 16), some (.int x1), none, none, none, some (.int x5), none], [.long y0, .ref 16], zz_hM c s t, true) ((.inl (none), zz_hM c r t, true) : am_R) := by
  unfold fz_mo_writeFormat_206 at hF
  refine am_go.blk hcd_mo_writeFormat 1 (g := (207, [some (.ref 16), some (.int x1), none, none, none, some (.int x5), none], [.int (2 : Int32), .long y0, .ref 16], zz_hM c s t, true)) rfl ?_
  obtain ⟨q1, hq1, hF⟩ := am_bd hF
  refine am_go.call hcd_mo_writeFormat rfl rfl rfl rfl (am_le8 rfl) (am_ev.le (by decide) (tz_mo_little (c := c) (t := t) hq1)) ?_
  refine am_go.blk hcd_mo_writeFormat 4 (g := (215, [some (.ref 16), some (.int x1), none, none, none, some (.int x5), none], [.int (2 : Int32), .long (Int32.toInt64 x5), .ref 16], zz_hM c q1 t, true)) rfl ?_
  obtain ⟨q2, hq2, hF⟩ := am_bd hF
  refine am_go.call hcd_mo_writeFormat rfl rfl rfl rfl (am_le8 rfl) (am_ev.le (by decide) (tz_mo_little (c := c) (t := t) hq2)) ?_
  refine am_go.fgl [some (.ref 16), some (.int x1), none, none, none, none, none] ⟨rfl, rfl, trivial⟩ ?_
  exact tz_mo_writeFormat_218  hF
def fz_mo_writeFormat_182  (x1 : Int32) (x5 : Int32) (y0 : Int64) (s : am_Z) : Option (am_Z) :=
  (fz_mo_little s y0 (2 : Int32)).bind fun q1 =>
  if x1 ≤ (1 : Int32) then
    fz_mo_writeFormat_218 x1 q1
  else
  if ¬ x1 = (2 : Int32) then
    fz_mo_writeFormat_206 x1 x5 (32 : Int64) q1
  else
  fz_mo_writeFormat_206 x1 x5 (2 : Int64) q1
set_option maxRecDepth 20000 in
theorem tz_mo_writeFormat_182 {sc : am_S} {c : am_Z} {t : am_H} {h0 : am_H}   {x1 : Int32} {x5 : Int32} {y0 : Int64} {s : am_Z} {r : am_Z} (hF : fz_mo_writeFormat_182 x1 x5 y0 s = some r) : am_go sc 3 (am_ev sc 2) 124 h0 (182, [some (.ref 16), some (.int x1), none, none, none, some (.int x5), none], [.long y0, .ref 16], zz_hM c s t, true) ((.inl (none), zz_hM c r t, true) : am_R) := by
  unfold fz_mo_writeFormat_182 at hF
  refine am_go.blk hcd_mo_writeFormat 1 (g := (183, [some (.ref 16), some (.int x1), none, none, none, some (.int x5), none], [.int (2 : Int32), .long y0, .ref 16], zz_hM c s t, true)) rfl ?_
  obtain ⟨q1, hq1, hF⟩ := am_bd hF
  refine am_go.call hcd_mo_writeFormat rfl rfl rfl rfl (am_le8 rfl) (am_ev.le (by decide) (tz_mo_little (c := c) (t := t) hq1)) ?_
  refine am_go.blk hcd_mo_writeFormat 3 (g := (bif decide (x1 ≤ (1 : Int32)) then 218 else 191, [some (.ref 16), some (.int x1), none, none, none, some (.int x5), none], [], zz_hM c q1 t, true)) rfl ?_
  refine am_go.br (fun hP => ?_) (fun hP => ?_)
  · replace hF := (if_pos hP).symm.trans hF
    refine am_go.fgl [some (.ref 16), some (.int x1), none, none, none, none, none] ⟨rfl, rfl, trivial⟩ ?_
    exact tz_mo_writeFormat_218  hF
  · replace hF := (if_neg hP).symm.trans hF
    refine am_go.blk hcd_mo_writeFormat 4 (g := (bif decide (¬ x1 = (2 : Int32)) then 203 else 197, [some (.ref 16), some (.int x1), none, none, none, some (.int x5), none], [.ref 16], zz_hM c q1 t, true)) rfl ?_
    refine am_go.br (fun hP => ?_) (fun hP => ?_)
    · replace hF := (if_pos hP).symm.trans hF
      refine am_go.blk hcd_mo_writeFormat 1 (g := (206, [some (.ref 16), some (.int x1), none, none, none, some (.int x5), none], [.long (32 : Int64), .ref 16], zz_hM c q1 t, true)) rfl ?_
      exact tz_mo_writeFormat_206  hF
    · replace hF := (if_neg hP).symm.trans hF
      refine am_go.blk hcd_mo_writeFormat 2 (g := (206, [some (.ref 16), some (.int x1), none, none, none, some (.int x5), none], [.long (2 : Int64), .ref 16], zz_hM c q1 t, true)) rfl ?_
      exact tz_mo_writeFormat_206  hF
def fz_mo_writeFormat_120  (x1 : Int32) (x4 : Int32) (x5 : Int32) (y0 : Int64) (s : am_Z) : Option (am_Z) :=
  (fz_mo_little s y0 (2 : Int32)).bind fun q1 =>
  (fz_mo_little q1 (1 : Int64) (2 : Int32)).bind fun q2 =>
  (fz_mo_little q2 (Int32.toInt64 (q2.1 3)) (4 : Int32)).bind fun q3 =>
  if x5 = 0 then none else
  (fz_mo_little q3 (Int32.toInt64 (((q3.1 3) * x4) / x5)) (4 : Int32)).bind fun q5 =>
  (fz_mo_little q5 (Int32.toInt64 x4) (2 : Int32)).bind fun q6 =>
  if (2 : Int32) ≤ x1 then
    fz_mo_writeFormat_182 x1 x5 (4 : Int64) q6
  else
  fz_mo_writeFormat_182 x1 x5 (Int32.toInt64 ((8 : Int32) * x4)) q6
set_option maxRecDepth 20000 in
theorem tz_mo_writeFormat_120 {sc : am_S} {c : am_Z} {t : am_H} {h0 : am_H}   {x1 : Int32} {x4 : Int32} {x5 : Int32} {y0 : Int64} {s : am_Z} {r : am_Z} (hF : fz_mo_writeFormat_120 x1 x4 x5 y0 s = some r) : am_go sc 3 (am_ev sc 2) 124 h0 (120, [some (.ref 16), some (.int x1), none, none, some (.int x4), some (.int x5), none], [.long y0, .ref 16], zz_hM c s t, true) ((.inl (none), zz_hM c r t, true) : am_R) := by
  unfold fz_mo_writeFormat_120 at hF
  refine am_go.blk hcd_mo_writeFormat 1 (g := (121, [some (.ref 16), some (.int x1), none, none, some (.int x4), some (.int x5), none], [.int (2 : Int32), .long y0, .ref 16], zz_hM c s t, true)) rfl ?_
  obtain ⟨q1, hq1, hF⟩ := am_bd hF
  refine am_go.call hcd_mo_writeFormat rfl rfl rfl rfl (am_le8 rfl) (am_ev.le (by decide) (tz_mo_little (c := c) (t := t) hq1)) ?_
  refine am_go.blk hcd_mo_writeFormat 3 (g := (127, [some (.ref 16), some (.int x1), none, none, some (.int x4), some (.int x5), none], [.int (2 : Int32), .long (1 : Int64), .ref 16], zz_hM c q1 t, true)) rfl ?_
  obtain ⟨q2, hq2, hF⟩ := am_bd hF
  refine am_go.call hcd_mo_writeFormat rfl rfl rfl rfl (am_le8 rfl) (am_ev.le (by decide) (tz_mo_little (c := c) (t := t) hq2)) ?_
  refine am_go.blk hcd_mo_writeFormat 5 (g := (137, [some (.ref 16), some (.int x1), none, none, some (.int x4), some (.int x5), none], [.int (4 : Int32), .long (Int32.toInt64 (q2.1 3)), .ref 16], zz_hM c q2 t, true)) rfl ?_
  obtain ⟨q3, hq3, hF⟩ := am_bd hF
  refine am_go.call hcd_mo_writeFormat rfl rfl rfl rfl (am_le8 rfl) (am_ev.le (by decide) (tz_mo_little (c := c) (t := t) hq3)) ?_
  refine am_go.blk hcd_mo_writeFormat 6 (g := (150, [some (.ref 16), some (.int x1), none, none, some (.int x4), some (.int x5), none], [.int x5, .int ((q3.1 3) * x4), .ref 16], zz_hM c q3 t, true)) rfl ?_
  obtain ⟨hd4, hF⟩ := am_ng hF
  refine am_go.idv hcd_mo_writeFormat rfl hd4 ?_
  refine am_go.blk hcd_mo_writeFormat 2 (g := (153, [some (.ref 16), some (.int x1), none, none, some (.int x4), some (.int x5), none], [.int (4 : Int32), .long (Int32.toInt64 (((q3.1 3) * x4) / x5)), .ref 16], zz_hM c q3 t, true)) rfl ?_
  obtain ⟨q5, hq5, hF⟩ := am_bd hF
  refine am_go.call hcd_mo_writeFormat rfl rfl rfl rfl (am_le8 rfl) (am_ev.le (by decide) (tz_mo_little (c := c) (t := t) hq5)) ?_
  refine am_go.blk hcd_mo_writeFormat 4 (g := (161, [some (.ref 16), some (.int x1), none, none, some (.int x4), some (.int x5), none], [.int (2 : Int32), .long (Int32.toInt64 x4), .ref 16], zz_hM c q5 t, true)) rfl ?_
  obtain ⟨q6, hq6, hF⟩ := am_bd hF
  refine am_go.call hcd_mo_writeFormat rfl rfl rfl rfl (am_le8 rfl) (am_ev.le (by decide) (tz_mo_little (c := c) (t := t) hq6)) ?_
  refine am_go.blk hcd_mo_writeFormat 4 (g := (bif decide ((2 : Int32) ≤ x1) then 179 else 170, [some (.ref 16), some (.int x1), none, none, some (.int x4), some (.int x5), none], [.ref 16], zz_hM c q6 t, true)) rfl ?_
  refine am_go.br (fun hP => ?_) (fun hP => ?_)
  · replace hF := (if_pos hP).symm.trans hF
    refine am_go.blk hcd_mo_writeFormat 1 (g := (182, [some (.ref 16), some (.int x1), none, none, some (.int x4), some (.int x5), none], [.long (4 : Int64), .ref 16], zz_hM c q6 t, true)) rfl ?_
    refine am_go.fgl [some (.ref 16), some (.int x1), none, none, none, some (.int x5), none] ⟨rfl, rfl, rfl, trivial⟩ ?_
    exact tz_mo_writeFormat_182  hF
  · replace hF := (if_neg hP).symm.trans hF
    refine am_go.blk hcd_mo_writeFormat 5 (g := (182, [some (.ref 16), some (.int x1), none, none, some (.int x4), some (.int x5), none], [.long (Int32.toInt64 ((8 : Int32) * x4)), .ref 16], zz_hM c q6 t, true)) rfl ?_
    refine am_go.fgl [some (.ref 16), some (.int x1), none, none, none, some (.int x5), none] ⟨rfl, rfl, rfl, trivial⟩ ?_
    exact tz_mo_writeFormat_182  hF
def fz_mo_writeFormat_78  (x1 : Int32) (x3 : Int32) (x4 : Int32) (y0 : Int32) (s : am_Z) : Option (am_Z) :=
  (fz_mo_put s (1718449184 : Int64) (4 : Int32) (1 : Int32)).bind fun q1 =>
  (fz_mo_little q1 (Int32.toInt64 x3) (4 : Int32)).bind fun q2 =>
  if (2 : Int32) ≤ x1 then
    if ¬ x1 = (2 : Int32) then
      fz_mo_writeFormat_120 x1 x4 y0 (2 : Int64) q2
    else
    fz_mo_writeFormat_120 x1 x4 y0 (17 : Int64) q2
  else
  fz_mo_writeFormat_120 x1 x4 y0 (1 : Int64) q2
set_option maxRecDepth 20000 in
theorem tz_mo_writeFormat_78 {sc : am_S} {c : am_Z} {t : am_H} {h0 : am_H}   {x1 : Int32} {x3 : Int32} {x4 : Int32} {y0 : Int32} {s : am_Z} {r : am_Z} (hF : fz_mo_writeFormat_78 x1 x3 x4 y0 s = some r) : am_go sc 3 (am_ev sc 2) 124 h0 (78, [some (.ref 16), some (.int x1), none, some (.int x3), some (.int x4), none, none], [.int y0], zz_hM c s t, true) ((.inl (none), zz_hM c r t, true) : am_R) := by
  unfold fz_mo_writeFormat_78 at hF
  refine am_go.blk hcd_mo_writeFormat 5 (g := (86, [some (.ref 16), some (.int x1), none, some (.int x3), some (.int x4), some (.int y0), none], [.int (1 : Int32), .int (4 : Int32), .long (1718449184 : Int64), .ref 16], zz_hM c s t, true)) rfl ?_
  obtain ⟨q1, hq1, hF⟩ := am_bd hF
  refine am_go.call hcd_mo_writeFormat rfl rfl rfl rfl (am_le8 rfl) (am_ev.le (by decide) (tz_mo_put (c := c) (t := t) hq1)) ?_
  refine am_go.blk hcd_mo_writeFormat 4 (g := (93, [some (.ref 16), some (.int x1), none, some (.int x3), some (.int x4), some (.int y0), none], [.int (4 : Int32), .long (Int32.toInt64 x3), .ref 16], zz_hM c q1 t, true)) rfl ?_
  obtain ⟨q2, hq2, hF⟩ := am_bd hF
  refine am_go.call hcd_mo_writeFormat rfl rfl rfl rfl (am_le8 rfl) (am_ev.le (by decide) (tz_mo_little (c := c) (t := t) hq2)) ?_
  refine am_go.blk hcd_mo_writeFormat 4 (g := (bif decide ((2 : Int32) ≤ x1) then 106 else 102, [some (.ref 16), some (.int x1), none, some (.int x3), some (.int x4), some (.int y0), none], [.ref 16], zz_hM c q2 t, true)) rfl ?_
  refine am_go.br (fun hP => ?_) (fun hP => ?_)
  · replace hF := (if_pos hP).symm.trans hF
    refine am_go.blk hcd_mo_writeFormat 3 (g := (bif decide (¬ x1 = (2 : Int32)) then 117 else 111, [some (.ref 16), some (.int x1), none, some (.int x3), some (.int x4), some (.int y0), none], [.ref 16], zz_hM c q2 t, true)) rfl ?_
    refine am_go.br (fun hP => ?_) (fun hP => ?_)
    · replace hF := (if_pos hP).symm.trans hF
      refine am_go.blk hcd_mo_writeFormat 1 (g := (120, [some (.ref 16), some (.int x1), none, some (.int x3), some (.int x4), some (.int y0), none], [.long (2 : Int64), .ref 16], zz_hM c q2 t, true)) rfl ?_
      refine am_go.fgl [some (.ref 16), some (.int x1), none, none, some (.int x4), some (.int y0), none] ⟨rfl, rfl, rfl, rfl, trivial⟩ ?_
      exact tz_mo_writeFormat_120  hF
    · replace hF := (if_neg hP).symm.trans hF
      refine am_go.blk hcd_mo_writeFormat 2 (g := (120, [some (.ref 16), some (.int x1), none, some (.int x3), some (.int x4), some (.int y0), none], [.long (17 : Int64), .ref 16], zz_hM c q2 t, true)) rfl ?_
      refine am_go.fgl [some (.ref 16), some (.int x1), none, none, some (.int x4), some (.int y0), none] ⟨rfl, rfl, rfl, rfl, trivial⟩ ?_
      exact tz_mo_writeFormat_120  hF
  · replace hF := (if_neg hP).symm.trans hF
    refine am_go.blk hcd_mo_writeFormat 2 (g := (120, [some (.ref 16), some (.int x1), none, some (.int x3), some (.int x4), some (.int y0), none], [.long (1 : Int64), .ref 16], zz_hM c q2 t, true)) rfl ?_
    refine am_go.fgl [some (.ref 16), some (.int x1), none, none, some (.int x4), some (.int y0), none] ⟨rfl, rfl, rfl, rfl, trivial⟩ ?_
    exact tz_mo_writeFormat_120  hF
def fz_mo_writeFormat_49  (x1 : Int32) (x2 : Int32) (x3 : Int32) (y0 : Int32) (s : am_Z) : Option (am_Z) :=
  if ¬ x1 = (2 : Int32) then
    if ¬ x1 = (3 : Int32) then
      fz_mo_writeFormat_78 x1 x3 y0 (1 : Int32) s
    else
    fz_mo_writeFormat_78 x1 x3 y0 (((2 : Int32) * x2) + (2 : Int32)) s
  else
  fz_mo_writeFormat_78 x1 x3 y0 (((2 : Int32) * x2) + (1 : Int32)) s
set_option maxRecDepth 20000 in
theorem tz_mo_writeFormat_49 {sc : am_S} {c : am_Z} {t : am_H} {h0 : am_H}   {x1 : Int32} {x2 : Int32} {x3 : Int32} {y0 : Int32} {s : am_Z} {r : am_Z} (hF : fz_mo_writeFormat_49 x1 x2 x3 y0 s = some r) : am_go sc 3 (am_ev sc 2) 124 h0 (49, [some (.ref 16), some (.int x1), some (.int x2), some (.int x3), none, none, none], [.int y0], zz_hM c s t, true) ((.inl (none), zz_hM c r t, true) : am_R) := by
  unfold fz_mo_writeFormat_49 at hF
  refine am_go.blk hcd_mo_writeFormat 4 (g := (bif decide (¬ x1 = (2 : Int32)) then 64 else 56, [some (.ref 16), some (.int x1), some (.int x2), some (.int x3), some (.int y0), none, none], [], zz_hM c s t, true)) rfl ?_
  refine am_go.br (fun hP => ?_) (fun hP => ?_)
  · replace hF := (if_pos hP).symm.trans hF
    refine am_go.blk hcd_mo_writeFormat 3 (g := (bif decide (¬ x1 = (3 : Int32)) then 77 else 69, [some (.ref 16), some (.int x1), some (.int x2), some (.int x3), some (.int y0), none, none], [], zz_hM c s t, true)) rfl ?_
    refine am_go.br (fun hP => ?_) (fun hP => ?_)
    · replace hF := (if_pos hP).symm.trans hF
      refine am_go.blk hcd_mo_writeFormat 1 (g := (78, [some (.ref 16), some (.int x1), some (.int x2), some (.int x3), some (.int y0), none, none], [.int (1 : Int32)], zz_hM c s t, true)) rfl ?_
      refine am_go.fgl [some (.ref 16), some (.int x1), none, some (.int x3), some (.int y0), none, none] ⟨rfl, rfl, rfl, rfl, trivial⟩ ?_
      exact tz_mo_writeFormat_78  hF
    · replace hF := (if_neg hP).symm.trans hF
      refine am_go.blk hcd_mo_writeFormat 6 (g := (78, [some (.ref 16), some (.int x1), some (.int x2), some (.int x3), some (.int y0), none, none], [.int (((2 : Int32) * x2) + (2 : Int32))], zz_hM c s t, true)) rfl ?_
      refine am_go.fgl [some (.ref 16), some (.int x1), none, some (.int x3), some (.int y0), none, none] ⟨rfl, rfl, rfl, rfl, trivial⟩ ?_
      exact tz_mo_writeFormat_78  hF
  · replace hF := (if_neg hP).symm.trans hF
    refine am_go.blk hcd_mo_writeFormat 6 (g := (78, [some (.ref 16), some (.int x1), some (.int x2), some (.int x3), some (.int y0), none, none], [.int (((2 : Int32) * x2) + (1 : Int32))], zz_hM c s t, true)) rfl ?_
    refine am_go.fgl [some (.ref 16), some (.int x1), none, some (.int x3), some (.int y0), none, none] ⟨rfl, rfl, rfl, rfl, trivial⟩ ?_
    exact tz_mo_writeFormat_78  hF
def fz_mo_writeFormat_22  (x1 : Int32) (x2 : Int32) (y0 : Int32) (s : am_Z) : Option (am_Z) :=
  if (2 : Int32) ≤ x1 then
    if ¬ x1 = (2 : Int32) then
      fz_mo_writeFormat_49 x1 x2 y0 (x2 + (7 : Int32)) s
    else
    fz_mo_writeFormat_49 x1 x2 y0 (x2 + (4 : Int32)) s
  else
  fz_mo_writeFormat_49 x1 x2 y0 (x1 + (1 : Int32)) s
set_option maxRecDepth 20000 in
theorem tz_mo_writeFormat_22 {sc : am_S} {c : am_Z} {t : am_H} {h0 : am_H}   {x1 : Int32} {x2 : Int32} {y0 : Int32} {s : am_Z} {r : am_Z} (hF : fz_mo_writeFormat_22 x1 x2 y0 s = some r) : am_go sc 3 (am_ev sc 2) 124 h0 (22, [some (.ref 16), some (.int x1), some (.int x2), none, none, none, none], [.int y0], zz_hM c s t, true) ((.inl (none), zz_hM c r t, true) : am_R) := by
  unfold fz_mo_writeFormat_22 at hF
  refine am_go.blk hcd_mo_writeFormat 4 (g := (bif decide ((2 : Int32) ≤ x1) then 34 else 28, [some (.ref 16), some (.int x1), some (.int x2), some (.int y0), none, none, none], [], zz_hM c s t, true)) rfl ?_
  refine am_go.br (fun hP => ?_) (fun hP => ?_)
  · replace hF := (if_pos hP).symm.trans hF
    refine am_go.blk hcd_mo_writeFormat 3 (g := (bif decide (¬ x1 = (2 : Int32)) then 45 else 39, [some (.ref 16), some (.int x1), some (.int x2), some (.int y0), none, none, none], [], zz_hM c s t, true)) rfl ?_
    refine am_go.br (fun hP => ?_) (fun hP => ?_)
    · replace hF := (if_pos hP).symm.trans hF
      refine am_go.blk hcd_mo_writeFormat 3 (g := (49, [some (.ref 16), some (.int x1), some (.int x2), some (.int y0), none, none, none], [.int (x2 + (7 : Int32))], zz_hM c s t, true)) rfl ?_
      exact tz_mo_writeFormat_49  hF
    · replace hF := (if_neg hP).symm.trans hF
      refine am_go.blk hcd_mo_writeFormat 4 (g := (49, [some (.ref 16), some (.int x1), some (.int x2), some (.int y0), none, none, none], [.int (x2 + (4 : Int32))], zz_hM c s t, true)) rfl ?_
      exact tz_mo_writeFormat_49  hF
  · replace hF := (if_neg hP).symm.trans hF
    refine am_go.blk hcd_mo_writeFormat 4 (g := (49, [some (.ref 16), some (.int x1), some (.int x2), some (.int y0), none, none, none], [.int (x1 + (1 : Int32))], zz_hM c s t, true)) rfl ?_
    exact tz_mo_writeFormat_49  hF
def fz_mo_writeFormat (s : am_Z) (x1 : Int32) (x2 : Int32) : Option (am_Z) :=
  if (2 : Int32) ≤ x1 then
    if ¬ x1 = (2 : Int32) then
      fz_mo_writeFormat_22 x1 x2 (50 : Int32) s
    else
    fz_mo_writeFormat_22 x1 x2 (20 : Int32) s
  else
  fz_mo_writeFormat_22 x1 x2 (16 : Int32) s
set_option maxRecDepth 20000 in
theorem tz_mo_writeFormat {sc : am_S} {c : am_Z} {t : am_H} {s : am_Z} {x1 : Int32} {x2 : Int32} {r : am_Z} (hF : fz_mo_writeFormat s x1 x2 = some r) : am_ev sc 3 124 [.ref 16, .int x1, .int x2] (zz_hM c s t) ((.inl (none), zz_hM c r t, true) : am_R) := by
  unfold fz_mo_writeFormat at hF
  refine am_ev.of true rfl ?_
  show am_go sc _ _ _ _ (0, [some (.ref 16), some (.int x1), some (.int x2), none, none, none, none], [], zz_hM c s t, true) _
  refine am_go.blk hcd_mo_writeFormat 3 (g := (bif decide ((2 : Int32) ≤ x1) then 10 else 5, [some (.ref 16), some (.int x1), some (.int x2), none, none, none, none], [], zz_hM c s t, true)) rfl ?_
  refine am_go.br (fun hP => ?_) (fun hP => ?_)
  · replace hF := (if_pos hP).symm.trans hF
    refine am_go.blk hcd_mo_writeFormat 3 (g := (bif decide (¬ x1 = (2 : Int32)) then 20 else 15, [some (.ref 16), some (.int x1), some (.int x2), none, none, none, none], [], zz_hM c s t, true)) rfl ?_
    refine am_go.br (fun hP => ?_) (fun hP => ?_)
    · replace hF := (if_pos hP).symm.trans hF
      refine am_go.blk hcd_mo_writeFormat 1 (g := (22, [some (.ref 16), some (.int x1), some (.int x2), none, none, none, none], [.int (50 : Int32)], zz_hM c s t, true)) rfl ?_
      exact tz_mo_writeFormat_22  hF
    · replace hF := (if_neg hP).symm.trans hF
      refine am_go.blk hcd_mo_writeFormat 2 (g := (22, [some (.ref 16), some (.int x1), some (.int x2), none, none, none, none], [.int (20 : Int32)], zz_hM c s t, true)) rfl ?_
      exact tz_mo_writeFormat_22  hF
  · replace hF := (if_neg hP).symm.trans hF
    refine am_go.blk hcd_mo_writeFormat 2 (g := (22, [some (.ref 16), some (.int x1), some (.int x2), none, none, none, none], [.int (16 : Int32)], zz_hM c s t, true)) rfl ?_
    exact tz_mo_writeFormat_22  hF
theorem hcd_mo_distance : am_code 119 = am_c_mo_distance := rfl
def fz_mo_distance_18 (s : am_Z) (x3 : Int32) (y0 : Int32) : Option (Int32) :=
  if 0 ≤ (y0 - x3) then
    some (y0 - x3)
  else
  some (-(y0 - x3))
theorem tz_mo_distance_18 {sc : am_S} {c : am_Z} {t : am_H} {h0 : am_H} {s : am_Z}  {x3 : Int32} {y0 : Int32} {r : Int32} (hF : fz_mo_distance_18 s x3 y0 = some r) : am_go sc 3 (am_ev sc 2) 119 h0 (18, [none, none, none, some (.int x3), none], [.int y0], zz_hM c s t, false) ((.inl (some (.int r)), zz_hM c s t, false) : am_R) := by
  unfold fz_mo_distance_18 at hF
  refine am_go.blk hcd_mo_distance 5 (g := (bif decide (0 ≤ (y0 - x3)) then 33 else 27, [none, none, none, some (.int x3), some (.int (y0 - x3))], [], zz_hM c s t, false)) rfl ?_
  refine am_go.br (fun hP => ?_) (fun hP => ?_)
  · replace hF := (if_pos hP).symm.trans hF
    refine am_go.blk hcd_mo_distance 1 (g := (35, [none, none, none, some (.int x3), some (.int (y0 - x3))], [.int (y0 - x3)], zz_hM c s t, false)) rfl ?_
    cases hF
    exact am_go.ret hcd_mo_distance rfl rfl ⟨rfl, rfl, (fun _ => rfl), Or.inl rfl, rfl⟩
  · replace hF := (if_neg hP).symm.trans hF
    refine am_go.blk hcd_mo_distance 3 (g := (35, [none, none, none, some (.int x3), some (.int (y0 - x3))], [.int (-(y0 - x3))], zz_hM c s t, false)) rfl ?_
    cases hF
    exact am_go.ret hcd_mo_distance rfl rfl ⟨rfl, rfl, (fun _ => rfl), Or.inl rfl, rfl⟩
def fz_mo_distance (s : am_Z) (x1 : Int32) (x2 : Int32) (x3 : Int32) : Option (Int32) :=
  if 0 ≤ x2 then
    (fz_mo_predicted s x1 x2).bind fun q1 =>
    fz_mo_distance_18 s x3 q1
  else
  (fz_mo_stepped s x1).bind fun q2 =>
  fz_mo_distance_18 s x3 q2
theorem tz_mo_distance {sc : am_S} {c : am_Z} {t : am_H} {s : am_Z} {x1 : Int32} {x2 : Int32} {x3 : Int32} {r : Int32} (hF : fz_mo_distance s x1 x2 x3 = some r) : am_ev sc 3 119 [.ref 16, .int x1, .int x2, .int x3] (zz_hM c s t) ((.inl (some (.int r)), zz_hM c s t, false) : am_R) := by
  unfold fz_mo_distance at hF
  refine am_ev.of false rfl ?_
  show am_go sc _ _ _ _ (0, [some (.ref 16), some (.int x1), some (.int x2), some (.int x3), none], [], zz_hM c s t, false) _
  refine am_go.blk hcd_mo_distance 2 (g := (bif decide (0 ≤ x2) then 12 else 4, [some (.ref 16), some (.int x1), some (.int x2), some (.int x3), none], [], zz_hM c s t, false)) rfl ?_
  refine am_go.br (fun hP => ?_) (fun hP => ?_)
  · replace hF := (if_pos hP).symm.trans hF
    refine am_go.blk hcd_mo_distance 3 (g := (15, [some (.ref 16), some (.int x1), some (.int x2), some (.int x3), none], [.int x2, .int x1, .ref 16], zz_hM c s t, false)) rfl ?_
    obtain ⟨q1, hq1, hF⟩ := am_bd hF
    refine am_go.call hcd_mo_distance rfl rfl rfl rfl (am_le8 rfl) (am_ev.le (by decide) (tz_mo_predicted (c := c) (t := t) hq1)) ?_
    refine am_go.fgl [none, none, none, some (.int x3), none] ⟨rfl, trivial⟩ ?_
    exact tz_mo_distance_18  hF
  · replace hF := (if_neg hP).symm.trans hF
    refine am_go.blk hcd_mo_distance 2 (g := (6, [some (.ref 16), some (.int x1), some (.int x2), some (.int x3), none], [.int x1, .ref 16], zz_hM c s t, false)) rfl ?_
    obtain ⟨q2, hq2, hF⟩ := am_bd hF
    refine am_go.call hcd_mo_distance rfl rfl rfl rfl (am_le8 rfl) (am_ev.le (by decide) (tz_mo_stepped (c := c) (t := t) hq2)) ?_
    refine am_go.blk hcd_mo_distance 1 (g := (18, [some (.ref 16), some (.int x1), some (.int x2), some (.int x3), none], [.int q2], zz_hM c s t, false)) rfl ?_
    refine am_go.fgl [none, none, none, some (.int x3), none] ⟨rfl, trivial⟩ ?_
    exact tz_mo_distance_18  hF
theorem hcd_mo_nearest : am_code 120 = am_c_mo_nearest := rfl
def fz_mo_nearest_36 (s : am_Z) (K5 : Int32 → Int32 → Int32 → Int32 → Option (Int32)) (x1 : Int32) (x2 : Int32) (x4 : Int32) (y0 : Int32) : Option (Int32) :=
  K5 x1 x2 y0 (x4 + (1 : Int32))
theorem tz_mo_nearest_36 {sc : am_S} {c : am_Z} {t : am_H} {h0 : am_H} {s : am_Z} {K5 : Int32 → Int32 → Int32 → Int32 → Option (Int32)} (hK5 : ∀ (x1 : Int32) (x2 : Int32) (x3 : Int32) (x4 : Int32) (r : Int32), K5 x1 x2 x3 x4 = some r → am_go sc 4 (am_ev sc 3) 120 h0 (5, [some (.ref 16), some (.int x1), some (.int x2), some (.int x3), some (.int x4)], [], zz_hM c s t, false) ((.inl (some (.int r)), zz_hM c s t, false) : am_R)) {x1 : Int32} {x2 : Int32} {x4 : Int32} {y0 : Int32} {r : Int32} (hF : fz_mo_nearest_36 s K5 x1 x2 x4 y0 = some r) : am_go sc 4 (am_ev sc 3) 120 h0 (36, [some (.ref 16), some (.int x1), some (.int x2), none, some (.int x4)], [.int y0], zz_hM c s t, false) ((.inl (some (.int r)), zz_hM c s t, false) : am_R) := by
  unfold fz_mo_nearest_36 at hF
  refine am_go.blk hcd_mo_nearest 3 (g := (5, [some (.ref 16), some (.int x1), some (.int x2), some (.int y0), some (.int (x4 + (1 : Int32)))], [], zz_hM c s t, false)) rfl ?_
  exact hK5 _ _ _ _ _ hF
def fz_mo_nearest_5 (s : am_Z) : Nat → Int32 → Int32 → Int32 → Int32 → Option (Int32)
  | 0, _, _, _, _ => none
  | n + 1, x1, x2, x3, x4 =>
    if (16 : Int32) ≤ x4 then
      some x3
    else
    (fz_mo_distance s x4 x1 x2).bind fun q1 =>
    (fz_mo_distance s x3 x1 x2).bind fun q2 =>
    if q2 ≤ q1 then
      fz_mo_nearest_36 s (fz_mo_nearest_5 s n) x1 x2 x4 x3
    else
    fz_mo_nearest_36 s (fz_mo_nearest_5 s n) x1 x2 x4 x4
theorem tz_mo_nearest_5 {sc : am_S} {c : am_Z} {t : am_H} {h0 : am_H} {s : am_Z}  : ∀ (n : Nat) (x1 : Int32) (x2 : Int32) (x3 : Int32) (x4 : Int32) (r : Int32), fz_mo_nearest_5 s n x1 x2 x3 x4 = some r → am_go sc 4 (am_ev sc 3) 120 h0 (5, [some (.ref 16), some (.int x1), some (.int x2), some (.int x3), some (.int x4)], [], zz_hM c s t, false) ((.inl (some (.int r)), zz_hM c s t, false) : am_R) := by
  intro n
  induction n with
  | zero => intro x1 x2 x3 x4 r hF; cases hF
  | succ n ih =>
    intro x1 x2 x3 x4 r hF
    unfold fz_mo_nearest_5 at hF
    refine am_go.blk hcd_mo_nearest 3 (g := (bif decide ((16 : Int32) ≤ x4) then 43 else 12, [some (.ref 16), some (.int x1), some (.int x2), some (.int x3), some (.int x4)], [], zz_hM c s t, false)) rfl ?_
    refine am_go.br (fun hP => ?_) (fun hP => ?_)
    · replace hF := (if_pos hP).symm.trans hF
      refine am_go.blk hcd_mo_nearest 1 (g := (44, [some (.ref 16), some (.int x1), some (.int x2), some (.int x3), some (.int x4)], [.int x3], zz_hM c s t, false)) rfl ?_
      cases hF
      exact am_go.ret hcd_mo_nearest rfl rfl ⟨rfl, rfl, (fun _ => rfl), Or.inl rfl, rfl⟩
    · replace hF := (if_neg hP).symm.trans hF
      refine am_go.blk hcd_mo_nearest 4 (g := (17, [some (.ref 16), some (.int x1), some (.int x2), some (.int x3), some (.int x4)], [.int x2, .int x1, .int x4, .ref 16], zz_hM c s t, false)) rfl ?_
      obtain ⟨q1, hq1, hF⟩ := am_bd hF
      refine am_go.call hcd_mo_nearest rfl rfl rfl rfl (am_le8 rfl) (am_ev.le (by decide) (tz_mo_distance (c := c) (t := t) hq1)) ?_
      refine am_go.blk hcd_mo_nearest 4 (g := (24, [some (.ref 16), some (.int x1), some (.int x2), some (.int x3), some (.int x4)], [.int x2, .int x1, .int x3, .ref 16, .int q1], zz_hM c s t, false)) rfl ?_
      obtain ⟨q2, hq2, hF⟩ := am_bd hF
      refine am_go.call hcd_mo_nearest rfl rfl rfl rfl (am_le8 rfl) (am_ev.le (by decide) (tz_mo_distance (c := c) (t := t) hq2)) ?_
      refine am_go.blk hcd_mo_nearest 1 (g := (bif decide (q2 ≤ q1) then 35 else 30, [some (.ref 16), some (.int x1), some (.int x2), some (.int x3), some (.int x4)], [], zz_hM c s t, false)) rfl ?_
      refine am_go.br (fun hP => ?_) (fun hP => ?_)
      · replace hF := (if_pos hP).symm.trans hF
        refine am_go.blk hcd_mo_nearest 1 (g := (36, [some (.ref 16), some (.int x1), some (.int x2), some (.int x3), some (.int x4)], [.int x3], zz_hM c s t, false)) rfl ?_
        refine am_go.fgl [some (.ref 16), some (.int x1), some (.int x2), none, some (.int x4)] ⟨rfl, rfl, rfl, rfl, trivial⟩ ?_
        exact tz_mo_nearest_36 (hK5 := ih) hF
      · replace hF := (if_neg hP).symm.trans hF
        refine am_go.blk hcd_mo_nearest 2 (g := (36, [some (.ref 16), some (.int x1), some (.int x2), some (.int x3), some (.int x4)], [.int x4], zz_hM c s t, false)) rfl ?_
        refine am_go.fgl [some (.ref 16), some (.int x1), some (.int x2), none, some (.int x4)] ⟨rfl, rfl, rfl, rfl, trivial⟩ ?_
        exact tz_mo_nearest_36 (hK5 := ih) hF
def fz_mo_nearest (s : am_Z) (x1 : Int32) (x2 : Int32) : Option (Int32) :=
  fz_mo_nearest_5 s fz_fu x1 x2 (0 : Int32) (1 : Int32)
theorem tz_mo_nearest {sc : am_S} {c : am_Z} {t : am_H} {s : am_Z} {x1 : Int32} {x2 : Int32} {r : Int32} (hF : fz_mo_nearest s x1 x2 = some r) : am_ev sc 4 120 [.ref 16, .int x1, .int x2] (zz_hM c s t) ((.inl (some (.int r)), zz_hM c s t, false) : am_R) := by
  unfold fz_mo_nearest at hF
  refine am_ev.of false rfl ?_
  show am_go sc _ _ _ _ (0, [some (.ref 16), some (.int x1), some (.int x2), none, none], [], zz_hM c s t, false) _
  refine am_go.blk hcd_mo_nearest 4 (g := (5, [some (.ref 16), some (.int x1), some (.int x2), some (.int (0 : Int32)), some (.int (1 : Int32))], [], zz_hM c s t, false)) rfl ?_
  exact tz_mo_nearest_5  fz_fu _ _ _ _ _ hF
theorem hcd_mo_follow : am_code 121 = am_c_mo_follow := rfl
def fz_mo_follow_94 (K6 : Int32 → Int32 → Int32 → Int32 → Int32 → am_Z → Option (Int32 × am_Z)) (x1 : Int32) (x2 : Int32) (x3 : Int32) (x4 : Int32) (x5 : Int32) (s : am_Z) : Option (Int32 × am_Z) :=
  K6 x1 x2 x3 x4 (x5 + (1 : Int32)) s
theorem tz_mo_follow_94 {sc : am_S} {c : am_Z} {t : am_H} {h0 : am_H} {K6 : Int32 → Int32 → Int32 → Int32 → Int32 → am_Z → Option (Int32 × am_Z)} (hK6 : ∀ (x1 : Int32) (x2 : Int32) (x3 : Int32) (x4 : Int32) (x5 : Int32) (s : am_Z) (r : Int32 × am_Z), K6 x1 x2 x3 x4 x5 s = some r → am_go sc 5 (am_ev sc 4) 121 h0 (6, [some (.ref 16), some (.int x1), some (.int x2), some (.int x3), some (.int x4), some (.int x5), none, none], [], zz_hM c s t, true) ((.inl (some (.int r.1)), zz_hM c r.2 t, true) : am_R)) {x1 : Int32} {x2 : Int32} {x3 : Int32} {x4 : Int32} {x5 : Int32} {s : am_Z} {r : Int32 × am_Z} (hF : fz_mo_follow_94 K6 x1 x2 x3 x4 x5 s = some r) : am_go sc 5 (am_ev sc 4) 121 h0 (94, [some (.ref 16), some (.int x1), some (.int x2), some (.int x3), some (.int x4), some (.int x5), none, none], [], zz_hM c s t, true) ((.inl (some (.int r.1)), zz_hM c r.2 t, true) : am_R) := by
  unfold fz_mo_follow_94 at hF
  refine am_go.blk hcd_mo_follow 2 (g := (6, [some (.ref 16), some (.int x1), some (.int x2), some (.int x3), some (.int x4), some (.int (x5 + (1 : Int32))), none, none], [], zz_hM c s t, true)) rfl ?_
  exact hK6 _ _ _ _ _ _ _ hF
def fz_mo_follow_6  : Nat → Int32 → Int32 → Int32 → Int32 → Int32 → am_Z → Option (Int32 × am_Z)
  | 0, _, _, _, _, _, _ => none
  | n + 1, x1, x2, x3, x4, x5, s =>
    if x2 ≤ x5 then
      some (x4, s)
    else
    if x5 < 0 ∨ 16 ≤ Int32.toNatClampNeg x5 then none else
    if (s.1 1) ≤ (x1 + x5) then
      fz_mo_follow_94 (fz_mo_follow_6 n) x1 x2 x3 x4 x5 (zz_r s 3 (upd (s.2.2 3) (Int32.toNatClampNeg x5) (0 : Int32)))
    else
    if (x1 + x5) < 0 ∨ 64 ≤ Int32.toNatClampNeg (x1 + x5) then none else
    (fz_mo_nearest (zz_r s 3 (upd (s.2.2 3) (Int32.toNatClampNeg x5) (0 : Int32))) x3 ((s.2.2 0) (Int32.toNatClampNeg (x1 + x5)))).bind fun q3 =>
    (fz_mo_distance (zz_r s 3 (upd (s.2.2 3) (Int32.toNatClampNeg x5) (0 : Int32))) q3 x3 ((s.2.2 0) (Int32.toNatClampNeg (x1 + x5)))).bind fun q4 =>
    if x5 < 0 ∨ 16 ≤ Int32.toNatClampNeg x5 then none else
    if 0 ≤ x3 then
      (fz_mo_goPredicted (zz_r s 3 (upd (upd (s.2.2 3) (Int32.toNatClampNeg x5) (0 : Int32)) (Int32.toNatClampNeg x5) q3)) q3 x3).bind fun q6 =>
      fz_mo_follow_94 (fz_mo_follow_6 n) x1 x2 x3 (x4 + q4) x5 q6
    else
    (fz_mo_goStepped (zz_r s 3 (upd (upd (s.2.2 3) (Int32.toNatClampNeg x5) (0 : Int32)) (Int32.toNatClampNeg x5) q3)) q3).bind fun q7 =>
    fz_mo_follow_94 (fz_mo_follow_6 n) x1 x2 x3 (x4 + q4) x5 q7
theorem tz_mo_follow_6 {sc : am_S} {c : am_Z} {t : am_H} {h0 : am_H}   : ∀ (n : Nat) (x1 : Int32) (x2 : Int32) (x3 : Int32) (x4 : Int32) (x5 : Int32) (s : am_Z) (r : Int32 × am_Z), fz_mo_follow_6  n x1 x2 x3 x4 x5 s = some r → am_go sc 5 (am_ev sc 4) 121 h0 (6, [some (.ref 16), some (.int x1), some (.int x2), some (.int x3), some (.int x4), some (.int x5), none, none], [], zz_hM c s t, true) ((.inl (some (.int r.1)), zz_hM c r.2 t, true) : am_R) := by
  intro n
  induction n with
  | zero => intro x1 x2 x3 x4 x5 s r hF; cases hF
  | succ n ih =>
    intro x1 x2 x3 x4 x5 s r hF
    unfold fz_mo_follow_6 at hF
    refine am_go.blk hcd_mo_follow 3 (g := (bif decide (x2 ≤ x5) then 100 else 12, [some (.ref 16), some (.int x1), some (.int x2), some (.int x3), some (.int x4), some (.int x5), none, none], [], zz_hM c s t, true)) rfl ?_
    refine am_go.br (fun hP => ?_) (fun hP => ?_)
    · replace hF := (if_pos hP).symm.trans hF
      refine am_go.blk hcd_mo_follow 1 (g := (102, [some (.ref 16), some (.int x1), some (.int x2), some (.int x3), some (.int x4), some (.int x5), none, none], [.int x4], zz_hM c s t, true)) rfl ?_
      cases hF
      exact am_go.ret hcd_mo_follow rfl rfl ⟨rfl, rfl, (fun h => by cases h), Or.inl rfl, rfl⟩
    · replace hF := (if_neg hP).symm.trans hF
      refine am_go.blk hcd_mo_follow 4 (g := (19, [some (.ref 16), some (.int x1), some (.int x2), some (.int x3), some (.int x4), some (.int x5), none, none], [.int (0 : Int32), .int x5, .ref 20], zz_hM c s t, true)) rfl ?_
      obtain ⟨hi1, hF⟩ := am_ng hF
      refine am_go.iast hcd_mo_follow rfl rfl hi1 ?_
      refine am_go.blk hcd_mo_follow 6 (g := (bif decide ((s.1 1) ≤ (x1 + x5)) then 94 else 31, [some (.ref 16), some (.int x1), some (.int x2), some (.int x3), some (.int x4), some (.int x5), none, none], [], zz_hM c (zz_r s 3 (upd (s.2.2 3) (Int32.toNatClampNeg x5) (0 : Int32))) t, true)) rfl ?_
      refine am_go.br (fun hP => ?_) (fun hP => ?_)
      · replace hF := (if_pos hP).symm.trans hF
        exact tz_mo_follow_94 (hK6 := ih) hF
      · replace hF := (if_neg hP).symm.trans hF
        refine am_go.blk hcd_mo_follow 5 (g := (39, [some (.ref 16), some (.int x1), some (.int x2), some (.int x3), some (.int x4), some (.int x5), none, none], [.int (x1 + x5), .ref 17], zz_hM c (zz_r s 3 (upd (s.2.2 3) (Int32.toNatClampNeg x5) (0 : Int32))) t, true)) rfl ?_
        obtain ⟨hi2, hF⟩ := am_ng hF
        refine am_go.iald hcd_mo_follow rfl rfl hi2 ?_
        refine am_go.blk hcd_mo_follow 4 (g := (46, [some (.ref 16), some (.int x1), some (.int x2), some (.int x3), some (.int x4), some (.int x5), some (.int ((s.2.2 0) (Int32.toNatClampNeg (x1 + x5)))), none], [.int ((s.2.2 0) (Int32.toNatClampNeg (x1 + x5))), .int x3, .ref 16], zz_hM c (zz_r s 3 (upd (s.2.2 3) (Int32.toNatClampNeg x5) (0 : Int32))) t, true)) rfl ?_
        obtain ⟨q3, hq3, hF⟩ := am_bd hF
        refine am_go.call hcd_mo_follow rfl rfl rfl rfl (am_le8 rfl) (am_ev.le (by decide) (tz_mo_nearest (c := c) (t := t) hq3)) ?_
        refine am_go.blk hcd_mo_follow 6 (g := (59, [some (.ref 16), some (.int x1), some (.int x2), some (.int x3), some (.int x4), some (.int x5), some (.int ((s.2.2 0) (Int32.toNatClampNeg (x1 + x5)))), some (.int q3)], [.int ((s.2.2 0) (Int32.toNatClampNeg (x1 + x5))), .int x3, .int q3, .ref 16, .int x4], zz_hM c (zz_r s 3 (upd (s.2.2 3) (Int32.toNatClampNeg x5) (0 : Int32))) t, true)) rfl ?_
        obtain ⟨q4, hq4, hF⟩ := am_bd hF
        refine am_go.call hcd_mo_follow rfl rfl rfl rfl (am_le8 rfl) (am_ev.le (by decide) (tz_mo_distance (c := c) (t := t) hq4)) ?_
        refine am_go.blk hcd_mo_follow 6 (g := (73, [some (.ref 16), some (.int x1), some (.int x2), some (.int x3), some (.int (x4 + q4)), some (.int x5), some (.int ((s.2.2 0) (Int32.toNatClampNeg (x1 + x5)))), some (.int q3)], [.int q3, .int x5, .ref 20], zz_hM c (zz_r s 3 (upd (s.2.2 3) (Int32.toNatClampNeg x5) (0 : Int32))) t, true)) rfl ?_
        obtain ⟨hi5, hF⟩ := am_ng hF
        refine am_go.iast hcd_mo_follow rfl rfl hi5 ?_
        refine am_go.blk hcd_mo_follow 2 (g := (bif decide (0 ≤ x3) then 87 else 78, [some (.ref 16), some (.int x1), some (.int x2), some (.int x3), some (.int (x4 + q4)), some (.int x5), some (.int ((s.2.2 0) (Int32.toNatClampNeg (x1 + x5)))), some (.int q3)], [], zz_hM c (zz_r s 3 (upd (upd (s.2.2 3) (Int32.toNatClampNeg x5) (0 : Int32)) (Int32.toNatClampNeg x5) q3)) t, true)) rfl ?_
        refine am_go.br (fun hP => ?_) (fun hP => ?_)
        · replace hF := (if_pos hP).symm.trans hF
          refine am_go.blk hcd_mo_follow 3 (g := (91, [some (.ref 16), some (.int x1), some (.int x2), some (.int x3), some (.int (x4 + q4)), some (.int x5), some (.int ((s.2.2 0) (Int32.toNatClampNeg (x1 + x5)))), some (.int q3)], [.int x3, .int q3, .ref 16], zz_hM c (zz_r s 3 (upd (upd (s.2.2 3) (Int32.toNatClampNeg x5) (0 : Int32)) (Int32.toNatClampNeg x5) q3)) t, true)) rfl ?_
          obtain ⟨q6, hq6, hF⟩ := am_bd hF
          refine am_go.call hcd_mo_follow rfl rfl rfl rfl (am_le8 rfl) (am_ev.le (by decide) (tz_mo_goPredicted (c := c) (t := t) hq6)) ?_
          refine am_go.fgl [some (.ref 16), some (.int x1), some (.int x2), some (.int x3), some (.int (x4 + q4)), some (.int x5), none, none] ⟨rfl, rfl, rfl, rfl, rfl, rfl, trivial⟩ ?_
          exact tz_mo_follow_94 (hK6 := ih) hF
        · replace hF := (if_neg hP).symm.trans hF
          refine am_go.blk hcd_mo_follow 2 (g := (81, [some (.ref 16), some (.int x1), some (.int x2), some (.int x3), some (.int (x4 + q4)), some (.int x5), some (.int ((s.2.2 0) (Int32.toNatClampNeg (x1 + x5)))), some (.int q3)], [.int q3, .ref 16], zz_hM c (zz_r s 3 (upd (upd (s.2.2 3) (Int32.toNatClampNeg x5) (0 : Int32)) (Int32.toNatClampNeg x5) q3)) t, true)) rfl ?_
          obtain ⟨q7, hq7, hF⟩ := am_bd hF
          refine am_go.call hcd_mo_follow rfl rfl rfl rfl (am_le8 rfl) (am_ev.le (by decide) (tz_mo_goStepped (c := c) (t := t) hq7)) ?_
          refine am_go.blk hcd_mo_follow 1 (g := (94, [some (.ref 16), some (.int x1), some (.int x2), some (.int x3), some (.int (x4 + q4)), some (.int x5), some (.int ((s.2.2 0) (Int32.toNatClampNeg (x1 + x5)))), some (.int q3)], [], zz_hM c q7 t, true)) rfl ?_
          refine am_go.fgl [some (.ref 16), some (.int x1), some (.int x2), some (.int x3), some (.int (x4 + q4)), some (.int x5), none, none] ⟨rfl, rfl, rfl, rfl, rfl, rfl, trivial⟩ ?_
          exact tz_mo_follow_94 (hK6 := ih) hF
def fz_mo_follow (s : am_Z) (x1 : Int32) (x2 : Int32) (x3 : Int32) : Option (Int32 × am_Z) :=
  fz_mo_follow_6 fz_fu x1 x2 x3 (0 : Int32) (0 : Int32) s
theorem tz_mo_follow {sc : am_S} {c : am_Z} {t : am_H} {s : am_Z} {x1 : Int32} {x2 : Int32} {x3 : Int32} {r : Int32 × am_Z} (hF : fz_mo_follow s x1 x2 x3 = some r) : am_ev sc 5 121 [.ref 16, .int x1, .int x2, .int x3] (zz_hM c s t) ((.inl (some (.int r.1)), zz_hM c r.2 t, true) : am_R) := by
  unfold fz_mo_follow at hF
  refine am_ev.of true rfl ?_
  show am_go sc _ _ _ _ (0, [some (.ref 16), some (.int x1), some (.int x2), some (.int x3), none, none, none, none], [], zz_hM c s t, true) _
  refine am_go.blk hcd_mo_follow 4 (g := (6, [some (.ref 16), some (.int x1), some (.int x2), some (.int x3), some (.int (0 : Int32)), some (.int (0 : Int32)), none, none], [], zz_hM c s t, true)) rfl ?_
  exact tz_mo_follow_6  fz_fu _ _ _ _ _ _ _ hF
theorem hcd_mo_putNibbles : am_code 125 = am_c_mo_putNibbles := rfl
def fz_mo_putNibbles_55 (K2 : Int32 → Int32 → Int32 → am_Z → Option (am_Z)) (x1 : Int32) (x2 : Int32) (x3 : Int32) (y0 : Int64) (s : am_Z) : Option (am_Z) :=
  (fz_mo_little s y0 (1 : Int32)).bind fun q1 =>
  K2 x1 x2 (x3 + (1 : Int32)) q1
theorem tz_mo_putNibbles_55 {sc : am_S} {c : am_Z} {t : am_H} {h0 : am_H} {K2 : Int32 → Int32 → Int32 → am_Z → Option (am_Z)} (hK2 : ∀ (x1 : Int32) (x2 : Int32) (x3 : Int32) (s : am_Z) (r : am_Z), K2 x1 x2 x3 s = some r → am_go sc 3 (am_ev sc 2) 125 h0 (2, [some (.ref 16), some (.int x1), some (.int x2), some (.int x3), none, none], [], zz_hM c s t, true) ((.inl (none), zz_hM c r t, true) : am_R)) {x1 : Int32} {x2 : Int32} {x3 : Int32} {y0 : Int64} {s : am_Z} {r : am_Z} (hF : fz_mo_putNibbles_55 K2 x1 x2 x3 y0 s = some r) : am_go sc 3 (am_ev sc 2) 125 h0 (55, [some (.ref 16), some (.int x1), some (.int x2), some (.int x3), none, none], [.long y0, .ref 16], zz_hM c s t, true) ((.inl (none), zz_hM c r t, true) : am_R) := by
  unfold fz_mo_putNibbles_55 at hF
  refine am_go.blk hcd_mo_putNibbles 1 (g := (56, [some (.ref 16), some (.int x1), some (.int x2), some (.int x3), none, none], [.int (1 : Int32), .long y0, .ref 16], zz_hM c s t, true)) rfl ?_
  obtain ⟨q1, hq1, hF⟩ := am_bd hF
  refine am_go.call hcd_mo_putNibbles rfl rfl rfl rfl (am_le8 rfl) (am_ev.le (by decide) (tz_mo_little (c := c) (t := t) hq1)) ?_
  refine am_go.blk hcd_mo_putNibbles 2 (g := (2, [some (.ref 16), some (.int x1), some (.int x2), some (.int (x3 + (1 : Int32))), none, none], [], zz_hM c q1 t, true)) rfl ?_
  exact hK2 _ _ _ _ _ hF
def fz_mo_putNibbles_2  : Nat → Int32 → Int32 → Int32 → am_Z → Option (am_Z)
  | 0, _, _, _, _ => none
  | n + 1, x1, x2, x3, s =>
    if x1 ≤ x3 then
      some s
    else
    if ((2 : Int32) * x3) < 0 ∨ 16 ≤ Int32.toNatClampNeg ((2 : Int32) * x3) then none else
    if (((2 : Int32) * x3) + (1 : Int32)) < 0 ∨ 16 ≤ Int32.toNatClampNeg (((2 : Int32) * x3) + (1 : Int32)) then none else
    if x2 = 0 then
      fz_mo_putNibbles_55 (fz_mo_putNibbles_2 n) x1 x2 x3 (Int32.toInt64 (((16 : Int32) * ((s.2.2 3) (Int32.toNatClampNeg ((2 : Int32) * x3)))) + ((s.2.2 3) (Int32.toNatClampNeg (((2 : Int32) * x3) + (1 : Int32)))))) s
    else
    fz_mo_putNibbles_55 (fz_mo_putNibbles_2 n) x1 x2 x3 (Int32.toInt64 (((s.2.2 3) (Int32.toNatClampNeg ((2 : Int32) * x3))) + ((16 : Int32) * ((s.2.2 3) (Int32.toNatClampNeg (((2 : Int32) * x3) + (1 : Int32))))))) s
theorem tz_mo_putNibbles_2 {sc : am_S} {c : am_Z} {t : am_H} {h0 : am_H}   : ∀ (n : Nat) (x1 : Int32) (x2 : Int32) (x3 : Int32) (s : am_Z) (r : am_Z), fz_mo_putNibbles_2  n x1 x2 x3 s = some r → am_go sc 3 (am_ev sc 2) 125 h0 (2, [some (.ref 16), some (.int x1), some (.int x2), some (.int x3), none, none], [], zz_hM c s t, true) ((.inl (none), zz_hM c r t, true) : am_R) := by
  intro n
  induction n with
  | zero => intro x1 x2 x3 s r hF; cases hF
  | succ n ih =>
    intro x1 x2 x3 s r hF
    unfold fz_mo_putNibbles_2 at hF
    refine am_go.blk hcd_mo_putNibbles 3 (g := (bif decide (x1 ≤ x3) then 65 else 7, [some (.ref 16), some (.int x1), some (.int x2), some (.int x3), none, none], [], zz_hM c s t, true)) rfl ?_
    refine am_go.br (fun hP => ?_) (fun hP => ?_)
    · replace hF := (if_pos hP).symm.trans hF
      cases hF
      exact am_go.ret hcd_mo_putNibbles rfl rfl ⟨rfl, rfl, (fun h => by cases h), rfl, rfl⟩
    · replace hF := (if_neg hP).symm.trans hF
      refine am_go.blk hcd_mo_putNibbles 5 (g := (14, [some (.ref 16), some (.int x1), some (.int x2), some (.int x3), none, none], [.int ((2 : Int32) * x3), .ref 20], zz_hM c s t, true)) rfl ?_
      obtain ⟨hi1, hF⟩ := am_ng hF
      refine am_go.iald hcd_mo_putNibbles rfl rfl hi1 ?_
      refine am_go.blk hcd_mo_putNibbles 8 (g := (26, [some (.ref 16), some (.int x1), some (.int x2), some (.int x3), some (.int ((s.2.2 3) (Int32.toNatClampNeg ((2 : Int32) * x3)))), none], [.int (((2 : Int32) * x3) + (1 : Int32)), .ref 20], zz_hM c s t, true)) rfl ?_
      obtain ⟨hi2, hF⟩ := am_ng hF
      refine am_go.iald hcd_mo_putNibbles rfl rfl hi2 ?_
      refine am_go.blk hcd_mo_putNibbles 4 (g := (bif decide (x2 = 0) then 46 else 34, [some (.ref 16), some (.int x1), some (.int x2), some (.int x3), some (.int ((s.2.2 3) (Int32.toNatClampNeg ((2 : Int32) * x3)))), some (.int ((s.2.2 3) (Int32.toNatClampNeg (((2 : Int32) * x3) + (1 : Int32)))))], [.ref 16], zz_hM c s t, true)) rfl ?_
      refine am_go.br (fun hP => ?_) (fun hP => ?_)
      · replace hF := (if_pos hP).symm.trans hF
        refine am_go.blk hcd_mo_putNibbles 6 (g := (55, [some (.ref 16), some (.int x1), some (.int x2), some (.int x3), some (.int ((s.2.2 3) (Int32.toNatClampNeg ((2 : Int32) * x3)))), some (.int ((s.2.2 3) (Int32.toNatClampNeg (((2 : Int32) * x3) + (1 : Int32)))))], [.long (Int32.toInt64 (((16 : Int32) * ((s.2.2 3) (Int32.toNatClampNeg ((2 : Int32) * x3)))) + ((s.2.2 3) (Int32.toNatClampNeg (((2 : Int32) * x3) + (1 : Int32)))))), .ref 16], zz_hM c s t, true)) rfl ?_
        refine am_go.fgl [some (.ref 16), some (.int x1), some (.int x2), some (.int x3), none, none] ⟨rfl, rfl, rfl, rfl, trivial⟩ ?_
        exact tz_mo_putNibbles_55 (hK2 := ih) hF
      · replace hF := (if_neg hP).symm.trans hF
        refine am_go.blk hcd_mo_putNibbles 7 (g := (55, [some (.ref 16), some (.int x1), some (.int x2), some (.int x3), some (.int ((s.2.2 3) (Int32.toNatClampNeg ((2 : Int32) * x3)))), some (.int ((s.2.2 3) (Int32.toNatClampNeg (((2 : Int32) * x3) + (1 : Int32)))))], [.long (Int32.toInt64 (((s.2.2 3) (Int32.toNatClampNeg ((2 : Int32) * x3))) + ((16 : Int32) * ((s.2.2 3) (Int32.toNatClampNeg (((2 : Int32) * x3) + (1 : Int32))))))), .ref 16], zz_hM c s t, true)) rfl ?_
        refine am_go.fgl [some (.ref 16), some (.int x1), some (.int x2), some (.int x3), none, none] ⟨rfl, rfl, rfl, rfl, trivial⟩ ?_
        exact tz_mo_putNibbles_55 (hK2 := ih) hF
def fz_mo_putNibbles (s : am_Z) (x1 : Int32) (x2 : Int32) : Option (am_Z) :=
  fz_mo_putNibbles_2 fz_fu x1 x2 (0 : Int32) s
theorem tz_mo_putNibbles {sc : am_S} {c : am_Z} {t : am_H} {s : am_Z} {x1 : Int32} {x2 : Int32} {r : am_Z} (hF : fz_mo_putNibbles s x1 x2 = some r) : am_ev sc 3 125 [.ref 16, .int x1, .int x2] (zz_hM c s t) ((.inl (none), zz_hM c r t, true) : am_R) := by
  unfold fz_mo_putNibbles at hF
  refine am_ev.of true rfl ?_
  show am_go sc _ _ _ _ (0, [some (.ref 16), some (.int x1), some (.int x2), none, none, none], [], zz_hM c s t, true) _
  refine am_go.blk hcd_mo_putNibbles 2 (g := (2, [some (.ref 16), some (.int x1), some (.int x2), some (.int (0 : Int32)), none, none], [], zz_hM c s t, true)) rfl ?_
  exact tz_mo_putNibbles_2  fz_fu _ _ _ _ _ hF
theorem hcd_mo_writeStepped : am_code 126 = am_c_mo_writeStepped := rfl
def fz_mo_writeStepped_74 (K7 : Int32 → Int32 → am_Z → Option (am_Z)) (x1 : Int32) (x2 : Int32) (y0 : Int32) (y1 : Int32) (s : am_Z) : Option (am_Z) :=
  (fz_mo_putNibbles s y1 y0).bind fun q1 =>
  K7 x1 (x2 + (((2 : Int32) * x1) + (1 : Int32))) q1
theorem tz_mo_writeStepped_74 {sc : am_S} {c : am_Z} {t : am_H} {h0 : am_H} {K7 : Int32 → Int32 → am_Z → Option (am_Z)} (hK7 : ∀ (x1 : Int32) (x2 : Int32) (s : am_Z) (r : am_Z), K7 x1 x2 s = some r → am_go sc 6 (am_ev sc 5) 126 h0 (7, [some (.ref 16), some (.int x1), some (.int x2), none], [], zz_hM c s t, true) ((.inl (none), zz_hM c r t, true) : am_R)) {x1 : Int32} {x2 : Int32} {y0 : Int32} {y1 : Int32} {s : am_Z} {r : am_Z} (hF : fz_mo_writeStepped_74 K7 x1 x2 y0 y1 s = some r) : am_go sc 6 (am_ev sc 5) 126 h0 (74, [some (.ref 16), some (.int x1), some (.int x2), none], [.int y0, .int y1, .ref 16], zz_hM c s t, true) ((.inl (none), zz_hM c r t, true) : am_R) := by
  unfold fz_mo_writeStepped_74 at hF
  obtain ⟨q1, hq1, hF⟩ := am_bd hF
  refine am_go.call hcd_mo_writeStepped rfl rfl rfl rfl (am_le8 rfl) (am_ev.le (by decide) (tz_mo_putNibbles (c := c) (t := t) hq1)) ?_
  refine am_go.blk hcd_mo_writeStepped 9 (g := (7, [some (.ref 16), some (.int x1), some (.int (x2 + (((2 : Int32) * x1) + (1 : Int32)))), none], [], zz_hM c q1 t, true)) rfl ?_
  exact hK7 _ _ _ _ hF
def fz_mo_writeStepped_7  : Nat → Int32 → Int32 → am_Z → Option (am_Z)
  | 0, _, _, _ => none
  | n + 1, x1, x2, s =>
    if (s.1 1) ≤ x2 then
      some s
    else
    if x2 < 0 ∨ 64 ≤ Int32.toNatClampNeg x2 then none else
    (fz_mo_little (zz_i s 17 ((s.2.2 0) (Int32.toNatClampNeg x2))) (Int32.toInt64 ((s.2.2 0) (Int32.toNatClampNeg x2))) (2 : Int32)).bind fun q2 =>
    (fz_mo_little q2 (Int32.toInt64 (q2.1 19)) (1 : Int32)).bind fun q3 =>
    (fz_mo_little q3 (0 : Int64) (1 : Int32)).bind fun q4 =>
    (fz_mo_follow q4 (x2 + (1 : Int32)) ((2 : Int32) * x1) (-1 : Int32)).bind fun q5 =>
    if q5.1 < 0 then
      fz_mo_writeStepped_74 (fz_mo_writeStepped_7 n) x1 x2 (0 : Int32) x1 q5.2
    else
    fz_mo_writeStepped_74 (fz_mo_writeStepped_7 n) x1 x2 (1 : Int32) x1 q5.2
theorem tz_mo_writeStepped_7 {sc : am_S} {c : am_Z} {t : am_H} {h0 : am_H}   : ∀ (n : Nat) (x1 : Int32) (x2 : Int32) (s : am_Z) (r : am_Z), fz_mo_writeStepped_7  n x1 x2 s = some r → am_go sc 6 (am_ev sc 5) 126 h0 (7, [some (.ref 16), some (.int x1), some (.int x2), none], [], zz_hM c s t, true) ((.inl (none), zz_hM c r t, true) : am_R) := by
  intro n
  induction n with
  | zero => intro x1 x2 s r hF; cases hF
  | succ n ih =>
    intro x1 x2 s r hF
    unfold fz_mo_writeStepped_7 at hF
    refine am_go.blk hcd_mo_writeStepped 4 (g := (bif decide ((s.1 1) ≤ x2) then 88 else 15, [some (.ref 16), some (.int x1), some (.int x2), none], [], zz_hM c s t, true)) rfl ?_
    refine am_go.br (fun hP => ?_) (fun hP => ?_)
    · replace hF := (if_pos hP).symm.trans hF
      cases hF
      exact am_go.ret hcd_mo_writeStepped rfl rfl ⟨rfl, rfl, (fun h => by cases h), rfl, rfl⟩
    · replace hF := (if_neg hP).symm.trans hF
      refine am_go.blk hcd_mo_writeStepped 4 (g := (21, [some (.ref 16), some (.int x1), some (.int x2), none], [.int x2, .ref 17, .ref 16], zz_hM c s t, true)) rfl ?_
      obtain ⟨hi1, hF⟩ := am_ng hF
      refine am_go.iald hcd_mo_writeStepped rfl rfl hi1 ?_
      refine am_go.blk hcd_mo_writeStepped 6 (g := (32, [some (.ref 16), some (.int x1), some (.int x2), none], [.int (2 : Int32), .long (Int32.toInt64 ((s.2.2 0) (Int32.toNatClampNeg x2))), .ref 16], zz_hM c (zz_i s 17 ((s.2.2 0) (Int32.toNatClampNeg x2))) t, true)) rfl ?_
      obtain ⟨q2, hq2, hF⟩ := am_bd hF
      refine am_go.call hcd_mo_writeStepped rfl rfl rfl rfl (am_le8 rfl) (am_ev.le (by decide) (tz_mo_little (c := c) (t := t) hq2)) ?_
      refine am_go.blk hcd_mo_writeStepped 5 (g := (42, [some (.ref 16), some (.int x1), some (.int x2), none], [.int (1 : Int32), .long (Int32.toInt64 (q2.1 19)), .ref 16], zz_hM c q2 t, true)) rfl ?_
      obtain ⟨q3, hq3, hF⟩ := am_bd hF
      refine am_go.call hcd_mo_writeStepped rfl rfl rfl rfl (am_le8 rfl) (am_ev.le (by decide) (tz_mo_little (c := c) (t := t) hq3)) ?_
      refine am_go.blk hcd_mo_writeStepped 3 (g := (48, [some (.ref 16), some (.int x1), some (.int x2), none], [.int (1 : Int32), .long (0 : Int64), .ref 16], zz_hM c q3 t, true)) rfl ?_
      obtain ⟨q4, hq4, hF⟩ := am_bd hF
      refine am_go.call hcd_mo_writeStepped rfl rfl rfl rfl (am_le8 rfl) (am_ev.le (by decide) (tz_mo_little (c := c) (t := t) hq4)) ?_
      refine am_go.blk hcd_mo_writeStepped 8 (g := (59, [some (.ref 16), some (.int x1), some (.int x2), none], [.int (-1 : Int32), .int ((2 : Int32) * x1), .int (x2 + (1 : Int32)), .ref 16], zz_hM c q4 t, true)) rfl ?_
      obtain ⟨q5, hq5, hF⟩ := am_bd hF
      refine am_go.call hcd_mo_writeStepped rfl rfl rfl rfl (am_le8 rfl) (am_ev.le (by decide) (tz_mo_follow (c := c) (t := t) hq5)) ?_
      refine am_go.blk hcd_mo_writeStepped 5 (g := (bif decide (q5.1 < 0) then 73 else 69, [some (.ref 16), some (.int x1), some (.int x2), some (.int q5.1)], [.int x1, .ref 16], zz_hM c q5.2 t, true)) rfl ?_
      refine am_go.br (fun hP => ?_) (fun hP => ?_)
      · replace hF := (if_pos hP).symm.trans hF
        refine am_go.blk hcd_mo_writeStepped 1 (g := (74, [some (.ref 16), some (.int x1), some (.int x2), some (.int q5.1)], [.int (0 : Int32), .int x1, .ref 16], zz_hM c q5.2 t, true)) rfl ?_
        refine am_go.fgl [some (.ref 16), some (.int x1), some (.int x2), none] ⟨rfl, rfl, rfl, trivial⟩ ?_
        exact tz_mo_writeStepped_74 (hK7 := ih) hF
      · replace hF := (if_neg hP).symm.trans hF
        refine am_go.blk hcd_mo_writeStepped 2 (g := (74, [some (.ref 16), some (.int x1), some (.int x2), some (.int q5.1)], [.int (1 : Int32), .int x1, .ref 16], zz_hM c q5.2 t, true)) rfl ?_
        refine am_go.fgl [some (.ref 16), some (.int x1), some (.int x2), none] ⟨rfl, rfl, rfl, trivial⟩ ?_
        exact tz_mo_writeStepped_74 (hK7 := ih) hF
def fz_mo_writeStepped (s : am_Z) (x1 : Int32) : Option (am_Z) :=
  fz_mo_writeStepped_7 fz_fu x1 (0 : Int32) (zz_i s 19 (0 : Int32))
theorem tz_mo_writeStepped {sc : am_S} {c : am_Z} {t : am_H} {s : am_Z} {x1 : Int32} {r : am_Z} (hF : fz_mo_writeStepped s x1 = some r) : am_ev sc 6 126 [.ref 16, .int x1] (zz_hM c s t) ((.inl (none), zz_hM c r t, true) : am_R) := by
  unfold fz_mo_writeStepped at hF
  refine am_ev.of true rfl ?_
  show am_go sc _ _ _ _ (0, [some (.ref 16), some (.int x1), none, none], [], zz_hM c s t, true) _
  refine am_go.blk hcd_mo_writeStepped 5 (g := (7, [some (.ref 16), some (.int x1), some (.int (0 : Int32)), none], [], zz_hM c (zz_i s 19 (0 : Int32)) t, true)) rfl ?_
  exact tz_mo_writeStepped_7  fz_fu _ _ _ _ hF
theorem hcd_mo_startPredicted : am_code 127 = am_c_mo_startPredicted := rfl
def fz_mo_startPredicted_36  (x2 : Int32) (y0 : Int32) (s : am_Z) : Option (am_Z) :=
  some (zz_i (zz_i s 17 y0) 20 x2)
theorem tz_mo_startPredicted_36 {sc : am_S} {c : am_Z} {t : am_H} {h0 : am_H}   {x2 : Int32} {y0 : Int32} {s : am_Z} {r : am_Z} (hF : fz_mo_startPredicted_36 x2 y0 s = some r) : am_go sc 1 (am_ev sc 0) 127 h0 (36, [some (.ref 16), none, some (.int x2)], [.int y0, .ref 16], zz_hM c s t, true) ((.inl (none), zz_hM c r t, true) : am_R) := by
  unfold fz_mo_startPredicted_36 at hF
  refine am_go.blk hcd_mo_startPredicted 4 (g := (44, [some (.ref 16), none, some (.int x2)], [], zz_hM c (zz_i (zz_i s 17 y0) 20 x2) t, true)) rfl ?_
  cases hF
  exact am_go.ret hcd_mo_startPredicted rfl rfl ⟨rfl, rfl, (fun h => by cases h), rfl, rfl⟩
def fz_mo_startPredicted (s : am_Z) (x1 : Int32) (x2 : Int32) : Option (am_Z) :=
  if x1 < 0 ∨ 64 ≤ Int32.toNatClampNeg x1 then none else
  if (s.1 1) ≤ (x1 + (1 : Int32)) then
    fz_mo_startPredicted_36 x2 ((s.2.2 0) (Int32.toNatClampNeg x1)) (zz_i s 18 ((s.2.2 0) (Int32.toNatClampNeg x1)))
  else
  if (x1 + (1 : Int32)) < 0 ∨ 64 ≤ Int32.toNatClampNeg (x1 + (1 : Int32)) then none else
  fz_mo_startPredicted_36 x2 ((s.2.2 0) (Int32.toNatClampNeg (x1 + (1 : Int32)))) (zz_i s 18 ((s.2.2 0) (Int32.toNatClampNeg x1)))
theorem tz_mo_startPredicted {sc : am_S} {c : am_Z} {t : am_H} {s : am_Z} {x1 : Int32} {x2 : Int32} {r : am_Z} (hF : fz_mo_startPredicted s x1 x2 = some r) : am_ev sc 1 127 [.ref 16, .int x1, .int x2] (zz_hM c s t) ((.inl (none), zz_hM c r t, true) : am_R) := by
  unfold fz_mo_startPredicted at hF
  refine am_ev.of true rfl ?_
  show am_go sc _ _ _ _ (0, [some (.ref 16), some (.int x1), some (.int x2)], [], zz_hM c s t, true) _
  refine am_go.blk hcd_mo_startPredicted 4 (g := (6, [some (.ref 16), some (.int x1), some (.int x2)], [.int x1, .ref 17, .ref 16], zz_hM c s t, true)) rfl ?_
  obtain ⟨hi1, hF⟩ := am_ng hF
  refine am_go.iald hcd_mo_startPredicted rfl rfl hi1 ?_
  refine am_go.blk hcd_mo_startPredicted 8 (g := (bif decide ((s.1 1) ≤ (x1 + (1 : Int32))) then 32 else 21, [some (.ref 16), some (.int x1), some (.int x2)], [.ref 16], zz_hM c (zz_i s 18 ((s.2.2 0) (Int32.toNatClampNeg x1))) t, true)) rfl ?_
  refine am_go.br (fun hP => ?_) (fun hP => ?_)
  · replace hF := (if_pos hP).symm.trans hF
    refine am_go.blk hcd_mo_startPredicted 2 (g := (36, [some (.ref 16), some (.int x1), some (.int x2)], [.int ((s.2.2 0) (Int32.toNatClampNeg x1)), .ref 16], zz_hM c (zz_i s 18 ((s.2.2 0) (Int32.toNatClampNeg x1))) t, true)) rfl ?_
    refine am_go.fgl [some (.ref 16), none, some (.int x2)] ⟨rfl, rfl, trivial⟩ ?_
    exact tz_mo_startPredicted_36  hF
  · replace hF := (if_neg hP).symm.trans hF
    refine am_go.blk hcd_mo_startPredicted 5 (g := (28, [some (.ref 16), some (.int x1), some (.int x2)], [.int (x1 + (1 : Int32)), .ref 17, .ref 16], zz_hM c (zz_i s 18 ((s.2.2 0) (Int32.toNatClampNeg x1))) t, true)) rfl ?_
    obtain ⟨hi2, hF⟩ := am_ng hF
    refine am_go.iald hcd_mo_startPredicted rfl rfl hi2 ?_
    refine am_go.blk hcd_mo_startPredicted 1 (g := (36, [some (.ref 16), some (.int x1), some (.int x2)], [.int ((s.2.2 0) (Int32.toNatClampNeg (x1 + (1 : Int32)))), .ref 16], zz_hM c (zz_i s 18 ((s.2.2 0) (Int32.toNatClampNeg x1))) t, true)) rfl ?_
    refine am_go.fgl [some (.ref 16), none, some (.int x2)] ⟨rfl, rfl, trivial⟩ ?_
    exact tz_mo_startPredicted_36  hF
theorem hcd_mo_writePredicted : am_code 128 = am_c_mo_writePredicted := rfl
def fz_mo_writePredicted_167 (K5 : Int32 → Int32 → Int32 → am_Z → Option (am_Z)) (x1 : Int32) (x3 : Int32) (y0 : Int32) (y1 : Int32) (s : am_Z) : Option (am_Z) :=
  (fz_mo_putNibbles s y1 y0).bind fun q1 =>
  K5 x1 (q1.1 20) (x3 + (((2 : Int32) * x1) + (2 : Int32))) q1
set_option maxRecDepth 20000 in
theorem tz_mo_writePredicted_167 {sc : am_S} {c : am_Z} {t : am_H} {h0 : am_H} {K5 : Int32 → Int32 → Int32 → am_Z → Option (am_Z)} (hK5 : ∀ (x1 : Int32) (x2 : Int32) (x3 : Int32) (s : am_Z) (r : am_Z), K5 x1 x2 x3 s = some r → am_go sc 6 (am_ev sc 5) 128 h0 (5, [some (.ref 16), some (.int x1), some (.int x2), some (.int x3), none, none, none, none], [], zz_hM c s t, true) ((.inl (none), zz_hM c r t, true) : am_R)) {x1 : Int32} {x3 : Int32} {y0 : Int32} {y1 : Int32} {s : am_Z} {r : am_Z} (hF : fz_mo_writePredicted_167 K5 x1 x3 y0 y1 s = some r) : am_go sc 6 (am_ev sc 5) 128 h0 (167, [some (.ref 16), some (.int x1), none, some (.int x3), none, none, none, none], [.int y0, .int y1, .ref 16], zz_hM c s t, true) ((.inl (none), zz_hM c r t, true) : am_R) := by
  unfold fz_mo_writePredicted_167 at hF
  obtain ⟨q1, hq1, hF⟩ := am_bd hF
  refine am_go.call hcd_mo_writePredicted rfl rfl rfl rfl (am_le8 rfl) (am_ev.le (by decide) (tz_mo_putNibbles (c := c) (t := t) hq1)) ?_
  refine am_go.blk hcd_mo_writePredicted 12 (g := (5, [some (.ref 16), some (.int x1), some (.int (q1.1 20)), some (.int (x3 + (((2 : Int32) * x1) + (2 : Int32)))), none, none, none, none], [], zz_hM c q1 t, true)) rfl ?_
  exact hK5 _ _ _ _ _ hF
def fz_mo_writePredicted_89 (K5 : Int32 → Int32 → Int32 → am_Z → Option (am_Z)) (K22 : Int32 → Int32 → Int32 → Int32 → Int32 → Int32 → am_Z → Option (am_Z)) (x1 : Int32) (x2 : Int32) (x3 : Int32) (x4 : Int32) (x6 : Int32) (y0 : Int32) (s : am_Z) : Option (am_Z) :=
  K22 x1 x2 x3 x4 y0 (x6 + (1 : Int32)) s
set_option maxRecDepth 20000 in
theorem tz_mo_writePredicted_89 {sc : am_S} {c : am_Z} {t : am_H} {h0 : am_H} {K5 : Int32 → Int32 → Int32 → am_Z → Option (am_Z)} {K22 : Int32 → Int32 → Int32 → Int32 → Int32 → Int32 → am_Z → Option (am_Z)} (hK5 : ∀ (x1 : Int32) (x2 : Int32) (x3 : Int32) (s : am_Z) (r : am_Z), K5 x1 x2 x3 s = some r → am_go sc 6 (am_ev sc 5) 128 h0 (5, [some (.ref 16), some (.int x1), some (.int x2), some (.int x3), none, none, none, none], [], zz_hM c s t, true) ((.inl (none), zz_hM c r t, true) : am_R)) (hK22 : ∀ (x1 : Int32) (x2 : Int32) (x3 : Int32) (x4 : Int32) (x5 : Int32) (x6 : Int32) (s : am_Z) (r : am_Z), K22 x1 x2 x3 x4 x5 x6 s = some r → am_go sc 6 (am_ev sc 5) 128 h0 (22, [some (.ref 16), some (.int x1), some (.int x2), some (.int x3), some (.int x4), some (.int x5), some (.int x6), none], [], zz_hM c s t, true) ((.inl (none), zz_hM c r t, true) : am_R)) {x1 : Int32} {x2 : Int32} {x3 : Int32} {x4 : Int32} {x6 : Int32} {y0 : Int32} {s : am_Z} {r : am_Z} (hF : fz_mo_writePredicted_89 K5 K22 x1 x2 x3 x4 x6 y0 s = some r) : am_go sc 6 (am_ev sc 5) 128 h0 (89, [some (.ref 16), some (.int x1), some (.int x2), some (.int x3), some (.int x4), none, some (.int x6), none], [.int y0], zz_hM c s t, true) ((.inl (none), zz_hM c r t, true) : am_R) := by
  unfold fz_mo_writePredicted_89 at hF
  refine am_go.blk hcd_mo_writePredicted 3 (g := (22, [some (.ref 16), some (.int x1), some (.int x2), some (.int x3), some (.int x4), some (.int y0), some (.int (x6 + (1 : Int32))), none], [], zz_hM c s t, true)) rfl ?_
  exact hK22 _ _ _ _ _ _ _ _ hF
def fz_mo_writePredicted_82 (K5 : Int32 → Int32 → Int32 → am_Z → Option (am_Z)) (K22 : Int32 → Int32 → Int32 → Int32 → Int32 → Int32 → am_Z → Option (am_Z)) (x1 : Int32) (x2 : Int32) (x3 : Int32) (x4 : Int32) (x6 : Int32) (x7 : Int32) (s : am_Z) : Option (am_Z) :=
  fz_mo_writePredicted_89 K5 K22 x1 x2 x3 x4 x6 x7 s
set_option maxRecDepth 20000 in
theorem tz_mo_writePredicted_82 {sc : am_S} {c : am_Z} {t : am_H} {h0 : am_H} {K5 : Int32 → Int32 → Int32 → am_Z → Option (am_Z)} {K22 : Int32 → Int32 → Int32 → Int32 → Int32 → Int32 → am_Z → Option (am_Z)} (hK5 : ∀ (x1 : Int32) (x2 : Int32) (x3 : Int32) (s : am_Z) (r : am_Z), K5 x1 x2 x3 s = some r → am_go sc 6 (am_ev sc 5) 128 h0 (5, [some (.ref 16), some (.int x1), some (.int x2), some (.int x3), none, none, none, none], [], zz_hM c s t, true) ((.inl (none), zz_hM c r t, true) : am_R)) (hK22 : ∀ (x1 : Int32) (x2 : Int32) (x3 : Int32) (x4 : Int32) (x5 : Int32) (x6 : Int32) (s : am_Z) (r : am_Z), K22 x1 x2 x3 x4 x5 x6 s = some r → am_go sc 6 (am_ev sc 5) 128 h0 (22, [some (.ref 16), some (.int x1), some (.int x2), some (.int x3), some (.int x4), some (.int x5), some (.int x6), none], [], zz_hM c s t, true) ((.inl (none), zz_hM c r t, true) : am_R)) {x1 : Int32} {x2 : Int32} {x3 : Int32} {x4 : Int32} {x6 : Int32} {x7 : Int32} {s : am_Z} {r : am_Z} (hF : fz_mo_writePredicted_82 K5 K22 x1 x2 x3 x4 x6 x7 s = some r) : am_go sc 6 (am_ev sc 5) 128 h0 (82, [some (.ref 16), some (.int x1), some (.int x2), some (.int x3), some (.int x4), none, some (.int x6), some (.int x7)], [], zz_hM c s t, true) ((.inl (none), zz_hM c r t, true) : am_R) := by
  unfold fz_mo_writePredicted_82 at hF
  refine am_go.blk hcd_mo_writePredicted 2 (g := (89, [some (.ref 16), some (.int x1), some (.int x2), some (.int x3), some (.int x4), none, some (.int x6), some (.int x7)], [.int x7], zz_hM c s t, true)) rfl ?_
  refine am_go.fgl [some (.ref 16), some (.int x1), some (.int x2), some (.int x3), some (.int x4), none, some (.int x6), none] ⟨rfl, rfl, rfl, rfl, rfl, rfl, trivial⟩ ?_
  exact tz_mo_writePredicted_89 (hK5 := hK5) (hK22 := hK22) hF
def fz_mo_writePredicted_68 (K5 : Int32 → Int32 → Int32 → am_Z → Option (am_Z)) (K22 : Int32 → Int32 → Int32 → Int32 → Int32 → Int32 → am_Z → Option (am_Z)) (x1 : Int32) (x2 : Int32) (x3 : Int32) (x5 : Int32) (x6 : Int32) (x7 : Int32) (y0 : Int32) (s : am_Z) : Option (am_Z) :=
  if x6 = 0 then
    fz_mo_writePredicted_82 K5 K22 x1 x2 x3 y0 x6 x7 s
  else
  if x5 ≤ x7 then
    fz_mo_writePredicted_89 K5 K22 x1 x2 x3 y0 x6 x5 s
  else
  fz_mo_writePredicted_82 K5 K22 x1 x2 x3 y0 x6 x7 s
set_option maxRecDepth 20000 in
theorem tz_mo_writePredicted_68 {sc : am_S} {c : am_Z} {t : am_H} {h0 : am_H} {K5 : Int32 → Int32 → Int32 → am_Z → Option (am_Z)} {K22 : Int32 → Int32 → Int32 → Int32 → Int32 → Int32 → am_Z → Option (am_Z)} (hK5 : ∀ (x1 : Int32) (x2 : Int32) (x3 : Int32) (s : am_Z) (r : am_Z), K5 x1 x2 x3 s = some r → am_go sc 6 (am_ev sc 5) 128 h0 (5, [some (.ref 16), some (.int x1), some (.int x2), some (.int x3), none, none, none, none], [], zz_hM c s t, true) ((.inl (none), zz_hM c r t, true) : am_R)) (hK22 : ∀ (x1 : Int32) (x2 : Int32) (x3 : Int32) (x4 : Int32) (x5 : Int32) (x6 : Int32) (s : am_Z) (r : am_Z), K22 x1 x2 x3 x4 x5 x6 s = some r → am_go sc 6 (am_ev sc 5) 128 h0 (22, [some (.ref 16), some (.int x1), some (.int x2), some (.int x3), some (.int x4), some (.int x5), some (.int x6), none], [], zz_hM c s t, true) ((.inl (none), zz_hM c r t, true) : am_R)) {x1 : Int32} {x2 : Int32} {x3 : Int32} {x5 : Int32} {x6 : Int32} {x7 : Int32} {y0 : Int32} {s : am_Z} {r : am_Z} (hF : fz_mo_writePredicted_68 K5 K22 x1 x2 x3 x5 x6 x7 y0 s = some r) : am_go sc 6 (am_ev sc 5) 128 h0 (68, [some (.ref 16), some (.int x1), some (.int x2), some (.int x3), none, some (.int x5), some (.int x6), some (.int x7)], [.int y0], zz_hM c s t, true) ((.inl (none), zz_hM c r t, true) : am_R) := by
  unfold fz_mo_writePredicted_68 at hF
  refine am_go.blk hcd_mo_writePredicted 3 (g := (bif decide (x6 = 0) then 82 else 75, [some (.ref 16), some (.int x1), some (.int x2), some (.int x3), some (.int y0), some (.int x5), some (.int x6), some (.int x7)], [], zz_hM c s t, true)) rfl ?_
  refine am_go.br (fun hP => ?_) (fun hP => ?_)
  · replace hF := (if_pos hP).symm.trans hF
    refine am_go.fgl [some (.ref 16), some (.int x1), some (.int x2), some (.int x3), some (.int y0), none, some (.int x6), some (.int x7)] ⟨rfl, rfl, rfl, rfl, rfl, rfl, rfl, trivial⟩ ?_
    exact tz_mo_writePredicted_82 (hK5 := hK5) (hK22 := hK22) hF
  · replace hF := (if_neg hP).symm.trans hF
    refine am_go.blk hcd_mo_writePredicted 3 (g := (bif decide (x5 ≤ x7) then 87 else 82, [some (.ref 16), some (.int x1), some (.int x2), some (.int x3), some (.int y0), some (.int x5), some (.int x6), some (.int x7)], [], zz_hM c s t, true)) rfl ?_
    refine am_go.br (fun hP => ?_) (fun hP => ?_)
    · replace hF := (if_pos hP).symm.trans hF
      refine am_go.blk hcd_mo_writePredicted 1 (g := (89, [some (.ref 16), some (.int x1), some (.int x2), some (.int x3), some (.int y0), some (.int x5), some (.int x6), some (.int x7)], [.int x5], zz_hM c s t, true)) rfl ?_
      refine am_go.fgl [some (.ref 16), some (.int x1), some (.int x2), some (.int x3), some (.int y0), none, some (.int x6), none] ⟨rfl, rfl, rfl, rfl, rfl, rfl, trivial⟩ ?_
      exact tz_mo_writePredicted_89 (hK5 := hK5) (hK22 := hK22) hF
    · replace hF := (if_neg hP).symm.trans hF
      refine am_go.fgl [some (.ref 16), some (.int x1), some (.int x2), some (.int x3), some (.int y0), none, some (.int x6), some (.int x7)] ⟨rfl, rfl, rfl, rfl, rfl, rfl, rfl, trivial⟩ ?_
      exact tz_mo_writePredicted_82 (hK5 := hK5) (hK22 := hK22) hF
def fz_mo_writePredicted_61 (K5 : Int32 → Int32 → Int32 → am_Z → Option (am_Z)) (K22 : Int32 → Int32 → Int32 → Int32 → Int32 → Int32 → am_Z → Option (am_Z)) (x1 : Int32) (x2 : Int32) (x3 : Int32) (x5 : Int32) (x6 : Int32) (x7 : Int32) (s : am_Z) : Option (am_Z) :=
  fz_mo_writePredicted_68 K5 K22 x1 x2 x3 x5 x6 x7 x6 s
set_option maxRecDepth 20000 in
theorem tz_mo_writePredicted_61 {sc : am_S} {c : am_Z} {t : am_H} {h0 : am_H} {K5 : Int32 → Int32 → Int32 → am_Z → Option (am_Z)} {K22 : Int32 → Int32 → Int32 → Int32 → Int32 → Int32 → am_Z → Option (am_Z)} (hK5 : ∀ (x1 : Int32) (x2 : Int32) (x3 : Int32) (s : am_Z) (r : am_Z), K5 x1 x2 x3 s = some r → am_go sc 6 (am_ev sc 5) 128 h0 (5, [some (.ref 16), some (.int x1), some (.int x2), some (.int x3), none, none, none, none], [], zz_hM c s t, true) ((.inl (none), zz_hM c r t, true) : am_R)) (hK22 : ∀ (x1 : Int32) (x2 : Int32) (x3 : Int32) (x4 : Int32) (x5 : Int32) (x6 : Int32) (s : am_Z) (r : am_Z), K22 x1 x2 x3 x4 x5 x6 s = some r → am_go sc 6 (am_ev sc 5) 128 h0 (22, [some (.ref 16), some (.int x1), some (.int x2), some (.int x3), some (.int x4), some (.int x5), some (.int x6), none], [], zz_hM c s t, true) ((.inl (none), zz_hM c r t, true) : am_R)) {x1 : Int32} {x2 : Int32} {x3 : Int32} {x5 : Int32} {x6 : Int32} {x7 : Int32} {s : am_Z} {r : am_Z} (hF : fz_mo_writePredicted_61 K5 K22 x1 x2 x3 x5 x6 x7 s = some r) : am_go sc 6 (am_ev sc 5) 128 h0 (61, [some (.ref 16), some (.int x1), some (.int x2), some (.int x3), none, some (.int x5), some (.int x6), some (.int x7)], [], zz_hM c s t, true) ((.inl (none), zz_hM c r t, true) : am_R) := by
  unfold fz_mo_writePredicted_61 at hF
  refine am_go.blk hcd_mo_writePredicted 2 (g := (68, [some (.ref 16), some (.int x1), some (.int x2), some (.int x3), none, some (.int x5), some (.int x6), some (.int x7)], [.int x6], zz_hM c s t, true)) rfl ?_
  exact tz_mo_writePredicted_68 (hK5 := hK5) (hK22 := hK22) hF
def fz_mo_writePredicted_22 (K5 : Int32 → Int32 → Int32 → am_Z → Option (am_Z)) : Nat → Int32 → Int32 → Int32 → Int32 → Int32 → Int32 → am_Z → Option (am_Z)
  | 0, _, _, _, _, _, _, _ => none
  | n + 1, x1, x2, x3, x4, x5, x6, s =>
    if (7 : Int32) ≤ x6 then
      (fz_mo_startPredicted s x3 x2).bind fun q1 =>
      (fz_mo_little q1 (Int32.toInt64 x4) (1 : Int32)).bind fun q2 =>
      (fz_mo_little q2 (Int32.toInt64 (q2.1 20)) (2 : Int32)).bind fun q3 =>
      (fz_mo_little q3 (Int32.toInt64 (q3.1 17)) (2 : Int32)).bind fun q4 =>
      (fz_mo_little q4 (Int32.toInt64 (q4.1 18)) (2 : Int32)).bind fun q5 =>
      (fz_mo_follow q5 (x3 + (2 : Int32)) ((2 : Int32) * x1) x4).bind fun q6 =>
      if 0 ≤ q6.1 then
        fz_mo_writePredicted_167 K5 x1 x3 (0 : Int32) x1 q6.2
      else
      fz_mo_writePredicted_167 K5 x1 x3 (1 : Int32) x1 q6.2
    else
    (fz_mo_startPredicted s x3 x2).bind fun q7 =>
    (fz_mo_follow q7 (x3 + (2 : Int32)) ((2 : Int32) * x1) x6).bind fun q8 =>
    if x6 = 0 then
      fz_mo_writePredicted_61 K5 (fz_mo_writePredicted_22 K5 n) x1 x2 x3 x5 x6 q8.1 q8.2
    else
    if x5 ≤ q8.1 then
      fz_mo_writePredicted_68 K5 (fz_mo_writePredicted_22 K5 n) x1 x2 x3 x5 x6 q8.1 x4 q8.2
    else
    fz_mo_writePredicted_61 K5 (fz_mo_writePredicted_22 K5 n) x1 x2 x3 x5 x6 q8.1 q8.2
set_option maxRecDepth 20000 in
theorem tz_mo_writePredicted_22 {sc : am_S} {c : am_Z} {t : am_H} {h0 : am_H} {K5 : Int32 → Int32 → Int32 → am_Z → Option (am_Z)} (hK5 : ∀ (x1 : Int32) (x2 : Int32) (x3 : Int32) (s : am_Z) (r : am_Z), K5 x1 x2 x3 s = some r → am_go sc 6 (am_ev sc 5) 128 h0 (5, [some (.ref 16), some (.int x1), some (.int x2), some (.int x3), none, none, none, none], [], zz_hM c s t, true) ((.inl (none), zz_hM c r t, true) : am_R)) : ∀ (n : Nat) (x1 : Int32) (x2 : Int32) (x3 : Int32) (x4 : Int32) (x5 : Int32) (x6 : Int32) (s : am_Z) (r : am_Z), fz_mo_writePredicted_22 K5 n x1 x2 x3 x4 x5 x6 s = some r → am_go sc 6 (am_ev sc 5) 128 h0 (22, [some (.ref 16), some (.int x1), some (.int x2), some (.int x3), some (.int x4), some (.int x5), some (.int x6), none], [], zz_hM c s t, true) ((.inl (none), zz_hM c r t, true) : am_R) := by
  intro n
  induction n with
  | zero => intro x1 x2 x3 x4 x5 x6 s r hF; cases hF
  | succ n ih =>
    intro x1 x2 x3 x4 x5 x6 s r hF
    unfold fz_mo_writePredicted_22 at hF
    refine am_go.blk hcd_mo_writePredicted 3 (g := (bif decide ((7 : Int32) ≤ x6) then 97 else 29, [some (.ref 16), some (.int x1), some (.int x2), some (.int x3), some (.int x4), some (.int x5), some (.int x6), none], [], zz_hM c s t, true)) rfl ?_
    refine am_go.br (fun hP => ?_) (fun hP => ?_)
    · replace hF := (if_pos hP).symm.trans hF
      refine am_go.blk hcd_mo_writePredicted 3 (g := (100, [some (.ref 16), some (.int x1), some (.int x2), some (.int x3), some (.int x4), some (.int x5), some (.int x6), none], [.int x2, .int x3, .ref 16], zz_hM c s t, true)) rfl ?_
      obtain ⟨q1, hq1, hF⟩ := am_bd hF
      refine am_go.call hcd_mo_writePredicted rfl rfl rfl rfl (am_le8 rfl) (am_ev.le (by decide) (tz_mo_startPredicted (c := c) (t := t) hq1)) ?_
      refine am_go.blk hcd_mo_writePredicted 4 (g := (108, [some (.ref 16), some (.int x1), some (.int x2), some (.int x3), some (.int x4), some (.int x5), some (.int x6), none], [.int (1 : Int32), .long (Int32.toInt64 x4), .ref 16], zz_hM c q1 t, true)) rfl ?_
      obtain ⟨q2, hq2, hF⟩ := am_bd hF
      refine am_go.call hcd_mo_writePredicted rfl rfl rfl rfl (am_le8 rfl) (am_ev.le (by decide) (tz_mo_little (c := c) (t := t) hq2)) ?_
      refine am_go.blk hcd_mo_writePredicted 5 (g := (118, [some (.ref 16), some (.int x1), some (.int x2), some (.int x3), some (.int x4), some (.int x5), some (.int x6), none], [.int (2 : Int32), .long (Int32.toInt64 (q2.1 20)), .ref 16], zz_hM c q2 t, true)) rfl ?_
      obtain ⟨q3, hq3, hF⟩ := am_bd hF
      refine am_go.call hcd_mo_writePredicted rfl rfl rfl rfl (am_le8 rfl) (am_ev.le (by decide) (tz_mo_little (c := c) (t := t) hq3)) ?_
      refine am_go.blk hcd_mo_writePredicted 5 (g := (128, [some (.ref 16), some (.int x1), some (.int x2), some (.int x3), some (.int x4), some (.int x5), some (.int x6), none], [.int (2 : Int32), .long (Int32.toInt64 (q3.1 17)), .ref 16], zz_hM c q3 t, true)) rfl ?_
      obtain ⟨q4, hq4, hF⟩ := am_bd hF
      refine am_go.call hcd_mo_writePredicted rfl rfl rfl rfl (am_le8 rfl) (am_ev.le (by decide) (tz_mo_little (c := c) (t := t) hq4)) ?_
      refine am_go.blk hcd_mo_writePredicted 5 (g := (138, [some (.ref 16), some (.int x1), some (.int x2), some (.int x3), some (.int x4), some (.int x5), some (.int x6), none], [.int (2 : Int32), .long (Int32.toInt64 (q4.1 18)), .ref 16], zz_hM c q4 t, true)) rfl ?_
      obtain ⟨q5, hq5, hF⟩ := am_bd hF
      refine am_go.call hcd_mo_writePredicted rfl rfl rfl rfl (am_le8 rfl) (am_ev.le (by decide) (tz_mo_little (c := c) (t := t) hq5)) ?_
      refine am_go.blk hcd_mo_writePredicted 8 (g := (150, [some (.ref 16), some (.int x1), some (.int x2), some (.int x3), some (.int x4), some (.int x5), some (.int x6), none], [.int x4, .int ((2 : Int32) * x1), .int (x3 + (2 : Int32)), .ref 16], zz_hM c q5 t, true)) rfl ?_
      obtain ⟨q6, hq6, hF⟩ := am_bd hF
      refine am_go.call hcd_mo_writePredicted rfl rfl rfl rfl (am_le8 rfl) (am_ev.le (by decide) (tz_mo_follow (c := c) (t := t) hq6)) ?_
      refine am_go.blk hcd_mo_writePredicted 5 (g := (bif decide (0 ≤ q6.1) then 166 else 162, [some (.ref 16), some (.int x1), some (.int x2), some (.int x3), some (.int x4), some (.int x5), some (.int q6.1), none], [.int x1, .ref 16], zz_hM c q6.2 t, true)) rfl ?_
      refine am_go.br (fun hP => ?_) (fun hP => ?_)
      · replace hF := (if_pos hP).symm.trans hF
        refine am_go.blk hcd_mo_writePredicted 1 (g := (167, [some (.ref 16), some (.int x1), some (.int x2), some (.int x3), some (.int x4), some (.int x5), some (.int q6.1), none], [.int (0 : Int32), .int x1, .ref 16], zz_hM c q6.2 t, true)) rfl ?_
        refine am_go.fgl [some (.ref 16), some (.int x1), none, some (.int x3), none, none, none, none] ⟨rfl, rfl, rfl, trivial⟩ ?_
        exact tz_mo_writePredicted_167 (hK5 := hK5) hF
      · replace hF := (if_neg hP).symm.trans hF
        refine am_go.blk hcd_mo_writePredicted 2 (g := (167, [some (.ref 16), some (.int x1), some (.int x2), some (.int x3), some (.int x4), some (.int x5), some (.int q6.1), none], [.int (1 : Int32), .int x1, .ref 16], zz_hM c q6.2 t, true)) rfl ?_
        refine am_go.fgl [some (.ref 16), some (.int x1), none, some (.int x3), none, none, none, none] ⟨rfl, rfl, rfl, trivial⟩ ?_
        exact tz_mo_writePredicted_167 (hK5 := hK5) hF
    · replace hF := (if_neg hP).symm.trans hF
      refine am_go.blk hcd_mo_writePredicted 3 (g := (32, [some (.ref 16), some (.int x1), some (.int x2), some (.int x3), some (.int x4), some (.int x5), some (.int x6), none], [.int x2, .int x3, .ref 16], zz_hM c s t, true)) rfl ?_
      obtain ⟨q7, hq7, hF⟩ := am_bd hF
      refine am_go.call hcd_mo_writePredicted rfl rfl rfl rfl (am_le8 rfl) (am_ev.le (by decide) (tz_mo_startPredicted (c := c) (t := t) hq7)) ?_
      refine am_go.blk hcd_mo_writePredicted 8 (g := (44, [some (.ref 16), some (.int x1), some (.int x2), some (.int x3), some (.int x4), some (.int x5), some (.int x6), none], [.int x6, .int ((2 : Int32) * x1), .int (x3 + (2 : Int32)), .ref 16], zz_hM c q7 t, true)) rfl ?_
      obtain ⟨q8, hq8, hF⟩ := am_bd hF
      refine am_go.call hcd_mo_writePredicted rfl rfl rfl rfl (am_le8 rfl) (am_ev.le (by decide) (tz_mo_follow (c := c) (t := t) hq8)) ?_
      refine am_go.blk hcd_mo_writePredicted 3 (g := (bif decide (x6 = 0) then 61 else 54, [some (.ref 16), some (.int x1), some (.int x2), some (.int x3), some (.int x4), some (.int x5), some (.int x6), some (.int q8.1)], [], zz_hM c q8.2 t, true)) rfl ?_
      refine am_go.br (fun hP => ?_) (fun hP => ?_)
      · replace hF := (if_pos hP).symm.trans hF
        refine am_go.fgl [some (.ref 16), some (.int x1), some (.int x2), some (.int x3), none, some (.int x5), some (.int x6), some (.int q8.1)] ⟨rfl, rfl, rfl, rfl, rfl, rfl, rfl, trivial⟩ ?_
        exact tz_mo_writePredicted_61 (hK5 := hK5) (hK22 := ih) hF
      · replace hF := (if_neg hP).symm.trans hF
        refine am_go.blk hcd_mo_writePredicted 3 (g := (bif decide (x5 ≤ q8.1) then 66 else 61, [some (.ref 16), some (.int x1), some (.int x2), some (.int x3), some (.int x4), some (.int x5), some (.int x6), some (.int q8.1)], [], zz_hM c q8.2 t, true)) rfl ?_
        refine am_go.br (fun hP => ?_) (fun hP => ?_)
        · replace hF := (if_pos hP).symm.trans hF
          refine am_go.blk hcd_mo_writePredicted 1 (g := (68, [some (.ref 16), some (.int x1), some (.int x2), some (.int x3), some (.int x4), some (.int x5), some (.int x6), some (.int q8.1)], [.int x4], zz_hM c q8.2 t, true)) rfl ?_
          refine am_go.fgl [some (.ref 16), some (.int x1), some (.int x2), some (.int x3), none, some (.int x5), some (.int x6), some (.int q8.1)] ⟨rfl, rfl, rfl, rfl, rfl, rfl, rfl, trivial⟩ ?_
          exact tz_mo_writePredicted_68 (hK5 := hK5) (hK22 := ih) hF
        · replace hF := (if_neg hP).symm.trans hF
          refine am_go.fgl [some (.ref 16), some (.int x1), some (.int x2), some (.int x3), none, some (.int x5), some (.int x6), some (.int q8.1)] ⟨rfl, rfl, rfl, rfl, rfl, rfl, rfl, trivial⟩ ?_
          exact tz_mo_writePredicted_61 (hK5 := hK5) (hK22 := ih) hF
def fz_mo_writePredicted_5  : Nat → Int32 → Int32 → Int32 → am_Z → Option (am_Z)
  | 0, _, _, _, _ => none
  | n + 1, x1, x2, x3, s =>
    if (s.1 1) ≤ x3 then
      some s
    else
    fz_mo_writePredicted_22 (fz_mo_writePredicted_5 n) fz_fu x1 x2 x3 (0 : Int32) (0 : Int32) (0 : Int32) s
set_option maxRecDepth 20000 in
theorem tz_mo_writePredicted_5 {sc : am_S} {c : am_Z} {t : am_H} {h0 : am_H}   : ∀ (n : Nat) (x1 : Int32) (x2 : Int32) (x3 : Int32) (s : am_Z) (r : am_Z), fz_mo_writePredicted_5  n x1 x2 x3 s = some r → am_go sc 6 (am_ev sc 5) 128 h0 (5, [some (.ref 16), some (.int x1), some (.int x2), some (.int x3), none, none, none, none], [], zz_hM c s t, true) ((.inl (none), zz_hM c r t, true) : am_R) := by
  intro n
  induction n with
  | zero => intro x1 x2 x3 s r hF; cases hF
  | succ n ih =>
    intro x1 x2 x3 s r hF
    unfold fz_mo_writePredicted_5 at hF
    refine am_go.blk hcd_mo_writePredicted 4 (g := (bif decide ((s.1 1) ≤ x3) then 186 else 13, [some (.ref 16), some (.int x1), some (.int x2), some (.int x3), none, none, none, none], [], zz_hM c s t, true)) rfl ?_
    refine am_go.br (fun hP => ?_) (fun hP => ?_)
    · replace hF := (if_pos hP).symm.trans hF
      cases hF
      exact am_go.ret hcd_mo_writePredicted rfl rfl ⟨rfl, rfl, (fun h => by cases h), rfl, rfl⟩
    · replace hF := (if_neg hP).symm.trans hF
      refine am_go.blk hcd_mo_writePredicted 6 (g := (22, [some (.ref 16), some (.int x1), some (.int x2), some (.int x3), some (.int (0 : Int32)), some (.int (0 : Int32)), some (.int (0 : Int32)), none], [], zz_hM c s t, true)) rfl ?_
      exact tz_mo_writePredicted_22 (hK5 := ih) fz_fu _ _ _ _ _ _ _ _ hF
def fz_mo_writePredicted (s : am_Z) (x1 : Int32) : Option (am_Z) :=
  fz_mo_writePredicted_5 fz_fu x1 (16 : Int32) (0 : Int32) s
set_option maxRecDepth 20000 in
theorem tz_mo_writePredicted {sc : am_S} {c : am_Z} {t : am_H} {s : am_Z} {x1 : Int32} {r : am_Z} (hF : fz_mo_writePredicted s x1 = some r) : am_ev sc 6 128 [.ref 16, .int x1] (zz_hM c s t) ((.inl (none), zz_hM c r t, true) : am_R) := by
  unfold fz_mo_writePredicted at hF
  refine am_ev.of true rfl ?_
  show am_go sc _ _ _ _ (0, [some (.ref 16), some (.int x1), none, none, none, none, none, none], [], zz_hM c s t, true) _
  refine am_go.blk hcd_mo_writePredicted 4 (g := (5, [some (.ref 16), some (.int x1), some (.int (16 : Int32)), some (.int (0 : Int32)), none, none, none, none], [], zz_hM c s t, true)) rfl ?_
  exact tz_mo_writePredicted_5  fz_fu _ _ _ _ _ hF
theorem hcd_mo_writeWave : am_code 130 = am_c_mo_writeWave := rfl
def fz_mo_writeWave_194  (x3 : Int32) (s : am_Z) : Option (am_Z) :=
  (fz_mo_little s (0 : Int64) (x3 - x3 / (2 : Int32) * (2 : Int32))).bind fun q1 =>
  some q1
set_option maxRecDepth 20000 in
theorem tz_mo_writeWave_194 {sc : am_S} {c : am_Z} {t : am_H} {h0 : am_H}   {x3 : Int32} {s : am_Z} {r : am_Z} (hF : fz_mo_writeWave_194 x3 s = some r) : am_go sc 7 (am_ev sc 6) 130 h0 (194, [some (.ref 16), none, none, some (.int x3), none], [], zz_hM c s t, true) ((.inl (none), zz_hM c r t, true) : am_R) := by
  unfold fz_mo_writeWave_194 at hF
  refine am_go.blk hcd_mo_writeWave 4 (g := (198, [some (.ref 16), none, none, some (.int x3), none], [.int (2 : Int32), .int x3, .long (0 : Int64), .ref 16], zz_hM c s t, true)) rfl ?_
  refine am_go.irm hcd_mo_writeWave rfl (by decide) ?_
  obtain ⟨q1, hq1, hF⟩ := am_bd hF
  refine am_go.call hcd_mo_writeWave rfl rfl rfl rfl (am_le8 rfl) (am_ev.le (by decide) (tz_mo_little (c := c) (t := t) hq1)) ?_
  cases hF
  exact am_go.ret hcd_mo_writeWave rfl rfl ⟨rfl, rfl, (fun h => by cases h), rfl, rfl⟩
def fz_mo_writeWave_182 (K142 : Int32 → Int32 → Int32 → am_Z → Option (am_Z)) (x1 : Int32) (x3 : Int32) (x4 : Int32) (y0 : Int64) (s : am_Z) : Option (am_Z) :=
  (fz_mo_little s y0 (x1 + (1 : Int32))).bind fun q1 =>
  K142 x1 x3 (x4 + (1 : Int32)) q1
set_option maxRecDepth 20000 in
theorem tz_mo_writeWave_182 {sc : am_S} {c : am_Z} {t : am_H} {h0 : am_H} {K142 : Int32 → Int32 → Int32 → am_Z → Option (am_Z)} (hK142 : ∀ (x1 : Int32) (x3 : Int32) (x4 : Int32) (s : am_Z) (r : am_Z), K142 x1 x3 x4 s = some r → am_go sc 7 (am_ev sc 6) 130 h0 (142, [some (.ref 16), some (.int x1), none, some (.int x3), some (.int x4)], [], zz_hM c s t, true) ((.inl (none), zz_hM c r t, true) : am_R)) {x1 : Int32} {x3 : Int32} {x4 : Int32} {y0 : Int64} {s : am_Z} {r : am_Z} (hF : fz_mo_writeWave_182 K142 x1 x3 x4 y0 s = some r) : am_go sc 7 (am_ev sc 6) 130 h0 (182, [some (.ref 16), some (.int x1), none, some (.int x3), some (.int x4)], [.long y0, .ref 16], zz_hM c s t, true) ((.inl (none), zz_hM c r t, true) : am_R) := by
  unfold fz_mo_writeWave_182 at hF
  refine am_go.blk hcd_mo_writeWave 3 (g := (185, [some (.ref 16), some (.int x1), none, some (.int x3), some (.int x4)], [.int (x1 + (1 : Int32)), .long y0, .ref 16], zz_hM c s t, true)) rfl ?_
  obtain ⟨q1, hq1, hF⟩ := am_bd hF
  refine am_go.call hcd_mo_writeWave rfl rfl rfl rfl (am_le8 rfl) (am_ev.le (by decide) (tz_mo_little (c := c) (t := t) hq1)) ?_
  refine am_go.blk hcd_mo_writeWave 2 (g := (142, [some (.ref 16), some (.int x1), none, some (.int x3), some (.int (x4 + (1 : Int32)))], [], zz_hM c q1 t, true)) rfl ?_
  exact hK142 _ _ _ _ _ hF
def fz_mo_writeWave_142  : Nat → Int32 → Int32 → Int32 → am_Z → Option (am_Z)
  | 0, _, _, _, _ => none
  | n + 1, x1, x3, x4, s =>
    if (s.1 1) ≤ x4 then
      fz_mo_writeWave_194 x3 s
    else
    if ¬ x1 = 0 then
      if x4 < 0 ∨ 64 ≤ Int32.toNatClampNeg x4 then none else
      fz_mo_writeWave_182 (fz_mo_writeWave_142 n) x1 x3 x4 (Int32.toInt64 ((s.2.2 0) (Int32.toNatClampNeg x4))) s
    else
    if x4 < 0 ∨ 64 ≤ Int32.toNatClampNeg x4 then none else
    fz_mo_writeWave_182 (fz_mo_writeWave_142 n) x1 x3 x4 (Int32.toInt64 ((((s.2.2 0) (Int32.toNatClampNeg x4)) >>> ((8 : Int32) &&& 31)) + (128 : Int32))) s
set_option maxRecDepth 20000 in
theorem tz_mo_writeWave_142 {sc : am_S} {c : am_Z} {t : am_H} {h0 : am_H}   : ∀ (n : Nat) (x1 : Int32) (x3 : Int32) (x4 : Int32) (s : am_Z) (r : am_Z), fz_mo_writeWave_142  n x1 x3 x4 s = some r → am_go sc 7 (am_ev sc 6) 130 h0 (142, [some (.ref 16), some (.int x1), none, some (.int x3), some (.int x4)], [], zz_hM c s t, true) ((.inl (none), zz_hM c r t, true) : am_R) := by
  intro n
  induction n with
  | zero => intro x1 x3 x4 s r hF; cases hF
  | succ n ih =>
    intro x1 x3 x4 s r hF
    unfold fz_mo_writeWave_142 at hF
    refine am_go.blk hcd_mo_writeWave 4 (g := (bif decide ((s.1 1) ≤ x4) then 194 else 151, [some (.ref 16), some (.int x1), none, some (.int x3), some (.int x4)], [], zz_hM c s t, true)) rfl ?_
    refine am_go.br (fun hP => ?_) (fun hP => ?_)
    · replace hF := (if_pos hP).symm.trans hF
      refine am_go.fgl [some (.ref 16), none, none, some (.int x3), none] ⟨rfl, rfl, trivial⟩ ?_
      exact tz_mo_writeWave_194  hF
    · replace hF := (if_neg hP).symm.trans hF
      refine am_go.blk hcd_mo_writeWave 3 (g := (bif decide (¬ x1 = 0) then 174 else 156, [some (.ref 16), some (.int x1), none, some (.int x3), some (.int x4)], [.ref 16], zz_hM c s t, true)) rfl ?_
      refine am_go.br (fun hP => ?_) (fun hP => ?_)
      · replace hF := (if_pos hP).symm.trans hF
        refine am_go.blk hcd_mo_writeWave 3 (g := (180, [some (.ref 16), some (.int x1), none, some (.int x3), some (.int x4)], [.int x4, .ref 17, .ref 16], zz_hM c s t, true)) rfl ?_
        obtain ⟨hi1, hF⟩ := am_ng hF
        refine am_go.iald hcd_mo_writeWave rfl rfl hi1 ?_
        refine am_go.blk hcd_mo_writeWave 1 (g := (182, [some (.ref 16), some (.int x1), none, some (.int x3), some (.int x4)], [.long (Int32.toInt64 ((s.2.2 0) (Int32.toNatClampNeg x4))), .ref 16], zz_hM c s t, true)) rfl ?_
        exact tz_mo_writeWave_182 (hK142 := ih) hF
      · replace hF := (if_neg hP).symm.trans hF
        refine am_go.blk hcd_mo_writeWave 3 (g := (162, [some (.ref 16), some (.int x1), none, some (.int x3), some (.int x4)], [.int x4, .ref 17, .ref 16], zz_hM c s t, true)) rfl ?_
        obtain ⟨hi2, hF⟩ := am_ng hF
        refine am_go.iald hcd_mo_writeWave rfl rfl hi2 ?_
        refine am_go.blk hcd_mo_writeWave 6 (g := (182, [some (.ref 16), some (.int x1), none, some (.int x3), some (.int x4)], [.long (Int32.toInt64 ((((s.2.2 0) (Int32.toNatClampNeg x4)) >>> ((8 : Int32) &&& 31)) + (128 : Int32))), .ref 16], zz_hM c s t, true)) rfl ?_
        exact tz_mo_writeWave_182 (hK142 := ih) hF
def fz_mo_writeWave_105  (x1 : Int32) (x2 : Int32) (y0 : Int32) (s : am_Z) : Option (am_Z) :=
  (fz_mo_little s (Int32.toInt64 y0) (4 : Int32)).bind fun q1 =>
  if ¬ x1 = (2 : Int32) then
    if ¬ x1 = (3 : Int32) then
      fz_mo_writeWave_142 fz_fu x1 y0 (0 : Int32) q1
    else
    (fz_mo_writePredicted q1 x2).bind fun q2 =>
    fz_mo_writeWave_194 y0 q2
  else
  (fz_mo_writeStepped q1 x2).bind fun q3 =>
  fz_mo_writeWave_194 y0 q3
set_option maxRecDepth 20000 in
theorem tz_mo_writeWave_105 {sc : am_S} {c : am_Z} {t : am_H} {h0 : am_H}   {x1 : Int32} {x2 : Int32} {y0 : Int32} {s : am_Z} {r : am_Z} (hF : fz_mo_writeWave_105 x1 x2 y0 s = some r) : am_go sc 7 (am_ev sc 6) 130 h0 (105, [some (.ref 16), some (.int x1), some (.int x2), none, none], [.int y0], zz_hM c s t, true) ((.inl (none), zz_hM c r t, true) : am_R) := by
  unfold fz_mo_writeWave_105 at hF
  refine am_go.blk hcd_mo_writeWave 5 (g := (110, [some (.ref 16), some (.int x1), some (.int x2), some (.int y0), none], [.int (4 : Int32), .long (Int32.toInt64 y0), .ref 16], zz_hM c s t, true)) rfl ?_
  obtain ⟨q1, hq1, hF⟩ := am_bd hF
  refine am_go.call hcd_mo_writeWave rfl rfl rfl rfl (am_le8 rfl) (am_ev.le (by decide) (tz_mo_little (c := c) (t := t) hq1)) ?_
  refine am_go.blk hcd_mo_writeWave 3 (g := (bif decide (¬ x1 = (2 : Int32)) then 126 else 118, [some (.ref 16), some (.int x1), some (.int x2), some (.int y0), none], [], zz_hM c q1 t, true)) rfl ?_
  refine am_go.br (fun hP => ?_) (fun hP => ?_)
  · replace hF := (if_pos hP).symm.trans hF
    refine am_go.blk hcd_mo_writeWave 3 (g := (bif decide (¬ x1 = (3 : Int32)) then 139 else 131, [some (.ref 16), some (.int x1), some (.int x2), some (.int y0), none], [], zz_hM c q1 t, true)) rfl ?_
    refine am_go.br (fun hP => ?_) (fun hP => ?_)
    · replace hF := (if_pos hP).symm.trans hF
      refine am_go.blk hcd_mo_writeWave 2 (g := (142, [some (.ref 16), some (.int x1), some (.int x2), some (.int y0), some (.int (0 : Int32))], [], zz_hM c q1 t, true)) rfl ?_
      refine am_go.fgl [some (.ref 16), some (.int x1), none, some (.int y0), some (.int (0 : Int32))] ⟨rfl, rfl, rfl, rfl, trivial⟩ ?_
      exact tz_mo_writeWave_142  fz_fu _ _ _ _ _ hF
    · replace hF := (if_neg hP).symm.trans hF
      refine am_go.blk hcd_mo_writeWave 2 (g := (133, [some (.ref 16), some (.int x1), some (.int x2), some (.int y0), none], [.int x2, .ref 16], zz_hM c q1 t, true)) rfl ?_
      obtain ⟨q2, hq2, hF⟩ := am_bd hF
      refine am_go.call hcd_mo_writeWave rfl rfl rfl rfl (am_le8 rfl) (am_ev.le (by decide) (tz_mo_writePredicted (c := c) (t := t) hq2)) ?_
      refine am_go.blk hcd_mo_writeWave 1 (g := (194, [some (.ref 16), some (.int x1), some (.int x2), some (.int y0), none], [], zz_hM c q2 t, true)) rfl ?_
      refine am_go.fgl [some (.ref 16), none, none, some (.int y0), none] ⟨rfl, rfl, trivial⟩ ?_
      exact tz_mo_writeWave_194  hF
  · replace hF := (if_neg hP).symm.trans hF
    refine am_go.blk hcd_mo_writeWave 2 (g := (120, [some (.ref 16), some (.int x1), some (.int x2), some (.int y0), none], [.int x2, .ref 16], zz_hM c q1 t, true)) rfl ?_
    obtain ⟨q3, hq3, hF⟩ := am_bd hF
    refine am_go.call hcd_mo_writeWave rfl rfl rfl rfl (am_le8 rfl) (am_ev.le (by decide) (tz_mo_writeStepped (c := c) (t := t) hq3)) ?_
    refine am_go.blk hcd_mo_writeWave 1 (g := (194, [some (.ref 16), some (.int x1), some (.int x2), some (.int y0), none], [], zz_hM c q3 t, true)) rfl ?_
    refine am_go.fgl [some (.ref 16), none, none, some (.int y0), none] ⟨rfl, rfl, trivial⟩ ?_
    exact tz_mo_writeWave_194  hF
def fz_mo_writeWave (s : am_Z) (x1 : Int32) (x2 : Int32) : Option (am_Z) :=
  (fz_mo_put s (1380533830 : Int64) (4 : Int32) (1 : Int32)).bind fun q1 =>
  (fz_mo_little q1 (0 : Int64) (4 : Int32)).bind fun q2 =>
  (fz_mo_put q2 (1463899717 : Int64) (4 : Int32) (1 : Int32)).bind fun q3 =>
  (fz_mo_writeFormat q3 x1 x2).bind fun q4 =>
  (fz_mo_put q4 (1684108385 : Int64) (4 : Int32) (1 : Int32)).bind fun q5 =>
  if ¬ x1 = 0 then
    if ¬ x1 = (1 : Int32) then
      if ¬ x1 = (2 : Int32) then
        (fz_mo_blocks (q5.1 1) (((2 : Int32) * x2) + (2 : Int32))).bind fun q6 =>
        fz_mo_writeWave_105 x1 x2 ((x2 + (7 : Int32)) * q6) q5
      else
      (fz_mo_blocks (q5.1 1) (((2 : Int32) * x2) + (1 : Int32))).bind fun q7 =>
      fz_mo_writeWave_105 x1 x2 ((x2 + (4 : Int32)) * q7) q5
    else
    fz_mo_writeWave_105 x1 x2 ((2 : Int32) * (q5.1 1)) q5
  else
  fz_mo_writeWave_105 x1 x2 (q5.1 1) q5
set_option maxRecDepth 20000 in
theorem tz_mo_writeWave {sc : am_S} {c : am_Z} {t : am_H} {s : am_Z} {x1 : Int32} {x2 : Int32} {r : am_Z} (hF : fz_mo_writeWave s x1 x2 = some r) : am_ev sc 7 130 [.ref 16, .int x1, .int x2] (zz_hM c s t) ((.inl (none), zz_hM c r t, true) : am_R) := by
  unfold fz_mo_writeWave at hF
  refine am_ev.of true rfl ?_
  show am_go sc _ _ _ _ (0, [some (.ref 16), some (.int x1), some (.int x2), none, none], [], zz_hM c s t, true) _
  refine am_go.blk hcd_mo_writeWave 4 (g := (6, [some (.ref 16), some (.int x1), some (.int x2), none, none], [.int (1 : Int32), .int (4 : Int32), .long (1380533830 : Int64), .ref 16], zz_hM c s t, true)) rfl ?_
  obtain ⟨q1, hq1, hF⟩ := am_bd hF
  refine am_go.call hcd_mo_writeWave rfl rfl rfl rfl (am_le8 rfl) (am_ev.le (by decide) (tz_mo_put (c := c) (t := t) hq1)) ?_
  refine am_go.blk hcd_mo_writeWave 3 (g := (12, [some (.ref 16), some (.int x1), some (.int x2), none, none], [.int (4 : Int32), .long (0 : Int64), .ref 16], zz_hM c q1 t, true)) rfl ?_
  obtain ⟨q2, hq2, hF⟩ := am_bd hF
  refine am_go.call hcd_mo_writeWave rfl rfl rfl rfl (am_le8 rfl) (am_ev.le (by decide) (tz_mo_little (c := c) (t := t) hq2)) ?_
  refine am_go.blk hcd_mo_writeWave 4 (g := (21, [some (.ref 16), some (.int x1), some (.int x2), none, none], [.int (1 : Int32), .int (4 : Int32), .long (1463899717 : Int64), .ref 16], zz_hM c q2 t, true)) rfl ?_
  obtain ⟨q3, hq3, hF⟩ := am_bd hF
  refine am_go.call hcd_mo_writeWave rfl rfl rfl rfl (am_le8 rfl) (am_ev.le (by decide) (tz_mo_put (c := c) (t := t) hq3)) ?_
  refine am_go.blk hcd_mo_writeWave 3 (g := (27, [some (.ref 16), some (.int x1), some (.int x2), none, none], [.int x2, .int x1, .ref 16], zz_hM c q3 t, true)) rfl ?_
  obtain ⟨q4, hq4, hF⟩ := am_bd hF
  refine am_go.call hcd_mo_writeWave rfl rfl rfl rfl (am_le8 rfl) (am_ev.le (by decide) (tz_mo_writeFormat (c := c) (t := t) hq4)) ?_
  refine am_go.blk hcd_mo_writeWave 4 (g := (36, [some (.ref 16), some (.int x1), some (.int x2), none, none], [.int (1 : Int32), .int (4 : Int32), .long (1684108385 : Int64), .ref 16], zz_hM c q4 t, true)) rfl ?_
  obtain ⟨q5, hq5, hF⟩ := am_bd hF
  refine am_go.call hcd_mo_writeWave rfl rfl rfl rfl (am_le8 rfl) (am_ev.le (by decide) (tz_mo_put (c := c) (t := t) hq5)) ?_
  refine am_go.blk hcd_mo_writeWave 2 (g := (bif decide (¬ x1 = 0) then 50 else 43, [some (.ref 16), some (.int x1), some (.int x2), none, none], [], zz_hM c q5 t, true)) rfl ?_
  refine am_go.br (fun hP => ?_) (fun hP => ?_)
  · replace hF := (if_pos hP).symm.trans hF
    refine am_go.blk hcd_mo_writeWave 3 (g := (bif decide (¬ x1 = (1 : Int32)) then 64 else 55, [some (.ref 16), some (.int x1), some (.int x2), none, none], [], zz_hM c q5 t, true)) rfl ?_
    refine am_go.br (fun hP => ?_) (fun hP => ?_)
    · replace hF := (if_pos hP).symm.trans hF
      refine am_go.blk hcd_mo_writeWave 3 (g := (bif decide (¬ x1 = (2 : Int32)) then 88 else 69, [some (.ref 16), some (.int x1), some (.int x2), none, none], [], zz_hM c q5 t, true)) rfl ?_
      refine am_go.br (fun hP => ?_) (fun hP => ?_)
      · replace hF := (if_pos hP).symm.trans hF
        refine am_go.blk hcd_mo_writeWave 10 (g := (101, [some (.ref 16), some (.int x1), some (.int x2), none, none], [.int (((2 : Int32) * x2) + (2 : Int32)), .int (q5.1 1), .int (x2 + (7 : Int32))], zz_hM c q5 t, true)) rfl ?_
        obtain ⟨q6, hq6, hF⟩ := am_bd hF
        refine am_go.call hcd_mo_writeWave rfl rfl rfl rfl (am_le8 rfl) (am_ev.le (by decide) (tz_mo_blocks (h := zz_hM c q5 t) hq6)) ?_
        refine am_go.blk hcd_mo_writeWave 1 (g := (105, [some (.ref 16), some (.int x1), some (.int x2), none, none], [.int ((x2 + (7 : Int32)) * q6)], zz_hM c q5 t, true)) rfl ?_
        exact tz_mo_writeWave_105  hF
      · replace hF := (if_neg hP).symm.trans hF
        refine am_go.blk hcd_mo_writeWave 10 (g := (81, [some (.ref 16), some (.int x1), some (.int x2), none, none], [.int (((2 : Int32) * x2) + (1 : Int32)), .int (q5.1 1), .int (x2 + (4 : Int32))], zz_hM c q5 t, true)) rfl ?_
        obtain ⟨q7, hq7, hF⟩ := am_bd hF
        refine am_go.call hcd_mo_writeWave rfl rfl rfl rfl (am_le8 rfl) (am_ev.le (by decide) (tz_mo_blocks (h := zz_hM c q5 t) hq7)) ?_
        refine am_go.blk hcd_mo_writeWave 2 (g := (105, [some (.ref 16), some (.int x1), some (.int x2), none, none], [.int ((x2 + (4 : Int32)) * q7)], zz_hM c q5 t, true)) rfl ?_
        exact tz_mo_writeWave_105  hF
    · replace hF := (if_neg hP).symm.trans hF
      refine am_go.blk hcd_mo_writeWave 5 (g := (105, [some (.ref 16), some (.int x1), some (.int x2), none, none], [.int ((2 : Int32) * (q5.1 1))], zz_hM c q5 t, true)) rfl ?_
      exact tz_mo_writeWave_105  hF
  · replace hF := (if_neg hP).symm.trans hF
    refine am_go.blk hcd_mo_writeWave 3 (g := (105, [some (.ref 16), some (.int x1), some (.int x2), none, none], [.int (q5.1 1)], zz_hM c q5 t, true)) rfl ?_
    exact tz_mo_writeWave_105  hF
theorem hcd_mo_write : am_code 133 = am_c_mo_write := rfl
def fz_mo_write_118  (x4 : Int32) (y0 : Int32) (y1 : Int32) (y2 : Int64) (s : am_Z) : Option (Int32 × am_Z) :=
  (fz_mo_put s y2 y1 y0).bind fun q1 =>
  some (x4, (zz_i q1 4 x4))
theorem tz_mo_write_118 {sc : am_S} {c : am_Z} {t : am_H} {h0 : am_H}   {x4 : Int32} {y0 : Int32} {y1 : Int32} {y2 : Int64} {s : am_Z} {r : Int32 × am_Z} (hF : fz_mo_write_118 x4 y0 y1 y2 s = some r) : am_go sc 8 (am_ev sc 7) 133 h0 (118, [some (.ref 16), none, none, none, some (.int x4)], [.int y0, .int y1, .long y2, .ref 16], zz_hM c s t, true) ((.inl (some (.int r.1)), zz_hM c r.2 t, true) : am_R) := by
  unfold fz_mo_write_118 at hF
  obtain ⟨q1, hq1, hF⟩ := am_bd hF
  refine am_go.call hcd_mo_write rfl rfl rfl rfl (am_le8 rfl) (am_ev.le (by decide) (tz_mo_put (c := c) (t := t) hq1)) ?_
  refine am_go.blk hcd_mo_write 4 (g := (129, [some (.ref 16), none, none, none, some (.int x4)], [.int x4], zz_hM c (zz_i q1 4 x4) t, true)) rfl ?_
  cases hF
  exact am_go.ret hcd_mo_write rfl rfl ⟨rfl, rfl, (fun h => by cases h), Or.inl rfl, rfl⟩
def fz_mo_write_89  (x1 : Int32) (s : am_Z) : Option (Int32 × am_Z) :=
  if ¬ x1 = (4 : Int32) then
    fz_mo_write_118 (s.1 4) (0 : Int32) (4 : Int32) (Int32.toInt64 ((s.1 4) - (8 : Int32))) (zz_i s 4 (4 : Int32))
  else
  fz_mo_write_118 (s.1 4) (1 : Int32) (4 : Int32) (Int32.toInt64 ((s.1 4) - (8 : Int32))) (zz_i s 4 (4 : Int32))
theorem tz_mo_write_89 {sc : am_S} {c : am_Z} {t : am_H} {h0 : am_H}   {x1 : Int32} {s : am_Z} {r : Int32 × am_Z} (hF : fz_mo_write_89 x1 s = some r) : am_go sc 8 (am_ev sc 7) 133 h0 (89, [some (.ref 16), some (.int x1), none, none, none], [], zz_hM c s t, true) ((.inl (some (.int r.1)), zz_hM c r.2 t, true) : am_R) := by
  unfold fz_mo_write_89 at hF
  refine am_go.blk hcd_mo_write 15 (g := (bif decide (¬ x1 = (4 : Int32)) then 117 else 113, [some (.ref 16), some (.int x1), none, none, some (.int (s.1 4))], [.int (4 : Int32), .long (Int32.toInt64 ((s.1 4) - (8 : Int32))), .ref 16], zz_hM c (zz_i s 4 (4 : Int32)) t, true)) rfl ?_
  refine am_go.br (fun hP => ?_) (fun hP => ?_)
  · replace hF := (if_pos hP).symm.trans hF
    refine am_go.blk hcd_mo_write 1 (g := (118, [some (.ref 16), some (.int x1), none, none, some (.int (s.1 4))], [.int (0 : Int32), .int (4 : Int32), .long (Int32.toInt64 ((s.1 4) - (8 : Int32))), .ref 16], zz_hM c (zz_i s 4 (4 : Int32)) t, true)) rfl ?_
    refine am_go.fgl [some (.ref 16), none, none, none, some (.int (s.1 4))] ⟨rfl, rfl, trivial⟩ ?_
    exact tz_mo_write_118  hF
  · replace hF := (if_neg hP).symm.trans hF
    refine am_go.blk hcd_mo_write 2 (g := (118, [some (.ref 16), some (.int x1), none, none, some (.int (s.1 4))], [.int (1 : Int32), .int (4 : Int32), .long (Int32.toInt64 ((s.1 4) - (8 : Int32))), .ref 16], zz_hM c (zz_i s 4 (4 : Int32)) t, true)) rfl ?_
    refine am_go.fgl [some (.ref 16), none, none, none, some (.int (s.1 4))] ⟨rfl, rfl, trivial⟩ ?_
    exact tz_mo_write_118  hF
def fz_mo_write_56  (x1 : Int32) (x2 : Int32) (x3 : Int32) (y0 : Int32) (s : am_Z) : Option (Int32 × am_Z) :=
  if ¬ x3 = 0 then
    if ¬ x1 = (4 : Int32) then
      (fz_mo_writeWave (zz_i (zz_i s 0 y0) 4 (0 : Int32)) x1 x2).bind fun q1 =>
      fz_mo_write_89 x1 q1
    else
    (fz_mo_writeOther (zz_i (zz_i s 0 y0) 4 (0 : Int32)) x2).bind fun q2 =>
    fz_mo_write_89 x1 q2
  else
  some ((0 : Int32), (zz_i s 0 y0))
theorem tz_mo_write_56 {sc : am_S} {c : am_Z} {t : am_H} {h0 : am_H}   {x1 : Int32} {x2 : Int32} {x3 : Int32} {y0 : Int32} {s : am_Z} {r : Int32 × am_Z} (hF : fz_mo_write_56 x1 x2 x3 y0 s = some r) : am_go sc 8 (am_ev sc 7) 133 h0 (56, [some (.ref 16), some (.int x1), some (.int x2), some (.int x3), none], [.int y0, .ref 16], zz_hM c s t, true) ((.inl (some (.int r.1)), zz_hM c r.2 t, true) : am_R) := by
  unfold fz_mo_write_56 at hF
  refine am_go.blk hcd_mo_write 3 (g := (bif decide (¬ x3 = 0) then 65 else 63, [some (.ref 16), some (.int x1), some (.int x2), some (.int x3), none], [], zz_hM c (zz_i s 0 y0) t, true)) rfl ?_
  refine am_go.br (fun hP => ?_) (fun hP => ?_)
  · replace hF := (if_pos hP).symm.trans hF
    refine am_go.blk hcd_mo_write 6 (g := (bif decide (¬ x1 = (4 : Int32)) then 83 else 75, [some (.ref 16), some (.int x1), some (.int x2), some (.int x3), none], [], zz_hM c (zz_i (zz_i s 0 y0) 4 (0 : Int32)) t, true)) rfl ?_
    refine am_go.br (fun hP => ?_) (fun hP => ?_)
    · replace hF := (if_pos hP).symm.trans hF
      refine am_go.blk hcd_mo_write 3 (g := (86, [some (.ref 16), some (.int x1), some (.int x2), some (.int x3), none], [.int x2, .int x1, .ref 16], zz_hM c (zz_i (zz_i s 0 y0) 4 (0 : Int32)) t, true)) rfl ?_
      obtain ⟨q1, hq1, hF⟩ := am_bd hF
      refine am_go.call hcd_mo_write rfl rfl rfl rfl (am_le8 rfl) (am_ev.le (by decide) (tz_mo_writeWave (c := c) (t := t) hq1)) ?_
      refine am_go.fgl [some (.ref 16), some (.int x1), none, none, none] ⟨rfl, rfl, trivial⟩ ?_
      exact tz_mo_write_89  hF
    · replace hF := (if_neg hP).symm.trans hF
      refine am_go.blk hcd_mo_write 2 (g := (77, [some (.ref 16), some (.int x1), some (.int x2), some (.int x3), none], [.int x2, .ref 16], zz_hM c (zz_i (zz_i s 0 y0) 4 (0 : Int32)) t, true)) rfl ?_
      obtain ⟨q2, hq2, hF⟩ := am_bd hF
      refine am_go.call hcd_mo_write rfl rfl rfl rfl (am_le8 rfl) (am_ev.le (by decide) (tz_mo_writeOther (c := c) (t := t) hq2)) ?_
      refine am_go.blk hcd_mo_write 1 (g := (89, [some (.ref 16), some (.int x1), some (.int x2), some (.int x3), none], [], zz_hM c q2 t, true)) rfl ?_
      refine am_go.fgl [some (.ref 16), some (.int x1), none, none, none] ⟨rfl, rfl, trivial⟩ ?_
      exact tz_mo_write_89  hF
  · replace hF := (if_neg hP).symm.trans hF
    refine am_go.blk hcd_mo_write 1 (g := (64, [some (.ref 16), some (.int x1), some (.int x2), some (.int x3), none], [.int (0 : Int32)], zz_hM c (zz_i s 0 y0) t, true)) rfl ?_
    cases hF
    exact am_go.ret hcd_mo_write rfl rfl ⟨rfl, rfl, (fun h => by cases h), Or.inl rfl, rfl⟩
def fz_mo_write_45  (x1 : Int32) (x2 : Int32) (y0 : Int32) (s : am_Z) : Option (Int32 × am_Z) :=
  if y0 = 0 then
    fz_mo_write_56 x1 x2 y0 (1 : Int32) s
  else
  fz_mo_write_56 x1 x2 y0 (0 : Int32) s
theorem tz_mo_write_45 {sc : am_S} {c : am_Z} {t : am_H} {h0 : am_H}   {x1 : Int32} {x2 : Int32} {y0 : Int32} {s : am_Z} {r : Int32 × am_Z} (hF : fz_mo_write_45 x1 x2 y0 s = some r) : am_go sc 8 (am_ev sc 7) 133 h0 (45, [some (.ref 16), some (.int x1), some (.int x2), none, none], [.int y0], zz_hM c s t, true) ((.inl (some (.int r.1)), zz_hM c r.2 t, true) : am_R) := by
  unfold fz_mo_write_45 at hF
  refine am_go.blk hcd_mo_write 4 (g := (bif decide (y0 = 0) then 55 else 51, [some (.ref 16), some (.int x1), some (.int x2), some (.int y0), none], [.ref 16], zz_hM c s t, true)) rfl ?_
  refine am_go.br (fun hP => ?_) (fun hP => ?_)
  · replace hF := (if_pos hP).symm.trans hF
    refine am_go.blk hcd_mo_write 1 (g := (56, [some (.ref 16), some (.int x1), some (.int x2), some (.int y0), none], [.int (1 : Int32), .ref 16], zz_hM c s t, true)) rfl ?_
    exact tz_mo_write_56  hF
  · replace hF := (if_neg hP).symm.trans hF
    refine am_go.blk hcd_mo_write 2 (g := (56, [some (.ref 16), some (.int x1), some (.int x2), some (.int y0), none], [.int (0 : Int32), .ref 16], zz_hM c s t, true)) rfl ?_
    exact tz_mo_write_56  hF
def fz_mo_write_44  (x1 : Int32) (x2 : Int32) (s : am_Z) : Option (Int32 × am_Z) :=
  fz_mo_write_45 x1 x2 (0 : Int32) s
theorem tz_mo_write_44 {sc : am_S} {c : am_Z} {t : am_H} {h0 : am_H}   {x1 : Int32} {x2 : Int32} {s : am_Z} {r : Int32 × am_Z} (hF : fz_mo_write_44 x1 x2 s = some r) : am_go sc 8 (am_ev sc 7) 133 h0 (44, [some (.ref 16), some (.int x1), some (.int x2), none, none], [], zz_hM c s t, true) ((.inl (some (.int r.1)), zz_hM c r.2 t, true) : am_R) := by
  unfold fz_mo_write_44 at hF
  refine am_go.blk hcd_mo_write 1 (g := (45, [some (.ref 16), some (.int x1), some (.int x2), none, none], [.int (0 : Int32)], zz_hM c s t, true)) rfl ?_
  exact tz_mo_write_45  hF
def fz_mo_write_40  (x1 : Int32) (x2 : Int32) (s : am_Z) : Option (Int32 × am_Z) :=
  fz_mo_write_45 x1 x2 (1 : Int32) s
theorem tz_mo_write_40 {sc : am_S} {c : am_Z} {t : am_H} {h0 : am_H}   {x1 : Int32} {x2 : Int32} {s : am_Z} {r : Int32 × am_Z} (hF : fz_mo_write_40 x1 x2 s = some r) : am_go sc 8 (am_ev sc 7) 133 h0 (40, [some (.ref 16), some (.int x1), some (.int x2), none, none], [], zz_hM c s t, true) ((.inl (some (.int r.1)), zz_hM c r.2 t, true) : am_R) := by
  unfold fz_mo_write_40 at hF
  refine am_go.blk hcd_mo_write 2 (g := (45, [some (.ref 16), some (.int x1), some (.int x2), none, none], [.int (1 : Int32)], zz_hM c s t, true)) rfl ?_
  exact tz_mo_write_45  hF
def fz_mo_write_34  (x1 : Int32) (x2 : Int32) (y0 : Int64) (y1 : Int64) (y2 : Int64) (s : am_Z) : Option (Int32 × am_Z) :=
  (fz_mo_within y2 y1 y0).bind fun q1 =>
  if q1 = 0 then
    fz_mo_write_44 x1 x2 s
  else
  fz_mo_write_40 x1 x2 s
theorem tz_mo_write_34 {sc : am_S} {c : am_Z} {t : am_H} {h0 : am_H}   {x1 : Int32} {x2 : Int32} {y0 : Int64} {y1 : Int64} {y2 : Int64} {s : am_Z} {r : Int32 × am_Z} (hF : fz_mo_write_34 x1 x2 y0 y1 y2 s = some r) : am_go sc 8 (am_ev sc 7) 133 h0 (34, [some (.ref 16), some (.int x1), some (.int x2), none, none], [.long y0, .long y1, .long y2], zz_hM c s t, true) ((.inl (some (.int r.1)), zz_hM c r.2 t, true) : am_R) := by
  unfold fz_mo_write_34 at hF
  obtain ⟨q1, hq1, hF⟩ := am_bd hF
  refine am_go.call hcd_mo_write rfl rfl rfl rfl (am_le8 rfl) (am_ev.le (by decide) (tz_mo_within (h := zz_hM c s t) hq1)) ?_
  refine am_go.blk hcd_mo_write 1 (g := (bif decide (q1 = 0) then 44 else 40, [some (.ref 16), some (.int x1), some (.int x2), none, none], [], zz_hM c s t, true)) rfl ?_
  refine am_go.br (fun hP => ?_) (fun hP => ?_)
  · replace hF := (if_pos hP).symm.trans hF
    exact tz_mo_write_44  hF
  · replace hF := (if_neg hP).symm.trans hF
    exact tz_mo_write_40  hF
def fz_mo_write (s : am_Z) (x1 : Int32) (x2 : Int32) : Option (Int32 × am_Z) :=
  (fz_mo_within (Int32.toInt64 x1) (0 : Int64) (4 : Int64)).bind fun q1 =>
  if q1 = 0 then
    fz_mo_write_44 x1 x2 s
  else
  if x1 < (2 : Int32) then
    fz_mo_write_40 x1 x2 s
  else
  if ¬ x1 = (4 : Int32) then
    fz_mo_write_34 x1 x2 (8 : Int64) (1 : Int64) (Int32.toInt64 x2) s
  else
  fz_mo_write_34 x1 x2 (16 : Int64) (1 : Int64) (Int32.toInt64 x2) s
theorem tz_mo_write {sc : am_S} {c : am_Z} {t : am_H} {s : am_Z} {x1 : Int32} {x2 : Int32} {r : Int32 × am_Z} (hF : fz_mo_write s x1 x2 = some r) : am_ev sc 8 133 [.ref 16, .int x1, .int x2] (zz_hM c s t) ((.inl (some (.int r.1)), zz_hM c r.2 t, true) : am_R) := by
  unfold fz_mo_write at hF
  refine am_ev.of true rfl ?_
  show am_go sc _ _ _ _ (0, [some (.ref 16), some (.int x1), some (.int x2), none, none], [], zz_hM c s t, true) _
  refine am_go.blk hcd_mo_write 4 (g := (6, [some (.ref 16), some (.int x1), some (.int x2), none, none], [.long (4 : Int64), .long (0 : Int64), .long (Int32.toInt64 x1)], zz_hM c s t, true)) rfl ?_
  obtain ⟨q1, hq1, hF⟩ := am_bd hF
  refine am_go.call hcd_mo_write rfl rfl rfl rfl (am_le8 rfl) (am_ev.le (by decide) (tz_mo_within (h := zz_hM c s t) hq1)) ?_
  refine am_go.blk hcd_mo_write 1 (g := (bif decide (q1 = 0) then 44 else 12, [some (.ref 16), some (.int x1), some (.int x2), none, none], [], zz_hM c s t, true)) rfl ?_
  refine am_go.br (fun hP => ?_) (fun hP => ?_)
  · replace hF := (if_pos hP).symm.trans hF
    exact tz_mo_write_44  hF
  · replace hF := (if_neg hP).symm.trans hF
    refine am_go.blk hcd_mo_write 3 (g := (bif decide (x1 < (2 : Int32)) then 40 else 17, [some (.ref 16), some (.int x1), some (.int x2), none, none], [], zz_hM c s t, true)) rfl ?_
    refine am_go.br (fun hP => ?_) (fun hP => ?_)
    · replace hF := (if_pos hP).symm.trans hF
      exact tz_mo_write_40  hF
    · replace hF := (if_neg hP).symm.trans hF
      refine am_go.blk hcd_mo_write 6 (g := (bif decide (¬ x1 = (4 : Int32)) then 31 else 25, [some (.ref 16), some (.int x1), some (.int x2), none, none], [.long (1 : Int64), .long (Int32.toInt64 x2)], zz_hM c s t, true)) rfl ?_
      refine am_go.br (fun hP => ?_) (fun hP => ?_)
      · replace hF := (if_pos hP).symm.trans hF
        refine am_go.blk hcd_mo_write 1 (g := (34, [some (.ref 16), some (.int x1), some (.int x2), none, none], [.long (8 : Int64), .long (1 : Int64), .long (Int32.toInt64 x2)], zz_hM c s t, true)) rfl ?_
        exact tz_mo_write_34  hF
      · replace hF := (if_neg hP).symm.trans hF
        refine am_go.blk hcd_mo_write 2 (g := (34, [some (.ref 16), some (.int x1), some (.int x2), none, none], [.long (16 : Int64), .long (1 : Int64), .long (Int32.toInt64 x2)], zz_hM c s t, true)) rfl ?_
        exact tz_mo_write_34  hF
theorem hcd_mo_rate : am_code 110 = am_c_mo_rate := rfl
def fz_mo_rate (s : am_Z) : Option (Int32 × am_Z) :=
  some ((s.1 3), (zz_i s 0 (0 : Int32)))
theorem tz_mo_rate {sc : am_S} {c : am_Z} {t : am_H} {s : am_Z} {r : Int32 × am_Z} (hF : fz_mo_rate s = some r) : am_ev sc 1 110 [.ref 16] (zz_hM c s t) ((.inl (some (.int r.1)), zz_hM c r.2 t, true) : am_R) := by
  unfold fz_mo_rate at hF
  refine am_ev.of true rfl ?_
  show am_go sc _ _ _ _ (0, [some (.ref 16)], [], zz_hM c s t, true) _
  refine am_go.blk hcd_mo_rate 5 (g := (9, [some (.ref 16)], [.int (s.1 3)], zz_hM c (zz_i s 0 (0 : Int32)) t, true)) rfl ?_
  cases hF
  exact am_go.ret hcd_mo_rate rfl rfl ⟨rfl, rfl, (fun h => by cases h), Or.inl rfl, rfl⟩
theorem hcd_mo_tune : am_code 109 = am_c_mo_tune := rfl
def fz_mo_tune_18  (x1 : Int32) (y0 : Int32) (s : am_Z) : Option (Int32 × am_Z) :=
  if y0 ≤ 0 then
    some ((s.1 3), (zz_i (zz_i s 0 y0) 3 x1))
  else
  some ((0 : Int32), (zz_i s 0 y0))
theorem tz_mo_tune_18 {sc : am_S} {c : am_Z} {t : am_H} {h0 : am_H}   {x1 : Int32} {y0 : Int32} {s : am_Z} {r : Int32 × am_Z} (hF : fz_mo_tune_18 x1 y0 s = some r) : am_go sc 2 (am_ev sc 1) 109 h0 (18, [some (.ref 16), some (.int x1), none], [.int y0, .ref 16], zz_hM c s t, true) ((.inl (some (.int r.1)), zz_hM c r.2 t, true) : am_R) := by
  unfold fz_mo_tune_18 at hF
  refine am_go.blk hcd_mo_tune 4 (g := (bif decide (y0 ≤ 0) then 30 else 28, [some (.ref 16), some (.int x1), none], [], zz_hM c (zz_i s 0 y0) t, true)) rfl ?_
  refine am_go.br (fun hP => ?_) (fun hP => ?_)
  · replace hF := (if_pos hP).symm.trans hF
    refine am_go.blk hcd_mo_tune 7 (g := (41, [some (.ref 16), some (.int x1), some (.int (s.1 3))], [.int (s.1 3)], zz_hM c (zz_i (zz_i s 0 y0) 3 x1) t, true)) rfl ?_
    cases hF
    exact am_go.ret hcd_mo_tune rfl rfl ⟨rfl, rfl, (fun h => by cases h), Or.inl rfl, rfl⟩
  · replace hF := (if_neg hP).symm.trans hF
    refine am_go.blk hcd_mo_tune 1 (g := (29, [some (.ref 16), some (.int x1), none], [.int (0 : Int32)], zz_hM c (zz_i s 0 y0) t, true)) rfl ?_
    cases hF
    exact am_go.ret hcd_mo_tune rfl rfl ⟨rfl, rfl, (fun h => by cases h), Or.inl rfl, rfl⟩
def fz_mo_tune (s : am_Z) (x1 : Int32) : Option (Int32 × am_Z) :=
  (fz_mo_within (Int32.toInt64 x1) (1 : Int64) (192000 : Int64)).bind fun q1 =>
  if q1 = 0 then
    fz_mo_tune_18 x1 (1 : Int32) s
  else
  fz_mo_tune_18 x1 (0 : Int32) s
theorem tz_mo_tune {sc : am_S} {c : am_Z} {t : am_H} {s : am_Z} {x1 : Int32} {r : Int32 × am_Z} (hF : fz_mo_tune s x1 = some r) : am_ev sc 2 109 [.ref 16, .int x1] (zz_hM c s t) ((.inl (some (.int r.1)), zz_hM c r.2 t, true) : am_R) := by
  unfold fz_mo_tune at hF
  refine am_ev.of true rfl ?_
  show am_go sc _ _ _ _ (0, [some (.ref 16), some (.int x1), none], [], zz_hM c s t, true) _
  refine am_go.blk hcd_mo_tune 5 (g := (7, [some (.ref 16), some (.int x1), none], [.long (192000 : Int64), .long (1 : Int64), .long (Int32.toInt64 x1), .ref 16], zz_hM c s t, true)) rfl ?_
  obtain ⟨q1, hq1, hF⟩ := am_bd hF
  refine am_go.call hcd_mo_tune rfl rfl rfl rfl (am_le8 rfl) (am_ev.le (by decide) (tz_mo_within (h := zz_hM c s t) hq1)) ?_
  refine am_go.blk hcd_mo_tune 1 (g := (bif decide (q1 = 0) then 17 else 13, [some (.ref 16), some (.int x1), none], [.ref 16], zz_hM c s t, true)) rfl ?_
  refine am_go.br (fun hP => ?_) (fun hP => ?_)
  · replace hF := (if_pos hP).symm.trans hF
    refine am_go.blk hcd_mo_tune 1 (g := (18, [some (.ref 16), some (.int x1), none], [.int (1 : Int32), .ref 16], zz_hM c s t, true)) rfl ?_
    exact tz_mo_tune_18  hF
  · replace hF := (if_neg hP).symm.trans hF
    refine am_go.blk hcd_mo_tune 2 (g := (18, [some (.ref 16), some (.int x1), none], [.int (0 : Int32), .ref 16], zz_hM c s t, true)) rfl ?_
    exact tz_mo_tune_18  hF
theorem hcd_mo_at : am_code 108 = am_c_mo_at := rfl
def fz_mo_at_22  (x1 : Int32) (y0 : Int32) (s : am_Z) : Option (Int32 × am_Z) :=
  if y0 ≤ 0 then
    if x1 < 0 ∨ 64 ≤ Int32.toNatClampNeg x1 then none else
    some (((s.2.2 0) (Int32.toNatClampNeg x1)), (zz_i s 0 y0))
  else
  some ((0 : Int32), (zz_i s 0 y0))
theorem tz_mo_at_22 {sc : am_S} {c : am_Z} {t : am_H} {h0 : am_H}   {x1 : Int32} {y0 : Int32} {s : am_Z} {r : Int32 × am_Z} (hF : fz_mo_at_22 x1 y0 s = some r) : am_go sc 2 (am_ev sc 1) 108 h0 (22, [some (.ref 16), some (.int x1)], [.int y0, .ref 16], zz_hM c s t, true) ((.inl (some (.int r.1)), zz_hM c r.2 t, true) : am_R) := by
  unfold fz_mo_at_22 at hF
  refine am_go.blk hcd_mo_at 4 (g := (bif decide (y0 ≤ 0) then 36 else 32, [some (.ref 16), some (.int x1)], [], zz_hM c (zz_i s 0 y0) t, true)) rfl ?_
  refine am_go.br (fun hP => ?_) (fun hP => ?_)
  · replace hF := (if_pos hP).symm.trans hF
    refine am_go.blk hcd_mo_at 3 (g := (41, [some (.ref 16), some (.int x1)], [.int x1, .ref 17], zz_hM c (zz_i s 0 y0) t, true)) rfl ?_
    obtain ⟨hi1, hF⟩ := am_ng hF
    refine am_go.iald hcd_mo_at rfl rfl hi1 ?_
    cases hF
    exact am_go.ret hcd_mo_at rfl rfl ⟨rfl, rfl, (fun h => by cases h), Or.inl rfl, rfl⟩
  · replace hF := (if_neg hP).symm.trans hF
    refine am_go.blk hcd_mo_at 2 (g := (42, [some (.ref 16), some (.int x1)], [.int (0 : Int32)], zz_hM c (zz_i s 0 y0) t, true)) rfl ?_
    cases hF
    exact am_go.ret hcd_mo_at rfl rfl ⟨rfl, rfl, (fun h => by cases h), Or.inl rfl, rfl⟩
def fz_mo_at (s : am_Z) (x1 : Int32) : Option (Int32 × am_Z) :=
  (fz_mo_within (Int32.toInt64 x1) (0 : Int64) (Int32.toInt64 ((s.1 1) - (1 : Int32)))).bind fun q1 =>
  if q1 = 0 then
    fz_mo_at_22 x1 (1 : Int32) s
  else
  fz_mo_at_22 x1 (0 : Int32) s
theorem tz_mo_at {sc : am_S} {c : am_Z} {t : am_H} {s : am_Z} {x1 : Int32} {r : Int32 × am_Z} (hF : fz_mo_at s x1 = some r) : am_ev sc 2 108 [.ref 16, .int x1] (zz_hM c s t) ((.inl (some (.int r.1)), zz_hM c r.2 t, true) : am_R) := by
  unfold fz_mo_at at hF
  refine am_ev.of true rfl ?_
  show am_go sc _ _ _ _ (0, [some (.ref 16), some (.int x1)], [], zz_hM c s t, true) _
  refine am_go.blk hcd_mo_at 9 (g := (11, [some (.ref 16), some (.int x1)], [.long (Int32.toInt64 ((s.1 1) - (1 : Int32))), .long (0 : Int64), .long (Int32.toInt64 x1), .ref 16], zz_hM c s t, true)) rfl ?_
  obtain ⟨q1, hq1, hF⟩ := am_bd hF
  refine am_go.call hcd_mo_at rfl rfl rfl rfl (am_le8 rfl) (am_ev.le (by decide) (tz_mo_within (h := zz_hM c s t) hq1)) ?_
  refine am_go.blk hcd_mo_at 1 (g := (bif decide (q1 = 0) then 21 else 17, [some (.ref 16), some (.int x1)], [.ref 16], zz_hM c s t, true)) rfl ?_
  refine am_go.br (fun hP => ?_) (fun hP => ?_)
  · replace hF := (if_pos hP).symm.trans hF
    refine am_go.blk hcd_mo_at 1 (g := (22, [some (.ref 16), some (.int x1)], [.int (1 : Int32), .ref 16], zz_hM c s t, true)) rfl ?_
    exact tz_mo_at_22  hF
  · replace hF := (if_neg hP).symm.trans hF
    refine am_go.blk hcd_mo_at 2 (g := (22, [some (.ref 16), some (.int x1)], [.int (0 : Int32), .ref 16], zz_hM c s t, true)) rfl ?_
    exact tz_mo_at_22  hF
theorem hcd_mo_samples : am_code 107 = am_c_mo_samples := rfl
def fz_mo_samples (s : am_Z) : Option (Int32 × am_Z) :=
  some ((s.1 1), (zz_i s 0 (0 : Int32)))
theorem tz_mo_samples {sc : am_S} {c : am_Z} {t : am_H} {s : am_Z} {r : Int32 × am_Z} (hF : fz_mo_samples s = some r) : am_ev sc 1 107 [.ref 16] (zz_hM c s t) ((.inl (some (.int r.1)), zz_hM c r.2 t, true) : am_R) := by
  unfold fz_mo_samples at hF
  refine am_ev.of true rfl ?_
  show am_go sc _ _ _ _ (0, [some (.ref 16)], [], zz_hM c s t, true) _
  refine am_go.blk hcd_mo_samples 5 (g := (9, [some (.ref 16)], [.int (s.1 1)], zz_hM c (zz_i s 0 (0 : Int32)) t, true)) rfl ?_
  cases hF
  exact am_go.ret hcd_mo_samples rfl rfl ⟨rfl, rfl, (fun h => by cases h), Or.inl rfl, rfl⟩
theorem hcd_mo_clear : am_code 106 = am_c_mo_clear := rfl
def fz_mo_clear (s : am_Z) : Option (Int32 × am_Z) :=
  some ((s.1 1), (zz_i (zz_i s 0 (0 : Int32)) 1 (0 : Int32)))
theorem tz_mo_clear {sc : am_S} {c : am_Z} {t : am_H} {s : am_Z} {r : Int32 × am_Z} (hF : fz_mo_clear s = some r) : am_ev sc 1 106 [.ref 16] (zz_hM c s t) ((.inl (some (.int r.1)), zz_hM c r.2 t, true) : am_R) := by
  unfold fz_mo_clear at hF
  refine am_ev.of true rfl ?_
  show am_go sc _ _ _ _ (0, [some (.ref 16), none], [], zz_hM c s t, true) _
  refine am_go.blk hcd_mo_clear 10 (g := (16, [some (.ref 16), some (.int (s.1 1))], [.int (s.1 1)], zz_hM c (zz_i (zz_i s 0 (0 : Int32)) 1 (0 : Int32)) t, true)) rfl ?_
  cases hF
  exact am_go.ret hcd_mo_clear rfl rfl ⟨rfl, rfl, (fun h => by cases h), Or.inl rfl, rfl⟩
theorem hcd_mo_add : am_code 105 = am_c_mo_add := rfl
def fz_mo_add_33  (x1 : Int32) (y0 : Int32) (s : am_Z) : Option (Int32 × am_Z) :=
  if y0 ≤ 0 then
    if (s.1 1) < 0 ∨ 64 ≤ Int32.toNatClampNeg (s.1 1) then none else
    some (((s.1 1) + (1 : Int32)), (zz_i (zz_r (zz_i s 0 y0) 0 (upd (s.2.2 0) (Int32.toNatClampNeg (s.1 1)) x1)) 1 ((s.1 1) + (1 : Int32))))
  else
  some ((0 : Int32), (zz_i s 0 y0))
theorem tz_mo_add_33 {sc : am_S} {c : am_Z} {t : am_H} {h0 : am_H}   {x1 : Int32} {y0 : Int32} {s : am_Z} {r : Int32 × am_Z} (hF : fz_mo_add_33 x1 y0 s = some r) : am_go sc 2 (am_ev sc 1) 105 h0 (33, [some (.ref 16), some (.int x1)], [.int y0, .ref 16], zz_hM c s t, true) ((.inl (some (.int r.1)), zz_hM c r.2 t, true) : am_R) := by
  unfold fz_mo_add_33 at hF
  refine am_go.blk hcd_mo_add 4 (g := (bif decide (y0 ≤ 0) then 45 else 43, [some (.ref 16), some (.int x1)], [], zz_hM c (zz_i s 0 y0) t, true)) rfl ?_
  refine am_go.br (fun hP => ?_) (fun hP => ?_)
  · replace hF := (if_pos hP).symm.trans hF
    refine am_go.blk hcd_mo_add 5 (g := (54, [some (.ref 16), some (.int x1)], [.int x1, .int (s.1 1), .ref 17], zz_hM c (zz_i s 0 y0) t, true)) rfl ?_
    obtain ⟨hi1, hF⟩ := am_ng hF
    refine am_go.iast hcd_mo_add rfl rfl hi1 ?_
    refine am_go.blk hcd_mo_add 8 (g := (69, [some (.ref 16), some (.int x1)], [.int ((s.1 1) + (1 : Int32))], zz_hM c (zz_i (zz_r (zz_i s 0 y0) 0 (upd (s.2.2 0) (Int32.toNatClampNeg (s.1 1)) x1)) 1 ((s.1 1) + (1 : Int32))) t, true)) rfl ?_
    cases hF
    exact am_go.ret hcd_mo_add rfl rfl ⟨rfl, rfl, (fun h => by cases h), Or.inl rfl, rfl⟩
  · replace hF := (if_neg hP).symm.trans hF
    refine am_go.blk hcd_mo_add 1 (g := (44, [some (.ref 16), some (.int x1)], [.int (0 : Int32)], zz_hM c (zz_i s 0 y0) t, true)) rfl ?_
    cases hF
    exact am_go.ret hcd_mo_add rfl rfl ⟨rfl, rfl, (fun h => by cases h), Or.inl rfl, rfl⟩
def fz_mo_add (s : am_Z) (x1 : Int32) : Option (Int32 × am_Z) :=
  (fz_mo_within (Int32.toInt64 x1) (-32768 : Int64) (32767 : Int64)).bind fun q1 =>
  if ¬ q1 = 0 then
    if ¬ (s.1 1) = (64 : Int32) then
      fz_mo_add_33 x1 (0 : Int32) s
    else
    fz_mo_add_33 x1 (2 : Int32) s
  else
  fz_mo_add_33 x1 (1 : Int32) s
theorem tz_mo_add {sc : am_S} {c : am_Z} {t : am_H} {s : am_Z} {x1 : Int32} {r : Int32 × am_Z} (hF : fz_mo_add s x1 = some r) : am_ev sc 2 105 [.ref 16, .int x1] (zz_hM c s t) ((.inl (some (.int r.1)), zz_hM c r.2 t, true) : am_R) := by
  unfold fz_mo_add at hF
  refine am_ev.of true rfl ?_
  show am_go sc _ _ _ _ (0, [some (.ref 16), some (.int x1)], [], zz_hM c s t, true) _
  refine am_go.blk hcd_mo_add 5 (g := (9, [some (.ref 16), some (.int x1)], [.long (32767 : Int64), .long (-32768 : Int64), .long (Int32.toInt64 x1), .ref 16], zz_hM c s t, true)) rfl ?_
  obtain ⟨q1, hq1, hF⟩ := am_bd hF
  refine am_go.call hcd_mo_add rfl rfl rfl rfl (am_le8 rfl) (am_ev.le (by decide) (tz_mo_within (h := zz_hM c s t) hq1)) ?_
  refine am_go.blk hcd_mo_add 1 (g := (bif decide (¬ q1 = 0) then 19 else 15, [some (.ref 16), some (.int x1)], [.ref 16], zz_hM c s t, true)) rfl ?_
  refine am_go.br (fun hP => ?_) (fun hP => ?_)
  · replace hF := (if_pos hP).symm.trans hF
    refine am_go.blk hcd_mo_add 4 (g := (bif decide (¬ (s.1 1) = (64 : Int32)) then 32 else 28, [some (.ref 16), some (.int x1)], [.ref 16], zz_hM c s t, true)) rfl ?_
    refine am_go.br (fun hP => ?_) (fun hP => ?_)
    · replace hF := (if_pos hP).symm.trans hF
      refine am_go.blk hcd_mo_add 1 (g := (33, [some (.ref 16), some (.int x1)], [.int (0 : Int32), .ref 16], zz_hM c s t, true)) rfl ?_
      exact tz_mo_add_33  hF
    · replace hF := (if_neg hP).symm.trans hF
      refine am_go.blk hcd_mo_add 2 (g := (33, [some (.ref 16), some (.int x1)], [.int (2 : Int32), .ref 16], zz_hM c s t, true)) rfl ?_
      exact tz_mo_add_33  hF
  · replace hF := (if_neg hP).symm.trans hF
    refine am_go.blk hcd_mo_add 2 (g := (33, [some (.ref 16), some (.int x1)], [.int (1 : Int32), .ref 16], zz_hM c s t, true)) rfl ?_
    exact tz_mo_add_33  hF
