/-! printed by wip/gen/genF.py -/
theorem hcd_la_chunk : am_code 171 = am_c_la_chunk := rfl
def fz_la_chunk (sc : am_S) (s : am_Z) (m : am_Z) (o : (Nat → Int64)) (t : am_H) (x1 : Int32) (x2 : Int32) : Option (Int32 × am_Z × am_Z × (Nat → Int64) × am_H) :=
  (fz_sh_chunk s x1 x2).bind fun q1 =>
  zz_el (fun x =>
    if x = 9 then
      some ((1 : Int32), s, m, o, (t ++ [.inl (9, [])]))
    else
    if x = 12 then
      some ((2 : Int32), s, m, o, (t ++ [.inl (12, [])]))
    else
    none) (fun p2 =>
    some ((0 : Int32), s, m, (vp_updL o (Int32.toNatClampNeg (0 : Int32)) (Int32.toInt64 p2)), t)) q1
theorem tz_la_chunk  {sc : am_S} {s : am_Z} {m : am_Z} {o : (Nat → Int64)} {t : am_H} {x1 : Int32} {x2 : Int32} {r : Int32 × am_Z × am_Z × (Nat → Int64) × am_H} (hF : fz_la_chunk sc s m o t x1 x2 = some r) : am_ev sc 7 171 [.ref 0, .int x1, .int x2, .ref 21] (zz_hL s m o t) ((.inl (some (.int r.1)), zz_hL r.2.1 r.2.2.1 r.2.2.2.1 r.2.2.2.2, true) : am_R) := by
  unfold fz_la_chunk at hF
  refine am_ev.of true rfl ?_
  show am_go sc _ _ _ _ (0, [some (.ref 0), some (.int x1), some (.int x2), some (.ref 21), none], [], zz_hL s m o t, true) _
  refine am_go.blk hcd_la_chunk 5 (g := (5, [some (.ref 0), some (.int x1), some (.int x2), some (.ref 21), none], [.int x2, .int x1, .ref 0, .int (0 : Int32), .ref 21], zz_hL s m o t, true)) rfl ?_
  obtain ⟨q1, hq1, hF⟩ := am_bd hF
  rcases q1 with x | p2
  · replace hF := (show zz_el _ _ (.inl x) = _ from hF)
    simp only [zz_el] at hF
    by_cases hx : x = 9
    · replace hF := (if_pos hx).symm.trans hF
      subst hx
      refine am_go.caught hcd_la_chunk rfl rfl rfl rfl rfl (am_le8 rfl) (am_ev.le (by decide) (tz_sh_chunk (t := zz_M m ++ (.inr (.inr (1, o)) :: t)) hq1)) (zz_ex _ _) rfl ?_
      refine am_go.blk hcd_la_chunk 2 (g := (16, [some (.ref 0), some (.int x1), some (.int x2), some (.ref 21), some (.ref (zz_hL s m o t).length)], [.int (1 : Int32)], zz_hL s m o (t ++ [.inl (9, [])]), true)) rfl ?_
      cases hF
      exact am_go.ret hcd_la_chunk rfl rfl ⟨rfl, rfl, (fun h => by cases h), Or.inl rfl, rfl⟩
    replace hF := (if_neg hx).symm.trans hF
    by_cases hx : x = 12
    · replace hF := (if_pos hx).symm.trans hF
      subst hx
      refine am_go.caught hcd_la_chunk rfl rfl rfl rfl rfl (am_le8 rfl) (am_ev.le (by decide) (tz_sh_chunk (t := zz_M m ++ (.inr (.inr (1, o)) :: t)) hq1)) (zz_ex _ _) rfl ?_
      refine am_go.blk hcd_la_chunk 2 (g := (20, [some (.ref 0), some (.int x1), some (.int x2), some (.ref 21), some (.ref (zz_hL s m o t).length)], [.int (2 : Int32)], zz_hL s m o (t ++ [.inl (12, [])]), true)) rfl ?_
      cases hF
      exact am_go.ret hcd_la_chunk rfl rfl ⟨rfl, rfl, (fun h => by cases h), Or.inl rfl, rfl⟩
    replace hF := (if_neg hx).symm.trans hF
    cases hF
  · simp only [zz_el] at hF
    refine am_go.call hcd_la_chunk rfl rfl rfl rfl (am_le8 rfl) (am_ev.le (by decide) (tz_sh_chunk (t := zz_M m ++ (.inr (.inr (1, o)) :: t)) hq1)) ?_
    refine am_go.blk hcd_la_chunk 1 (g := (9, [some (.ref 0), some (.int x1), some (.int x2), some (.ref 21), none], [.long (Int32.toInt64 p2), .int (0 : Int32), .ref 21], zz_hL s m o t, true)) rfl ?_
    refine am_go.last hcd_la_chunk rfl rfl (by decide) ?_
    refine am_go.blk hcd_la_chunk 2 (g := (22, [some (.ref 0), some (.int x1), some (.int x2), some (.ref 21), none], [.int (0 : Int32)], zz_hL s m (vp_updL o (Int32.toNatClampNeg (0 : Int32)) (Int32.toInt64 p2)) t, true)) rfl ?_
    cases hF
    exact am_go.ret hcd_la_chunk rfl rfl ⟨rfl, rfl, (fun h => by cases h), Or.inl rfl, rfl⟩
theorem hcd_la_cut : am_code 170 = am_c_la_cut := rfl
def fz_la_cut (sc : am_S) (s : am_Z) (m : am_Z) (o : (Nat → Int64)) (t : am_H) (x1 : Int32) : Option (Int32 × am_Z × am_Z × (Nat → Int64) × am_H) :=
  (fz_sh_cut s x1).bind fun q1 =>
  zz_el (fun x =>
    if x = 9 then
      some ((1 : Int32), s, m, o, (t ++ [.inl (9, [])]))
    else
    none) (fun p2 =>
    some ((0 : Int32), p2, m, o, t)) q1
theorem tz_la_cut  {sc : am_S} {s : am_Z} {m : am_Z} {o : (Nat → Int64)} {t : am_H} {x1 : Int32} {r : Int32 × am_Z × am_Z × (Nat → Int64) × am_H} (hF : fz_la_cut sc s m o t x1 = some r) : am_ev sc 7 170 [.ref 0, .int x1] (zz_hL s m o t) ((.inl (some (.int r.1)), zz_hL r.2.1 r.2.2.1 r.2.2.2.1 r.2.2.2.2, true) : am_R) := by
  unfold fz_la_cut at hF
  refine am_ev.of true rfl ?_
  show am_go sc _ _ _ _ (0, [some (.ref 0), some (.int x1), none], [], zz_hL s m o t, true) _
  refine am_go.blk hcd_la_cut 2 (g := (2, [some (.ref 0), some (.int x1), none], [.int x1, .ref 0], zz_hL s m o t, true)) rfl ?_
  obtain ⟨q1, hq1, hF⟩ := am_bd hF
  rcases q1 with x | p2
  · replace hF := (show zz_el _ _ (.inl x) = _ from hF)
    simp only [zz_el] at hF
    by_cases hx : x = 9
    · replace hF := (if_pos hx).symm.trans hF
      subst hx
      refine am_go.caught hcd_la_cut rfl rfl rfl rfl rfl (am_le8 rfl) (am_ev.le (by decide) (tz_sh_cut (t := zz_M m ++ (.inr (.inr (1, o)) :: t)) hq1)) (zz_ex _ _) rfl ?_
      refine am_go.blk hcd_la_cut 2 (g := (10, [some (.ref 0), some (.int x1), some (.ref (zz_hL s m o t).length)], [.int (1 : Int32)], zz_hL s m o (t ++ [.inl (9, [])]), true)) rfl ?_
      cases hF
      exact am_go.ret hcd_la_cut rfl rfl ⟨rfl, rfl, (fun h => by cases h), Or.inl rfl, rfl⟩
    replace hF := (if_neg hx).symm.trans hF
    cases hF
  · simp only [zz_el] at hF
    refine am_go.call hcd_la_cut rfl rfl rfl rfl (am_le8 rfl) (am_ev.le (by decide) (tz_sh_cut (t := zz_M m ++ (.inr (.inr (1, o)) :: t)) hq1)) ?_
    refine am_go.blk hcd_la_cut 2 (g := (12, [some (.ref 0), some (.int x1), none], [.int (0 : Int32)], zz_hL p2 m o t, true)) rfl ?_
    cases hF
    exact am_go.ret hcd_la_cut rfl rfl ⟨rfl, rfl, (fun h => by cases h), Or.inl rfl, rfl⟩
theorem hcd_la_type : am_code 169 = am_c_la_type := rfl
def fz_la_type (sc : am_S) (s : am_Z) (m : am_Z) (o : (Nat → Int64)) (t : am_H) (x1 : Int64) (x3 : Int32) : Option (Int32 × am_Z × am_Z × (Nat → Int64) × am_H) :=
  (fz_sh_type s x1 x3).bind fun q1 =>
  zz_el (fun x =>
    if x = 9 then
      some ((1 : Int32), s, m, o, (t ++ [.inl (9, [])]))
    else
    if x = 10 then
      some ((2 : Int32), s, m, o, (t ++ [.inl (10, [])]))
    else
    none) (fun p2 =>
    some ((0 : Int32), p2.2, m, (vp_updL o (Int32.toNatClampNeg (0 : Int32)) (Int32.toInt64 p2.1)), t)) q1
theorem tz_la_type  {sc : am_S} {s : am_Z} {m : am_Z} {o : (Nat → Int64)} {t : am_H} {x1 : Int64} {x3 : Int32} {r : Int32 × am_Z × am_Z × (Nat → Int64) × am_H} (hF : fz_la_type sc s m o t x1 x3 = some r) : am_ev sc 7 169 [.ref 0, .long x1, .int x3, .ref 21] (zz_hL s m o t) ((.inl (some (.int r.1)), zz_hL r.2.1 r.2.2.1 r.2.2.2.1 r.2.2.2.2, true) : am_R) := by
  unfold fz_la_type at hF
  refine am_ev.of true rfl ?_
  show am_go sc _ _ _ _ (0, [some (.ref 0), some (.long x1), none, some (.int x3), some (.ref 21), none], [], zz_hL s m o t, true) _
  refine am_go.blk hcd_la_type 5 (g := (6, [some (.ref 0), some (.long x1), none, some (.int x3), some (.ref 21), none], [.int x3, .long x1, .ref 0, .int (0 : Int32), .ref 21], zz_hL s m o t, true)) rfl ?_
  obtain ⟨q1, hq1, hF⟩ := am_bd hF
  rcases q1 with x | p2
  · replace hF := (show zz_el _ _ (.inl x) = _ from hF)
    simp only [zz_el] at hF
    by_cases hx : x = 9
    · replace hF := (if_pos hx).symm.trans hF
      subst hx
      refine am_go.caught hcd_la_type rfl rfl rfl rfl rfl (am_le8 rfl) (am_ev.le (by decide) (tz_sh_type (t := zz_M m ++ (.inr (.inr (1, o)) :: t)) hq1)) (zz_ex _ _) rfl ?_
      refine am_go.blk hcd_la_type 2 (g := (17, [some (.ref 0), some (.long x1), none, some (.int x3), some (.ref 21), some (.ref (zz_hL s m o t).length)], [.int (1 : Int32)], zz_hL s m o (t ++ [.inl (9, [])]), true)) rfl ?_
      cases hF
      exact am_go.ret hcd_la_type rfl rfl ⟨rfl, rfl, (fun h => by cases h), Or.inl rfl, rfl⟩
    replace hF := (if_neg hx).symm.trans hF
    by_cases hx : x = 10
    · replace hF := (if_pos hx).symm.trans hF
      subst hx
      refine am_go.caught hcd_la_type rfl rfl rfl rfl rfl (am_le8 rfl) (am_ev.le (by decide) (tz_sh_type (t := zz_M m ++ (.inr (.inr (1, o)) :: t)) hq1)) (zz_ex _ _) rfl ?_
      refine am_go.blk hcd_la_type 2 (g := (21, [some (.ref 0), some (.long x1), none, some (.int x3), some (.ref 21), some (.ref (zz_hL s m o t).length)], [.int (2 : Int32)], zz_hL s m o (t ++ [.inl (10, [])]), true)) rfl ?_
      cases hF
      exact am_go.ret hcd_la_type rfl rfl ⟨rfl, rfl, (fun h => by cases h), Or.inl rfl, rfl⟩
    replace hF := (if_neg hx).symm.trans hF
    cases hF
  · simp only [zz_el] at hF
    refine am_go.call hcd_la_type rfl rfl rfl rfl (am_le8 rfl) (am_ev.le (by decide) (tz_sh_type (t := zz_M m ++ (.inr (.inr (1, o)) :: t)) hq1)) ?_
    refine am_go.blk hcd_la_type 1 (g := (10, [some (.ref 0), some (.long x1), none, some (.int x3), some (.ref 21), none], [.long (Int32.toInt64 p2.1), .int (0 : Int32), .ref 21], zz_hL p2.2 m o t, true)) rfl ?_
    refine am_go.last hcd_la_type rfl rfl (by decide) ?_
    refine am_go.blk hcd_la_type 2 (g := (23, [some (.ref 0), some (.long x1), none, some (.int x3), some (.ref 21), none], [.int (0 : Int32)], zz_hL p2.2 m (vp_updL o (Int32.toNatClampNeg (0 : Int32)) (Int32.toInt64 p2.1)) t, true)) rfl ?_
    cases hF
    exact am_go.ret hcd_la_type rfl rfl ⟨rfl, rfl, (fun h => by cases h), Or.inl rfl, rfl⟩
theorem hcd_la_poke : am_code 168 = am_c_la_poke := rfl
def fz_la_poke (sc : am_S) (s : am_Z) (m : am_Z) (o : (Nat → Int64)) (t : am_H) (x1 : Int32) (x2 : Int32) : Option (Int32 × am_Z × am_Z × (Nat → Int64) × am_H) :=
  (fz_sh_poke s x1 x2).bind fun q1 =>
  zz_el (fun x =>
    if x = 11 then
      some ((1 : Int32), s, m, o, (t ++ [.inl (11, [])]))
    else
    if x = 9 then
      some ((2 : Int32), s, m, o, (t ++ [.inl (9, [])]))
    else
    none) (fun p2 =>
    some ((0 : Int32), p2, m, o, t)) q1
theorem tz_la_poke  {sc : am_S} {s : am_Z} {m : am_Z} {o : (Nat → Int64)} {t : am_H} {x1 : Int32} {x2 : Int32} {r : Int32 × am_Z × am_Z × (Nat → Int64) × am_H} (hF : fz_la_poke sc s m o t x1 x2 = some r) : am_ev sc 7 168 [.ref 0, .int x1, .int x2] (zz_hL s m o t) ((.inl (some (.int r.1)), zz_hL r.2.1 r.2.2.1 r.2.2.2.1 r.2.2.2.2, true) : am_R) := by
  unfold fz_la_poke at hF
  refine am_ev.of true rfl ?_
  show am_go sc _ _ _ _ (0, [some (.ref 0), some (.int x1), some (.int x2), none], [], zz_hL s m o t, true) _
  refine am_go.blk hcd_la_poke 3 (g := (3, [some (.ref 0), some (.int x1), some (.int x2), none], [.int x2, .int x1, .ref 0], zz_hL s m o t, true)) rfl ?_
  obtain ⟨q1, hq1, hF⟩ := am_bd hF
  rcases q1 with x | p2
  · replace hF := (show zz_el _ _ (.inl x) = _ from hF)
    simp only [zz_el] at hF
    by_cases hx : x = 11
    · replace hF := (if_pos hx).symm.trans hF
      subst hx
      refine am_go.caught hcd_la_poke rfl rfl rfl rfl rfl (am_le8 rfl) (am_ev.le (by decide) (tz_sh_poke (t := zz_M m ++ (.inr (.inr (1, o)) :: t)) hq1)) (zz_ex _ _) rfl ?_
      refine am_go.blk hcd_la_poke 2 (g := (11, [some (.ref 0), some (.int x1), some (.int x2), some (.ref (zz_hL s m o t).length)], [.int (1 : Int32)], zz_hL s m o (t ++ [.inl (11, [])]), true)) rfl ?_
      cases hF
      exact am_go.ret hcd_la_poke rfl rfl ⟨rfl, rfl, (fun h => by cases h), Or.inl rfl, rfl⟩
    replace hF := (if_neg hx).symm.trans hF
    by_cases hx : x = 9
    · replace hF := (if_pos hx).symm.trans hF
      subst hx
      refine am_go.caught hcd_la_poke rfl rfl rfl rfl rfl (am_le8 rfl) (am_ev.le (by decide) (tz_sh_poke (t := zz_M m ++ (.inr (.inr (1, o)) :: t)) hq1)) (zz_ex _ _) rfl ?_
      refine am_go.blk hcd_la_poke 2 (g := (14, [some (.ref 0), some (.int x1), some (.int x2), some (.ref (zz_hL s m o t).length)], [.int (2 : Int32)], zz_hL s m o (t ++ [.inl (9, [])]), true)) rfl ?_
      cases hF
      exact am_go.ret hcd_la_poke rfl rfl ⟨rfl, rfl, (fun h => by cases h), Or.inl rfl, rfl⟩
    replace hF := (if_neg hx).symm.trans hF
    cases hF
  · simp only [zz_el] at hF
    refine am_go.call hcd_la_poke rfl rfl rfl rfl (am_le8 rfl) (am_ev.le (by decide) (tz_sh_poke (t := zz_M m ++ (.inr (.inr (1, o)) :: t)) hq1)) ?_
    refine am_go.blk hcd_la_poke 2 (g := (16, [some (.ref 0), some (.int x1), some (.int x2), none], [.int (0 : Int32)], zz_hL p2 m o t, true)) rfl ?_
    cases hF
    exact am_go.ret hcd_la_poke rfl rfl ⟨rfl, rfl, (fun h => by cases h), Or.inl rfl, rfl⟩
theorem hcd_la_byteAt : am_code 167 = am_c_la_byteAt := rfl
def fz_la_byteAt (sc : am_S) (s : am_Z) (m : am_Z) (o : (Nat → Int64)) (t : am_H) (x1 : Int32) : Option (Int32 × am_Z × am_Z × (Nat → Int64) × am_H) :=
  (fz_sh_byteAt s x1).bind fun q1 =>
  zz_el (fun x =>
    if x = 11 then
      some ((1 : Int32), s, m, o, (t ++ [.inl (11, [])]))
    else
    none) (fun p2 =>
    some ((0 : Int32), s, m, (vp_updL o (Int32.toNatClampNeg (0 : Int32)) (Int32.toInt64 p2)), t)) q1
theorem tz_la_byteAt  {sc : am_S} {s : am_Z} {m : am_Z} {o : (Nat → Int64)} {t : am_H} {x1 : Int32} {r : Int32 × am_Z × am_Z × (Nat → Int64) × am_H} (hF : fz_la_byteAt sc s m o t x1 = some r) : am_ev sc 7 167 [.ref 0, .int x1, .ref 21] (zz_hL s m o t) ((.inl (some (.int r.1)), zz_hL r.2.1 r.2.2.1 r.2.2.2.1 r.2.2.2.2, true) : am_R) := by
  unfold fz_la_byteAt at hF
  refine am_ev.of true rfl ?_
  show am_go sc _ _ _ _ (0, [some (.ref 0), some (.int x1), some (.ref 21), none], [], zz_hL s m o t, true) _
  refine am_go.blk hcd_la_byteAt 4 (g := (4, [some (.ref 0), some (.int x1), some (.ref 21), none], [.int x1, .ref 0, .int (0 : Int32), .ref 21], zz_hL s m o t, true)) rfl ?_
  obtain ⟨q1, hq1, hF⟩ := am_bd hF
  rcases q1 with x | p2
  · replace hF := (show zz_el _ _ (.inl x) = _ from hF)
    simp only [zz_el] at hF
    by_cases hx : x = 11
    · replace hF := (if_pos hx).symm.trans hF
      subst hx
      refine am_go.caught hcd_la_byteAt rfl rfl rfl rfl rfl (am_le8 rfl) (am_ev.le (by decide) (tz_sh_byteAt (t := zz_M m ++ (.inr (.inr (1, o)) :: t)) hq1)) (zz_ex _ _) rfl ?_
      refine am_go.blk hcd_la_byteAt 2 (g := (14, [some (.ref 0), some (.int x1), some (.ref 21), some (.ref (zz_hL s m o t).length)], [.int (1 : Int32)], zz_hL s m o (t ++ [.inl (11, [])]), true)) rfl ?_
      cases hF
      exact am_go.ret hcd_la_byteAt rfl rfl ⟨rfl, rfl, (fun h => by cases h), Or.inl rfl, rfl⟩
    replace hF := (if_neg hx).symm.trans hF
    cases hF
  · simp only [zz_el] at hF
    refine am_go.call hcd_la_byteAt rfl rfl rfl rfl (am_le8 rfl) (am_ev.le (by decide) (tz_sh_byteAt (t := zz_M m ++ (.inr (.inr (1, o)) :: t)) hq1)) ?_
    refine am_go.blk hcd_la_byteAt 1 (g := (8, [some (.ref 0), some (.int x1), some (.ref 21), none], [.long (Int32.toInt64 p2), .int (0 : Int32), .ref 21], zz_hL s m o t, true)) rfl ?_
    refine am_go.last hcd_la_byteAt rfl rfl (by decide) ?_
    refine am_go.blk hcd_la_byteAt 2 (g := (16, [some (.ref 0), some (.int x1), some (.ref 21), none], [.int (0 : Int32)], zz_hL s m (vp_updL o (Int32.toNatClampNeg (0 : Int32)) (Int32.toInt64 p2)) t, true)) rfl ?_
    cases hF
    exact am_go.ret hcd_la_byteAt rfl rfl ⟨rfl, rfl, (fun h => by cases h), Or.inl rfl, rfl⟩
theorem hcd_la_form : am_code 166 = am_c_la_form := rfl
def fz_la_form (sc : am_S) (s : am_Z) (m : am_Z) (o : (Nat → Int64)) (t : am_H) : Option (Int32 × am_Z × am_Z × (Nat → Int64) × am_H) :=
  (fz_sh_form s).bind fun q1 =>
  zz_el (fun x =>
    if x = 10 then
      some ((1 : Int32), s, m, o, (t ++ [.inl (10, [])]))
    else
    none) (fun p2 =>
    some ((0 : Int32), s, m, (vp_updL o (Int32.toNatClampNeg (0 : Int32)) (Int32.toInt64 p2)), t)) q1
theorem tz_la_form  {sc : am_S} {s : am_Z} {m : am_Z} {o : (Nat → Int64)} {t : am_H} {r : Int32 × am_Z × am_Z × (Nat → Int64) × am_H} (hF : fz_la_form sc s m o t = some r) : am_ev sc 7 166 [.ref 0, .ref 21] (zz_hL s m o t) ((.inl (some (.int r.1)), zz_hL r.2.1 r.2.2.1 r.2.2.2.1 r.2.2.2.2, true) : am_R) := by
  unfold fz_la_form at hF
  refine am_ev.of true rfl ?_
  show am_go sc _ _ _ _ (0, [some (.ref 0), some (.ref 21), none], [], zz_hL s m o t, true) _
  refine am_go.blk hcd_la_form 3 (g := (3, [some (.ref 0), some (.ref 21), none], [.ref 0, .int (0 : Int32), .ref 21], zz_hL s m o t, true)) rfl ?_
  obtain ⟨q1, hq1, hF⟩ := am_bd hF
  rcases q1 with x | p2
  · replace hF := (show zz_el _ _ (.inl x) = _ from hF)
    simp only [zz_el] at hF
    by_cases hx : x = 10
    · replace hF := (if_pos hx).symm.trans hF
      subst hx
      refine am_go.caught hcd_la_form rfl rfl rfl rfl rfl (am_le8 rfl) (am_ev.le (by decide) (tz_sh_form (t := zz_M m ++ (.inr (.inr (1, o)) :: t)) hq1)) (zz_ex _ _) rfl ?_
      refine am_go.blk hcd_la_form 2 (g := (13, [some (.ref 0), some (.ref 21), some (.ref (zz_hL s m o t).length)], [.int (1 : Int32)], zz_hL s m o (t ++ [.inl (10, [])]), true)) rfl ?_
      cases hF
      exact am_go.ret hcd_la_form rfl rfl ⟨rfl, rfl, (fun h => by cases h), Or.inl rfl, rfl⟩
    replace hF := (if_neg hx).symm.trans hF
    cases hF
  · simp only [zz_el] at hF
    refine am_go.call hcd_la_form rfl rfl rfl rfl (am_le8 rfl) (am_ev.le (by decide) (tz_sh_form (t := zz_M m ++ (.inr (.inr (1, o)) :: t)) hq1)) ?_
    refine am_go.blk hcd_la_form 1 (g := (7, [some (.ref 0), some (.ref 21), none], [.long (Int32.toInt64 p2), .int (0 : Int32), .ref 21], zz_hL s m o t, true)) rfl ?_
    refine am_go.last hcd_la_form rfl rfl (by decide) ?_
    refine am_go.blk hcd_la_form 2 (g := (15, [some (.ref 0), some (.ref 21), none], [.int (0 : Int32)], zz_hL s m (vp_updL o (Int32.toNatClampNeg (0 : Int32)) (Int32.toInt64 p2)) t, true)) rfl ?_
    cases hF
    exact am_go.ret hcd_la_form rfl rfl ⟨rfl, rfl, (fun h => by cases h), Or.inl rfl, rfl⟩
theorem hcd_la_write : am_code 165 = am_c_la_write := rfl
def fz_la_write (sc : am_S) (s : am_Z) (m : am_Z) (o : (Nat → Int64)) (t : am_H) (x1 : Int32) (x2 : Int32) : Option (Int32 × am_Z × am_Z × (Nat → Int64) × am_H) :=
  (fz_sh_write s x1 x2).bind fun q1 =>
  zz_el (fun x =>
    if x = 9 then
      some ((1 : Int32), s, m, o, (t ++ [.inl (9, [])]))
    else
    none) (fun p2 =>
    some ((0 : Int32), p2.2, m, (vp_updL o (Int32.toNatClampNeg (0 : Int32)) (Int32.toInt64 p2.1)), t)) q1
theorem tz_la_write  {sc : am_S} {s : am_Z} {m : am_Z} {o : (Nat → Int64)} {t : am_H} {x1 : Int32} {x2 : Int32} {r : Int32 × am_Z × am_Z × (Nat → Int64) × am_H} (hF : fz_la_write sc s m o t x1 x2 = some r) : am_ev sc 8 165 [.ref 0, .int x1, .int x2, .ref 21] (zz_hL s m o t) ((.inl (some (.int r.1)), zz_hL r.2.1 r.2.2.1 r.2.2.2.1 r.2.2.2.2, true) : am_R) := by
  unfold fz_la_write at hF
  refine am_ev.of true rfl ?_
  show am_go sc _ _ _ _ (0, [some (.ref 0), some (.int x1), some (.int x2), some (.ref 21), none], [], zz_hL s m o t, true) _
  refine am_go.blk hcd_la_write 5 (g := (5, [some (.ref 0), some (.int x1), some (.int x2), some (.ref 21), none], [.int x2, .int x1, .ref 0, .int (0 : Int32), .ref 21], zz_hL s m o t, true)) rfl ?_
  obtain ⟨q1, hq1, hF⟩ := am_bd hF
  rcases q1 with x | p2
  · replace hF := (show zz_el _ _ (.inl x) = _ from hF)
    simp only [zz_el] at hF
    by_cases hx : x = 9
    · replace hF := (if_pos hx).symm.trans hF
      subst hx
      refine am_go.caught hcd_la_write rfl rfl rfl rfl rfl (am_le8 rfl) (am_ev.le (by decide) (tz_sh_write (t := zz_M m ++ (.inr (.inr (1, o)) :: t)) hq1)) (zz_ex _ _) rfl ?_
      refine am_go.blk hcd_la_write 2 (g := (16, [some (.ref 0), some (.int x1), some (.int x2), some (.ref 21), some (.ref (zz_hL s m o t).length)], [.int (1 : Int32)], zz_hL s m o (t ++ [.inl (9, [])]), true)) rfl ?_
      cases hF
      exact am_go.ret hcd_la_write rfl rfl ⟨rfl, rfl, (fun h => by cases h), Or.inl rfl, rfl⟩
    replace hF := (if_neg hx).symm.trans hF
    cases hF
  · simp only [zz_el] at hF
    refine am_go.call hcd_la_write rfl rfl rfl rfl (am_le8 rfl) (am_ev.le (by decide) (tz_sh_write (t := zz_M m ++ (.inr (.inr (1, o)) :: t)) hq1)) ?_
    refine am_go.blk hcd_la_write 1 (g := (9, [some (.ref 0), some (.int x1), some (.int x2), some (.ref 21), none], [.long (Int32.toInt64 p2.1), .int (0 : Int32), .ref 21], zz_hL p2.2 m o t, true)) rfl ?_
    refine am_go.last hcd_la_write rfl rfl (by decide) ?_
    refine am_go.blk hcd_la_write 2 (g := (18, [some (.ref 0), some (.int x1), some (.int x2), some (.ref 21), none], [.int (0 : Int32)], zz_hL p2.2 m (vp_updL o (Int32.toNatClampNeg (0 : Int32)) (Int32.toInt64 p2.1)) t, true)) rfl ?_
    cases hF
    exact am_go.ret hcd_la_write rfl rfl ⟨rfl, rfl, (fun h => by cases h), Or.inl rfl, rfl⟩
theorem hcd_la_tune : am_code 164 = am_c_la_tune := rfl
def fz_la_tune (sc : am_S) (s : am_Z) (m : am_Z) (o : (Nat → Int64)) (t : am_H) (x1 : Int32) : Option (Int32 × am_Z × am_Z × (Nat → Int64) × am_H) :=
  (fz_sh_tune s x1).bind fun q1 =>
  zz_el (fun x =>
    if x = 9 then
      some ((1 : Int32), s, m, o, (t ++ [.inl (9, [])]))
    else
    none) (fun p2 =>
    some ((0 : Int32), p2.2, m, (vp_updL o (Int32.toNatClampNeg (0 : Int32)) (Int32.toInt64 p2.1)), t)) q1
theorem tz_la_tune  {sc : am_S} {s : am_Z} {m : am_Z} {o : (Nat → Int64)} {t : am_H} {x1 : Int32} {r : Int32 × am_Z × am_Z × (Nat → Int64) × am_H} (hF : fz_la_tune sc s m o t x1 = some r) : am_ev sc 7 164 [.ref 0, .int x1, .ref 21] (zz_hL s m o t) ((.inl (some (.int r.1)), zz_hL r.2.1 r.2.2.1 r.2.2.2.1 r.2.2.2.2, true) : am_R) := by
  unfold fz_la_tune at hF
  refine am_ev.of true rfl ?_
  show am_go sc _ _ _ _ (0, [some (.ref 0), some (.int x1), some (.ref 21), none], [], zz_hL s m o t, true) _
  refine am_go.blk hcd_la_tune 4 (g := (4, [some (.ref 0), some (.int x1), some (.ref 21), none], [.int x1, .ref 0, .int (0 : Int32), .ref 21], zz_hL s m o t, true)) rfl ?_
  obtain ⟨q1, hq1, hF⟩ := am_bd hF
  rcases q1 with x | p2
  · replace hF := (show zz_el _ _ (.inl x) = _ from hF)
    simp only [zz_el] at hF
    by_cases hx : x = 9
    · replace hF := (if_pos hx).symm.trans hF
      subst hx
      refine am_go.caught hcd_la_tune rfl rfl rfl rfl rfl (am_le8 rfl) (am_ev.le (by decide) (tz_sh_tune (t := zz_M m ++ (.inr (.inr (1, o)) :: t)) hq1)) (zz_ex _ _) rfl ?_
      refine am_go.blk hcd_la_tune 2 (g := (14, [some (.ref 0), some (.int x1), some (.ref 21), some (.ref (zz_hL s m o t).length)], [.int (1 : Int32)], zz_hL s m o (t ++ [.inl (9, [])]), true)) rfl ?_
      cases hF
      exact am_go.ret hcd_la_tune rfl rfl ⟨rfl, rfl, (fun h => by cases h), Or.inl rfl, rfl⟩
    replace hF := (if_neg hx).symm.trans hF
    cases hF
  · simp only [zz_el] at hF
    refine am_go.call hcd_la_tune rfl rfl rfl rfl (am_le8 rfl) (am_ev.le (by decide) (tz_sh_tune (t := zz_M m ++ (.inr (.inr (1, o)) :: t)) hq1)) ?_
    refine am_go.blk hcd_la_tune 1 (g := (8, [some (.ref 0), some (.int x1), some (.ref 21), none], [.long (Int32.toInt64 p2.1), .int (0 : Int32), .ref 21], zz_hL p2.2 m o t, true)) rfl ?_
    refine am_go.last hcd_la_tune rfl rfl (by decide) ?_
    refine am_go.blk hcd_la_tune 2 (g := (16, [some (.ref 0), some (.int x1), some (.ref 21), none], [.int (0 : Int32)], zz_hL p2.2 m (vp_updL o (Int32.toNatClampNeg (0 : Int32)) (Int32.toInt64 p2.1)) t, true)) rfl ?_
    cases hF
    exact am_go.ret hcd_la_tune rfl rfl ⟨rfl, rfl, (fun h => by cases h), Or.inl rfl, rfl⟩
theorem hcd_la_at : am_code 163 = am_c_la_at := rfl
def fz_la_at (sc : am_S) (s : am_Z) (m : am_Z) (o : (Nat → Int64)) (t : am_H) (x1 : Int32) : Option (Int32 × am_Z × am_Z × (Nat → Int64) × am_H) :=
  (fz_sh_at s x1).bind fun q1 =>
  zz_el (fun x =>
    if x = 11 then
      some ((1 : Int32), s, m, o, (t ++ [.inl (11, [])]))
    else
    none) (fun p2 =>
    some ((0 : Int32), s, m, (vp_updL o (Int32.toNatClampNeg (0 : Int32)) (Int32.toInt64 p2)), t)) q1
theorem tz_la_at  {sc : am_S} {s : am_Z} {m : am_Z} {o : (Nat → Int64)} {t : am_H} {x1 : Int32} {r : Int32 × am_Z × am_Z × (Nat → Int64) × am_H} (hF : fz_la_at sc s m o t x1 = some r) : am_ev sc 7 163 [.ref 0, .int x1, .ref 21] (zz_hL s m o t) ((.inl (some (.int r.1)), zz_hL r.2.1 r.2.2.1 r.2.2.2.1 r.2.2.2.2, true) : am_R) := by
  unfold fz_la_at at hF
  refine am_ev.of true rfl ?_
  show am_go sc _ _ _ _ (0, [some (.ref 0), some (.int x1), some (.ref 21), none], [], zz_hL s m o t, true) _
  refine am_go.blk hcd_la_at 4 (g := (4, [some (.ref 0), some (.int x1), some (.ref 21), none], [.int x1, .ref 0, .int (0 : Int32), .ref 21], zz_hL s m o t, true)) rfl ?_
  obtain ⟨q1, hq1, hF⟩ := am_bd hF
  rcases q1 with x | p2
  · replace hF := (show zz_el _ _ (.inl x) = _ from hF)
    simp only [zz_el] at hF
    by_cases hx : x = 11
    · replace hF := (if_pos hx).symm.trans hF
      subst hx
      refine am_go.caught hcd_la_at rfl rfl rfl rfl rfl (am_le8 rfl) (am_ev.le (by decide) (tz_sh_at (t := zz_M m ++ (.inr (.inr (1, o)) :: t)) hq1)) (zz_ex _ _) rfl ?_
      refine am_go.blk hcd_la_at 2 (g := (14, [some (.ref 0), some (.int x1), some (.ref 21), some (.ref (zz_hL s m o t).length)], [.int (1 : Int32)], zz_hL s m o (t ++ [.inl (11, [])]), true)) rfl ?_
      cases hF
      exact am_go.ret hcd_la_at rfl rfl ⟨rfl, rfl, (fun h => by cases h), Or.inl rfl, rfl⟩
    replace hF := (if_neg hx).symm.trans hF
    cases hF
  · simp only [zz_el] at hF
    refine am_go.call hcd_la_at rfl rfl rfl rfl (am_le8 rfl) (am_ev.le (by decide) (tz_sh_at (t := zz_M m ++ (.inr (.inr (1, o)) :: t)) hq1)) ?_
    refine am_go.blk hcd_la_at 1 (g := (8, [some (.ref 0), some (.int x1), some (.ref 21), none], [.long (Int32.toInt64 p2), .int (0 : Int32), .ref 21], zz_hL s m o t, true)) rfl ?_
    refine am_go.last hcd_la_at rfl rfl (by decide) ?_
    refine am_go.blk hcd_la_at 2 (g := (16, [some (.ref 0), some (.int x1), some (.ref 21), none], [.int (0 : Int32)], zz_hL s m (vp_updL o (Int32.toNatClampNeg (0 : Int32)) (Int32.toInt64 p2)) t, true)) rfl ?_
    cases hF
    exact am_go.ret hcd_la_at rfl rfl ⟨rfl, rfl, (fun h => by cases h), Or.inl rfl, rfl⟩
theorem hcd_la_add : am_code 162 = am_c_la_add := rfl
def fz_la_add (sc : am_S) (s : am_Z) (m : am_Z) (o : (Nat → Int64)) (t : am_H) (x1 : Int32) : Option (Int32 × am_Z × am_Z × (Nat → Int64) × am_H) :=
  (fz_sh_add s x1).bind fun q1 =>
  zz_el (fun x =>
    if x = 9 then
      some ((1 : Int32), s, m, o, (t ++ [.inl (9, [])]))
    else
    if x = 10 then
      some ((2 : Int32), s, m, o, (t ++ [.inl (10, [])]))
    else
    none) (fun p2 =>
    some ((0 : Int32), p2.2, m, (vp_updL o (Int32.toNatClampNeg (0 : Int32)) (Int32.toInt64 p2.1)), t)) q1
theorem tz_la_add  {sc : am_S} {s : am_Z} {m : am_Z} {o : (Nat → Int64)} {t : am_H} {x1 : Int32} {r : Int32 × am_Z × am_Z × (Nat → Int64) × am_H} (hF : fz_la_add sc s m o t x1 = some r) : am_ev sc 7 162 [.ref 0, .int x1, .ref 21] (zz_hL s m o t) ((.inl (some (.int r.1)), zz_hL r.2.1 r.2.2.1 r.2.2.2.1 r.2.2.2.2, true) : am_R) := by
  unfold fz_la_add at hF
  refine am_ev.of true rfl ?_
  show am_go sc _ _ _ _ (0, [some (.ref 0), some (.int x1), some (.ref 21), none], [], zz_hL s m o t, true) _
  refine am_go.blk hcd_la_add 4 (g := (4, [some (.ref 0), some (.int x1), some (.ref 21), none], [.int x1, .ref 0, .int (0 : Int32), .ref 21], zz_hL s m o t, true)) rfl ?_
  obtain ⟨q1, hq1, hF⟩ := am_bd hF
  rcases q1 with x | p2
  · replace hF := (show zz_el _ _ (.inl x) = _ from hF)
    simp only [zz_el] at hF
    by_cases hx : x = 9
    · replace hF := (if_pos hx).symm.trans hF
      subst hx
      refine am_go.caught hcd_la_add rfl rfl rfl rfl rfl (am_le8 rfl) (am_ev.le (by decide) (tz_sh_add (t := zz_M m ++ (.inr (.inr (1, o)) :: t)) hq1)) (zz_ex _ _) rfl ?_
      refine am_go.blk hcd_la_add 2 (g := (14, [some (.ref 0), some (.int x1), some (.ref 21), some (.ref (zz_hL s m o t).length)], [.int (1 : Int32)], zz_hL s m o (t ++ [.inl (9, [])]), true)) rfl ?_
      cases hF
      exact am_go.ret hcd_la_add rfl rfl ⟨rfl, rfl, (fun h => by cases h), Or.inl rfl, rfl⟩
    replace hF := (if_neg hx).symm.trans hF
    by_cases hx : x = 10
    · replace hF := (if_pos hx).symm.trans hF
      subst hx
      refine am_go.caught hcd_la_add rfl rfl rfl rfl rfl (am_le8 rfl) (am_ev.le (by decide) (tz_sh_add (t := zz_M m ++ (.inr (.inr (1, o)) :: t)) hq1)) (zz_ex _ _) rfl ?_
      refine am_go.blk hcd_la_add 2 (g := (17, [some (.ref 0), some (.int x1), some (.ref 21), some (.ref (zz_hL s m o t).length)], [.int (2 : Int32)], zz_hL s m o (t ++ [.inl (10, [])]), true)) rfl ?_
      cases hF
      exact am_go.ret hcd_la_add rfl rfl ⟨rfl, rfl, (fun h => by cases h), Or.inl rfl, rfl⟩
    replace hF := (if_neg hx).symm.trans hF
    cases hF
  · simp only [zz_el] at hF
    refine am_go.call hcd_la_add rfl rfl rfl rfl (am_le8 rfl) (am_ev.le (by decide) (tz_sh_add (t := zz_M m ++ (.inr (.inr (1, o)) :: t)) hq1)) ?_
    refine am_go.blk hcd_la_add 1 (g := (8, [some (.ref 0), some (.int x1), some (.ref 21), none], [.long (Int32.toInt64 p2.1), .int (0 : Int32), .ref 21], zz_hL p2.2 m o t, true)) rfl ?_
    refine am_go.last hcd_la_add rfl rfl (by decide) ?_
    refine am_go.blk hcd_la_add 2 (g := (19, [some (.ref 0), some (.int x1), some (.ref 21), none], [.int (0 : Int32)], zz_hL p2.2 m (vp_updL o (Int32.toNatClampNeg (0 : Int32)) (Int32.toInt64 p2.1)) t, true)) rfl ?_
    cases hF
    exact am_go.ret hcd_la_add rfl rfl ⟨rfl, rfl, (fun h => by cases h), Or.inl rfl, rfl⟩
theorem hcd_la_law : am_code 172 = am_c_la_law := rfl
def fz_la_law_782 (sc : am_S) (K23 : Int32 → am_Z → am_Z → (Nat → Int64) → am_H → Option (Int32 × am_Z × am_Z × (Nat → Int64) × am_H)) (x4 : Int32) (s : am_Z) (m : am_Z) (o : (Nat → Int64)) (t : am_H) : Option (Int32 × am_Z × am_Z × (Nat → Int64) × am_H) :=
  K23 (x4 + (4 : Int32)) s m o t
set_option maxRecDepth 20000 in
theorem tz_la_law_782  {h0 : am_H} {sc : am_S} {K23 : Int32 → am_Z → am_Z → (Nat → Int64) → am_H → Option (Int32 × am_Z × am_Z × (Nat → Int64) × am_H)} (hK23 : ∀ (x4 : Int32) (s : am_Z) (m : am_Z) (o : (Nat → Int64)) (t : am_H) (r : Int32 × am_Z × am_Z × (Nat → Int64) × am_H), K23 x4 s m o t = some r → am_go sc 9 (am_ev sc 8) 172 h0 (23, [some (.float 4), some (.ref 0), some (.ref 16), some (.ref 21), some (.int x4), none, none], [], zz_hL s m o t, true) ((.inl (some (.int r.1)), zz_hL r.2.1 r.2.2.1 r.2.2.2.1 r.2.2.2.2, true) : am_R)) {x4 : Int32} {s : am_Z} {m : am_Z} {o : (Nat → Int64)} {t : am_H} {r : Int32 × am_Z × am_Z × (Nat → Int64) × am_H} (hF : fz_la_law_782 sc K23 x4 s m o t = some r) : am_go sc 9 (am_ev sc 8) 172 h0 (782, [some (.float 4), some (.ref 0), some (.ref 16), some (.ref 21), some (.int x4), none, none], [], zz_hL s m o t, true) ((.inl (some (.int r.1)), zz_hL r.2.1 r.2.2.1 r.2.2.2.1 r.2.2.2.2, true) : am_R) := by
  unfold fz_la_law_782 at hF
  refine am_go.blk hcd_la_law 2 (g := (23, [some (.float 4), some (.ref 0), some (.ref 16), some (.ref 21), some (.int (x4 + (4 : Int32))), none, none], [], zz_hL s m o t, true)) rfl ?_
  exact hK23 _ _ _ _ _ _ hF
def fz_la_law_169 (sc : am_S) (K23 : Int32 → am_Z → am_Z → (Nat → Int64) → am_H → Option (Int32 × am_Z × am_Z × (Nat → Int64) × am_H)) (x4 : Int32) (s : am_Z) (m : am_Z) (o : (Nat → Int64)) (t : am_H) : Option (Int32 × am_Z × am_Z × (Nat → Int64) × am_H) :=
  fz_la_law_782 sc K23 x4 s m o t
set_option maxRecDepth 20000 in
theorem tz_la_law_169  {h0 : am_H} {sc : am_S} {K23 : Int32 → am_Z → am_Z → (Nat → Int64) → am_H → Option (Int32 × am_Z × am_Z × (Nat → Int64) × am_H)} (hK23 : ∀ (x4 : Int32) (s : am_Z) (m : am_Z) (o : (Nat → Int64)) (t : am_H) (r : Int32 × am_Z × am_Z × (Nat → Int64) × am_H), K23 x4 s m o t = some r → am_go sc 9 (am_ev sc 8) 172 h0 (23, [some (.float 4), some (.ref 0), some (.ref 16), some (.ref 21), some (.int x4), none, none], [], zz_hL s m o t, true) ((.inl (some (.int r.1)), zz_hL r.2.1 r.2.2.1 r.2.2.2.1 r.2.2.2.2, true) : am_R)) {x4 : Int32} {s : am_Z} {m : am_Z} {o : (Nat → Int64)} {t : am_H} {r : Int32 × am_Z × am_Z × (Nat → Int64) × am_H} (hF : fz_la_law_169 sc K23 x4 s m o t = some r) : am_go sc 9 (am_ev sc 8) 172 h0 (169, [some (.float 4), some (.ref 0), some (.ref 16), some (.ref 21), some (.int x4), none, none], [], zz_hL s m o t, true) ((.inl (some (.int r.1)), zz_hL r.2.1 r.2.2.1 r.2.2.2.1 r.2.2.2.2, true) : am_R) := by
  unfold fz_la_law_169 at hF
  refine am_go.blk hcd_la_law 1 (g := (782, [some (.float 4), some (.ref 0), some (.ref 16), some (.ref 21), some (.int x4), none, none], [], zz_hL s m o t, true)) rfl ?_
  exact tz_la_law_782 (hK23 := hK23) hF
def fz_la_law_251 (sc : am_S) (K23 : Int32 → am_Z → am_Z → (Nat → Int64) → am_H → Option (Int32 × am_Z × am_Z × (Nat → Int64) × am_H)) (x4 : Int32) (s : am_Z) (m : am_Z) (o : (Nat → Int64)) (t : am_H) : Option (Int32 × am_Z × am_Z × (Nat → Int64) × am_H) :=
  fz_la_law_782 sc K23 x4 s m o t
set_option maxRecDepth 20000 in
theorem tz_la_law_251  {h0 : am_H} {sc : am_S} {K23 : Int32 → am_Z → am_Z → (Nat → Int64) → am_H → Option (Int32 × am_Z × am_Z × (Nat → Int64) × am_H)} (hK23 : ∀ (x4 : Int32) (s : am_Z) (m : am_Z) (o : (Nat → Int64)) (t : am_H) (r : Int32 × am_Z × am_Z × (Nat → Int64) × am_H), K23 x4 s m o t = some r → am_go sc 9 (am_ev sc 8) 172 h0 (23, [some (.float 4), some (.ref 0), some (.ref 16), some (.ref 21), some (.int x4), none, none], [], zz_hL s m o t, true) ((.inl (some (.int r.1)), zz_hL r.2.1 r.2.2.1 r.2.2.2.1 r.2.2.2.2, true) : am_R)) {x4 : Int32} {s : am_Z} {m : am_Z} {o : (Nat → Int64)} {t : am_H} {r : Int32 × am_Z × am_Z × (Nat → Int64) × am_H} (hF : fz_la_law_251 sc K23 x4 s m o t = some r) : am_go sc 9 (am_ev sc 8) 172 h0 (251, [some (.float 4), some (.ref 0), some (.ref 16), some (.ref 21), some (.int x4), none, none], [], zz_hL s m o t, true) ((.inl (some (.int r.1)), zz_hL r.2.1 r.2.2.1 r.2.2.2.1 r.2.2.2.2, true) : am_R) := by
  unfold fz_la_law_251 at hF
  refine am_go.blk hcd_la_law 1 (g := (782, [some (.float 4), some (.ref 0), some (.ref 16), some (.ref 21), some (.int x4), none, none], [], zz_hL s m o t, true)) rfl ?_
  exact tz_la_law_782 (hK23 := hK23) hF
def fz_la_law_307 (sc : am_S) (K23 : Int32 → am_Z → am_Z → (Nat → Int64) → am_H → Option (Int32 × am_Z × am_Z × (Nat → Int64) × am_H)) (x4 : Int32) (s : am_Z) (m : am_Z) (o : (Nat → Int64)) (t : am_H) : Option (Int32 × am_Z × am_Z × (Nat → Int64) × am_H) :=
  fz_la_law_782 sc K23 x4 s m o t
set_option maxRecDepth 20000 in
theorem tz_la_law_307  {h0 : am_H} {sc : am_S} {K23 : Int32 → am_Z → am_Z → (Nat → Int64) → am_H → Option (Int32 × am_Z × am_Z × (Nat → Int64) × am_H)} (hK23 : ∀ (x4 : Int32) (s : am_Z) (m : am_Z) (o : (Nat → Int64)) (t : am_H) (r : Int32 × am_Z × am_Z × (Nat → Int64) × am_H), K23 x4 s m o t = some r → am_go sc 9 (am_ev sc 8) 172 h0 (23, [some (.float 4), some (.ref 0), some (.ref 16), some (.ref 21), some (.int x4), none, none], [], zz_hL s m o t, true) ((.inl (some (.int r.1)), zz_hL r.2.1 r.2.2.1 r.2.2.2.1 r.2.2.2.2, true) : am_R)) {x4 : Int32} {s : am_Z} {m : am_Z} {o : (Nat → Int64)} {t : am_H} {r : Int32 × am_Z × am_Z × (Nat → Int64) × am_H} (hF : fz_la_law_307 sc K23 x4 s m o t = some r) : am_go sc 9 (am_ev sc 8) 172 h0 (307, [some (.float 4), some (.ref 0), some (.ref 16), some (.ref 21), some (.int x4), none, none], [], zz_hL s m o t, true) ((.inl (some (.int r.1)), zz_hL r.2.1 r.2.2.1 r.2.2.2.1 r.2.2.2.2, true) : am_R) := by
  unfold fz_la_law_307 at hF
  refine am_go.blk hcd_la_law 1 (g := (782, [some (.float 4), some (.ref 0), some (.ref 16), some (.ref 21), some (.int x4), none, none], [], zz_hL s m o t, true)) rfl ?_
  exact tz_la_law_782 (hK23 := hK23) hF
def fz_la_law_388 (sc : am_S) (K23 : Int32 → am_Z → am_Z → (Nat → Int64) → am_H → Option (Int32 × am_Z × am_Z × (Nat → Int64) × am_H)) (x4 : Int32) (s : am_Z) (m : am_Z) (o : (Nat → Int64)) (t : am_H) : Option (Int32 × am_Z × am_Z × (Nat → Int64) × am_H) :=
  fz_la_law_782 sc K23 x4 s m o t
set_option maxRecDepth 20000 in
theorem tz_la_law_388  {h0 : am_H} {sc : am_S} {K23 : Int32 → am_Z → am_Z → (Nat → Int64) → am_H → Option (Int32 × am_Z × am_Z × (Nat → Int64) × am_H)} (hK23 : ∀ (x4 : Int32) (s : am_Z) (m : am_Z) (o : (Nat → Int64)) (t : am_H) (r : Int32 × am_Z × am_Z × (Nat → Int64) × am_H), K23 x4 s m o t = some r → am_go sc 9 (am_ev sc 8) 172 h0 (23, [some (.float 4), some (.ref 0), some (.ref 16), some (.ref 21), some (.int x4), none, none], [], zz_hL s m o t, true) ((.inl (some (.int r.1)), zz_hL r.2.1 r.2.2.1 r.2.2.2.1 r.2.2.2.2, true) : am_R)) {x4 : Int32} {s : am_Z} {m : am_Z} {o : (Nat → Int64)} {t : am_H} {r : Int32 × am_Z × am_Z × (Nat → Int64) × am_H} (hF : fz_la_law_388 sc K23 x4 s m o t = some r) : am_go sc 9 (am_ev sc 8) 172 h0 (388, [some (.float 4), some (.ref 0), some (.ref 16), some (.ref 21), some (.int x4), none, none], [], zz_hL s m o t, true) ((.inl (some (.int r.1)), zz_hL r.2.1 r.2.2.1 r.2.2.2.1 r.2.2.2.2, true) : am_R) := by
  unfold fz_la_law_388 at hF
  refine am_go.blk hcd_la_law 1 (g := (782, [some (.float 4), some (.ref 0), some (.ref 16), some (.ref 21), some (.int x4), none, none], [], zz_hL s m o t, true)) rfl ?_
  exact tz_la_law_782 (hK23 := hK23) hF
def fz_la_law_445 (sc : am_S) (K23 : Int32 → am_Z → am_Z → (Nat → Int64) → am_H → Option (Int32 × am_Z × am_Z × (Nat → Int64) × am_H)) (x4 : Int32) (s : am_Z) (m : am_Z) (o : (Nat → Int64)) (t : am_H) : Option (Int32 × am_Z × am_Z × (Nat → Int64) × am_H) :=
  fz_la_law_782 sc K23 x4 s m o t
set_option maxRecDepth 20000 in
theorem tz_la_law_445  {h0 : am_H} {sc : am_S} {K23 : Int32 → am_Z → am_Z → (Nat → Int64) → am_H → Option (Int32 × am_Z × am_Z × (Nat → Int64) × am_H)} (hK23 : ∀ (x4 : Int32) (s : am_Z) (m : am_Z) (o : (Nat → Int64)) (t : am_H) (r : Int32 × am_Z × am_Z × (Nat → Int64) × am_H), K23 x4 s m o t = some r → am_go sc 9 (am_ev sc 8) 172 h0 (23, [some (.float 4), some (.ref 0), some (.ref 16), some (.ref 21), some (.int x4), none, none], [], zz_hL s m o t, true) ((.inl (some (.int r.1)), zz_hL r.2.1 r.2.2.1 r.2.2.2.1 r.2.2.2.2, true) : am_R)) {x4 : Int32} {s : am_Z} {m : am_Z} {o : (Nat → Int64)} {t : am_H} {r : Int32 × am_Z × am_Z × (Nat → Int64) × am_H} (hF : fz_la_law_445 sc K23 x4 s m o t = some r) : am_go sc 9 (am_ev sc 8) 172 h0 (445, [some (.float 4), some (.ref 0), some (.ref 16), some (.ref 21), some (.int x4), none, none], [], zz_hL s m o t, true) ((.inl (some (.int r.1)), zz_hL r.2.1 r.2.2.1 r.2.2.2.1 r.2.2.2.2, true) : am_R) := by
  unfold fz_la_law_445 at hF
  refine am_go.blk hcd_la_law 1 (g := (782, [some (.float 4), some (.ref 0), some (.ref 16), some (.ref 21), some (.int x4), none, none], [], zz_hL s m o t, true)) rfl ?_
  exact tz_la_law_782 (hK23 := hK23) hF
def fz_la_law_514 (sc : am_S) (K23 : Int32 → am_Z → am_Z → (Nat → Int64) → am_H → Option (Int32 × am_Z × am_Z × (Nat → Int64) × am_H)) (x4 : Int32) (s : am_Z) (m : am_Z) (o : (Nat → Int64)) (t : am_H) : Option (Int32 × am_Z × am_Z × (Nat → Int64) × am_H) :=
  fz_la_law_782 sc K23 x4 s m o t
set_option maxRecDepth 20000 in
theorem tz_la_law_514  {h0 : am_H} {sc : am_S} {K23 : Int32 → am_Z → am_Z → (Nat → Int64) → am_H → Option (Int32 × am_Z × am_Z × (Nat → Int64) × am_H)} (hK23 : ∀ (x4 : Int32) (s : am_Z) (m : am_Z) (o : (Nat → Int64)) (t : am_H) (r : Int32 × am_Z × am_Z × (Nat → Int64) × am_H), K23 x4 s m o t = some r → am_go sc 9 (am_ev sc 8) 172 h0 (23, [some (.float 4), some (.ref 0), some (.ref 16), some (.ref 21), some (.int x4), none, none], [], zz_hL s m o t, true) ((.inl (some (.int r.1)), zz_hL r.2.1 r.2.2.1 r.2.2.2.1 r.2.2.2.2, true) : am_R)) {x4 : Int32} {s : am_Z} {m : am_Z} {o : (Nat → Int64)} {t : am_H} {r : Int32 × am_Z × am_Z × (Nat → Int64) × am_H} (hF : fz_la_law_514 sc K23 x4 s m o t = some r) : am_go sc 9 (am_ev sc 8) 172 h0 (514, [some (.float 4), some (.ref 0), some (.ref 16), some (.ref 21), some (.int x4), none, none], [], zz_hL s m o t, true) ((.inl (some (.int r.1)), zz_hL r.2.1 r.2.2.1 r.2.2.2.1 r.2.2.2.2, true) : am_R) := by
  unfold fz_la_law_514 at hF
  refine am_go.blk hcd_la_law 1 (g := (782, [some (.float 4), some (.ref 0), some (.ref 16), some (.ref 21), some (.int x4), none, none], [], zz_hL s m o t, true)) rfl ?_
  exact tz_la_law_782 (hK23 := hK23) hF
def fz_la_law_662 (sc : am_S) (K23 : Int32 → am_Z → am_Z → (Nat → Int64) → am_H → Option (Int32 × am_Z × am_Z × (Nat → Int64) × am_H)) (x4 : Int32) (s : am_Z) (m : am_Z) (o : (Nat → Int64)) (t : am_H) : Option (Int32 × am_Z × am_Z × (Nat → Int64) × am_H) :=
  fz_la_law_782 sc K23 x4 s m o t
set_option maxRecDepth 20000 in
theorem tz_la_law_662  {h0 : am_H} {sc : am_S} {K23 : Int32 → am_Z → am_Z → (Nat → Int64) → am_H → Option (Int32 × am_Z × am_Z × (Nat → Int64) × am_H)} (hK23 : ∀ (x4 : Int32) (s : am_Z) (m : am_Z) (o : (Nat → Int64)) (t : am_H) (r : Int32 × am_Z × am_Z × (Nat → Int64) × am_H), K23 x4 s m o t = some r → am_go sc 9 (am_ev sc 8) 172 h0 (23, [some (.float 4), some (.ref 0), some (.ref 16), some (.ref 21), some (.int x4), none, none], [], zz_hL s m o t, true) ((.inl (some (.int r.1)), zz_hL r.2.1 r.2.2.1 r.2.2.2.1 r.2.2.2.2, true) : am_R)) {x4 : Int32} {s : am_Z} {m : am_Z} {o : (Nat → Int64)} {t : am_H} {r : Int32 × am_Z × am_Z × (Nat → Int64) × am_H} (hF : fz_la_law_662 sc K23 x4 s m o t = some r) : am_go sc 9 (am_ev sc 8) 172 h0 (662, [some (.float 4), some (.ref 0), some (.ref 16), some (.ref 21), some (.int x4), none, none], [], zz_hL s m o t, true) ((.inl (some (.int r.1)), zz_hL r.2.1 r.2.2.1 r.2.2.2.1 r.2.2.2.2, true) : am_R) := by
  unfold fz_la_law_662 at hF
  refine am_go.blk hcd_la_law 1 (g := (782, [some (.float 4), some (.ref 0), some (.ref 16), some (.ref 21), some (.int x4), none, none], [], zz_hL s m o t, true)) rfl ?_
  exact tz_la_law_782 (hK23 := hK23) hF
def fz_la_law_779 (sc : am_S) (K23 : Int32 → am_Z → am_Z → (Nat → Int64) → am_H → Option (Int32 × am_Z × am_Z × (Nat → Int64) × am_H)) (x4 : Int32) (s : am_Z) (m : am_Z) (o : (Nat → Int64)) (t : am_H) : Option (Int32 × am_Z × am_Z × (Nat → Int64) × am_H) :=
  fz_la_law_782 sc K23 x4 s m o t
set_option maxRecDepth 20000 in
theorem tz_la_law_779  {h0 : am_H} {sc : am_S} {K23 : Int32 → am_Z → am_Z → (Nat → Int64) → am_H → Option (Int32 × am_Z × am_Z × (Nat → Int64) × am_H)} (hK23 : ∀ (x4 : Int32) (s : am_Z) (m : am_Z) (o : (Nat → Int64)) (t : am_H) (r : Int32 × am_Z × am_Z × (Nat → Int64) × am_H), K23 x4 s m o t = some r → am_go sc 9 (am_ev sc 8) 172 h0 (23, [some (.float 4), some (.ref 0), some (.ref 16), some (.ref 21), some (.int x4), none, none], [], zz_hL s m o t, true) ((.inl (some (.int r.1)), zz_hL r.2.1 r.2.2.1 r.2.2.2.1 r.2.2.2.2, true) : am_R)) {x4 : Int32} {s : am_Z} {m : am_Z} {o : (Nat → Int64)} {t : am_H} {r : Int32 × am_Z × am_Z × (Nat → Int64) × am_H} (hF : fz_la_law_779 sc K23 x4 s m o t = some r) : am_go sc 9 (am_ev sc 8) 172 h0 (779, [some (.float 4), some (.ref 0), some (.ref 16), some (.ref 21), some (.int x4), none, none], [], zz_hL s m o t, true) ((.inl (some (.int r.1)), zz_hL r.2.1 r.2.2.1 r.2.2.2.1 r.2.2.2.2, true) : am_R) := by
  unfold fz_la_law_779 at hF
  refine am_go.blk hcd_la_law 1 (g := (782, [some (.float 4), some (.ref 0), some (.ref 16), some (.ref 21), some (.int x4), none, none], [], zz_hL s m o t, true)) rfl ?_
  exact tz_la_law_782 (hK23 := hK23) hF
def fz_la_law_23 (sc : am_S) : Nat → Int32 → am_Z → am_Z → (Nat → Int64) → am_H → Option (Int32 × am_Z × am_Z × (Nat → Int64) × am_H)
  | 0, _, _, _, _, _ => none
  | n + 1, x4, s, m, o, t =>
    if ((Int32.ofNat sc.1) - (4 : Int32)) < x4 then
      some ((1 : Int32), s, m, o, t)
    else
    if x4 < 0 ∨ sc.1 ≤ Int32.toNatClampNeg x4 then none else
    if Int32.toInt ((sc.2 (Int32.toNatClampNeg x4)) &&& (15 : Int32)) < 0 ∨ 15 < Int32.toInt ((sc.2 (Int32.toNatClampNeg x4)) &&& (15 : Int32)) then
      fz_la_law_782 sc (fz_la_law_23 sc n) x4 s m o t
    else
    if ((sc.2 (Int32.toNatClampNeg x4)) &&& (15 : Int32)) = 0 then
      if (x4 + (1 : Int32)) < 0 ∨ sc.1 ≤ Int32.toNatClampNeg (x4 + (1 : Int32)) then none else
      (fz_la_add sc s m o t (sc.2 (Int32.toNatClampNeg (x4 + (1 : Int32))))).bind fun q3 =>
      if (x4 + (1 : Int32)) < 0 ∨ sc.1 ≤ Int32.toNatClampNeg (x4 + (1 : Int32)) then none else
      (fz_mo_add q3.2.2.1 (sc.2 (Int32.toNatClampNeg (x4 + (1 : Int32))))).bind fun q5 =>
      (fz_mo_thrown q5.2).bind fun q6 =>
      if q6 = q3.1 then
        if ¬ q3.1 = 0 then
          fz_la_law_169 sc (fz_la_law_23 sc n) x4 q3.2.1 q5.2 q3.2.2.2.1 q3.2.2.2.2
        else
        if (lg_cmp (q3.2.2.2.1 (Int32.toNatClampNeg (0 : Int32))) (Int32.toInt64 q5.1)) = 0 then
          fz_la_law_169 sc (fz_la_law_23 sc n) x4 q3.2.1 q5.2 q3.2.2.2.1 q3.2.2.2.2
        else
        some ((0 : Int32), q3.2.1, q5.2, q3.2.2.2.1, q3.2.2.2.2)
      else
      some ((0 : Int32), q3.2.1, q5.2, q3.2.2.2.1, q3.2.2.2.2)
    else
    if ((sc.2 (Int32.toNatClampNeg x4)) &&& (15 : Int32)) = 1 then
      (fz_sh_clear s).bind fun q7 =>
      (fz_mo_clear m).bind fun q8 =>
      if q7.1 = q8.1 then
        fz_la_law_782 sc (fz_la_law_23 sc n) x4 q7.2 q8.2 o t
      else
      some ((0 : Int32), q7.2, q8.2, o, t)
    else
    if ((sc.2 (Int32.toNatClampNeg x4)) &&& (15 : Int32)) = 2 then
      (fz_sh_samples s).bind fun q9 =>
      (fz_mo_samples m).bind fun q10 =>
      if q9 = q10.1 then
        fz_la_law_782 sc (fz_la_law_23 sc n) x4 s q10.2 o t
      else
      some ((0 : Int32), s, q10.2, o, t)
    else
    if ((sc.2 (Int32.toNatClampNeg x4)) &&& (15 : Int32)) = 3 then
      if (x4 + (1 : Int32)) < 0 ∨ sc.1 ≤ Int32.toNatClampNeg (x4 + (1 : Int32)) then none else
      (fz_la_at sc s m o t (sc.2 (Int32.toNatClampNeg (x4 + (1 : Int32))))).bind fun q12 =>
      if (x4 + (1 : Int32)) < 0 ∨ sc.1 ≤ Int32.toNatClampNeg (x4 + (1 : Int32)) then none else
      (fz_mo_at q12.2.2.1 (sc.2 (Int32.toNatClampNeg (x4 + (1 : Int32))))).bind fun q14 =>
      (fz_mo_thrown q14.2).bind fun q15 =>
      if q15 = q12.1 then
        if ¬ q12.1 = 0 then
          fz_la_law_251 sc (fz_la_law_23 sc n) x4 q12.2.1 q14.2 q12.2.2.2.1 q12.2.2.2.2
        else
        if (lg_cmp (q12.2.2.2.1 (Int32.toNatClampNeg (0 : Int32))) (Int32.toInt64 q14.1)) = 0 then
          fz_la_law_251 sc (fz_la_law_23 sc n) x4 q12.2.1 q14.2 q12.2.2.2.1 q12.2.2.2.2
        else
        some ((0 : Int32), q12.2.1, q14.2, q12.2.2.2.1, q12.2.2.2.2)
      else
      some ((0 : Int32), q12.2.1, q14.2, q12.2.2.2.1, q12.2.2.2.2)
    else
    if ((sc.2 (Int32.toNatClampNeg x4)) &&& (15 : Int32)) = 4 then
      if (x4 + (1 : Int32)) < 0 ∨ sc.1 ≤ Int32.toNatClampNeg (x4 + (1 : Int32)) then none else
      (fz_la_tune sc s m o t (sc.2 (Int32.toNatClampNeg (x4 + (1 : Int32))))).bind fun q17 =>
      if (x4 + (1 : Int32)) < 0 ∨ sc.1 ≤ Int32.toNatClampNeg (x4 + (1 : Int32)) then none else
      (fz_mo_tune q17.2.2.1 (sc.2 (Int32.toNatClampNeg (x4 + (1 : Int32))))).bind fun q19 =>
      (fz_mo_thrown q19.2).bind fun q20 =>
      if q20 = q17.1 then
        if ¬ q17.1 = 0 then
          fz_la_law_307 sc (fz_la_law_23 sc n) x4 q17.2.1 q19.2 q17.2.2.2.1 q17.2.2.2.2
        else
        if (lg_cmp (q17.2.2.2.1 (Int32.toNatClampNeg (0 : Int32))) (Int32.toInt64 q19.1)) = 0 then
          fz_la_law_307 sc (fz_la_law_23 sc n) x4 q17.2.1 q19.2 q17.2.2.2.1 q17.2.2.2.2
        else
        some ((0 : Int32), q17.2.1, q19.2, q17.2.2.2.1, q17.2.2.2.2)
      else
      some ((0 : Int32), q17.2.1, q19.2, q17.2.2.2.1, q17.2.2.2.2)
    else
    if ((sc.2 (Int32.toNatClampNeg x4)) &&& (15 : Int32)) = 5 then
      (fz_sh_rate s).bind fun q21 =>
      (fz_mo_rate m).bind fun q22 =>
      if q21 = q22.1 then
        fz_la_law_782 sc (fz_la_law_23 sc n) x4 s q22.2 o t
      else
      some ((0 : Int32), s, q22.2, o, t)
    else
    if ((sc.2 (Int32.toNatClampNeg x4)) &&& (15 : Int32)) = 6 then
      if (x4 + (1 : Int32)) < 0 ∨ sc.1 ≤ Int32.toNatClampNeg (x4 + (1 : Int32)) then none else
      if (x4 + (2 : Int32)) < 0 ∨ sc.1 ≤ Int32.toNatClampNeg (x4 + (2 : Int32)) then none else
      (fz_la_write sc s m o t (sc.2 (Int32.toNatClampNeg (x4 + (1 : Int32)))) (sc.2 (Int32.toNatClampNeg (x4 + (2 : Int32))))).bind fun q25 =>
      if (x4 + (1 : Int32)) < 0 ∨ sc.1 ≤ Int32.toNatClampNeg (x4 + (1 : Int32)) then none else
      if (x4 + (2 : Int32)) < 0 ∨ sc.1 ≤ Int32.toNatClampNeg (x4 + (2 : Int32)) then none else
      (fz_mo_write q25.2.2.1 (sc.2 (Int32.toNatClampNeg (x4 + (1 : Int32)))) (sc.2 (Int32.toNatClampNeg (x4 + (2 : Int32))))).bind fun q28 =>
      (fz_mo_thrown q28.2).bind fun q29 =>
      if q29 = q25.1 then
        if ¬ q25.1 = 0 then
          fz_la_law_388 sc (fz_la_law_23 sc n) x4 q25.2.1 q28.2 q25.2.2.2.1 q25.2.2.2.2
        else
        if (lg_cmp (q25.2.2.2.1 (Int32.toNatClampNeg (0 : Int32))) (Int32.toInt64 q28.1)) = 0 then
          fz_la_law_388 sc (fz_la_law_23 sc n) x4 q25.2.1 q28.2 q25.2.2.2.1 q25.2.2.2.2
        else
        some ((0 : Int32), q25.2.1, q28.2, q25.2.2.2.1, q25.2.2.2.2)
      else
      some ((0 : Int32), q25.2.1, q28.2, q25.2.2.2.1, q25.2.2.2.2)
    else
    if ((sc.2 (Int32.toNatClampNeg x4)) &&& (15 : Int32)) = 7 then
      (fz_sh_read s).bind fun q30 =>
      (fz_mo_read m).bind fun q31 =>
      if q30.1 = q31.1 then
        fz_la_law_782 sc (fz_la_law_23 sc n) x4 q30.2 q31.2 o t
      else
      some ((0 : Int32), q30.2, q31.2, o, t)
    else
    if ((sc.2 (Int32.toNatClampNeg x4)) &&& (15 : Int32)) = 8 then
      (fz_la_form sc s m o t).bind fun q32 =>
      (fz_mo_form q32.2.2.1).bind fun q33 =>
      (fz_mo_thrown q33.2).bind fun q34 =>
      if q34 = q32.1 then
        if ¬ q32.1 = 0 then
          fz_la_law_445 sc (fz_la_law_23 sc n) x4 q32.2.1 q33.2 q32.2.2.2.1 q32.2.2.2.2
        else
        if (lg_cmp (q32.2.2.2.1 (Int32.toNatClampNeg (0 : Int32))) (Int32.toInt64 q33.1)) = 0 then
          fz_la_law_445 sc (fz_la_law_23 sc n) x4 q32.2.1 q33.2 q32.2.2.2.1 q32.2.2.2.2
        else
        some ((0 : Int32), q32.2.1, q33.2, q32.2.2.2.1, q32.2.2.2.2)
      else
      some ((0 : Int32), q32.2.1, q33.2, q32.2.2.2.1, q32.2.2.2.2)
    else
    if ((sc.2 (Int32.toNatClampNeg x4)) &&& (15 : Int32)) = 9 then
      (fz_sh_size s).bind fun q35 =>
      (fz_mo_size m).bind fun q36 =>
      if q35 = q36.1 then
        fz_la_law_782 sc (fz_la_law_23 sc n) x4 s q36.2 o t
      else
      some ((0 : Int32), s, q36.2, o, t)
    else
    if ((sc.2 (Int32.toNatClampNeg x4)) &&& (15 : Int32)) = 10 then
      if (x4 + (1 : Int32)) < 0 ∨ sc.1 ≤ Int32.toNatClampNeg (x4 + (1 : Int32)) then none else
      (fz_la_byteAt sc s m o t (sc.2 (Int32.toNatClampNeg (x4 + (1 : Int32))))).bind fun q38 =>
      if (x4 + (1 : Int32)) < 0 ∨ sc.1 ≤ Int32.toNatClampNeg (x4 + (1 : Int32)) then none else
      (fz_mo_byteAt q38.2.2.1 (sc.2 (Int32.toNatClampNeg (x4 + (1 : Int32))))).bind fun q40 =>
      (fz_mo_thrown q40.2).bind fun q41 =>
      if q41 = q38.1 then
        if ¬ q38.1 = 0 then
          fz_la_law_514 sc (fz_la_law_23 sc n) x4 q38.2.1 q40.2 q38.2.2.2.1 q38.2.2.2.2
        else
        if (lg_cmp (q38.2.2.2.1 (Int32.toNatClampNeg (0 : Int32))) (Int32.toInt64 q40.1)) = 0 then
          fz_la_law_514 sc (fz_la_law_23 sc n) x4 q38.2.1 q40.2 q38.2.2.2.1 q38.2.2.2.2
        else
        some ((0 : Int32), q38.2.1, q40.2, q38.2.2.2.1, q38.2.2.2.2)
      else
      some ((0 : Int32), q38.2.1, q40.2, q38.2.2.2.1, q38.2.2.2.2)
    else
    if ((sc.2 (Int32.toNatClampNeg x4)) &&& (15 : Int32)) = 11 then
      if (x4 + (1 : Int32)) < 0 ∨ sc.1 ≤ Int32.toNatClampNeg (x4 + (1 : Int32)) then none else
      if (x4 + (2 : Int32)) < 0 ∨ sc.1 ≤ Int32.toNatClampNeg (x4 + (2 : Int32)) then none else
      (fz_la_poke sc s m o t (sc.2 (Int32.toNatClampNeg (x4 + (1 : Int32)))) (sc.2 (Int32.toNatClampNeg (x4 + (2 : Int32))))).bind fun q44 =>
      if (x4 + (1 : Int32)) < 0 ∨ sc.1 ≤ Int32.toNatClampNeg (x4 + (1 : Int32)) then none else
      if (x4 + (2 : Int32)) < 0 ∨ sc.1 ≤ Int32.toNatClampNeg (x4 + (2 : Int32)) then none else
      (fz_mo_poke q44.2.2.1 (sc.2 (Int32.toNatClampNeg (x4 + (1 : Int32)))) (sc.2 (Int32.toNatClampNeg (x4 + (2 : Int32))))).bind fun q47 =>
      (fz_mo_thrown q47).bind fun q48 =>
      if q48 = q44.1 then
        fz_la_law_782 sc (fz_la_law_23 sc n) x4 q44.2.1 q47 q44.2.2.2.1 q44.2.2.2.2
      else
      some ((0 : Int32), q44.2.1, q47, q44.2.2.2.1, q44.2.2.2.2)
    else
    if ((sc.2 (Int32.toNatClampNeg x4)) &&& (15 : Int32)) = 12 then
      if (x4 + (1 : Int32)) < 0 ∨ sc.1 ≤ Int32.toNatClampNeg (x4 + (1 : Int32)) then none else
      if (x4 + (2 : Int32)) < 0 ∨ sc.1 ≤ Int32.toNatClampNeg (x4 + (2 : Int32)) then none else
      if (x4 + (3 : Int32)) < 0 ∨ sc.1 ≤ Int32.toNatClampNeg (x4 + (3 : Int32)) then none else
      (fz_la_type sc s m o t (((Int32.toInt64 (sc.2 (Int32.toNatClampNeg (x4 + (1 : Int32))))) <<< (Int32.toInt64 (32 : Int32) &&& 63)) ||| ((Int32.toInt64 (sc.2 (Int32.toNatClampNeg (x4 + (2 : Int32))))) &&& (4294967295 : Int64))) (sc.2 (Int32.toNatClampNeg (x4 + (3 : Int32))))).bind fun q52 =>
      if (x4 + (1 : Int32)) < 0 ∨ sc.1 ≤ Int32.toNatClampNeg (x4 + (1 : Int32)) then none else
      if (x4 + (2 : Int32)) < 0 ∨ sc.1 ≤ Int32.toNatClampNeg (x4 + (2 : Int32)) then none else
      if (x4 + (3 : Int32)) < 0 ∨ sc.1 ≤ Int32.toNatClampNeg (x4 + (3 : Int32)) then none else
      (fz_mo_type q52.2.2.1 (((Int32.toInt64 (sc.2 (Int32.toNatClampNeg (x4 + (1 : Int32))))) <<< (Int32.toInt64 (32 : Int32) &&& 63)) ||| ((Int32.toInt64 (sc.2 (Int32.toNatClampNeg (x4 + (2 : Int32))))) &&& (4294967295 : Int64))) (sc.2 (Int32.toNatClampNeg (x4 + (3 : Int32))))).bind fun q56 =>
      (fz_mo_thrown q56.2).bind fun q57 =>
      if q57 = q52.1 then
        if ¬ q52.1 = 0 then
          fz_la_law_662 sc (fz_la_law_23 sc n) x4 q52.2.1 q56.2 q52.2.2.2.1 q52.2.2.2.2
        else
        if (lg_cmp (q52.2.2.2.1 (Int32.toNatClampNeg (0 : Int32))) (Int32.toInt64 q56.1)) = 0 then
          fz_la_law_662 sc (fz_la_law_23 sc n) x4 q52.2.1 q56.2 q52.2.2.2.1 q52.2.2.2.2
        else
        some ((0 : Int32), q52.2.1, q56.2, q52.2.2.2.1, q52.2.2.2.2)
      else
      some ((0 : Int32), q52.2.1, q56.2, q52.2.2.2.1, q52.2.2.2.2)
    else
    if ((sc.2 (Int32.toNatClampNeg x4)) &&& (15 : Int32)) = 13 then
      if (x4 + (1 : Int32)) < 0 ∨ sc.1 ≤ Int32.toNatClampNeg (x4 + (1 : Int32)) then none else
      (fz_la_cut sc s m o t (sc.2 (Int32.toNatClampNeg (x4 + (1 : Int32))))).bind fun q59 =>
      if (x4 + (1 : Int32)) < 0 ∨ sc.1 ≤ Int32.toNatClampNeg (x4 + (1 : Int32)) then none else
      (fz_mo_cut q59.2.2.1 (sc.2 (Int32.toNatClampNeg (x4 + (1 : Int32))))).bind fun q61 =>
      (fz_mo_thrown q61).bind fun q62 =>
      if q62 = q59.1 then
        fz_la_law_782 sc (fz_la_law_23 sc n) x4 q59.2.1 q61 q59.2.2.2.1 q59.2.2.2.2
      else
      some ((0 : Int32), q59.2.1, q61, q59.2.2.2.1, q59.2.2.2.2)
    else
    if ((sc.2 (Int32.toNatClampNeg x4)) &&& (15 : Int32)) = 14 then
      (fz_sh_chunks s).bind fun q63 =>
      (fz_mo_chunks m).bind fun q64 =>
      if q63 = q64.1 then
        fz_la_law_782 sc (fz_la_law_23 sc n) x4 s q64.2 o t
      else
      some ((0 : Int32), s, q64.2, o, t)
    else
    if ((sc.2 (Int32.toNatClampNeg x4)) &&& (15 : Int32)) = 15 then
      if (x4 + (1 : Int32)) < 0 ∨ sc.1 ≤ Int32.toNatClampNeg (x4 + (1 : Int32)) then none else
      if (x4 + (2 : Int32)) < 0 ∨ sc.1 ≤ Int32.toNatClampNeg (x4 + (2 : Int32)) then none else
      (fz_la_chunk sc s m o t (sc.2 (Int32.toNatClampNeg (x4 + (1 : Int32)))) (sc.2 (Int32.toNatClampNeg (x4 + (2 : Int32))))).bind fun q67 =>
      if (x4 + (1 : Int32)) < 0 ∨ sc.1 ≤ Int32.toNatClampNeg (x4 + (1 : Int32)) then none else
      if (x4 + (2 : Int32)) < 0 ∨ sc.1 ≤ Int32.toNatClampNeg (x4 + (2 : Int32)) then none else
      (fz_mo_chunk q67.2.2.1 (sc.2 (Int32.toNatClampNeg (x4 + (1 : Int32)))) (sc.2 (Int32.toNatClampNeg (x4 + (2 : Int32))))).bind fun q70 =>
      (fz_mo_thrown q70.2).bind fun q71 =>
      if q71 = q67.1 then
        if ¬ q67.1 = 0 then
          fz_la_law_779 sc (fz_la_law_23 sc n) x4 q67.2.1 q70.2 q67.2.2.2.1 q67.2.2.2.2
        else
        if (lg_cmp (q67.2.2.2.1 (Int32.toNatClampNeg (0 : Int32))) (Int32.toInt64 q70.1)) = 0 then
          fz_la_law_779 sc (fz_la_law_23 sc n) x4 q67.2.1 q70.2 q67.2.2.2.1 q67.2.2.2.2
        else
        some ((0 : Int32), q67.2.1, q70.2, q67.2.2.2.1, q67.2.2.2.2)
      else
      some ((0 : Int32), q67.2.1, q70.2, q67.2.2.2.1, q67.2.2.2.2)
    else
    none
set_option maxRecDepth 20000 in
theorem tz_la_law_23  {h0 : am_H} {sc : am_S}   : ∀ (n : Nat) (x4 : Int32) (s : am_Z) (m : am_Z) (o : (Nat → Int64)) (t : am_H) (r : Int32 × am_Z × am_Z × (Nat → Int64) × am_H), fz_la_law_23 sc n x4 s m o t = some r → am_go sc 9 (am_ev sc 8) 172 h0 (23, [some (.float 4), some (.ref 0), some (.ref 16), some (.ref 21), some (.int x4), none, none], [], zz_hL s m o t, true) ((.inl (some (.int r.1)), zz_hL r.2.1 r.2.2.1 r.2.2.2.1 r.2.2.2.2, true) : am_R) := by
  intro n
  induction n with
  | zero => intro x4 s m o t r hF; cases hF
  | succ n ih =>
    intro x4 s m o t r hF
    unfold fz_la_law_23 at hF
    refine am_go.blk hcd_la_law 6 (g := (bif decide (((Int32.ofNat sc.1) - (4 : Int32)) < x4) then 788 else 32, [some (.float 4), some (.ref 0), some (.ref 16), some (.ref 21), some (.int x4), none, none], [], zz_hL s m o t, true)) rfl ?_
    refine am_go.br (fun hP => ?_) (fun hP => ?_)
    · replace hF := (if_pos hP).symm.trans hF
      refine am_go.blk hcd_la_law 1 (g := (789, [some (.float 4), some (.ref 0), some (.ref 16), some (.ref 21), some (.int x4), none, none], [.int (1 : Int32)], zz_hL s m o t, true)) rfl ?_
      cases hF
      exact am_go.ret hcd_la_law rfl rfl ⟨rfl, rfl, (fun h => by cases h), Or.inr ⟨rfl, Or.inr rfl⟩, rfl⟩
    · replace hF := (if_neg hP).symm.trans hF
      refine am_go.blk hcd_la_law 2 (g := (35, [some (.float 4), some (.ref 0), some (.ref 16), some (.ref 21), some (.int x4), none, none], [.int x4, .float 4], zz_hL s m o t, true)) rfl ?_
      obtain ⟨hi1, hF⟩ := am_ng hF
      refine am_go.iald hcd_la_law rfl rfl hi1 ?_
      refine am_go.blk hcd_la_law 2 (g := (39, [some (.float 4), some (.ref 0), some (.ref 16), some (.ref 21), some (.int x4), none, none], [.int ((sc.2 (Int32.toNatClampNeg x4)) &&& (15 : Int32))], zz_hL s m o t, true)) rfl ?_
      by_cases hsw : Int32.toInt ((sc.2 (Int32.toNatClampNeg x4)) &&& (15 : Int32)) < 0 ∨ 15 < Int32.toInt ((sc.2 (Int32.toNatClampNeg x4)) &&& (15 : Int32))
      · replace hF := (if_pos hsw).symm.trans hF
        refine am_go.tsO hcd_la_law rfl hsw rfl (t := 782) ?_
        exact tz_la_law_782 (hK23 := ih) hF
      replace hF := (if_neg hsw).symm.trans hF
      by_cases hc : ((sc.2 (Int32.toNatClampNeg x4)) &&& (15 : Int32)) = 0
      · replace hF := (if_pos hc).symm.trans hF
        refine am_go.tsI hcd_la_law rfl hc (by decide) rfl rfl (t := 116) ?_
        refine am_go.blk hcd_la_law 5 (g := (122, [some (.float 4), some (.ref 0), some (.ref 16), some (.ref 21), some (.int x4), none, none], [.int (x4 + (1 : Int32)), .float 4, .ref 0], zz_hL s m o t, true)) rfl ?_
        obtain ⟨hi2, hF⟩ := am_ng hF
        refine am_go.iald hcd_la_law rfl rfl hi2 ?_
        refine am_go.blk hcd_la_law 1 (g := (124, [some (.float 4), some (.ref 0), some (.ref 16), some (.ref 21), some (.int x4), none, none], [.ref 21, .int (sc.2 (Int32.toNatClampNeg (x4 + (1 : Int32)))), .ref 0], zz_hL s m o t, true)) rfl ?_
        obtain ⟨q3, hq3, hF⟩ := am_bd hF
        refine am_go.call hcd_la_law rfl rfl rfl rfl (am_le8 rfl) (am_ev.le (by decide) (tz_la_add  hq3)) ?_
        refine am_go.blk hcd_la_law 6 (g := (135, [some (.float 4), some (.ref 0), some (.ref 16), some (.ref 21), some (.int x4), some (.int q3.1), none], [.int (x4 + (1 : Int32)), .float 4, .ref 16], zz_hL q3.2.1 q3.2.2.1 q3.2.2.2.1 q3.2.2.2.2, true)) rfl ?_
        obtain ⟨hi4, hF⟩ := am_ng hF
        refine am_go.iald hcd_la_law rfl rfl hi4 ?_
        obtain ⟨q5, hq5, hF⟩ := am_bd hF
        refine am_go.call hcd_la_law rfl rfl rfl rfl (am_le8 rfl) (am_ev.le (by decide) (tz_mo_add (c := q3.2.1) (t := .inr (.inr (1, q3.2.2.2.1)) :: q3.2.2.2.2) hq5)) ?_
        refine am_go.blk hcd_la_law 2 (g := (142, [some (.float 4), some (.ref 0), some (.ref 16), some (.ref 21), some (.int x4), some (.int q3.1), some (.int q5.1)], [.ref 16], zz_hL q3.2.1 q5.2 q3.2.2.2.1 q3.2.2.2.2, true)) rfl ?_
        obtain ⟨q6, hq6, hF⟩ := am_bd hF
        refine am_go.call hcd_la_law rfl rfl rfl rfl (am_le8 rfl) (am_ev.le (by decide) (tz_mo_thrown (c := q3.2.1) (t := .inr (.inr (1, q3.2.2.2.1)) :: q3.2.2.2.2) hq6)) ?_
        refine am_go.blk hcd_la_law 2 (g := (bif decide (q6 = q3.1) then 152 else 150, [some (.float 4), some (.ref 0), some (.ref 16), some (.ref 21), some (.int x4), some (.int q3.1), some (.int q5.1)], [], zz_hL q3.2.1 q5.2 q3.2.2.2.1 q3.2.2.2.2, true)) rfl ?_
        refine am_go.br (fun hP => ?_) (fun hP => ?_)
        · replace hF := (if_pos hP).symm.trans hF
          refine am_go.blk hcd_la_law 2 (g := (bif decide (¬ q3.1 = 0) then 169 else 157, [some (.float 4), some (.ref 0), some (.ref 16), some (.ref 21), some (.int x4), some (.int q3.1), some (.int q5.1)], [], zz_hL q3.2.1 q5.2 q3.2.2.2.1 q3.2.2.2.2, true)) rfl ?_
          refine am_go.br (fun hP => ?_) (fun hP => ?_)
          · replace hF := (if_pos hP).symm.trans hF
            refine am_go.fgl [some (.float 4), some (.ref 0), some (.ref 16), some (.ref 21), some (.int x4), none, none] ⟨rfl, rfl, rfl, rfl, rfl, trivial⟩ ?_
            exact tz_la_law_169 (hK23 := ih) hF
          · replace hF := (if_neg hP).symm.trans hF
            refine am_go.blk hcd_la_law 2 (g := (159, [some (.float 4), some (.ref 0), some (.ref 16), some (.ref 21), some (.int x4), some (.int q3.1), some (.int q5.1)], [.int (0 : Int32), .ref 21], zz_hL q3.2.1 q5.2 q3.2.2.2.1 q3.2.2.2.2, true)) rfl ?_
            refine am_go.lald hcd_la_law rfl rfl (by decide) ?_
            refine am_go.blk hcd_la_law 4 (g := (bif decide ((lg_cmp (q3.2.2.2.1 (Int32.toNatClampNeg (0 : Int32))) (Int32.toInt64 q5.1)) = 0) then 169 else 167, [some (.float 4), some (.ref 0), some (.ref 16), some (.ref 21), some (.int x4), some (.int q3.1), some (.int q5.1)], [], zz_hL q3.2.1 q5.2 q3.2.2.2.1 q3.2.2.2.2, true)) rfl ?_
            refine am_go.br (fun hP => ?_) (fun hP => ?_)
            · replace hF := (if_pos hP).symm.trans hF
              refine am_go.fgl [some (.float 4), some (.ref 0), some (.ref 16), some (.ref 21), some (.int x4), none, none] ⟨rfl, rfl, rfl, rfl, rfl, trivial⟩ ?_
              exact tz_la_law_169 (hK23 := ih) hF
            · replace hF := (if_neg hP).symm.trans hF
              refine am_go.blk hcd_la_law 1 (g := (168, [some (.float 4), some (.ref 0), some (.ref 16), some (.ref 21), some (.int x4), some (.int q3.1), some (.int q5.1)], [.int (0 : Int32)], zz_hL q3.2.1 q5.2 q3.2.2.2.1 q3.2.2.2.2, true)) rfl ?_
              cases hF
              exact am_go.ret hcd_la_law rfl rfl ⟨rfl, rfl, (fun h => by cases h), Or.inr ⟨rfl, Or.inl rfl⟩, rfl⟩
        · replace hF := (if_neg hP).symm.trans hF
          refine am_go.blk hcd_la_law 1 (g := (151, [some (.float 4), some (.ref 0), some (.ref 16), some (.ref 21), some (.int x4), some (.int q3.1), some (.int q5.1)], [.int (0 : Int32)], zz_hL q3.2.1 q5.2 q3.2.2.2.1 q3.2.2.2.2, true)) rfl ?_
          cases hF
          exact am_go.ret hcd_la_law rfl rfl ⟨rfl, rfl, (fun h => by cases h), Or.inr ⟨rfl, Or.inl rfl⟩, rfl⟩
      replace hF := (if_neg hc).symm.trans hF
      by_cases hc : ((sc.2 (Int32.toNatClampNeg x4)) &&& (15 : Int32)) = 1
      · replace hF := (if_pos hc).symm.trans hF
        refine am_go.tsI hcd_la_law rfl hc (by decide) rfl rfl (t := 172) ?_
        refine am_go.blk hcd_la_law 1 (g := (173, [some (.float 4), some (.ref 0), some (.ref 16), some (.ref 21), some (.int x4), none, none], [.ref 0], zz_hL s m o t, true)) rfl ?_
        obtain ⟨q7, hq7, hF⟩ := am_bd hF
        refine am_go.call hcd_la_law rfl rfl rfl rfl (am_le8 rfl) (am_ev.le (by decide) (tz_sh_clear (t := zz_M m ++ (.inr (.inr (1, o)) :: t)) hq7)) ?_
        refine am_go.blk hcd_la_law 1 (g := (177, [some (.float 4), some (.ref 0), some (.ref 16), some (.ref 21), some (.int x4), none, none], [.ref 16, .int q7.1], zz_hL q7.2 m o t, true)) rfl ?_
        obtain ⟨q8, hq8, hF⟩ := am_bd hF
        refine am_go.call hcd_la_law rfl rfl rfl rfl (am_le8 rfl) (am_ev.le (by decide) (tz_mo_clear (c := q7.2) (t := .inr (.inr (1, o)) :: t) hq8)) ?_
        refine am_go.blk hcd_la_law 1 (g := (bif decide (q7.1 = q8.1) then 782 else 183, [some (.float 4), some (.ref 0), some (.ref 16), some (.ref 21), some (.int x4), none, none], [], zz_hL q7.2 q8.2 o t, true)) rfl ?_
        refine am_go.br (fun hP => ?_) (fun hP => ?_)
        · replace hF := (if_pos hP).symm.trans hF
          exact tz_la_law_782 (hK23 := ih) hF
        · replace hF := (if_neg hP).symm.trans hF
          refine am_go.blk hcd_la_law 1 (g := (184, [some (.float 4), some (.ref 0), some (.ref 16), some (.ref 21), some (.int x4), none, none], [.int (0 : Int32)], zz_hL q7.2 q8.2 o t, true)) rfl ?_
          cases hF
          exact am_go.ret hcd_la_law rfl rfl ⟨rfl, rfl, (fun h => by cases h), Or.inr ⟨rfl, Or.inl rfl⟩, rfl⟩
      replace hF := (if_neg hc).symm.trans hF
      by_cases hc : ((sc.2 (Int32.toNatClampNeg x4)) &&& (15 : Int32)) = 2
      · replace hF := (if_pos hc).symm.trans hF
        refine am_go.tsI hcd_la_law rfl hc (by decide) rfl rfl (t := 185) ?_
        refine am_go.blk hcd_la_law 1 (g := (186, [some (.float 4), some (.ref 0), some (.ref 16), some (.ref 21), some (.int x4), none, none], [.ref 0], zz_hL s m o t, true)) rfl ?_
        obtain ⟨q9, hq9, hF⟩ := am_bd hF
        refine am_go.call hcd_la_law rfl rfl rfl rfl (am_le8 rfl) (am_ev.le (by decide) (tz_sh_samples (t := zz_M m ++ (.inr (.inr (1, o)) :: t)) hq9)) ?_
        refine am_go.blk hcd_la_law 1 (g := (190, [some (.float 4), some (.ref 0), some (.ref 16), some (.ref 21), some (.int x4), none, none], [.ref 16, .int q9], zz_hL s m o t, true)) rfl ?_
        obtain ⟨q10, hq10, hF⟩ := am_bd hF
        refine am_go.call hcd_la_law rfl rfl rfl rfl (am_le8 rfl) (am_ev.le (by decide) (tz_mo_samples (c := s) (t := .inr (.inr (1, o)) :: t) hq10)) ?_
        refine am_go.blk hcd_la_law 1 (g := (bif decide (q9 = q10.1) then 782 else 196, [some (.float 4), some (.ref 0), some (.ref 16), some (.ref 21), some (.int x4), none, none], [], zz_hL s q10.2 o t, true)) rfl ?_
        refine am_go.br (fun hP => ?_) (fun hP => ?_)
        · replace hF := (if_pos hP).symm.trans hF
          exact tz_la_law_782 (hK23 := ih) hF
        · replace hF := (if_neg hP).symm.trans hF
          refine am_go.blk hcd_la_law 1 (g := (197, [some (.float 4), some (.ref 0), some (.ref 16), some (.ref 21), some (.int x4), none, none], [.int (0 : Int32)], zz_hL s q10.2 o t, true)) rfl ?_
          cases hF
          exact am_go.ret hcd_la_law rfl rfl ⟨rfl, rfl, (fun h => by cases h), Or.inr ⟨rfl, Or.inl rfl⟩, rfl⟩
      replace hF := (if_neg hc).symm.trans hF
      by_cases hc : ((sc.2 (Int32.toNatClampNeg x4)) &&& (15 : Int32)) = 3
      · replace hF := (if_pos hc).symm.trans hF
        refine am_go.tsI hcd_la_law rfl hc (by decide) rfl rfl (t := 198) ?_
        refine am_go.blk hcd_la_law 5 (g := (204, [some (.float 4), some (.ref 0), some (.ref 16), some (.ref 21), some (.int x4), none, none], [.int (x4 + (1 : Int32)), .float 4, .ref 0], zz_hL s m o t, true)) rfl ?_
        obtain ⟨hi11, hF⟩ := am_ng hF
        refine am_go.iald hcd_la_law rfl rfl hi11 ?_
        refine am_go.blk hcd_la_law 1 (g := (206, [some (.float 4), some (.ref 0), some (.ref 16), some (.ref 21), some (.int x4), none, none], [.ref 21, .int (sc.2 (Int32.toNatClampNeg (x4 + (1 : Int32)))), .ref 0], zz_hL s m o t, true)) rfl ?_
        obtain ⟨q12, hq12, hF⟩ := am_bd hF
        refine am_go.call hcd_la_law rfl rfl rfl rfl (am_le8 rfl) (am_ev.le (by decide) (tz_la_at  hq12)) ?_
        refine am_go.blk hcd_la_law 6 (g := (217, [some (.float 4), some (.ref 0), some (.ref 16), some (.ref 21), some (.int x4), some (.int q12.1), none], [.int (x4 + (1 : Int32)), .float 4, .ref 16], zz_hL q12.2.1 q12.2.2.1 q12.2.2.2.1 q12.2.2.2.2, true)) rfl ?_
        obtain ⟨hi13, hF⟩ := am_ng hF
        refine am_go.iald hcd_la_law rfl rfl hi13 ?_
        obtain ⟨q14, hq14, hF⟩ := am_bd hF
        refine am_go.call hcd_la_law rfl rfl rfl rfl (am_le8 rfl) (am_ev.le (by decide) (tz_mo_at (c := q12.2.1) (t := .inr (.inr (1, q12.2.2.2.1)) :: q12.2.2.2.2) hq14)) ?_
        refine am_go.blk hcd_la_law 2 (g := (224, [some (.float 4), some (.ref 0), some (.ref 16), some (.ref 21), some (.int x4), some (.int q12.1), some (.int q14.1)], [.ref 16], zz_hL q12.2.1 q14.2 q12.2.2.2.1 q12.2.2.2.2, true)) rfl ?_
        obtain ⟨q15, hq15, hF⟩ := am_bd hF
        refine am_go.call hcd_la_law rfl rfl rfl rfl (am_le8 rfl) (am_ev.le (by decide) (tz_mo_thrown (c := q12.2.1) (t := .inr (.inr (1, q12.2.2.2.1)) :: q12.2.2.2.2) hq15)) ?_
        refine am_go.blk hcd_la_law 2 (g := (bif decide (q15 = q12.1) then 234 else 232, [some (.float 4), some (.ref 0), some (.ref 16), some (.ref 21), some (.int x4), some (.int q12.1), some (.int q14.1)], [], zz_hL q12.2.1 q14.2 q12.2.2.2.1 q12.2.2.2.2, true)) rfl ?_
        refine am_go.br (fun hP => ?_) (fun hP => ?_)
        · replace hF := (if_pos hP).symm.trans hF
          refine am_go.blk hcd_la_law 2 (g := (bif decide (¬ q12.1 = 0) then 251 else 239, [some (.float 4), some (.ref 0), some (.ref 16), some (.ref 21), some (.int x4), some (.int q12.1), some (.int q14.1)], [], zz_hL q12.2.1 q14.2 q12.2.2.2.1 q12.2.2.2.2, true)) rfl ?_
          refine am_go.br (fun hP => ?_) (fun hP => ?_)
          · replace hF := (if_pos hP).symm.trans hF
            refine am_go.fgl [some (.float 4), some (.ref 0), some (.ref 16), some (.ref 21), some (.int x4), none, none] ⟨rfl, rfl, rfl, rfl, rfl, trivial⟩ ?_
            exact tz_la_law_251 (hK23 := ih) hF
          · replace hF := (if_neg hP).symm.trans hF
            refine am_go.blk hcd_la_law 2 (g := (241, [some (.float 4), some (.ref 0), some (.ref 16), some (.ref 21), some (.int x4), some (.int q12.1), some (.int q14.1)], [.int (0 : Int32), .ref 21], zz_hL q12.2.1 q14.2 q12.2.2.2.1 q12.2.2.2.2, true)) rfl ?_
            refine am_go.lald hcd_la_law rfl rfl (by decide) ?_
            refine am_go.blk hcd_la_law 4 (g := (bif decide ((lg_cmp (q12.2.2.2.1 (Int32.toNatClampNeg (0 : Int32))) (Int32.toInt64 q14.1)) = 0) then 251 else 249, [some (.float 4), some (.ref 0), some (.ref 16), some (.ref 21), some (.int x4), some (.int q12.1), some (.int q14.1)], [], zz_hL q12.2.1 q14.2 q12.2.2.2.1 q12.2.2.2.2, true)) rfl ?_
            refine am_go.br (fun hP => ?_) (fun hP => ?_)
            · replace hF := (if_pos hP).symm.trans hF
              refine am_go.fgl [some (.float 4), some (.ref 0), some (.ref 16), some (.ref 21), some (.int x4), none, none] ⟨rfl, rfl, rfl, rfl, rfl, trivial⟩ ?_
              exact tz_la_law_251 (hK23 := ih) hF
            · replace hF := (if_neg hP).symm.trans hF
              refine am_go.blk hcd_la_law 1 (g := (250, [some (.float 4), some (.ref 0), some (.ref 16), some (.ref 21), some (.int x4), some (.int q12.1), some (.int q14.1)], [.int (0 : Int32)], zz_hL q12.2.1 q14.2 q12.2.2.2.1 q12.2.2.2.2, true)) rfl ?_
              cases hF
              exact am_go.ret hcd_la_law rfl rfl ⟨rfl, rfl, (fun h => by cases h), Or.inr ⟨rfl, Or.inl rfl⟩, rfl⟩
        · replace hF := (if_neg hP).symm.trans hF
          refine am_go.blk hcd_la_law 1 (g := (233, [some (.float 4), some (.ref 0), some (.ref 16), some (.ref 21), some (.int x4), some (.int q12.1), some (.int q14.1)], [.int (0 : Int32)], zz_hL q12.2.1 q14.2 q12.2.2.2.1 q12.2.2.2.2, true)) rfl ?_
          cases hF
          exact am_go.ret hcd_la_law rfl rfl ⟨rfl, rfl, (fun h => by cases h), Or.inr ⟨rfl, Or.inl rfl⟩, rfl⟩
      replace hF := (if_neg hc).symm.trans hF
      by_cases hc : ((sc.2 (Int32.toNatClampNeg x4)) &&& (15 : Int32)) = 4
      · replace hF := (if_pos hc).symm.trans hF
        refine am_go.tsI hcd_la_law rfl hc (by decide) rfl rfl (t := 254) ?_
        refine am_go.blk hcd_la_law 5 (g := (260, [some (.float 4), some (.ref 0), some (.ref 16), some (.ref 21), some (.int x4), none, none], [.int (x4 + (1 : Int32)), .float 4, .ref 0], zz_hL s m o t, true)) rfl ?_
        obtain ⟨hi16, hF⟩ := am_ng hF
        refine am_go.iald hcd_la_law rfl rfl hi16 ?_
        refine am_go.blk hcd_la_law 1 (g := (262, [some (.float 4), some (.ref 0), some (.ref 16), some (.ref 21), some (.int x4), none, none], [.ref 21, .int (sc.2 (Int32.toNatClampNeg (x4 + (1 : Int32)))), .ref 0], zz_hL s m o t, true)) rfl ?_
        obtain ⟨q17, hq17, hF⟩ := am_bd hF
        refine am_go.call hcd_la_law rfl rfl rfl rfl (am_le8 rfl) (am_ev.le (by decide) (tz_la_tune  hq17)) ?_
        refine am_go.blk hcd_la_law 6 (g := (273, [some (.float 4), some (.ref 0), some (.ref 16), some (.ref 21), some (.int x4), some (.int q17.1), none], [.int (x4 + (1 : Int32)), .float 4, .ref 16], zz_hL q17.2.1 q17.2.2.1 q17.2.2.2.1 q17.2.2.2.2, true)) rfl ?_
        obtain ⟨hi18, hF⟩ := am_ng hF
        refine am_go.iald hcd_la_law rfl rfl hi18 ?_
        obtain ⟨q19, hq19, hF⟩ := am_bd hF
        refine am_go.call hcd_la_law rfl rfl rfl rfl (am_le8 rfl) (am_ev.le (by decide) (tz_mo_tune (c := q17.2.1) (t := .inr (.inr (1, q17.2.2.2.1)) :: q17.2.2.2.2) hq19)) ?_
        refine am_go.blk hcd_la_law 2 (g := (280, [some (.float 4), some (.ref 0), some (.ref 16), some (.ref 21), some (.int x4), some (.int q17.1), some (.int q19.1)], [.ref 16], zz_hL q17.2.1 q19.2 q17.2.2.2.1 q17.2.2.2.2, true)) rfl ?_
        obtain ⟨q20, hq20, hF⟩ := am_bd hF
        refine am_go.call hcd_la_law rfl rfl rfl rfl (am_le8 rfl) (am_ev.le (by decide) (tz_mo_thrown (c := q17.2.1) (t := .inr (.inr (1, q17.2.2.2.1)) :: q17.2.2.2.2) hq20)) ?_
        refine am_go.blk hcd_la_law 2 (g := (bif decide (q20 = q17.1) then 290 else 288, [some (.float 4), some (.ref 0), some (.ref 16), some (.ref 21), some (.int x4), some (.int q17.1), some (.int q19.1)], [], zz_hL q17.2.1 q19.2 q17.2.2.2.1 q17.2.2.2.2, true)) rfl ?_
        refine am_go.br (fun hP => ?_) (fun hP => ?_)
        · replace hF := (if_pos hP).symm.trans hF
          refine am_go.blk hcd_la_law 2 (g := (bif decide (¬ q17.1 = 0) then 307 else 295, [some (.float 4), some (.ref 0), some (.ref 16), some (.ref 21), some (.int x4), some (.int q17.1), some (.int q19.1)], [], zz_hL q17.2.1 q19.2 q17.2.2.2.1 q17.2.2.2.2, true)) rfl ?_
          refine am_go.br (fun hP => ?_) (fun hP => ?_)
          · replace hF := (if_pos hP).symm.trans hF
            refine am_go.fgl [some (.float 4), some (.ref 0), some (.ref 16), some (.ref 21), some (.int x4), none, none] ⟨rfl, rfl, rfl, rfl, rfl, trivial⟩ ?_
            exact tz_la_law_307 (hK23 := ih) hF
          · replace hF := (if_neg hP).symm.trans hF
            refine am_go.blk hcd_la_law 2 (g := (297, [some (.float 4), some (.ref 0), some (.ref 16), some (.ref 21), some (.int x4), some (.int q17.1), some (.int q19.1)], [.int (0 : Int32), .ref 21], zz_hL q17.2.1 q19.2 q17.2.2.2.1 q17.2.2.2.2, true)) rfl ?_
            refine am_go.lald hcd_la_law rfl rfl (by decide) ?_
            refine am_go.blk hcd_la_law 4 (g := (bif decide ((lg_cmp (q17.2.2.2.1 (Int32.toNatClampNeg (0 : Int32))) (Int32.toInt64 q19.1)) = 0) then 307 else 305, [some (.float 4), some (.ref 0), some (.ref 16), some (.ref 21), some (.int x4), some (.int q17.1), some (.int q19.1)], [], zz_hL q17.2.1 q19.2 q17.2.2.2.1 q17.2.2.2.2, true)) rfl ?_
            refine am_go.br (fun hP => ?_) (fun hP => ?_)
            · replace hF := (if_pos hP).symm.trans hF
              refine am_go.fgl [some (.float 4), some (.ref 0), some (.ref 16), some (.ref 21), some (.int x4), none, none] ⟨rfl, rfl, rfl, rfl, rfl, trivial⟩ ?_
              exact tz_la_law_307 (hK23 := ih) hF
            · replace hF := (if_neg hP).symm.trans hF
              refine am_go.blk hcd_la_law 1 (g := (306, [some (.float 4), some (.ref 0), some (.ref 16), some (.ref 21), some (.int x4), some (.int q17.1), some (.int q19.1)], [.int (0 : Int32)], zz_hL q17.2.1 q19.2 q17.2.2.2.1 q17.2.2.2.2, true)) rfl ?_
              cases hF
              exact am_go.ret hcd_la_law rfl rfl ⟨rfl, rfl, (fun h => by cases h), Or.inr ⟨rfl, Or.inl rfl⟩, rfl⟩
        · replace hF := (if_neg hP).symm.trans hF
          refine am_go.blk hcd_la_law 1 (g := (289, [some (.float 4), some (.ref 0), some (.ref 16), some (.ref 21), some (.int x4), some (.int q17.1), some (.int q19.1)], [.int (0 : Int32)], zz_hL q17.2.1 q19.2 q17.2.2.2.1 q17.2.2.2.2, true)) rfl ?_
          cases hF
          exact am_go.ret hcd_la_law rfl rfl ⟨rfl, rfl, (fun h => by cases h), Or.inr ⟨rfl, Or.inl rfl⟩, rfl⟩
      replace hF := (if_neg hc).symm.trans hF
      by_cases hc : ((sc.2 (Int32.toNatClampNeg x4)) &&& (15 : Int32)) = 5
      · replace hF := (if_pos hc).symm.trans hF
        refine am_go.tsI hcd_la_law rfl hc (by decide) rfl rfl (t := 310) ?_
        refine am_go.blk hcd_la_law 1 (g := (311, [some (.float 4), some (.ref 0), some (.ref 16), some (.ref 21), some (.int x4), none, none], [.ref 0], zz_hL s m o t, true)) rfl ?_
        obtain ⟨q21, hq21, hF⟩ := am_bd hF
        refine am_go.call hcd_la_law rfl rfl rfl rfl (am_le8 rfl) (am_ev.le (by decide) (tz_sh_rate (t := zz_M m ++ (.inr (.inr (1, o)) :: t)) hq21)) ?_
        refine am_go.blk hcd_la_law 1 (g := (315, [some (.float 4), some (.ref 0), some (.ref 16), some (.ref 21), some (.int x4), none, none], [.ref 16, .int q21], zz_hL s m o t, true)) rfl ?_
        obtain ⟨q22, hq22, hF⟩ := am_bd hF
        refine am_go.call hcd_la_law rfl rfl rfl rfl (am_le8 rfl) (am_ev.le (by decide) (tz_mo_rate (c := s) (t := .inr (.inr (1, o)) :: t) hq22)) ?_
        refine am_go.blk hcd_la_law 1 (g := (bif decide (q21 = q22.1) then 782 else 321, [some (.float 4), some (.ref 0), some (.ref 16), some (.ref 21), some (.int x4), none, none], [], zz_hL s q22.2 o t, true)) rfl ?_
        refine am_go.br (fun hP => ?_) (fun hP => ?_)
        · replace hF := (if_pos hP).symm.trans hF
          exact tz_la_law_782 (hK23 := ih) hF
        · replace hF := (if_neg hP).symm.trans hF
          refine am_go.blk hcd_la_law 1 (g := (322, [some (.float 4), some (.ref 0), some (.ref 16), some (.ref 21), some (.int x4), none, none], [.int (0 : Int32)], zz_hL s q22.2 o t, true)) rfl ?_
          cases hF
          exact am_go.ret hcd_la_law rfl rfl ⟨rfl, rfl, (fun h => by cases h), Or.inr ⟨rfl, Or.inl rfl⟩, rfl⟩
      replace hF := (if_neg hc).symm.trans hF
      by_cases hc : ((sc.2 (Int32.toNatClampNeg x4)) &&& (15 : Int32)) = 6
      · replace hF := (if_pos hc).symm.trans hF
        refine am_go.tsI hcd_la_law rfl hc (by decide) rfl rfl (t := 323) ?_
        refine am_go.blk hcd_la_law 5 (g := (329, [some (.float 4), some (.ref 0), some (.ref 16), some (.ref 21), some (.int x4), none, none], [.int (x4 + (1 : Int32)), .float 4, .ref 0], zz_hL s m o t, true)) rfl ?_
        obtain ⟨hi23, hF⟩ := am_ng hF
        refine am_go.iald hcd_la_law rfl rfl hi23 ?_
        refine am_go.blk hcd_la_law 4 (g := (335, [some (.float 4), some (.ref 0), some (.ref 16), some (.ref 21), some (.int x4), none, none], [.int (x4 + (2 : Int32)), .float 4, .int (sc.2 (Int32.toNatClampNeg (x4 + (1 : Int32)))), .ref 0], zz_hL s m o t, true)) rfl ?_
        obtain ⟨hi24, hF⟩ := am_ng hF
        refine am_go.iald hcd_la_law rfl rfl hi24 ?_
        refine am_go.blk hcd_la_law 1 (g := (337, [some (.float 4), some (.ref 0), some (.ref 16), some (.ref 21), some (.int x4), none, none], [.ref 21, .int (sc.2 (Int32.toNatClampNeg (x4 + (2 : Int32)))), .int (sc.2 (Int32.toNatClampNeg (x4 + (1 : Int32)))), .ref 0], zz_hL s m o t, true)) rfl ?_
        obtain ⟨q25, hq25, hF⟩ := am_bd hF
        refine am_go.call hcd_la_law rfl rfl rfl rfl (am_le8 rfl) (am_ev.le (by decide) (tz_la_write  hq25)) ?_
        refine am_go.blk hcd_la_law 6 (g := (348, [some (.float 4), some (.ref 0), some (.ref 16), some (.ref 21), some (.int x4), some (.int q25.1), none], [.int (x4 + (1 : Int32)), .float 4, .ref 16], zz_hL q25.2.1 q25.2.2.1 q25.2.2.2.1 q25.2.2.2.2, true)) rfl ?_
        obtain ⟨hi26, hF⟩ := am_ng hF
        refine am_go.iald hcd_la_law rfl rfl hi26 ?_
        refine am_go.blk hcd_la_law 4 (g := (354, [some (.float 4), some (.ref 0), some (.ref 16), some (.ref 21), some (.int x4), some (.int q25.1), none], [.int (x4 + (2 : Int32)), .float 4, .int (sc.2 (Int32.toNatClampNeg (x4 + (1 : Int32)))), .ref 16], zz_hL q25.2.1 q25.2.2.1 q25.2.2.2.1 q25.2.2.2.2, true)) rfl ?_
        obtain ⟨hi27, hF⟩ := am_ng hF
        refine am_go.iald hcd_la_law rfl rfl hi27 ?_
        obtain ⟨q28, hq28, hF⟩ := am_bd hF
        refine am_go.call hcd_la_law rfl rfl rfl rfl (am_le8 rfl) (am_ev.le (by decide) (tz_mo_write (c := q25.2.1) (t := .inr (.inr (1, q25.2.2.2.1)) :: q25.2.2.2.2) hq28)) ?_
        refine am_go.blk hcd_la_law 2 (g := (361, [some (.float 4), some (.ref 0), some (.ref 16), some (.ref 21), some (.int x4), some (.int q25.1), some (.int q28.1)], [.ref 16], zz_hL q25.2.1 q28.2 q25.2.2.2.1 q25.2.2.2.2, true)) rfl ?_
        obtain ⟨q29, hq29, hF⟩ := am_bd hF
        refine am_go.call hcd_la_law rfl rfl rfl rfl (am_le8 rfl) (am_ev.le (by decide) (tz_mo_thrown (c := q25.2.1) (t := .inr (.inr (1, q25.2.2.2.1)) :: q25.2.2.2.2) hq29)) ?_
        refine am_go.blk hcd_la_law 2 (g := (bif decide (q29 = q25.1) then 371 else 369, [some (.float 4), some (.ref 0), some (.ref 16), some (.ref 21), some (.int x4), some (.int q25.1), some (.int q28.1)], [], zz_hL q25.2.1 q28.2 q25.2.2.2.1 q25.2.2.2.2, true)) rfl ?_
        refine am_go.br (fun hP => ?_) (fun hP => ?_)
        · replace hF := (if_pos hP).symm.trans hF
          refine am_go.blk hcd_la_law 2 (g := (bif decide (¬ q25.1 = 0) then 388 else 376, [some (.float 4), some (.ref 0), some (.ref 16), some (.ref 21), some (.int x4), some (.int q25.1), some (.int q28.1)], [], zz_hL q25.2.1 q28.2 q25.2.2.2.1 q25.2.2.2.2, true)) rfl ?_
          refine am_go.br (fun hP => ?_) (fun hP => ?_)
          · replace hF := (if_pos hP).symm.trans hF
            refine am_go.fgl [some (.float 4), some (.ref 0), some (.ref 16), some (.ref 21), some (.int x4), none, none] ⟨rfl, rfl, rfl, rfl, rfl, trivial⟩ ?_
            exact tz_la_law_388 (hK23 := ih) hF
          · replace hF := (if_neg hP).symm.trans hF
            refine am_go.blk hcd_la_law 2 (g := (378, [some (.float 4), some (.ref 0), some (.ref 16), some (.ref 21), some (.int x4), some (.int q25.1), some (.int q28.1)], [.int (0 : Int32), .ref 21], zz_hL q25.2.1 q28.2 q25.2.2.2.1 q25.2.2.2.2, true)) rfl ?_
            refine am_go.lald hcd_la_law rfl rfl (by decide) ?_
            refine am_go.blk hcd_la_law 4 (g := (bif decide ((lg_cmp (q25.2.2.2.1 (Int32.toNatClampNeg (0 : Int32))) (Int32.toInt64 q28.1)) = 0) then 388 else 386, [some (.float 4), some (.ref 0), some (.ref 16), some (.ref 21), some (.int x4), some (.int q25.1), some (.int q28.1)], [], zz_hL q25.2.1 q28.2 q25.2.2.2.1 q25.2.2.2.2, true)) rfl ?_
            refine am_go.br (fun hP => ?_) (fun hP => ?_)
            · replace hF := (if_pos hP).symm.trans hF
              refine am_go.fgl [some (.float 4), some (.ref 0), some (.ref 16), some (.ref 21), some (.int x4), none, none] ⟨rfl, rfl, rfl, rfl, rfl, trivial⟩ ?_
              exact tz_la_law_388 (hK23 := ih) hF
            · replace hF := (if_neg hP).symm.trans hF
              refine am_go.blk hcd_la_law 1 (g := (387, [some (.float 4), some (.ref 0), some (.ref 16), some (.ref 21), some (.int x4), some (.int q25.1), some (.int q28.1)], [.int (0 : Int32)], zz_hL q25.2.1 q28.2 q25.2.2.2.1 q25.2.2.2.2, true)) rfl ?_
              cases hF
              exact am_go.ret hcd_la_law rfl rfl ⟨rfl, rfl, (fun h => by cases h), Or.inr ⟨rfl, Or.inl rfl⟩, rfl⟩
        · replace hF := (if_neg hP).symm.trans hF
          refine am_go.blk hcd_la_law 1 (g := (370, [some (.float 4), some (.ref 0), some (.ref 16), some (.ref 21), some (.int x4), some (.int q25.1), some (.int q28.1)], [.int (0 : Int32)], zz_hL q25.2.1 q28.2 q25.2.2.2.1 q25.2.2.2.2, true)) rfl ?_
          cases hF
          exact am_go.ret hcd_la_law rfl rfl ⟨rfl, rfl, (fun h => by cases h), Or.inr ⟨rfl, Or.inl rfl⟩, rfl⟩
      replace hF := (if_neg hc).symm.trans hF
      by_cases hc : ((sc.2 (Int32.toNatClampNeg x4)) &&& (15 : Int32)) = 7
      · replace hF := (if_pos hc).symm.trans hF
        refine am_go.tsI hcd_la_law rfl hc (by decide) rfl rfl (t := 391) ?_
        refine am_go.blk hcd_la_law 1 (g := (392, [some (.float 4), some (.ref 0), some (.ref 16), some (.ref 21), some (.int x4), none, none], [.ref 0], zz_hL s m o t, true)) rfl ?_
        obtain ⟨q30, hq30, hF⟩ := am_bd hF
        refine am_go.call hcd_la_law rfl rfl rfl rfl (am_le8 rfl) (am_ev.le (by decide) (tz_sh_read (t := zz_M m ++ (.inr (.inr (1, o)) :: t)) hq30)) ?_
        refine am_go.blk hcd_la_law 1 (g := (396, [some (.float 4), some (.ref 0), some (.ref 16), some (.ref 21), some (.int x4), none, none], [.ref 16, .int q30.1], zz_hL q30.2 m o t, true)) rfl ?_
        obtain ⟨q31, hq31, hF⟩ := am_bd hF
        refine am_go.call hcd_la_law rfl rfl rfl rfl (am_le8 rfl) (am_ev.le (by decide) (tz_mo_read (c := q30.2) (t := .inr (.inr (1, o)) :: t) hq31)) ?_
        refine am_go.blk hcd_la_law 1 (g := (bif decide (q30.1 = q31.1) then 782 else 402, [some (.float 4), some (.ref 0), some (.ref 16), some (.ref 21), some (.int x4), none, none], [], zz_hL q30.2 q31.2 o t, true)) rfl ?_
        refine am_go.br (fun hP => ?_) (fun hP => ?_)
        · replace hF := (if_pos hP).symm.trans hF
          exact tz_la_law_782 (hK23 := ih) hF
        · replace hF := (if_neg hP).symm.trans hF
          refine am_go.blk hcd_la_law 1 (g := (403, [some (.float 4), some (.ref 0), some (.ref 16), some (.ref 21), some (.int x4), none, none], [.int (0 : Int32)], zz_hL q30.2 q31.2 o t, true)) rfl ?_
          cases hF
          exact am_go.ret hcd_la_law rfl rfl ⟨rfl, rfl, (fun h => by cases h), Or.inr ⟨rfl, Or.inl rfl⟩, rfl⟩
      replace hF := (if_neg hc).symm.trans hF
      by_cases hc : ((sc.2 (Int32.toNatClampNeg x4)) &&& (15 : Int32)) = 8
      · replace hF := (if_pos hc).symm.trans hF
        refine am_go.tsI hcd_la_law rfl hc (by decide) rfl rfl (t := 404) ?_
        refine am_go.blk hcd_la_law 2 (g := (406, [some (.float 4), some (.ref 0), some (.ref 16), some (.ref 21), some (.int x4), none, none], [.ref 21, .ref 0], zz_hL s m o t, true)) rfl ?_
        obtain ⟨q32, hq32, hF⟩ := am_bd hF
        refine am_go.call hcd_la_law rfl rfl rfl rfl (am_le8 rfl) (am_ev.le (by decide) (tz_la_form  hq32)) ?_
        refine am_go.blk hcd_la_law 2 (g := (412, [some (.float 4), some (.ref 0), some (.ref 16), some (.ref 21), some (.int x4), some (.int q32.1), none], [.ref 16], zz_hL q32.2.1 q32.2.2.1 q32.2.2.2.1 q32.2.2.2.2, true)) rfl ?_
        obtain ⟨q33, hq33, hF⟩ := am_bd hF
        refine am_go.call hcd_la_law rfl rfl rfl rfl (am_le8 rfl) (am_ev.le (by decide) (tz_mo_form (c := q32.2.1) (t := .inr (.inr (1, q32.2.2.2.1)) :: q32.2.2.2.2) hq33)) ?_
        refine am_go.blk hcd_la_law 2 (g := (418, [some (.float 4), some (.ref 0), some (.ref 16), some (.ref 21), some (.int x4), some (.int q32.1), some (.int q33.1)], [.ref 16], zz_hL q32.2.1 q33.2 q32.2.2.2.1 q32.2.2.2.2, true)) rfl ?_
        obtain ⟨q34, hq34, hF⟩ := am_bd hF
        refine am_go.call hcd_la_law rfl rfl rfl rfl (am_le8 rfl) (am_ev.le (by decide) (tz_mo_thrown (c := q32.2.1) (t := .inr (.inr (1, q32.2.2.2.1)) :: q32.2.2.2.2) hq34)) ?_
        refine am_go.blk hcd_la_law 2 (g := (bif decide (q34 = q32.1) then 428 else 426, [some (.float 4), some (.ref 0), some (.ref 16), some (.ref 21), some (.int x4), some (.int q32.1), some (.int q33.1)], [], zz_hL q32.2.1 q33.2 q32.2.2.2.1 q32.2.2.2.2, true)) rfl ?_
        refine am_go.br (fun hP => ?_) (fun hP => ?_)
        · replace hF := (if_pos hP).symm.trans hF
          refine am_go.blk hcd_la_law 2 (g := (bif decide (¬ q32.1 = 0) then 445 else 433, [some (.float 4), some (.ref 0), some (.ref 16), some (.ref 21), some (.int x4), some (.int q32.1), some (.int q33.1)], [], zz_hL q32.2.1 q33.2 q32.2.2.2.1 q32.2.2.2.2, true)) rfl ?_
          refine am_go.br (fun hP => ?_) (fun hP => ?_)
          · replace hF := (if_pos hP).symm.trans hF
            refine am_go.fgl [some (.float 4), some (.ref 0), some (.ref 16), some (.ref 21), some (.int x4), none, none] ⟨rfl, rfl, rfl, rfl, rfl, trivial⟩ ?_
            exact tz_la_law_445 (hK23 := ih) hF
          · replace hF := (if_neg hP).symm.trans hF
            refine am_go.blk hcd_la_law 2 (g := (435, [some (.float 4), some (.ref 0), some (.ref 16), some (.ref 21), some (.int x4), some (.int q32.1), some (.int q33.1)], [.int (0 : Int32), .ref 21], zz_hL q32.2.1 q33.2 q32.2.2.2.1 q32.2.2.2.2, true)) rfl ?_
            refine am_go.lald hcd_la_law rfl rfl (by decide) ?_
            refine am_go.blk hcd_la_law 4 (g := (bif decide ((lg_cmp (q32.2.2.2.1 (Int32.toNatClampNeg (0 : Int32))) (Int32.toInt64 q33.1)) = 0) then 445 else 443, [some (.float 4), some (.ref 0), some (.ref 16), some (.ref 21), some (.int x4), some (.int q32.1), some (.int q33.1)], [], zz_hL q32.2.1 q33.2 q32.2.2.2.1 q32.2.2.2.2, true)) rfl ?_
            refine am_go.br (fun hP => ?_) (fun hP => ?_)
            · replace hF := (if_pos hP).symm.trans hF
              refine am_go.fgl [some (.float 4), some (.ref 0), some (.ref 16), some (.ref 21), some (.int x4), none, none] ⟨rfl, rfl, rfl, rfl, rfl, trivial⟩ ?_
              exact tz_la_law_445 (hK23 := ih) hF
            · replace hF := (if_neg hP).symm.trans hF
              refine am_go.blk hcd_la_law 1 (g := (444, [some (.float 4), some (.ref 0), some (.ref 16), some (.ref 21), some (.int x4), some (.int q32.1), some (.int q33.1)], [.int (0 : Int32)], zz_hL q32.2.1 q33.2 q32.2.2.2.1 q32.2.2.2.2, true)) rfl ?_
              cases hF
              exact am_go.ret hcd_la_law rfl rfl ⟨rfl, rfl, (fun h => by cases h), Or.inr ⟨rfl, Or.inl rfl⟩, rfl⟩
        · replace hF := (if_neg hP).symm.trans hF
          refine am_go.blk hcd_la_law 1 (g := (427, [some (.float 4), some (.ref 0), some (.ref 16), some (.ref 21), some (.int x4), some (.int q32.1), some (.int q33.1)], [.int (0 : Int32)], zz_hL q32.2.1 q33.2 q32.2.2.2.1 q32.2.2.2.2, true)) rfl ?_
          cases hF
          exact am_go.ret hcd_la_law rfl rfl ⟨rfl, rfl, (fun h => by cases h), Or.inr ⟨rfl, Or.inl rfl⟩, rfl⟩
      replace hF := (if_neg hc).symm.trans hF
      by_cases hc : ((sc.2 (Int32.toNatClampNeg x4)) &&& (15 : Int32)) = 9
      · replace hF := (if_pos hc).symm.trans hF
        refine am_go.tsI hcd_la_law rfl hc (by decide) rfl rfl (t := 448) ?_
        refine am_go.blk hcd_la_law 1 (g := (449, [some (.float 4), some (.ref 0), some (.ref 16), some (.ref 21), some (.int x4), none, none], [.ref 0], zz_hL s m o t, true)) rfl ?_
        obtain ⟨q35, hq35, hF⟩ := am_bd hF
        refine am_go.call hcd_la_law rfl rfl rfl rfl (am_le8 rfl) (am_ev.le (by decide) (tz_sh_size (t := zz_M m ++ (.inr (.inr (1, o)) :: t)) hq35)) ?_
        refine am_go.blk hcd_la_law 1 (g := (453, [some (.float 4), some (.ref 0), some (.ref 16), some (.ref 21), some (.int x4), none, none], [.ref 16, .int q35], zz_hL s m o t, true)) rfl ?_
        obtain ⟨q36, hq36, hF⟩ := am_bd hF
        refine am_go.call hcd_la_law rfl rfl rfl rfl (am_le8 rfl) (am_ev.le (by decide) (tz_mo_size (c := s) (t := .inr (.inr (1, o)) :: t) hq36)) ?_
        refine am_go.blk hcd_la_law 1 (g := (bif decide (q35 = q36.1) then 782 else 459, [some (.float 4), some (.ref 0), some (.ref 16), some (.ref 21), some (.int x4), none, none], [], zz_hL s q36.2 o t, true)) rfl ?_
        refine am_go.br (fun hP => ?_) (fun hP => ?_)
        · replace hF := (if_pos hP).symm.trans hF
          exact tz_la_law_782 (hK23 := ih) hF
        · replace hF := (if_neg hP).symm.trans hF
          refine am_go.blk hcd_la_law 1 (g := (460, [some (.float 4), some (.ref 0), some (.ref 16), some (.ref 21), some (.int x4), none, none], [.int (0 : Int32)], zz_hL s q36.2 o t, true)) rfl ?_
          cases hF
          exact am_go.ret hcd_la_law rfl rfl ⟨rfl, rfl, (fun h => by cases h), Or.inr ⟨rfl, Or.inl rfl⟩, rfl⟩
      replace hF := (if_neg hc).symm.trans hF
      by_cases hc : ((sc.2 (Int32.toNatClampNeg x4)) &&& (15 : Int32)) = 10
      · replace hF := (if_pos hc).symm.trans hF
        refine am_go.tsI hcd_la_law rfl hc (by decide) rfl rfl (t := 461) ?_
        refine am_go.blk hcd_la_law 5 (g := (467, [some (.float 4), some (.ref 0), some (.ref 16), some (.ref 21), some (.int x4), none, none], [.int (x4 + (1 : Int32)), .float 4, .ref 0], zz_hL s m o t, true)) rfl ?_
        obtain ⟨hi37, hF⟩ := am_ng hF
        refine am_go.iald hcd_la_law rfl rfl hi37 ?_
        refine am_go.blk hcd_la_law 1 (g := (469, [some (.float 4), some (.ref 0), some (.ref 16), some (.ref 21), some (.int x4), none, none], [.ref 21, .int (sc.2 (Int32.toNatClampNeg (x4 + (1 : Int32)))), .ref 0], zz_hL s m o t, true)) rfl ?_
        obtain ⟨q38, hq38, hF⟩ := am_bd hF
        refine am_go.call hcd_la_law rfl rfl rfl rfl (am_le8 rfl) (am_ev.le (by decide) (tz_la_byteAt  hq38)) ?_
        refine am_go.blk hcd_la_law 6 (g := (480, [some (.float 4), some (.ref 0), some (.ref 16), some (.ref 21), some (.int x4), some (.int q38.1), none], [.int (x4 + (1 : Int32)), .float 4, .ref 16], zz_hL q38.2.1 q38.2.2.1 q38.2.2.2.1 q38.2.2.2.2, true)) rfl ?_
        obtain ⟨hi39, hF⟩ := am_ng hF
        refine am_go.iald hcd_la_law rfl rfl hi39 ?_
        obtain ⟨q40, hq40, hF⟩ := am_bd hF
        refine am_go.call hcd_la_law rfl rfl rfl rfl (am_le8 rfl) (am_ev.le (by decide) (tz_mo_byteAt (c := q38.2.1) (t := .inr (.inr (1, q38.2.2.2.1)) :: q38.2.2.2.2) hq40)) ?_
        refine am_go.blk hcd_la_law 2 (g := (487, [some (.float 4), some (.ref 0), some (.ref 16), some (.ref 21), some (.int x4), some (.int q38.1), some (.int q40.1)], [.ref 16], zz_hL q38.2.1 q40.2 q38.2.2.2.1 q38.2.2.2.2, true)) rfl ?_
        obtain ⟨q41, hq41, hF⟩ := am_bd hF
        refine am_go.call hcd_la_law rfl rfl rfl rfl (am_le8 rfl) (am_ev.le (by decide) (tz_mo_thrown (c := q38.2.1) (t := .inr (.inr (1, q38.2.2.2.1)) :: q38.2.2.2.2) hq41)) ?_
        refine am_go.blk hcd_la_law 2 (g := (bif decide (q41 = q38.1) then 497 else 495, [some (.float 4), some (.ref 0), some (.ref 16), some (.ref 21), some (.int x4), some (.int q38.1), some (.int q40.1)], [], zz_hL q38.2.1 q40.2 q38.2.2.2.1 q38.2.2.2.2, true)) rfl ?_
        refine am_go.br (fun hP => ?_) (fun hP => ?_)
        · replace hF := (if_pos hP).symm.trans hF
          refine am_go.blk hcd_la_law 2 (g := (bif decide (¬ q38.1 = 0) then 514 else 502, [some (.float 4), some (.ref 0), some (.ref 16), some (.ref 21), some (.int x4), some (.int q38.1), some (.int q40.1)], [], zz_hL q38.2.1 q40.2 q38.2.2.2.1 q38.2.2.2.2, true)) rfl ?_
          refine am_go.br (fun hP => ?_) (fun hP => ?_)
          · replace hF := (if_pos hP).symm.trans hF
            refine am_go.fgl [some (.float 4), some (.ref 0), some (.ref 16), some (.ref 21), some (.int x4), none, none] ⟨rfl, rfl, rfl, rfl, rfl, trivial⟩ ?_
            exact tz_la_law_514 (hK23 := ih) hF
          · replace hF := (if_neg hP).symm.trans hF
            refine am_go.blk hcd_la_law 2 (g := (504, [some (.float 4), some (.ref 0), some (.ref 16), some (.ref 21), some (.int x4), some (.int q38.1), some (.int q40.1)], [.int (0 : Int32), .ref 21], zz_hL q38.2.1 q40.2 q38.2.2.2.1 q38.2.2.2.2, true)) rfl ?_
            refine am_go.lald hcd_la_law rfl rfl (by decide) ?_
            refine am_go.blk hcd_la_law 4 (g := (bif decide ((lg_cmp (q38.2.2.2.1 (Int32.toNatClampNeg (0 : Int32))) (Int32.toInt64 q40.1)) = 0) then 514 else 512, [some (.float 4), some (.ref 0), some (.ref 16), some (.ref 21), some (.int x4), some (.int q38.1), some (.int q40.1)], [], zz_hL q38.2.1 q40.2 q38.2.2.2.1 q38.2.2.2.2, true)) rfl ?_
            refine am_go.br (fun hP => ?_) (fun hP => ?_)
            · replace hF := (if_pos hP).symm.trans hF
              refine am_go.fgl [some (.float 4), some (.ref 0), some (.ref 16), some (.ref 21), some (.int x4), none, none] ⟨rfl, rfl, rfl, rfl, rfl, trivial⟩ ?_
              exact tz_la_law_514 (hK23 := ih) hF
            · replace hF := (if_neg hP).symm.trans hF
              refine am_go.blk hcd_la_law 1 (g := (513, [some (.float 4), some (.ref 0), some (.ref 16), some (.ref 21), some (.int x4), some (.int q38.1), some (.int q40.1)], [.int (0 : Int32)], zz_hL q38.2.1 q40.2 q38.2.2.2.1 q38.2.2.2.2, true)) rfl ?_
              cases hF
              exact am_go.ret hcd_la_law rfl rfl ⟨rfl, rfl, (fun h => by cases h), Or.inr ⟨rfl, Or.inl rfl⟩, rfl⟩
        · replace hF := (if_neg hP).symm.trans hF
          refine am_go.blk hcd_la_law 1 (g := (496, [some (.float 4), some (.ref 0), some (.ref 16), some (.ref 21), some (.int x4), some (.int q38.1), some (.int q40.1)], [.int (0 : Int32)], zz_hL q38.2.1 q40.2 q38.2.2.2.1 q38.2.2.2.2, true)) rfl ?_
          cases hF
          exact am_go.ret hcd_la_law rfl rfl ⟨rfl, rfl, (fun h => by cases h), Or.inr ⟨rfl, Or.inl rfl⟩, rfl⟩
      replace hF := (if_neg hc).symm.trans hF
      by_cases hc : ((sc.2 (Int32.toNatClampNeg x4)) &&& (15 : Int32)) = 11
      · replace hF := (if_pos hc).symm.trans hF
        refine am_go.tsI hcd_la_law rfl hc (by decide) rfl rfl (t := 517) ?_
        refine am_go.blk hcd_la_law 5 (g := (523, [some (.float 4), some (.ref 0), some (.ref 16), some (.ref 21), some (.int x4), none, none], [.int (x4 + (1 : Int32)), .float 4, .ref 0], zz_hL s m o t, true)) rfl ?_
        obtain ⟨hi42, hF⟩ := am_ng hF
        refine am_go.iald hcd_la_law rfl rfl hi42 ?_
        refine am_go.blk hcd_la_law 4 (g := (529, [some (.float 4), some (.ref 0), some (.ref 16), some (.ref 21), some (.int x4), none, none], [.int (x4 + (2 : Int32)), .float 4, .int (sc.2 (Int32.toNatClampNeg (x4 + (1 : Int32)))), .ref 0], zz_hL s m o t, true)) rfl ?_
        obtain ⟨hi43, hF⟩ := am_ng hF
        refine am_go.iald hcd_la_law rfl rfl hi43 ?_
        obtain ⟨q44, hq44, hF⟩ := am_bd hF
        refine am_go.call hcd_la_law rfl rfl rfl rfl (am_le8 rfl) (am_ev.le (by decide) (tz_la_poke  hq44)) ?_
        refine am_go.blk hcd_la_law 6 (g := (541, [some (.float 4), some (.ref 0), some (.ref 16), some (.ref 21), some (.int x4), some (.int q44.1), none], [.int (x4 + (1 : Int32)), .float 4, .ref 16], zz_hL q44.2.1 q44.2.2.1 q44.2.2.2.1 q44.2.2.2.2, true)) rfl ?_
        obtain ⟨hi45, hF⟩ := am_ng hF
        refine am_go.iald hcd_la_law rfl rfl hi45 ?_
        refine am_go.blk hcd_la_law 4 (g := (547, [some (.float 4), some (.ref 0), some (.ref 16), some (.ref 21), some (.int x4), some (.int q44.1), none], [.int (x4 + (2 : Int32)), .float 4, .int (sc.2 (Int32.toNatClampNeg (x4 + (1 : Int32)))), .ref 16], zz_hL q44.2.1 q44.2.2.1 q44.2.2.2.1 q44.2.2.2.2, true)) rfl ?_
        obtain ⟨hi46, hF⟩ := am_ng hF
        refine am_go.iald hcd_la_law rfl rfl hi46 ?_
        obtain ⟨q47, hq47, hF⟩ := am_bd hF
        refine am_go.call hcd_la_law rfl rfl rfl rfl (am_le8 rfl) (am_ev.le (by decide) (tz_mo_poke (c := q44.2.1) (t := .inr (.inr (1, q44.2.2.2.1)) :: q44.2.2.2.2) hq47)) ?_
        refine am_go.blk hcd_la_law 1 (g := (552, [some (.float 4), some (.ref 0), some (.ref 16), some (.ref 21), some (.int x4), some (.int q44.1), none], [.ref 16], zz_hL q44.2.1 q47 q44.2.2.2.1 q44.2.2.2.2, true)) rfl ?_
        obtain ⟨q48, hq48, hF⟩ := am_bd hF
        refine am_go.call hcd_la_law rfl rfl rfl rfl (am_le8 rfl) (am_ev.le (by decide) (tz_mo_thrown (c := q44.2.1) (t := .inr (.inr (1, q44.2.2.2.1)) :: q44.2.2.2.2) hq48)) ?_
        refine am_go.blk hcd_la_law 2 (g := (bif decide (q48 = q44.1) then 562 else 560, [some (.float 4), some (.ref 0), some (.ref 16), some (.ref 21), some (.int x4), some (.int q44.1), none], [], zz_hL q44.2.1 q47 q44.2.2.2.1 q44.2.2.2.2, true)) rfl ?_
        refine am_go.br (fun hP => ?_) (fun hP => ?_)
        · replace hF := (if_pos hP).symm.trans hF
          refine am_go.blk hcd_la_law 1 (g := (782, [some (.float 4), some (.ref 0), some (.ref 16), some (.ref 21), some (.int x4), some (.int q44.1), none], [], zz_hL q44.2.1 q47 q44.2.2.2.1 q44.2.2.2.2, true)) rfl ?_
          refine am_go.fgl [some (.float 4), some (.ref 0), some (.ref 16), some (.ref 21), some (.int x4), none, none] ⟨rfl, rfl, rfl, rfl, rfl, trivial⟩ ?_
          exact tz_la_law_782 (hK23 := ih) hF
        · replace hF := (if_neg hP).symm.trans hF
          refine am_go.blk hcd_la_law 1 (g := (561, [some (.float 4), some (.ref 0), some (.ref 16), some (.ref 21), some (.int x4), some (.int q44.1), none], [.int (0 : Int32)], zz_hL q44.2.1 q47 q44.2.2.2.1 q44.2.2.2.2, true)) rfl ?_
          cases hF
          exact am_go.ret hcd_la_law rfl rfl ⟨rfl, rfl, (fun h => by cases h), Or.inr ⟨rfl, Or.inl rfl⟩, rfl⟩
      replace hF := (if_neg hc).symm.trans hF
      by_cases hc : ((sc.2 (Int32.toNatClampNeg x4)) &&& (15 : Int32)) = 12
      · replace hF := (if_pos hc).symm.trans hF
        refine am_go.tsI hcd_la_law rfl hc (by decide) rfl rfl (t := 565) ?_
        refine am_go.blk hcd_la_law 5 (g := (571, [some (.float 4), some (.ref 0), some (.ref 16), some (.ref 21), some (.int x4), none, none], [.int (x4 + (1 : Int32)), .float 4, .ref 0], zz_hL s m o t, true)) rfl ?_
        obtain ⟨hi49, hF⟩ := am_ng hF
        refine am_go.iald hcd_la_law rfl rfl hi49 ?_
        refine am_go.blk hcd_la_law 7 (g := (581, [some (.float 4), some (.ref 0), some (.ref 16), some (.ref 21), some (.int x4), none, none], [.int (x4 + (2 : Int32)), .float 4, .long ((Int32.toInt64 (sc.2 (Int32.toNatClampNeg (x4 + (1 : Int32))))) <<< (Int32.toInt64 (32 : Int32) &&& 63)), .ref 0], zz_hL s m o t, true)) rfl ?_
        obtain ⟨hi50, hF⟩ := am_ng hF
        refine am_go.iald hcd_la_law rfl rfl hi50 ?_
        refine am_go.blk hcd_la_law 8 (g := (593, [some (.float 4), some (.ref 0), some (.ref 16), some (.ref 21), some (.int x4), none, none], [.int (x4 + (3 : Int32)), .float 4, .long (((Int32.toInt64 (sc.2 (Int32.toNatClampNeg (x4 + (1 : Int32))))) <<< (Int32.toInt64 (32 : Int32) &&& 63)) ||| ((Int32.toInt64 (sc.2 (Int32.toNatClampNeg (x4 + (2 : Int32))))) &&& (4294967295 : Int64))), .ref 0], zz_hL s m o t, true)) rfl ?_
        obtain ⟨hi51, hF⟩ := am_ng hF
        refine am_go.iald hcd_la_law rfl rfl hi51 ?_
        refine am_go.blk hcd_la_law 1 (g := (595, [some (.float 4), some (.ref 0), some (.ref 16), some (.ref 21), some (.int x4), none, none], [.ref 21, .int (sc.2 (Int32.toNatClampNeg (x4 + (3 : Int32)))), .long (((Int32.toInt64 (sc.2 (Int32.toNatClampNeg (x4 + (1 : Int32))))) <<< (Int32.toInt64 (32 : Int32) &&& 63)) ||| ((Int32.toInt64 (sc.2 (Int32.toNatClampNeg (x4 + (2 : Int32))))) &&& (4294967295 : Int64))), .ref 0], zz_hL s m o t, true)) rfl ?_
        obtain ⟨q52, hq52, hF⟩ := am_bd hF
        refine am_go.call hcd_la_law rfl rfl rfl rfl (am_le8 rfl) (am_ev.le (by decide) (tz_la_type  hq52)) ?_
        refine am_go.blk hcd_la_law 6 (g := (606, [some (.float 4), some (.ref 0), some (.ref 16), some (.ref 21), some (.int x4), some (.int q52.1), none], [.int (x4 + (1 : Int32)), .float 4, .ref 16], zz_hL q52.2.1 q52.2.2.1 q52.2.2.2.1 q52.2.2.2.2, true)) rfl ?_
        obtain ⟨hi53, hF⟩ := am_ng hF
        refine am_go.iald hcd_la_law rfl rfl hi53 ?_
        refine am_go.blk hcd_la_law 7 (g := (616, [some (.float 4), some (.ref 0), some (.ref 16), some (.ref 21), some (.int x4), some (.int q52.1), none], [.int (x4 + (2 : Int32)), .float 4, .long ((Int32.toInt64 (sc.2 (Int32.toNatClampNeg (x4 + (1 : Int32))))) <<< (Int32.toInt64 (32 : Int32) &&& 63)), .ref 16], zz_hL q52.2.1 q52.2.2.1 q52.2.2.2.1 q52.2.2.2.2, true)) rfl ?_
        obtain ⟨hi54, hF⟩ := am_ng hF
        refine am_go.iald hcd_la_law rfl rfl hi54 ?_
        refine am_go.blk hcd_la_law 8 (g := (628, [some (.float 4), some (.ref 0), some (.ref 16), some (.ref 21), some (.int x4), some (.int q52.1), none], [.int (x4 + (3 : Int32)), .float 4, .long (((Int32.toInt64 (sc.2 (Int32.toNatClampNeg (x4 + (1 : Int32))))) <<< (Int32.toInt64 (32 : Int32) &&& 63)) ||| ((Int32.toInt64 (sc.2 (Int32.toNatClampNeg (x4 + (2 : Int32))))) &&& (4294967295 : Int64))), .ref 16], zz_hL q52.2.1 q52.2.2.1 q52.2.2.2.1 q52.2.2.2.2, true)) rfl ?_
        obtain ⟨hi55, hF⟩ := am_ng hF
        refine am_go.iald hcd_la_law rfl rfl hi55 ?_
        obtain ⟨q56, hq56, hF⟩ := am_bd hF
        refine am_go.call hcd_la_law rfl rfl rfl rfl (am_le8 rfl) (am_ev.le (by decide) (tz_mo_type (c := q52.2.1) (t := .inr (.inr (1, q52.2.2.2.1)) :: q52.2.2.2.2) hq56)) ?_
        refine am_go.blk hcd_la_law 2 (g := (635, [some (.float 4), some (.ref 0), some (.ref 16), some (.ref 21), some (.int x4), some (.int q52.1), some (.int q56.1)], [.ref 16], zz_hL q52.2.1 q56.2 q52.2.2.2.1 q52.2.2.2.2, true)) rfl ?_
        obtain ⟨q57, hq57, hF⟩ := am_bd hF
        refine am_go.call hcd_la_law rfl rfl rfl rfl (am_le8 rfl) (am_ev.le (by decide) (tz_mo_thrown (c := q52.2.1) (t := .inr (.inr (1, q52.2.2.2.1)) :: q52.2.2.2.2) hq57)) ?_
        refine am_go.blk hcd_la_law 2 (g := (bif decide (q57 = q52.1) then 645 else 643, [some (.float 4), some (.ref 0), some (.ref 16), some (.ref 21), some (.int x4), some (.int q52.1), some (.int q56.1)], [], zz_hL q52.2.1 q56.2 q52.2.2.2.1 q52.2.2.2.2, true)) rfl ?_
        refine am_go.br (fun hP => ?_) (fun hP => ?_)
        · replace hF := (if_pos hP).symm.trans hF
          refine am_go.blk hcd_la_law 2 (g := (bif decide (¬ q52.1 = 0) then 662 else 650, [some (.float 4), some (.ref 0), some (.ref 16), some (.ref 21), some (.int x4), some (.int q52.1), some (.int q56.1)], [], zz_hL q52.2.1 q56.2 q52.2.2.2.1 q52.2.2.2.2, true)) rfl ?_
          refine am_go.br (fun hP => ?_) (fun hP => ?_)
          · replace hF := (if_pos hP).symm.trans hF
            refine am_go.fgl [some (.float 4), some (.ref 0), some (.ref 16), some (.ref 21), some (.int x4), none, none] ⟨rfl, rfl, rfl, rfl, rfl, trivial⟩ ?_
            exact tz_la_law_662 (hK23 := ih) hF
          · replace hF := (if_neg hP).symm.trans hF
            refine am_go.blk hcd_la_law 2 (g := (652, [some (.float 4), some (.ref 0), some (.ref 16), some (.ref 21), some (.int x4), some (.int q52.1), some (.int q56.1)], [.int (0 : Int32), .ref 21], zz_hL q52.2.1 q56.2 q52.2.2.2.1 q52.2.2.2.2, true)) rfl ?_
            refine am_go.lald hcd_la_law rfl rfl (by decide) ?_
            refine am_go.blk hcd_la_law 4 (g := (bif decide ((lg_cmp (q52.2.2.2.1 (Int32.toNatClampNeg (0 : Int32))) (Int32.toInt64 q56.1)) = 0) then 662 else 660, [some (.float 4), some (.ref 0), some (.ref 16), some (.ref 21), some (.int x4), some (.int q52.1), some (.int q56.1)], [], zz_hL q52.2.1 q56.2 q52.2.2.2.1 q52.2.2.2.2, true)) rfl ?_
            refine am_go.br (fun hP => ?_) (fun hP => ?_)
            · replace hF := (if_pos hP).symm.trans hF
              refine am_go.fgl [some (.float 4), some (.ref 0), some (.ref 16), some (.ref 21), some (.int x4), none, none] ⟨rfl, rfl, rfl, rfl, rfl, trivial⟩ ?_
              exact tz_la_law_662 (hK23 := ih) hF
            · replace hF := (if_neg hP).symm.trans hF
              refine am_go.blk hcd_la_law 1 (g := (661, [some (.float 4), some (.ref 0), some (.ref 16), some (.ref 21), some (.int x4), some (.int q52.1), some (.int q56.1)], [.int (0 : Int32)], zz_hL q52.2.1 q56.2 q52.2.2.2.1 q52.2.2.2.2, true)) rfl ?_
              cases hF
              exact am_go.ret hcd_la_law rfl rfl ⟨rfl, rfl, (fun h => by cases h), Or.inr ⟨rfl, Or.inl rfl⟩, rfl⟩
        · replace hF := (if_neg hP).symm.trans hF
          refine am_go.blk hcd_la_law 1 (g := (644, [some (.float 4), some (.ref 0), some (.ref 16), some (.ref 21), some (.int x4), some (.int q52.1), some (.int q56.1)], [.int (0 : Int32)], zz_hL q52.2.1 q56.2 q52.2.2.2.1 q52.2.2.2.2, true)) rfl ?_
          cases hF
          exact am_go.ret hcd_la_law rfl rfl ⟨rfl, rfl, (fun h => by cases h), Or.inr ⟨rfl, Or.inl rfl⟩, rfl⟩
      replace hF := (if_neg hc).symm.trans hF
      by_cases hc : ((sc.2 (Int32.toNatClampNeg x4)) &&& (15 : Int32)) = 13
      · replace hF := (if_pos hc).symm.trans hF
        refine am_go.tsI hcd_la_law rfl hc (by decide) rfl rfl (t := 665) ?_
        refine am_go.blk hcd_la_law 5 (g := (671, [some (.float 4), some (.ref 0), some (.ref 16), some (.ref 21), some (.int x4), none, none], [.int (x4 + (1 : Int32)), .float 4, .ref 0], zz_hL s m o t, true)) rfl ?_
        obtain ⟨hi58, hF⟩ := am_ng hF
        refine am_go.iald hcd_la_law rfl rfl hi58 ?_
        obtain ⟨q59, hq59, hF⟩ := am_bd hF
        refine am_go.call hcd_la_law rfl rfl rfl rfl (am_le8 rfl) (am_ev.le (by decide) (tz_la_cut  hq59)) ?_
        refine am_go.blk hcd_la_law 6 (g := (683, [some (.float 4), some (.ref 0), some (.ref 16), some (.ref 21), some (.int x4), some (.int q59.1), none], [.int (x4 + (1 : Int32)), .float 4, .ref 16], zz_hL q59.2.1 q59.2.2.1 q59.2.2.2.1 q59.2.2.2.2, true)) rfl ?_
        obtain ⟨hi60, hF⟩ := am_ng hF
        refine am_go.iald hcd_la_law rfl rfl hi60 ?_
        obtain ⟨q61, hq61, hF⟩ := am_bd hF
        refine am_go.call hcd_la_law rfl rfl rfl rfl (am_le8 rfl) (am_ev.le (by decide) (tz_mo_cut (c := q59.2.1) (t := .inr (.inr (1, q59.2.2.2.1)) :: q59.2.2.2.2) hq61)) ?_
        refine am_go.blk hcd_la_law 1 (g := (688, [some (.float 4), some (.ref 0), some (.ref 16), some (.ref 21), some (.int x4), some (.int q59.1), none], [.ref 16], zz_hL q59.2.1 q61 q59.2.2.2.1 q59.2.2.2.2, true)) rfl ?_
        obtain ⟨q62, hq62, hF⟩ := am_bd hF
        refine am_go.call hcd_la_law rfl rfl rfl rfl (am_le8 rfl) (am_ev.le (by decide) (tz_mo_thrown (c := q59.2.1) (t := .inr (.inr (1, q59.2.2.2.1)) :: q59.2.2.2.2) hq62)) ?_
        refine am_go.blk hcd_la_law 2 (g := (bif decide (q62 = q59.1) then 698 else 696, [some (.float 4), some (.ref 0), some (.ref 16), some (.ref 21), some (.int x4), some (.int q59.1), none], [], zz_hL q59.2.1 q61 q59.2.2.2.1 q59.2.2.2.2, true)) rfl ?_
        refine am_go.br (fun hP => ?_) (fun hP => ?_)
        · replace hF := (if_pos hP).symm.trans hF
          refine am_go.blk hcd_la_law 1 (g := (782, [some (.float 4), some (.ref 0), some (.ref 16), some (.ref 21), some (.int x4), some (.int q59.1), none], [], zz_hL q59.2.1 q61 q59.2.2.2.1 q59.2.2.2.2, true)) rfl ?_
          refine am_go.fgl [some (.float 4), some (.ref 0), some (.ref 16), some (.ref 21), some (.int x4), none, none] ⟨rfl, rfl, rfl, rfl, rfl, trivial⟩ ?_
          exact tz_la_law_782 (hK23 := ih) hF
        · replace hF := (if_neg hP).symm.trans hF
          refine am_go.blk hcd_la_law 1 (g := (697, [some (.float 4), some (.ref 0), some (.ref 16), some (.ref 21), some (.int x4), some (.int q59.1), none], [.int (0 : Int32)], zz_hL q59.2.1 q61 q59.2.2.2.1 q59.2.2.2.2, true)) rfl ?_
          cases hF
          exact am_go.ret hcd_la_law rfl rfl ⟨rfl, rfl, (fun h => by cases h), Or.inr ⟨rfl, Or.inl rfl⟩, rfl⟩
      replace hF := (if_neg hc).symm.trans hF
      by_cases hc : ((sc.2 (Int32.toNatClampNeg x4)) &&& (15 : Int32)) = 14
      · replace hF := (if_pos hc).symm.trans hF
        refine am_go.tsI hcd_la_law rfl hc (by decide) rfl rfl (t := 701) ?_
        refine am_go.blk hcd_la_law 1 (g := (702, [some (.float 4), some (.ref 0), some (.ref 16), some (.ref 21), some (.int x4), none, none], [.ref 0], zz_hL s m o t, true)) rfl ?_
        obtain ⟨q63, hq63, hF⟩ := am_bd hF
        refine am_go.call hcd_la_law rfl rfl rfl rfl (am_le8 rfl) (am_ev.le (by decide) (tz_sh_chunks (t := zz_M m ++ (.inr (.inr (1, o)) :: t)) hq63)) ?_
        refine am_go.blk hcd_la_law 1 (g := (706, [some (.float 4), some (.ref 0), some (.ref 16), some (.ref 21), some (.int x4), none, none], [.ref 16, .int q63], zz_hL s m o t, true)) rfl ?_
        obtain ⟨q64, hq64, hF⟩ := am_bd hF
        refine am_go.call hcd_la_law rfl rfl rfl rfl (am_le8 rfl) (am_ev.le (by decide) (tz_mo_chunks (c := s) (t := .inr (.inr (1, o)) :: t) hq64)) ?_
        refine am_go.blk hcd_la_law 1 (g := (bif decide (q63 = q64.1) then 782 else 712, [some (.float 4), some (.ref 0), some (.ref 16), some (.ref 21), some (.int x4), none, none], [], zz_hL s q64.2 o t, true)) rfl ?_
        refine am_go.br (fun hP => ?_) (fun hP => ?_)
        · replace hF := (if_pos hP).symm.trans hF
          exact tz_la_law_782 (hK23 := ih) hF
        · replace hF := (if_neg hP).symm.trans hF
          refine am_go.blk hcd_la_law 1 (g := (713, [some (.float 4), some (.ref 0), some (.ref 16), some (.ref 21), some (.int x4), none, none], [.int (0 : Int32)], zz_hL s q64.2 o t, true)) rfl ?_
          cases hF
          exact am_go.ret hcd_la_law rfl rfl ⟨rfl, rfl, (fun h => by cases h), Or.inr ⟨rfl, Or.inl rfl⟩, rfl⟩
      replace hF := (if_neg hc).symm.trans hF
      by_cases hc : ((sc.2 (Int32.toNatClampNeg x4)) &&& (15 : Int32)) = 15
      · replace hF := (if_pos hc).symm.trans hF
        refine am_go.tsI hcd_la_law rfl hc (by decide) rfl rfl (t := 714) ?_
        refine am_go.blk hcd_la_law 5 (g := (720, [some (.float 4), some (.ref 0), some (.ref 16), some (.ref 21), some (.int x4), none, none], [.int (x4 + (1 : Int32)), .float 4, .ref 0], zz_hL s m o t, true)) rfl ?_
        obtain ⟨hi65, hF⟩ := am_ng hF
        refine am_go.iald hcd_la_law rfl rfl hi65 ?_
        refine am_go.blk hcd_la_law 4 (g := (726, [some (.float 4), some (.ref 0), some (.ref 16), some (.ref 21), some (.int x4), none, none], [.int (x4 + (2 : Int32)), .float 4, .int (sc.2 (Int32.toNatClampNeg (x4 + (1 : Int32)))), .ref 0], zz_hL s m o t, true)) rfl ?_
        obtain ⟨hi66, hF⟩ := am_ng hF
        refine am_go.iald hcd_la_law rfl rfl hi66 ?_
        refine am_go.blk hcd_la_law 1 (g := (728, [some (.float 4), some (.ref 0), some (.ref 16), some (.ref 21), some (.int x4), none, none], [.ref 21, .int (sc.2 (Int32.toNatClampNeg (x4 + (2 : Int32)))), .int (sc.2 (Int32.toNatClampNeg (x4 + (1 : Int32)))), .ref 0], zz_hL s m o t, true)) rfl ?_
        obtain ⟨q67, hq67, hF⟩ := am_bd hF
        refine am_go.call hcd_la_law rfl rfl rfl rfl (am_le8 rfl) (am_ev.le (by decide) (tz_la_chunk  hq67)) ?_
        refine am_go.blk hcd_la_law 6 (g := (739, [some (.float 4), some (.ref 0), some (.ref 16), some (.ref 21), some (.int x4), some (.int q67.1), none], [.int (x4 + (1 : Int32)), .float 4, .ref 16], zz_hL q67.2.1 q67.2.2.1 q67.2.2.2.1 q67.2.2.2.2, true)) rfl ?_
        obtain ⟨hi68, hF⟩ := am_ng hF
        refine am_go.iald hcd_la_law rfl rfl hi68 ?_
        refine am_go.blk hcd_la_law 4 (g := (745, [some (.float 4), some (.ref 0), some (.ref 16), some (.ref 21), some (.int x4), some (.int q67.1), none], [.int (x4 + (2 : Int32)), .float 4, .int (sc.2 (Int32.toNatClampNeg (x4 + (1 : Int32)))), .ref 16], zz_hL q67.2.1 q67.2.2.1 q67.2.2.2.1 q67.2.2.2.2, true)) rfl ?_
        obtain ⟨hi69, hF⟩ := am_ng hF
        refine am_go.iald hcd_la_law rfl rfl hi69 ?_
        obtain ⟨q70, hq70, hF⟩ := am_bd hF
        refine am_go.call hcd_la_law rfl rfl rfl rfl (am_le8 rfl) (am_ev.le (by decide) (tz_mo_chunk (c := q67.2.1) (t := .inr (.inr (1, q67.2.2.2.1)) :: q67.2.2.2.2) hq70)) ?_
        refine am_go.blk hcd_la_law 2 (g := (752, [some (.float 4), some (.ref 0), some (.ref 16), some (.ref 21), some (.int x4), some (.int q67.1), some (.int q70.1)], [.ref 16], zz_hL q67.2.1 q70.2 q67.2.2.2.1 q67.2.2.2.2, true)) rfl ?_
        obtain ⟨q71, hq71, hF⟩ := am_bd hF
        refine am_go.call hcd_la_law rfl rfl rfl rfl (am_le8 rfl) (am_ev.le (by decide) (tz_mo_thrown (c := q67.2.1) (t := .inr (.inr (1, q67.2.2.2.1)) :: q67.2.2.2.2) hq71)) ?_
        refine am_go.blk hcd_la_law 2 (g := (bif decide (q71 = q67.1) then 762 else 760, [some (.float 4), some (.ref 0), some (.ref 16), some (.ref 21), some (.int x4), some (.int q67.1), some (.int q70.1)], [], zz_hL q67.2.1 q70.2 q67.2.2.2.1 q67.2.2.2.2, true)) rfl ?_
        refine am_go.br (fun hP => ?_) (fun hP => ?_)
        · replace hF := (if_pos hP).symm.trans hF
          refine am_go.blk hcd_la_law 2 (g := (bif decide (¬ q67.1 = 0) then 779 else 767, [some (.float 4), some (.ref 0), some (.ref 16), some (.ref 21), some (.int x4), some (.int q67.1), some (.int q70.1)], [], zz_hL q67.2.1 q70.2 q67.2.2.2.1 q67.2.2.2.2, true)) rfl ?_
          refine am_go.br (fun hP => ?_) (fun hP => ?_)
          · replace hF := (if_pos hP).symm.trans hF
            refine am_go.fgl [some (.float 4), some (.ref 0), some (.ref 16), some (.ref 21), some (.int x4), none, none] ⟨rfl, rfl, rfl, rfl, rfl, trivial⟩ ?_
            exact tz_la_law_779 (hK23 := ih) hF
          · replace hF := (if_neg hP).symm.trans hF
            refine am_go.blk hcd_la_law 2 (g := (769, [some (.float 4), some (.ref 0), some (.ref 16), some (.ref 21), some (.int x4), some (.int q67.1), some (.int q70.1)], [.int (0 : Int32), .ref 21], zz_hL q67.2.1 q70.2 q67.2.2.2.1 q67.2.2.2.2, true)) rfl ?_
            refine am_go.lald hcd_la_law rfl rfl (by decide) ?_
            refine am_go.blk hcd_la_law 4 (g := (bif decide ((lg_cmp (q67.2.2.2.1 (Int32.toNatClampNeg (0 : Int32))) (Int32.toInt64 q70.1)) = 0) then 779 else 777, [some (.float 4), some (.ref 0), some (.ref 16), some (.ref 21), some (.int x4), some (.int q67.1), some (.int q70.1)], [], zz_hL q67.2.1 q70.2 q67.2.2.2.1 q67.2.2.2.2, true)) rfl ?_
            refine am_go.br (fun hP => ?_) (fun hP => ?_)
            · replace hF := (if_pos hP).symm.trans hF
              refine am_go.fgl [some (.float 4), some (.ref 0), some (.ref 16), some (.ref 21), some (.int x4), none, none] ⟨rfl, rfl, rfl, rfl, rfl, trivial⟩ ?_
              exact tz_la_law_779 (hK23 := ih) hF
            · replace hF := (if_neg hP).symm.trans hF
              refine am_go.blk hcd_la_law 1 (g := (778, [some (.float 4), some (.ref 0), some (.ref 16), some (.ref 21), some (.int x4), some (.int q67.1), some (.int q70.1)], [.int (0 : Int32)], zz_hL q67.2.1 q70.2 q67.2.2.2.1 q67.2.2.2.2, true)) rfl ?_
              cases hF
              exact am_go.ret hcd_la_law rfl rfl ⟨rfl, rfl, (fun h => by cases h), Or.inr ⟨rfl, Or.inl rfl⟩, rfl⟩
        · replace hF := (if_neg hP).symm.trans hF
          refine am_go.blk hcd_la_law 1 (g := (761, [some (.float 4), some (.ref 0), some (.ref 16), some (.ref 21), some (.int x4), some (.int q67.1), some (.int q70.1)], [.int (0 : Int32)], zz_hL q67.2.1 q70.2 q67.2.2.2.1 q67.2.2.2.2, true)) rfl ?_
          cases hF
          exact am_go.ret hcd_la_law rfl rfl ⟨rfl, rfl, (fun h => by cases h), Or.inr ⟨rfl, Or.inl rfl⟩, rfl⟩
      replace hF := (if_neg hc).symm.trans hF
      cases hF
