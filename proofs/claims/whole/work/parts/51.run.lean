/-! The abstract machine is sound, 8: a run. -/
/-- what the tables were checked for -/
def am_rok (q : am_E) : Prop := match q.2.1, q.2.2.2.1 with
  | .invokestatic _, 0 => am_jok q.2.2.2.2.1 ∧ am_sok q.2.2.2.2.1
  | .invokestatic _, 3 => am_jok q.2.2.2.2.1 ∧ am_sok q.2.2.2.2.1 ∧ am_hd q.2.2.2.2.1 = []
  | .invokespecial _, 2 => am_jok q.2.2.2.2.1 ∧ am_iok q.2.2.2.2.1
  | .invokespecial _, 4 => am_jok q.2.2.2.2.1 ∧ am_iok q.2.2.2.2.1
  | .invokevirtual _, 1 => am_jok q.2.2.2.2.1 ∧ am_vok q.2.2.2.2.1 ∧ am_cl[am_ow q.2.2.2.2.1]? = some (am_cw (am_ow q.2.2.2.2.1)) ∧ (am_cw (am_ow q.2.2.2.2.1)).1 = am_on q.2.2.2.2.1
  | .invokevirtual _, 5 => (am_jok q.2.2.2.2.1 ∧ am_dok "SoundShelf$Stepper" q.2.2.2.2.1) ∧ am_jok q.2.2.2.2.2.1 ∧ am_dok "SoundShelf$Predictor" q.2.2.2.2.2.1
  | _, _ => True
def am_tab : Prop := (∀ x, x < 9 → am_clok x) ∧ (Jvm.Cond.arrayClass .int ∈ lw_tbl ∧ Jvm.Cond.arrayClass .long ∈ lw_tbl) ∧ (Jvm.Cond.instanceMethod Lib.objectInit ∈ lw_tbl ∧ Jvm.Cond.code Lib.objectInit ⟨#[0xb1]⟩ 1 none ∈ lw_tbl) ∧ (Jvm.Cond.native arraycopyName ∈ lw_tbl ∧ Jvm.Cond.static arraycopyName ∈ lw_tbl ∧ Jvm.Cond.initialized "java/lang/System" ∈ lw_tbl) ∧ ∀ (k pc : Nat) (q : am_E), k < 173 → am_op k pc = some q → am_okb k q = true ∧ q.1 = pc ∧ am_rok q
section AMZ
variable {p : Program} {l : Launch} {e : Env} {R : Room} {s : State} {m : MethodId} {args : Array Value} {below : List Frame} {meth : Method} {c : Code} {H : Heap} {locs : List Loc} {cells slots : Nat} {Q : State → Prop}
variable {pc k d : Nat} {ls : Array Slot} {s0 : State} {A0 : Array Value} {D : va_G} {cI cJ : ClassId} {od : Nat → Nat} {sc : am_S} {h0 h g : am_H} {w u : Bool}
theorem am_lr.fg {L M : am_L} {b0 : Nat} (hL : am_lr b0 od L ls) (hf : am_fg L M) : am_lr b0 od M ls := ⟨hL.1.trans hf.1.symm, hL.2.1, fun i v hi => hL.2.2 i v (hf.2 i v hi)⟩
theorem am_st_len1 {L M : am_L} {i : Nat} {v : Value} (h : am_st1 L i v = some M) : M.length = L.length := by
  unfold am_st1 at h
  cases hi : Nat.blt i L.length with
  | false => simp [hi] at h
  | true =>
    simp only [hi, cond_true, Option.some.injEq] at h
    rw [← h, List.length_set, am_clr_len]
theorem am_st_len2 {L M : am_L} {i : Nat} {v : Value} (h : am_st2 L i v = some M) : M.length = L.length := by
  unfold am_st2 at h
  cases hi : Nat.blt (i + 1) L.length with
  | false => simp [hi] at h
  | true =>
    simp only [hi, cond_true, Option.some.injEq] at h
    rw [← h, List.length_set, List.length_set, am_clr_len]
theorem am_sB_len {I : Instr} {L M : am_L} {st r : List Value} {n : Nat} (hs : am_sB I L st = some (M, r, n)) : M.length = L.length := by
  unfold am_sB at hs
  split at hs
  case h_9 =>
    split at hs
    · obtain ⟨M', h1, h2⟩ := Option.map_eq_some_iff.mp hs
      simp only [Prod.mk.injEq] at h2
      obtain ⟨rfl, -, -⟩ := h2
      exact am_st_len1 h1
    · cases hs
  all_goals
    first
    | (cases hs; done)
    | (obtain ⟨M', h1, h2⟩ := Option.map_eq_some_iff.mp hs
       simp only [Prod.mk.injEq] at h2
       obtain ⟨rfl, -, -⟩ := h2
       first
       | exact am_st_len1 h1
       | exact am_st_len2 h1)
/-- any plain step -/
theorem am_step_ok (TB : am_tab) (M : am_mx p l R s m meth c s0 A0 D cI cJ od sc h0 k d) {q : am_E} {L : am_L} {st : List Value} {f : am_F} (hok : am_okb k q = true) (hpc : q.1 = pc) (hs : am_s sc k q (pc, L, st, h, w) = some f) (hA : am_at s0 s D cI cJ od h0 h w H locs cells slots) (hL : am_lr s0.heap.size od L ls) (hLl : L.length = am_ml k) (hr : f.2.2.2.1.length ≤ R.cells + h0.length ∧ am_sz f.2.2.2.1 ≤ R.slots + am_sz h0)
    (K : ∀ (H1 : Heap) (locs1 : List Loc) (cells1 slots1 : Nat) (ls1 : Array Slot), am_at s0 s D cI cJ od h0 f.2.2.2.1 f.2.2.2.2 H1 locs1 cells1 slots1 → am_lr s0.heap.size od f.2.1 ls1 → f.2.1.length = am_ml k → W p l e R s m args below meth c H1 locs1 cells1 slots1 Q (F0 m f.1 ls1 (f.2.2.1.map (am_g s0.heap.size od)))) :
    W p l e R s m args below meth c H locs cells slots Q (F0 m pc ls (st.map (am_g s0.heap.size od))) := by
  have M0 := M
  obtain ⟨hx, hb, hml, hown, -, -, hname, hC, hI, -, hd1, hdf, hdl, -⟩ := M0
  obtain ⟨pc', I, len, x, y, z, v, wi⟩ := q
  simp only at hpc
  subst hpc
  have hok0 := hok
  simp only [am_okb, Bool.and_eq_true] at hok0
  obtain ⟨⟨hdec, hkk⟩, hrow⟩ := hok0
  have hd := of_decide_eq_true hdec
  rcases am_s_cases hs with ⟨v', h1, rfl⟩ | ⟨M', r', h1, rfl⟩ | ⟨r', h1, h2, rfl⟩ | ⟨t, r', h1, rfl⟩ | ⟨r', g', u', h1, rfl⟩
  · refine am_sA_ok hx hb hown hL hd hkk ?_ ?_ h1 (K H locs cells slots ls hA hL hLl)
    · intro i hi hx0
      subst hx0
      rcases hi with rfl | rfl
      · exact am_wd hC hI (am_wd?_mem hrow) rfl
      · exact am_wd hC hI (am_wd?_mem hrow) rfl
    · intro i hi
      subst hi
      exact am_wd hC hI (am_wd?_mem hrow) rfl
  · exact am_sB_ok hx hb hL hd hkk h1 (fun ls' hL' => K H locs cells slots ls' hA hL' ((am_sB_len h1).trans hLl))
  · simp only at h2
    subst h2
    exact am_sC_ok hx hb hd h1 (K H locs cells slots ls hA hL hLl)
  · refine am_sD_ok hx hb hd ?_ h1 (K H locs cells slots ls hA hL hLl)
    intro d' ps hI'
    subst hI'
    exact hrow
  · exact am_sE_ok M TB.1 TB.2.1.1 TB.2.1.2 TB.2.2.1 TB.2.2.2.1 hok h1 hA hL hLl hr (fun H1 locs1 cells1 slots1 hA1 => K H1 locs1 cells1 slots1 ls hA1 hL hLl)
end AMZ
