/-! The abstract machine is sound, 10: a call that throws, caught by the caller. -/
def am_prs : List (Nat × Nat) := [(10, 9), (9, 11), (12, 9)]
/-- what is known of the exceptions' classes at the start of all: the law's tables link to them; which of them is not one of which -/
def am_xcs (s0 : State) : Prop := (∀ c, 9 ≤ c → c < 13 → Jvm.Cond.classLink "SoundShelfLaw" (am_cpx c) (am_cn.getD c "") ∈ lw_tbl ∧ am_cpx c ≠ 0) ∧ ∀ t r ct cr : Nat, (t, r) ∈ am_prs → s0.vm.findClass (am_cn.getD t "") = some ct → s0.vm.findClass (am_cn.getD r "") = some cr → s0.vm.assignable ct cr = false
/-- the rows of an exception table: an earlier row's class is not the later's -/
def am_hdo : List (Nat × Nat × Nat × Nat) → Bool
  | [] => true
  | q :: l => Nat.ble 9 q.2.2.2 && Nat.blt q.2.2.2 13 && l.all (fun z => Nat.beq z.2.2.2 q.2.2.2 || am_prs.contains (z.2.2.2, q.2.2.2)) && am_hdo l
theorem am_ct_spec {pc c t : Nat} : ∀ l : List (Nat × Nat × Nat × Nat), am_ct pc c l = some t → am_hdo l = true → ∃ (pre : List (Nat × Nat × Nat × Nat)) (x : Nat × Nat × Nat × Nat) (post : List (Nat × Nat × Nat × Nat)), l = pre ++ x :: post ∧ x.1 ≤ pc ∧ pc < x.2.1 ∧ x.2.2.1 = t ∧ x.2.2.2 = c ∧ ∀ y ∈ pre, (¬ (y.1 ≤ pc ∧ pc < y.2.1)) ∨ (9 ≤ y.2.2.2 ∧ y.2.2.2 < 13 ∧ (c, y.2.2.2) ∈ am_prs) := by
  intro l
  induction l with
  | nil => intro h; cases h
  | cons q l ih =>
    intro h hd
    obtain ⟨a, b, tt, x⟩ := q
    simp only [am_ct] at h
    simp only [am_hdo, Bool.and_eq_true] at hd
    obtain ⟨⟨⟨d1, d2⟩, d3⟩, d4⟩ := hd
    cases hb : (Nat.ble a pc && Nat.blt pc b && Nat.beq x c) with
    | true =>
      simp only [hb, cond_true, Option.some.injEq] at h
      simp only [Bool.and_eq_true] at hb
      exact ⟨[], (a, b, tt, x), l, rfl, Nat.le_of_ble_eq_true hb.1.1, Nat.blt_eq.mp hb.1.2, h, Nat.eq_of_beq_eq_true hb.2, fun y hy => by cases hy⟩
    | false =>
      simp only [hb, cond_false] at h
      obtain ⟨pre, z, post, e, h1, h2, h3, h4, h5⟩ := ih h d4
      refine ⟨(a, b, tt, x) :: pre, z, post, by rw [e]; rfl, h1, h2, h3, h4, fun y hy => ?_⟩
      rcases List.mem_cons.mp hy with rfl | hy
      · by_cases hcov : a ≤ pc ∧ pc < b
        · refine Or.inr ⟨Nat.le_of_ble_eq_true d1, Nat.blt_eq.mp d2, ?_⟩
          have hz := List.all_eq_true.mp d3 z (by rw [e]; simp)
          simp only [Bool.or_eq_true] at hz
          rcases hz with hz | hz
          · exfalso
            have e1 := Nat.eq_of_beq_eq_true hz
            have : (Nat.ble a pc && Nat.blt pc b && Nat.beq x c) = true := by
              simp only [Bool.and_eq_true]
              exact ⟨⟨Nat.ble_eq.mpr hcov.1, Nat.blt_eq.mpr hcov.2⟩, Nat.beq_eq.mpr (e1.symm.trans h4)⟩
            rw [hb] at this
            cases this
          · rw [h4] at hz
            exact List.contains_iff_mem.mp hz
        · exact Or.inl hcov
      · exact h5 y hy
theorem am_call_v {q : am_E} {st : List Value} {h : am_H} {j : Nat} {as st' : List Value} (hc : am_call q st h = some (j, as, st')) (hx1 : q.2.2.2.1 = 1) : ∃ (i : Nat) (a0 : Nat) (as0 : List Value), q.2.1 = .invokevirtual i ∧ am_take q.2.2.2.2.2.2.1.toNat [] st = some (as0, .ref a0 :: st') ∧ am_obj h a0 = some (am_ow q.2.2.2.2.1) ∧ j = q.2.2.2.2.1 ∧ as = .ref a0 :: as0 := by
  unfold am_call at hc
  split at hc
  · rename_i e1 e2; exact absurd (hx1.symm.trans e1) (by decide)
  · rename_i e1 e2; exact absurd (hx1.symm.trans e1) (by decide)
  · rename_i e1 e2; exact absurd (hx1.symm.trans e1) (by decide)
  · rename_i e1 e2; exact absurd (hx1.symm.trans e1) (by decide)
  · rename_i i as0 a0 r0 e0 e1 e2
    split at hc
    · rename_i c' ho
      cases hq : Nat.beq c' (am_ow q.2.2.2.2.1) with
      | false => simp [hq] at hc
      | true =>
        simp only [hq, cond_true, Option.some.injEq, Prod.mk.injEq] at hc
        obtain ⟨rfl, rfl, rfl⟩ := hc
        rw [Nat.eq_of_beq_eq_true hq] at ho
        exact ⟨i, a0, as0, e0, e2, ho, rfl, rfl⟩
    · cases hc
  · rename_i e1 e2; exact absurd (hx1.symm.trans e1) (by decide)
  · cases hc
section AMY
variable {p : Program} {l : Launch} {e : Env} {R : Room} {s : State} {m : MethodId} {args : Array Value} {below : List Frame} {meth : Method} {c : Code} {H : Heap} {locs : List Loc} {cells slots : Nat} {Q : State → Prop}
variable {pc k d : Nat} {ls : Array Slot} {s0 : State} {A0 : Array Value} {D : va_G} {cI cJ : ClassId} {od : Nat → Nat} {sc : am_S} {h0 h : am_H} {w : Bool}
set_option maxHeartbeats 4000000 in
theorem am_caught_ok (XC : am_xcs s0) (M : am_mx p l R s m meth c s0 A0 D cI cJ od sc h0 k (d + 1)) (hmc : s.vm.method? m = some meth ∧ meth.code = some c) (hxt : c.exceptionTable.toList.map (fun h => (h.startPc, h.endPc, h.handlerPc, h.catchType)) = am_hdr k) (hon : am_on k = "SoundShelfLaw") (hho : am_hdo (am_hd k) = true)
    {q : am_E} {j cx t : Nat} {st as st' : List Value} (hok : am_okb k q = true) (hpc : q.1 = pc) (hrok : am_rok q) (hl : q.2.2.1 = 3) (hx1 : q.2.2.2.1 = 1) (hc : am_call q st h = some (j, as, st')) (hw8 : am_wt st' ≤ 8) (hls : ls.size = am_ml k) (hcx : 9 ≤ cx ∧ cx < 13) (hM : am_Met l s0 D cI cJ od d j as h (.inr h.length, h ++ [.inl (cx, [])], false)) (hct : am_ct pc cx (am_hd k) = some t)
    (hr : (h ++ [.inl (cx, [])] : am_H).length ≤ R.cells + h0.length ∧ am_sz (h ++ [.inl (cx, [])]) ≤ R.slots + am_sz h0) (hA : am_at s0 s D cI cJ od h0 h w H locs cells slots)
    (K : ∀ (H1 : Heap) (locs1 : List Loc) (cells1 slots1 : Nat), am_at s0 s D cI cJ od h0 (h ++ [.inl (cx, [])]) (w || false) H1 locs1 cells1 slots1 → W p l e R s m args below meth c H1 locs1 cells1 slots1 Q (F0 m t ls [.ref (s0.heap.size + h.length)])) :
    W p l e R s m args below meth c H locs cells slots Q (F0 m pc ls (st.map (am_g s0.heap.size od))) := by
  obtain ⟨hx, hb, hml, hown, -, -, hname, hC, hI, -, hd1, hdf, hdl, -⟩ := M
  obtain ⟨i, a0, as0, eI, htk, ho, ej, eas⟩ := am_call_v hc hx1
  obtain ⟨pc', I, len, x, y, z, vv, wi⟩ := q
  simp only at hpc hl hx1 eI htk ho ej
  subst hpc; subst hl; subst hx1; subst eI; subst ej; subst eas
  simp only [am_okb, Bool.and_eq_true] at hok
  obtain ⟨⟨hdec, -⟩, hw1, hnp⟩ := hok
  have hd := of_decide_eq_true hdec
  have hnp := of_decide_eq_true hnp
  obtain ⟨hj, hs, hcl1, hcl2⟩ : am_jok j ∧ am_vok j ∧ am_cl[am_ow j]? = some (am_cw (am_ow j)) ∧ (am_cw (am_ow j)).1 = am_on j := hrok
  obtain ⟨w1, w2⟩ := am_jw hC hI hj
  obtain ⟨t1, t2⟩ := am_take_map htk (am_g s0.heap.size od)
  obtain ⟨fs, ha⟩ := am_obj_at ho
  obtain ⟨cellB, hcB, hoB, hclB⟩ := am_recv hC hI hA ha hcl1
  rw [hcl2, ← hs.2.2.2] at hclB
  have hM' : MetFree l (am_nm j) (headSpec [am_cdw j] (am_rm d h (.inr h.length, h ++ [.inl (cx, [])], false))) (am_Pc s0 D cI cJ od (.ref a0 :: as0) h) (fun _ _ _ _ _ => True) (am_Tc s0 D cI cJ od h.length (h ++ [.inl (cx, [])])) := hM
  intro T hT X
  obtain ⟨mk, methM, hnamed, hmethM, hstM, habM⟩ := Jvm.Cond.instanceMethod_spec (am_wd (args := args) hC hI hs.1 rfl)
  obtain ⟨methM', cM, hmethM', hcM, -, hlM, -, -, -, hsigM⟩ := Jvm.Cond.code_spec hnamed (am_cw0 hs.2.2.1 (w1 args s (State.WarmedH.refl s)))
  cases hmethM.symm.trans hmethM'
  obtain ⟨c2, r2, m2, q1, q2, q3, q4, kP, hkP, hkPi⟩ := Jvm.Cond.selects_spec (am_wd (args := args) hC hI hs.2.1 rfl)
  cases hclB.symm.trans q1
  cases (State.methodFound?_of_named hnamed hj.2.2.2.1).symm.trans q2
  cases hnamed.symm.trans q3
  have hselP : selectMethod e.platform s.vm cellB.cls mk = .method mk := by rw [Launch.admits_selectMethod X.admits]; exact q4
  have hlen : (as0.map (am_g s0.heap.size od)).length = methM.sig.parameters.length := by
    rw [hsigM] at hnp
    rw [List.length_map, t2]
    exact (Option.some.inj hnp).symm
  obtain ⟨vm₁, X₁, hstep₁⟩ := X.invokevirtual hx hown (am_wd hC hI (am_wd?_mem hw1) rfl) hnamed hmethM hstM hkP hkPi hj.2.2.2.1 (a := s0.heap.size + a0) (cell := cellB) (by rw [hT]; exact hcB)
    (fun z h => by rw [h] at hoB; cases hoB) hselP hmethM habM hkP hkPi (g := F0 m pc' ls (st.map (am_g s0.heap.size od))) rfl (argsL := as0.map (am_g s0.heap.size od)) (rest := st'.map (am_g s0.heap.size od)) hlen t1 (by rw [hb]; exact hd)
  have hcalled : ∃ s₂ : State, Steps p.tables e below (doInvoke e ((T.setVm vm₁).setTop (F0 m pc' ls (st'.map (am_g s0.heap.size od)))) [] mk (Value.ref (s0.heap.size + a0) :: as0.map (am_g s0.heap.size od)).toArray).1 s₂ ∧ Ended s₂ (.java (F0 m pc' ls (st'.map (am_g s0.heap.size od))) :: below) (.threw (s0.heap.size + h.length)) ∧ am_I s0 D cI cJ od (h ++ [.inl (cx, [])]) s₂ ∧
      ((T.setVm vm₁).calling (F0 m pc' ls (st'.map (am_g s0.heap.size od))) mk (Value.ref (s0.heap.size + a0) :: as0.map (am_g s0.heap.size od)).toArray).WarmedH s₂.vm ∧ ((T.setVm vm₁).calling (F0 m pc' ls (st'.map (am_g s0.heap.size od))) mk (Value.ref (s0.heap.size + a0) :: as0.map (am_g s0.heap.size od)).toArray).sameButNew ({ s₂ with vm := ((T.setVm vm₁).calling (F0 m pc' ls (st'.map (am_g s0.heap.size od))) mk (Value.ref (s0.heap.size + a0) :: as0.map (am_g s0.heap.size od)).toArray).vm } : State) [] 1 6 := by
    have hn := X₁.named hnamed
    have hcdU : (am_cdw j).before (Value.ref (s0.heap.size + a0) :: as0.map (am_g s0.heap.size od)).toArray (T.setVm vm₁) = true := w1 _ _ X₁.warmed
    obtain ⟨mk', methY, cY, hnY, hmY, hcY, -, hlY, -⟩ := am_cd_spec hcdU
    cases hn.symm.trans hnY
    obtain ⟨kY, hkY, -⟩ := className_of_methodNamed hn
    have hinitY : kY.init = .initialized := Jvm.Cond.initialized_spec (findClass_of_methodNamed hn) hkY (w2 #[] _ X₁.warmed)
    have hcs := hA.2.2.2.2.1
    have hss := hA.2.2.2.2.2
    have hmo1 := (am_mo.nw h (.inl (cx, []))).1
    have hmo2 := (am_mo.nw h (.inl (cx, []))).2
    have hroom := X₁.room_calling (g := F0 m pc' ls (st'.map (am_g s0.heap.size od))) (args' := (Value.ref (s0.heap.size + a0) :: as0.map (am_g s0.heap.size od)).toArray) (R' := am_rm d h (.inr h.length, h ++ [.inl (cx, [])], false)) (hls.trans hml.symm) hmY hcY hdf (by
      show 2 * 0 + ((st'.map (am_g s0.heap.size od)).map fun v => v.category).sum + (cY.maxLocals + 11) + 38 * d ≤ R.locals
      rw [am_wt_eq, hlY]
      have := hj.2.2.2.2.1
      omega) (by
      show cells + ((h ++ [.inl (cx, [])] : am_H).length - h.length) ≤ R.cells
      omega) (by
      show slots + (am_sz (h ++ [.inl (cx, [])]) - am_sz h) ≤ R.slots
      omega)
    have happ : (headSpec [am_cdw j] (am_rm d h (.inr h.length, h ++ [.inl (cx, [])], false))).appliesLoose (am_nm j) e.platform ((T.setVm vm₁).calling (F0 m pc' ls (st'.map (am_g s0.heap.size od))) mk (Value.ref (s0.heap.size + a0) :: as0.map (am_g s0.heap.size od)).toArray) = true :=
      Spec.appliesLoose_calling (g := F0 m pc' ls (st'.map (am_g s0.heap.size od))) X₁.here (by rw [hb]; exact hd) hn hkY hinitY hroom (atoms_intro fun w hw => by
        rw [List.mem_singleton.mp hw]
        exact hcdU)
    obtain ⟨g₀, hfe⟩ := X₁.frames_eq
    have hfr : ((T.setVm vm₁).setTop (F0 m pc' ls (st'.map (am_g s0.heap.size od)))).frames = [.java (F0 m pc' ls (st'.map (am_g s0.heap.size od)))] ++ below := by
      rw [State.frames_setTop' _ X₁.here.top, hfe]
      rfl
    obtain ⟨o, s₂, hsteps, hrun, hend, hq⟩ := Steps.callFree hM' p X.admits X.cas X.clock (acts := []) hfr happ ⟨rfl, am_I_of hI hA hT X₁.warmed⟩ trivial
    obtain ⟨rfl, h2, h3, h4⟩ := hq
    rw [hfr] at hend
    exact ⟨s₂, hsteps, hend, h2, h3, h4⟩
  obtain ⟨s₂, hsteps, hend, hI2, hW2, hsame2⟩ := hcalled
  obtain ⟨T', X', hWT, hsT, hs₂⟩ := X₁.outOfThrown (g := F0 m pc' ls (st'.map (am_g s0.heap.size od))) rfl hend hW2 hsame2
  have hheap : s₂.heap = T'.heap := by rw [hs₂]; exact Stand.throwing_heap _ _ _
  have hm1 : am_mo h (h ++ [.inl (cx, [])]) := am_mo.nw _ _
  have hA' := am_at_of (L := []) (w' := false) hI hA hm1 hI2 (fun q hq => by cases hq)
  rw [hheap] at hA'
  have e1 : cells + ((h ++ [.inl (cx, [])] : am_H).length - h.length) = cells + 1 := by simp
  have e2 : slots + (am_sz (h ++ [.inl (cx, [])]) - am_sz h) = slots + 6 := by
    rw [am_sz_app]
    have e9 : am_cz (.inl (cx, [])) = 6 := by
      rcases (show cx = 9 ∨ cx = 10 ∨ cx = 11 ∨ cx = 12 by omega) with rfl | rfl | rfl | rfl <;> rfl
    rw [e9]
    omega
  rw [e1, e2] at hA'
  -- the exception's cell
  have hcl : am_cl[cx]? = some (am_cn.getD cx "", am_TX, 0) := by
    rcases (show cx = 9 ∨ cx = 10 ∨ cx = 11 ∨ cx = 12 by omega) with rfl | rfl | rfl | rfl <;> rfl
  have hat : (h ++ [.inl (cx, [])] : am_H)[h.length]? = some (.inl (cx, [])) := by simp
  obtain ⟨cellX, hcX, hoX, hclX⟩ := am_recv (h := h ++ [.inl (cx, [])]) (a := h.length) hC hI hA' hat hcl
  have hownL : s.vm.findClass "SoundShelfLaw" = some m.cls := hon ▸ hown
  have hpl : e.platform.magicAccessors = ({} : Platform).magicAccessors := by rw [X.admits.platform]
  obtain ⟨pre, xr, post, hsp, hp1, hp2, hp3, hp4, hp5⟩ := am_ct_spec _ hct hho
  have hlk : ∀ c, 9 ≤ c → c < 13 → ∃ cc, s.vm.findClass (am_cn.getD c "") = some cc ∧ s.vm.ClassLinks e.platform m.cls (am_cpx c) cc := fun c h1 h2 => Jvm.Cond.classLink_spec hownL (am_wd (args := args) hC hI (XC.1 c h1 h2).1 rfl) e.platform hpl
  have hrows : ∃ (pre : List ExceptionTableEntry) (x : ExceptionTableEntry) (post : List ExceptionTableEntry), c.exceptionTable.toList = pre ++ x :: post ∧ x.handlerPc = t ∧
        (∀ y ∈ pre, covers y pc' = false ∨ (y.catchType ≠ 0 ∧ ∃ c, s.vm.ClassLinks e.platform m.cls y.catchType c ∧ s.vm.assignable cellX.cls c = false)) ∧
        covers x pc' = true ∧ x.catchType ≠ 0 ∧ ∃ c, s.vm.ClassLinks e.platform m.cls x.catchType c ∧ s.vm.assignable cellX.cls c = true := by
    rw [am_hdr, hsp, List.map_append, List.map_cons] at hxt
    obtain ⟨l1, l2, hl12, hl1, hl2⟩ := List.map_eq_append_iff.mp hxt
    obtain ⟨x, l3, rfl, hx3, hl3⟩ := List.map_eq_cons_iff.mp hl2
    simp only [Prod.mk.injEq] at hx3
    obtain ⟨x1, x2, x3, x4⟩ := hx3
    have hcr : 9 ≤ xr.2.2.2 ∧ xr.2.2.2 < 13 := by rw [hp4]; exact hcx
    obtain ⟨cc, hcc1, hcc2⟩ := hlk _ hcr.1 hcr.2
    refine ⟨l1, x, l3, hl12, x3.trans hp3, fun y hy => ?_, ?_, ?_, cc, ?_, ?_⟩
    · have hy' : (y.startPc, y.endPc, y.handlerPc, y.catchType) ∈ pre.map (fun q => (q.1, q.2.1, q.2.2.1, am_cpx q.2.2.2)) := by
        rw [← hl1]
        exact List.mem_map_of_mem hy
      obtain ⟨z, hz, hze⟩ := List.mem_map.mp hy'
      simp only [Prod.mk.injEq] at hze
      obtain ⟨z1, z2, z3, z4⟩ := hze
      rcases hp5 z hz with hz5 | ⟨hz5, hz6, hz7⟩
      · left
        simp only [covers, ← z1, ← z2]
        by_cases hq1 : z.1 ≤ pc'
        · have hq2 : ¬ pc' < z.2.1 := fun hq2 => hz5 ⟨hq1, hq2⟩
          simp [hq2]
        · simp [hq1]
      · right
        obtain ⟨cy, hcy1, hcy2⟩ := hlk _ hz5 hz6
        refine ⟨?_, cy, ?_, ?_⟩
        · rw [← z4]; exact (XC.1 _ hz5 hz6).2
        · rw [← z4]; exact hcy2
        · rw [hI.1.alike.assignable]
          exact XC.2 cx z.2.2.2 cellX.cls cy hz7 (by rw [← hI.1.alike.findClass]; exact hclX) (by rw [← hI.1.alike.findClass]; exact hcy1)
    · simp only [covers, x1, x2]
      simp [hp1, hp2]
    · rw [x4]; exact (XC.1 _ hcr.1 hcr.2).2
    · rw [x4]; exact hcc2
    · have e5 : cc = cellX.cls := by
        rw [hp4] at hcc1
        exact Option.some.inj (hcc1.symm.trans hclX)
      rw [e5]
      exact va_asg _ _
  have hobjX : ∀ k, cellX.vm ≠ .statics k := fun k hk => by rw [hk] at hoX; cases hoX
  obtain ⟨kX, hkX, -⟩ := Vm.findClass_spec hclX
  obtain ⟨vm', hW', hgo⟩ := am_rows (e := e) (s0 := s) (f := F0 m pc' ls (st'.map (am_g s0.heap.size od))) (a := s0.heap.size + h.length) (cell := cellX) hobjX ⟨kX, hkX⟩ (hp := t) c.exceptionTable.toList ((T'.setTop (F0 m pc' ls (st'.map (am_g s0.heap.size od)))).pushFrame (.throwing (s0.heap.size + h.length))) (by rw [Stand.throwing_vm]; exact X'.warmed) (by rw [Stand.throwing_heap]; exact hcX) hrows
  have hmT : ((T'.setTop (F0 m pc' ls (st'.map (am_g s0.heap.size od)))).pushFrame (.throwing (s0.heap.size + h.length))).vm.method? m = some meth := by rw [Stand.throwing_vm]; exact X'.method'
  have hfnd : am_fnd e ((T'.setTop (F0 m pc' ls (st'.map (am_g s0.heap.size od)))).pushFrame (.throwing (s0.heap.size + h.length))) (F0 m pc' ls (st'.map (am_g s0.heap.size od))) (s0.heap.size + h.length) t vm' := fun Q E d acts => by
    rw [W.findHandler_eq (f := F0 m pc' ls (st'.map (am_g s0.heap.size od))) hmT hmc.2]
    exact hgo Q E d acts
  obtain ⟨tt, k1, k2⟩ := K T'.heap (locs ++ []) (cells + 1) (slots + 6) hA' (T'.setVm vm') rfl (X'.noted hW')
  refine ⟨tt, hstep₁ _ fun acts => ?_, k2⟩
  rw [doInvoke_state]
  refine hsteps.trans ?_
  rw [hs₂]
  exact am_hits X'.here hfnd k1
end AMY
