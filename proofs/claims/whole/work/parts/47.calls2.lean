/-! The abstract machine is sound, 6: the calls, kind by kind. -/
theorem am_take_spec : ∀ (n : Nat) (acc st as r : List Value), am_take n acc st = some (as, r) → ∃ l : List Value, st = l ++ r ∧ as = l.reverse ++ acc ∧ l.length = n := by
  intro n
  induction n with
  | zero =>
    intro acc st as r h
    simp only [am_take, Option.some.injEq, Prod.mk.injEq] at h
    exact ⟨[], h.2, h.1.symm, rfl⟩
  | succ n ih =>
    intro acc st as r h
    cases st with
    | nil => cases h
    | cons v st =>
      obtain ⟨l, h1, h2, h3⟩ := ih (v :: acc) st as r h
      exact ⟨v :: l, by rw [h1]; rfl, by rw [h2]; simp, by rw [← h3]; rfl⟩
theorem am_take_map {n : Nat} {st as r : List Value} (h : am_take n [] st = some (as, r)) (f : Value → Value) : st.map f = (as.map f).reverse ++ r.map f ∧ as.length = n := by
  obtain ⟨l, h1, h2, h3⟩ := am_take_spec n [] st as r h
  subst h1; subst h2
  simp [h3]
/-- what the tables say of a method that is called -/
def am_jok (j : Nat) : Prop := am_cdw j ∈ lw_tbl ∧ goodWord (am_cdw j) = true ∧ Jvm.Cond.initialized (am_nm j).cls ∈ lw_tbl ∧ ((am_nm j).cls ≠ "java/lang/invoke/MethodHandle" ∧ (am_nm j).cls ≠ "java/lang/invoke/VarHandle") ∧ am_ml j ≤ 19 ∧ j < 173
def am_sok (j : Nat) : Prop := Jvm.Cond.static (am_nm j) ∈ lw_tbl
def am_vok (j : Nat) : Prop := Jvm.Cond.instanceMethod (am_nm j) ∈ lw_tbl ∧ Jvm.Cond.selects (am_nm j).cls (am_nm j) (am_nm j) ∈ lw_tbl ∧ am_hd j = [] ∧ (am_nm j).cls = am_on j
def am_iok (j : Nat) : Prop := Jvm.Cond.instanceMethod (am_nm j) ∈ lw_tbl ∧ (am_nm j).name = "<init>" ∧ am_hd j = [] ∧ am_rt j = none
def am_cdx (j : Nat) : MethodName := ⟨"SoundShelf$Coder", (am_nm j).name, (am_nm j).desc⟩
def am_dok (C : String) (j : Nat) : Prop := Jvm.Cond.sameMethod "SoundShelf$Coder" "SoundShelf$Coder" (am_nm j).name (am_nm j).desc ∈ lw_tbl ∧ (Jvm.Cond.declares (am_cdx j) ∈ lw_tbl ∨ am_cdx j = am_nm j) ∧ Jvm.Cond.selects C (am_cdx j) (am_nm j) ∈ lw_tbl ∧ Jvm.Cond.instanceMethod (am_nm j) ∈ lw_tbl ∧ am_hd j = []
section AMK
variable {p : Program} {l : Launch} {e : Env} {R : Room} {s : State} {m : MethodId} {args : Array Value} {below : List Frame} {meth : Method} {c : Code} {H : Heap} {locs : List Loc} {cells slots : Nat} {Q : State → Prop}
variable {pc k d : Nat} {ls : Array Slot} {s0 : State} {A0 : Array Value} {D : va_G} {cI cJ : ClassId} {od : Nat → Nat} {sc : am_S} {h0 h h' g : am_H} {w w' u : Bool} {v : Option Value} {as st' : List Value}
/-- the walk behind a call -/
theorem am_fini (hI : am_I s0 D cI cJ od h0 s) (hA : am_at s0 s D cI cJ od h0 h w H locs cells slots) (hm : am_mo h h') {gst : List Value} {aa : Array Value}
    (hcall : ∀ T : State, T.heap = H → Stand p l e R s m args below meth c T locs cells slots → ∃ (v' : Option Value) (vm₁ : Vm) (B : Pt), s.WarmedH vm₁ ∧ Stand p l e R s m args below meth c B.U B.locs B.cells B.slots ∧
      PostOf (am_Qc s0 D cI cJ od v h') (h'.length - h.length) (am_sz h' - am_sz h) (am_fr s0 w') ⟨T.setVm vm₁, locs, cells, slots⟩ aa v' B ∧ ∀ target, Steps p.tables e below (B.U.setTop { F0 m pc ls gst with pc := (F0 m pc ls gst).pc + 3, stack := v'.toList ++ st'.map (am_g s0.heap.size od) }) target → Steps p.tables e below (T.setTop (F0 m pc ls gst)) target)
    (K : ∀ (H1 : Heap) (locs1 : List Loc) (cells1 slots1 : Nat), am_at s0 s D cI cJ od h0 h' (w || w') H1 locs1 cells1 slots1 → W p l e R s m args below meth c H1 locs1 cells1 slots1 Q (F0 m (pc + 3) ls ((v.toList ++ st').map (am_g s0.heap.size od)))) :
    W p l e R s m args below meth c H locs cells slots Q (F0 m pc ls gst) := by
  intro T hT X
  obtain ⟨v', vm₁, ⟨U', l2, c2, s2⟩, hW₁, X', ⟨g', mk, t, L, e1, e2, ⟨hq1, hq2⟩, h1, hL, h2, h3⟩, st⟩ := hcall T hT X
  dsimp only [Pt.U, Pt.locs, Pt.cells, Pt.slots] at X' e1 e2 h1 h2 h3 st
  subst h1; subst h2; subst h3
  simp only [Outcome.returned.injEq] at hq1
  subst hq1
  have hA' := am_at_of hI hA hm hq2 hL
  rw [← e1] at hA'
  obtain ⟨t2, a1, b1⟩ := K _ _ _ _ hA' U' rfl X'
  refine ⟨t2, st t2 ?_, b1⟩
  have e9 : (v.map (am_g s0.heap.size od)).toList ++ st'.map (am_g s0.heap.size od) = (v.toList ++ st').map (am_g s0.heap.size od) := by cases v <;> simp
  rw [e9]
  exact a1
theorem am_jw (hC : am_ctx l s0 A0 D cI cJ od sc) (hI : am_I s0 D cI cJ od h0 s) {j : Nat} (hj : am_jok j) : (∀ a' U, s.WarmedH U.vm → (am_cdw j).before a' U = true) ∧ (∀ a' U, s.WarmedH U.vm → (Jvm.Cond.initialized (am_nm j).cls).before a' U = true) := by
  refine ⟨fun a' U hW => word_at hW (good_of_word hj.2.1) (am_wd (args := #[]) hC hI hj.1 hj.2.1), fun a' U hW => word_at hW (good_of_word rfl) (am_wd (args := #[]) hC hI hj.2.2.1 rfl)⟩
/-- the code word, where there is no exception table -/
theorem am_cw0 {j : Nat} (hh : am_hd j = []) {a : Array Value} {U : State} (h : (am_cdw j).before a U = true) : (Jvm.Cond.code (am_nm j) (am_by j) (am_ml j) (am_rt j)).before a U = true := by
  unfold am_cdw at h
  rw [hh] at h
  exact h
theorem am_pre (hI : am_I s0 D cI cJ od h0 s) (hA : am_at s0 s D cI cJ od h0 h w H locs cells slots) (hr : h'.length ≤ R.cells + h0.length ∧ am_sz h' ≤ R.slots + am_sz h0) (hm : am_mo h h') {T : State} (hT : T.heap = H) {aa : Array Value} (ha : aa = (as.map (am_g s0.heap.size od)).toArray) (vm₁ : Vm) (hW : s.WarmedH vm₁) : PreOf R (h'.length - h.length) (am_sz h' - am_sz h) (am_Pc s0 D cI cJ od as h) ⟨T.setVm vm₁, locs, cells, slots⟩ aa := by
  refine ⟨?_, ?_, ha, am_I_of hI hA hT hW⟩
  · show cells + (h'.length - h.length) ≤ R.cells
    have := hA.2.2.2.2.1
    have := hm.1
    omega
  · show slots + (am_sz h' - am_sz h) ≤ R.slots
    have := hA.2.2.2.2.2
    have := hm.2
    omega
/-- where the receiver lies -/
theorem am_recv (hC : am_ctx l s0 A0 D cI cJ od sc) (hI : am_I s0 D cI cJ od h0 s) (hA : am_at s0 s D cI cJ od h0 h w H locs cells slots) {a x : Nat} {fs : List Value} (ha : h[a]? = some (.inl (x, fs))) {r : vw_C} (hr : am_cl[x]? = some r) : ∃ cell : Cell, H[s0.heap.size + a]? = some cell ∧ cell.vm.isStatics = false ∧ s.vm.findClass r.1 = some cell.cls := by
  have hK := am_wK hC hI
  exact va_recv hK hA.2.1 hr (am_w_at ha)
theorem am_callS_ok (M : am_mx p l R s m meth c s0 A0 D cI cJ od sc h0 k (d + 1)) {j i n : Nat} {st : List Value} (hj : am_jok j) (hs : am_sok j) (hlink : (Jvm.Cond.methodLink (am_on k) i (am_nm j)).before args s = true) (hnp : (parseMethodDescriptor (am_nm j).desc).map (fun q => q.parameters.length) = some n) (hd : decode (am_by k) pc = .ok (.invokestatic i, 3)) (htk : am_take n [] st = some (as, st')) (hw8 : am_wt st' ≤ 8)
    (hls : ls.size = am_ml k) (hM : am_Met l s0 D cI cJ od d j as h (.inl v, h', w')) (hm : am_mo h h') (hr : h'.length ≤ R.cells + h0.length ∧ am_sz h' ≤ R.slots + am_sz h0) (hA : am_at s0 s D cI cJ od h0 h w H locs cells slots)
    (K : ∀ (H1 : Heap) (locs1 : List Loc) (cells1 slots1 : Nat), am_at s0 s D cI cJ od h0 h' (w || w') H1 locs1 cells1 slots1 → W p l e R s m args below meth c H1 locs1 cells1 slots1 Q (F0 m (pc + 3) ls ((v.toList ++ st').map (am_g s0.heap.size od)))) :
    W p l e R s m args below meth c H locs cells slots Q (F0 m pc ls (st.map (am_g s0.heap.size od))) := by
  obtain ⟨hx, hb, hml, hown, -, -, hname, hC, hI, -, hd1, hdf, hdl, -⟩ := M
  obtain ⟨w1, w2⟩ := am_jw hC hI hj
  have hK : Back l R p e below s args (am_nm j) 3 8 _ _ := am_back (p := p) (e := e) (below := below) (s := s) (args := args) hM hdf (by have := hj.2.2.2.2.1; omega) w1 w2
  obtain ⟨t1, t2⟩ := am_take_map htk (am_g s0.heap.size od)
  refine am_fini hI hA hm (aa := (as.map (am_g s0.heap.size od)).toArray) (fun T hT X => ?_) K
  have hcw := w1 args s (State.WarmedH.refl s)
  obtain ⟨mk, methM, cM, hnamed, hmethM, -, -, -, -, -, hsigM⟩ := am_cd_spec hcw
  have hstatic : methM.isStatic = true := Jvm.Cond.static_spec hnamed hmethM (am_wd (args := args) hC hI hs rfl)
  obtain ⟨kP, hkP, -⟩ := className_of_methodNamed hnamed
  have hinitP : kP.init = .initialized := Jvm.Cond.initialized_spec (findClass_of_methodNamed hnamed) hkP (w2 args s (State.WarmedH.refl s))
  have hlen : (as.map (am_g s0.heap.size od)).length = methM.sig.parameters.length := by
    rw [hsigM] at hnp
    rw [List.length_map, t2]
    exact (Option.some.inj hnp).symm
  obtain ⟨vm₁, X₁, hstep₁⟩ := X.invokestatic hx hown hlink hnamed hmethM hstatic hkP hinitP hj.2.2.2.1 (g := F0 m pc ls (st.map (am_g s0.heap.size od))) rfl (argsL := as.map (am_g s0.heap.size od)) (rest := st'.map (am_g s0.heap.size od)) hlen t1 (by rw [hb]; exact hd)
  obtain ⟨v', B, X', hpost, hsteps⟩ := hK m meth c ⟨T.setVm vm₁, locs, cells, slots⟩ { F0 m pc ls (st.map (am_g s0.heap.size od)) with stack := st'.map (am_g s0.heap.size od) } (.invokestatic i) mk (as.map (am_g s0.heap.size od)).toArray X₁ rfl (hls.trans hml.symm) (by rw [hb]; exact hd) (by
    show 2 * 0 + ((st'.map (am_g s0.heap.size od)).map fun v => v.category).sum ≤ 8
    rw [am_wt_eq]; omega) (X₁.named hnamed) (am_pre hI hA hr hm hT rfl vm₁ X₁.warmed)
  exact ⟨v', vm₁, B, X₁.warmed, X', hpost, fun target h => hstep₁ _ fun acts => by rw [doInvoke_state]; exact hsteps.trans h⟩
theorem am_callSN_ok (M : am_mx p l R s m meth c s0 A0 D cI cJ od sc h0 k (d + 1)) {j i n : Nat} {st : List Value} (hj : am_jok j) (hs : am_sok j) (hh : am_hd j = []) (hlink : (Jvm.Cond.methodLinkNest (am_on k) i (am_nm j) "SoundShelf").before args s = true) (hnp : (parseMethodDescriptor (am_nm j).desc).map (fun q => q.parameters.length) = some n) (hd : decode (am_by k) pc = .ok (.invokestatic i, 3)) (htk : am_take n [] st = some (as, st')) (hw8 : am_wt st' ≤ 8)
    (hls : ls.size = am_ml k) (hM : am_Met l s0 D cI cJ od d j as h (.inl v, h', w')) (hm : am_mo h h') (hr : h'.length ≤ R.cells + h0.length ∧ am_sz h' ≤ R.slots + am_sz h0) (hA : am_at s0 s D cI cJ od h0 h w H locs cells slots)
    (K : ∀ (H1 : Heap) (locs1 : List Loc) (cells1 slots1 : Nat), am_at s0 s D cI cJ od h0 h' (w || w') H1 locs1 cells1 slots1 → W p l e R s m args below meth c H1 locs1 cells1 slots1 Q (F0 m (pc + 3) ls ((v.toList ++ st').map (am_g s0.heap.size od)))) :
    W p l e R s m args below meth c H locs cells slots Q (F0 m pc ls (st.map (am_g s0.heap.size od))) := by
  obtain ⟨hx, hb, hml, hown, -, -, hname, hC, hI, -, hd1, hdf, hdl, -⟩ := M
  obtain ⟨w1, w2⟩ := am_jw hC hI hj
  have hK : Back l R p e below s args (am_nm j) 3 8 _ _ := am_back (p := p) (e := e) (below := below) (s := s) (args := args) hM hdf (by have := hj.2.2.2.2.1; omega) w1 w2
  obtain ⟨t1, t2⟩ := am_take_map htk (am_g s0.heap.size od)
  refine am_fini hI hA hm (aa := (as.map (am_g s0.heap.size od)).toArray) (fun T hT X => ?_) K
  exact va_callSN X hx hown hlink (am_wd (args := args) hC hI hs rfl) (w2 args s (State.WarmedH.refl s)) (am_cw0 hh (w1 args s (State.WarmedH.refl s))) hj.2.2.2.1 hK (g := F0 m pc ls (st.map (am_g s0.heap.size od))) rfl (hls.trans hml.symm) (argsL := as.map (am_g s0.heap.size od)) (rest := st'.map (am_g s0.heap.size od)) (fun sig hsig => by
    rw [hsig] at hnp
    rw [List.length_map, t2]
    exact (Option.some.inj hnp).symm) t1 (by
    show 2 * 0 + ((st'.map (am_g s0.heap.size od)).map fun v => v.category).sum ≤ 8
    rw [am_wt_eq]; omega) (by rw [hb]; exact hd) (fun vm₁ hW => am_pre hI hA hr hm hT rfl vm₁ hW)
theorem am_callI_ok (M : am_mx p l R s m meth c s0 A0 D cI cJ od sc h0 k (d + 1)) {j i n a : Nat} {st : List Value} (hj : am_jok j) (hs : am_iok j) (hlink : (Jvm.Cond.methodLink (am_on k) i (am_nm j)).before args s = true ∨ (Jvm.Cond.methodLinkNest (am_on k) i (am_nm j) "SoundShelf").before args s = true) (hnp : (parseMethodDescriptor (am_nm j).desc).map (fun q => q.parameters.length) = some n) (hd : decode (am_by k) pc = .ok (.invokespecial i, 3)) (htk : am_take n [] st = some (as, .ref a :: st')) (hw8 : am_wt st' ≤ 8)
    (hls : ls.size = am_ml k) (hM : am_Met l s0 D cI cJ od d j (.ref a :: as) h (.inl v, h', w')) (hm : am_mo h h') (hr : h'.length ≤ R.cells + h0.length ∧ am_sz h' ≤ R.slots + am_sz h0) (hA : am_at s0 s D cI cJ od h0 h w H locs cells slots)
    (K : ∀ (H1 : Heap) (locs1 : List Loc) (cells1 slots1 : Nat), am_at s0 s D cI cJ od h0 h' (w || w') H1 locs1 cells1 slots1 → W p l e R s m args below meth c H1 locs1 cells1 slots1 Q (F0 m (pc + 3) ls ((v.toList ++ st').map (am_g s0.heap.size od)))) :
    W p l e R s m args below meth c H locs cells slots Q (F0 m pc ls (st.map (am_g s0.heap.size od))) := by
  obtain ⟨hx, hb, hml, hown, -, -, hname, hC, hI, -, hd1, hdf, hdl, -⟩ := M
  obtain ⟨w1, w2⟩ := am_jw hC hI hj
  have hK : Back l R p e below s args (am_nm j) 3 8 _ _ := am_back (p := p) (e := e) (below := below) (s := s) (args := args) hM hdf (by have := hj.2.2.2.2.1; omega) w1 w2
  obtain ⟨t1, t2⟩ := am_take_map htk (am_g s0.heap.size od)
  have hcode := am_cw0 hs.2.2.1 (w1 args s (State.WarmedH.refl s))
  rw [hs.2.2.2] at hcode
  have hlen : ∀ sig, parseMethodDescriptor (am_nm j).desc = some sig → (as.map (am_g s0.heap.size od)).length = sig.parameters.length := fun sig hsig => by
    rw [hsig] at hnp
    rw [List.length_map, t2]
    exact (Option.some.inj hnp).symm
  have hwt : 2 * (F0 m pc ls (st.map (am_g s0.heap.size od))).monitorRoom + ((st'.map (am_g s0.heap.size od)).map fun v => v.category).sum ≤ 8 := by
    show 2 * 0 + ((st'.map (am_g s0.heap.size od)).map fun v => v.category).sum ≤ 8
    rw [am_wt_eq]; omega
  refine am_fini hI hA hm (aa := (Value.ref (s0.heap.size + a) :: as.map (am_g s0.heap.size od)).toArray) (fun T hT X => ?_) K
  rcases hlink with hlink | hlink
  · exact callI X hx hown hs.2.1 hlink (am_wd (args := args) hC hI hs.1 rfl) hcode hj.2.2.2.1 hK (g := F0 m pc ls (st.map (am_g s0.heap.size od))) rfl (hls.trans hml.symm) (a := s0.heap.size + a) (argsL := as.map (am_g s0.heap.size od)) (rest := st'.map (am_g s0.heap.size od)) hlen t1 hwt (by rw [hb]; exact hd) (fun vm₁ hW => am_pre hI hA hr hm hT rfl vm₁ hW)
  · exact va_callIN X hx hown hs.2.1 hlink (am_wd (args := args) hC hI hs.1 rfl) hcode hj.2.2.2.1 hK (g := F0 m pc ls (st.map (am_g s0.heap.size od))) rfl (hls.trans hml.symm) (a := s0.heap.size + a) (argsL := as.map (am_g s0.heap.size od)) (rest := st'.map (am_g s0.heap.size od)) hlen t1 hwt (by rw [hb]; exact hd) (fun vm₁ hW => am_pre hI hA hr hm hT rfl vm₁ hW)
theorem am_callV_ok (M : am_mx p l R s m meth c s0 A0 D cI cJ od sc h0 k (d + 1)) {j i n a x : Nat} {fs st : List Value} (hj : am_jok j) (hs : am_vok j) (hlink : (Jvm.Cond.methodLink (am_on k) i (am_nm j)).before args s = true) (hnp : (parseMethodDescriptor (am_nm j).desc).map (fun q => q.parameters.length) = some n) (hd : decode (am_by k) pc = .ok (.invokevirtual i, 3)) (htk : am_take n [] st = some (as, .ref a :: st')) (hw8 : am_wt st' ≤ 8) (ha : h[a]? = some (.inl (am_ow j, fs))) (hcl : am_cl[am_ow j]? = some (am_cw (am_ow j)) ∧ (am_cw (am_ow j)).1 = am_on j)
    (hls : ls.size = am_ml k) (hM : am_Met l s0 D cI cJ od d j (.ref a :: as) h (.inl v, h', w')) (hm : am_mo h h') (hr : h'.length ≤ R.cells + h0.length ∧ am_sz h' ≤ R.slots + am_sz h0) (hA : am_at s0 s D cI cJ od h0 h w H locs cells slots)
    (K : ∀ (H1 : Heap) (locs1 : List Loc) (cells1 slots1 : Nat), am_at s0 s D cI cJ od h0 h' (w || w') H1 locs1 cells1 slots1 → W p l e R s m args below meth c H1 locs1 cells1 slots1 Q (F0 m (pc + 3) ls ((v.toList ++ st').map (am_g s0.heap.size od)))) :
    W p l e R s m args below meth c H locs cells slots Q (F0 m pc ls (st.map (am_g s0.heap.size od))) := by
  obtain ⟨hx, hb, hml, hown, -, -, hname, hC, hI, -, hd1, hdf, hdl, -⟩ := M
  obtain ⟨w1, w2⟩ := am_jw hC hI hj
  have hK : Back l R p e below s args (am_nm j) 3 8 _ _ := am_back (p := p) (e := e) (below := below) (s := s) (args := args) hM hdf (by have := hj.2.2.2.2.1; omega) w1 w2
  obtain ⟨t1, t2⟩ := am_take_map htk (am_g s0.heap.size od)
  obtain ⟨cellB, hcB, hoB, hclB⟩ := am_recv hC hI hA ha hcl.1
  rw [hcl.2, ← hs.2.2.2] at hclB
  refine am_fini hI hA hm (aa := (Value.ref (s0.heap.size + a) :: as.map (am_g s0.heap.size od)).toArray) (fun T hT X => ?_) K
  exact callV X hx hown hlink (am_wd (args := args) hC hI hs.1 rfl) (am_wd (args := args) hC hI hs.2.1 rfl) (am_cw0 hs.2.2.1 (w1 args s (State.WarmedH.refl s))) hj.2.2.2.1 hK (b := s0.heap.size + a) (by rw [hT]; exact hcB) hoB hclB (g := F0 m pc ls (st.map (am_g s0.heap.size od))) rfl (hls.trans hml.symm) (argsL := as.map (am_g s0.heap.size od)) (rest := st'.map (am_g s0.heap.size od)) (fun sig hsig => by
    rw [hsig] at hnp
    rw [List.length_map, t2]
    exact (Option.some.inj hnp).symm) t1 (by
    show 2 * 0 + ((st'.map (am_g s0.heap.size od)).map fun v => v.category).sum ≤ 8
    rw [am_wt_eq]; omega) (by rw [hb]; exact hd) (fun vm₁ hW => am_pre hI hA hr hm hT rfl vm₁ hW)
theorem am_callD_ok (M : am_mx p l R s m meth c s0 A0 D cI cJ od sc h0 k (d + 1)) {j i n a x : Nat} {fs st : List Value} {C : String} (hj : am_jok j) (hs : am_dok C j) (hlink : (Jvm.Cond.methodLink (am_on k) i (am_cdx j)).before args s = true) (hnp : (parseMethodDescriptor (am_nm j).desc).map (fun q => q.parameters.length) = some n) (hd : decode (am_by k) pc = .ok (.invokevirtual i, 3)) (htk : am_take n [] st = some (as, .ref a :: st')) (hw8 : am_wt st' ≤ 8) (ha : h[a]? = some (.inl (x, fs))) (hcl : ∃ r : vw_C, am_cl[x]? = some r ∧ r.1 = C)
    (hls : ls.size = am_ml k) (hM : am_Met l s0 D cI cJ od d j (.ref a :: as) h (.inl v, h', w')) (hm : am_mo h h') (hr : h'.length ≤ R.cells + h0.length ∧ am_sz h' ≤ R.slots + am_sz h0) (hA : am_at s0 s D cI cJ od h0 h w H locs cells slots)
    (K : ∀ (H1 : Heap) (locs1 : List Loc) (cells1 slots1 : Nat), am_at s0 s D cI cJ od h0 h' (w || w') H1 locs1 cells1 slots1 → W p l e R s m args below meth c H1 locs1 cells1 slots1 Q (F0 m (pc + 3) ls ((v.toList ++ st').map (am_g s0.heap.size od)))) :
    W p l e R s m args below meth c H locs cells slots Q (F0 m pc ls (st.map (am_g s0.heap.size od))) := by
  obtain ⟨hx, hb, hml, hown, -, -, hname, hC, hI, -, hd1, hdf, hdl, -⟩ := M
  obtain ⟨w1, w2⟩ := am_jw hC hI hj
  have hK : Back l R p e below s args (am_nm j) 3 8 _ _ := am_back (p := p) (e := e) (below := below) (s := s) (args := args) hM hdf (by have := hj.2.2.2.2.1; omega) w1 w2
  obtain ⟨t1, t2⟩ := am_take_map htk (am_g s0.heap.size od)
  obtain ⟨r, hr1, hr2⟩ := hcl
  obtain ⟨cellB, hcB, hoB, hclB⟩ := am_recv hC hI hA ha hr1
  rw [hr2] at hclB
  have hdecl : va_Decl s (am_cdx j) := by
    rcases hs.2.1 with hdc | hdc
    · exact va_Decl.abs (va_Nw.warmD hI.1 (va_Nw.of rfl (hC.1 _ hdc)))
    · rw [hdc]
      exact va_Decl.of (args := args) (am_wd hC hI hs.2.2.2.1 rfl) (am_cw0 hs.2.2.2.2 (w1 args s (State.WarmedH.refl s)))
  refine am_fini hI hA hm (aa := (Value.ref (s0.heap.size + a) :: as.map (am_g s0.heap.size od)).toArray) (fun T hT X => ?_) K
  exact va_callVU X hx (owner := "SoundShelf$Coder") (x := am_cdx j) hown hlink (am_wd (args := args) hC hI hs.1 rfl) hdecl ⟨by decide, by decide⟩ (am_wd (args := args) hC hI hs.2.2.1 rfl) (am_wd (args := args) hC hI hs.2.2.2.1 rfl) (am_cw0 hs.2.2.2.2 (w1 args s (State.WarmedH.refl s))) hK (b := s0.heap.size + a) (by rw [hT]; exact hcB) hoB hclB (g := F0 m pc ls (st.map (am_g s0.heap.size od))) rfl (hls.trans hml.symm) (argsL := as.map (am_g s0.heap.size od)) (rest := st'.map (am_g s0.heap.size od)) (fun sig hsig => by
    rw [show (am_cdx j).desc = (am_nm j).desc from rfl] at hsig
    rw [hsig] at hnp
    rw [List.length_map, t2]
    exact (Option.some.inj hnp).symm) t1 (by
    show 2 * 0 + ((st'.map (am_g s0.heap.size od)).map fun v => v.category).sum ≤ 8
    rw [am_wt_eq]; omega) (by rw [hb]; exact hd) (fun vm₁ hW => am_pre hI hA hr hm hT rfl vm₁ hW)
end AMK
