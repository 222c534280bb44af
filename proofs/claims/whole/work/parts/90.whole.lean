/-! THE CLAIM OUT OF ONE WALK OF THE LAW'S BODY. Your part is whole_start (and what it stands on); all else here is the same for every law, but numbers. -/
def R_law : String := "SoundShelfLaw"
def lw_P (b : Addr) (xs : List Int32) (args : Array Value) (s : State) : Prop := args = #[.ref b] ∧ s.IntsAt b xs ∧ xs.length ≤ 2048 ∧ (Jvm.Cond.and given_1 narrow_1).before args s = true
def lw_Q (_ : Array Value) (s : State) (o : Outcome) (t : State) : Prop := o = .returned (some (.int 1)) ∧ Framed s o t [] 1060 9438
def lw_Z (below : List Frame) (a : Array Value) (s : State) : State → Prop := fun t => ∃ o, t.status = .running ∧ Ended t below o ∧ lw_Q a s o t
/-- what holds at the law's entry: the machine, the code, the tables' words (any of lw_tbl by 'hts w (by decide +kernel)'), the script of L ints xs at the cell b, what the Statement gives of the start (any of its parts by flat_of_before) -/
def lw_At (p : Program) (s : State) (m : MethodId) (meth : Method) (c : Code) (b L : Nat) (xs : Nat → Int32) : Prop :=
  p.tables.exec = Jvm.exec ∧ c.code = code ∧ meth.sig.returnType = ret ∧ c.maxLocals = 7 ∧ s.vm.findClass R_law = some m.cls ∧ (∀ w ∈ lw_tbl, w.before #[Value.ref b] s = true) ∧ va_X b L xs s s.heap ∧ b < s.heap.size ∧ meth.locks = false ∧ (Jvm.Cond.and given_1 narrow_1).before #[Value.ref b] s = true
theorem am_W_mono {p : Program} {l : Launch} {e : Env} {R : Room} {s : State} {m : MethodId} {args : Array Value} {below : List Frame} {meth : Method} {c : Code} {H : Heap} {locs : List Loc} {cells slots : Nat} {Q1 Q2 : State → Prop} {g : JFrame} (h : W p l e R s m args below meth c H locs cells slots Q1 g) (hq : ∀ t, Q1 t → Q2 t) : W p l e R s m args below meth c H locs cells slots Q2 g := fun T hT X => by
  obtain ⟨t, a, b⟩ := h T hT X
  exact ⟨t, a, hq t b⟩
theorem am_sz_hL (s m : am_Z) (o : Nat → Int64) (t : am_H) : (zz_hL s m o t).length = 22 + t.length ∧ am_sz (zz_hL s m o t) = 1162 + am_sz t := by
  refine ⟨?_, ?_⟩
  · show ((zz_C s ++ (zz_M m ++ (.inr (.inr (1, o)) :: t)) : am_H)).length = _
    simp only [List.length_append, List.length_cons]
    show 16 + (5 + (t.length + 1)) = _
    omega
  · show am_sz (zz_C s ++ (zz_M m ++ (.inr (.inr (1, o)) :: t))) = _
    simp only [am_sz, List.map_append, List.sum_append, List.map_cons, List.sum_cons]
    have e1 : ((zz_C s).map am_cz).sum = 595 := by
      simp only [zz_C, List.map_cons, List.map_nil, List.sum_cons, List.sum_nil, am_cz]
      decide
    have e2 : ((zz_M m).map am_cz).sum = 566 := by
      simp only [zz_M, List.map_cons, List.map_nil, List.sum_cons, List.sum_nil, am_cz]
      decide
    have e3 : am_cz (.inr (.inr (1, o))) = 1 := rfl
    rw [e1, e2, e3]
    omega
theorem whole_start {p : Program} {e : Env} {s : State} {m : MethodId} {below : List Frame} {meth : Method} {c : Code} (l : Launch) (hfl : l.flags = flags0) {b L : Nat} {xs : Nat → Int32} (hL : L ≤ 2048) (C0 : lw_At p s m meth c b L xs) (hmm : meth.name = "law" ∧ s.vm.method? m = some meth ∧ meth.code = some c ∧ c.exceptionTable.isEmpty = true) : W p l e room_1 s m #[Value.ref b] below meth c s.heap [] 0 0 (lw_Z below #[Value.ref b] s) (entryFrame m ([Value.ref b] : List Value).toArray 7) := by
  obtain ⟨hx, hcd, hrt, hml, hown, hts, hX, hb, hlk, hg⟩ := C0
  obtain ⟨D, cI, cJ, od, hC, hod⟩ := am_start hfl hts hg hX hb
  obtain ⟨r, hF, hr1, hr2, hr3⟩ := zp_law (L, xs) hL
  obtain ⟨n, hn⟩ := ti_law (sc := (L, xs)) hF
  have hI : am_I s D cI cJ od [] s := ⟨State.WarmedH.refl s, rfl, fun _ _ => rfl, fun k q hk => by simp [am_w] at hk⟩
  have hk : am_hok 172 := am_hoks 172 (by decide)
  have XO := am_xoks hC
  have XC := am_xcss hC
  have M : am_mx p l room_1 s m meth c s #[Value.ref b] D cI cJ od (L, xs) [] 172 9 := ⟨hx, hcd, hml, hown, hrt, hlk, hmm.1, hC, hI, fun pc q hq => ⟨(am_tabs.2.2.2.2 172 pc q (by decide) hq).1, (am_tabs.2.2.2.2 172 pc q (by decide) hq).2.1⟩, by decide, by decide, by decide, by decide⟩
  have hxt : c.exceptionTable.toList.map (fun h => (h.startPc, h.endPc, h.handlerPc, h.catchType)) = am_hdr 172 := by
    have e1 : c.exceptionTable = #[] := by simpa using hmm.2.2.2
    rw [e1]
    rfl
  obtain ⟨q1, q2⟩ := am_sz_hL r.2.1 r.2.2.1 r.2.2.2.1 r.2.2.2.2
  have hrun := am_run_ok (e := e) (args := #[Value.ref b]) (below := below) am_tabs XO XC hfl hk M ⟨hmm.2.1, hmm.2.2.1⟩ hxt (am_sound hC am_tabs XO XC hfl am_hoks 8) n _ _ hn ⟨by show (zz_hL r.2.1 r.2.2.1 r.2.2.2.1 r.2.2.2.2).length ≤ 1060 + 0; omega, by show am_sz (zz_hL r.2.1 r.2.2.1 r.2.2.2.1 r.2.2.2.2) ≤ 9438 + 0; omega⟩ s.heap [] 0 0
  obtain ⟨hlr, hll⟩ := am_ent_lr (b0 := s.heap.size) (od := od) (k := 172) (as := [.float 4]) rfl
  have hrun2 := hrun _ ⟨hI.2.1, hI.2.2.2, va_S.rf, fun _ => rfl, Nat.zero_add _, Nat.zero_add _⟩ hlr hll
  have e5 : ([Value.float 4].map (am_g s.heap.size od)) = [Value.ref b] := by
    show [Value.ref (od 4)] = _
    rw [hod]
  rw [e5] at hrun2
  rw [lg_entry_eq]
  refine am_W_mono hrun2 (fun t ht => ?_)
  obtain ⟨o, h1, h2, ⟨h3, h4⟩, Lc, ⟨h5, h6, h7⟩, h8⟩ := ht
  subst h3
  refine ⟨_, h1, h2, ?_, ⟨_, rfl⟩, h6, h7.weaken (fun y hy hlt => ?_) ?_ ?_⟩
  · rw [hr1]; rfl
  · exact absurd (h8 y hy).2 (Nat.not_le.mpr hlt)
  · show (zz_hL r.2.1 r.2.2.1 r.2.2.2.1 r.2.2.2.2).length - 0 ≤ 1060
    omega
  · show am_sz (zz_hL r.2.1 r.2.2.1 r.2.2.2.1 r.2.2.2.2) - 0 ≤ 9438
    omega
set_option maxHeartbeats 4000000 in
theorem lw_walk (l : Launch) (hfl : l.flags = flags0) (b : Addr) (xs : List Int32) : MetFree l x (headSpec (Jvm.Cond.code x code maxLocals ret :: tables_1) room_1) (lw_P b xs) (fun _ _ _ _ _ => True) lw_Q := by
  refine MetFree.of_bodyS (code := code) (maxLocals := maxLocals) (ret := ret) (by decide) ?_ ?_
  · intro args s m h hn
    obtain ⟨meth, c, h1, h2, h3, h4, h5, h6, -, -⟩ := Cond.code_spec hn (atoms_spec (ws := Jvm.Cond.code x code maxLocals ret :: tables_1) h _ List.mem_cons_self)
    exact ⟨meth, c, h1, h2, h3, h4, h5, h6⟩
  · intro p e s m args below meth c s₁ B hml0 hP _
    obtain ⟨rfl, hx, hbd, hgv⟩ := hP
    obtain ⟨scr, harrAt, hlist, hof, hsmall⟩ := hx
    obtain ⟨hcb, hkn, -, -⟩ := State.arrayAt?_spec harrAt
    have hown : s.vm.findClass R_law = some m.cls := findClass_of_methodNamed B.named
    have hts0 : ∀ c ∈ (Jvm.Cond.code x code maxLocals ret :: tables_1), c.before #[Value.ref b] s = true := atoms_spec (ws := Jvm.Cond.code x code maxLocals ret :: tables_1) B.pre
    have hts : ∀ w ∈ lw_tbl, w.before #[Value.ref b] s = true := k2_hts_sels lw_privs (fun w hw => hts0 w (List.mem_cons_of_mem _ hw)) lw_privs_ok
    have hml : c.maxLocals = 7 := B.maxLocals_eq (hts0 _ List.mem_cons_self)
    have X₀ : Stand p l e room_1 s m #[Value.ref b] below meth c s₁ [] 0 0 := Stand.of_body B
    have hh0 : s₁.heap = s.heap := by rw [B.state]; rfl
    have hmm : meth.name = "law" ∧ s.vm.method? m = some meth ∧ meth.code = some c ∧ c.exceptionTable.isEmpty = true := by
      obtain ⟨meth', c', k1, k2, -, -, -, -, k3, -⟩ := Cond.code_spec B.named (hts0 _ List.mem_cons_self)
      cases B.method.symm.trans k1
      cases X₀.code.symm.trans k2
      exact ⟨(name_of_methodNamed B.named B.method).1, B.method, X₀.code, k3⟩
    have hsz : scr.slots.size = xs.length := by rw [← Array.length_toList, hlist, List.length_map]
    have hval : ∀ j : Nat, j < xs.length → scr.slots[j]? = some (.int (xs.getD j 0)) := fun j hj => by
      rw [← Array.getElem?_toList, hlist]
      simp [hj]
    have hbl : b < s.heap.size := (Array.getElem?_eq_some_iff.mp hcb).1
    have hX : va_X b xs.length (fun j => xs.getD j 0) s s.heap := ⟨scr, hcb, hof, hkn, hsz, hval⟩
    have K : W p l e room_1 s m #[Value.ref b] below meth c s₁.heap [] 0 0 (lw_Z below #[Value.ref b] s) (entryFrame m ([Value.ref b] : List Value).toArray 7) := by
      rw [hh0]
      exact whole_start l hfl hbd ⟨B.exec, B.bytes, B.returns, hml, hown, hts, hX, hbl, B.notSynchronized, hgv⟩ hmm
    obtain ⟨t, a1, o, b1, b2, b3⟩ := K s₁ rfl X₀
    exact ⟨t, o, a1, b1, b2, b3⟩
theorem lw_pre_spec {args : Array Value} {s : State} (h : (Jvm.Cond.and given_1 narrow_1).before args s = true) (hr : rest_1_c.before args s = true) : ∃ (b : Addr) (xs : List Int32), lw_P b xs args s := by
  have hs := flat_of_before _ h
  have hq := flat_of_before _ hr
  have hc : (Cond.count 1).before args s = true := hs _ (by decide +kernel)
  have harr : (Cond.arrayOf (.arg 0) .int).before args s = true := hs _ (by decide +kernel)
  have hle : (Cond.le (.length (.arg 0)) (.int 2048)).before args s = true := hs _ (by decide +kernel)
  have hlen : (Cond.isInt (.length (.arg 0))).before args s = true := hq _ (by decide +kernel)
  have hall : (Cond.all (.arg 0) (.isInt (.elem (.arg 0) (.index 0)))).before args s = true := hq _ (by decide +kernel)
  obtain ⟨b, xs, hb, hx⟩ := State.ints_of_pre rfl harr hlen hall
  have hsm : xs.length < 2 ^ 31 := hx.choose_spec.2.2.2
  have hev : (Term.length (.arg 0)).eval args s none [] s = some (.int xs.length.toInt32) := hx.length_eval hb
  have hv := Cond.le_ints hev (show (Term.int 2048).eval args s none [] s = some (.int 2048) from rfl)
  have hd : xs.length.toInt32 ≤ 2048 := by
    simpa [Cond.before, Cond.holds, hv] using hle
  have hN : xs.length ≤ 2048 := (Int32.ofNat_le_ofNat hsm (by decide)).mp (show Int32.ofNat xs.length ≤ Int32.ofNat 2048 from hd)
  exact ⟨b, xs, Cond.one_arg hc (show args[0]? = some (.ref b) from hb), hx, hN, h⟩
theorem lw_comes (l : Launch) (hfl : l.flags = flags0) : Comes l x (Jvm.Cond.code x code maxLocals ret :: tables_1) room_1 (fun tb e args s => Calls_1 tb e args s ∧ rest_1 tb e args s ∧ Pre_1 tb e args s)
    (fun _ _ args s o t => lw_Q args s o t) := by
  intro p e ha hc hk s m args below hf hfit hheap happ hpre
  obtain ⟨b, xs, hP⟩ := lw_pre_spec hpre.2.2 hpre.2.1
  obtain ⟨k, o, h1, h2, h3, hQ⟩ := lw_walk l hfl b xs p e ha hc hk s m args below hf ((Spec.applies_iff_loose hf).mp happ).1 hP trivial
  exact ⟨k, o, h1, h2, h3, hQ⟩
theorem lw_frame {s t : State} {o : Outcome} {args : Array Value} (h : Framed s o t [] 1060 9438) :
    Framed s o t (fieldLocs frame_1_writes args s ++ arrayLocs frame_1_arrays args s ++ staticLocs frame_1_statics s) 1060 9438 := h
theorem lw_limb (L : Cond) (hL : ∀ (args : Array Value) (s t : State), L.after args s (.returned (some (.int 1))) t = true) :
    ArmFor flags0 classFile x code maxLocals ret World_1 tables_1 room_1 Calls_1 rest_1 Pre_1
      (fun tb e a s o t => postC L tb e a s o t ∧ Framed s o t (fieldLocs frame_1_writes a s ++ arrayLocs frame_1_arrays a s ++ staticLocs frame_1_statics s) 1060 9438) := by
  intro l hfl _ _ p e ha hc hk s m args below hf hfit hheap happ hpre
  obtain ⟨k, o, h1, h2, h3, rfl, hF⟩ := lw_comes l hfl p e ha hc hk s m args below hf hfit hheap happ hpre
  exact ⟨k, _, h1, h2, h3, hL args s _, lw_frame hF⟩
theorem i_vc : Claimed_1_1 ∧ Claimed_1_2 := ⟨lw_limb limb_1_1 (fun args s t => by simp [limb_1_1, Cond.after, Cond.holds, Cond.value]), lw_limb limb_1_2 (fun args s t => Cond.after_iff.mpr (by
  first | (rw [show limb_1_2 = Cond.eq .result (.int 1) from rfl, Cond.eq_ints (x := 1) (y := 1) rfl rfl]; simp; done) | (simp [limb_1_2, Cond.value, Term.eval]; done)))⟩
