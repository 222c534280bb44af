/-! What is known at the law's start: the exceptions' words at every state; the classes, the constant rows. -/
theorem am_lsm {s U : State} {A args : Array Value} (hvm : s.vm.Alike U.vm) (hh : ∀ q, q < s.heap.size → U.heap[q]? = s.heap[q]?) {O f d : String} (h : (Jvm.Cond.laysStatic O f d).before A s = true) : (Jvm.Cond.laysStatic O f d).before args U = true := by
  obtain ⟨c, k, i, fd, a, cell, hc, hf, hst, hsta, hcell, hiss, hcls, hlt, hty⟩ := Jvm.Cond.laysStatic_spec h
  obtain ⟨k', hf', he⟩ := State.fieldFound?_setVm hvm hf
  have hc' : U.vm.findClass O = some c := by rw [hvm.findClass]; exact hc
  have hsta' : k'.statics = some a := by rw [he]; exact hsta
  have hty' : k'.staticTypes[fd.slot]? = some fd.type := by rw [he]; exact hty
  have hcell' : U.heap[a]? = some cell := by rw [hh a (Array.getElem?_eq_some_iff.mp hcell).1]; exact hcell
  have hf2 : U.fieldFound? O f d = some (c, k', i, fd) := hf'
  simp [Jvm.Cond.before, Jvm.Cond.holds, Jvm.Cond.value, hc', hf2, hst, hsta', hcell', hiss, hcls, hlt, hty']
theorem am_irm {s U : State} {A args : Array Value} (hvm : s.vm.Alike U.vm) (hh : ∀ q, q < s.heap.size → U.heap[q]? = s.heap[q]?) {O f d : String} (hl : (Jvm.Cond.laysStatic O f d).before A s = true) (h : (Jvm.Cond.isRef (.static O f d)).before A s = true) : (Jvm.Cond.isRef (.static O f d)).before args U = true := by
  obtain ⟨c, k, i, fd, a, cell, hc, hf, hst, hsta, hcell, hiss, hcls, hlt, hty⟩ := Jvm.Cond.laysStatic_spec hl
  obtain ⟨k', hf', he⟩ := State.fieldFound?_setVm hvm hf
  have hsta' : k'.statics = some a := by rw [he]; exact hsta
  have hcell' : U.heap[a]? = some cell := by rw [hh a (Array.getElem?_eq_some_iff.mp hcell).1]; exact hcell
  have hf2 : U.fieldFound? O f d = some (c, k', i, fd) := hf'
  have hv : cell.slots[fd.slot]? = some cell.slots[fd.slot] := Array.getElem?_eq_getElem hlt
  have e1 : (Term.static O f d).eval A s none [] s = some cell.slots[fd.slot] := by simp [Term.eval, State.fieldNamed?, hf, hst, hsta, hcell, hiss, hv]
  have e2 : (Term.static O f d).eval args U none [] U = some cell.slots[fd.slot] := by simp [Term.eval, State.fieldNamed?, hf2, hst, hsta', hcell', hiss, hv]
  simp only [Jvm.Cond.before, Jvm.Cond.holds, Jvm.Cond.value, e1] at h
  simp only [Jvm.Cond.before, Jvm.Cond.holds, Jvm.Cond.value, e2]
  exact h
/-- a word that every walk keeps: of the tables and good, or of three kinds that are kept otherwise -/
def am_kw (w : Jvm.Cond) : Bool := decide (w ∈ lw_tbl) && match w with
  | .declares _ => true
  | .laysStatic _ _ _ => true
  | w => goodWord w
theorem am_kwd {l : Launch} {s0 U : State} {A0 args : Array Value} {D : va_G} {cI cJ : ClassId} {od : Nat → Nat} {sc : am_S} {h : am_H} (hC : am_ctx l s0 A0 D cI cJ od sc) (hI : am_I s0 D cI cJ od h U) {w : Jvm.Cond} (hw : am_kw w = true) : w.before args U = true := by
  simp only [am_kw, Bool.and_eq_true, decide_eq_true_eq] at hw
  obtain ⟨h1, h2⟩ := hw
  split at h2
  · exact va_Nw.use rfl (va_Nw.warmD hI.1 (va_Nw.of rfl (hC.1 _ h1)))
  · exact am_lsm hI.1.alike hI.2.2.1 (hC.1 _ h1)
  · exact am_wd hC hI h1 h2
def am_xi (x : Nat) : Nat × ByteArray := if x = 12 then (13, ⟨#[0x2a, 0x2b, 0xb7, 0x00, 0x0d, 0xb1]⟩) else (7, Bundle.six)
theorem am_xt1 : Bundle.throwableAtoms.all am_kw = true := by decide +kernel
theorem am_xt2 : Bundle.throwableSAtoms.all am_kw = true := by decide +kernel
theorem am_xt3 : (Bundle.chainSAtoms am_rte ["java/lang/Exception"]).all am_kw = true := by decide +kernel
theorem am_xt4 : ([9, 10, 11, 12] : List Nat).all (fun x => (Bundle.passSAtoms (am_cn.getD x "") am_rte (am_xi x).1 (am_xi x).2).all am_kw) = true := by decide +kernel
theorem am_xt5 : ([9, 10, 11, 12] : List Nat).all (fun x => (am_xat (am_cn.getD x "")).all (fun w => match w with
  | .isRef _ => true
  | w => am_kw w) && Bundle.fit (am_cn.getD x "") && am_kw (.initialized (am_cn.getD x ""))) = true := by decide +kernel
theorem am_fl1 : (flatC (Jvm.Cond.and given_1 narrow_1))[143]? = some (.isRef (.static Bundle.tN "UNASSIGNED_STACK" Bundle.steD)) := by decide +kernel
theorem am_fl2 : (flatC (Jvm.Cond.and given_1 narrow_1))[144]? = some (.isRef (.static Bundle.tN "SUPPRESSED_SENTINEL" Bundle.listD)) := by decide +kernel
theorem am_fl3 : (flatC (Jvm.Cond.and given_1 narrow_1))[154]? = some (.not (.castable "java/lang/IllegalStateException" "java/lang/IllegalArgumentException")) := by decide +kernel
theorem am_fl4 : (flatC (Jvm.Cond.and given_1 narrow_1))[178]? = some (.not (.castable "java/lang/IllegalArgumentException" "java/lang/IndexOutOfBoundsException")) := by decide +kernel
theorem am_fl5 : (flatC (Jvm.Cond.and given_1 narrow_1))[156]? = some (.not (.castable "java/util/NoSuchElementException" "java/lang/IllegalArgumentException")) := by decide +kernel
theorem am_ls1 : Jvm.Cond.laysStatic Bundle.tN "UNASSIGNED_STACK" Bundle.steD ∈ lw_tbl := by decide +kernel
theorem am_ls2 : Jvm.Cond.laysStatic Bundle.tN "SUPPRESSED_SENTINEL" Bundle.listD ∈ lw_tbl := by decide +kernel
theorem am_xoks {l : Launch} {s0 : State} {A0 : Array Value} {D : va_G} {cI cJ : ClassId} {od : Nat → Nat} {sc : am_S} (hC : am_ctx l s0 A0 D cI cJ od sc) : am_xok s0 D cI cJ od := by
  intro x h U args h9 h13 hI
  have hx : x ∈ ([9, 10, 11, 12] : List Nat) := by
    rcases (show x = 9 ∨ x = 10 ∨ x = 11 ∨ x = 12 by omega) with rfl | rfl | rfl | rfl <;> decide
  have hfl := flat_of_before _ hC.2.2.2.2.2.2
  have x5 := List.all_eq_true.mp am_xt5 x hx
  simp only [Bool.and_eq_true] at x5
  refine ⟨⟨(am_xi x).1, (am_xi x).2, ?_, ?_, ?_, ?_, fun a ha => am_kwd hC hI (List.all_eq_true.mp (List.all_eq_true.mp am_xt4 x hx) a ha)⟩, fun a ha => am_kwd hC hI (List.all_eq_true.mp am_xt1 a ha), fun a ha => am_kwd hC hI (List.all_eq_true.mp am_xt2 a ha), fun a ha => am_kwd hC hI (List.all_eq_true.mp am_xt3 a ha), fun a ha => ?_, x5.1.2, am_kwd hC hI x5.2⟩
  · rcases (show x = 9 ∨ x = 10 ∨ x = 11 ∨ x = 12 by omega) with rfl | rfl | rfl | rfl <;> decide +kernel
  · rcases (show x = 9 ∨ x = 10 ∨ x = 11 ∨ x = 12 by omega) with rfl | rfl | rfl | rfl <;> decide +kernel
  · rcases (show x = 9 ∨ x = 10 ∨ x = 11 ∨ x = 12 by omega) with rfl | rfl | rfl | rfl <;> decide +kernel
  · rcases (show x = 9 ∨ x = 10 ∨ x = 11 ∨ x = 12 by omega) with rfl | rfl | rfl | rfl <;> decide +kernel
  · have ha5 := List.all_eq_true.mp x5.1.1 a ha
    simp only [am_xat, List.mem_cons, List.not_mem_nil, or_false] at ha
    rcases ha with rfl | rfl | rfl | rfl | rfl | rfl | rfl | rfl | rfl | rfl | rfl | rfl
    · exact am_kwd hC hI (show am_kw _ = true from ha5)
    · exact am_kwd hC hI (show am_kw _ = true from ha5)
    · exact am_kwd hC hI (show am_kw _ = true from ha5)
    · exact am_kwd hC hI (show am_kw _ = true from ha5)
    · exact am_kwd hC hI (show am_kw _ = true from ha5)
    · exact am_kwd hC hI (show am_kw _ = true from ha5)
    · exact am_kwd hC hI (show am_kw _ = true from ha5)
    · exact am_irm hI.1.alike hI.2.2.1 (hC.1 _ am_ls1) (hfl _ (List.mem_of_getElem? am_fl1))
    · exact am_irm hI.1.alike hI.2.2.1 (hC.1 _ am_ls2) (hfl _ (List.mem_of_getElem? am_fl2))
    · exact am_kwd hC hI (show am_kw _ = true from ha5)
    · exact am_kwd hC hI (show am_kw _ = true from ha5)
    · exact am_kwd hC hI (show am_kw _ = true from ha5)
theorem am_ncs {s0 : State} {A0 : Array Value} {a b : String} {ca cb : Nat} (h : (Jvm.Cond.not (.castable a b)).before A0 s0 = true) (ha : s0.vm.findClass a = some ca) (hb : s0.vm.findClass b = some cb) : s0.vm.assignable ca cb = false := by
  have hv := Jvm.Cond.holds_not_iff.mp h
  simp only [Jvm.Cond.value, ha, hb] at hv
  exact Option.some.inj hv
theorem am_xcl : ([9, 10, 11, 12] : List Nat).all (fun c => decide (Jvm.Cond.classLink "SoundShelfLaw" (am_cpx c) (am_cn.getD c "") ∈ lw_tbl) && decide (am_cpx c ≠ 0)) = true := by decide +kernel
theorem am_xcss {l : Launch} {s0 : State} {A0 : Array Value} {D : va_G} {cI cJ : ClassId} {od : Nat → Nat} {sc : am_S} (hC : am_ctx l s0 A0 D cI cJ od sc) : am_xcs s0 := by
  have hfl := flat_of_before _ hC.2.2.2.2.2.2
  refine ⟨fun c h1 h2 => ?_, fun t r ct cr htr ht hr => ?_⟩
  · have hx : c ∈ ([9, 10, 11, 12] : List Nat) := by
      rcases (show c = 9 ∨ c = 10 ∨ c = 11 ∨ c = 12 by omega) with rfl | rfl | rfl | rfl <;> decide
    have := List.all_eq_true.mp am_xcl c hx
    simp only [Bool.and_eq_true, decide_eq_true_eq] at this
    exact this
  · simp only [am_prs, List.mem_cons, List.not_mem_nil, or_false, Prod.mk.injEq] at htr
    rcases htr with ⟨rfl, rfl⟩ | ⟨rfl, rfl⟩ | ⟨rfl, rfl⟩
    · exact am_ncs (hfl _ (List.mem_of_getElem? am_fl3)) ht hr
    · exact am_ncs (hfl _ (List.mem_of_getElem? am_fl4)) ht hr
    · exact am_ncs (hfl _ (List.mem_of_getElem? am_fl5)) ht hr
