/-! The abstract machine is sound, 12: a method's contract. -/
def am_sl (b0 : Nat) (od : Nat → Nat) : Option Value → Slot
  | some v => .val (am_g b0 od v)
  | none => .second
theorem am_lay_sl (b0 : Nat) (od : Nat → Nat) : ∀ as : List Value, (as.all (fun v => match v with
  | .double _ => false
  | _ => true)) = true → lg_sl (as.map (am_g b0 od)) = (am_lay as).map (am_sl b0 od) := by
  intro as
  induction as with
  | nil => intro _; rfl
  | cons v as ih =>
    intro h
    simp only [List.all_cons, Bool.and_eq_true] at h
    have ih' := ih h.2
    unfold lg_sl at ih' ⊢
    simp only [List.map_cons, List.flatMap_cons]
    rw [ih']
    cases v with
    | double x => exact absurd h.1 (by simp)
    | _ => rfl
/-- a method's first locals -/
theorem am_ent_lr {b0 : Nat} {od : Nat → Nat} {k : Nat} {as : List Value} (ha : am_asok k as = true) : am_lr b0 od (am_ent k as) ((lg_sl (as.map (am_g b0 od)) ++ List.replicate (am_ml k - (lg_sl (as.map (am_g b0 od))).length) Slot.unset).toArray) ∧ (am_ent k as).length = am_ml k := by
  simp only [am_asok, Bool.and_eq_true] at ha
  have e := am_lay_sl b0 od as ha.2
  have hlen : (am_lay as).length ≤ am_ml k := Nat.le_of_ble_eq_true ha.1
  have hl : (am_ent k as).length = am_ml k := by
    unfold am_ent
    rw [List.length_append, List.length_replicate]
    omega
  obtain ⟨h1, h2, -⟩ := lv_entry (as.map (am_g b0 od)) (n := am_ml k) (by rw [e, List.length_map]; exact hlen)
  refine ⟨⟨h1.trans hl.symm, h2, fun i v hi => ?_⟩, hl⟩
  rw [e, List.length_map]
  have hi' : i < (am_lay as).length := by
    refine Nat.lt_of_not_le (fun hge => ?_)
    unfold am_ent at hi
    rw [List.getElem?_append_right hge, List.getElem?_replicate] at hi
    split at hi <;> cases hi
  unfold am_ent at hi
  rw [List.getElem?_append_left hi'] at hi
  rw [List.getElem?_toArray, List.getElem?_append_left (by rw [List.length_map]; exact hi'), List.getElem?_map, hi]
  rfl
section AMX
variable {l : Launch} {s0 : State} {A0 : Array Value} {D : va_G} {cI cJ : ClassId} {od : Nat → Nat} {sc : am_S}
/-- the walk of a method's body -/
theorem am_body (hC : am_ctx l s0 A0 D cI cJ od sc) (TB : am_tab) (XO : am_xok s0 D cI cJ od) (XC : am_xcs s0) (hfl : l.flags = flags0) {k d : Nat} (hhk : am_hok k) (hk173 : k < 173) (hE : ∀ j as h r, am_jok j → am_ev sc d j as h r → am_Met l s0 D cI cJ od d j as h r) {as : List Value} {h : am_H} {r : am_R} (he : am_ev sc (d + 1) k as h r)
    {p : Program} {e : Env} {s : State} {m : MethodId} {args : Array Value} {below : List Frame} {meth : Method} {c : Code} {s₁ : State} (B : BodyLoose p l (am_nm k) (headSpec [am_cdw k] (am_rm (d + 1) h r)) (am_by k) (am_ml k) (am_rt k) e s m args below meth c s₁) (hml : c.maxLocals = am_ml k) (hP : am_Pc s0 D cI cJ od as h args s) :
    W p l e (am_rm (d + 1) h r) s m args below meth c s.heap [] 0 0 (am_pst s0 D cI cJ od below args s h r) (entryFrame m args (am_ml k)) := by
  have he0 := he
  obtain ⟨ha, b, n, hn⟩ := he
  obtain ⟨hargs, hI⟩ := hP
  have hmo := am_ev_mo _ _ _ _ _ he0
  have hown : s.vm.findClass (am_on k) = some m.cls := by rw [← hhk.1]; exact findClass_of_methodNamed B.named
  have hcode : meth.code = some c := (Stand.of_body B).code
  have hw : (am_cdw k).before args s = true := atoms_spec (ws := [am_cdw k]) B.pre _ (List.mem_singleton.mpr rfl)
  have hxt : c.exceptionTable.toList.map (fun h => (h.startPc, h.endPc, h.handlerPc, h.catchType)) = am_hdr k := by
    unfold am_cdw at hw
    split at hw
    · rename_i hh
      obtain ⟨meth', c', h1, h2, -, -, -, -, h3, -⟩ := Jvm.Cond.code_spec B.named hw
      cases B.method.symm.trans h1
      cases hcode.symm.trans h2
      have e1 : c.exceptionTable = #[] := by simpa using h3
      unfold am_hdr
      rw [hh, e1]
      rfl
    · obtain ⟨m', meth', c', h0, h1, h2, -, -, h3, -⟩ := Jvm.Cond.codeWith_spec hw
      cases B.named.symm.trans h0
      cases B.method.symm.trans h1
      cases hcode.symm.trans h2
      exact h3
  obtain ⟨hlr, hll⟩ := am_ent_lr (b0 := s0.heap.size) (od := od) ha
  have M : am_mx p l (am_rm (d + 1) h r) s m meth c s0 A0 D cI cJ od sc h k (d + 1) := ⟨B.exec, B.bytes, hml, hown, B.returns, B.notSynchronized, (name_of_methodNamed B.named B.method).1, hC, hI, fun pc q hq => ⟨(TB.2.2.2.2 k pc q hk173 hq).1, (TB.2.2.2.2 k pc q hk173 hq).2.1⟩, by omega, Nat.le_refl _, Nat.le_refl _, hk173⟩
  subst hargs
  rw [lg_entry_eq]
  refine am_run_ok TB XO XC hfl hhk M ⟨B.method, hcode⟩ hxt hE n (0, am_ent k as, [], h, b) r hn ?_ s.heap [] 0 0 _ ⟨hI.2.1, hI.2.2.2, va_S.rf, fun _ => rfl, Nat.zero_add _, Nat.zero_add _⟩ hlr hll
  have m1 := hmo.1
  have m2 := hmo.2
  exact ⟨by show r.2.1.length ≤ (r.2.1.length - h.length) + h.length; omega, by show am_sz r.2.1 ≤ (am_sz r.2.1 - am_sz h) + am_sz h; omega⟩
/-- every call of the abstract machine is one of the machine's own -/
theorem am_sound (hC : am_ctx l s0 A0 D cI cJ od sc) (TB : am_tab) (XO : am_xok s0 D cI cJ od) (XC : am_xcs s0) (hfl : l.flags = flags0) (HK : ∀ k, k < 173 → am_hok k) : ∀ (d j : Nat) (as : List Value) (h : am_H) (r : am_R), am_jok j → am_ev sc d j as h r → am_Met l s0 D cI cJ od d j as h r := by
  intro d
  induction d with
  | zero => intro j as h r _ he; exact he.elim
  | succ d ih =>
    intro k as h r hj he
    have hk173 : k < 173 := hj.2.2.2.2.2
    have hhk := HK k hk173
    obtain ⟨ro, rh, rw'⟩ := r
    cases ro with
    | inl v =>
      show Met l (am_nm k) [am_cdw k] (am_rm (d + 1) h (.inl v, rh, rw')) (am_Pc s0 D cI cJ od as h) (am_Qc s0 D cI cJ od v rh) (rh.length - h.length) (am_sz rh - am_sz h) (am_fr s0 rw')
      cases hh : am_hd k with
      | nil =>
        refine va_MetF (cc := am_by k) (maxL := am_ml k) (ret := am_rt k) (ws' := []) hhk.2.1 (by unfold am_cdw; rw [hh]) (fun p e s m args below meth c s₁ B hml hP => ?_)
        exact am_body hC TB XO XC hfl hhk hk173 ih he B hml hP
      | cons q qs =>
        refine va_MetW (cc := am_by k) (maxL := am_ml k) (ret := am_rt k) (hh := am_hdr k) (ws' := []) (by rw [hhk.1, hhk.2.2.2 (by rw [hh]; simp)]; decide) (by unfold am_cdw; rw [hh]) (fun p e s m args below meth c s₁ B hml hP => ?_)
        exact am_body hC TB XO XC hfl hhk hk173 ih he B hml hP
    | inr a =>
      show MetFree l (am_nm k) (headSpec [am_cdw k] (am_rm (d + 1) h (.inr a, rh, rw'))) (am_Pc s0 D cI cJ od as h) (fun _ _ _ _ _ => True) (am_Tc s0 D cI cJ od a rh)
      refine MetFree.of_bodySF (code := am_by k) (maxLocals := am_ml k) (ret := am_rt k) hhk.2.1 ?_ ?_
      · intro args s m hpre hn
        obtain ⟨mk, methM, cM, h0, h1, h2, h3, h4, h5, h6, -⟩ := am_cd_spec (atoms_spec (ws := [am_cdw k]) hpre _ (List.mem_singleton.mpr rfl))
        cases hn.symm.trans h0
        exact ⟨methM, cM, h1, h2, h3, h4, h5, h6⟩
      · intro p e s m args below meth c s₁ B hml hP _
        have hh0 : s₁.heap = s.heap := by rw [B.state]; rfl
        obtain ⟨t, a1, o, b1, b2, b3⟩ := am_body hC TB XO XC hfl hhk hk173 ih he B hml hP s₁ hh0 (Stand.of_body B)
        exact ⟨t, o, a1, b1, b2, b3⟩
end AMX
