/-! The abstract machine is sound, 5: what a method's contract says of an abstract result; the end of a method; calls. -/
def am_Pc (s0 : State) (D : va_G) (cI cJ : ClassId) (od : Nat → Nat) (as : List Value) (h : am_H) : Array Value → State → Prop := fun a U => a = (as.map (am_g s0.heap.size od)).toArray ∧ am_I s0 D cI cJ od h U
def am_Qc (s0 : State) (D : va_G) (cI cJ : ClassId) (od : Nat → Nat) (v : Option Value) (h : am_H) : Array Value → State → Outcome → State → Prop := fun _ _ o t => o = .returned (v.map (am_g s0.heap.size od)) ∧ am_I s0 D cI cJ od h t
def am_fr (s0 : State) (w : Bool) : Addr → Prop := fun q => w = true ∧ s0.heap.size ≤ q
def am_Tc (s0 : State) (D : va_G) (cI cJ : ClassId) (od : Nat → Nat) (a : Nat) (h : am_H) : Array Value → State → Outcome → State → Prop := fun _ st o t => o = .threw (s0.heap.size + a) ∧ am_I s0 D cI cJ od h t ∧ st.WarmedH t.vm ∧ st.sameButNew ({ t with vm := st.vm } : State) [] 1 6
def am_rm (d : Nat) (h : am_H) (r : am_R) : Room := { frames := d, cells := r.2.1.length - h.length, slots := am_sz r.2.1 - am_sz h, locals := 38 * d }
/-- an entry of the law's exception tables names its class by this number -/
def am_cpx (c : Nat) : Nat := ([13, 15, 20, 51] : List Nat).getD (c - 9) 0
def am_hdr (k : Nat) : List (Nat × Nat × Nat × Nat) := (am_hd k).map (fun q => (q.1, q.2.1, q.2.2.1, am_cpx q.2.2.2))
def am_cdw (k : Nat) : Jvm.Cond := match am_hd k with
  | [] => .code (am_nm k) (am_by k) (am_ml k) (am_rt k)
  | _ :: _ => .codeWith (am_nm k) (am_by k) (am_ml k) (am_rt k) (am_hdr k)
/-- what the walk of a method comes to -/
def am_pst (s0 : State) (D : va_G) (cI cJ : ClassId) (od : Nat → Nat) (below : List Frame) (args : Array Value) (s : State) (h0 : am_H) (r : am_R) : State → Prop := match r.1 with
  | .inl v => MQ below (am_Qc s0 D cI cJ od v r.2.1) args s (r.2.1.length - h0.length) (am_sz r.2.1 - am_sz h0) (am_fr s0 r.2.2)
  | .inr a => fun t => ∃ o, t.status = .running ∧ Ended t below o ∧ am_Tc s0 D cI cJ od a r.2.1 args s o t
def am_Met (l : Launch) (s0 : State) (D : va_G) (cI cJ : ClassId) (od : Nat → Nat) (d k : Nat) (as : List Value) (h : am_H) (r : am_R) : Prop := match r.1 with
  | .inl v => Met l (am_nm k) [am_cdw k] (am_rm d h r) (am_Pc s0 D cI cJ od as h) (am_Qc s0 D cI cJ od v r.2.1) (r.2.1.length - h.length) (am_sz r.2.1 - am_sz h) (am_fr s0 r.2.2)
  | .inr a => MetFree l (am_nm k) (headSpec [am_cdw k] (am_rm d h r)) (am_Pc s0 D cI cJ od as h) (fun _ _ _ _ _ => True) (am_Tc s0 D cI cJ od a r.2.1)
theorem am_Pc_blind {s0 : State} {D : va_G} {cI cJ : ClassId} {od : Nat → Nat} {as : List Value} {h : am_H} : FrameBlind (am_Pc s0 D cI cJ od as h) := fun _ _ _ _ hp => hp
section AMC
variable {p : Program} {l : Launch} {e : Env} {R : Room} {s : State} {m : MethodId} {args : Array Value} {below : List Frame} {meth : Method} {c : Code} {H : Heap} {locs : List Loc} {cells slots : Nat}
variable {pc k d : Nat} {ls : Array Slot} {s0 : State} {A0 : Array Value} {D : va_G} {cI cJ : ClassId} {od : Nat → Nat} {sc : am_S} {h0 h g : am_H} {w u : Bool}
theorem am_I_of {t : State} (hI : am_I s0 D cI cJ od h0 s) (hA : am_at s0 s D cI cJ od h0 h w H locs cells slots) (ht : t.heap = H) (hW : s.WarmedH t.vm) : am_I s0 D cI cJ od h t := by
  obtain ⟨z, hP, hS, hw, hc1, hc2⟩ := hA
  subst ht
  refine ⟨State.WarmedH.trans hI.1 hW, z, fun q hq => ?_, hP⟩
  rw [hS.2.1 q (by rw [hI.2.1]; omega) (Nat.not_le.mpr hq)]
  exact hI.2.2.1 q hq
/-- a point behind a call -/
theorem am_at_of {t : State} {h' : am_H} {L : List Loc} {w' : Bool} (hI : am_I s0 D cI cJ od h0 s) (hA : am_at s0 s D cI cJ od h0 h w H locs cells slots) (hm : am_mo h h') (hI' : am_I s0 D cI cJ od h' t) (hL : ∀ q ∈ L, am_fr s0 w' q.base) : am_at s0 s D cI cJ od h0 h' (w || w') t.heap (locs ++ L) (cells + (h'.length - h.length)) (slots + (am_sz h' - am_sz h)) := by
  obtain ⟨z, hP, hS, hw, hc1, hc2⟩ := hA
  obtain ⟨m1, m2⟩ := hm
  refine ⟨hI'.2.1, hI'.2.2.2, ⟨?_, fun q hq hA => ?_, fun q hq => ?_⟩, fun hww => ?_, by omega, by omega⟩
  · rw [hI.2.1, hI'.2.1]; omega
  · have hq' : q < s0.heap.size := Nat.lt_of_not_le hA
    rw [hI'.2.2.1 q hq', hI.2.2.1 q hq']
  · rcases List.mem_append.mp hq with hq | hq
    · exact hS.2.2 q hq
    · exact (hL q hq).2
  · simp only [Bool.or_eq_false_iff] at hww
    rw [hw hww.1, List.nil_append]
    cases L with
    | nil => rfl
    | cons a L =>
      have := (hL a List.mem_cons_self).1
      rw [hww.2] at this
      cases this
/-- the end of a method -/
theorem am_end_ok (M : am_mx p l R s m meth c s0 A0 D cI cJ od sc h0 k d) {q : am_E} {L : am_L} {st : List Value} {r : am_R} (hok : am_okb k q = true) (hpc : q.1 = pc) (he : am_end k q (pc, L, st, h, w) r) (hA : am_at s0 s D cI cJ od h0 h w H locs cells slots) :
    W p l e R s m args below meth c H locs cells slots (am_pst s0 D cI cJ od below args s h0 r) (F0 m pc ls (st.map (am_g s0.heap.size od))) := by
  obtain ⟨hx, hb, hml, hown, hrt, hlk, hname, hC, hI, -, hd1, hdf, hdl, -⟩ := M
  obtain ⟨ro, rh, rw'⟩ := r
  obtain ⟨pc', I, len, x, y, z, v, wi⟩ := q
  simp only at hpc
  subst hpc
  simp only [am_okb, Bool.and_eq_true] at hok
  have hd := of_decide_eq_true hok.1.1
  obtain ⟨h1, h2, h3, he⟩ := he
  simp only at h1 h2 h3 he
  subst h1; subst h2
  have e1 : rh.length - h0.length = cells := by have := hA.2.2.2.2.1; omega
  have e2 : am_sz rh - am_sz h0 = slots := by have := hA.2.2.2.2.2; omega
  have hf : ∀ q ∈ locs, am_fr s0 rw' q.base := by
    intro q hq
    cases hrw : rw' with
    | true => exact ⟨rfl, hA.2.2.1.2.2 q hq⟩
    | false =>
      have := hA.2.2.2.1 (h3 hrw)
      rw [this] at hq
      cases hq
  split at he
  · obtain ⟨hr, rfl⟩ := he
    rename_i xv
    show W p l e R s m args below meth c H locs cells slots (MQ below (am_Qc s0 D cI cJ od (some (.int xv)) rh) args s (rh.length - h0.length) (am_sz rh - am_sz h0) (am_fr s0 rw')) _
    rw [e1, e2]
    have hq : ∀ t : State, t.heap = H → s.WarmedH t.vm → am_Qc s0 D cI cJ od (some (.int xv)) rh args s (.returned (some (.int xv))) t := fun t ht hW => ⟨rfl, am_I_of hI hA ht hW⟩
    rcases hr with hr | ⟨hr, hv⟩
    · exact W.zret hx hb (hrt.trans hr) rfl hq hf hd hlk
    · refine W.zret hx hb (hrt.trans hr) ?_ hq hf hd hlk
      rcases hv with rfl | rfl <;> decide
  · obtain ⟨hr, rfl⟩ := he
    rename_i xv
    show W p l e R s m args below meth c H locs cells slots (MQ below (am_Qc s0 D cI cJ od (some (.long xv)) rh) args s (rh.length - h0.length) (am_sz rh - am_sz h0) (am_fr s0 rw')) _
    rw [e1, e2]
    exact W.lret hx hb (hrt.trans hr) (fun t ht hW => ⟨rfl, am_I_of hI hA ht hW⟩) hf hd hlk
  · obtain ⟨hr, rfl⟩ := he
    show W p l e R s m args below meth c H locs cells slots (MQ below (am_Qc s0 D cI cJ od none rh) args s (rh.length - h0.length) (am_sz rh - am_sz h0) (am_fr s0 rw')) _
    rw [e1, e2]
    exact W.vret hx hb (hrt.trans hr) (fun t ht hW => ⟨rfl, am_I_of hI hA ht hW⟩) hf hd hlk
  · exact he.elim
/-- the callee's word says what it is -/
theorem am_cd_spec {k : Nat} {a : Array Value} {U : State} (h : (am_cdw k).before a U = true) : ∃ mk methM cM, U.methodNamed? (am_nm k) = some mk ∧ U.vm.method? mk = some methM ∧ methM.code = some cM ∧ cM.code = am_by k ∧ cM.maxLocals = am_ml k ∧ methM.sig.returnType = am_rt k ∧ methM.locks = false ∧ parseMethodDescriptor (am_nm k).desc = some methM.sig := by
  unfold am_cdw at h
  split at h
  · obtain ⟨mk, hn⟩ := Jvm.Cond.code_named h
    obtain ⟨methM, cM, h1, h2, h3, h4, h5, h6, -, h7⟩ := Jvm.Cond.code_spec hn h
    exact ⟨mk, methM, cM, hn, h1, h2, h3, h4, h5, h6, h7⟩
  · obtain ⟨mk, methM, cM, hn, h1, h2, h3, h4, -, h5, h6, h7⟩ := Jvm.Cond.codeWith_spec h
    exact ⟨mk, methM, cM, hn, h1, h2, h3, h4, h5, h6, h7⟩
/-- a callee that comes back -/
theorem am_back {j d' : Nat} {as : List Value} {v : Option Value} {h' : am_H} {w' : Bool} (hM : am_Met l s0 D cI cJ od d' j as h (.inl v, h', w')) (hfr : d' + 1 ≤ R.frames) (hlo : 8 + (am_ml j + 11) + 38 * d' ≤ R.locals)
    (hcd : ∀ a' U, s.WarmedH U.vm → (am_cdw j).before a' U = true) (hini : ∀ a' U, s.WarmedH U.vm → (Jvm.Cond.initialized (am_nm j).cls).before a' U = true) :
    Back l R p e below s args (am_nm j) 3 8 (PreOf R (h'.length - h.length) (am_sz h' - am_sz h) (am_Pc s0 D cI cJ od as h)) (PostOf (am_Qc s0 D cI cJ od v h') (h'.length - h.length) (am_sz h' - am_sz h) (am_fr s0 w')) := by
  have hM' : Met l (am_nm j) [am_cdw j] (am_rm d' h (.inl v, h', w')) (am_Pc s0 D cI cJ od as h) (am_Qc s0 D cI cJ od v h') (h'.length - h.length) (am_sz h' - am_sz h) (am_fr s0 w') := hM
  have hws : ∀ w ∈ [am_cdw j], ∀ a' U, s.WarmedH U.vm → w.before a' U = true := by
    intro w hw a' U hW
    rw [List.mem_singleton.mp hw]
    exact hcd a' U hW
  cases hh : am_hd j with
  | nil =>
    have e : am_cdw j = .code (am_nm j) (am_by j) (am_ml j) (am_rt j) := by unfold am_cdw; rw [hh]
    exact back_of (bytes := am_by j) (maxL := am_ml j) (ret := am_rt j) hM' am_Pc_blind rfl rfl hfr hlo hws (by rw [e]; exact List.mem_singleton.mpr rfl) hini
  | cons q qs =>
    have e : am_cdw j = .codeWith (am_nm j) (am_by j) (am_ml j) (am_rt j) (am_hdr j) := by unfold am_cdw; rw [hh]
    exact va_backW (bytes := am_by j) (maxL := am_ml j) (ret := am_rt j) (hh := am_hdr j) hM' am_Pc_blind rfl rfl hfr hlo hws (by rw [e]; exact List.mem_singleton.mpr rfl) hini
end AMC
