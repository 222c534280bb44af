/-! The abstract machine is sound, 7: what is thrown. A row of the exception table whose class is not resolved yet is resolved by the search. -/
section AMF
variable {Q : Handler → Pre} {E : CtlPost} {e : Env} {d : Bool} {acts : List Action} {s : State} {f : JFrame} {a : Addr}
theorem am_row1 {x : ExceptionTableEntry} {t : List ExceptionTableEntry} {c : ClassId} {cell : Cell} (hx : covers x f.pc = true) (h0 : x.catchType ≠ 0)
    (hl : s.vm.ClassLinks e.platform f.method.cls x.catchType c) (hcell : s.heap[a]? = some cell) (hobj : ∀ k, cell.vm ≠ .statics k)
    (hk : ∃ k, s.vm.classes[cell.cls]? = some k) (hc : ∃ k, s.vm.classes[c]? = some k) :
    wp (findHandler.go f a (x :: t)) Q E e d acts s ↔ if s.vm.assignable cell.cls c = true then Q (.found x.handlerPc) d acts (s.setVm (s.vm.noted f.method.cls x.catchType (.cls c))) else wp (findHandler.go f a t) Q E e d acts (s.setVm (s.vm.noted f.method.cls x.catchType (.cls c))) := by
  have hx' : (decide (x.startPc ≤ f.pc) && decide (f.pc < x.endPc)) = true := hx
  obtain ⟨r1, r2⟩ := (resolveClass_links e.toSetting hl).op (op := VmOp.resolveClass f.method.cls x.catchType) rfl
  have hal : s.vm.Alike (s.vm.noted f.method.cls x.catchType (.cls c)) := (Vm.Alike.refl s.vm).noted _ _ _
  obtain ⟨ka, hka⟩ := hk
  obtain ⟨kb, hkb⟩ := hc
  obtain ⟨ka', hka', -⟩ := hal.2.2 _ _ hka
  obtain ⟨kb', hkb', -⟩ := hal.2.2 _ _ hkb
  have hs : (s.vm.noted f.method.cls x.catchType (.cls c)).assignable cell.cls c = s.vm.assignable cell.cls c := hal.assignable ..
  cases hfit : s.vm.assignable cell.cls c <;>
    simp [findHandler.go, hx', h0, r1, r2, hcell, hobj, hka', hkb', hs, hfit, VmOp.dirties, VmOp.acts]
end AMF
/-- the search ends at a handler, the tables warmer -/
def am_fnd (e : Env) (s : State) (f : JFrame) (a : Addr) (pc : Nat) (vm' : Vm) : Prop := ∀ (Q : Handler → Pre) (E : CtlPost) (d : Bool) (acts : List Action), wp (findHandler f a) Q E e d acts s ↔ Q (.found pc) d acts (s.setVm vm')
theorem am_hits {tb : Tables} {e : Env} {s target : State} {g : JFrame} {c : Code} {below : List Frame} {a : Addr} (h : At s g.method c below) {pc : Nat} {vm' : Vm}
    (hf : am_fnd e ((s.setTop g).pushFrame (.throwing a)) g a pc vm') (hrest : Steps tb e below ((s.setVm vm').setTop { g with pc := pc, stack := [.ref a] }) target) :
    Steps tb e below ((s.setTop g).pushFrame (.throwing a)) target := by
  obtain ⟨hgo, hw⟩ := h.throwing a
  have hstep : (stepThrowing e ((s.setTop g).pushFrame (.throwing a)) a (.java g :: s.frames.tail)).Is ((((s.setTop g).pushFrame (.throwing a)).setVm vm').setFrames (.java { g with pc := pc, stack := [.ref a] } :: s.frames.tail)) [] := by
    simp only [stepThrowing, searchFrame, vmDo]
    generalize hr : Sem.go _ e false [] ((s.setTop g).pushFrame (.throwing a)) = res
    obtain ⟨as, rfl, ha⟩ := Sem.eq_ok_of hr (a := Handler.found pc) (s' := ((s.setTop g).pushFrame (.throwing a)).setVm vm') (acts' := []) (by simp [hf _ _ _ _])
    exact ⟨rfl, ha⟩
  refine Steps.head hgo hw ?_
  rw [stepThread_throwing (frames_entered h.top _), hstep.1]
  obtain ⟨g₀, hg⟩ := Option.isSome_iff_exists.mp h.top
  obtain ⟨r, hr⟩ := State.topJava?_eq_some.mp hg
  have hr' : (s.setVm vm').frames = .java g₀ :: r := hr
  rw [State.setTop_of_frames _ hr'] at hrest
  have swap : ∀ (u : State) (F G : List Frame), ((u.setFrames F).setVm vm').setFrames G = (u.setVm vm').setFrames G := fun u F G => by
    rw [show (u.setFrames F).setVm vm' = (u.setVm vm').setFrames F from rfl, State.setFrames_setFrames]
  rw [hr, List.tail_cons, State.pushFrame, swap, State.setTop_of_frames _ hr, swap]
  exact hrest
/-- a table whose rows name classes that link: the first that fits -/
theorem am_rows {e : Env} {s0 : State} {f : JFrame} {a : Addr} {cell : Cell} (hobj : ∀ k, cell.vm ≠ .statics k) (hk0 : ∃ k, s0.vm.classes[cell.cls]? = some k) {hp : Nat} :
    ∀ (rows : List ExceptionTableEntry) (S : State), s0.WarmedH S.vm → S.heap[a]? = some cell →
      (∃ (pre : List ExceptionTableEntry) (x : ExceptionTableEntry) (post : List ExceptionTableEntry), rows = pre ++ x :: post ∧ x.handlerPc = hp ∧
        (∀ y ∈ pre, covers y f.pc = false ∨ (y.catchType ≠ 0 ∧ ∃ c, s0.vm.ClassLinks e.platform f.method.cls y.catchType c ∧ s0.vm.assignable cell.cls c = false)) ∧
        covers x f.pc = true ∧ x.catchType ≠ 0 ∧ ∃ c, s0.vm.ClassLinks e.platform f.method.cls x.catchType c ∧ s0.vm.assignable cell.cls c = true) →
      ∃ vm', s0.WarmedH vm' ∧ ∀ (Q : Handler → Pre) (E : CtlPost) (d : Bool) (acts : List Action), wp (findHandler.go f a rows) Q E e d acts S ↔ Q (.found hp) d acts (S.setVm vm') := by
  obtain ⟨k0, hk0⟩ := hk0
  intro rows
  induction rows with
  | nil => intro S _ _ ⟨pre, x, post, h, _⟩; cases pre <;> cases h
  | cons y ys ih =>
    intro S hW hcell ⟨pre, x, post, h, hpx, hpre, hx, h0, c, hl, hfit⟩
    obtain ⟨k0', hk0', -⟩ := hW.alike.2.2 _ _ hk0
    cases pre with
    | nil =>
      simp only [List.nil_append, List.cons.injEq] at h
      obtain ⟨rfl, rfl⟩ := h
      obtain ⟨dk, _, _, kt, hd, _, _, _, _, hkt, _, hopen⟩ := hl.here
      obtain ⟨kt', hkt', -⟩ := hW.alike.2.2 _ _ hkt
      refine ⟨_, hW.noted hd hopen (State.rightAt_cls hl), fun Q E d acts => ?_⟩
      rw [am_row1 hx h0 (hW.classLinks hl) hcell hobj ⟨k0', hk0'⟩ ⟨kt', hkt'⟩, if_pos (by rw [hW.alike.assignable]; exact hfit), hpx]
    | cons z zs =>
      simp only [List.cons_append, List.cons.injEq] at h
      obtain ⟨rfl, rfl⟩ := h
      have hrest : ∃ (pre : List ExceptionTableEntry) (x' : ExceptionTableEntry) (post' : List ExceptionTableEntry), zs ++ x :: post = pre ++ x' :: post' ∧ x'.handlerPc = hp ∧
        (∀ y ∈ pre, covers y f.pc = false ∨ (y.catchType ≠ 0 ∧ ∃ c, s0.vm.ClassLinks e.platform f.method.cls y.catchType c ∧ s0.vm.assignable cell.cls c = false)) ∧
        covers x' f.pc = true ∧ x'.catchType ≠ 0 ∧ ∃ c, s0.vm.ClassLinks e.platform f.method.cls x'.catchType c ∧ s0.vm.assignable cell.cls c = true :=
        ⟨zs, x, post, rfl, hpx, fun y hy => hpre y (List.mem_cons_of_mem _ hy), hx, h0, c, hl, hfit⟩
      by_cases hcov : covers y f.pc = true
      · rcases hpre y List.mem_cons_self with h1 | ⟨h1, c1, hl1, hno⟩
        · rw [h1] at hcov; cases hcov
        · obtain ⟨dk, _, _, kt, hd, _, _, _, _, hkt, _, hopen⟩ := hl1.here
          obtain ⟨kt', hkt', -⟩ := hW.alike.2.2 _ _ hkt
          obtain ⟨vm', hW', hq⟩ := ih (S.setVm (S.vm.noted f.method.cls y.catchType (.cls c1))) (hW.noted hd hopen (State.rightAt_cls hl1)) hcell hrest
          refine ⟨vm', hW', fun Q E d acts => ?_⟩
          rw [am_row1 hcov h1 (hW.classLinks hl1) hcell hobj ⟨k0', hk0'⟩ ⟨kt', hkt'⟩, if_neg (by rw [hW.alike.assignable, hno]; decide)]
          exact hq Q E d acts
      · obtain ⟨vm', hW', hq⟩ := ih S hW hcell hrest
        refine ⟨vm', hW', fun Q E d acts => ?_⟩
        rw [W.findHandler_go_skip (by simpa using hcov)]
        exact hq Q E d acts
/-- only an own throw leaves a method -/
theorem am_run_thr {sc : am_S} {d : Nat} {E : Nat → List Value → am_H → am_R → Prop} {k : Nat} {h0 : am_H} : ∀ (n : Nat) (f : am_F) (r : am_R) (a : Nat), am_run sc d E k h0 n f r → r.1 = .inr a → ∃ c : Nat, 9 ≤ c ∧ c < 13 ∧ r = (.inr h0.length, h0 ++ [.inl (c, [])], false) := by
  intro n
  induction n with
  | zero => intro f r a h; exact h.elim
  | succ n ih =>
    intro f r a h hr
    rcases h with ⟨M, hM, h⟩ | h
    · exact ih (f.1, M, f.2.2) r a h hr
    · cases ho : am_op k f.1 with
      | none => simp [ho] at h
      | some q =>
        simp only [ho] at h
        cases hs : am_s sc k q f with
        | some g => simp only [hs] at h; exact ih g r a h hr
        | none =>
          simp only [hs] at h
          rcases h with h | h | ⟨j, as, st, o, h', w, h1, h2, h3, h4, h5⟩
          · obtain ⟨-, -, -, he⟩ := h
            split at he
            · rw [he.2] at hr; cases hr
            · rw [he.2] at hr; cases hr
            · rw [he.2] at hr; cases hr
            · exact he.elim
          · unfold am_thr at h
            split at h
            · obtain ⟨-, -, b1, b2, -, -, -, -, -, b3⟩ := h
              exact ⟨_, b1, b2, b3⟩
            · exact h.elim
          · cases o with
            | inl v => exact ih _ r a h5 hr
            | inr a' =>
              obtain ⟨c, t, b1, b2, b3, b4⟩ := h5
              exact ih _ r a b4 hr
