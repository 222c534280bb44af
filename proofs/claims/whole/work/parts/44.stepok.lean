/-! The abstract machine is sound, 4: any plain step -/
theorem am_mem {i : Nat} {w : Jvm.Cond} (h : tables_1[i]? = some w) : w ∈ lw_tbl := List.mem_append_right _ (List.mem_of_getElem? h)
theorem am_wd?_mem {i : Nat} {w : Jvm.Cond} (h : am_wd? i w = true) : w ∈ lw_tbl := am_mem (of_decide_eq_true h)
/-- a class's fields are its own -/
theorem am_clown {x y : Nat} (hk : am_clok x) (hy : y < (am_cw x).2.2) : ((am_cw x).2.1 y).1 = am_cn.getD x "" := hk.2.2.2.2.2.2.2.2.2.2 y hy
section AMQ
variable {p : Program} {l : Launch} {e : Env} {R : Room} {s : State} {m : MethodId} {args : Array Value} {below : List Frame} {meth : Method} {c : Code} {H : Heap} {locs : List Loc} {cells slots : Nat} {Q : State → Prop}
variable {pc k d : Nat} {ls : Array Slot} {s0 : State} {A0 : Array Value} {D : va_G} {cI cJ : ClassId} {od : Nat → Nat} {sc : am_S} {h0 h g : am_H} {w u : Bool}
theorem am_wnF (hC : am_ctx l s0 A0 D cI cJ od sc) (hI : am_I s0 D cI cJ od h0 s) {a b n de ho : String} {i : Nat} (hw : Jvm.Cond.fieldLinkNest a i b n de ho ∈ lw_tbl) : (Jvm.Cond.fieldLinkNest a i b n de ho).before args s = true := va_Nw.use rfl (va_Nw.warmF hI.1 (va_Nw.of rfl (hC.1 _ hw)))
theorem am_wnM (hC : am_ctx l s0 A0 D cI cJ od sc) (hI : am_I s0 D cI cJ od h0 s) {a ho : String} {i : Nat} {x : MethodName} (hw : Jvm.Cond.methodLinkNest a i x ho ∈ lw_tbl) : (Jvm.Cond.methodLinkNest a i x ho).before args s = true := va_Nw.use rfl (va_Nw.warmM hI.1 (va_Nw.of rfl (hC.1 _ hw)))
/-- what a walk of method k stands on -/
def am_mx (p : Program) (l : Launch) (R : Room) (s : State) (m : MethodId) (meth : Method) (c : Code) (s0 : State) (A0 : Array Value) (D : va_G) (cI cJ : ClassId) (od : Nat → Nat) (sc : am_S) (h0 : am_H) (k d : Nat) : Prop :=
  p.tables.exec = Jvm.exec ∧ c.code = am_by k ∧ c.maxLocals = am_ml k ∧ s.vm.findClass (am_on k) = some m.cls ∧ meth.sig.returnType = am_rt k ∧ meth.locks = false ∧ meth.name = (am_nm k).name ∧ am_ctx l s0 A0 D cI cJ od sc ∧ am_I s0 D cI cJ od h0 s ∧ (∀ (pc : Nat) (q : am_E), am_op k pc = some q → am_okb k q = true ∧ q.1 = pc) ∧ 1 ≤ d ∧ d ≤ R.frames ∧ 38 * d ≤ R.locals ∧ k < 173
/-- a stack's weight -/
theorem am_wt_eq (b0 : Nat) (od : Nat → Nat) : ∀ st : List Value, ((st.map (am_g b0 od)).map fun v => v.category).sum = am_wt st := by
  intro st
  induction st with
  | nil => rfl
  | cons v st ih =>
    cases v <;> simp only [List.map_cons, List.sum_cons, am_wt, am_g, Value.category] at ih ⊢ <;> omega
set_option maxHeartbeats 8000000 in
theorem am_sE_ok (M : am_mx p l R s m meth c s0 A0 D cI cJ od sc h0 k d) {I : Instr} {n x y z wi : Nat} {v : Int} {st r : List Value} {L : am_L} (hclk : ∀ x, x < 9 → am_clok x) (hwi : Jvm.Cond.arrayClass .int ∈ lw_tbl) (hwj : Jvm.Cond.arrayClass .long ∈ lw_tbl) (hw6 : Jvm.Cond.instanceMethod Lib.objectInit ∈ lw_tbl ∧ Jvm.Cond.code Lib.objectInit ⟨#[0xb1]⟩ 1 none ∈ lw_tbl) (hw7 : Jvm.Cond.native arraycopyName ∈ lw_tbl ∧ Jvm.Cond.static arraycopyName ∈ lw_tbl ∧ Jvm.Cond.initialized "java/lang/System" ∈ lw_tbl)
    (hok : am_okb k (pc, I, n, x, y, z, v, wi) = true) (hs : am_sE sc k x y I st h w = some (r, g, u, n)) (hA : am_at s0 s D cI cJ od h0 h w H locs cells slots) (hL : am_lr s0.heap.size od L ls) (hLl : L.length = am_ml k) (hr : g.length ≤ R.cells + h0.length ∧ am_sz g ≤ R.slots + am_sz h0)
    (K : ∀ (H1 : Heap) (locs1 : List Loc) (cells1 slots1 : Nat), am_at s0 s D cI cJ od h0 g u H1 locs1 cells1 slots1 → W p l e R s m args below meth c H1 locs1 cells1 slots1 Q (F0 m (pc + n) ls (r.map (am_g s0.heap.size od)))) : W p l e R s m args below meth c H locs cells slots Q (F0 m pc ls (st.map (am_g s0.heap.size od))) := by
  obtain ⟨hx, hb, hml, hown, -, -, hname, hC, hI, -, hd1, hdf, hdl, -⟩ := M
  have hlsz : c.maxLocals = ls.size := by rw [hml, ← hLl]; exact hL.1.symm
  have hA0 := hA
  obtain ⟨z0, hP, hS, hw0, hc1, hc2⟩ := hA0
  simp only [am_okb, Bool.and_eq_true] at hok
  obtain ⟨⟨hdec, -⟩, hok⟩ := hok
  have hd := of_decide_eq_true hdec
  unfold am_sE at hs
  split at hs
  · -- getfield
    rename_i i a r'
    simp only [Bool.and_eq_true] at hok
    obtain ⟨⟨hw, hy⟩, hx9⟩ := hok
    split at hs
    · rename_i cf fs ha
      cases hq : Nat.beq cf x with
      | false => simp [hq] at hs
      | true =>
        have e := Nat.eq_of_beq_eq_true hq
        subst e
        simp only [hq, cond_true] at hs
        obtain ⟨v', hv, h2⟩ := Option.map_eq_some_iff.mp hs
        simp only [Prod.mk.injEq] at h2
        obtain ⟨rfl, rfl, rfl, rfl⟩ := h2
        exact am_oget hx hb hown hC hI (hclk _ (Nat.blt_eq.mp hx9)) (Nat.blt_eq.mp hy) (am_wd hC hI (am_wd?_mem hw) rfl) hd hA ha hv (K H locs cells slots hA)
    · cases hs
  · -- putfield
    rename_i i v' a r'
    simp only [Bool.and_eq_true] at hok
    obtain ⟨⟨hw, hy⟩, hx9⟩ := hok
    split at hs
    · rename_i cf fs ha
      cases hq : (Nat.beq cf x && Nat.blt y fs.length && am_fit (am_ft x y) v' && (!(am_fin x y) || (am_ini k && Nat.beq (am_ow k) x))) with
      | false => simp [hq] at hs
      | true =>
        simp only [hq, cond_true, Option.some.injEq, Prod.mk.injEq] at hs
        simp only [Bool.and_eq_true, Bool.or_eq_true, Bool.not_eq_true'] at hq
        obtain ⟨⟨⟨q1, q2⟩, q3⟩, q4⟩ := hq
        have e := Nat.eq_of_beq_eq_true q1
        subst e
        obtain ⟨rfl, rfl, rfl, rfl⟩ := hs
        have hk9 := hclk _ (Nat.blt_eq.mp hx9)
        refine am_oput hx hb hown hC hI hk9 (Nat.blt_eq.mp hy) (am_wd hC hI (am_wd?_mem hw) rfl) hd hA ha (Nat.blt_eq.mp q2) q3 ?_ (fun H1 locs1 hA1 => K H1 locs1 cells slots hA1)
        cases hf : am_fin cf y with
        | false => exact Or.inl hf
        | true =>
          rcases q4 with q4 | ⟨q4, q5⟩
          · rw [hf] at q4; cases q4
          · refine Or.inr ⟨hf, ?_, ?_⟩
            · rw [hname]; exact eq_of_beq q4
            · have e5 := Nat.eq_of_beq_eq_true q5
              exact (am_clown hk9 (Nat.blt_eq.mp hy)).trans (by unfold am_on; rw [e5])
    · cases hs
  · -- getstatic
    rename_i i r'
    cases hq : Nat.blt x 4 with
    | false => simp [hq] at hs
    | true =>
      simp only [hq, cond_true, Option.some.injEq, Prod.mk.injEq] at hs
      obtain ⟨rfl, rfl, rfl, rfl⟩ := hs
      exact am_ogets hx hb hown hC hI (Nat.blt_eq.mp hq) (am_wnF hC hI (am_wd?_mem hok)) hd hA (K H locs cells slots hA)
  · -- iaload
    rename_i i v' r'
    split at hs
    · rename_i n' f' ha
      split at hs
      · cases hs
      · rename_i hin
        simp only [Option.some.injEq, Prod.mk.injEq] at hs
        obtain ⟨rfl, rfl, rfl, rfl⟩ := hs
        exact am_oia hx hb hC hI hd hA ha hin (K H locs cells slots hA)
    · cases hs
  · -- iastore
    rename_i u' i a r'
    split at hs
    · rename_i n' f' ha
      split at hs
      · cases hs
      · rename_i hin
        simp only [Option.some.injEq, Prod.mk.injEq] at hs
        obtain ⟨rfl, rfl, rfl, rfl⟩ := hs
        exact am_ois hx hb hC hI hd hA ha hin (fun H1 locs1 hA1 => K H1 locs1 cells slots hA1)
    · cases hs
  · -- laload
    rename_i i a r'
    split at hs
    · rename_i n' f' ha
      split at hs
      · cases hs
      · rename_i hin
        simp only [Option.some.injEq, Prod.mk.injEq] at hs
        obtain ⟨rfl, rfl, rfl, rfl⟩ := hs
        exact am_oja hx hb hC hI hd hA ha hin (K H locs cells slots hA)
    · cases hs
  · -- lastore
    rename_i u' i a r'
    split at hs
    · rename_i n' f' ha
      split at hs
      · cases hs
      · rename_i hin
        simp only [Option.some.injEq, Prod.mk.injEq] at hs
        obtain ⟨rfl, rfl, rfl, rfl⟩ := hs
        exact am_ojs hx hb hC hI hd hA ha hin (fun H1 locs1 hA1 => K H1 locs1 cells slots hA1)
    · cases hs
  · -- arraylength
    rename_i v' r'
    split at hs
    · rename_i n' f' ha
      simp only [Option.some.injEq, Prod.mk.injEq] at hs
      obtain ⟨rfl, rfl, rfl, rfl⟩ := hs
      exact am_oal hx hb hC hI hd hA ha (K H locs cells slots hA)
    · cases hs
  · -- newarray int
    rename_i n' r'
    split at hs
    · cases hs
    · rename_i hin
      simp only [Option.some.injEq, Prod.mk.injEq] at hs
      obtain ⟨rfl, rfl, rfl, rfl⟩ := hs
      rw [List.length_append, List.length_singleton, am_sz_app] at hr
      have hz : am_cz (.inr (.inl (n'.toNatClampNeg, fun _ => 0))) = n'.toNatClampNeg := rfl
      rw [hz] at hr
      exact am_onwi hx hb hC hI (am_wd hC hI hwi rfl) hd hA hin ⟨by omega, by omega⟩ (fun H1 hA1 => K H1 locs (cells + 1) (slots + n'.toNatClampNeg) hA1)
  · -- newarray long
    rename_i n' r'
    split at hs
    · cases hs
    · rename_i hin
      simp only [Option.some.injEq, Prod.mk.injEq] at hs
      obtain ⟨rfl, rfl, rfl, rfl⟩ := hs
      rw [List.length_append, List.length_singleton, am_sz_app] at hr
      have hz : am_cz (.inr (.inr (n'.toNatClampNeg, fun _ => 0))) = n'.toNatClampNeg := rfl
      rw [hz] at hr
      exact am_onwj hx hb hC hI (am_wd hC hI hwj rfl) hd hA hin ⟨by omega, by omega⟩ (fun H1 hA1 => K H1 locs (cells + 1) (slots + n'.toNatClampNeg) hA1)
  · -- new
    rename_i i r'
    cases hq : Nat.blt x 9 with
    | false => simp [hq] at hs
    | true =>
      simp only [hq, cond_true, Option.some.injEq, Prod.mk.injEq] at hs
      obtain ⟨rfl, rfl, rfl, rfl⟩ := hs
      have hk9 := hclk _ (Nat.blt_eq.mp hq)
      simp only [Bool.and_eq_true] at hok
      have hw := am_wd (args := args) hC hI (am_wd?_mem hok.1) rfl
      rw [← hk9.2.2.2.2.2.2.1] at hw
      rw [List.length_append, List.length_singleton, am_sz_app] at hr
      have hz : am_cz (.inl (x, am_dfs.getD x [])) = am_ns x := rfl
      rw [hz] at hr
      exact am_onew hx hb hown hC hI hk9 hw hd hA ⟨by omega, by omega⟩ (fun H1 hA1 => K H1 locs (cells + 1) (slots + am_ns x) hA1)
  · -- Object.<init>
    rename_i i a r'
    cases hq : (Nat.beq x 6 && Nat.ble (am_wt r') 8) with
    | false => simp [hq] at hs
    | true =>
      simp only [hq, cond_true, Option.some.injEq, Prod.mk.injEq] at hs
      simp only [Bool.and_eq_true] at hq
      have e := Nat.eq_of_beq_eq_true hq.1
      subst e
      obtain ⟨rfl, rfl, rfl, rfl⟩ := hs
      have hw8 := Nat.le_of_ble_eq_true hq.2
      refine W.objInit (g := F0 m pc ls (.ref (s0.heap.size + a) :: r'.map (am_g s0.heap.size od))) hx hb hown (am_wd hC hI (am_wd?_mem hok) rfl) (am_wd hC hI hw6.1 rfl) (am_wd hC hI hw6.2 rfl) rfl hlsz.symm rfl hd (by omega) ?_ (K H locs cells slots hA)
      rw [am_wt_eq]
      show 2 * 0 + am_wt r' + 12 ≤ R.locals
      omega
  · -- arraycopy
    rename_i i n' dp a1 sp a0 r'
    cases hq : (Nat.beq x 7 && Nat.ble (am_wt r') 8) with
    | false => simp [hq] at hs
    | true =>
      simp only [hq, cond_true] at hs
      simp only [Bool.and_eq_true] at hq
      have e := Nat.eq_of_beq_eq_true hq.1
      subst e
      have hw8 := Nat.le_of_ble_eq_true hq.2
      split at hs
      · rename_i n0 f0 n1 f1 ha0 ha1
        split at hs
        · cases hs
        · rename_i hin
          simp only [Option.some.injEq, Prod.mk.injEq] at hs
          obtain ⟨rfl, rfl, rfl, rfl⟩ := hs
          refine am_ocpy hx hb hlsz hown hC hI (am_wd hC hI (am_wd?_mem hok) rfl) (am_wd hC hI hw7.1 rfl) (am_wd hC hI hw7.2.1 rfl) (am_wd hC hI hw7.2.2 rfl) hd hA ha0 ha1 hin (by omega) ?_ (fun H1 locs1 hA1 => K H1 locs1 cells slots hA1)
          rw [am_wt_eq]
          omega
      · cases hs
  · cases hs
end AMQ
