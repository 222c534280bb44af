/-! The abstract machine is sound: a throw. -/
theorem am_keep {s t : State} {k n : Nat} (h : s.sameButNew t [] k n) {a : Nat} (ha : a < s.heap.size) : t.heap[a]? = s.heap[a]? := by
  obtain ⟨-, -, -, -, -, h⟩ := h
  obtain ⟨c', h1, h2, h3, h4⟩ := h a _ (Array.getElem?_eq_getElem ha)
  rw [h1, Array.getElem?_eq_getElem ha, h2]
  have e : c'.slots = s.heap[a].slots := by
    apply Array.ext_getElem?
    intro i
    exact h4 i (by simp)
  rw [e]
/-- what the tables say of an exception's class, at any state that the walks come to -/
def am_xok (s0 : State) (D : va_G) (cI cJ : ClassId) (od : Nat → Nat) : Prop := ∀ (x : Nat) (h : am_H) (U : State) (args : Array Value), 9 ≤ x → x < 13 → am_I s0 D cI cJ od h U →
  (∃ (ix : Nat) (rx : ByteArray), decode rx 0 = .ok (.aload_n 0, 1) ∧ decode rx 1 = .ok (.aload_n 1, 1) ∧ decode rx 2 = .ok (.invokespecial ix, 3) ∧ decode rx 5 = .ok (.return_, 1) ∧ ∀ a ∈ Bundle.passSAtoms (am_cn.getD x "") am_rte ix rx, a.before args U = true) ∧
  (∀ a ∈ Bundle.throwableAtoms, a.before args U = true) ∧ (∀ a ∈ Bundle.throwableSAtoms, a.before args U = true) ∧ (∀ a ∈ Bundle.chainSAtoms am_rte ["java/lang/Exception"], a.before args U = true) ∧ (∀ a ∈ am_xat (am_cn.getD x ""), a.before args U = true) ∧ Bundle.fit (am_cn.getD x "") = true ∧
  (Jvm.Cond.initialized (am_cn.getD x "")).before args U = true
section AMU
variable {p : Program} {l : Launch} {e : Env} {R : Room} {s : State} {m : MethodId} {args : Array Value} {below : List Frame} {meth : Method} {c : Code} {H : Heap} {locs : List Loc} {cells slots : Nat}
variable {pc k d : Nat} {ls : Array Slot} {s0 : State} {A0 : Array Value} {D : va_G} {cI cJ : ClassId} {od : Nat → Nat} {sc : am_S} {h0 h : am_H} {w : Bool}
theorem am_thx_spec {k pc x : Nat} (h : am_thx k pc x = true) : ∃ (x1 y1 z1 w1 : Nat) (v1 : Int) (j : Nat) (y2 z2 w2 : Nat) (v2 : Int) (p2 : Nat) (ic z3 w3 : Nat) (v3 : Int) (p3 p1 p4 x4 y4 z4 w4 : Nat) (v4 : Int),
    am_op k (pc + 3) = some (p1, .dup, 1, x1, y1, z1, v1, w1) ∧ am_op k (pc + 4) = some (p2, .ldc j, 2, 1, y2, z2, v2, w2) ∧ am_op k (pc + 6) = some (p3, .invokespecial ic, 3, 8, x, z3, v3, w3) ∧ am_op k (pc + 9) = some (p4, .athrow, 1, x4, y4, z4, v4, w4) := by
  unfold am_thx at h
  split at h
  · rename_i p1 x1 p2 j q2 p3 ic y q3 p4 q4 e1 e2 e3 e4
    have e := Nat.eq_of_beq_eq_true h
    subst e
    obtain ⟨a1, a2, a3, a4, a5⟩ := x1
    obtain ⟨b1, b2, b3, b4⟩ := q2
    obtain ⟨c1, c2, c3⟩ := q3
    obtain ⟨d1, d2, d3, d4, d5⟩ := q4
    exact ⟨_, _, _, _, _, _, _, _, _, _, _, _, _, _, _, _, _, _, _, _, _, _, _, e1, e2, e3, e4⟩
  · cases h
set_option maxHeartbeats 4000000 in
theorem am_thr_ok (XO : am_xok s0 D cI cJ od) (hfl : l.flags = flags0) (M : am_mx p l R s m meth c s0 A0 D cI cJ od sc h0 k d) (hnt : c.exceptionTable.isEmpty = true) {q : am_E} {L : am_L} {st : List Value} {r : am_R} (hok : am_okb k q = true) (hpc : q.1 = pc) (he : am_thr d k q h0 (pc, L, st, h, w) r) (hA : am_at s0 s D cI cJ od h0 h w H locs cells slots) (hls : ls.size = am_ml k) (hr : r.2.1.length ≤ R.cells + h0.length ∧ am_sz r.2.1 ≤ R.slots + am_sz h0) :
    W p l e R s m args below meth c H locs cells slots (am_pst s0 D cI cJ od below args s h0 r) (F0 m pc ls (st.map (am_g s0.heap.size od))) := by
  obtain ⟨hx, hb, hml, hown, hrt, hlk, hname, hC, hI, hops, hd1, hdf, hdl, hk173⟩ := M
  obtain ⟨pc', I, len, x, y, z, v, wi⟩ := q
  simp only at hpc
  subst hpc
  unfold am_thr at he
  simp only at he
  split at he
  · rename_i i
    obtain ⟨e1, hd6, hx9, hx13, hhd, hthx, hw8, e2, e3, e4⟩ := he
    subst e1; subst e2; subst e3; subst e4
    simp only [am_okb, Bool.and_eq_true] at hok
    obtain ⟨⟨hdec, -⟩, hwl, -⟩ := hok
    have hd := of_decide_eq_true hdec
    obtain ⟨x1, y1, z1, w1, v1, j, y2, z2, w2, v2, p2, ic, z3, w3, v3, p3, p1, p4, x4, y4, z4, w4, v4, o1, o2, o3, o4⟩ := am_thx_spec hthx
    obtain ⟨k1, rfl⟩ := hops _ _ o1
    obtain ⟨k2, rfl⟩ := hops _ _ o2
    obtain ⟨k3, rfl⟩ := hops _ _ o3
    obtain ⟨k4, rfl⟩ := hops _ _ o4
    simp only [am_okb, Bool.and_eq_true] at k1 k2 k3 k4
    have d1 := of_decide_eq_true k1.1.1
    have d2 := of_decide_eq_true k2.1.1
    have d3 := of_decide_eq_true k3.1.1
    have d4 := of_decide_eq_true k4.1.1
    obtain ⟨z0, hP, hS, hw0, hc1, hc2⟩ := hA
    have hlocs := hw0 rfl
    subst hlocs
    have hsz : am_sz (h ++ [.inl (x, [])]) = am_sz h + 6 := by
      rw [am_sz_app]
      show am_sz h + am_ns x = am_sz h + 6
      have e9 : am_ns x = 6 := by
        rcases (show x = 9 ∨ x = 10 ∨ x = 11 ∨ x = 12 by omega) with rfl | rfl | rfl | rfl <;> rfl
      rw [e9]
    have hcells : cells = 0 := by omega
    have hslots : slots = 0 := by omega
    subst hcells; subst hslots
    simp only [hsz, List.length_append, List.length_singleton] at hr
    obtain ⟨⟨ix, rx, r0, r1, r2, r5, hpass⟩, hT, hTS, hR, hX, hfit, hini⟩ := XO x h s args hx9 hx13 hI
    -- the text
    have hstr : ∃ (tx : String) (qa : Nat), vk_R (am_on k) j tx qa s := by
      have k2' := k2.2
      simp only [show Nat.beq 1 0 = false from rfl, cond_false] at k2'
      split at k2'
      · rename_i o j' tx hw
        simp only [Bool.and_eq_true, beq_iff_eq] at k2'
        obtain ⟨rfl, rfl⟩ := k2'
        have hw0 := hC.1 _ (am_mem hw)
        have hcur : ∃ cur, s0.vm.findClass (am_on k) = some cur := ⟨m.cls, by rw [← hI.1.alike.findClass]; exact hown⟩
        obtain ⟨cur, hcur⟩ := hcur
        obtain ⟨_, _, _, qa, -, -, -, -, -, hev⟩ := Jvm.Cond.stringRef_spec (args := A0) (first := s0) (o := none) (idx := []) hcur hw0
        exact ⟨tx, qa, vk_R.warm hI.1 (vk_R.of hw0 hev)⟩
      · cases k2'
    obtain ⟨tx, qa, hstr⟩ := hstr
    refine W.newc (n := 6) (g := F0 m pc' ls (st.map (am_g s0.heap.size od))) hx hb hown (am_wd hC hI (am_wd?_mem hwl) rfl) (hX _ (by simp [am_xat])) hini rfl hd (by omega) (by omega) (fun cC kC hfc hkC hkind hsize => ?_)
    refine lv_dup hx hb d1 rfl ?_
    refine va_ldcS hx hb hown hstr d2 ?_
    intro T hT0 X
    have htr : e.platform.stackTraces = false := Launch.traces_off hfl X.admits
    have hHs : H.size = s.heap.size := by rw [z0, hI.2.1]
    have hml2 : ls.size = c.maxLocals := hls.trans hml.symm
    obtain ⟨U, hst, hrun, hend, hWU, hsame, ce, hce, hcls, hvm⟩ := am_ctor (a := H.size) (cX := cC) (kX := kC) (msg := .ref qa) (g := F0 m (pc' + 3 + 1 + 2) ls (.ref qa :: .ref H.size :: .ref H.size :: st.map (am_g s0.heap.size od))) (rest := st.map (am_g s0.heap.size od)) X hx htr hlk r0 r1 r2 r5 hown hfit hT hTS hpass hR hX (am_wd hC hI (am_wd?_mem k3.2.1.1) rfl) hfc hkC (by rw [hT0]; simp [freshCell]) (Nat.le_of_eq hHs.symm) rfl rfl hml2 rfl rfl rfl (by rw [hb]; exact d3) (by rw [hb]; exact d4) (fun x hx => by
      have : c.exceptionTable = #[] := by simpa using hnt
      rw [this] at hx
      cases hx) (by omega) (by
      show 2 * 0 + ((Value.ref H.size).category + ((st.map (am_g s0.heap.size od)).map fun v => v.category).sum) + 81 ≤ R.locals
      rw [am_wt_eq]
      have : (Value.ref H.size).category = 1 := rfl
      omega)
    refine ⟨U, hst, .threw H.size, hrun, hend, ?_, ?_, hWU, ?_⟩
    · rw [z0]
    · have hUs : U.heap.size = s0.heap.size + (h.length + 1) := by
        have h1 := hsame.2.2.1
        have h2 : H.size < U.heap.size := (Array.getElem?_eq_some_iff.mp hce).1
        have h3 : U.heap.size ≤ s.heap.size + 1 := h1
        omega
      refine ⟨State.WarmedH.trans hI.1 hWU, by rw [hUs, List.length_append, List.length_singleton], fun q hq => ?_, ?_⟩
      · have h1 : U.heap[q]? = s.heap[q]? := am_keep hsame (by rw [← hHs, z0]; omega)
        rw [h1]
        exact hI.2.2.1 q hq
      · rw [am_w_app]
        refine va_P.app (hI.2.2.2.kept (fun kk qq hk => ?_)) (fun kk qq hk => ?_)
        · have hlt : qq.1 < s.heap.size := (hI.2.2.2 kk qq hk).lt
          exact am_keep hsame hlt
        · have hkk : kk = 0 := by
            have := (List.getElem?_eq_some_iff.mp hk).1
            simp at this
            exact this
          subst hkk
          simp only [List.getElem?_cons_zero, Option.some.injEq] at hk
          subst hk
          have hcl : am_cl[x]? = some (am_cn.getD x "", am_TX, 0) := by
            rcases (show x = 9 ∨ x = 10 ∨ x = 11 ∨ x = 12 by omega) with rfl | rfl | rfl | rfl <;> rfl
          have hf2 : s.vm.findClass (am_cn.getD x "") = some (D.1 x) := ((am_wK hC hI).1 x _ hcl).2.1
          refine ⟨_, hcl, ce, ?_, hcls.trans (Option.some.inj (hfc.symm.trans hf2)), hvm, fun k hk => absurd hk (Nat.not_lt_zero k)⟩
          rw [← z0]
          exact hce
    · exact hsame
  · exact he.elim
end AMU
