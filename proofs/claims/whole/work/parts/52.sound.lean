/-! The abstract machine is sound, 9: calls by their rows; a run; a method. -/
theorem am_obj_at {h : am_H} {a c : Nat} (ho : am_obj h a = some c) : ∃ fs : List Value, h[a]? = some (.inl (c, fs)) := by
  unfold am_obj at ho
  split at ho
  · rename_i c' fs hh
    cases ho
    exact ⟨fs, hh⟩
  · cases ho
/-- the method that a row calls is one of those that were checked -/
theorem am_call_jok {q : am_E} {st : List Value} {h : am_H} {j : Nat} {as st' : List Value} (hrok : am_rok q) (hc : am_call q st h = some (j, as, st')) : am_jok j := by
  obtain ⟨pc, I, len, x, y, z, vv, wi⟩ := q
  unfold am_call at hc
  simp only at hc
  split at hc
  · simp only [Option.some.injEq, Prod.mk.injEq] at hc; obtain ⟨rfl, -, -⟩ := hc; exact hrok.1
  · simp only [Option.some.injEq, Prod.mk.injEq] at hc; obtain ⟨rfl, -, -⟩ := hc; exact hrok.1
  · simp only [Option.some.injEq, Prod.mk.injEq] at hc; obtain ⟨rfl, -, -⟩ := hc; exact hrok.1
  · simp only [Option.some.injEq, Prod.mk.injEq] at hc; obtain ⟨rfl, -, -⟩ := hc; exact hrok.1
  · split at hc
    · rename_i c' ho
      cases hq : Nat.beq c' (am_ow y) with
      | false => simp [hq] at hc
      | true =>
        simp only [hq, cond_true, Option.some.injEq, Prod.mk.injEq] at hc
        obtain ⟨rfl, -, -⟩ := hc
        exact hrok.1
    · cases hc
  · split at hc
    · simp only [Option.some.injEq, Prod.mk.injEq] at hc; obtain ⟨rfl, -, -⟩ := hc; exact hrok.1.1
    · simp only [Option.some.injEq, Prod.mk.injEq] at hc; obtain ⟨rfl, -, -⟩ := hc; exact hrok.2.1
    · cases hc
  · cases hc
section AMW
variable {p : Program} {l : Launch} {e : Env} {R : Room} {s : State} {m : MethodId} {args : Array Value} {below : List Frame} {meth : Method} {c : Code} {H : Heap} {locs : List Loc} {cells slots : Nat} {Q : State → Prop}
variable {pc k d : Nat} {ls : Array Slot} {s0 : State} {A0 : Array Value} {D : va_G} {cI cJ : ClassId} {od : Nat → Nat} {sc : am_S} {h0 h h' g : am_H} {w w' u : Bool} {v : Option Value}
theorem am_call_ok (M : am_mx p l R s m meth c s0 A0 D cI cJ od sc h0 k (d + 1)) {q : am_E} {j : Nat} {st as st' : List Value} (hok : am_okb k q = true) (hpc : q.1 = pc) (hrok : am_rok q) (hl : q.2.2.1 = 3) (hc : am_call q st h = some (j, as, st')) (hw8 : am_wt st' ≤ 8) (hls : ls.size = am_ml k) (hM : am_Met l s0 D cI cJ od d j as h (.inl v, h', w')) (hm : am_mo h h') (hr : h'.length ≤ R.cells + h0.length ∧ am_sz h' ≤ R.slots + am_sz h0) (hA : am_at s0 s D cI cJ od h0 h w H locs cells slots)
    (K : ∀ (H1 : Heap) (locs1 : List Loc) (cells1 slots1 : Nat), am_at s0 s D cI cJ od h0 h' (w || w') H1 locs1 cells1 slots1 → W p l e R s m args below meth c H1 locs1 cells1 slots1 Q (F0 m (pc + 3) ls ((v.toList ++ st').map (am_g s0.heap.size od)))) :
    W p l e R s m args below meth c H locs cells slots Q (F0 m pc ls (st.map (am_g s0.heap.size od))) := by
  have hC := M.2.2.2.2.2.2.2.1
  have hI := M.2.2.2.2.2.2.2.2.1
  obtain ⟨pc', I, len, x, y, z, vv, wi⟩ := q
  simp only at hpc hl
  subst hpc; subst hl
  simp only [am_okb, Bool.and_eq_true] at hok
  obtain ⟨⟨hdec, -⟩, hrow⟩ := hok
  have hd := of_decide_eq_true hdec
  unfold am_call at hc
  simp only at hc
  split at hc
  · rename_i i as0 r0 htk
    simp only [Option.some.injEq, Prod.mk.injEq] at hc
    obtain ⟨rfl, rfl, rfl⟩ := hc
    simp only [Bool.and_eq_true] at hrow
    exact am_callS_ok M hrok.1 hrok.2 (am_wd hC hI (am_wd?_mem hrow.1) rfl) (of_decide_eq_true hrow.2) hd htk hw8 hls hM hm hr hA K
  · rename_i i as0 r0 htk
    simp only [Option.some.injEq, Prod.mk.injEq] at hc
    obtain ⟨rfl, rfl, rfl⟩ := hc
    simp only [Bool.and_eq_true] at hrow
    exact am_callSN_ok M hrok.1 hrok.2.1 hrok.2.2 (am_wnM hC hI (am_wd?_mem hrow.1)) (of_decide_eq_true hrow.2) hd htk hw8 hls hM hm hr hA K
  · rename_i i as0 a0 r0 htk
    simp only [Option.some.injEq, Prod.mk.injEq] at hc
    obtain ⟨rfl, rfl, rfl⟩ := hc
    simp only [Bool.and_eq_true] at hrow
    exact am_callI_ok M hrok.1 hrok.2 (Or.inl (am_wd hC hI (am_wd?_mem hrow.1.1) rfl)) (of_decide_eq_true hrow.1.2) hd htk hw8 hls hM hm hr hA K
  · rename_i i as0 a0 r0 htk
    simp only [Option.some.injEq, Prod.mk.injEq] at hc
    obtain ⟨rfl, rfl, rfl⟩ := hc
    simp only [Bool.and_eq_true] at hrow
    exact am_callI_ok M hrok.1 hrok.2 (Or.inr (am_wnM hC hI (am_wd?_mem hrow.1.1))) (of_decide_eq_true hrow.1.2) hd htk hw8 hls hM hm hr hA K
  · rename_i i as0 a0 r0 htk
    split at hc
    · rename_i c' ho
      cases hq : Nat.beq c' (am_ow y) with
      | false => simp [hq] at hc
      | true =>
        simp only [hq, cond_true, Option.some.injEq, Prod.mk.injEq] at hc
        obtain ⟨rfl, rfl, rfl⟩ := hc
        obtain ⟨fs, ha⟩ := am_obj_at ho
        rw [Nat.eq_of_beq_eq_true hq] at ha
        simp only [Bool.and_eq_true] at hrow
        exact am_callV_ok (x := 0) M hrok.1 hrok.2.1 (am_wd hC hI (am_wd?_mem hrow.1) rfl) (of_decide_eq_true hrow.2) hd htk hw8 ha hrok.2.2 hls hM hm hr hA K
    · cases hc
  · rename_i i as0 a0 r0 htk
    simp only [Bool.and_eq_true] at hrow
    obtain ⟨⟨⟨r1, r2⟩, r3⟩, r4⟩ := hrow
    have e1 : (am_nm z).name = (am_nm y).name := eq_of_beq r3
    have e2 : (am_nm z).desc = (am_nm y).desc := eq_of_beq r4
    split at hc
    · rename_i ho
      simp only [Option.some.injEq, Prod.mk.injEq] at hc
      obtain ⟨rfl, rfl, rfl⟩ := hc
      obtain ⟨fs, ha⟩ := am_obj_at ho
      exact am_callD_ok M hrok.1.1 hrok.1.2 (am_wd hC hI (am_wd?_mem r1) rfl) (of_decide_eq_true r2) hd htk hw8 ha ⟨_, rfl, rfl⟩ hls hM hm hr hA K
    · rename_i ho
      simp only [Option.some.injEq, Prod.mk.injEq] at hc
      obtain ⟨rfl, rfl, rfl⟩ := hc
      obtain ⟨fs, ha⟩ := am_obj_at ho
      refine am_callD_ok M hrok.2.1 hrok.2.2 ?_ ?_ hd htk hw8 ha ⟨_, rfl, rfl⟩ hls hM hm hr hA K
      · unfold am_cdx
        rw [e1, e2]
        exact am_wd hC hI (am_wd?_mem r1) rfl
      · rw [e2]
        exact of_decide_eq_true r2
    · cases hc
  · cases hc
end AMW
