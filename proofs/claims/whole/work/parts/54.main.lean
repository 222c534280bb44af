/-! The abstract machine is sound, 11: runs and methods. -/
theorem am_ev_thr {sc : am_S} {d j : Nat} {as : List Value} {h h' : am_H} {a : Nat} {w' : Bool} (he : am_ev sc d j as h (.inr a, h', w')) : ∃ cx : Nat, 9 ≤ cx ∧ cx < 13 ∧ a = h.length ∧ h' = h ++ [.inl (cx, [])] ∧ w' = false := by
  cases d with
  | zero => exact he.elim
  | succ d =>
    obtain ⟨-, b, n, hn⟩ := he
    obtain ⟨cx, h1, h2, h3⟩ := am_run_thr n _ _ a hn rfl
    simp only [Prod.mk.injEq, Sum.inr.injEq] at h3
    exact ⟨cx, h1, h2, h3.1, h3.2.1, h3.2.2⟩
/-- what else the tables were checked for -/
def am_hok (k : Nat) : Prop := (am_nm k).cls = am_on k ∧ plainFor (am_nm k) = true ∧ am_hdo (am_hd k) = true ∧ (am_hd k ≠ [] → am_on k = "SoundShelfLaw")
section AMV
variable {p : Program} {l : Launch} {e : Env} {R : Room} {s : State} {m : MethodId} {args : Array Value} {below : List Frame} {meth : Method} {c : Code}
variable {k d : Nat} {s0 : State} {A0 : Array Value} {D : va_G} {cI cJ : ClassId} {od : Nat → Nat} {sc : am_S} {h0 : am_H}
theorem am_run_ok (TB : am_tab) (XO : am_xok s0 D cI cJ od) (XC : am_xcs s0) (hfl : l.flags = flags0) (hhk : am_hok k) (M : am_mx p l R s m meth c s0 A0 D cI cJ od sc h0 k (d + 1)) (hmc : s.vm.method? m = some meth ∧ meth.code = some c) (hxt : c.exceptionTable.toList.map (fun h => (h.startPc, h.endPc, h.handlerPc, h.catchType)) = am_hdr k)
    (hE : ∀ j as h r, am_jok j → am_ev sc d j as h r → am_Met l s0 D cI cJ od d j as h r) :
    ∀ (n : Nat) (f : am_F) (r : am_R), am_run sc (d + 1) (am_ev sc d) k h0 n f r → (r.2.1.length ≤ R.cells + h0.length ∧ am_sz r.2.1 ≤ R.slots + am_sz h0) → ∀ (H : Heap) (locs : List Loc) (cells slots : Nat) (ls : Array Slot), am_at s0 s D cI cJ od h0 f.2.2.2.1 f.2.2.2.2 H locs cells slots → am_lr s0.heap.size od f.2.1 ls → f.2.1.length = am_ml k →
      W p l e R s m args below meth c H locs cells slots (am_pst s0 D cI cJ od below args s h0 r) (F0 m f.1 ls (f.2.2.1.map (am_g s0.heap.size od))) := by
  have hk173 : k < 173 := M.2.2.2.2.2.2.2.2.2.2.2.2.2
  intro n
  induction n with
  | zero => intro f r h; exact h.elim
  | succ n ih =>
    intro f r h hr H locs cells slots ls hA hL hLl
    have hls : ls.size = am_ml k := hL.1.trans hLl
    rcases h with ⟨M', hM', h⟩ | h
    · exact ih (f.1, M', f.2.2) r h hr H locs cells slots ls hA (hL.fg hM') (hM'.1.trans hLl)
    · cases ho : am_op k f.1 with
      | none => simp [ho] at h
      | some q =>
        simp only [ho] at h
        obtain ⟨hok, hpc, hrok⟩ := TB.2.2.2.2 k f.1 q hk173 ho
        obtain ⟨pc, L, st, hp, w⟩ := f
        cases hs : am_s sc k q (pc, L, st, hp, w) with
        | some g =>
          simp only [hs] at h
          have hmo := am_run_mo (fun j as h r he => am_ev_mo d j as h r he) n g r h
          exact am_step_ok TB M hok hpc hs hA hL hLl ⟨Nat.le_trans hmo.1 hr.1, Nat.le_trans hmo.2 hr.2⟩ (fun H1 locs1 cells1 slots1 ls1 hA1 hL1 hl1 => ih g r h hr H1 locs1 cells1 slots1 ls1 hA1 hL1 hl1)
        | none =>
          simp only [hs] at h
          rcases h with h | h | ⟨j, as, st', o, h', w', h1, h2, h3, h4, h5⟩
          · exact am_end_ok M hok hpc h hA
          · have hnt : c.exceptionTable.isEmpty = true := by
              have hhd : am_hd k = [] := by
                unfold am_thr at h
                split at h
                · exact h.2.2.2.2.1
                · exact h.elim
              have e9 : am_hdr k = [] := by unfold am_hdr; rw [hhd]; rfl
              rw [e9] at hxt
              have := List.map_eq_nil_iff.mp hxt
              simpa using this
            exact am_thr_ok XO hfl M hnt hok hpc h hA hls hr
          · have hjok := am_call_jok hrok h2
            have hMet := hE j as hp _ hjok h4
            have hmo1 := am_ev_mo d j as hp _ h4
            cases o with
            | inl v =>
              have hmo := am_run_mo (fun j as h r he => am_ev_mo d j as h r he) n _ r h5
              exact am_call_ok M hok hpc hrok h1 h2 h3 hls hMet hmo1 ⟨Nat.le_trans hmo.1 hr.1, Nat.le_trans hmo.2 hr.2⟩ hA (fun H1 locs1 cells1 slots1 hA1 => ih (pc + 3, L, v.toList ++ st', h', w || w') r h5 hr H1 locs1 cells1 slots1 ls hA1 hL hLl)
            | inr a =>
              obtain ⟨cc, t, b1, b2, b3, b4⟩ := h5
              have hmo := am_run_mo (fun j as h r he => am_ev_mo d j as h r he) n _ r b4
              obtain ⟨cx, c1, c2, rfl, rfl, rfl⟩ := am_ev_thr h4
              have ecx : cc = cx := by
                have e8 : (hp ++ [Sum.inl (cx, [])] : am_H)[hp.length]? = some (.inl (cx, [])) := by simp
                rw [e8] at b2
                simp only [Option.some.injEq, Sum.inl.injEq, Prod.mk.injEq, and_true] at b2
                exact b2.symm
              subst ecx
              have hne : am_hd k ≠ [] := fun hn => by rw [hn] at b3; cases b3
              exact am_caught_ok XC M hmc hxt (hhk.2.2.2 hne) hhk.2.2.1 hok hpc hrok h1 b1 h2 h3 hls ⟨c1, c2⟩ hMet b3 ⟨Nat.le_trans hmo.1 hr.1, Nat.le_trans hmo.2 hr.2⟩ hA (fun H1 locs1 cells1 slots1 hA1 => ih (t, L, [.ref hp.length], hp ++ [.inl (cc, [])], w || false) r b4 hr H1 locs1 cells1 slots1 ls hA1 hL hLl)
end AMV
