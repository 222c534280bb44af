/-! rows of the abstract machine: a stretch of plain steps at once; a branch; a read or store by a number that is in range; a call; the end -/
def am_steps (sc : am_S) (k : Nat) (cd : List am_E) : Nat → am_F → Option am_F
  | 0, f => some f
  | n + 1, f => match am_find f.1 cd with
    | some q => match am_s sc k q f with
      | some g => am_steps sc k cd n g
      | none => none
    | none => none
def am_go (sc : am_S) (d : Nat) (E : Nat → List Value → am_H → am_R → Prop) (k : Nat) (h0 : am_H) (f : am_F) (r : am_R) : Prop := ∃ n, am_run sc d E k h0 n f r
/-- hypotheses about a program that may stop short -/
theorem am_ng {C : Prop} [Decidable C] {α : Type} {K : Option α} {r : α} (h : (if C then none else K) = some r) : ¬ C ∧ K = some r := by
  by_cases hc : C
  · rw [if_pos hc] at h; cases h
  · rw [if_neg hc] at h; exact ⟨hc, h⟩
theorem am_bd {α β : Type} {o : Option α} {f : α → Option β} {r : β} (h : o.bind f = some r) : ∃ q, o = some q ∧ f q = some r := by
  cases o with
  | none => cases h
  | some q => exact ⟨q, rfl, h⟩
section AMR
variable {sc : am_S} {d : Nat} {E : Nat → List Value → am_H → am_R → Prop} {k : Nat} {h0 : am_H} {f g : am_F} {r : am_R} {cd : List am_E}
variable {pc : Nat} {L : am_L} {st : List Value} {h : am_H} {w : Bool}
theorem am_go.one {q : am_E} (ho : am_op k f.1 = some q) (hs : am_s sc k q f = some g) (h : am_go sc d E k h0 g r) : am_go sc d E k h0 f r := by
  obtain ⟨n, h⟩ := h
  refine ⟨n + 1, Or.inr ?_⟩
  simp only [ho, hs]
  exact h
theorem am_go.blk (hcd : am_code k = cd) (n : Nat) (hs : am_steps sc k cd n f = some g) (h : am_go sc d E k h0 g r) : am_go sc d E k h0 f r := by
  induction n generalizing f with
  | zero => simp only [am_steps, Option.some.injEq] at hs; exact hs ▸ h
  | succ n ih =>
    simp only [am_steps] at hs
    cases ho : am_find f.1 cd with
    | none => simp [ho] at hs
    | some q =>
      cases hq : am_s sc k q f with
      | none => simp [ho, hq] at hs
      | some f' =>
        simp only [ho, hq] at hs
        exact am_go.one (by unfold am_op; rw [hcd]; exact ho) hq (ih hs)
/-- some locals are forgotten -/
theorem am_go.fg (M : am_L) (hm : am_fg f.2.1 M) (h : am_go sc d E k h0 (f.1, M, f.2.2) r) : am_go sc d E k h0 f r := by
  obtain ⟨n, h⟩ := h
  exact ⟨n + 1, Or.inl ⟨M, hm, h⟩⟩
/-- a branch -/
theorem am_go.br {P : Prop} [Decidable P] {t u : Nat} (ht : P → am_go sc d E k h0 (t, L, st, h, w) r) (hu : ¬ P → am_go sc d E k h0 (u, L, st, h, w) r) : am_go sc d E k h0 (bif decide P then t else u, L, st, h, w) r := by
  by_cases hP : P
  · simp only [hP, decide_true, cond_true]; exact ht hP
  · simp only [hP, decide_false, cond_false]; exact hu hP
/-- the end -/
theorem am_go.ret {q : am_E} (hcd : am_code k = cd) (ho : am_find f.1 cd = some q) (hs : am_s sc k q f = none) (he : am_end k q f r) : am_go sc d E k h0 f r := by
  refine ⟨1, Or.inr ?_⟩
  have ho' : am_op k f.1 = some q := by unfold am_op; rw [hcd]; exact ho
  simp only [ho', hs]
  exact Or.inl he
/-- a throw -/
theorem am_go.thr {q : am_E} (hcd : am_code k = cd) (ho : am_find f.1 cd = some q) (hs : am_s sc k q f = none) (he : am_thr d k q h0 f r) : am_go sc d E k h0 f r := by
  refine ⟨1, Or.inr ?_⟩
  have ho' : am_op k f.1 = some q := by unfold am_op; rw [hcd]; exact ho
  simp only [ho', hs]
  exact Or.inr (Or.inl he)
/-- a call that comes back -/
theorem am_go.call {q : am_E} {j : Nat} {as st' : List Value} {v : Option Value} {h' : am_H} {w' : Bool} (hcd : am_code k = cd) (ho : am_find pc cd = some q) (hs : am_s sc k q (pc, L, st, h, w) = none) (hl : q.2.2.1 = 3) (hc : am_call q st h = some (j, as, st')) (hw : am_wt st' ≤ 8) (he : E j as h (.inl v, h', w')) (hg : am_go sc d E k h0 (pc + 3, L, v.toList ++ st', h', w || w') r) : am_go sc d E k h0 (pc, L, st, h, w) r := by
  obtain ⟨n, hg⟩ := hg
  refine ⟨n + 1, Or.inr ?_⟩
  have ho' : am_op k (pc, L, st, h, w).1 = some q := by unfold am_op; rw [hcd]; exact ho
  simp only [ho', hs]
  exact Or.inr (Or.inr ⟨j, as, st', .inl v, h', w', hl, hc, hw, he, hg⟩)
/-- a call that throws, caught here -/
theorem am_go.caught {q : am_E} {j : Nat} {as st' : List Value} {a c t : Nat} {h' : am_H} {w' : Bool} (hcd : am_code k = cd) (ho : am_find pc cd = some q) (hs : am_s sc k q (pc, L, st, h, w) = none) (hl : q.2.2.1 = 3) (hx : q.2.2.2.1 = 1) (hc : am_call q st h = some (j, as, st')) (hw : am_wt st' ≤ 8) (he : E j as h (.inr a, h', w')) (ha : h'[a]? = some (.inl (c, []))) (ht : am_ct pc c (am_hd k) = some t) (hg : am_go sc d E k h0 (t, L, [.ref a], h', w || w') r) : am_go sc d E k h0 (pc, L, st, h, w) r := by
  obtain ⟨n, hg⟩ := hg
  refine ⟨n + 1, Or.inr ?_⟩
  have ho' : am_op k (pc, L, st, h, w).1 = some q := by unfold am_op; rw [hcd]; exact ho
  simp only [ho', hs]
  exact Or.inr (Or.inr ⟨j, as, st', .inr a, h', w', hl, hc, hw, he, c, t, hx, ha, ht, hg⟩)
/-- steps that may not be taken everywhere -/
theorem am_go.iald {x y z wi n : Nat} {u : Int} {v : Value} {F : Nat → Int32} {i : Int32} (hcd : am_code k = cd) (ho : am_find pc cd = some (pc, .iaload, 1, x, y, z, u, wi)) (ha : am_ia sc h v = some (n, F)) (hi : ¬ (i < 0 ∨ n ≤ i.toNatClampNeg)) (hg : am_go sc d E k h0 (pc + 1, L, .int (F i.toNatClampNeg) :: st, h, w) r) : am_go sc d E k h0 (pc, L, .int i :: v :: st, h, w) r := by
  refine am_go.one (q := (pc, .iaload, 1, x, y, z, u, wi)) (by unfold am_op; rw [hcd]; exact ho) ?_ hg
  simp only [am_s, am_sA, am_sB, am_sC, am_sD, am_sE, ha]
  rw [if_neg hi]
  rfl
theorem am_go.iast {x y z wi a n : Nat} {u : Int} {F : Nat → Int32} {i e : Int32} (hcd : am_code k = cd) (ho : am_find pc cd = some (pc, .iastore, 1, x, y, z, u, wi)) (ha : h[a]? = some (.inr (.inl (n, F)))) (hi : ¬ (i < 0 ∨ n ≤ i.toNatClampNeg)) (hg : am_go sc d E k h0 (pc + 1, L, st, h.set a (.inr (.inl (n, upd F i.toNatClampNeg e))), true) r) : am_go sc d E k h0 (pc, L, .int e :: .int i :: .ref a :: st, h, w) r := by
  refine am_go.one (q := (pc, .iastore, 1, x, y, z, u, wi)) (by unfold am_op; rw [hcd]; exact ho) ?_ hg
  simp only [am_s, am_sA, am_sB, am_sC, am_sD, am_sE, ha]
  rw [if_neg hi]
  rfl
theorem am_go.lald {x y z wi a n : Nat} {u : Int} {F : Nat → Int64} {i : Int32} (hcd : am_code k = cd) (ho : am_find pc cd = some (pc, .laload, 1, x, y, z, u, wi)) (ha : h[a]? = some (.inr (.inr (n, F)))) (hi : ¬ (i < 0 ∨ n ≤ i.toNatClampNeg)) (hg : am_go sc d E k h0 (pc + 1, L, .long (F i.toNatClampNeg) :: st, h, w) r) : am_go sc d E k h0 (pc, L, .int i :: .ref a :: st, h, w) r := by
  refine am_go.one (q := (pc, .laload, 1, x, y, z, u, wi)) (by unfold am_op; rw [hcd]; exact ho) ?_ hg
  simp only [am_s, am_sA, am_sB, am_sC, am_sD, am_sE, ha]
  rw [if_neg hi]
  rfl
theorem am_go.last {x y z wi a n : Nat} {u : Int} {F : Nat → Int64} {i : Int32} {e : Int64} (hcd : am_code k = cd) (ho : am_find pc cd = some (pc, .lastore, 1, x, y, z, u, wi)) (ha : h[a]? = some (.inr (.inr (n, F)))) (hi : ¬ (i < 0 ∨ n ≤ i.toNatClampNeg)) (hg : am_go sc d E k h0 (pc + 1, L, st, h.set a (.inr (.inr (n, vp_updL F i.toNatClampNeg e))), true) r) : am_go sc d E k h0 (pc, L, .long e :: .int i :: .ref a :: st, h, w) r := by
  refine am_go.one (q := (pc, .lastore, 1, x, y, z, u, wi)) (by unfold am_op; rw [hcd]; exact ho) ?_ hg
  simp only [am_s, am_sA, am_sB, am_sC, am_sD, am_sE, ha]
  rw [if_neg hi]
  rfl
theorem am_go.idv {x y z wi : Nat} {u : Int} {i e : Int32} (hcd : am_code k = cd) (ho : am_find pc cd = some (pc, .idiv, 1, x, y, z, u, wi)) (hi : ¬ e = 0) (hg : am_go sc d E k h0 (pc + 1, L, .int (i / e) :: st, h, w) r) : am_go sc d E k h0 (pc, L, .int e :: .int i :: st, h, w) r := by
  refine am_go.one (q := (pc, .idiv, 1, x, y, z, u, wi)) (by unfold am_op; rw [hcd]; exact ho) ?_ hg
  simp only [am_s, am_sA, am_sB, am_sC]
  rw [if_neg hi]
  rfl
theorem am_go.irm {x y z wi : Nat} {u : Int} {i e : Int32} (hcd : am_code k = cd) (ho : am_find pc cd = some (pc, .irem, 1, x, y, z, u, wi)) (hi : ¬ e = 0) (hg : am_go sc d E k h0 (pc + 1, L, .int (i - i / e * e) :: st, h, w) r) : am_go sc d E k h0 (pc, L, .int e :: .int i :: st, h, w) r := by
  refine am_go.one (q := (pc, .irem, 1, x, y, z, u, wi)) (by unfold am_op; rw [hcd]; exact ho) ?_ hg
  simp only [am_s, am_sA, am_sB, am_sC]
  rw [if_neg hi]
  rfl
theorem am_go.ldv {x y z wi : Nat} {u : Int} {i e : Int64} (hcd : am_code k = cd) (ho : am_find pc cd = some (pc, .ldiv, 1, x, y, z, u, wi)) (hi : ¬ e = 0) (hg : am_go sc d E k h0 (pc + 1, L, .long (i / e) :: st, h, w) r) : am_go sc d E k h0 (pc, L, .long e :: .long i :: st, h, w) r := by
  refine am_go.one (q := (pc, .ldiv, 1, x, y, z, u, wi)) (by unfold am_op; rw [hcd]; exact ho) ?_ hg
  simp only [am_s, am_sA, am_sB, am_sC]
  rw [if_neg hi]
  rfl
theorem am_go.lrm {x y z wi : Nat} {u : Int} {i e : Int64} (hcd : am_code k = cd) (ho : am_find pc cd = some (pc, .lrem, 1, x, y, z, u, wi)) (hi : ¬ e = 0) (hg : am_go sc d E k h0 (pc + 1, L, .long (i - i / e * e) :: st, h, w) r) : am_go sc d E k h0 (pc, L, .long e :: .long i :: st, h, w) r := by
  refine am_go.one (q := (pc, .lrem, 1, x, y, z, u, wi)) (by unfold am_op; rw [hcd]; exact ho) ?_ hg
  simp only [am_s, am_sA, am_sB, am_sC]
  rw [if_neg hi]
  rfl
/-- a field that is true or false -/
theorem am_go.putb {x y z wi a i : Nat} {u : Int} {fs : List Value} {e : Int32} (hcd : am_code k = cd) (ho : am_find pc cd = some (pc, .putfield i, 3, x, y, z, u, wi)) (ha : h[a]? = some (.inl (x, fs))) (hl : Nat.blt y fs.length = true) (ht : am_ft x y = .boolean) (hf : am_fin x y = false) (he : ¬ ¬ (e = 0 ∨ e = 1)) (hg : am_go sc d E k h0 (pc + 3, L, st, h.set a (.inl (x, fs.set y (.int e))), true) r) : am_go sc d E k h0 (pc, L, .int e :: .ref a :: st, h, w) r := by
  refine am_go.one (q := (pc, .putfield i, 3, x, y, z, u, wi)) (by unfold am_op; rw [hcd]; exact ho) ?_ hg
  have hx : Nat.beq x x = true := Nat.beq_refl x
  have hfit : am_fit .boolean (.int e) = true := by
    rcases Classical.not_not.mp he with rfl | rfl <;> rfl
  simp only [am_s, am_sA, am_sB, am_sC, am_sD, am_sE, ha, hx, hl, ht, hf, hfit]
  rfl
/-- switches -/
theorem am_go.tsO {x y z wi t ln : Nat} {u d' lo hi : Int} {offs : Array Int} {i : Int32} (hcd : am_code k = cd) (ho : am_find pc cd = some (pc, .tableswitch d' lo hi offs, ln, x, y, z, u, wi)) (hi' : i.toInt < lo ∨ hi < i.toInt) (ht : am_tg pc d' = some t) (hg : am_go sc d E k h0 (t, L, st, h, w) r) : am_go sc d E k h0 (pc, L, .int i :: st, h, w) r := by
  refine am_go.one (q := (pc, .tableswitch d' lo hi offs, ln, x, y, z, u, wi)) (by unfold am_op; rw [hcd]; exact ho) ?_ hg
  simp only [am_s, am_sA, am_sB, am_sC, am_sD]
  rw [if_pos hi', ht]
  rfl
theorem am_go.tsI {x y z wi t ln : Nat} {u d' lo hi o : Int} {offs : Array Int} {i c : Int32} (hcd : am_code k = cd) (ho : am_find pc cd = some (pc, .tableswitch d' lo hi offs, ln, x, y, z, u, wi)) (hi' : i = c) (hc : ¬ (c.toInt < lo ∨ hi < c.toInt)) (hof : offs[(c.toInt - lo).toNat]? = some o) (ht : am_tg pc o = some t) (hg : am_go sc d E k h0 (t, L, st, h, w) r) : am_go sc d E k h0 (pc, L, .int i :: st, h, w) r := by
  subst hi'
  refine am_go.one (q := (pc, .tableswitch d' lo hi offs, ln, x, y, z, u, wi)) (by unfold am_op; rw [hcd]; exact ho) ?_ hg
  simp only [am_s, am_sA, am_sB, am_sC, am_sD]
  rw [if_neg hc, hof]
  simp only [ht]
  rfl
theorem am_go.lsw {x y z wi t ln : Nat} {u d' o : Int} {ps : Array (Int × Int)} {i : Int32} (hcd : am_code k = cd) (ho : am_find pc cd = some (pc, .lookupswitch d' ps, ln, x, y, z, u, wi)) (hof : Op.lookupswitch.offset ps.toList d' i.toInt = o) (ht : am_tg pc o = some t) (hg : am_go sc d E k h0 (t, L, st, h, w) r) : am_go sc d E k h0 (pc, L, .int i :: st, h, w) r := by
  refine am_go.one (q := (pc, .lookupswitch d' ps, ln, x, y, z, u, wi)) (by unfold am_op; rw [hcd]; exact ho) ?_ hg
  simp only [am_s, am_sA, am_sB, am_sC, am_sD]
  rw [hof, ht]
  rfl
/-- the copy of rows -/
theorem am_go.acpy {y z wi ix a0 a1 n0 n1 : Nat} {u : Int} {F G : Nat → Int32} {sp dp e : Int32} (hcd : am_code k = cd) (ho : am_find pc cd = some (pc, .invokestatic ix, 3, 7, y, z, u, wi)) (ha0 : h[a0]? = some (.inr (.inl (n0, F)))) (ha1 : h[a1]? = some (.inr (.inl (n1, G)))) (hi : ¬ (sp < 0 ∨ dp < 0 ∨ e < 0 ∨ n0 < sp.toNatClampNeg + e.toNatClampNeg ∨ n1 < dp.toNatClampNeg + e.toNatClampNeg ∨ a0 = a1)) (hw8 : Nat.ble (am_wt st) 8 = true) (hg : am_go sc d E k h0 (pc + 3, L, st, h.set a1 (.inr (.inl (n1, va_cpy F G sp.toNatClampNeg dp.toNatClampNeg e.toNatClampNeg))), true) r) : am_go sc d E k h0 (pc, L, .int e :: .int dp :: .ref a1 :: .int sp :: .ref a0 :: st, h, w) r := by
  refine am_go.one (q := (pc, .invokestatic ix, 3, 7, y, z, u, wi)) (by unfold am_op; rw [hcd]; exact ho) ?_ hg
  simp only [am_s, am_sA, am_sB, am_sC, am_sD, am_sE, ha0, ha1, hw8]
  rw [if_neg hi]
  rfl
end AMR
theorem am_ev.of {sc : am_S} {d k : Nat} {as : List Value} {h : am_H} {r : am_R} (b : Bool) (ha : am_asok k as = true) (hg : am_go sc (d + 1) (am_ev sc d) k h (0, am_ent k as, [], h, b) r) : am_ev sc (d + 1) k as h r := ⟨ha, b, hg⟩
/-- deeper is no harm -/
theorem am_run.mono {sc : am_S} {d : Nat} {E E' : Nat → List Value → am_H → am_R → Prop} {k : Nat} {h0 : am_H} (hE : ∀ j as h r, E j as h r → E' j as h r) : ∀ (n : Nat) (f : am_F) (r : am_R), am_run sc d E k h0 n f r → am_run sc (d + 1) E' k h0 n f r := by
  intro n
  induction n with
  | zero => intro f r h; exact h
  | succ n ih =>
    intro f r h
    rcases h with ⟨M, hM, h⟩ | h
    · exact Or.inl ⟨M, hM, ih _ r h⟩
    · refine Or.inr ?_
      cases ho : am_op k f.1 with
      | none => simp [ho] at h
      | some q =>
        simp only [ho] at h ⊢
        cases hs : am_s sc k q f with
        | some g => simp only [hs] at h ⊢; exact ih g r h
        | none =>
          simp only [hs] at h ⊢
          rcases h with h | h | ⟨j, as, st, o, h', w, h1, h2, h3, h4, h5⟩
          · exact Or.inl h
          · refine Or.inr (Or.inl ?_)
            unfold am_thr at h ⊢
            split at h
            · obtain ⟨a1, a2, a3⟩ := h
              exact ⟨a1, Nat.le_succ_of_le a2, a3⟩
            · exact h
          · refine Or.inr (Or.inr ⟨j, as, st, o, h', w, h1, h2, h3, hE _ _ _ _ h4, ?_⟩)
            cases o with
            | inl v => exact ih _ r h5
            | inr a =>
              obtain ⟨c, t, b1, b2, b3, b4⟩ := h5
              exact ⟨c, t, b1, b2, b3, ih _ r b4⟩
theorem am_ev.succ {sc : am_S} : ∀ (d k : Nat) (as : List Value) (h : am_H) (r : am_R), am_ev sc d k as h r → am_ev sc (d + 1) k as h r := by
  intro d
  induction d with
  | zero => intro k as h r he; exact he.elim
  | succ d ih =>
    intro k as h r ⟨ha, b, n, hn⟩
    exact ⟨ha, b, n, am_run.mono (fun j as h r he => ih j as h r he) n _ r hn⟩
theorem am_ev.le {sc : am_S} {d d' k : Nat} {as : List Value} {h : am_H} {r : am_R} (hd : d ≤ d') (he : am_ev sc d k as h r) : am_ev sc d' k as h r := by
  induction hd with
  | refl => exact he
  | step _ ih => exact am_ev.succ _ _ _ _ _ ih
