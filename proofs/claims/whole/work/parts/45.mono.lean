/-! The abstract machine's heap only grows. -/
def am_mo (h g : am_H) : Prop := h.length ≤ g.length ∧ am_sz h ≤ am_sz g
theorem am_mo.rf (h : am_H) : am_mo h h := ⟨Nat.le_refl _, Nat.le_refl _⟩
theorem am_mo.tr {h g f : am_H} (a : am_mo h g) (b : am_mo g f) : am_mo h f := ⟨Nat.le_trans a.1 b.1, Nat.le_trans a.2 b.2⟩
theorem am_mo.st {h : am_H} {i : Nat} {c d : am_C} (hi : h[i]? = some c) (hc : am_cz d = am_cz c) : am_mo h (h.set i d) := ⟨by rw [List.length_set]; exact Nat.le_refl _, by rw [am_sz_set hi hc]; exact Nat.le_refl _⟩
theorem am_mo.nw (h : am_H) (c : am_C) : am_mo h (h ++ [c]) := ⟨by rw [List.length_append]; exact Nat.le_add_right _ _, by rw [am_sz_app]; exact Nat.le_add_right _ _⟩
theorem am_sE_mo {sc : am_S} {k x y : Nat} {I : Instr} {st r : List Value} {h g : am_H} {w u : Bool} {n : Nat} (hs : am_sE sc k x y I st h w = some (r, g, u, n)) : am_mo h g := by
  unfold am_sE at hs
  split at hs
  · split at hs
    · rename_i cf fs ha
      cases hq : Nat.beq cf x with
      | false => simp [hq] at hs
      | true =>
        simp only [hq, cond_true] at hs
        obtain ⟨v', hv, h2⟩ := Option.map_eq_some_iff.mp hs
        simp only [Prod.mk.injEq] at h2
        obtain ⟨-, rfl, -, -⟩ := h2
        exact am_mo.rf _
    · cases hs
  · rename_i i v' a r'
    split at hs
    · rename_i cf fs ha
      cases hq : (Nat.beq cf x && Nat.blt y fs.length && am_fit (am_ft x y) v' && (!(am_fin x y) || (am_ini k && Nat.beq (am_ow k) x))) with
      | false => simp [hq] at hs
      | true =>
        simp only [hq, cond_true, Option.some.injEq, Prod.mk.injEq] at hs
        obtain ⟨-, rfl, -, -⟩ := hs
        exact am_mo.st ha rfl
    · cases hs
  · cases hq : Nat.blt x 4 with
    | false => simp [hq] at hs
    | true =>
      simp only [hq, cond_true, Option.some.injEq, Prod.mk.injEq] at hs
      obtain ⟨-, rfl, -, -⟩ := hs
      exact am_mo.rf _
  · split at hs
    · split at hs
      · cases hs
      · simp only [Option.some.injEq, Prod.mk.injEq] at hs
        obtain ⟨-, rfl, -, -⟩ := hs
        exact am_mo.rf _
    · cases hs
  · split at hs
    · rename_i n' f' ha
      split at hs
      · cases hs
      · simp only [Option.some.injEq, Prod.mk.injEq] at hs
        obtain ⟨-, rfl, -, -⟩ := hs
        exact am_mo.st ha rfl
    · cases hs
  · split at hs
    · split at hs
      · cases hs
      · simp only [Option.some.injEq, Prod.mk.injEq] at hs
        obtain ⟨-, rfl, -, -⟩ := hs
        exact am_mo.rf _
    · cases hs
  · split at hs
    · rename_i n' f' ha
      split at hs
      · cases hs
      · simp only [Option.some.injEq, Prod.mk.injEq] at hs
        obtain ⟨-, rfl, -, -⟩ := hs
        exact am_mo.st ha rfl
    · cases hs
  · split at hs
    · simp only [Option.some.injEq, Prod.mk.injEq] at hs
      obtain ⟨-, rfl, -, -⟩ := hs
      exact am_mo.rf _
    · cases hs
  · split at hs
    · cases hs
    · simp only [Option.some.injEq, Prod.mk.injEq] at hs
      obtain ⟨-, rfl, -, -⟩ := hs
      exact am_mo.nw _ _
  · split at hs
    · cases hs
    · simp only [Option.some.injEq, Prod.mk.injEq] at hs
      obtain ⟨-, rfl, -, -⟩ := hs
      exact am_mo.nw _ _
  · cases hq : Nat.blt x 9 with
    | false => simp [hq] at hs
    | true =>
      simp only [hq, cond_true, Option.some.injEq, Prod.mk.injEq] at hs
      obtain ⟨-, rfl, -, -⟩ := hs
      exact am_mo.nw _ _
  · rename_i i a r'
    cases hq : (Nat.beq x 6 && Nat.ble (am_wt r') 8) with
    | false => simp [hq] at hs
    | true =>
      simp only [hq, cond_true, Option.some.injEq, Prod.mk.injEq] at hs
      obtain ⟨-, rfl, -, -⟩ := hs
      exact am_mo.rf _
  · rename_i i n' dp a1 sp a0 r'
    cases hq : (Nat.beq x 7 && Nat.ble (am_wt r') 8) with
    | false => simp [hq] at hs
    | true =>
      simp only [hq, cond_true] at hs
      split at hs
      · rename_i n0 f0 n1 f1 ha0 ha1
        split at hs
        · cases hs
        · simp only [Option.some.injEq, Prod.mk.injEq] at hs
          obtain ⟨-, rfl, -, -⟩ := hs
          exact am_mo.st ha1 rfl
      · cases hs
  · cases hs
/-- a plain step is of one of five kinds -/
theorem am_s_cases {sc : am_S} {k pc : Nat} {q : am_E} {L : am_L} {st : List Value} {h : am_H} {w : Bool} {g : am_F} (hs : am_s sc k q (pc, L, st, h, w) = some g) :
    (∃ v, am_sA q.2.2.2.1 q.2.2.2.2.2.2.1 q.2.1 L = some (v, q.2.2.1) ∧ g = (pc + q.2.2.1, L, v :: st, h, w)) ∨
    (∃ M r, am_sB q.2.1 L st = some (M, r, q.2.2.1) ∧ g = (pc + q.2.2.1, M, r, h, w)) ∨
    (∃ r, am_sC q.2.1 st = some r ∧ q.2.2.1 = 1 ∧ g = (pc + 1, L, r, h, w)) ∨
    (∃ t r, am_sD q.2.1 q.2.2.1 pc st = some (t, r) ∧ g = (t, L, r, h, w)) ∨
    (∃ r g' u, am_sE sc k q.2.2.2.1 q.2.2.2.2.1 q.2.1 st h w = some (r, g', u, q.2.2.1) ∧ g = (pc + q.2.2.1, L, r, g', u)) := by
  unfold am_s at hs
  simp only at hs
  split at hs
  · rename_i v n hv
    cases hn : Nat.beq n q.2.2.1 with
    | false => simp [hn] at hs
    | true =>
      simp only [hn, cond_true, Option.some.injEq] at hs
      have e := Nat.eq_of_beq_eq_true hn
      subst e
      exact Or.inl ⟨v, hv, hs.symm⟩
  · split at hs
    · rename_i M r n hv
      cases hn : Nat.beq n q.2.2.1 with
      | false => simp [hn] at hs
      | true =>
        simp only [hn, cond_true, Option.some.injEq] at hs
        have e := Nat.eq_of_beq_eq_true hn
        subst e
        exact Or.inr (Or.inl ⟨M, r, hv, hs.symm⟩)
    · split at hs
      · rename_i r hv
        cases hn : Nat.beq 1 q.2.2.1 with
        | false => simp [hn] at hs
        | true =>
          simp only [hn, cond_true, Option.some.injEq] at hs
          exact Or.inr (Or.inr (Or.inl ⟨r, hv, (Nat.eq_of_beq_eq_true hn).symm, hs.symm⟩))
      · split at hs
        · rename_i t r hv
          simp only [Option.some.injEq] at hs
          exact Or.inr (Or.inr (Or.inr (Or.inl ⟨t, r, hv, hs.symm⟩)))
        · split at hs
          · rename_i r g' u n hv
            cases hn : Nat.beq n q.2.2.1 with
            | false => simp [hn] at hs
            | true =>
              simp only [hn, cond_true, Option.some.injEq] at hs
              have e := Nat.eq_of_beq_eq_true hn
              subst e
              exact Or.inr (Or.inr (Or.inr (Or.inr ⟨r, g', u, hv, hs.symm⟩)))
          · cases hs
theorem am_s_mo {sc : am_S} {k : Nat} {q : am_E} {f g : am_F} (hs : am_s sc k q f = some g) : am_mo f.2.2.2.1 g.2.2.2.1 := by
  obtain ⟨pc, L, st, h, w⟩ := f
  rcases am_s_cases hs with ⟨v, -, rfl⟩ | ⟨M, r, -, rfl⟩ | ⟨r, -, -, rfl⟩ | ⟨t, r, -, rfl⟩ | ⟨r, g', u, he, rfl⟩
  · exact am_mo.rf _
  · exact am_mo.rf _
  · exact am_mo.rf _
  · exact am_mo.rf _
  · exact am_sE_mo he
theorem am_run_mo {sc : am_S} {d : Nat} {E : Nat → List Value → am_H → am_R → Prop} {k : Nat} {h0 : am_H} (hE : ∀ j as h r, E j as h r → am_mo h r.2.1) : ∀ (n : Nat) (f : am_F) (r : am_R), am_run sc d E k h0 n f r → am_mo f.2.2.2.1 r.2.1 := by
  intro n
  induction n with
  | zero => intro f r h; exact h.elim
  | succ n ih =>
    intro f r h
    rcases h with ⟨M, hM, h⟩ | h
    · exact ih (f.1, M, f.2.2) r h
    · cases ho : am_op k f.1 with
      | none => simp [ho] at h
      | some q =>
        simp only [ho] at h
        cases hs : am_s sc k q f with
        | some g => simp only [hs] at h; exact (am_s_mo hs).tr (ih g r h)
        | none =>
          simp only [hs] at h
          rcases h with h | h | ⟨j, as, st, o, h', w, h1, h2, h3, h4, h5⟩
          · rw [h.2.1]; exact am_mo.rf _
          · unfold am_thr at h
            split at h
            · obtain ⟨-, -, -, -, -, -, -, a1, -, a2⟩ := h
              rw [a2, a1]
              exact am_mo.nw _ _
            · exact h.elim
          · refine (hE _ _ _ _ h4).tr ?_
            cases o with
            | inl v => exact ih _ r h5
            | inr a =>
              obtain ⟨c, t, b1, b2, b3, b4⟩ := h5
              exact ih _ r b4
theorem am_ev_mo {sc : am_S} : ∀ (d k : Nat) (as : List Value) (h : am_H) (r : am_R), am_ev sc d k as h r → am_mo h r.2.1 := by
  intro d
  induction d with
  | zero => intro k as h r he; exact he.elim
  | succ d ih =>
    intro k as h r ⟨ha, b, n, hn⟩
    exact am_run_mo ih n _ r hn
