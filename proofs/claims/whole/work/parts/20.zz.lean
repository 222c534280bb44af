/-! The pure state (printed by wip/gen/genF.py): the numbers and rows of the class's objects, and of the reference's, and the heaps that they stand for. -/
abbrev am_Z : Type := (Nat → Int32) × (Nat → Int64) × (Nat → Nat → Int32)
def zz_u {α : Type} (f : Nat → α) (i : Nat) (v : α) : Nat → α := fun j => bif Nat.beq j i then v else f j
def zz_i (s : am_Z) (i : Nat) (v : Int32) : am_Z := (zz_u s.1 i v, s.2)
def zz_l (s : am_Z) (i : Nat) (v : Int64) : am_Z := (s.1, zz_u s.2.1 i v, s.2.2)
def zz_r (s : am_Z) (i : Nat) (v : Nat → Int32) : am_Z := (s.1, s.2.1, zz_u s.2.2 i v)
def zz_C (s : am_Z) : am_H := [
  .inl (7, [.ref 1, .ref 3, .ref 5, .ref 10, .int (s.1 0)]),
  .inl (4, [.ref 2, .int (s.1 1), .int (s.1 2)]),
  .inr (.inl (64, s.2.2 0)),
  .inl (0, [.ref 4, .int (s.1 3)]),
  .inr (.inl (400, s.2.2 1)),
  .inl (6, [.ref 1, .ref 3, .ref 6, .ref 7, .ref 8, .ref 9]),
  .inl (1, [.int (s.1 4), .int (s.1 5), .int (s.1 6), .int (s.1 7)]),
  .inl (5, [.int (s.1 8), .int (s.1 9)]),
  .inl (2, [.int (s.1 10), .int (s.1 11), .int (s.1 12), .int (s.1 13)]),
  .inr (.inl (16, s.2.2 2)),
  .inl (3, [.ref 3, .ref 11, .ref 13, .ref 14, .ref 15, .int (s.1 14), .long (s.2.1 0), .int (s.1 15), .int (s.1 16), .int (s.1 17), .int (s.1 18), .int (s.1 19)]),
  .inl (4, [.ref 12, .int (s.1 20), .int (s.1 21)]),
  .inr (.inl (64, s.2.2 3)),
  .inl (1, [.int (s.1 22), .int (s.1 23), .int (s.1 24), .int (s.1 25)]),
  .inl (5, [.int (s.1 26), .int (s.1 27)]),
  .inl (2, [.int (s.1 28), .int (s.1 29), .int (s.1 30), .int (s.1 31)])]
def zz_M (s : am_Z) : am_H := [
  .inl (8, [.int (s.1 0), .int (s.1 1), .ref 17, .int (s.1 3), .int (s.1 4), .ref 18, .int (s.1 6), .int (s.1 7), .int (s.1 8), .ref 19, .int (s.1 10), .int (s.1 11), .int (s.1 12), .int (s.1 13), .int (s.1 14), .int (s.1 15), .int (s.1 16), .int (s.1 17), .int (s.1 18), .int (s.1 19), .int (s.1 20), .ref 20]),
  .inr (.inl (64, s.2.2 0)),
  .inr (.inl (400, s.2.2 1)),
  .inr (.inl (64, s.2.2 2)),
  .inr (.inl (16, s.2.2 3))]
abbrev zz_hC (s : am_Z) (t : am_H) : am_H := zz_C s ++ t
abbrev zz_hM (c s : am_Z) (t : am_H) : am_H := zz_C c ++ (zz_M s ++ t)
abbrev zz_hL (s m : am_Z) (o : Nat → Int64) (t : am_H) : am_H := zz_C s ++ (zz_M m ++ (.inr (.inr (1, o)) :: t))
def zz_el {α β : Type} (f : Nat → β) (g : α → β) : Nat ⊕ α → β
  | .inl c => f c
  | .inr p => g p
abbrev fz_fu : Nat := 1000
def am_fgl : am_L → am_L → Prop
  | [], [] => True
  | _ :: L, none :: M => am_fgl L M
  | a :: L, some v :: M => a = some v ∧ am_fgl L M
  | _, _ => False
theorem am_fgl_fg : ∀ L M : am_L, am_fgl L M → am_fg L M := by
  intro L
  induction L with
  | nil =>
    intro M h
    cases M with
    | nil => exact ⟨rfl, fun i v h => by cases i <;> cases h⟩
    | cons b M => cases b <;> exact h.elim
  | cons a L ih =>
    intro M h
    cases M with
    | nil => exact h.elim
    | cons b M =>
      cases b with
      | none =>
        obtain ⟨h1, h2⟩ := ih M h
        refine ⟨by simp [h1], fun i v hi => ?_⟩
        cases i with
        | zero => cases hi
        | succ i => exact h2 i v hi
      | some u =>
        have h0 := h.1
        obtain ⟨h1, h2⟩ := ih M h.2
        refine ⟨by simp [h1], fun i v hi => ?_⟩
        cases i with
        | zero => rw [← hi, h0]; rfl
        | succ i => exact h2 i v hi
theorem am_go.fgl {sc : am_S} {d : Nat} {E : Nat → List Value → am_H → am_R → Prop} {k : Nat} {h0 : am_H} {r : am_R} {pc : Nat} {L : am_L} {x : List Value × am_H × Bool} (M : am_L) (hm : am_fgl L M) (h : am_go sc d E k h0 (pc, M, x) r) : am_go sc d E k h0 (pc, L, x) r := am_go.fg M (am_fgl_fg L M hm) h
theorem am_le8 {l : List Value} (h : Nat.ble (am_wt l) 8 = true) : am_wt l ≤ 8 := Nat.le_of_ble_eq_true h
theorem zz_ex (h : am_H) (x : am_C) : (h ++ [x])[h.length]? = some x := by simp
