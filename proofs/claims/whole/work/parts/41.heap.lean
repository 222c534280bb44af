/-! The abstract machine is sound, 2: what an abstract heap stands for; the steps that read, write and make cells. -/
def am_tr (b0 : Nat) (od : Nat → Nat) (cI cJ : ClassId) : am_C → va_E
  | .inl (c, fs) => .inr (c, fs.map (am_g b0 od))
  | .inr (.inl (n, f)) => .inl (cI, n, .inl f)
  | .inr (.inr (n, f)) => .inl (cJ, n, .inr (.inl f))
def am_w (b0 : Nat) (od : Nat → Nat) (cI cJ : ClassId) (h : am_H) : va_W := h.mapIdx (fun i c => (b0 + i, am_tr b0 od cI cJ c))
theorem am_w_get {b0 : Nat} {od : Nat → Nat} {cI cJ : ClassId} (h : am_H) (i : Nat) : (am_w b0 od cI cJ h)[i]? = (h[i]?).map (fun c => (b0 + i, am_tr b0 od cI cJ c)) := by
  simp [am_w, List.getElem?_mapIdx]
theorem am_w_at {b0 : Nat} {od : Nat → Nat} {cI cJ : ClassId} {h : am_H} {i : Nat} {c : am_C} (hi : h[i]? = some c) : (am_w b0 od cI cJ h)[i]? = some (b0 + i, am_tr b0 od cI cJ c) := by
  rw [am_w_get, hi]; rfl
theorem am_w_set {b0 : Nat} {od : Nat → Nat} {cI cJ : ClassId} (h : am_H) (i : Nat) (c : am_C) : (am_w b0 od cI cJ h).set i (b0 + i, am_tr b0 od cI cJ c) = am_w b0 od cI cJ (h.set i c) := by
  apply List.ext_getElem?
  intro j
  rw [am_w_get]
  by_cases hj : i = j
  · subst hj
    rw [List.getElem?_set, List.getElem?_set]
    simp only [if_true]
    have hl : (am_w b0 od cI cJ h).length = h.length := by simp [am_w]
    rw [hl]
    split <;> rfl
  · rw [List.getElem?_set_ne hj, List.getElem?_set_ne hj, am_w_get]
theorem am_w_app {b0 : Nat} {od : Nat → Nat} {cI cJ : ClassId} (h : am_H) (c : am_C) : am_w b0 od cI cJ (h ++ [c]) = am_w b0 od cI cJ h ++ [(b0 + h.length, am_tr b0 od cI cJ c)] := by
  simp [am_w, List.mapIdx_concat]
theorem am_w_D {b0 : Nat} {od : Nat → Nat} {cI cJ : ClassId} (h : am_H) : va_D (fun q => b0 ≤ q) (am_w b0 od cI cJ h) := by
  have key : ∀ (k : Nat) (q : Nat × va_E), (am_w b0 od cI cJ h)[k]? = some q → q.1 = b0 + k := by
    intro k q hk
    rw [am_w_get] at hk
    obtain ⟨c, -, h2⟩ := Option.map_eq_some_iff.mp hk
    rw [← h2]
  refine ⟨fun i j p q hi hj hpq => ?_, fun k q hk => ?_⟩
  · have h1 := key i p hi
    have h2 := key j q hj
    omega
  · have h1 := key k q hk
    show b0 ≤ q.1
    omega
def am_cz : am_C → Nat
  | .inl (c, _) => am_ns c
  | .inr (.inl (n, _)) => n
  | .inr (.inr (n, _)) => n
def am_sz (h : am_H) : Nat := (h.map am_cz).sum
theorem am_sz_app (h : am_H) (c : am_C) : am_sz (h ++ [c]) = am_sz h + am_cz c := by simp [am_sz]
theorem am_sz_set {h : am_H} {i : Nat} {c d : am_C} (hi : h[i]? = some c) (hc : am_cz d = am_cz c) : am_sz (h.set i d) = am_sz h := by
  have e : (h.set i d).map am_cz = h.map am_cz := by
    apply List.ext_getElem?
    intro j
    simp only [List.getElem?_map]
    by_cases hj : i = j
    · subst hj
      rw [List.getElem?_set_self (List.getElem?_eq_some_iff.mp hi).1, hi]
      simp [hc]
    · rw [List.getElem?_set_ne hj]
  simp only [am_sz, e]
/-- what is known of the start of all: the tables' words, the classes, the constant rows, the script -/
def am_ctx (l : Launch) (s0 : State) (A0 : Array Value) (D : va_G) (cI cJ : ClassId) (od : Nat → Nat) (sc : am_S) : Prop :=
  (∀ w ∈ lw_tbl, w.before A0 s0 = true) ∧ va_K D am_cl [(cI, .int), (cJ, .long)] s0 ∧
  (∀ t, t < 4 → va_Z "SoundShelf" (am_tn t) "[I" (.ref (od t)) (fun q => s0.heap.size ≤ q) s0 s0.heap ∧ ∃ (n : Nat) (f : Nat → Int32), am_tb[t]? = some (n, f) ∧ va_T .int (od t) n (fun j => .int (f j)) (fun q => s0.heap.size ≤ q) s0 s0.heap) ∧
  va_X (od 4) sc.1 sc.2 s0 s0.heap ∧ od 4 < s0.heap.size ∧ l.flags = flags0 ∧ (Jvm.Cond.and given_1 narrow_1).before A0 s0 = true
/-- the heap of a state is an abstract heap's; what was there at the start of all is as it was -/
def am_I (s0 : State) (D : va_G) (cI cJ : ClassId) (od : Nat → Nat) (h : am_H) (U : State) : Prop :=
  s0.WarmedH U.vm ∧ U.heap.size = s0.heap.size + h.length ∧ (∀ q, q < s0.heap.size → U.heap[q]? = s0.heap[q]?) ∧ va_P D am_cl (am_w s0.heap.size od cI cJ h) U.heap
/-- a point of a method's walk -/
def am_at (s0 s : State) (D : va_G) (cI cJ : ClassId) (od : Nat → Nat) (h0 h : am_H) (w : Bool) (H : Heap) (locs : List Loc) (cells slots : Nat) : Prop :=
  H.size = s0.heap.size + h.length ∧ va_P D am_cl (am_w s0.heap.size od cI cJ h) H ∧ va_S (fun q => s0.heap.size ≤ q) s.heap H locs ∧ (w = false → locs = []) ∧ cells + h0.length = h.length ∧ slots + am_sz h0 = am_sz h
section AMH
variable {l : Launch} {s0 : State} {A0 : Array Value} {D : va_G} {cI cJ : ClassId} {od : Nat → Nat} {sc : am_S} {h0 : am_H} {s : State} {args : Array Value}
theorem am_wd (C : am_ctx l s0 A0 D cI cJ od sc) (I : am_I s0 D cI cJ od h0 s) {w : Jvm.Cond} (hw : w ∈ lw_tbl) (hg : goodWord w = true) : w.before args s = true := word_at I.1 (good_of_word hg) (C.1 w hw)
theorem am_wK (C : am_ctx l s0 A0 D cI cJ od sc) (I : am_I s0 D cI cJ od h0 s) : va_K D am_cl [(cI, .int), (cJ, .long)] s := va_K.moved I.1.alike C.2.1
theorem am_wZ (C : am_ctx l s0 A0 D cI cJ od sc) (I : am_I s0 D cI cJ od h0 s) {t : Nat} (ht : t < 4) : va_Z "SoundShelf" (am_tn t) "[I" (.ref (od t)) (fun q => s0.heap.size ≤ q) s s.heap :=
  (va_Z.moved I.1.alike (C.2.2.1 t ht).1).kept (fun a ha _ => I.2.2.1 a ha)
theorem am_wT (C : am_ctx l s0 A0 D cI cJ od sc) (I : am_I s0 D cI cJ od h0 s) {t : Nat} (ht : t < 4) {n : Nat} {f : Nat → Int32} (hq : am_tb[t]? = some (n, f)) : va_T .int (od t) n (fun j => .int (f j)) (fun q => s0.heap.size ≤ q) s s.heap := by
  obtain ⟨n', f', e, hT⟩ := (C.2.2.1 t ht).2
  rw [hq] at e
  cases e
  exact (va_T.moved I.1.alike hT).kept (fun a ha _ => I.2.2.1 a ha)
theorem am_wX (C : am_ctx l s0 A0 D cI cJ od sc) (I : am_I s0 D cI cJ od h0 s) : va_X (od 4) sc.1 sc.2 s s.heap := (va_X.moved I.1.alike C.2.2.2.1).kept (I.2.2.1 _ C.2.2.2.2.1)
theorem am_fit_ok {b0 : Nat} {ty : FieldType} {v : Value} (h : am_fit ty v = true) : narrow ty (am_g b0 od v) = am_g b0 od v ∧ fits ty (am_g b0 od v) = true := by
  unfold am_fit at h
  split at h
  · exact ⟨rfl, rfl⟩
  · exact ⟨rfl, rfl⟩
  · rename_i x
    simp only [Bool.or_eq_true, beq_iff_eq] at h
    rcases h with rfl | rfl <;> exact ⟨rfl, rfl⟩
  · exact ⟨rfl, rfl⟩
  · exact ⟨rfl, rfl⟩
  · cases h
end AMH
