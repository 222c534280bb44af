/-! The law's start has a context: classes, rows of constants, the script. -/
theorem am_u0 (C : String) : ∀ w ∈ u_ws C am_TX 0, False := by
  intro w hw
  simp [u_ws] at hw
theorem am_ti1 : ([9, 10, 11, 12] : List Nat).all (fun x => decide (Jvm.Cond.instantiable (am_cn.getD x "") 6 ∈ lw_tbl)) = true := by decide +kernel
theorem am_kn {s : State} {A : Array Value} (hts : ∀ w ∈ lw_tbl, w.before A s = true) (x : Nat) (hx : x < 13) : ∃ q : ClassId × (Nat → Nat), u_Kn s (am_cw x).1 (am_cw x).2.1 (am_cw x).2.2 q.1 q.2 := by
  by_cases h9 : x < 9
  · have hk := am_tabs.1 x h9
    obtain ⟨cC, iS, h⟩ := u_known (ws := u_ws (am_cw x).1 (am_cw x).2.1 (am_cw x).2.2) (args := A) (fun w hw => hts w (hk.2.2.1 w hw).1) (fun _ hw => hw) (hts _ hk.2.2.2.2.2.2.2.1)
    exact ⟨(cC, iS), h⟩
  · have hx4 : x ∈ ([9, 10, 11, 12] : List Nat) := by
      rcases (show x = 9 ∨ x = 10 ∨ x = 11 ∨ x = 12 by omega) with rfl | rfl | rfl | rfl <;> decide
    have hi := of_decide_eq_true (List.all_eq_true.mp am_ti1 x hx4)
    have e : (am_cw x).1 = am_cn.getD x "" ∧ (am_cw x).2.1 = am_TX ∧ (am_cw x).2.2 = 0 := by
      rcases (show x = 9 ∨ x = 10 ∨ x = 11 ∨ x = 12 by omega) with rfl | rfl | rfl | rfl <;> exact ⟨rfl, rfl, rfl⟩
    rw [e.1, e.2.1, e.2.2]
    obtain ⟨cC, iS, h⟩ := u_known (ws := []) (args := A) (C := am_cn.getD x "") (T := am_TX) (N := 0) (fun w hw => by cases hw) (fun w hw => absurd hw (fun h => am_u0 _ w h)) (hts _ hi)
    exact ⟨(cC, iS), h⟩
theorem am_arr {s : State} {A : Array Value} {ty : FieldType} (h : (Jvm.Cond.arrayClass ty).before A s = true) : ∃ cA : ClassId, ArrOfT s cA ty ∧ s.vm.findClass ("[" ++ ty.toString) = some cA := by
  obtain ⟨cA, kA, comp, h1, h2, h3⟩ := Jvm.Cond.arrayClass_spec h
  exact ⟨cA, fun n z => ⟨fun k h => (by cases h), kA, h2, comp, h3⟩, h1⟩
def am_ttm (t : Nat) : Term := .static "SoundShelf" (am_tn t) "[I"
def am_tl (t : Nat) : Nat := ([89, 8, 14, 16] : List Nat).getD t 0
def am_tf (t : Nat) (j : Nat) : Int32 := ((([am_vSTEPS, am_vINDEXCHANGES, am_vPAIRS, am_vDELTAFACTORS] : List (List Int32)).getD t []).getD j 0)
def am_tp (t : Nat) : Nat := ([22, 133, 5, 114] : List Nat).getD t 0
theorem am_tc1 : ([0, 1, 2, 3] : List Nat).all (fun t => decide ((flatC (Jvm.Cond.and given_1 narrow_1))[am_tp t]? = some (.arrayOf (am_ttm t) .int)) && decide ((flatC (Jvm.Cond.and given_1 narrow_1))[am_tp t + 1]? = some (.eq (.length (am_ttm t)) (.int (Int32.ofNat (am_tl t))))) && decide (Jvm.Cond.laysStatic "SoundShelf" (am_tn t) "[I" ∈ lw_tbl)) = true := by decide +kernel
theorem am_tc2 : ([0, 1, 2, 3] : List Nat).all (fun t => (List.range (am_tl t)).all (fun j => decide ((flatC (Jvm.Cond.and given_1 narrow_1))[am_tp t + 2 + j]? = some (.eq (.elem (am_ttm t) (.int (Int32.ofNat j))) (.int (am_tf t j)))))) = true := by decide +kernel
theorem am_tc3 : Jvm.Cond.initialized "SoundShelf" ∈ lw_tbl := by decide +kernel
theorem am_tc4 (t : Nat) (h : t < 4) : am_tb[t]? = some (am_tl t, am_tf t) ∧ am_tl t < 2 ^ 31 := by
  rcases (show t = 0 ∨ t = 1 ∨ t = 2 ∨ t = 3 by omega) with rfl | rfl | rfl | rfl <;> exact ⟨rfl, by decide⟩
theorem am_crow {s : State} {A : Array Value} (hts : ∀ w ∈ lw_tbl, w.before A s = true) (hg : (Jvm.Cond.and given_1 narrow_1).before A s = true) (t : Nat) (ht : t < 4) : ∃ a : Nat, va_Z "SoundShelf" (am_tn t) "[I" (.ref a) (fun q => s.heap.size ≤ q) s s.heap ∧ va_T .int a (am_tl t) (fun j => .int (am_tf t j)) (fun q => s.heap.size ≤ q) s s.heap := by
  have hfl := flat_of_before _ hg
  have htm : t ∈ ([0, 1, 2, 3] : List Nat) := by
    rcases (show t = 0 ∨ t = 1 ∨ t = 2 ∨ t = 3 by omega) with rfl | rfl | rfl | rfl <;> decide
  have c1 := List.all_eq_true.mp am_tc1 t htm
  simp only [Bool.and_eq_true, decide_eq_true_eq] at c1
  have c2 := List.all_eq_true.mp am_tc2 t htm
  have hA : ∀ a : Nat, a < s.heap.size → ¬ s.heap.size ≤ a := fun a ha => Nat.not_le.mpr ha
  obtain ⟨a, ha, hT⟩ := va_Tof (args := A) (tm := am_ttm t) (ty := .int) (N := am_tl t) (f := fun j => .int (am_tf t j)) (A := fun q => s.heap.size ≤ q) (am_tc4 t ht).2 (hfl _ (List.mem_of_getElem? c1.1.1)) (va_eqt (hfl _ (List.mem_of_getElem? c1.1.2))) (fun j hj => va_eqt (hfl _ (List.mem_of_getElem? (of_decide_eq_true (List.all_eq_true.mp c2 j (List.mem_range.mpr hj)))))) hA
  exact ⟨a, va_Zof (hts _ c1.2) (hts _ am_tc3) ha hA, hT⟩
theorem am_start {l : Launch} {s : State} {b L : Nat} {xs : Nat → Int32} (hfl : l.flags = flags0) (hts : ∀ w ∈ lw_tbl, w.before #[Value.ref b] s = true) (hg : (Jvm.Cond.and given_1 narrow_1).before #[Value.ref b] s = true) (hX : va_X b L xs s s.heap) (hb : b < s.heap.size) :
    ∃ (D : va_G) (cI cJ : ClassId) (od : Nat → Nat), am_ctx l s #[Value.ref b] D cI cJ od (L, xs) ∧ od 4 = b := by
  have h1 : ∀ x : Nat, ∃ q : ClassId × (Nat → Nat), x < 13 → u_Kn s (am_cw x).1 (am_cw x).2.1 (am_cw x).2.2 q.1 q.2 := by
    intro x
    by_cases hx : x < 13
    · obtain ⟨q, hq⟩ := am_kn hts x hx
      exact ⟨q, fun _ => hq⟩
    · exact ⟨(0, fun _ => 0), fun h => absurd h hx⟩
  obtain ⟨f, hf⟩ := Classical.axiomOfChoice h1
  obtain ⟨cI, hI1, hI2⟩ := am_arr (ty := .int) (hts _ am_tabs.2.1.1)
  obtain ⟨cJ, hJ1, hJ2⟩ := am_arr (ty := .long) (hts _ am_tabs.2.1.2)
  have h2 : ∀ t : Nat, ∃ a : Nat, t < 4 → va_Z "SoundShelf" (am_tn t) "[I" (.ref a) (fun q => s.heap.size ≤ q) s s.heap ∧ va_T .int a (am_tl t) (fun j => .int (am_tf t j)) (fun q => s.heap.size ≤ q) s s.heap := by
    intro t
    by_cases ht : t < 4
    · obtain ⟨a, ha⟩ := am_crow hts hg t ht
      exact ⟨a, fun _ => ha⟩
    · exact ⟨0, fun h => absurd h ht⟩
  obtain ⟨ad, had⟩ := Classical.axiomOfChoice h2
  refine ⟨(fun c => (f c).1, fun c => (f c).2), cI, cJ, fun t => if t = 4 then b else ad t, ⟨hts, ⟨fun c q hq => ?_, fun k q hk => ?_⟩, fun t ht => ?_, hX, hb, hfl, hg⟩, rfl⟩
  · have hc : c < 13 := (List.getElem?_eq_some_iff.mp hq).1
    rw [am_cl_at hc] at hq
    cases hq
    exact hf c hc
  · match k, hk with
    | 0, hk => cases hk; exact ⟨hI1, hI2⟩
    | 1, hk => cases hk; exact ⟨hJ1, hJ2⟩
    | k + 2, hk => cases hk
  · have hne : ¬ t = 4 := by omega
    simp only [hne, if_false]
    exact ⟨(had t ht).1, am_tl t, am_tf t, (am_tc4 t ht).1, (had t ht).2⟩
