/-! Rows of code: the law. -/
def am_lp (i : Nat) : Bool := (((am_code 172).drop (20 * i)).take 20).all (fun q => am_okb 172 q && am_rokb q)
theorem am_lp_0 : am_lp 0 = true := by decide +kernel
theorem am_lp_1 : am_lp 1 = true := by decide +kernel
theorem am_lp_2 : am_lp 2 = true := by decide +kernel
theorem am_lp_3 : am_lp 3 = true := by decide +kernel
theorem am_lp_4 : am_lp 4 = true := by decide +kernel
theorem am_lp_5 : am_lp 5 = true := by decide +kernel
theorem am_lp_6 : am_lp 6 = true := by decide +kernel
theorem am_lp_7 : am_lp 7 = true := by decide +kernel
theorem am_lp_8 : am_lp 8 = true := by decide +kernel
theorem am_lp_9 : am_lp 9 = true := by decide +kernel
theorem am_lp_10 : am_lp 10 = true := by decide +kernel
theorem am_lp_11 : am_lp 11 = true := by decide +kernel
theorem am_lp_12 : am_lp 12 = true := by decide +kernel
theorem am_lp_13 : am_lp 13 = true := by decide +kernel
theorem am_lp_14 : am_lp 14 = true := by decide +kernel
theorem am_lp_15 : am_lp 15 = true := by decide +kernel
theorem am_lp_16 : am_lp 16 = true := by decide +kernel
theorem am_lp_17 : am_lp 17 = true := by decide +kernel
theorem am_lp_18 : am_lp 18 = true := by decide +kernel
theorem am_lp_19 : am_lp 19 = true := by decide +kernel
theorem am_lp_20 : am_lp 20 = true := by decide +kernel
theorem am_lp_21 : am_lp 21 = true := by decide +kernel
theorem am_lp_22 : am_lp 22 = true := by decide +kernel
theorem am_lps (i : Nat) (h : i < 23) : am_lp i = true := by
  rcases (show i = 0 ∨ i = 1 ∨ i = 2 ∨ i = 3 ∨ i = 4 ∨ i = 5 ∨ i = 6 ∨ i = 7 ∨ i = 8 ∨ i = 9 ∨ i = 10 ∨ i = 11 ∨ i = 12 ∨ i = 13 ∨ i = 14 ∨ i = 15 ∨ i = 16 ∨ i = 17 ∨ i = 18 ∨ i = 19 ∨ i = 20 ∨ i = 21 ∨ i = 22 by omega) with rfl | rfl | rfl | rfl | rfl | rfl | rfl | rfl | rfl | rfl | rfl | rfl | rfl | rfl | rfl | rfl | rfl | rfl | rfl | rfl | rfl | rfl | rfl
  · exact am_lp_0
  · exact am_lp_1
  · exact am_lp_2
  · exact am_lp_3
  · exact am_lp_4
  · exact am_lp_5
  · exact am_lp_6
  · exact am_lp_7
  · exact am_lp_8
  · exact am_lp_9
  · exact am_lp_10
  · exact am_lp_11
  · exact am_lp_12
  · exact am_lp_13
  · exact am_lp_14
  · exact am_lp_15
  · exact am_lp_16
  · exact am_lp_17
  · exact am_lp_18
  · exact am_lp_19
  · exact am_lp_20
  · exact am_lp_21
  · exact am_lp_22
theorem am_kb_law : am_kb 172 = true := by
  refine List.all_eq_true.mpr (fun q hq => ?_)
  obtain ⟨j, hj, e⟩ := List.getElem_of_mem hq
  have hlen : (am_code 172).length = 449 := by decide +kernel
  have h1 := List.all_eq_true.mp (am_lps (j / 20) (by omega)) q
  refine h1 (List.mem_of_getElem? (i := j % 20) ?_)
  rw [List.getElem?_take_of_lt (by omega), List.getElem?_drop, show 20 * (j / 20) + j % 20 = j by omega, List.getElem?_eq_getElem hj, e]
theorem am_kb_172 : (List.range' 172 1).all am_kb = true := by
  refine List.all_eq_true.mpr (fun k hk => ?_)
  have : k = 172 := by
    have := List.mem_range'_1.mp hk
    omega
  subst this
  exact am_kb_law
