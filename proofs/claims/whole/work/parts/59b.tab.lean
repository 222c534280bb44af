/-! What the tables were checked for, together. -/
theorem am_find_spec {pc : Nat} {q : am_E} : ∀ l : List am_E, am_find pc l = some q → q ∈ l ∧ q.1 = pc := by
  intro l
  induction l with
  | nil => intro h; cases h
  | cons z l ih =>
    intro h
    simp only [am_find] at h
    cases hb : Nat.beq z.1 pc with
    | true =>
      simp only [hb, cond_true, Option.some.injEq] at h
      subst h
      exact ⟨List.mem_cons_self, Nat.eq_of_beq_eq_true hb⟩
    | false =>
      simp only [hb, cond_false] at h
      obtain ⟨h1, h2⟩ := ih h
      exact ⟨List.mem_cons_of_mem _ h1, h2⟩
theorem am_cl_at {c : Nat} (h : c < 13) : am_cl[c]? = some (am_cw c) := by
  unfold am_cw
  rw [List.getD_eq_getElem?_getD]
  have hl : c < am_cl.length := h
  rw [List.getElem?_eq_getElem hl]
  rfl
theorem am_good (j : Nat) : goodWord (am_cdw j) = true := by
  unfold am_cdw
  split <;> rfl
theorem am_joks (j : Nat) (h : j < 172) : am_jok j := by
  have hm := am_moks j h
  simp only [am_mokb, Bool.and_eq_true] at hm
  obtain ⟨⟨⟨⟨h1, h2⟩, h3⟩, h4⟩, -⟩ := hm
  exact ⟨am_cwm j h, am_good j, am_lt_mem h1, ⟨of_decide_eq_true h2, of_decide_eq_true h3⟩, Nat.le_of_ble_eq_true h4, by omega⟩
theorem am_soks (j : Nat) (h : j < 172) (hk : am_kd j = 0) : am_sok j := by
  have hm := am_moks j h
  simp only [am_mokb, Bool.and_eq_true, hk] at hm
  exact am_lt_mem hm.2
theorem am_voks (j : Nat) (h : j < 172) (hk : am_kd j = 1) : am_vok j ∧ am_cl[am_ow j]? = some (am_cw (am_ow j)) ∧ (am_cw (am_ow j)).1 = am_on j := by
  have hm := am_moks j h
  simp only [am_mokb, Bool.and_eq_true, hk] at hm
  obtain ⟨-, ⟨⟨⟨⟨h1, h2⟩, h3⟩, h4⟩, h5⟩, h6⟩ := hm
  exact ⟨⟨am_lt_mem h1, am_lt_mem h2, List.isEmpty_iff.mp h3, of_decide_eq_true h4⟩, am_cl_at (Nat.blt_eq.mp h5), of_decide_eq_true h6⟩
theorem am_ioks (j : Nat) (h : j < 172) (hk : am_kd j = 2) : am_iok j := by
  have hm := am_moks j h
  simp only [am_mokb, Bool.and_eq_true, hk] at hm
  obtain ⟨-, ⟨⟨h1, h2⟩, h3⟩, h4⟩ := hm
  exact ⟨am_lt_mem h1, of_decide_eq_true h2, List.isEmpty_iff.mp h3, of_decide_eq_true h4⟩
theorem am_doks {C : String} {j : Nat} (h : am_dkb C j = true) : am_dok C j := by
  simp only [am_dkb, Bool.and_eq_true, Bool.or_eq_true, decide_eq_true_eq] at h
  obtain ⟨⟨⟨⟨h1, h2⟩, h3⟩, h4⟩, h5⟩ := h
  exact ⟨h1, h2, h3, h4, List.isEmpty_iff.mp h5⟩
theorem am_roks {q : am_E} (h : am_rokb q = true) : am_rok q := by
  unfold am_rok
  unfold am_rokb at h
  split
  · rename_i e1 e2
    simp only [e1, e2, Bool.and_eq_true] at h
    have hj := Nat.blt_eq.mp h.1
    exact ⟨am_joks _ hj, am_soks _ hj (Nat.eq_of_beq_eq_true h.2)⟩
  · rename_i e1 e2
    simp only [e1, e2, Bool.and_eq_true] at h
    have hj := Nat.blt_eq.mp h.1.1
    exact ⟨am_joks _ hj, am_soks _ hj (Nat.eq_of_beq_eq_true h.1.2), List.isEmpty_iff.mp h.2⟩
  · rename_i e1 e2
    simp only [e1, e2, Bool.and_eq_true] at h
    have hj := Nat.blt_eq.mp h.1
    exact ⟨am_joks _ hj, am_ioks _ hj (Nat.eq_of_beq_eq_true h.2)⟩
  · rename_i e1 e2
    simp only [e1, e2, Bool.and_eq_true] at h
    have hj := Nat.blt_eq.mp h.1
    exact ⟨am_joks _ hj, am_ioks _ hj (Nat.eq_of_beq_eq_true h.2)⟩
  · rename_i e1 e2
    simp only [e1, e2, Bool.and_eq_true] at h
    have hj := Nat.blt_eq.mp h.1
    exact ⟨am_joks _ hj, am_voks _ hj (Nat.eq_of_beq_eq_true h.2)⟩
  · rename_i e1 e2
    simp only [e1, e2, Bool.and_eq_true, List.contains_iff_mem] at h
    have b1 : q.2.2.2.2.1 < 172 := by
      have := h.1
      simp only [List.mem_cons, List.not_mem_nil, or_false] at this
      omega
    have b2 : q.2.2.2.2.2.1 < 172 := by
      have := h.2
      simp only [List.mem_cons, List.not_mem_nil, or_false] at this
      omega
    exact ⟨⟨am_joks _ b1, am_doks (List.all_eq_true.mp am_dkS _ h.1)⟩, am_joks _ b2, am_doks (List.all_eq_true.mp am_dkP _ h.2)⟩
  · trivial
theorem am_hoks (k : Nat) (h : k < 173) : am_hok k := by
  have hm := List.all_eq_true.mp am_hokb k (List.mem_range.mpr h)
  simp only [Bool.and_eq_true, Bool.or_eq_true, decide_eq_true_eq] at hm
  obtain ⟨⟨⟨h1, h2⟩, h3⟩, h4⟩ := hm
  refine ⟨h1, h2, h3, fun hne => ?_⟩
  rcases h4 with h4 | h4
  · exact absurd (List.isEmpty_iff.mp h4) hne
  · exact h4
theorem am_clok_0 : am_clok 0 := ⟨by decide +kernel, by decide +kernel, by decide +kernel, rfl, rfl, by decide +kernel, rfl, by decide +kernel, by decide +kernel, rfl, by decide +kernel⟩
theorem am_clok_1 : am_clok 1 := ⟨by decide +kernel, by decide +kernel, by decide +kernel, rfl, rfl, by decide +kernel, rfl, by decide +kernel, by decide +kernel, rfl, by decide +kernel⟩
theorem am_clok_2 : am_clok 2 := ⟨by decide +kernel, by decide +kernel, by decide +kernel, rfl, rfl, by decide +kernel, rfl, by decide +kernel, by decide +kernel, rfl, by decide +kernel⟩
theorem am_clok_3 : am_clok 3 := ⟨by decide +kernel, by decide +kernel, by decide +kernel, rfl, rfl, by decide +kernel, rfl, by decide +kernel, by decide +kernel, rfl, by decide +kernel⟩
theorem am_clok_4 : am_clok 4 := ⟨by decide +kernel, by decide +kernel, by decide +kernel, rfl, rfl, by decide +kernel, rfl, by decide +kernel, by decide +kernel, rfl, by decide +kernel⟩
theorem am_clok_5 : am_clok 5 := ⟨by decide +kernel, by decide +kernel, by decide +kernel, rfl, rfl, by decide +kernel, rfl, by decide +kernel, by decide +kernel, rfl, by decide +kernel⟩
theorem am_clok_6 : am_clok 6 := ⟨by decide +kernel, by decide +kernel, by decide +kernel, rfl, rfl, by decide +kernel, rfl, by decide +kernel, by decide +kernel, rfl, by decide +kernel⟩
theorem am_clok_7 : am_clok 7 := ⟨by decide +kernel, by decide +kernel, by decide +kernel, rfl, rfl, by decide +kernel, rfl, by decide +kernel, by decide +kernel, rfl, by decide +kernel⟩
theorem am_clok_8 : am_clok 8 := ⟨by decide +kernel, by decide +kernel, by decide +kernel, rfl, rfl, by decide +kernel, rfl, by decide +kernel, by decide +kernel, rfl, by decide +kernel⟩
theorem am_tabs : am_tab := by
  refine ⟨fun x hx => ?_, ⟨by decide +kernel, by decide +kernel⟩, ⟨by decide +kernel, am_mem (i := 27) rfl⟩, ⟨by decide +kernel, by decide +kernel, by decide +kernel⟩, fun k pc q hk hq => ?_⟩
  · rcases (show x = 0 ∨ x = 1 ∨ x = 2 ∨ x = 3 ∨ x = 4 ∨ x = 5 ∨ x = 6 ∨ x = 7 ∨ x = 8 by omega) with rfl | rfl | rfl | rfl | rfl | rfl | rfl | rfl | rfl
    · exact am_clok_0
    · exact am_clok_1
    · exact am_clok_2
    · exact am_clok_3
    · exact am_clok_4
    · exact am_clok_5
    · exact am_clok_6
    · exact am_clok_7
    · exact am_clok_8
  · obtain ⟨h1, h2⟩ := am_find_spec _ hq
    have hb := List.all_eq_true.mp (am_kbs k hk) q h1
    simp only [Bool.and_eq_true] at hb
    exact ⟨hb.1, h2, am_roks hb.2⟩
