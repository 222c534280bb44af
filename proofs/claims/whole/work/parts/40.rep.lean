/-! The abstract machine is sound, 1: what an abstract value, row of locals, heap stands for; the plain steps that leave the heap alone. -/
def am_g (b0 : Nat) (od : Nat → Nat) : Value → Value
  | .ref i => .ref (b0 + i)
  | .float t => .ref (od t.toNat)
  | v => v
theorem am_g_cat (b0 : Nat) (od : Nat → Nat) (v : Value) : (am_g b0 od v).category = v.category := by cases v <;> rfl
def am_lr (b0 : Nat) (od : Nat → Nat) (L : am_L) (ls : Array Slot) : Prop := ls.size = L.length ∧ lv_wf ls ∧ ∀ (i : Nat) (v : Value), L[i]? = some (some v) → ls[i]? = some (.val (am_g b0 od v))
def am_ps (b0 : Nat) (od : Nat → Nat) (L : am_L) : List (Nat × Value) := (List.range L.length).filterMap (fun i => match L[i]? with
  | some (some v) => some (i, am_g b0 od v)
  | _ => none)
theorem am_ps_mem {b0 : Nat} {od : Nat → Nat} {L : am_L} {i : Nat} {v : Value} (h : L[i]? = some (some v)) : (i, am_g b0 od v) ∈ am_ps b0 od L := by
  refine List.mem_filterMap.mpr ⟨i, List.mem_range.mpr (List.getElem?_eq_some_iff.mp h).1, ?_⟩
  simp only [h]
theorem am_ps_of {b0 : Nat} {od : Nat → Nat} {L : am_L} {q : Nat × Value} (h : q ∈ am_ps b0 od L) : ∃ v, L[q.1]? = some (some v) ∧ q.2 = am_g b0 od v := by
  obtain ⟨i, -, hi⟩ := List.mem_filterMap.mp h
  split at hi
  · rename_i v hv
    cases hi
    exact ⟨v, hv, rfl⟩
  · cases hi
theorem am_lr.has {b0 : Nat} {od : Nat → Nat} {L : am_L} {ls : Array Slot} (h : am_lr b0 od L ls) : lv_has ls L.length (am_ps b0 od L) := by
  refine ⟨h.1, h.2.1, fun q hq => ?_⟩
  obtain ⟨v, h1, h2⟩ := am_ps_of hq
  rw [h2]
  exact h.2.2 q.1 v h1
theorem am_clr_len (L : am_L) (i : Nat) : (am_clr L i).length = L.length := by
  cases i with
  | zero => rfl
  | succ j => simp only [am_clr]; split <;> simp
/-- what the cleared row still holds, it held; and no long stands just before -/
theorem am_clr_get {L : am_L} {i j : Nat} {v : Value} (h : (am_clr L i)[j]? = some (some v)) : L[j]? = some (some v) ∧ ¬ (j + 1 = i ∧ v.category = 2) := by
  cases i with
  | zero => exact ⟨h, fun q => by omega⟩
  | succ k =>
    simp only [am_clr] at h
    split at h
    · rename_i x hx
      by_cases hj : j = k
      · subst hj
        rw [List.getElem?_set_self (List.getElem?_eq_some_iff.mp hx).1] at h
        cases h
      · rw [List.getElem?_set_ne (Ne.symm hj)] at h
        exact ⟨h, fun q => hj (by omega)⟩
    · rename_i x hx
      by_cases hj : j = k
      · subst hj
        rw [List.getElem?_set_self (List.getElem?_eq_some_iff.mp hx).1] at h
        cases h
      · rw [List.getElem?_set_ne (Ne.symm hj)] at h
        exact ⟨h, fun q => hj (by omega)⟩
    · rename_i h1 h2
      refine ⟨h, fun q => ?_⟩
      have hj : j = k := by omega
      subst hj
      cases v with
      | long x => exact h1 x h
      | double x => exact h2 x h
      | _ => simp [Value.category] at q
theorem am_lr.st1 {b0 : Nat} {od : Nat → Nat} {L M : am_L} {i : Nat} {v : Value} {ls' : Array Slot} (hM : am_st1 L i v = some M) (h : lv_has ls' L.length ((i, am_g b0 od v) :: (am_ps b0 od L).filter (fun q => !(q.1 == i) && !(q.1 + 1 == i && q.2.category == 2)))) : am_lr b0 od M ls' := by
  unfold am_st1 at hM
  cases hi : Nat.blt i L.length with
  | false => simp [hi] at hM
  | true =>
    simp only [hi, cond_true, Option.some.injEq] at hM
    subst hM
    refine ⟨by rw [h.1, List.length_set, am_clr_len], h.2.1, fun j u hj => ?_⟩
    by_cases hji : j = i
    · subst hji
      rw [List.getElem?_set] at hj
      simp only [if_true] at hj
      split at hj
      · cases hj
        exact h.2.2 _ List.mem_cons_self
      · cases hj
    · rw [List.getElem?_set_ne (Ne.symm hji)] at hj
      obtain ⟨h1, h2⟩ := am_clr_get hj
      refine h.2.2 (j, am_g b0 od u) (List.mem_cons_of_mem _ (List.mem_filter.mpr ⟨am_ps_mem h1, ?_⟩))
      simp only [am_g_cat]
      by_cases h3 : j + 1 = i
      · have h4 : ¬ u.category = 2 := fun q => h2 ⟨h3, q⟩
        simp [hji, h4]
      · simp [hji, h3]
theorem am_lr.st2 {b0 : Nat} {od : Nat → Nat} {L M : am_L} {i : Nat} {v : Value} {ls' : Array Slot} (hM : am_st2 L i v = some M) (h : lv_has ls' L.length ((i, am_g b0 od v) :: (am_ps b0 od L).filter (fun q => !(q.1 == i) && (!(q.1 == i + 1) && !(q.1 + 1 == i && q.2.category == 2))))) : am_lr b0 od M ls' := by
  unfold am_st2 at hM
  cases hi : Nat.blt (i + 1) L.length with
  | false => simp [hi] at hM
  | true =>
    simp only [hi, cond_true, Option.some.injEq] at hM
    subst hM
    refine ⟨by rw [h.1, List.length_set, List.length_set, am_clr_len], h.2.1, fun j u hj => ?_⟩
    by_cases hj1 : j = i + 1
    · subst hj1
      rw [List.getElem?_set] at hj
      simp only [if_true] at hj
      split at hj <;> cases hj
    · rw [List.getElem?_set_ne (Ne.symm hj1)] at hj
      by_cases hji : j = i
      · subst hji
        rw [List.getElem?_set] at hj
        simp only [if_true] at hj
        split at hj
        · cases hj
          exact h.2.2 _ List.mem_cons_self
        · cases hj
      · rw [List.getElem?_set_ne (Ne.symm hji)] at hj
        obtain ⟨h1, h2⟩ := am_clr_get hj
        refine h.2.2 (j, am_g b0 od u) (List.mem_cons_of_mem _ (List.mem_filter.mpr ⟨am_ps_mem h1, ?_⟩))
        simp only [am_g_cat]
        by_cases h3 : j + 1 = i
        · have h4 : ¬ u.category = 2 := fun q => h2 ⟨h3, q⟩
          simp [hji, hj1, h4]
        · simp [hji, hj1, h3]
theorem am_st1_lt {L M : am_L} {i : Nat} {v : Value} (h : am_st1 L i v = some M) : i < L.length := by
  unfold am_st1 at h
  cases hi : Nat.blt i L.length with
  | false => simp [hi] at h
  | true => exact Nat.blt_eq.mp hi
theorem am_st2_lt {L M : am_L} {i : Nat} {v : Value} (h : am_st2 L i v = some M) : i + 1 < L.length := by
  unfold am_st2 at h
  cases hi : Nat.blt (i + 1) L.length with
  | false => simp [hi] at h
  | true => exact Nat.blt_eq.mp hi
theorem am_tg_of {pc t : Nat} {o : Int} (h : am_tg pc o = some t) : (pc : Int) + o = (t : Int) := by
  unfold am_tg at h
  split at h
  · rename_i u hu
    cases h
    exact hu
  · cases h
/-- a constant is the literal that the machine takes it for -/
def am_kok (v : Int) : Instr → Bool
  | .iconst n => decide (Int32.ofInt n = am_i n)
  | .bipush n => decide ((Int8.ofInt n).toInt32 = am_i n)
  | .sipush n => decide ((Int16.ofInt n).toInt32 = am_i n)
  | .iinc _ d => decide (Int32.ofInt d = am_i d)
  | .ldc _ => decide (Int32.ofInt v = am_i v)
  | .ldc_w _ => decide (Int32.ofInt v = am_i v)
  | .ldc2_w _ => decide (Int64.ofInt v = am_j v)
  | _ => true
section AMP
variable {p : Program} {l : Launch} {e : Env} {R : Room} {s : State} {m : MethodId} {args : Array Value} {below : List Frame} {meth : Method} {c : Code} {H : Heap} {locs : List Loc} {cells slots : Nat} {Q : State → Prop}
variable {cc : ByteArray} {pc : Nat} {ls : Array Slot} {rest : List Value} {b0 : Nat} {od : Nat → Nat}
set_option maxHeartbeats 4000000 in
/-- constants and loads -/
theorem am_sA_ok (hx : p.tables.exec = Jvm.exec) (hb : c.code = cc) {own : String} (hown : s.vm.findClass own = some m.cls) {x n : Nat} {v : Int} {I : Instr} {L : am_L} {u : Value} (hL : am_lr b0 od L ls) (hd : decode cc pc = .ok (I, n)) (hk : am_kok v I = true)
    (hc : ∀ i, I = .ldc i ∨ I = .ldc_w i → x = 0 → (Jvm.Cond.constant own i (Int32.ofInt v)).before args s = true) (hc2 : ∀ i, I = .ldc2_w i → (Jvm.Cond.constantLong own i (Int64.ofInt v)).before args s = true)
    (hs : am_sA x v I L = some (u, n)) (K : W p l e R s m args below meth c H locs cells slots Q (F0 m (pc + n) ls (am_g b0 od u :: rest))) : W p l e R s m args below meth c H locs cells slots Q (F0 m pc ls rest) := by
  unfold am_sA at hs
  split at hs
  · rename_i i
    cases hq : Nat.beq x 0 with
    | false => simp [hq] at hs
    | true =>
      simp only [hq, cond_true, Option.some.injEq, Prod.mk.injEq] at hs
      obtain ⟨rfl, rfl⟩ := hs
      have hk' : Int32.ofInt v = am_i v := of_decide_eq_true hk
      rw [← hk'] at K
      exact lv_ldc hx hb hown (hc i (Or.inl rfl) (Nat.eq_of_beq_eq_true hq)) hd K
  · rename_i i
    cases hq : Nat.beq x 0 with
    | false => simp [hq] at hs
    | true =>
      simp only [hq, cond_true, Option.some.injEq, Prod.mk.injEq] at hs
      obtain ⟨rfl, rfl⟩ := hs
      have hk' : Int32.ofInt v = am_i v := of_decide_eq_true hk
      rw [← hk'] at K
      exact lv_ldcw hx hb hown (hc i (Or.inr rfl) (Nat.eq_of_beq_eq_true hq)) hd K
  · rename_i i
    simp only [Option.some.injEq, Prod.mk.injEq] at hs
    obtain ⟨rfl, rfl⟩ := hs
    have hk' : Int64.ofInt v = am_j v := of_decide_eq_true hk
    rw [← hk'] at K
    exact lv_ldc2 hx hb hown (hc2 i rfl) hd K
  · simp only [Option.some.injEq, Prod.mk.injEq] at hs
    obtain ⟨rfl, rfl⟩ := hs
    exact lv_iconst hx hb hd (of_decide_eq_true hk) K
  · simp only [Option.some.injEq, Prod.mk.injEq] at hs
    obtain ⟨rfl, rfl⟩ := hs
    exact lv_bipush hx hb hd (of_decide_eq_true hk) K
  · simp only [Option.some.injEq, Prod.mk.injEq] at hs
    obtain ⟨rfl, rfl⟩ := hs
    exact lv_sipush hx hb hd (of_decide_eq_true hk) K
  · simp only [Option.some.injEq, Prod.mk.injEq] at hs
    obtain ⟨rfl, rfl⟩ := hs
    exact lv_lconst hx hb hd rfl K
  · split at hs
    · rename_i y hy
      simp only [Option.some.injEq, Prod.mk.injEq] at hs
      obtain ⟨rfl, rfl⟩ := hs
      exact lv_iload_n hx hb hd rfl (hL.2.2 _ _ hy) K
    · cases hs
  · split at hs
    · rename_i y hy
      simp only [Option.some.injEq, Prod.mk.injEq] at hs
      obtain ⟨rfl, rfl⟩ := hs
      exact lv_iload hx hb hd (hL.2.2 _ _ hy) K
    · cases hs
  · split at hs
    · rename_i y hy
      simp only [Option.some.injEq, Prod.mk.injEq] at hs
      obtain ⟨rfl, rfl⟩ := hs
      exact lv_lload_n hx hb hd rfl (hL.2.2 _ _ hy) K
    · cases hs
  · split at hs
    · rename_i y hy
      simp only [Option.some.injEq, Prod.mk.injEq] at hs
      obtain ⟨rfl, rfl⟩ := hs
      exact lv_lload hx hb hd (hL.2.2 _ _ hy) K
    · cases hs
  · split at hs
    · rename_i y hy
      simp only [Option.some.injEq, Prod.mk.injEq] at hs
      obtain ⟨rfl, rfl⟩ := hs
      exact lv_aload_n hx hb hd rfl (hL.2.2 _ _ hy) K
    · rename_i y hy
      simp only [Option.some.injEq, Prod.mk.injEq] at hs
      obtain ⟨rfl, rfl⟩ := hs
      exact lv_aload_n hx hb hd rfl (hL.2.2 _ _ hy) K
    · cases hs
  · split at hs
    · rename_i y hy
      simp only [Option.some.injEq, Prod.mk.injEq] at hs
      obtain ⟨rfl, rfl⟩ := hs
      exact lv_aload hx hb hd (hL.2.2 _ _ hy) K
    · rename_i y hy
      simp only [Option.some.injEq, Prod.mk.injEq] at hs
      obtain ⟨rfl, rfl⟩ := hs
      exact lv_aload hx hb hd (hL.2.2 _ _ hy) K
    · cases hs
  · cases hs
set_option maxHeartbeats 4000000 in
/-- stores -/
theorem am_sB_ok (hx : p.tables.exec = Jvm.exec) (hb : c.code = cc) {n : Nat} {I : Instr} {L M : am_L} {st r : List Value} (hL : am_lr b0 od L ls) (hd : decode cc pc = .ok (I, n)) {v : Int} (hk : am_kok v I = true) (hs : am_sB I L st = some (M, r, n))
    (K : ∀ ls' : Array Slot, am_lr b0 od M ls' → W p l e R s m args below meth c H locs cells slots Q (F0 m (pc + n) ls' (r.map (am_g b0 od)))) : W p l e R s m args below meth c H locs cells slots Q (F0 m pc ls (st.map (am_g b0 od))) := by
  have hh := hL.has
  unfold am_sB at hs
  split at hs
  · obtain ⟨M', h1, h2⟩ := Option.map_eq_some_iff.mp hs
    simp only [Prod.mk.injEq] at h2
    obtain ⟨rfl, rfl, rfl⟩ := h2
    exact lv_istore_n hx hb hd rfl hh (am_st1_lt h1) rfl (fun ls' h' => K ls' (am_lr.st1 h1 h'))
  · obtain ⟨M', h1, h2⟩ := Option.map_eq_some_iff.mp hs
    simp only [Prod.mk.injEq] at h2
    obtain ⟨rfl, rfl, rfl⟩ := h2
    exact lv_istore hx hb hd hh (am_st1_lt h1) rfl (fun ls' h' => K ls' (am_lr.st1 h1 h'))
  · obtain ⟨M', h1, h2⟩ := Option.map_eq_some_iff.mp hs
    simp only [Prod.mk.injEq] at h2
    obtain ⟨rfl, rfl, rfl⟩ := h2
    exact lv_lstore_n hx hb hd rfl hh (am_st2_lt h1) rfl (fun ls' h' => K ls' (am_lr.st2 h1 h'))
  · obtain ⟨M', h1, h2⟩ := Option.map_eq_some_iff.mp hs
    simp only [Prod.mk.injEq] at h2
    obtain ⟨rfl, rfl, rfl⟩ := h2
    exact lv_lstore hx hb hd hh (am_st2_lt h1) rfl (fun ls' h' => K ls' (am_lr.st2 h1 h'))
  · obtain ⟨M', h1, h2⟩ := Option.map_eq_some_iff.mp hs
    simp only [Prod.mk.injEq] at h2
    obtain ⟨rfl, rfl, rfl⟩ := h2
    exact lv_astore_n hx hb hd rfl hh (am_st1_lt h1) rfl (fun ls' h' => K ls' (am_lr.st1 h1 h'))
  · obtain ⟨M', h1, h2⟩ := Option.map_eq_some_iff.mp hs
    simp only [Prod.mk.injEq] at h2
    obtain ⟨rfl, rfl, rfl⟩ := h2
    exact lv_astore_n hx hb hd rfl hh (am_st1_lt h1) rfl (fun ls' h' => K ls' (am_lr.st1 h1 h'))
  · obtain ⟨M', h1, h2⟩ := Option.map_eq_some_iff.mp hs
    simp only [Prod.mk.injEq] at h2
    obtain ⟨rfl, rfl, rfl⟩ := h2
    exact lv_astore hx hb hd hh (am_st1_lt h1) rfl (fun ls' h' => K ls' (am_lr.st1 h1 h'))
  · obtain ⟨M', h1, h2⟩ := Option.map_eq_some_iff.mp hs
    simp only [Prod.mk.injEq] at h2
    obtain ⟨rfl, rfl, rfl⟩ := h2
    exact lv_astore hx hb hd hh (am_st1_lt h1) rfl (fun ls' h' => K ls' (am_lr.st1 h1 h'))
  · rename_i r' n' d'
    split at hs
    · rename_i y hy
      obtain ⟨M', h1, h2⟩ := Option.map_eq_some_iff.mp hs
      simp only [Prod.mk.injEq] at h2
      obtain ⟨rfl, rfl, rfl⟩ := h2
      obtain ⟨k, hkk⟩ := List.getElem?_of_mem (am_ps_mem (b0 := b0) (od := od) hy)
      have hk' : Int32.ofInt d' = am_i d' := of_decide_eq_true hk
      exact lv_iinc hx hb hd hh hkk (by rw [hk']) (am_st1_lt h1) rfl (fun ls' h' => K ls' (am_lr.st1 h1 h'))
    · cases hs
  · cases hs
set_option maxHeartbeats 4000000 in
/-- numbers on the stack -/
theorem am_sC_ok (hx : p.tables.exec = Jvm.exec) (hb : c.code = cc) {I : Instr} {st r : List Value} (hd : decode cc pc = .ok (I, 1)) (hs : am_sC I st = some r)
    (K : W p l e R s m args below meth c H locs cells slots Q (F0 m (pc + 1) ls (r.map (am_g b0 od)))) : W p l e R s m args below meth c H locs cells slots Q (F0 m pc ls (st.map (am_g b0 od))) := by
  unfold am_sC at hs
  split at hs
  · simp only [Option.some.injEq] at hs
    subst hs
    exact lv_iadd hx hb hd K
  · simp only [Option.some.injEq] at hs
    subst hs
    exact lv_isub hx hb hd K
  · simp only [Option.some.injEq] at hs
    subst hs
    exact lv_imul hx hb hd K
  · simp only [Option.some.injEq] at hs
    subst hs
    exact lv_iand hx hb hd K
  · simp only [Option.some.injEq] at hs
    subst hs
    exact lv_ior hx hb hd K
  · simp only [Option.some.injEq] at hs
    subst hs
    exact lv_ishl hx hb hd K
  · simp only [Option.some.injEq] at hs
    subst hs
    exact lv_ishr hx hb hd K
  · simp only [Option.some.injEq] at hs
    subst hs
    exact lv_ineg hx hb hd K
  · split at hs
    · cases hs
    · rename_i hne
      simp only [Option.some.injEq] at hs
      subst hs
      exact lv_idiv hx hb hd hne K
  · split at hs
    · cases hs
    · rename_i hne
      simp only [Option.some.injEq] at hs
      subst hs
      exact lv_irem hx hb hd hne K
  · simp only [Option.some.injEq] at hs
    subst hs
    exact lv_ladd hx hb hd K
  · simp only [Option.some.injEq] at hs
    subst hs
    exact lv_lsub hx hb hd K
  · simp only [Option.some.injEq] at hs
    subst hs
    exact lv_land hx hb hd K
  · simp only [Option.some.injEq] at hs
    subst hs
    exact lv_lor hx hb hd K
  · split at hs
    · cases hs
    · rename_i hne
      simp only [Option.some.injEq] at hs
      subst hs
      exact lv_ldiv hx hb hd hne K
  · split at hs
    · cases hs
    · rename_i hne
      simp only [Option.some.injEq] at hs
      subst hs
      exact lv_lrem hx hb hd hne K
  · simp only [Option.some.injEq] at hs
    subst hs
    exact lv_lshl hx hb hd rfl K
  · simp only [Option.some.injEq] at hs
    subst hs
    exact lv_lshr hx hb hd rfl K
  · simp only [Option.some.injEq] at hs
    subst hs
    exact lv_lushr hx hb hd rfl K
  · simp only [Option.some.injEq] at hs
    subst hs
    exact W.lcmp hx hb hd K
  · simp only [Option.some.injEq] at hs
    subst hs
    exact lv_i2l hx hb hd rfl K
  · simp only [Option.some.injEq] at hs
    subst hs
    exact lv_l2i hx hb hd rfl K
  · simp only [Option.some.injEq] at hs
    subst hs
    exact lv_i2s hx hb hd rfl K
  · simp only [Option.some.injEq] at hs
    subst hs
    exact lv_dup hx hb hd rfl K
  · simp only [Option.some.injEq] at hs
    subst hs
    exact lv_dup hx hb hd rfl K
  · simp only [Option.some.injEq] at hs
    subst hs
    exact lv_pop hx hb hd rfl K
  · simp only [Option.some.injEq] at hs
    subst hs
    exact lv_pop hx hb hd rfl K
  · cases hs
set_option maxHeartbeats 4000000 in
/-- where it goes on -/
theorem am_sD_ok (hx : p.tables.exec = Jvm.exec) (hb : c.code = cc) {I : Instr} {n t : Nat} {st r : List Value} (hd : decode cc pc = .ok (I, n)) (hlk : ∀ d ps, I = .lookupswitch d ps → (ps.toList.zip (ps.toList.drop 1)).all (fun (a, next) => a.1 < next.1) = true) (hs : am_sD I n pc st = some (t, r))
    (K : W p l e R s m args below meth c H locs cells slots Q (F0 m t ls (r.map (am_g b0 od)))) : W p l e R s m args below meth c H locs cells slots Q (F0 m pc ls (st.map (am_g b0 od))) := by
  unfold am_sD at hs
  split at hs
  · rename_i cd o x r'
    cases hn : Nat.beq n 3 with
    | false => simp [hn] at hs
    | true =>
      have hn3 : n = 3 := Nat.eq_of_beq_eq_true hn
      subst hn3
      simp only [hn, cond_true] at hs
      obtain ⟨t', h1, h2⟩ := Option.map_eq_some_iff.mp hs
      have ht := am_tg_of h1
      simp only [Prod.mk.injEq] at h2
      obtain ⟨h2, rfl⟩ := h2
      cases cd
      · exact lv_if_eq hx hb hd ht (fun h => by have e : t = t' := by rw [← h2]; simp [am_c1, h]
                                                rw [e] at K; exact K) (fun h => by have e : t = pc + 3 := by rw [← h2]; simp [am_c1, h]
                                                                                   rw [e] at K; exact K)
      · exact lv_if_ne hx hb hd ht (fun h => by have e : t = t' := by rw [← h2]; simp [am_c1, h]
                                                rw [e] at K; exact K) (fun h => by have e : t = pc + 3 := by rw [← h2]; simp [am_c1, h]
                                                                                   rw [e] at K; exact K)
      · exact lv_if_lt hx hb hd ht (fun h => by have e : t = t' := by rw [← h2]; simp [am_c1, h]
                                                rw [e] at K; exact K) (fun h => by have e : t = pc + 3 := by rw [← h2]; simp [am_c1, h]
                                                                                   rw [e] at K; exact K)
      · exact lv_if_ge hx hb hd ht (fun h => by have e : t = t' := by rw [← h2]; simp [am_c1, h]
                                                rw [e] at K; exact K) (fun h => by have e : t = pc + 3 := by rw [← h2]; simp [am_c1, h]
                                                                                   rw [e] at K; exact K)
      · exact lv_if_gt hx hb hd ht (fun h => by have e : t = t' := by rw [← h2]; simp [am_c1, h]
                                                rw [e] at K; exact K) (fun h => by have e : t = pc + 3 := by rw [← h2]; simp [am_c1, h]
                                                                                   rw [e] at K; exact K)
      · exact lv_if_le hx hb hd ht (fun h => by have e : t = t' := by rw [← h2]; simp [am_c1, h]
                                                rw [e] at K; exact K) (fun h => by have e : t = pc + 3 := by rw [← h2]; simp [am_c1, h]
                                                                                   rw [e] at K; exact K)
  · rename_i cd o y x r'
    cases hn : Nat.beq n 3 with
    | false => simp [hn] at hs
    | true =>
      have hn3 : n = 3 := Nat.eq_of_beq_eq_true hn
      subst hn3
      simp only [hn, cond_true] at hs
      obtain ⟨t', h1, h2⟩ := Option.map_eq_some_iff.mp hs
      have ht := am_tg_of h1
      simp only [Prod.mk.injEq] at h2
      obtain ⟨h2, rfl⟩ := h2
      cases cd
      · exact lv_icmp_eq hx hb hd ht (fun h => by have e : t = t' := by rw [← h2]; simp [am_c2, h]
                                                  rw [e] at K; exact K) (fun h => by have e : t = pc + 3 := by rw [← h2]; simp [am_c2, h]
                                                                                     rw [e] at K; exact K)
      · exact lv_icmp_ne hx hb hd ht (fun h => by have e : t = t' := by rw [← h2]; simp [am_c2, h]
                                                  rw [e] at K; exact K) (fun h => by have e : t = pc + 3 := by rw [← h2]; simp [am_c2, h]
                                                                                     rw [e] at K; exact K)
      · exact lv_icmp_lt hx hb hd ht (fun h => by have e : t = t' := by rw [← h2]; simp [am_c2, h]
                                                  rw [e] at K; exact K) (fun h => by have e : t = pc + 3 := by rw [← h2]; simp [am_c2, h]
                                                                                     rw [e] at K; exact K)
      · exact lv_icmp_ge hx hb hd ht (fun h => by have e : t = t' := by rw [← h2]; simp [am_c2, h]
                                                  rw [e] at K; exact K) (fun h => by have e : t = pc + 3 := by rw [← h2]; simp [am_c2, h]
                                                                                     rw [e] at K; exact K)
      · exact lv_icmp_gt hx hb hd ht (fun h => by have e : t = t' := by rw [← h2]; simp [am_c2, h]
                                                  rw [e] at K; exact K) (fun h => by have e : t = pc + 3 := by rw [← h2]; simp [am_c2, h]
                                                                                     rw [e] at K; exact K)
      · exact lv_icmp_le hx hb hd ht (fun h => by have e : t = t' := by rw [← h2]; simp [am_c2, h]
                                                  rw [e] at K; exact K) (fun h => by have e : t = pc + 3 := by rw [← h2]; simp [am_c2, h]
                                                                                     rw [e] at K; exact K)
  · rename_i o
    cases hn : Nat.beq n 3 with
    | false => simp [hn] at hs
    | true =>
      have hn3 : n = 3 := Nat.eq_of_beq_eq_true hn
      subst hn3
      simp only [hn, cond_true] at hs
      obtain ⟨t', h1, h2⟩ := Option.map_eq_some_iff.mp hs
      simp only [Prod.mk.injEq] at h2
      obtain ⟨rfl, rfl⟩ := h2
      exact lv_goto hx hb hd (am_tg_of h1) K
  · rename_i d lo hi offs x r'
    split at hs
    · rename_i hor
      obtain ⟨t', h1, h2⟩ := Option.map_eq_some_iff.mp hs
      simp only [Prod.mk.injEq] at h2
      obtain ⟨rfl, rfl⟩ := h2
      exact lv_tableOut hx hb hd hor (am_tg_of h1) K
    · rename_i hor
      split at hs
      · rename_i o ho
        obtain ⟨t', h1, h2⟩ := Option.map_eq_some_iff.mp hs
        simp only [Prod.mk.injEq] at h2
        obtain ⟨rfl, rfl⟩ := h2
        exact lv_tableIn hx hb hd (fun q => hor (Or.inl q)) (fun q => hor (Or.inr q)) ho (am_tg_of h1) K
      · cases hs
  · rename_i d ps x r'
    obtain ⟨t', h1, h2⟩ := Option.map_eq_some_iff.mp hs
    simp only [Prod.mk.injEq] at h2
    obtain ⟨rfl, rfl⟩ := h2
    exact lv_lookup hx hb hd (hlk _ _ rfl) rfl (am_tg_of h1) K
  · cases hs
end AMP
