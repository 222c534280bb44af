/-! The abstract machine is sound, 3: the steps on the heap -/
/-- what the tables say of a class with fields -/
def am_clok (x : Nat) : Prop := (∀ k, k < (am_cw x).2.2 → parseFieldDescriptor ((am_cw x).2.1 k).2.2.1 = some (am_ft x k)) ∧ (∀ a, a < (am_cw x).2.2 → ∀ b, b < (am_cw x).2.2 → a ≠ b → ((am_cw x).2.1 a).2.1 ≠ ((am_cw x).2.1 b).2.1) ∧ (∀ w ∈ u_ws (am_cw x).1 (am_cw x).2.1 (am_cw x).2.2, w ∈ lw_tbl ∧ goodWord w = true) ∧ am_cl[x]? = some (am_cw x) ∧ (am_cw x).2.2 = am_ns x ∧ (∀ k, k < (am_cw x).2.2 → defaultValue (am_ft x k) = vp_V (am_dfs.getD x []) k) ∧ (am_cw x).1 = am_cn.getD x "" ∧ Jvm.Cond.instantiable (am_cw x).1 (am_cw x).2.2 ∈ lw_tbl ∧ Jvm.Cond.initialized (am_cw x).1 ∈ lw_tbl ∧ (am_dfs.getD x []).all (fun v => match v with
  | .int _ => true
  | .long _ => true
  | .null => true
  | _ => false) = true ∧ (∀ k, k < (am_cw x).2.2 → ((am_cw x).2.1 k).1 = am_cn.getD x "")
section AMO
variable {p : Program} {l : Launch} {e : Env} {R : Room} {s : State} {m : MethodId} {args : Array Value} {below : List Frame} {meth : Method} {c : Code} {H : Heap} {locs : List Loc} {cells slots : Nat} {Q : State → Prop}
variable {cc : ByteArray} {pc : Nat} {ls : Array Slot} {rest : List Value} {s0 : State} {A0 : Array Value} {D : va_G} {cI cJ : ClassId} {od : Nat → Nat} {sc : am_S} {h0 h g : am_H} {w u : Bool}
/-- a point is one: the heap's size comes from the room that the walk has taken -/
theorem am_mk {gf : JFrame} (hI : am_I s0 D cI cJ od h0 s) (hP : va_P D am_cl (am_w s0.heap.size od cI cJ h) H) (hS : va_S (fun q => s0.heap.size ≤ q) s.heap H locs) (hw : w = false → locs = []) (hc1 : cells + h0.length = h.length) (hc2 : slots + am_sz h0 = am_sz h)
    (K : am_at s0 s D cI cJ od h0 h w H locs cells slots → W p l e R s m args below meth c H locs cells slots Q gf) : W p l e R s m args below meth c H locs cells slots Q gf := by
  intro T hT X
  have h1 := X.heapSize
  rw [hT, hI.2.1] at h1
  have h2 : s0.heap.size + h.length ≤ H.size := by
    by_cases hn : h.length = 0
    · have h3 := hS.1
      rw [hI.2.1] at h3
      omega
    · have h3 : h.length - 1 < h.length := by omega
      have h4 := (hP (h.length - 1) _ (am_w_at (List.getElem?_eq_getElem h3))).lt
      simp only at h4
      omega
  exact K ⟨by omega, hP, hS, hw, hc1, hc2⟩ T hT X
theorem am_oget (hx : p.tables.exec = Jvm.exec) (hb : c.code = cc) {own : String} (hown : s.vm.findClass own = some m.cls) (hC : am_ctx l s0 A0 D cI cJ od sc) (hI : am_I s0 D cI cJ od h0 s) {x y i a : Nat} (hk : am_clok x) (hy : y < (am_cw x).2.2)
    (hlink : (Jvm.Cond.fieldLink own i ((am_cw x).2.1 y).1 ((am_cw x).2.1 y).2.1 ((am_cw x).2.1 y).2.2.1).before args s = true) (hd : decode cc pc = .ok (.getfield i, 3)) (hA : am_at s0 s D cI cJ od h0 h w H locs cells slots) {fs : List Value} {v : Value} (ha : h[a]? = some (.inl (x, fs))) (hv : fs[y]? = some v)
    (K : W p l e R s m args below meth c H locs cells slots Q (F0 m (pc + 3) ls (am_g s0.heap.size od v :: rest))) : W p l e R s m args below meth c H locs cells slots Q (F0 m pc ls (.ref (s0.heap.size + a) :: rest)) :=
  va_get (D := D) (ci := x) (v := am_g s0.heap.size od v) (C := (am_cw x).1) (T := (am_cw x).2.1) (N := (am_cw x).2.2) (Ts := u_ws (am_cw x).1 (am_cw x).2.1 (am_cw x).2.2) hx hb (fun w hw => am_wd hC hI (hk.2.2.1 w hw).1 (hk.2.2.1 w hw).2) (fun _ hw => hw) hown (am_wK hC hI) hA.2.1 a (am_w_at ha) hk.2.2.2.1 y hy hlink (fun _ h9 => h9) (by rw [List.getElem?_map, hv]; rfl) hd K
theorem am_oput (hx : p.tables.exec = Jvm.exec) (hb : c.code = cc) {own : String} (hown : s.vm.findClass own = some m.cls) (hC : am_ctx l s0 A0 D cI cJ od sc) (hI : am_I s0 D cI cJ od h0 s) {x y i a : Nat} (hk : am_clok x) (hy : y < (am_cw x).2.2)
    (hlink : (Jvm.Cond.fieldLink own i ((am_cw x).2.1 y).1 ((am_cw x).2.1 y).2.1 ((am_cw x).2.1 y).2.2.1).before args s = true) (hd : decode cc pc = .ok (.putfield i, 3)) (hA : am_at s0 s D cI cJ od h0 h w H locs cells slots) {fs : List Value} {v : Value} (ha : h[a]? = some (.inl (x, fs))) (hl : y < fs.length) (hf : am_fit (am_ft x y) v = true)
    (hfin : ((am_cw x).2.1 y).2.2.2 = false ∨ (((am_cw x).2.1 y).2.2.2 = true ∧ meth.name = "<init>" ∧ ((am_cw x).2.1 y).1 = own))
    (K : ∀ (H1 : Heap) (locs1 : List Loc), am_at s0 s D cI cJ od h0 (h.set a (.inl (x, fs.set y v))) true H1 locs1 cells slots → W p l e R s m args below meth c H1 locs1 cells slots Q (F0 m (pc + 3) ls rest)) : W p l e R s m args below meth c H locs cells slots Q (F0 m pc ls (am_g s0.heap.size od v :: .ref (s0.heap.size + a) :: rest)) := by
  obtain ⟨z, hP, hS, -, hc1, hc2⟩ := hA
  obtain ⟨hn, hft⟩ := am_fit_ok (od := od) (b0 := s0.heap.size) hf
  have hlay : ∀ w ∈ u_ws (am_cw x).1 (am_cw x).2.1 (am_cw x).2.2, w.before args s = true := fun w hw => am_wd hC hI (hk.2.2.1 w hw).1 (hk.2.2.1 w hw).2
  have ee : (am_w s0.heap.size od cI cJ h).set a (s0.heap.size + a, .inr (x, (fs.map (am_g s0.heap.size od)).set y (am_g s0.heap.size od v))) = am_w s0.heap.size od cI cJ (h.set a (.inl (x, fs.set y v))) := by
    rw [← am_w_set]
    simp only [am_tr, List.map_set]
  have fin : ∀ (H1 : Heap) (locs1 : List Loc), va_P D am_cl ((am_w s0.heap.size od cI cJ h).set a (s0.heap.size + a, .inr (x, (fs.map (am_g s0.heap.size od)).set y (am_g s0.heap.size od v)))) H1 → va_S (fun q => s0.heap.size ≤ q) s.heap H1 locs1 → W p l e R s m args below meth c H1 locs1 cells slots Q (F0 m (pc + 3) ls rest) := by
    intro H1 locs1 hP1 hS1
    rw [ee] at hP1
    exact am_mk hI hP1 hS1 (w := true) (fun h => by cases h) (by rw [List.length_set]; exact hc1) (by rw [am_sz_set (d := .inl (x, fs.set y v)) ha rfl]; exact hc2) (K H1 locs1)
  rcases hfin with hf0 | ⟨hf1, hin, hdecl⟩
  · exact va_put (D := D) (ci := x) (v := am_g s0.heap.size od v) (ty := am_ft x y) (C := (am_cw x).1) (T := (am_cw x).2.1) (N := (am_cw x).2.2) (Ts := u_ws (am_cw x).1 (am_cw x).2.1 (am_cw x).2.2) hx hb hlay (fun _ hw => hw) (am_ft x) hk.1 hk.2.1 hown (am_wK hC hI) hP (am_w_D h) hS a (am_w_at ha) hk.2.2.2.1 y hy hlink (fun _ h9 => h9) hf0 (hk.1 y hy) hn hft (by rw [List.length_map]; exact hl) hd (fun H1 locs1 hP1 _ hS1 => fin H1 locs1 hP1 hS1)
  · exact va_putF (D := D) (ci := x) (v := am_g s0.heap.size od v) (ty := am_ft x y) (C := (am_cw x).1) (T := (am_cw x).2.1) (N := (am_cw x).2.2) (Ts := u_ws (am_cw x).1 (am_cw x).2.1 (am_cw x).2.2) hx hb hlay (fun _ hw => hw) (am_ft x) hk.1 hk.2.1 hown (am_wK hC hI) hP (am_w_D h) hS a (am_w_at ha) hk.2.2.2.1 y hy hlink (fun _ h9 => h9) hf1 hin hdecl (hk.1 y hy) hn hft (by rw [List.length_map]; exact hl) hd (fun H1 locs1 hP1 _ hS1 => fin H1 locs1 hP1 hS1)
theorem am_ogets (hx : p.tables.exec = Jvm.exec) (hb : c.code = cc) {own : String} (hown : s.vm.findClass own = some m.cls) (hC : am_ctx l s0 A0 D cI cJ od sc) (hI : am_I s0 D cI cJ od h0 s) {x i : Nat} (hlt : x < 4) (hlink : (Jvm.Cond.fieldLinkNest own i "SoundShelf" (am_tn x) "[I" "SoundShelf").before args s = true) (hd : decode cc pc = .ok (.getstatic i, 3)) (hA : am_at s0 s D cI cJ od h0 h w H locs cells slots)
    (K : W p l e R s m args below meth c H locs cells slots Q (F0 m (pc + 3) ls (am_g s0.heap.size od (.float (UInt32.ofNat x)) :: rest))) : W p l e R s m args below meth c H locs cells slots Q (F0 m pc ls rest) := by
  have e : am_g s0.heap.size od (.float (UInt32.ofNat x)) = .ref (od x) := by
    have h4 : (UInt32.ofNat x).toNat = x := by
      rcases (show x = 0 ∨ x = 1 ∨ x = 2 ∨ x = 3 by omega) with rfl | rfl | rfl | rfl <;> rfl
    simp only [am_g, h4]
  rw [e] at K
  exact va_getsN hx hb (am_wZ hC hI hlt) hA.2.2.1 hown hlink (fun _ h9 => h9) hd K
/-- reads of rows -/
theorem am_oia (hx : p.tables.exec = Jvm.exec) (hb : c.code = cc) (hC : am_ctx l s0 A0 D cI cJ od sc) (hI : am_I s0 D cI cJ od h0 s) (hd : decode cc pc = .ok (.iaload, 1)) (hA : am_at s0 s D cI cJ od h0 h w H locs cells slots) {v : Value} {n : Nat} {f : Nat → Int32} {i : Int32} (ha : am_ia sc h v = some (n, f)) (hin : ¬ (i < 0 ∨ n ≤ i.toNatClampNeg))
    (K : W p l e R s m args below meth c H locs cells slots Q (F0 m (pc + 1) ls (.int (f i.toNatClampNeg) :: rest))) : W p l e R s m args below meth c H locs cells slots Q (F0 m pc ls (.int i :: am_g s0.heap.size od v :: rest)) := by
  unfold am_ia at ha
  split at ha
  · rename_i a
    split at ha
    · rename_i q hq
      simp only [Option.some.injEq] at ha
      subst ha
      exact va_iald hx hb (am_wK hC hI) hA.2.1 a 0 (am_w_at hq) rfl hin hd K
    · cases ha
  · rename_i t
    cases ht : Nat.beq t.toNat 4 with
    | true =>
      have h4 : t.toNat = 4 := Nat.eq_of_beq_eq_true ht
      simp only [ht, cond_true, Option.some.injEq] at ha
      have e : am_g s0.heap.size od (.float t) = .ref (od 4) := by simp only [am_g, h4]
      rw [e]
      refine va_sld (A := fun q => s0.heap.size ≤ q) hx hb (am_wX hC hI) ?_ (Nat.not_le.mpr hC.2.2.2.2.1) hA.2.2.1 (by rw [ha]; exact hin) hd (by rw [ha]; exact K)
      rw [hI.2.1]
      exact Nat.lt_of_lt_of_le hC.2.2.2.2.1 (Nat.le_add_right _ _)
    | false =>
      simp only [ht, cond_false] at ha
      have hl : t.toNat < 4 := (List.getElem?_eq_some_iff.mp ha).1
      have e : am_g s0.heap.size od (.float t) = .ref (od t.toNat) := rfl
      rw [e]
      exact va_ti hx hb (am_wT hC hI hl ha) hA.2.2.1 hin rfl hd K
  · cases ha
theorem am_oal (hx : p.tables.exec = Jvm.exec) (hb : c.code = cc) (hC : am_ctx l s0 A0 D cI cJ od sc) (hI : am_I s0 D cI cJ od h0 s) (hd : decode cc pc = .ok (.arraylength, 1)) (hA : am_at s0 s D cI cJ od h0 h w H locs cells slots) {v : Value} {n : Nat} {f : Nat → Int32} (ha : am_ia sc h v = some (n, f))
    (K : W p l e R s m args below meth c H locs cells slots Q (F0 m (pc + 1) ls (.int (Int32.ofNat n) :: rest))) : W p l e R s m args below meth c H locs cells slots Q (F0 m pc ls (am_g s0.heap.size od v :: rest)) := by
  unfold am_ia at ha
  split at ha
  · rename_i a
    split at ha
    · rename_i q hq
      simp only [Option.some.injEq] at ha
      subst ha
      exact va_alen hx hb (am_wK hC hI) hA.2.1 a 0 (am_w_at hq) (ty := .int) rfl rfl hd K
    · cases ha
  · rename_i t
    cases ht : Nat.beq t.toNat 4 with
    | true =>
      have h4 : t.toNat = 4 := Nat.eq_of_beq_eq_true ht
      simp only [ht, cond_true, Option.some.injEq] at ha
      have e : am_g s0.heap.size od (.float t) = .ref (od 4) := by simp only [am_g, h4]
      rw [e]
      refine va_slen (A := fun q => s0.heap.size ≤ q) hx hb (am_wX hC hI) ?_ (Nat.not_le.mpr hC.2.2.2.2.1) hA.2.2.1 hd (by rw [ha]; exact K)
      rw [hI.2.1]
      exact Nat.lt_of_lt_of_le hC.2.2.2.2.1 (Nat.le_add_right _ _)
    | false =>
      simp only [ht, cond_false] at ha
      have hl : t.toNat < 4 := (List.getElem?_eq_some_iff.mp ha).1
      have e : am_g s0.heap.size od (.float t) = .ref (od t.toNat) := rfl
      rw [e]
      exact va_tlen hx hb (am_wT hC hI hl ha) hA.2.2.1 rfl hd K
  · cases ha
theorem am_ois (hx : p.tables.exec = Jvm.exec) (hb : c.code = cc) (hC : am_ctx l s0 A0 D cI cJ od sc) (hI : am_I s0 D cI cJ od h0 s) (hd : decode cc pc = .ok (.iastore, 1)) (hA : am_at s0 s D cI cJ od h0 h w H locs cells slots) {a n : Nat} {f : Nat → Int32} {i y : Int32} (ha : h[a]? = some (.inr (.inl (n, f)))) (hin : ¬ (i < 0 ∨ n ≤ i.toNatClampNeg))
    (K : ∀ (H1 : Heap) (locs1 : List Loc), am_at s0 s D cI cJ od h0 (h.set a (.inr (.inl (n, upd f i.toNatClampNeg y)))) true H1 locs1 cells slots → W p l e R s m args below meth c H1 locs1 cells slots Q (F0 m (pc + 1) ls rest)) : W p l e R s m args below meth c H locs cells slots Q (F0 m pc ls (.int y :: .int i :: .ref (s0.heap.size + a) :: rest)) := by
  obtain ⟨z, hP, hS, -, hc1, hc2⟩ := hA
  refine va_iast hx hb (am_wK hC hI) hP (am_w_D h) hS a 0 (am_w_at ha) rfl hin hd (fun H1 locs1 hP1 _ hS1 => ?_)
  have ee : (am_w s0.heap.size od cI cJ h).set a (s0.heap.size + a, .inl (cI, n, .inl (upd f i.toNatClampNeg y))) = am_w s0.heap.size od cI cJ (h.set a (.inr (.inl (n, upd f i.toNatClampNeg y)))) := by
    rw [← am_w_set]
    rfl
  rw [ee] at hP1
  exact am_mk hI hP1 hS1 (w := true) (fun h => by cases h) (by rw [List.length_set]; exact hc1) (by rw [am_sz_set (d := .inr (.inl (n, upd f i.toNatClampNeg y))) ha rfl]; exact hc2) (K H1 locs1)
theorem am_oja (hx : p.tables.exec = Jvm.exec) (hb : c.code = cc) (hC : am_ctx l s0 A0 D cI cJ od sc) (hI : am_I s0 D cI cJ od h0 s) (hd : decode cc pc = .ok (.laload, 1)) (hA : am_at s0 s D cI cJ od h0 h w H locs cells slots) {a n : Nat} {f : Nat → Int64} {i : Int32} (ha : h[a]? = some (.inr (.inr (n, f)))) (hin : ¬ (i < 0 ∨ n ≤ i.toNatClampNeg))
    (K : W p l e R s m args below meth c H locs cells slots Q (F0 m (pc + 1) ls (.long (f i.toNatClampNeg) :: rest))) : W p l e R s m args below meth c H locs cells slots Q (F0 m pc ls (.int i :: .ref (s0.heap.size + a) :: rest)) :=
  va_lald hx hb (am_wK hC hI) hA.2.1 a 1 (am_w_at ha) rfl hin hd K
theorem am_ojs (hx : p.tables.exec = Jvm.exec) (hb : c.code = cc) (hC : am_ctx l s0 A0 D cI cJ od sc) (hI : am_I s0 D cI cJ od h0 s) (hd : decode cc pc = .ok (.lastore, 1)) (hA : am_at s0 s D cI cJ od h0 h w H locs cells slots) {a n : Nat} {f : Nat → Int64} {i : Int32} {y : Int64} (ha : h[a]? = some (.inr (.inr (n, f)))) (hin : ¬ (i < 0 ∨ n ≤ i.toNatClampNeg))
    (K : ∀ (H1 : Heap) (locs1 : List Loc), am_at s0 s D cI cJ od h0 (h.set a (.inr (.inr (n, vp_updL f i.toNatClampNeg y)))) true H1 locs1 cells slots → W p l e R s m args below meth c H1 locs1 cells slots Q (F0 m (pc + 1) ls rest)) : W p l e R s m args below meth c H locs cells slots Q (F0 m pc ls (.long y :: .int i :: .ref (s0.heap.size + a) :: rest)) := by
  obtain ⟨z, hP, hS, -, hc1, hc2⟩ := hA
  refine va_last hx hb (am_wK hC hI) hP (am_w_D h) hS a 1 (am_w_at ha) rfl hin hd (fun H1 locs1 hP1 _ hS1 => ?_)
  have ee : (am_w s0.heap.size od cI cJ h).set a (s0.heap.size + a, .inl (cJ, n, .inr (.inl (vp_updL f i.toNatClampNeg y)))) = am_w s0.heap.size od cI cJ (h.set a (.inr (.inr (n, vp_updL f i.toNatClampNeg y)))) := by
    rw [← am_w_set]
    rfl
  rw [ee] at hP1
  exact am_mk hI hP1 hS1 (w := true) (fun h => by cases h) (by rw [List.length_set]; exact hc1) (by rw [am_sz_set (d := .inr (.inr (n, vp_updL f i.toNatClampNeg y))) ha rfl]; exact hc2) (K H1 locs1)
/-- a new cell lies behind all others -/
theorem am_mkn {gf : Nat → JFrame} {q : Nat} {cn : am_C} (hI : am_I s0 D cI cJ od h0 s) (hA : am_at s0 s D cI cJ od h0 h w H locs cells slots) {H1 : Heap} (hP : va_P D am_cl (am_w s0.heap.size od cI cJ h ++ [(q, am_tr s0.heap.size od cI cJ cn)]) H1) (hD : va_D (fun q => s0.heap.size ≤ q) (am_w s0.heap.size od cI cJ h ++ [(q, am_tr s0.heap.size od cI cJ cn)])) (hS : va_S (fun q => s0.heap.size ≤ q) s.heap H1 locs) {n : Nat} (hn : am_cz cn = n)
    (K : am_at s0 s D cI cJ od h0 (h ++ [cn]) w H1 locs (cells + 1) (slots + n) → W p l e R s m args below meth c H1 locs (cells + 1) (slots + n) Q (gf (s0.heap.size + h.length))) : W p l e R s m args below meth c H1 locs (cells + 1) (slots + n) Q (gf q) := by
  intro T hT X
  obtain ⟨z, hP0, hS0, hw, hc1, hc2⟩ := hA
  have h1 := X.heapSize
  rw [hT, hI.2.1] at h1
  have hlw : (am_w s0.heap.size od cI cJ h).length = h.length := by simp [am_w]
  have hlast : (am_w s0.heap.size od cI cJ h ++ [(q, am_tr s0.heap.size od cI cJ cn)])[h.length]? = some (q, am_tr s0.heap.size od cI cJ cn) := by
    rw [List.getElem?_append_right (by omega), hlw, Nat.sub_self]
    rfl
  have h2 : q < H1.size := (hP _ _ hlast).lt
  have h3 : s0.heap.size ≤ q := hD.2 _ _ hlast
  have h4 : q = s0.heap.size + h.length := by
    by_cases hq : q < s0.heap.size + h.length
    · exfalso
      have hi : q - s0.heap.size < h.length := by omega
      have ha := am_w_at (b0 := s0.heap.size) (od := od) (cI := cI) (cJ := cJ) (List.getElem?_eq_getElem hi)
      have hb : (am_w s0.heap.size od cI cJ h ++ [(q, am_tr s0.heap.size od cI cJ cn)])[q - s0.heap.size]? = some (s0.heap.size + (q - s0.heap.size), am_tr s0.heap.size od cI cJ h[q - s0.heap.size]) := by
        rw [List.getElem?_append_left (by omega)]
        exact ha
      have he := hD.1 _ _ _ _ hb hlast (by simp only; omega)
      omega
    · omega
  subst h4
  rw [← am_w_app] at hP
  refine K ⟨?_, hP, hS, hw, ?_, ?_⟩ T hT X
  · rw [List.length_append, List.length_singleton]; omega
  · rw [List.length_append, List.length_singleton]; omega
  · rw [am_sz_app, hn]; omega
theorem am_dfs_map {x : Nat} (hk : am_clok x) (b0 : Nat) : (am_dfs.getD x []).map (am_g b0 od) = am_dfs.getD x [] := by
  have h := List.all_eq_true.mp hk.2.2.2.2.2.2.2.2.2.1
  refine (List.map_congr_left (g := id) (fun v hv => ?_)).trans (List.map_id _)
  have h1 := h v hv
  cases v <;> first | rfl | simp at h1
theorem am_onew (hx : p.tables.exec = Jvm.exec) (hb : c.code = cc) {own : String} (hown : s.vm.findClass own = some m.cls) (hC : am_ctx l s0 A0 D cI cJ od sc) (hI : am_I s0 D cI cJ od h0 s) {x i : Nat} (hk : am_clok x) (hlink : (Jvm.Cond.classLink own i (am_cw x).1).before args s = true) (hd : decode cc pc = .ok (.new i, 3)) (hA : am_at s0 s D cI cJ od h0 h w H locs cells slots) (hr : cells + 1 ≤ R.cells ∧ slots + am_ns x ≤ R.slots)
    (K : ∀ H1 : Heap, am_at s0 s D cI cJ od h0 (h ++ [.inl (x, am_dfs.getD x [])]) w H1 locs (cells + 1) (slots + am_ns x) → W p l e R s m args below meth c H1 locs (cells + 1) (slots + am_ns x) Q (F0 m (pc + 3) ls (.ref (s0.heap.size + h.length) :: rest))) : W p l e R s m args below meth c H locs cells slots Q (F0 m pc ls rest) := by
  have hN : (am_cw x).2.2 = am_ns x := hk.2.2.2.2.1
  refine va_new (D := D) (ci := x) (fs := (am_dfs.getD x []).map (am_g s0.heap.size od)) (C := (am_cw x).1) (T := (am_cw x).2.1) (N := (am_cw x).2.2) (Ts := u_ws (am_cw x).1 (am_cw x).2.1 (am_cw x).2.2) hx hb (fun w hw => am_wd hC hI (hk.2.2.1 w hw).1 (hk.2.2.1 w hw).2) (fun _ hw => hw) (am_ft x) hk.1 hown hlink (am_wd hC hI hk.2.2.2.2.2.2.2.1 rfl) (am_wd hC hI hk.2.2.2.2.2.2.2.2.1 rfl) (am_wK hC hI) hA.2.1 (am_w_D h) hA.2.2.1 (fun q hq => ?_) hk.2.2.2.1 (fun j hj => ?_) hr.1 (by rw [hN]; exact hr.2) hd (fun q H1 hP1 hD1 hS1 => ?_)
  · show s0.heap.size ≤ q
    rw [hI.2.1] at hq
    omega
  · rw [am_dfs_map hk]
    exact hk.2.2.2.2.2.1 j hj
  · rw [hN]
    exact am_mkn (gf := fun q => F0 m (pc + 3) ls (.ref q :: rest)) (cn := .inl (x, am_dfs.getD x [])) hI hA hP1 hD1 hS1 rfl (K H1)
theorem am_onwi (hx : p.tables.exec = Jvm.exec) (hb : c.code = cc) (hC : am_ctx l s0 A0 D cI cJ od sc) (hI : am_I s0 D cI cJ od h0 s) (harr : (Jvm.Cond.arrayClass .int).before args s = true) (hd : decode cc pc = .ok (.newarray .int, 2)) (hA : am_at s0 s D cI cJ od h0 h w H locs cells slots) {n : Int32} (hn : ¬ (n < 0 ∨ 4096 < n.toNatClampNeg)) (hr : cells + 1 ≤ R.cells ∧ slots + n.toNatClampNeg ≤ R.slots)
    (K : ∀ H1 : Heap, am_at s0 s D cI cJ od h0 (h ++ [.inr (.inl (n.toNatClampNeg, fun _ => 0))]) w H1 locs (cells + 1) (slots + n.toNatClampNeg) → W p l e R s m args below meth c H1 locs (cells + 1) (slots + n.toNatClampNeg) Q (F0 m (pc + 2) ls (.ref (s0.heap.size + h.length) :: rest))) : W p l e R s m args below meth c H locs cells slots Q (F0 m pc ls (.int n :: rest)) := by
  have hK := am_wK hC hI
  refine va_newa (atype := .int) (ty := .int) (a0 := (n.toNatClampNeg, .inl (fun _ => 0))) hx hb harr rfl hK hA.2.1 (am_w_D h) hA.2.2.1 (fun q hq => ?_) (fun _ => rfl) (fun q => hn (Or.inl q)) rfl ?_ hr.1 hr.2 hd (fun q cA H1 hK1 hP1 hD1 hS1 => ?_)
  · show s0.heap.size ≤ q
    rw [hI.2.1] at hq
    omega
  · have h4 : n.toNatClampNeg ≤ 4096 := Nat.le_of_not_lt (fun q => hn (Or.inr q))
    have h5 : componentBytes .int = 4 := rfl
    rw [h5]
    omega
  · have e1 : s.vm.findClass ("[" ++ (FieldType.int).toString) = some cA := (hK1.2 2 _ rfl).2
    have e2 : s.vm.findClass ("[" ++ (FieldType.int).toString) = some cI := (hK.2 0 _ rfl).2
    have e3 : cA = cI := Option.some.inj (e1.symm.trans e2)
    subst e3
    exact am_mkn (gf := fun q => F0 m (pc + 2) ls (.ref q :: rest)) (cn := .inr (.inl (n.toNatClampNeg, fun _ => 0))) hI hA hP1 hD1 hS1 rfl (K H1)
theorem am_onwj (hx : p.tables.exec = Jvm.exec) (hb : c.code = cc) (hC : am_ctx l s0 A0 D cI cJ od sc) (hI : am_I s0 D cI cJ od h0 s) (harr : (Jvm.Cond.arrayClass .long).before args s = true) (hd : decode cc pc = .ok (.newarray .long, 2)) (hA : am_at s0 s D cI cJ od h0 h w H locs cells slots) {n : Int32} (hn : ¬ (n < 0 ∨ 4096 < n.toNatClampNeg)) (hr : cells + 1 ≤ R.cells ∧ slots + n.toNatClampNeg ≤ R.slots)
    (K : ∀ H1 : Heap, am_at s0 s D cI cJ od h0 (h ++ [.inr (.inr (n.toNatClampNeg, fun _ => 0))]) w H1 locs (cells + 1) (slots + n.toNatClampNeg) → W p l e R s m args below meth c H1 locs (cells + 1) (slots + n.toNatClampNeg) Q (F0 m (pc + 2) ls (.ref (s0.heap.size + h.length) :: rest))) : W p l e R s m args below meth c H locs cells slots Q (F0 m pc ls (.int n :: rest)) := by
  have hK := am_wK hC hI
  refine va_newa (atype := .long) (ty := .long) (a0 := (n.toNatClampNeg, .inr (.inl (fun _ => 0)))) hx hb harr rfl hK hA.2.1 (am_w_D h) hA.2.2.1 (fun q hq => ?_) (fun _ => rfl) (fun q => hn (Or.inl q)) rfl ?_ hr.1 hr.2 hd (fun q cA H1 hK1 hP1 hD1 hS1 => ?_)
  · show s0.heap.size ≤ q
    rw [hI.2.1] at hq
    omega
  · have h4 : n.toNatClampNeg ≤ 4096 := Nat.le_of_not_lt (fun q => hn (Or.inr q))
    have h5 : componentBytes .long = 8 := rfl
    rw [h5]
    omega
  · have e1 : s.vm.findClass ("[" ++ (FieldType.long).toString) = some cA := (hK1.2 2 _ rfl).2
    have e2 : s.vm.findClass ("[" ++ (FieldType.long).toString) = some cJ := (hK.2 1 _ rfl).2
    have e3 : cA = cJ := Option.some.inj (e1.symm.trans e2)
    subst e3
    exact am_mkn (gf := fun q => F0 m (pc + 2) ls (.ref q :: rest)) (cn := .inr (.inr (n.toNatClampNeg, fun _ => 0))) hI hA hP1 hD1 hS1 rfl (K H1)
theorem am_ocpy (hx : p.tables.exec = Jvm.exec) (hb : c.code = cc) (hml : c.maxLocals = ls.size) {own : String} (hown : s.vm.findClass own = some m.cls) (hC : am_ctx l s0 A0 D cI cJ od sc) (hI : am_I s0 D cI cJ od h0 s) {i : Nat} (hlink : (Jvm.Cond.methodLink own i arraycopyName).before args s = true) (hnat : (Jvm.Cond.native arraycopyName).before args s = true) (hstat : (Jvm.Cond.static arraycopyName).before args s = true) (hini : (Jvm.Cond.initialized "java/lang/System").before args s = true) (hd : decode cc pc = .ok (.invokestatic i, 3)) (hA : am_at s0 s D cI cJ od h0 h w H locs cells slots)
    {a0 a1 n0 n1 : Nat} {f g : Nat → Int32} {sp dp n : Int32} (ha0 : h[a0]? = some (.inr (.inl (n0, f)))) (ha1 : h[a1]? = some (.inr (.inl (n1, g)))) (hok : ¬ (sp < 0 ∨ dp < 0 ∨ n < 0 ∨ n0 < sp.toNatClampNeg + n.toNatClampNeg ∨ n1 < dp.toNatClampNeg + n.toNatClampNeg ∨ a0 = a1)) (hfr : 1 ≤ R.frames) (hlo : (rest.map fun v => v.category).sum + 18 ≤ R.locals)
    (K : ∀ (H1 : Heap) (locs1 : List Loc), am_at s0 s D cI cJ od h0 (h.set a1 (.inr (.inl (n1, va_cpy f g sp.toNatClampNeg dp.toNatClampNeg n.toNatClampNeg)))) true H1 locs1 cells slots → W p l e R s m args below meth c H1 locs1 cells slots Q (F0 m (pc + 3) ls rest)) : W p l e R s m args below meth c H locs cells slots Q (F0 m pc ls (.int n :: .int dp :: .ref (s0.heap.size + a1) :: .int sp :: .ref (s0.heap.size + a0) :: rest)) := by
  obtain ⟨z, hP, hS, -, hc1, hc2⟩ := hA
  simp only [not_or] at hok
  obtain ⟨o1, o2, o3, o4, o5, -⟩ := hok
  refine va_copyi hx hb hml hown hlink hnat hstat hini (am_wK hC hI) hP (am_w_D h) hS a0 a1 0 0 (am_w_at ha0) (am_w_at ha1) rfl rfl rfl o1 o2 o3 (Nat.le_of_not_lt o4) (Nat.le_of_not_lt o5) (fun _ _ => rfl) hfr (by
    have hw : nativeFrameWords "java/lang/System" "arraycopy" 5 = 7 := by decide
    rw [hw]; exact hlo) hd (fun H1 locs1 hP1 _ hS1 => ?_)
  have ee : (am_w s0.heap.size od cI cJ h).set a1 (s0.heap.size + a1, .inl (cI, n1, .inl (va_cpy f g sp.toNatClampNeg dp.toNatClampNeg n.toNatClampNeg))) = am_w s0.heap.size od cI cJ (h.set a1 (.inr (.inl (n1, va_cpy f g sp.toNatClampNeg dp.toNatClampNeg n.toNatClampNeg)))) := by
    rw [← am_w_set]
    rfl
  rw [ee] at hP1
  exact am_mk hI hP1 hS1 (w := true) (fun h => by cases h) (by rw [List.length_set]; exact hc1) (by rw [am_sz_set (d := .inr (.inl (n1, va_cpy f g sp.toNatClampNeg dp.toNatClampNeg n.toNatClampNeg))) ha1 rfl]; exact hc2) (K H1 locs1)
end AMO
