/-! THE ABSTRACT MACHINE (mine): a pure picture of a run of the program's bytecode. Its heap is a list of cells by number: an object (class, fields), a row of ints, a row of longs; a reference is a cell's number; '.float t' stands for a row that was there before (t 0 to 3: the class's constant rows, 4: the script). A state: place, locals, stack, heap, and whether a cell was written in this call. -/
abbrev am_C : Type := (Nat × List Value) ⊕ ((Nat × (Nat → Int32)) ⊕ (Nat × (Nat → Int64)))
abbrev am_H : Type := List am_C
abbrev am_L : Type := List (Option Value)
abbrev am_F : Type := Nat × am_L × List Value × am_H × Bool
abbrev am_R : Type := (Option Value ⊕ Nat) × am_H × Bool
abbrev am_S : Type := Nat × (Nat → Int32)
def am_row (k : Nat) : am_M := am_mt.getD k (⟨"", "", ""⟩, ⟨#[]⟩, 0, none, 0, [], [])
def am_nm (k : Nat) : MethodName := (am_row k).1
def am_by (k : Nat) : ByteArray := (am_row k).2.1
def am_ml (k : Nat) : Nat := (am_row k).2.2.1
def am_rt (k : Nat) : Option FieldType := (am_row k).2.2.2.1
def am_ow (k : Nat) : Nat := (am_row k).2.2.2.2.1
def am_hd (k : Nat) : List (Nat × Nat × Nat × Nat) := (am_row k).2.2.2.2.2.1
def am_code (k : Nat) : List am_E := (am_row k).2.2.2.2.2.2
def am_find (pc : Nat) : List am_E → Option am_E
  | [] => none
  | q :: l => bif Nat.beq q.1 pc then some q else am_find pc l
def am_op (k pc : Nat) : Option am_E := am_find pc (am_code k)
/-- what is forgotten of the locals does no harm -/
def am_fg (L M : am_L) : Prop := M.length = L.length ∧ ∀ (i : Nat) (v : Value), M[i]? = some (some v) → L[i]? = some (some v)
/-- locals -/
def am_clr (L : am_L) : Nat → am_L
  | 0 => L
  | j + 1 => match L[j]? with
    | some (some (.long _)) => L.set j none
    | some (some (.double _)) => L.set j none
    | _ => L
def am_st1 (L : am_L) (i : Nat) (v : Value) : Option am_L := bif Nat.blt i L.length then some ((am_clr L i).set i (some v)) else none
def am_st2 (L : am_L) (i : Nat) (v : Value) : Option am_L := bif Nat.blt (i + 1) L.length then some (((am_clr L i).set i (some v)).set (i + 1) none) else none
def am_lay : List Value → am_L
  | [] => []
  | .long x :: l => some (.long x) :: none :: am_lay l
  | v :: l => some v :: am_lay l
def am_ent (k : Nat) (as : List Value) : am_L := am_lay as ++ List.replicate (am_ml k - (am_lay as).length) none
/-- branches -/
def am_tg (pc : Nat) (off : Int) : Option Nat := match (pc : Int) + off with
  | .ofNat t => some t
  | .negSucc _ => none
def am_c1 : Jvm.ClassFile.Cond → Int32 → Bool
  | .eq, x => decide (x = 0)
  | .ne, x => decide (¬ x = 0)
  | .lt, x => decide (x < 0)
  | .ge, x => decide (0 ≤ x)
  | .gt, x => decide (0 < x)
  | .le, x => decide (x ≤ 0)
def am_c2 : Jvm.ClassFile.Cond → Int32 → Int32 → Bool
  | .eq, x, y => decide (x = y)
  | .ne, x, y => decide (¬ x = y)
  | .lt, x, y => decide (x < y)
  | .ge, x, y => decide (y ≤ x)
  | .gt, x, y => decide (y < x)
  | .le, x, y => decide (x ≤ y)
/-- constants as the literals that they are -/
def am_i : Int → Int32
  | .ofNat m => Int32.ofNat m
  | .negSucc m => -(Int32.ofNat (m + 1))
def am_j : Int → Int64
  | .ofNat m => Int64.ofNat m
  | .negSucc m => -(Int64.ofNat (m + 1))
/-- group A: constants, loads -/
def am_sA (x : Nat) (v : Int) (I : Instr) (L : am_L) : Option (Value × Nat) := match I with
  | .ldc _ => bif Nat.beq x 0 then some (.int (am_i v), 2) else none
  | .ldc_w _ => bif Nat.beq x 0 then some (.int (am_i v), 3) else none
  | .ldc2_w _ => some (.long (am_j v), 3)
  | .iconst n => some (.int (am_i n), 1)
  | .bipush n => some (.int (am_i n), 2)
  | .sipush n => some (.int (am_i n), 3)
  | .lconst n => some (.long (Int64.ofNat n), 1)
  | .iload_n n => match L[(n : Nat)]? with
    | some (some (.int x)) => some (.int x, 1)
    | _ => none
  | .iload n => match L[n]? with
    | some (some (.int x)) => some (.int x, 2)
    | _ => none
  | .lload_n n => match L[(n : Nat)]? with
    | some (some (.long x)) => some (.long x, 1)
    | _ => none
  | .lload n => match L[n]? with
    | some (some (.long x)) => some (.long x, 2)
    | _ => none
  | .aload_n n => match L[(n : Nat)]? with
    | some (some (.ref x)) => some (.ref x, 1)
    | some (some (.float x)) => some (.float x, 1)
    | _ => none
  | .aload n => match L[n]? with
    | some (some (.ref x)) => some (.ref x, 2)
    | some (some (.float x)) => some (.float x, 2)
    | _ => none
  | _ => none
/-- group B: stores -/
def am_sB (I : Instr) (L : am_L) (st : List Value) : Option (am_L × List Value × Nat) := match I, st with
  | .istore_n n, .int x :: r => (am_st1 L n (.int x)).map (fun M => (M, r, 1))
  | .istore n, .int x :: r => (am_st1 L n (.int x)).map (fun M => (M, r, 2))
  | .lstore_n n, .long x :: r => (am_st2 L n (.long x)).map (fun M => (M, r, 1))
  | .lstore n, .long x :: r => (am_st2 L n (.long x)).map (fun M => (M, r, 2))
  | .astore_n n, .ref x :: r => (am_st1 L n (.ref x)).map (fun M => (M, r, 1))
  | .astore_n n, .float x :: r => (am_st1 L n (.float x)).map (fun M => (M, r, 1))
  | .astore n, .ref x :: r => (am_st1 L n (.ref x)).map (fun M => (M, r, 2))
  | .astore n, .float x :: r => (am_st1 L n (.float x)).map (fun M => (M, r, 2))
  | .iinc n d, r => match L[n]? with
    | some (some (.int x)) => (am_st1 L n (.int (x + am_i d))).map (fun M => (M, r, 3))
    | _ => none
  | _, _ => none
/-- group C: numbers on the stack (all of one byte) -/
def am_sC (I : Instr) (st : List Value) : Option (List Value) := match I, st with
  | .iadd, .int y :: .int x :: r => some (.int (x + y) :: r)
  | .isub, .int y :: .int x :: r => some (.int (x - y) :: r)
  | .imul, .int y :: .int x :: r => some (.int (x * y) :: r)
  | .iand, .int y :: .int x :: r => some (.int (x &&& y) :: r)
  | .ior, .int y :: .int x :: r => some (.int (x ||| y) :: r)
  | .ishl, .int y :: .int x :: r => some (.int (x <<< (y &&& 31)) :: r)
  | .ishr, .int y :: .int x :: r => some (.int (x >>> (y &&& 31)) :: r)
  | .ineg, .int x :: r => some (.int (-x) :: r)
  | .idiv, .int y :: .int x :: r => if y = 0 then none else some (.int (x / y) :: r)
  | .irem, .int y :: .int x :: r => if y = 0 then none else some (.int (x - x / y * y) :: r)
  | .ladd, .long y :: .long x :: r => some (.long (x + y) :: r)
  | .lsub, .long y :: .long x :: r => some (.long (x - y) :: r)
  | .land, .long y :: .long x :: r => some (.long (x &&& y) :: r)
  | .lor, .long y :: .long x :: r => some (.long (x ||| y) :: r)
  | .ldiv, .long y :: .long x :: r => if y = 0 then none else some (.long (x / y) :: r)
  | .lrem, .long y :: .long x :: r => if y = 0 then none else some (.long (x - x / y * y) :: r)
  | .lshl, .int y :: .long x :: r => some (.long (x <<< (y.toInt64 &&& 63)) :: r)
  | .lshr, .int y :: .long x :: r => some (.long (x >>> (y.toInt64 &&& 63)) :: r)
  | .lushr, .int y :: .long x :: r => some (.long (x.toUInt64 >>> (y.toInt64.toUInt64 &&& Int64.toUInt64 63)).toInt64 :: r)
  | .lcmp, .long y :: .long x :: r => some (.int (lg_cmp x y) :: r)
  | .i2l, .int x :: r => some (.long x.toInt64 :: r)
  | .l2i, .long x :: r => some (.int x.toInt32 :: r)
  | .i2s, .int x :: r => some (.int x.toInt16.toInt32 :: r)
  | .dup, .ref x :: r => some (.ref x :: .ref x :: r)
  | .dup, .int x :: r => some (.int x :: .int x :: r)
  | .pop, .int _ :: r => some r
  | .pop, .ref _ :: r => some r
  | _, _ => none
/-- group D: where it goes on -/
def am_sD (I : Instr) (len pc : Nat) (st : List Value) : Option (Nat × List Value) := match I, st with
  | .ifCond c o, .int x :: r => bif Nat.beq len 3 then (am_tg pc o).map (fun t => (bif am_c1 c x then t else pc + 3, r)) else none
  | .if_icmp c o, .int y :: .int x :: r => bif Nat.beq len 3 then (am_tg pc o).map (fun t => (bif am_c2 c x y then t else pc + 3, r)) else none
  | .goto o, r => bif Nat.beq len 3 then (am_tg pc o).map (fun t => (t, r)) else none
  | .tableswitch d lo hi offs, .int x :: r => if x.toInt < lo ∨ hi < x.toInt then (am_tg pc d).map (fun t => (t, r)) else match offs[(x.toInt - lo).toNat]? with
    | some o => (am_tg pc o).map (fun t => (t, r))
    | none => none
  | .lookupswitch d ps, .int x :: r => (am_tg pc (Op.lookupswitch.offset ps.toList d x.toInt)).map (fun t => (t, r))
  | _, _ => none
/-- a stack's weight -/
def am_wt : List Value → Nat
  | [] => 0
  | .long _ :: l => am_wt l + 2
  | .double _ :: l => am_wt l + 2
  | _ :: l => am_wt l + 1
/-- group E: the heap -/
def am_fit : FieldType → Value → Bool
  | .int, .int _ => true
  | .long, .long _ => true
  | .boolean, .int v => v == 0 || v == 1
  | .object _, .ref _ => true
  | .array _, .ref _ => true
  | _, _ => false
def am_ft (c k : Nat) : FieldType := (am_tys.getD c (fun _ => .int)) k
def am_fin (c k : Nat) : Bool := ((am_cl.getD c ("", am_TX, 0)).2.1 k).2.2.2
def am_ini (k : Nat) : Bool := (am_nm k).name == "<init>"
def am_ia (sc : am_S) (h : am_H) (v : Value) : Option (Nat × (Nat → Int32)) := match v with
  | .ref a => match h[a]? with
    | some (.inr (.inl q)) => some q
    | _ => none
  | .float t => bif Nat.beq t.toNat 4 then some sc else am_tb[t.toNat]?
  | _ => none
def am_sE (sc : am_S) (k x y : Nat) (I : Instr) (st : List Value) (h : am_H) (w : Bool) : Option (List Value × am_H × Bool × Nat) := match I, st with
  | .getfield _, .ref a :: r => match h[a]? with
    | some (.inl (c, fs)) => bif Nat.beq c x then (fs[y]?).map (fun v => (v :: r, h, w, 3)) else none
    | _ => none
  | .putfield _, v :: .ref a :: r => match h[a]? with
    | some (.inl (c, fs)) => bif Nat.beq c x && Nat.blt y fs.length && am_fit (am_ft x y) v && (!(am_fin x y) || (am_ini k && Nat.beq (am_ow k) x)) then some (r, h.set a (.inl (c, fs.set y v)), true, 3) else none
    | _ => none
  | .getstatic _, r => bif Nat.blt x 4 then some (.float (UInt32.ofNat x) :: r, h, w, 3) else none
  | .iaload, .int i :: v :: r => match am_ia sc h v with
    | some (n, f) => if i < 0 ∨ n ≤ i.toNatClampNeg then none else some (.int (f i.toNatClampNeg) :: r, h, w, 1)
    | none => none
  | .iastore, .int u :: .int i :: .ref a :: r => match h[a]? with
    | some (.inr (.inl (n, f))) => if i < 0 ∨ n ≤ i.toNatClampNeg then none else some (r, h.set a (.inr (.inl (n, upd f i.toNatClampNeg u))), true, 1)
    | _ => none
  | .laload, .int i :: .ref a :: r => match h[a]? with
    | some (.inr (.inr (n, f))) => if i < 0 ∨ n ≤ i.toNatClampNeg then none else some (.long (f i.toNatClampNeg) :: r, h, w, 1)
    | _ => none
  | .lastore, .long u :: .int i :: .ref a :: r => match h[a]? with
    | some (.inr (.inr (n, f))) => if i < 0 ∨ n ≤ i.toNatClampNeg then none else some (r, h.set a (.inr (.inr (n, vp_updL f i.toNatClampNeg u))), true, 1)
    | _ => none
  | .arraylength, v :: r => match am_ia sc h v with
    | some (n, _) => some (.int (Int32.ofNat n) :: r, h, w, 1)
    | none => none
  | .newarray .int, .int n :: r => if n < 0 ∨ 4096 < n.toNatClampNeg then none else some (.ref h.length :: r, h ++ [.inr (.inl (n.toNatClampNeg, fun _ => 0))], w, 2)
  | .newarray .long, .int n :: r => if n < 0 ∨ 4096 < n.toNatClampNeg then none else some (.ref h.length :: r, h ++ [.inr (.inr (n.toNatClampNeg, fun _ => 0))], w, 2)
  | .new _, r => bif Nat.blt x 9 then some (.ref h.length :: r, h ++ [.inl (x, am_dfs.getD x [])], w, 3) else none
  | .invokespecial _, .ref _ :: r => bif Nat.beq x 6 && Nat.ble (am_wt r) 8 then some (r, h, w, 3) else none
  | .invokestatic _, .int n :: .int dp :: .ref a1 :: .int sp :: .ref a0 :: r => bif Nat.beq x 7 && Nat.ble (am_wt r) 8 then (match h[a0]?, h[a1]? with
    | some (.inr (.inl (n0, f))), some (.inr (.inl (n1, g))) => if sp < 0 ∨ dp < 0 ∨ n < 0 ∨ n0 < sp.toNatClampNeg + n.toNatClampNeg ∨ n1 < dp.toNatClampNeg + n.toNatClampNeg ∨ a0 = a1 then none else some (r, h.set a1 (.inr (.inl (n1, va_cpy f g sp.toNatClampNeg dp.toNatClampNeg n.toNatClampNeg))), true, 3)
    | _, _ => none) else none
  | _, _ => none
/-- a step that is neither a call nor an end -/
def am_s (sc : am_S) (k : Nat) (q : am_E) (f : am_F) : Option am_F := match f with
  | (pc, L, st, h, w) => match am_sA q.2.2.2.1 q.2.2.2.2.2.2.1 q.2.1 L with
    | some (v, n) => bif Nat.beq n q.2.2.1 then some (pc + n, L, v :: st, h, w) else none
    | none => match am_sB q.2.1 L st with
      | some (M, r, n) => bif Nat.beq n q.2.2.1 then some (pc + n, M, r, h, w) else none
      | none => match am_sC q.2.1 st with
        | some r => bif Nat.beq 1 q.2.2.1 then some (pc + 1, L, r, h, w) else none
        | none => match am_sD q.2.1 q.2.2.1 pc st with
          | some (t, r) => some (t, L, r, h, w)
          | none => match am_sE sc k q.2.2.2.1 q.2.2.2.2.1 q.2.1 st h w with
            | some (r, g, u, n) => bif Nat.beq n q.2.2.1 then some (pc + n, L, r, g, u) else none
            | none => none
/-- calls -/
def am_take : Nat → List Value → List Value → Option (List Value × List Value)
  | 0, as, st => some (as, st)
  | n + 1, as, v :: st => am_take n (v :: as) st
  | _ + 1, _, [] => none
def am_obj (h : am_H) (a : Nat) : Option Nat := match h[a]? with
  | some (.inl (c, _)) => some c
  | _ => none
/-- which method a call runs, with which arguments, and what stays on the stack -/
def am_call (q : am_E) (st : List Value) (h : am_H) : Option (Nat × List Value × List Value) := match q.2.1, q.2.2.2.1, am_take q.2.2.2.2.2.2.1.toNat [] st with
  | .invokestatic _, 0, some (as, r) => some (q.2.2.2.2.1, as, r)
  | .invokestatic _, 3, some (as, r) => some (q.2.2.2.2.1, as, r)
  | .invokespecial _, 2, some (as, .ref a :: r) => some (q.2.2.2.2.1, .ref a :: as, r)
  | .invokespecial _, 4, some (as, .ref a :: r) => some (q.2.2.2.2.1, .ref a :: as, r)
  | .invokevirtual _, 1, some (as, .ref a :: r) => match am_obj h a with
    | some c => bif Nat.beq c (am_ow q.2.2.2.2.1) then some (q.2.2.2.2.1, .ref a :: as, r) else none
    | none => none
  | .invokevirtual _, 5, some (as, .ref a :: r) => match am_obj h a with
    | some 5 => some (q.2.2.2.2.1, .ref a :: as, r)
    | some 2 => some (q.2.2.2.2.2.1, .ref a :: as, r)
    | _ => none
  | _, _, _ => none
/-- the end of a call (its flag may say 'written' though nothing was) -/
def am_end (k : Nat) (q : am_E) (f : am_F) (r : am_R) : Prop := q.2.2.1 = 1 ∧ r.2.1 = f.2.2.2.1 ∧ (r.2.2 = false → f.2.2.2.2 = false) ∧ match q.2.1, f.2.2.1 with
  | .ireturn, [.int x] => (am_rt k = some .int ∨ (am_rt k = some .boolean ∧ (x = 0 ∨ x = 1))) ∧ r.1 = .inl (some (.int x))
  | .lreturn, [.long x] => am_rt k = some .long ∧ r.1 = .inl (some (.long x))
  | .return_, [] => am_rt k = none ∧ r.1 = .inl none
  | _, _ => False
/-- new X; dup; ldc ..; X.<init>(String); athrow: nothing written, nothing made before -/
def am_thx (k pc x : Nat) : Bool := match am_op k (pc + 3), am_op k (pc + 4), am_op k (pc + 6), am_op k (pc + 9) with
  | some (_, .dup, 1, _), some (_, .ldc _, 2, 1, _), some (_, .invokespecial _, 3, 8, y, _), some (_, .athrow, 1, _) => Nat.beq x y
  | _, _, _, _ => false
def am_thr (d k : Nat) (q : am_E) (h0 : am_H) (f : am_F) (r : am_R) : Prop := match q.2.1 with
  | .new _ => q.2.2.1 = 3 ∧ 6 ≤ d ∧ 9 ≤ q.2.2.2.1 ∧ q.2.2.2.1 < 13 ∧ am_hd k = [] ∧ am_thx k f.1 q.2.2.2.1 = true ∧ am_wt f.2.2.1 ≤ 8 ∧ f.2.2.2.1 = h0 ∧ f.2.2.2.2 = false ∧ r = (.inr h0.length, h0 ++ [.inl (q.2.2.2.1, [])], false)
  | _ => False
/-- the handler of an exception of class c thrown by the call at pc -/
def am_ct (pc c : Nat) : List (Nat × Nat × Nat × Nat) → Option Nat
  | [] => none
  | (s, e, t, x) :: l => bif Nat.ble s pc && Nat.blt pc e && Nat.beq x c then some t else am_ct pc c l
def am_run (sc : am_S) (d : Nat) (E : Nat → List Value → am_H → am_R → Prop) (k : Nat) (h0 : am_H) : Nat → am_F → am_R → Prop
  | 0, _, _ => False
  | n + 1, f, r => (∃ M : am_L, am_fg f.2.1 M ∧ am_run sc d E k h0 n (f.1, M, f.2.2) r) ∨ match am_op k f.1 with
    | none => False
    | some q => match am_s sc k q f with
      | some g => am_run sc d E k h0 n g r
      | none => am_end k q f r ∨ am_thr d k q h0 f r ∨ ∃ (j : Nat) (as st : List Value) (o : Option Value ⊕ Nat) (h : am_H) (w : Bool), q.2.2.1 = 3 ∧ am_call q f.2.2.1 f.2.2.2.1 = some (j, as, st) ∧ am_wt st ≤ 8 ∧ E j as f.2.2.2.1 (o, h, w) ∧ match o with
        | .inl v => am_run sc d E k h0 n (f.1 + 3, f.2.1, v.toList ++ st, h, f.2.2.2.2 || w) r
        | .inr a => ∃ c t : Nat, q.2.2.2.1 = 1 ∧ h[a]? = some (.inl (c, [])) ∧ am_ct f.1 c (am_hd k) = some t ∧ am_run sc d E k h0 n (t, f.2.1, [.ref a], h, f.2.2.2.2 || w) r
/-- the arguments fit the method's locals -/
def am_asok (k : Nat) (as : List Value) : Bool := Nat.ble (am_lay as).length (am_ml k) && as.all (fun v => match v with
  | .double _ => false
  | _ => true)
/-- what a call comes to, at most d calls deep -/
def am_ev (sc : am_S) : Nat → Nat → List Value → am_H → am_R → Prop
  | 0, _, _, _, _ => False
  | d + 1, k, as, h, r => am_asok k as = true ∧ ∃ (b : Bool) (n : Nat), am_run sc (d + 1) (am_ev sc d) k h n (0, am_ent k as, [], h, b) r
