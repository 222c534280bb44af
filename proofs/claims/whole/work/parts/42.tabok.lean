/-! The program's tables are right: each row of code is what the bytes decode to, its links are words of the tables. Checked by the kernel, method by method. -/
def am_on (k : Nat) : String := am_cn.getD (am_ow k) ""
def am_cw (c : Nat) : vw_C := am_cl.getD c ("", am_TX, 0)
def am_wd? (i : Nat) (w : Jvm.Cond) : Bool := decide (tables_1[i]? = some w)
def am_np (d : String) (n : Nat) : Bool := decide ((parseMethodDescriptor d).map (fun q => q.parameters.length) = some n)
def am_xn (c : Nat) : MethodName := ⟨am_cn.getD c "", "<init>", "(Ljava/lang/String;)V"⟩
def am_okb (k : Nat) (q : am_E) : Bool := match q with
  | (pc, I, len, x, y, z, v, wi) => decide (decode (am_by k) pc = .ok (I, len)) && am_kok v I && match I with
    | .getfield i => am_wd? wi (.fieldLink (am_on k) i ((am_cw x).2.1 y).1 ((am_cw x).2.1 y).2.1 ((am_cw x).2.1 y).2.2.1) && Nat.blt y (am_cw x).2.2 && Nat.blt x 9
    | .putfield i => am_wd? wi (.fieldLink (am_on k) i ((am_cw x).2.1 y).1 ((am_cw x).2.1 y).2.1 ((am_cw x).2.1 y).2.2.1) && Nat.blt y (am_cw x).2.2 && Nat.blt x 9
    | .getstatic i => am_wd? wi (.fieldLinkNest (am_on k) i "SoundShelf" (am_tn x) "[I" "SoundShelf")
    | .new i => am_wd? wi (.classLink (am_on k) i (am_cn.getD x "")) && Nat.blt x 13
    | .ldc i => bif Nat.beq x 0 then am_wd? wi (.constant (am_on k) i (Int32.ofInt v)) else (match tables_1[wi]? with
      | some (.stringRef o j _) => o == am_on k && j == i
      | _ => false)
    | .ldc_w i => am_wd? wi (.constant (am_on k) i (Int32.ofInt v))
    | .ldc2_w i => am_wd? wi (.constantLong (am_on k) i (Int64.ofInt v))
    | .invokestatic i => match x with
      | 0 => am_wd? wi (.methodLink (am_on k) i (am_nm y)) && am_np (am_nm y).desc v.toNat
      | 3 => am_wd? wi (.methodLinkNest (am_on k) i (am_nm y) "SoundShelf") && am_np (am_nm y).desc v.toNat
      | 7 => am_wd? wi (.methodLink (am_on k) i arraycopyName)
      | _ => false
    | .invokespecial i => match x with
      | 2 => am_wd? wi (.methodLink (am_on k) i (am_nm y)) && am_np (am_nm y).desc v.toNat && ((am_nm y).name == "<init>")
      | 4 => am_wd? wi (.methodLinkNest (am_on k) i (am_nm y) "SoundShelf") && am_np (am_nm y).desc v.toNat && ((am_nm y).name == "<init>")
      | 6 => am_wd? wi (.methodLink (am_on k) i Lib.objectInit)
      | 8 => am_wd? wi (.methodLink (am_on k) i (am_xn y)) && Nat.ble 9 y && Nat.blt y 13
      | _ => false
    | .invokevirtual i => match x with
      | 1 => am_wd? wi (.methodLink (am_on k) i (am_nm y)) && am_np (am_nm y).desc v.toNat
      | 5 => am_wd? wi (.methodLink (am_on k) i ⟨"SoundShelf$Coder", (am_nm y).name, (am_nm y).desc⟩) && am_np (am_nm y).desc v.toNat && ((am_nm z).name == (am_nm y).name) && ((am_nm z).desc == (am_nm y).desc)
      | _ => false
    | .lookupswitch _ ps => (ps.toList.zip (ps.toList.drop 1)).all (fun (a, next) => a.1 < next.1)
    | _ => true
