/-! Each row of code (printed by wip/gen/gen56.py; checked by the kernel). -/
def am_kb (k : Nat) : Bool := (am_code k).all (fun q => am_okb k q && am_rokb q)
theorem am_kb_0 : (List.range' 0 11).all am_kb = true := by decide +kernel
theorem am_kb_11 : (List.range' 11 10).all am_kb = true := by decide +kernel
theorem am_kb_21 : (List.range' 21 10).all am_kb = true := by decide +kernel
theorem am_kb_31 : (List.range' 31 5).all am_kb = true := by decide +kernel
theorem am_kb_36 : (List.range' 36 4).all am_kb = true := by decide +kernel
theorem am_kb_40 : (List.range' 40 3).all am_kb = true := by decide +kernel
theorem am_kb_43 : (List.range' 43 2).all am_kb = true := by decide +kernel
theorem am_kb_45 : (List.range' 45 3).all am_kb = true := by decide +kernel
theorem am_kb_48 : (List.range' 48 2).all am_kb = true := by decide +kernel
theorem am_kb_50 : (List.range' 50 3).all am_kb = true := by decide +kernel
theorem am_kb_53 : (List.range' 53 2).all am_kb = true := by decide +kernel
theorem am_kb_55 : (List.range' 55 4).all am_kb = true := by decide +kernel
theorem am_kb_59 : (List.range' 59 2).all am_kb = true := by decide +kernel
theorem am_kb_61 : (List.range' 61 5).all am_kb = true := by decide +kernel
