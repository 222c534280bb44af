/-! Rows of code, on. -/
theorem am_kb_66 : (List.range' 66 2).all am_kb = true := by decide +kernel
theorem am_kb_68 : (List.range' 68 1).all am_kb = true := by decide +kernel
theorem am_kb_69 : (List.range' 69 1).all am_kb = true := by decide +kernel
theorem am_kb_70 : (List.range' 70 1).all am_kb = true := by decide +kernel
theorem am_kb_71 : (List.range' 71 1).all am_kb = true := by decide +kernel
theorem am_kb_72 : (List.range' 72 3).all am_kb = true := by decide +kernel
theorem am_kb_75 : (List.range' 75 3).all am_kb = true := by decide +kernel
theorem am_kb_78 : (List.range' 78 6).all am_kb = true := by decide +kernel
theorem am_kb_84 : (List.range' 84 8).all am_kb = true := by decide +kernel
theorem am_kb_92 : (List.range' 92 5).all am_kb = true := by decide +kernel
theorem am_kb_97 : (List.range' 97 6).all am_kb = true := by decide +kernel
theorem am_kb_103 : (List.range' 103 8).all am_kb = true := by decide +kernel
theorem am_kb_111 : (List.range' 111 1).all am_kb = true := by decide +kernel
theorem am_kb_112 : (List.range' 112 4).all am_kb = true := by decide +kernel
