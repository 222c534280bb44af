/-! Rows of code, on. -/
theorem am_kb_148 : (List.range' 148 1).all am_kb = true := by decide +kernel
theorem am_kb_149 : (List.range' 149 1).all am_kb = true := by decide +kernel
theorem am_kb_150 : (List.range' 150 1).all am_kb = true := by decide +kernel
theorem am_kb_151 : (List.range' 151 1).all am_kb = true := by decide +kernel
theorem am_kb_152 : (List.range' 152 2).all am_kb = true := by decide +kernel
theorem am_kb_154 : (List.range' 154 5).all am_kb = true := by decide +kernel
theorem am_kb_159 : (List.range' 159 3).all am_kb = true := by decide +kernel
theorem am_kb_162 : (List.range' 162 10).all am_kb = true := by decide +kernel
