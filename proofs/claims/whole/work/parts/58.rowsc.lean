/-! Rows of code, on. -/
theorem am_kb_116 : (List.range' 116 4).all am_kb = true := by decide +kernel
theorem am_kb_120 : (List.range' 120 4).all am_kb = true := by decide +kernel
theorem am_kb_124 : (List.range' 124 1).all am_kb = true := by decide +kernel
theorem am_kb_125 : (List.range' 125 3).all am_kb = true := by decide +kernel
theorem am_kb_128 : (List.range' 128 2).all am_kb = true := by decide +kernel
theorem am_kb_130 : (List.range' 130 2).all am_kb = true := by decide +kernel
theorem am_kb_132 : (List.range' 132 1).all am_kb = true := by decide +kernel
theorem am_kb_133 : (List.range' 133 2).all am_kb = true := by decide +kernel
theorem am_kb_135 : (List.range' 135 4).all am_kb = true := by decide +kernel
theorem am_kb_139 : (List.range' 139 2).all am_kb = true := by decide +kernel
theorem am_kb_141 : (List.range' 141 1).all am_kb = true := by decide +kernel
theorem am_kb_142 : (List.range' 142 4).all am_kb = true := by decide +kernel
theorem am_kb_146 : (List.range' 146 1).all am_kb = true := by decide +kernel
theorem am_kb_147 : (List.range' 147 1).all am_kb = true := by decide +kernel
