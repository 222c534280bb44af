/-! All rows of code. -/
theorem am_kbs (k : Nat) (h : k < 173) : am_kb k = true := by
  by_cases h0 : k < 11
  · exact List.all_eq_true.mp am_kb_0 k (List.mem_range'_1.mpr ⟨by omega, by omega⟩)
  by_cases h11 : k < 21
  · exact List.all_eq_true.mp am_kb_11 k (List.mem_range'_1.mpr ⟨by omega, by omega⟩)
  by_cases h21 : k < 31
  · exact List.all_eq_true.mp am_kb_21 k (List.mem_range'_1.mpr ⟨by omega, by omega⟩)
  by_cases h31 : k < 36
  · exact List.all_eq_true.mp am_kb_31 k (List.mem_range'_1.mpr ⟨by omega, by omega⟩)
  by_cases h36 : k < 40
  · exact List.all_eq_true.mp am_kb_36 k (List.mem_range'_1.mpr ⟨by omega, by omega⟩)
  by_cases h40 : k < 43
  · exact List.all_eq_true.mp am_kb_40 k (List.mem_range'_1.mpr ⟨by omega, by omega⟩)
  by_cases h43 : k < 45
  · exact List.all_eq_true.mp am_kb_43 k (List.mem_range'_1.mpr ⟨by omega, by omega⟩)
  by_cases h45 : k < 48
  · exact List.all_eq_true.mp am_kb_45 k (List.mem_range'_1.mpr ⟨by omega, by omega⟩)
  by_cases h48 : k < 50
  · exact List.all_eq_true.mp am_kb_48 k (List.mem_range'_1.mpr ⟨by omega, by omega⟩)
  by_cases h50 : k < 53
  · exact List.all_eq_true.mp am_kb_50 k (List.mem_range'_1.mpr ⟨by omega, by omega⟩)
  by_cases h53 : k < 55
  · exact List.all_eq_true.mp am_kb_53 k (List.mem_range'_1.mpr ⟨by omega, by omega⟩)
  by_cases h55 : k < 59
  · exact List.all_eq_true.mp am_kb_55 k (List.mem_range'_1.mpr ⟨by omega, by omega⟩)
  by_cases h59 : k < 61
  · exact List.all_eq_true.mp am_kb_59 k (List.mem_range'_1.mpr ⟨by omega, by omega⟩)
  by_cases h61 : k < 66
  · exact List.all_eq_true.mp am_kb_61 k (List.mem_range'_1.mpr ⟨by omega, by omega⟩)
  by_cases h66 : k < 68
  · exact List.all_eq_true.mp am_kb_66 k (List.mem_range'_1.mpr ⟨by omega, by omega⟩)
  by_cases h68 : k < 69
  · exact List.all_eq_true.mp am_kb_68 k (List.mem_range'_1.mpr ⟨by omega, by omega⟩)
  by_cases h69 : k < 70
  · exact List.all_eq_true.mp am_kb_69 k (List.mem_range'_1.mpr ⟨by omega, by omega⟩)
  by_cases h70 : k < 71
  · exact List.all_eq_true.mp am_kb_70 k (List.mem_range'_1.mpr ⟨by omega, by omega⟩)
  by_cases h71 : k < 72
  · exact List.all_eq_true.mp am_kb_71 k (List.mem_range'_1.mpr ⟨by omega, by omega⟩)
  by_cases h72 : k < 75
  · exact List.all_eq_true.mp am_kb_72 k (List.mem_range'_1.mpr ⟨by omega, by omega⟩)
  by_cases h75 : k < 78
  · exact List.all_eq_true.mp am_kb_75 k (List.mem_range'_1.mpr ⟨by omega, by omega⟩)
  by_cases h78 : k < 84
  · exact List.all_eq_true.mp am_kb_78 k (List.mem_range'_1.mpr ⟨by omega, by omega⟩)
  by_cases h84 : k < 92
  · exact List.all_eq_true.mp am_kb_84 k (List.mem_range'_1.mpr ⟨by omega, by omega⟩)
  by_cases h92 : k < 97
  · exact List.all_eq_true.mp am_kb_92 k (List.mem_range'_1.mpr ⟨by omega, by omega⟩)
  by_cases h97 : k < 103
  · exact List.all_eq_true.mp am_kb_97 k (List.mem_range'_1.mpr ⟨by omega, by omega⟩)
  by_cases h103 : k < 111
  · exact List.all_eq_true.mp am_kb_103 k (List.mem_range'_1.mpr ⟨by omega, by omega⟩)
  by_cases h111 : k < 112
  · exact List.all_eq_true.mp am_kb_111 k (List.mem_range'_1.mpr ⟨by omega, by omega⟩)
  by_cases h112 : k < 116
  · exact List.all_eq_true.mp am_kb_112 k (List.mem_range'_1.mpr ⟨by omega, by omega⟩)
  by_cases h116 : k < 120
  · exact List.all_eq_true.mp am_kb_116 k (List.mem_range'_1.mpr ⟨by omega, by omega⟩)
  by_cases h120 : k < 124
  · exact List.all_eq_true.mp am_kb_120 k (List.mem_range'_1.mpr ⟨by omega, by omega⟩)
  by_cases h124 : k < 125
  · exact List.all_eq_true.mp am_kb_124 k (List.mem_range'_1.mpr ⟨by omega, by omega⟩)
  by_cases h125 : k < 128
  · exact List.all_eq_true.mp am_kb_125 k (List.mem_range'_1.mpr ⟨by omega, by omega⟩)
  by_cases h128 : k < 130
  · exact List.all_eq_true.mp am_kb_128 k (List.mem_range'_1.mpr ⟨by omega, by omega⟩)
  by_cases h130 : k < 132
  · exact List.all_eq_true.mp am_kb_130 k (List.mem_range'_1.mpr ⟨by omega, by omega⟩)
  by_cases h132 : k < 133
  · exact List.all_eq_true.mp am_kb_132 k (List.mem_range'_1.mpr ⟨by omega, by omega⟩)
  by_cases h133 : k < 135
  · exact List.all_eq_true.mp am_kb_133 k (List.mem_range'_1.mpr ⟨by omega, by omega⟩)
  by_cases h135 : k < 139
  · exact List.all_eq_true.mp am_kb_135 k (List.mem_range'_1.mpr ⟨by omega, by omega⟩)
  by_cases h139 : k < 141
  · exact List.all_eq_true.mp am_kb_139 k (List.mem_range'_1.mpr ⟨by omega, by omega⟩)
  by_cases h141 : k < 142
  · exact List.all_eq_true.mp am_kb_141 k (List.mem_range'_1.mpr ⟨by omega, by omega⟩)
  by_cases h142 : k < 146
  · exact List.all_eq_true.mp am_kb_142 k (List.mem_range'_1.mpr ⟨by omega, by omega⟩)
  by_cases h146 : k < 147
  · exact List.all_eq_true.mp am_kb_146 k (List.mem_range'_1.mpr ⟨by omega, by omega⟩)
  by_cases h147 : k < 148
  · exact List.all_eq_true.mp am_kb_147 k (List.mem_range'_1.mpr ⟨by omega, by omega⟩)
  by_cases h148 : k < 149
  · exact List.all_eq_true.mp am_kb_148 k (List.mem_range'_1.mpr ⟨by omega, by omega⟩)
  by_cases h149 : k < 150
  · exact List.all_eq_true.mp am_kb_149 k (List.mem_range'_1.mpr ⟨by omega, by omega⟩)
  by_cases h150 : k < 151
  · exact List.all_eq_true.mp am_kb_150 k (List.mem_range'_1.mpr ⟨by omega, by omega⟩)
  by_cases h151 : k < 152
  · exact List.all_eq_true.mp am_kb_151 k (List.mem_range'_1.mpr ⟨by omega, by omega⟩)
  by_cases h152 : k < 154
  · exact List.all_eq_true.mp am_kb_152 k (List.mem_range'_1.mpr ⟨by omega, by omega⟩)
  by_cases h154 : k < 159
  · exact List.all_eq_true.mp am_kb_154 k (List.mem_range'_1.mpr ⟨by omega, by omega⟩)
  by_cases h159 : k < 162
  · exact List.all_eq_true.mp am_kb_159 k (List.mem_range'_1.mpr ⟨by omega, by omega⟩)
  by_cases h162 : k < 172
  · exact List.all_eq_true.mp am_kb_162 k (List.mem_range'_1.mpr ⟨by omega, by omega⟩)
  by_cases h172 : k < 173
  · exact List.all_eq_true.mp am_kb_172 k (List.mem_range'_1.mpr ⟨by omega, by omega⟩)
  exact absurd h (by omega)
