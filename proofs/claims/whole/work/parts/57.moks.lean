/-! The methods' words (printed by wip/gen/gen56.py; checked by the kernel). -/
theorem am_mok_0 : (List.range' 0 12).all am_mokb = true := by decide +kernel
theorem am_mok_12 : (List.range' 12 12).all am_mokb = true := by decide +kernel
theorem am_mok_24 : (List.range' 24 12).all am_mokb = true := by decide +kernel
theorem am_mok_36 : (List.range' 36 12).all am_mokb = true := by decide +kernel
theorem am_mok_48 : (List.range' 48 12).all am_mokb = true := by decide +kernel
theorem am_mok_60 : (List.range' 60 12).all am_mokb = true := by decide +kernel
theorem am_mok_72 : (List.range' 72 12).all am_mokb = true := by decide +kernel
theorem am_mok_84 : (List.range' 84 12).all am_mokb = true := by decide +kernel
theorem am_mok_96 : (List.range' 96 12).all am_mokb = true := by decide +kernel
theorem am_mok_108 : (List.range' 108 12).all am_mokb = true := by decide +kernel
theorem am_mok_120 : (List.range' 120 12).all am_mokb = true := by decide +kernel
theorem am_mok_132 : (List.range' 132 12).all am_mokb = true := by decide +kernel
theorem am_mok_144 : (List.range' 144 12).all am_mokb = true := by decide +kernel
theorem am_mok_156 : (List.range' 156 12).all am_mokb = true := by decide +kernel
theorem am_mok_168 : (List.range' 168 4).all am_mokb = true := by decide +kernel
theorem am_moks (j : Nat) (h : j < 172) : am_mokb j = true := by
  by_cases h0 : j < 12
  · exact List.all_eq_true.mp am_mok_0 j (List.mem_range'_1.mpr ⟨by omega, by omega⟩)
  by_cases h12 : j < 24
  · exact List.all_eq_true.mp am_mok_12 j (List.mem_range'_1.mpr ⟨by omega, by omega⟩)
  by_cases h24 : j < 36
  · exact List.all_eq_true.mp am_mok_24 j (List.mem_range'_1.mpr ⟨by omega, by omega⟩)
  by_cases h36 : j < 48
  · exact List.all_eq_true.mp am_mok_36 j (List.mem_range'_1.mpr ⟨by omega, by omega⟩)
  by_cases h48 : j < 60
  · exact List.all_eq_true.mp am_mok_48 j (List.mem_range'_1.mpr ⟨by omega, by omega⟩)
  by_cases h60 : j < 72
  · exact List.all_eq_true.mp am_mok_60 j (List.mem_range'_1.mpr ⟨by omega, by omega⟩)
  by_cases h72 : j < 84
  · exact List.all_eq_true.mp am_mok_72 j (List.mem_range'_1.mpr ⟨by omega, by omega⟩)
  by_cases h84 : j < 96
  · exact List.all_eq_true.mp am_mok_84 j (List.mem_range'_1.mpr ⟨by omega, by omega⟩)
  by_cases h96 : j < 108
  · exact List.all_eq_true.mp am_mok_96 j (List.mem_range'_1.mpr ⟨by omega, by omega⟩)
  by_cases h108 : j < 120
  · exact List.all_eq_true.mp am_mok_108 j (List.mem_range'_1.mpr ⟨by omega, by omega⟩)
  by_cases h120 : j < 132
  · exact List.all_eq_true.mp am_mok_120 j (List.mem_range'_1.mpr ⟨by omega, by omega⟩)
  by_cases h132 : j < 144
  · exact List.all_eq_true.mp am_mok_132 j (List.mem_range'_1.mpr ⟨by omega, by omega⟩)
  by_cases h144 : j < 156
  · exact List.all_eq_true.mp am_mok_144 j (List.mem_range'_1.mpr ⟨by omega, by omega⟩)
  by_cases h156 : j < 168
  · exact List.all_eq_true.mp am_mok_156 j (List.mem_range'_1.mpr ⟨by omega, by omega⟩)
  by_cases h168 : j < 172
  · exact List.all_eq_true.mp am_mok_168 j (List.mem_range'_1.mpr ⟨by omega, by omega⟩)
  exact absurd h (by omega)
theorem am_cwm_0 (j : Nat) (h1 : 0 ≤ j) (h2 : j < 12) : am_cdw j ∈ lw_tbl := by
  rcases (show j = 0 ∨ j = 1 ∨ j = 2 ∨ j = 3 ∨ j = 4 ∨ j = 5 ∨ j = 6 ∨ j = 7 ∨ j = 8 ∨ j = 9 ∨ j = 10 ∨ j = 11 by omega) with rfl | rfl | rfl | rfl | rfl | rfl | rfl | rfl | rfl | rfl | rfl | rfl
  · exact am_mem am_cwt_0
  · exact am_mem am_cwt_1
  · exact am_mem am_cwt_2
  · exact am_mem am_cwt_3
  · exact am_mem am_cwt_4
  · exact am_mem am_cwt_5
  · exact am_mem am_cwt_6
  · exact am_mem am_cwt_7
  · exact am_mem am_cwt_8
  · exact am_mem am_cwt_9
  · exact am_mem am_cwt_10
  · exact am_mem am_cwt_11
theorem am_cwm_12 (j : Nat) (h1 : 12 ≤ j) (h2 : j < 24) : am_cdw j ∈ lw_tbl := by
  rcases (show j = 12 ∨ j = 13 ∨ j = 14 ∨ j = 15 ∨ j = 16 ∨ j = 17 ∨ j = 18 ∨ j = 19 ∨ j = 20 ∨ j = 21 ∨ j = 22 ∨ j = 23 by omega) with rfl | rfl | rfl | rfl | rfl | rfl | rfl | rfl | rfl | rfl | rfl | rfl
  · exact am_mem am_cwt_12
  · exact am_mem am_cwt_13
  · exact am_mem am_cwt_14
  · exact am_mem am_cwt_15
  · exact am_mem am_cwt_16
  · exact am_mem am_cwt_17
  · exact am_mem am_cwt_18
  · exact am_mem am_cwt_19
  · exact am_mem am_cwt_20
  · exact am_mem am_cwt_21
  · exact am_mem am_cwt_22
  · exact am_mem am_cwt_23
theorem am_cwm_24 (j : Nat) (h1 : 24 ≤ j) (h2 : j < 36) : am_cdw j ∈ lw_tbl := by
  rcases (show j = 24 ∨ j = 25 ∨ j = 26 ∨ j = 27 ∨ j = 28 ∨ j = 29 ∨ j = 30 ∨ j = 31 ∨ j = 32 ∨ j = 33 ∨ j = 34 ∨ j = 35 by omega) with rfl | rfl | rfl | rfl | rfl | rfl | rfl | rfl | rfl | rfl | rfl | rfl
  · exact am_mem am_cwt_24
  · exact am_mem am_cwt_25
  · exact am_mem am_cwt_26
  · exact am_mem am_cwt_27
  · exact am_mem am_cwt_28
  · exact am_mem am_cwt_29
  · exact am_mem am_cwt_30
  · exact am_mem am_cwt_31
  · exact am_mem am_cwt_32
  · exact am_mem am_cwt_33
  · exact am_mem am_cwt_34
  · exact am_mem am_cwt_35
theorem am_cwm_36 (j : Nat) (h1 : 36 ≤ j) (h2 : j < 48) : am_cdw j ∈ lw_tbl := by
  rcases (show j = 36 ∨ j = 37 ∨ j = 38 ∨ j = 39 ∨ j = 40 ∨ j = 41 ∨ j = 42 ∨ j = 43 ∨ j = 44 ∨ j = 45 ∨ j = 46 ∨ j = 47 by omega) with rfl | rfl | rfl | rfl | rfl | rfl | rfl | rfl | rfl | rfl | rfl | rfl
  · exact am_mem am_cwt_36
  · exact am_mem am_cwt_37
  · exact am_mem am_cwt_38
  · exact am_mem am_cwt_39
  · exact am_mem am_cwt_40
  · exact am_mem am_cwt_41
  · exact am_mem am_cwt_42
  · exact am_mem am_cwt_43
  · exact am_mem am_cwt_44
  · exact am_mem am_cwt_45
  · exact am_mem am_cwt_46
  · exact am_mem am_cwt_47
theorem am_cwm_48 (j : Nat) (h1 : 48 ≤ j) (h2 : j < 60) : am_cdw j ∈ lw_tbl := by
  rcases (show j = 48 ∨ j = 49 ∨ j = 50 ∨ j = 51 ∨ j = 52 ∨ j = 53 ∨ j = 54 ∨ j = 55 ∨ j = 56 ∨ j = 57 ∨ j = 58 ∨ j = 59 by omega) with rfl | rfl | rfl | rfl | rfl | rfl | rfl | rfl | rfl | rfl | rfl | rfl
  · exact am_mem am_cwt_48
  · exact am_mem am_cwt_49
  · exact am_mem am_cwt_50
  · exact am_mem am_cwt_51
  · exact am_mem am_cwt_52
  · exact am_mem am_cwt_53
  · exact am_mem am_cwt_54
  · exact am_mem am_cwt_55
  · exact am_mem am_cwt_56
  · exact am_mem am_cwt_57
  · exact am_mem am_cwt_58
  · exact am_mem am_cwt_59
theorem am_cwm_60 (j : Nat) (h1 : 60 ≤ j) (h2 : j < 72) : am_cdw j ∈ lw_tbl := by
  rcases (show j = 60 ∨ j = 61 ∨ j = 62 ∨ j = 63 ∨ j = 64 ∨ j = 65 ∨ j = 66 ∨ j = 67 ∨ j = 68 ∨ j = 69 ∨ j = 70 ∨ j = 71 by omega) with rfl | rfl | rfl | rfl | rfl | rfl | rfl | rfl | rfl | rfl | rfl | rfl
  · exact am_mem am_cwt_60
  · exact am_mem am_cwt_61
  · exact am_mem am_cwt_62
  · exact am_mem am_cwt_63
  · exact am_mem am_cwt_64
  · exact am_mem am_cwt_65
  · exact am_mem am_cwt_66
  · exact am_mem am_cwt_67
  · exact am_mem am_cwt_68
  · exact am_mem am_cwt_69
  · exact am_mem am_cwt_70
  · exact am_mem am_cwt_71
theorem am_cwm_72 (j : Nat) (h1 : 72 ≤ j) (h2 : j < 84) : am_cdw j ∈ lw_tbl := by
  rcases (show j = 72 ∨ j = 73 ∨ j = 74 ∨ j = 75 ∨ j = 76 ∨ j = 77 ∨ j = 78 ∨ j = 79 ∨ j = 80 ∨ j = 81 ∨ j = 82 ∨ j = 83 by omega) with rfl | rfl | rfl | rfl | rfl | rfl | rfl | rfl | rfl | rfl | rfl | rfl
  · exact am_mem am_cwt_72
  · exact am_mem am_cwt_73
  · exact am_mem am_cwt_74
  · exact am_mem am_cwt_75
  · exact am_mem am_cwt_76
  · exact am_mem am_cwt_77
  · exact am_mem am_cwt_78
  · exact am_mem am_cwt_79
  · exact am_mem am_cwt_80
  · exact am_mem am_cwt_81
  · exact am_mem am_cwt_82
  · exact am_mem am_cwt_83
theorem am_cwm_84 (j : Nat) (h1 : 84 ≤ j) (h2 : j < 96) : am_cdw j ∈ lw_tbl := by
  rcases (show j = 84 ∨ j = 85 ∨ j = 86 ∨ j = 87 ∨ j = 88 ∨ j = 89 ∨ j = 90 ∨ j = 91 ∨ j = 92 ∨ j = 93 ∨ j = 94 ∨ j = 95 by omega) with rfl | rfl | rfl | rfl | rfl | rfl | rfl | rfl | rfl | rfl | rfl | rfl
  · exact am_mem am_cwt_84
  · exact am_mem am_cwt_85
  · exact am_mem am_cwt_86
  · exact am_mem am_cwt_87
  · exact am_mem am_cwt_88
  · exact am_mem am_cwt_89
  · exact am_mem am_cwt_90
  · exact am_mem am_cwt_91
  · exact am_mem am_cwt_92
  · exact am_mem am_cwt_93
  · exact am_mem am_cwt_94
  · exact am_mem am_cwt_95
theorem am_cwm_96 (j : Nat) (h1 : 96 ≤ j) (h2 : j < 108) : am_cdw j ∈ lw_tbl := by
  rcases (show j = 96 ∨ j = 97 ∨ j = 98 ∨ j = 99 ∨ j = 100 ∨ j = 101 ∨ j = 102 ∨ j = 103 ∨ j = 104 ∨ j = 105 ∨ j = 106 ∨ j = 107 by omega) with rfl | rfl | rfl | rfl | rfl | rfl | rfl | rfl | rfl | rfl | rfl | rfl
  · exact am_mem am_cwt_96
  · exact am_mem am_cwt_97
  · exact am_mem am_cwt_98
  · exact am_mem am_cwt_99
  · exact am_mem am_cwt_100
  · exact am_mem am_cwt_101
  · exact am_mem am_cwt_102
  · exact am_mem am_cwt_103
  · exact am_mem am_cwt_104
  · exact am_mem am_cwt_105
  · exact am_mem am_cwt_106
  · exact am_mem am_cwt_107
theorem am_cwm_108 (j : Nat) (h1 : 108 ≤ j) (h2 : j < 120) : am_cdw j ∈ lw_tbl := by
  rcases (show j = 108 ∨ j = 109 ∨ j = 110 ∨ j = 111 ∨ j = 112 ∨ j = 113 ∨ j = 114 ∨ j = 115 ∨ j = 116 ∨ j = 117 ∨ j = 118 ∨ j = 119 by omega) with rfl | rfl | rfl | rfl | rfl | rfl | rfl | rfl | rfl | rfl | rfl | rfl
  · exact am_mem am_cwt_108
  · exact am_mem am_cwt_109
  · exact am_mem am_cwt_110
  · exact am_mem am_cwt_111
  · exact am_mem am_cwt_112
  · exact am_mem am_cwt_113
  · exact am_mem am_cwt_114
  · exact am_mem am_cwt_115
  · exact am_mem am_cwt_116
  · exact am_mem am_cwt_117
  · exact am_mem am_cwt_118
  · exact am_mem am_cwt_119
theorem am_cwm_120 (j : Nat) (h1 : 120 ≤ j) (h2 : j < 132) : am_cdw j ∈ lw_tbl := by
  rcases (show j = 120 ∨ j = 121 ∨ j = 122 ∨ j = 123 ∨ j = 124 ∨ j = 125 ∨ j = 126 ∨ j = 127 ∨ j = 128 ∨ j = 129 ∨ j = 130 ∨ j = 131 by omega) with rfl | rfl | rfl | rfl | rfl | rfl | rfl | rfl | rfl | rfl | rfl | rfl
  · exact am_mem am_cwt_120
  · exact am_mem am_cwt_121
  · exact am_mem am_cwt_122
  · exact am_mem am_cwt_123
  · exact am_mem am_cwt_124
  · exact am_mem am_cwt_125
  · exact am_mem am_cwt_126
  · exact am_mem am_cwt_127
  · exact am_mem am_cwt_128
  · exact am_mem am_cwt_129
  · exact am_mem am_cwt_130
  · exact am_mem am_cwt_131
theorem am_cwm_132 (j : Nat) (h1 : 132 ≤ j) (h2 : j < 144) : am_cdw j ∈ lw_tbl := by
  rcases (show j = 132 ∨ j = 133 ∨ j = 134 ∨ j = 135 ∨ j = 136 ∨ j = 137 ∨ j = 138 ∨ j = 139 ∨ j = 140 ∨ j = 141 ∨ j = 142 ∨ j = 143 by omega) with rfl | rfl | rfl | rfl | rfl | rfl | rfl | rfl | rfl | rfl | rfl | rfl
  · exact am_mem am_cwt_132
  · exact am_mem am_cwt_133
  · exact am_mem am_cwt_134
  · exact am_mem am_cwt_135
  · exact am_mem am_cwt_136
  · exact am_mem am_cwt_137
  · exact am_mem am_cwt_138
  · exact am_mem am_cwt_139
  · exact am_mem am_cwt_140
  · exact am_mem am_cwt_141
  · exact am_mem am_cwt_142
  · exact am_mem am_cwt_143
theorem am_cwm_144 (j : Nat) (h1 : 144 ≤ j) (h2 : j < 156) : am_cdw j ∈ lw_tbl := by
  rcases (show j = 144 ∨ j = 145 ∨ j = 146 ∨ j = 147 ∨ j = 148 ∨ j = 149 ∨ j = 150 ∨ j = 151 ∨ j = 152 ∨ j = 153 ∨ j = 154 ∨ j = 155 by omega) with rfl | rfl | rfl | rfl | rfl | rfl | rfl | rfl | rfl | rfl | rfl | rfl
  · exact am_mem am_cwt_144
  · exact am_mem am_cwt_145
  · exact am_mem am_cwt_146
  · exact am_mem am_cwt_147
  · exact am_mem am_cwt_148
  · exact am_mem am_cwt_149
  · exact am_mem am_cwt_150
  · exact am_mem am_cwt_151
  · exact am_mem am_cwt_152
  · exact am_mem am_cwt_153
  · exact am_mem am_cwt_154
  · exact am_mem am_cwt_155
theorem am_cwm_156 (j : Nat) (h1 : 156 ≤ j) (h2 : j < 168) : am_cdw j ∈ lw_tbl := by
  rcases (show j = 156 ∨ j = 157 ∨ j = 158 ∨ j = 159 ∨ j = 160 ∨ j = 161 ∨ j = 162 ∨ j = 163 ∨ j = 164 ∨ j = 165 ∨ j = 166 ∨ j = 167 by omega) with rfl | rfl | rfl | rfl | rfl | rfl | rfl | rfl | rfl | rfl | rfl | rfl
  · exact am_mem am_cwt_156
  · exact am_mem am_cwt_157
  · exact am_mem am_cwt_158
  · exact am_mem am_cwt_159
  · exact am_mem am_cwt_160
  · exact am_mem am_cwt_161
  · exact am_mem am_cwt_162
  · exact am_mem am_cwt_163
  · exact am_mem am_cwt_164
  · exact am_mem am_cwt_165
  · exact am_mem am_cwt_166
  · exact am_mem am_cwt_167
theorem am_cwm_168 (j : Nat) (h1 : 168 ≤ j) (h2 : j < 172) : am_cdw j ∈ lw_tbl := by
  rcases (show j = 168 ∨ j = 169 ∨ j = 170 ∨ j = 171 by omega) with rfl | rfl | rfl | rfl
  · exact am_mem am_cwt_168
  · exact am_mem am_cwt_169
  · exact am_mem am_cwt_170
  · exact am_mem am_cwt_171
theorem am_cwm (j : Nat) (h : j < 172) : am_cdw j ∈ lw_tbl := by
  by_cases h0 : j < 12
  · exact am_cwm_0 j (by omega) h0
  by_cases h12 : j < 24
  · exact am_cwm_12 j (by omega) h12
  by_cases h24 : j < 36
  · exact am_cwm_24 j (by omega) h24
  by_cases h36 : j < 48
  · exact am_cwm_36 j (by omega) h36
  by_cases h48 : j < 60
  · exact am_cwm_48 j (by omega) h48
  by_cases h60 : j < 72
  · exact am_cwm_60 j (by omega) h60
  by_cases h72 : j < 84
  · exact am_cwm_72 j (by omega) h72
  by_cases h84 : j < 96
  · exact am_cwm_84 j (by omega) h84
  by_cases h96 : j < 108
  · exact am_cwm_96 j (by omega) h96
  by_cases h108 : j < 120
  · exact am_cwm_108 j (by omega) h108
  by_cases h120 : j < 132
  · exact am_cwm_120 j (by omega) h120
  by_cases h132 : j < 144
  · exact am_cwm_132 j (by omega) h132
  by_cases h144 : j < 156
  · exact am_cwm_144 j (by omega) h144
  by_cases h156 : j < 168
  · exact am_cwm_156 j (by omega) h156
  by_cases h168 : j < 172
  · exact am_cwm_168 j (by omega) h168
  exact absurd h (by omega)
