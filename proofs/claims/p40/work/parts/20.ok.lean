/-! The program keeps all that the simulation asks. -/

theorem mt9_0 : ∀ q ∈ mt_0, mT 0 q.1 q.2 := mAllP_mem mc_0
theorem mt9_1 : ∀ q ∈ mt_1, mT 1 q.1 q.2 := mAllP_mem mc_1
theorem mt9_2 : ∀ q ∈ mt_2, mT 2 q.1 q.2 := mAllP_mem mc_2
theorem mt9_3 : ∀ q ∈ mt_3, mT 3 q.1 q.2 := mAllP_mem mc_3
theorem mt9_4 : ∀ q ∈ mt_4, mT 4 q.1 q.2 := mAllP_mem mc_4
theorem mt9_5 : ∀ q ∈ mt_5, mT 5 q.1 q.2 := mAllP_mem mc_5
theorem mt9_6 : ∀ q ∈ mt_6, mT 6 q.1 q.2 := mAllP_mem mc_6
theorem mt9_7 : ∀ q ∈ mt_7, mT 7 q.1 q.2 := mAllP_mem mc_7
theorem mt9_8 : ∀ q ∈ mt_8, mT 8 q.1 q.2 := mAllP_mem mc_8
theorem mt9_9 : ∀ q ∈ mt_9, mT 9 q.1 q.2 := mAllP_mem mc_9
theorem mt9_10 : ∀ q ∈ mt_10, mT 10 q.1 q.2 := mAllP_mem mc_10
theorem mt9_11 : ∀ q ∈ mt_11, mT 11 q.1 q.2 := mAllP_mem mc_11
theorem mt9_12 : ∀ q ∈ mt_12, mT 12 q.1 q.2 := mAllP_mem mc_12
theorem mt9_13 : ∀ q ∈ mt_13, mT 13 q.1 q.2 := mAllP_mem mc_13
theorem mt9_14 : ∀ q ∈ mt_14, mT 14 q.1 q.2 := mAllP_mem mc_14
theorem mt9_15 : ∀ q ∈ mt_15, mT 15 q.1 q.2 := mAllP_mem mc_15
theorem mt9_16 : ∀ q ∈ mt_16, mT 16 q.1 q.2 := mAllP_mem mc_16
theorem mt9_17 : ∀ q ∈ mt_17, mT 17 q.1 q.2 := mAllP_mem mc_17
theorem mt9_18 : ∀ q ∈ mt_18, mT 18 q.1 q.2 := mAllP_mem mc_18
theorem mt9_19 : ∀ q ∈ mt_19, mT 19 q.1 q.2 := mAllP_mem mc_19
theorem mt9_20 : ∀ q ∈ mt_20, mT 20 q.1 q.2 := mAllP_mem mc_20
theorem mt9_21 : ∀ q ∈ mt_21, mT 21 q.1 q.2 := mAllP_mem mc_21
theorem mt9_22 : ∀ q ∈ mt_22, mT 22 q.1 q.2 := mAllP_mem mc_22
theorem mt9_23 : ∀ q ∈ mt_23, mT 23 q.1 q.2 := mAllP_mem mc_23
theorem mt9_24 : ∀ q ∈ mt_24, mT 24 q.1 q.2 := mAllP_mem mc_24
theorem mt9_25 : ∀ q ∈ mt_25, mT 25 q.1 q.2 := mAllP_mem mc_25
theorem mt9_26 : ∀ q ∈ mt_26, mT 26 q.1 q.2 := mAllP_mem mc_26
theorem mt9_27 : ∀ q ∈ mt_27, mT 27 q.1 q.2 := mAllP_mem mc_27
theorem mt9_28 : ∀ q ∈ mt_28, mT 28 q.1 q.2 := mAllP_mem mc_28
theorem mt9_29 : ∀ q ∈ mt_29, mT 29 q.1 q.2 := mAllP_mem mc_29
theorem mt9_30 : ∀ q ∈ mt_30, mT 30 q.1 q.2 := mAllP_mem mc_30
theorem mt9_31 : ∀ q ∈ mt_31, mT 31 q.1 q.2 := mAllP_mem mc_31
theorem mt9_32 : ∀ q ∈ mt_32, mT 32 q.1 q.2 := mAllP_mem mc_32
theorem mt9_33 : ∀ q ∈ mt_33, mT 33 q.1 q.2 := mAllP_mem mc_33
theorem mt9_34 : ∀ q ∈ mt_34, mT 34 q.1 q.2 := mAllP_mem mc_34
theorem mt9_35 : ∀ q ∈ mt_35, mT 35 q.1 q.2 := mAllP_mem mc_35
theorem mt9_36 : ∀ q ∈ mt_36, mT 36 q.1 q.2 := mAllP_mem mc_36
theorem mt9_37 : ∀ q ∈ mt_37, mT 37 q.1 q.2 := mAllP_mem mc_37
theorem mt9_38 : ∀ q ∈ mt_38, mT 38 q.1 q.2 := mAllP_mem mc_38
theorem mt9_39 : ∀ q ∈ mt_39, mT 39 q.1 q.2 := mAllP_mem mc_39
theorem mt9_40 : ∀ q ∈ mt_40, mT 40 q.1 q.2 := mAllP_mem mc_40
theorem mt9_41 : ∀ q ∈ mt_41, mT 41 q.1 q.2 := mAllP_mem mc_41
theorem mt9_42 : ∀ q ∈ mt_42, mT 42 q.1 q.2 := mAllP_mem mc_42
theorem mt9_43 : ∀ q ∈ mt_43, mT 43 q.1 q.2 := mAllP_mem mc_43
theorem mt9_44 : ∀ q ∈ mt_44, mT 44 q.1 q.2 := mAllP_mem mc_44
theorem mt9_45 : ∀ q ∈ mt_45, mT 45 q.1 q.2 := mAllP_mem mc_45
theorem mt9_46 : ∀ q ∈ mt_46, mT 46 q.1 q.2 := mAllP_mem mc_46
theorem mt9_47 : ∀ q ∈ mt_47, mT 47 q.1 q.2 := mAllP_mem mc_47
theorem mt9_48 : ∀ q ∈ mt_48, mT 48 q.1 q.2 := mAllP_mem mc_48
theorem mt9_49 : ∀ q ∈ mt_49, mT 49 q.1 q.2 := mAllP_mem mc_49
theorem mt9_50 : ∀ q ∈ mt_50, mT 50 q.1 q.2 := mAllP_mem mc_50
theorem mt9_51 : ∀ q ∈ mt_51, mT 51 q.1 q.2 := mAllP_mem mc_51
theorem mt9_52 : ∀ q ∈ mt_52, mT 52 q.1 q.2 := mAllP_mem mc_52
theorem mt9_53 : ∀ q ∈ mt_53, mT 53 q.1 q.2 := mAllP_mem mc_53
theorem mt9_54 : ∀ q ∈ mt_54, mT 54 q.1 q.2 := mAllP_mem mc_54
theorem mt9_55 : ∀ q ∈ mt_55, mT 55 q.1 q.2 := mAllP_mem mc_55
theorem mt9_56 : ∀ q ∈ mt_56, mT 56 q.1 q.2 := mAllP_mem mc_56
theorem mt9_57 : ∀ q ∈ mt_57, mT 57 q.1 q.2 := mAllP_mem mc_57
theorem mt9_58 : ∀ q ∈ mt_58, mT 58 q.1 q.2 := mAllP_mem mc_58
theorem mt9_59 : ∀ q ∈ mt_59, mT 59 q.1 q.2 := mAllP_mem mc_59
theorem mt9_60 : ∀ q ∈ mt_60, mT 60 q.1 q.2 := mAllP_mem mc_60
theorem mt9_61 : ∀ q ∈ mt_61, mT 61 q.1 q.2 := mAllP_mem mc_61
theorem mt9_62 : ∀ q ∈ mt_62, mT 62 q.1 q.2 := mAllP_mem mc_62
theorem mt9_63 : ∀ q ∈ mt_63, mT 63 q.1 q.2 := mAllP_mem mc_63
theorem mt9_64 : ∀ q ∈ mt_64, mT 64 q.1 q.2 := mAllP_mem mc_64
theorem mt9_65 : ∀ q ∈ mt_65, mT 65 q.1 q.2 := mAllP_mem mc_65
theorem mt9_66 : ∀ q ∈ mt_66, mT 66 q.1 q.2 := mAllP_mem mc_66
theorem mt9_67 : ∀ q ∈ mt_67, mT 67 q.1 q.2 := mAllP_mem mc_67
theorem mt9_68 : ∀ q ∈ mt_68, mT 68 q.1 q.2 := mAllP_mem mc_68
theorem mt9_69 : ∀ q ∈ mt_69, mT 69 q.1 q.2 := mAllP_mem mc_69
theorem mt9_70 : ∀ q ∈ mt_70, mT 70 q.1 q.2 := mAllP_mem mc_70
theorem mt9_71 : ∀ q ∈ mt_71, mT 71 q.1 q.2 := mAllP_mem mc_71
theorem mt9_72 : ∀ q ∈ mt_72, mT 72 q.1 q.2 := mAllP_mem mc_72
theorem mt9_73 : ∀ q ∈ mt_73, mT 73 q.1 q.2 := mAllP_mem mc_73
theorem mt9_74 : ∀ q ∈ mt_74, mT 74 q.1 q.2 := mAllP_mem mc_74
theorem mt9_75 : ∀ q ∈ mt_75, mT 75 q.1 q.2 := mAllP_mem mc_75
theorem mt9_76 : ∀ q ∈ mt_76, mT 76 q.1 q.2 := mAllP_mem mc_76
theorem mt9_77 : ∀ q ∈ mt_77, mT 77 q.1 q.2 := mAllP_mem mc_77
theorem mt9_78 : ∀ q ∈ mt_78, mT 78 q.1 q.2 := mAllP_mem mc_78
theorem mt9_79 : ∀ q ∈ mt_79, mT 79 q.1 q.2 := mAllP_mem mc_79
theorem mt9_80 : ∀ q ∈ mt_80, mT 80 q.1 q.2 := mAllP_mem mc_80
theorem mt9_81 : ∀ q ∈ mt_81, mT 81 q.1 q.2 := mAllP_mem mc_81
theorem mt9_82 : ∀ q ∈ mt_82, mT 82 q.1 q.2 := mAllP_mem mc_82
theorem mt9_83 : ∀ q ∈ mt_83, mT 83 q.1 q.2 := mAllP_mem mc_83
theorem mt9_84 : ∀ q ∈ mt_84, mT 84 q.1 q.2 := mAllP_mem mc_84
theorem mt9_85 : ∀ q ∈ mt_85, mT 85 q.1 q.2 := mAllP_mem mc_85
theorem mt9_86 : ∀ q ∈ mt_86, mT 86 q.1 q.2 := mAllP_mem mc_86
theorem mt9_87 : ∀ q ∈ mt_87, mT 87 q.1 q.2 := mAllP_mem mc_87
theorem mt9_88 : ∀ q ∈ mt_88, mT 88 q.1 q.2 := mAllP_mem mc_88
theorem mt9_89 : ∀ q ∈ mt_89, mT 89 q.1 q.2 := mAllP_mem mc_89
theorem mt9_90 : ∀ q ∈ mt_90, mT 90 q.1 q.2 := mAllP_mem mc_90
theorem mt9_91 : ∀ q ∈ mt_91, mT 91 q.1 q.2 := mAllP_mem mc_91
theorem mt9_92 : ∀ q ∈ mt_92, mT 92 q.1 q.2 := mAllP_mem mc_92
theorem mt9_93 : ∀ q ∈ mt_93, mT 93 q.1 q.2 := mAllP_mem mc_93
theorem mt9_94 : ∀ q ∈ mt_94, mT 94 q.1 q.2 := mAllP_mem mc_94
theorem mt9_95 : ∀ q ∈ mt_95, mT 95 q.1 q.2 := mAllP_mem mc_95
theorem mt9_96 : ∀ q ∈ mt_96, mT 96 q.1 q.2 := mAllP_mem mc_96
theorem mt9_97 : ∀ q ∈ mt_97, mT 97 q.1 q.2 := mAllP_mem mc_97
theorem mt9_98 : ∀ q ∈ mt_98, mT 98 q.1 q.2 := mAllP_mem mc_98
theorem mt9_99 : ∀ q ∈ mt_99, mT 99 q.1 q.2 := mAllP_mem mc_99
theorem mt9_100 : ∀ q ∈ mt_100, mT 100 q.1 q.2 := mAllP_mem mc_100
theorem mt9_101 : ∀ q ∈ mt_101, mT 101 q.1 q.2 := mAllP_mem mc_101
theorem mt9_102 : ∀ q ∈ mt_102, mT 102 q.1 q.2 := mAllP_mem mc_102
theorem mt9_103 : ∀ q ∈ mt_103, mT 103 q.1 q.2 := mAllP_mem mc_103
theorem mt9_104 : ∀ q ∈ mt_104, mT 104 q.1 q.2 := mAllP_mem mc_104
theorem mt9_105 : ∀ q ∈ mt_105, mT 105 q.1 q.2 := mAllP_mem mc_105
theorem mt9_106 : ∀ q ∈ mt_106, mT 106 q.1 q.2 := mAllP_mem mc_106
theorem mt9_107 : ∀ q ∈ mt_107, mT 107 q.1 q.2 := mAllP_mem mc_107
theorem mt9_108 : ∀ q ∈ mt_108, mT 108 q.1 q.2 := mAllP_mem mc_108
theorem mt9_109 : ∀ q ∈ mt_109, mT 109 q.1 q.2 := mAllP_mem mc_109
theorem mt9_110 : ∀ q ∈ mt_110, mT 110 q.1 q.2 := mAllP_mem mc_110
theorem mt9_111 : ∀ q ∈ mt_111, mT 111 q.1 q.2 := mAllP_mem mc_111
theorem mt9_112 : ∀ q ∈ mt_112, mT 112 q.1 q.2 := mAllP_mem mc_112
theorem mt9_113 : ∀ q ∈ mt_113, mT 113 q.1 q.2 := mAllP_mem mc_113
theorem mt9_114 : ∀ q ∈ mt_114, mT 114 q.1 q.2 := mAllP_mem mc_114
theorem mt9_115 : ∀ q ∈ mt_115, mT 115 q.1 q.2 := mAllP_mem mc_115
theorem mt9_116 : ∀ q ∈ mt_116, mT 116 q.1 q.2 := mAllP_mem mc_116
theorem mt9_117 : ∀ q ∈ mt_117, mT 117 q.1 q.2 := mAllP_mem mc_117
theorem mt9_118 : ∀ q ∈ mt_118, mT 118 q.1 q.2 := mAllP_mem mc_118
theorem mt9_119 : ∀ q ∈ mt_119, mT 119 q.1 q.2 := mAllP_mem mc_119
theorem mt9_120 : ∀ q ∈ mt_120, mT 120 q.1 q.2 := mAllP_mem mc_120
theorem mt9_121 : ∀ q ∈ mt_121, mT 121 q.1 q.2 := mAllP_mem mc_121
theorem mt9_122 : ∀ q ∈ mt_122, mT 122 q.1 q.2 := mAllP_mem mc_122
theorem mt9_123 : ∀ q ∈ mt_123, mT 123 q.1 q.2 := mAllP_mem mc_123
theorem mt9_124 : ∀ q ∈ mt_124, mT 124 q.1 q.2 := mAllP_mem mc_124
theorem mt9_125 : ∀ q ∈ mt_125, mT 125 q.1 q.2 := mAllP_mem mc_125
theorem mt9_126 : ∀ q ∈ mt_126, mT 126 q.1 q.2 := mAllP_mem mc_126
theorem mt9_127 : ∀ q ∈ mt_127, mT 127 q.1 q.2 := mAllApp (mAllP_mem mc_127_0) ((mAllP_mem mc_127_1))
theorem mt9_128 : ∀ q ∈ mt_128, mT 128 q.1 q.2 := mAllP_mem mc_128
theorem mt9_129 : ∀ q ∈ mt_129, mT 129 q.1 q.2 := mAllP_mem mc_129
theorem mt9_130 : ∀ q ∈ mt_130, mT 130 q.1 q.2 := mAllP_mem mc_130
theorem mt9_131 : ∀ q ∈ mt_131, mT 131 q.1 q.2 := mAllP_mem mc_131
theorem mt9_132 : ∀ q ∈ mt_132, mT 132 q.1 q.2 := mAllP_mem mc_132
theorem mt9_133 : ∀ q ∈ mt_133, mT 133 q.1 q.2 := mAllP_mem mc_133
theorem mt9_134 : ∀ q ∈ mt_134, mT 134 q.1 q.2 := mAllP_mem mc_134
theorem mt9_135 : ∀ q ∈ mt_135, mT 135 q.1 q.2 := mAllP_mem mc_135
theorem mt9_136 : ∀ q ∈ mt_136, mT 136 q.1 q.2 := mAllP_mem mc_136
theorem mt9_137 : ∀ q ∈ mt_137, mT 137 q.1 q.2 := mAllP_mem mc_137
theorem mt9_138 : ∀ q ∈ mt_138, mT 138 q.1 q.2 := mAllP_mem mc_138
theorem mt9_139 : ∀ q ∈ mt_139, mT 139 q.1 q.2 := mAllP_mem mc_139
theorem mt9_140 : ∀ q ∈ mt_140, mT 140 q.1 q.2 := mAllP_mem mc_140
theorem mt9_141 : ∀ q ∈ mt_141, mT 141 q.1 q.2 := mAllP_mem mc_141
theorem mt9_142 : ∀ q ∈ mt_142, mT 142 q.1 q.2 := mAllP_mem mc_142
theorem mt9_143 : ∀ q ∈ mt_143, mT 143 q.1 q.2 := mAllP_mem mc_143
theorem mt9_144 : ∀ q ∈ mt_144, mT 144 q.1 q.2 := mAllP_mem mc_144
theorem mt9_145 : ∀ q ∈ mt_145, mT 145 q.1 q.2 := mAllP_mem mc_145
theorem mt9_146 : ∀ q ∈ mt_146, mT 146 q.1 q.2 := mAllP_mem mc_146
theorem mt9_147 : ∀ q ∈ mt_147, mT 147 q.1 q.2 := mAllP_mem mc_147
theorem mt9_148 : ∀ q ∈ mt_148, mT 148 q.1 q.2 := mAllP_mem mc_148
theorem mt9_149 : ∀ q ∈ mt_149, mT 149 q.1 q.2 := mAllP_mem mc_149
theorem mt9_150 : ∀ q ∈ mt_150, mT 150 q.1 q.2 := mAllP_mem mc_150
theorem mt9_151 : ∀ q ∈ mt_151, mT 151 q.1 q.2 := mAllP_mem mc_151
theorem mt9_152 : ∀ q ∈ mt_152, mT 152 q.1 q.2 := mAllP_mem mc_152
theorem mt9_153 : ∀ q ∈ mt_153, mT 153 q.1 q.2 := mAllP_mem mc_153
theorem mt9_154 : ∀ q ∈ mt_154, mT 154 q.1 q.2 := mAllP_mem mc_154
theorem mt9_155 : ∀ q ∈ mt_155, mT 155 q.1 q.2 := mAllP_mem mc_155
theorem mt9_156 : ∀ q ∈ mt_156, mT 156 q.1 q.2 := mAllP_mem mc_156
theorem mt9_157 : ∀ q ∈ mt_157, mT 157 q.1 q.2 := mAllP_mem mc_157
theorem mt9_158 : ∀ q ∈ mt_158, mT 158 q.1 q.2 := mAllP_mem mc_158
theorem mt9_159 : ∀ q ∈ mt_159, mT 159 q.1 q.2 := mAllP_mem mc_159
theorem mt9_160 : ∀ q ∈ mt_160, mT 160 q.1 q.2 := mAllP_mem mc_160
theorem mt9_161 : ∀ q ∈ mt_161, mT 161 q.1 q.2 := mAllP_mem mc_161
theorem mt9_162 : ∀ q ∈ mt_162, mT 162 q.1 q.2 := mAllP_mem mc_162
theorem mt9_163 : ∀ q ∈ mt_163, mT 163 q.1 q.2 := mAllP_mem mc_163
theorem mt9_164 : ∀ q ∈ mt_164, mT 164 q.1 q.2 := mAllP_mem mc_164
theorem mt9_165 : ∀ q ∈ mt_165, mT 165 q.1 q.2 := mAllP_mem mc_165
theorem mt9_166 : ∀ q ∈ mt_166, mT 166 q.1 q.2 := mAllP_mem mc_166
theorem mt9_167 : ∀ q ∈ mt_167, mT 167 q.1 q.2 := mAllP_mem mc_167
theorem mt9_168 : ∀ q ∈ mt_168, mT 168 q.1 q.2 := mAllP_mem mc_168
theorem mt9_169 : ∀ q ∈ mt_169, mT 169 q.1 q.2 := mAllP_mem mc_169
theorem mt9_170 : ∀ q ∈ mt_170, mT 170 q.1 q.2 := mAllP_mem mc_170
theorem mt9_171 : ∀ q ∈ mt_171, mT 171 q.1 q.2 := mAllP_mem mc_171
theorem mt9_172 : ∀ q ∈ mt_172, mT 172 q.1 q.2 := mAllP_mem mc_172
theorem mt9_173 : ∀ q ∈ mt_173, mT 173 q.1 q.2 := mAllP_mem mc_173
theorem mt9_174 : ∀ q ∈ mt_174, mT 174 q.1 q.2 := mAllP_mem mc_174
theorem mt9_175 : ∀ q ∈ mt_175, mT 175 q.1 q.2 := mAllP_mem mc_175
theorem mt9_176 : ∀ q ∈ mt_176, mT 176 q.1 q.2 := mAllP_mem mc_176
theorem mt9_177 : ∀ q ∈ mt_177, mT 177 q.1 q.2 := mAllP_mem mc_177
theorem mt9_178 : ∀ q ∈ mt_178, mT 178 q.1 q.2 := mAllP_mem mc_178
theorem mt9_179 : ∀ q ∈ mt_179, mT 179 q.1 q.2 := mAllP_mem mc_179
theorem mt9_180 : ∀ q ∈ mt_180, mT 180 q.1 q.2 := mAllP_mem mc_180
theorem mt9_181 : ∀ q ∈ mt_181, mT 181 q.1 q.2 := mAllP_mem mc_181
theorem mt9_182 : ∀ q ∈ mt_182, mT 182 q.1 q.2 := mAllP_mem mc_182
theorem mt9_183 : ∀ q ∈ mt_183, mT 183 q.1 q.2 := mAllP_mem mc_183
theorem mt9_184 : ∀ q ∈ mt_184, mT 184 q.1 q.2 := mAllP_mem mc_184
theorem mt9_185 : ∀ q ∈ mt_185, mT 185 q.1 q.2 := mAllP_mem mc_185
theorem mt9_186 : ∀ q ∈ mt_186, mT 186 q.1 q.2 := mAllP_mem mc_186
theorem mt9_187 : ∀ q ∈ mt_187, mT 187 q.1 q.2 := mAllP_mem mc_187
theorem mt9_188 : ∀ q ∈ mt_188, mT 188 q.1 q.2 := mAllP_mem mc_188
theorem mt9_189 : ∀ q ∈ mt_189, mT 189 q.1 q.2 := mAllP_mem mc_189
theorem mt9_190 : ∀ q ∈ mt_190, mT 190 q.1 q.2 := mAllP_mem mc_190
theorem mt9_191 : ∀ q ∈ mt_191, mT 191 q.1 q.2 := mAllP_mem mc_191
theorem mt9_192 : ∀ q ∈ mt_192, mT 192 q.1 q.2 := mAllP_mem mc_192
theorem mt9_193 : ∀ q ∈ mt_193, mT 193 q.1 q.2 := mAllP_mem mc_193
theorem mt9_194 : ∀ q ∈ mt_194, mT 194 q.1 q.2 := mAllP_mem mc_194
theorem mt9_195 : ∀ q ∈ mt_195, mT 195 q.1 q.2 := mAllP_mem mc_195
theorem mt9_196 : ∀ q ∈ mt_196, mT 196 q.1 q.2 := mAllP_mem mc_196
theorem mt9_197 : ∀ q ∈ mt_197, mT 197 q.1 q.2 := mAllP_mem mc_197
theorem mt9_198 : ∀ q ∈ mt_198, mT 198 q.1 q.2 := mAllP_mem mc_198
theorem mt9_199 : ∀ q ∈ mt_199, mT 199 q.1 q.2 := mAllP_mem mc_199
theorem mt9_200 : ∀ q ∈ mt_200, mT 200 q.1 q.2 := mAllApp (mAllP_mem mc_200_0) ((mAllP_mem mc_200_1))
theorem mt9_201 : ∀ q ∈ mt_201, mT 201 q.1 q.2 := mAllP_mem mc_201
theorem mt9_202 : ∀ q ∈ mt_202, mT 202 q.1 q.2 := mAllP_mem mc_202
theorem mt9_203 : ∀ q ∈ mt_203, mT 203 q.1 q.2 := mAllP_mem mc_203
theorem mt9_204 : ∀ q ∈ mt_204, mT 204 q.1 q.2 := mAllP_mem mc_204
theorem mt9_205 : ∀ q ∈ mt_205, mT 205 q.1 q.2 := mAllP_mem mc_205
theorem mt9_206 : ∀ q ∈ mt_206, mT 206 q.1 q.2 := mAllP_mem mc_206
theorem mt9_207 : ∀ q ∈ mt_207, mT 207 q.1 q.2 := mAllP_mem mc_207
theorem mt9_208 : ∀ q ∈ mt_208, mT 208 q.1 q.2 := mAllP_mem mc_208
theorem mt9_209 : ∀ q ∈ mt_209, mT 209 q.1 q.2 := mAllP_mem mc_209
theorem mt9_210 : ∀ q ∈ mt_210, mT 210 q.1 q.2 := mAllP_mem mc_210
theorem mt9_211 : ∀ q ∈ mt_211, mT 211 q.1 q.2 := mAllP_mem mc_211
theorem mt9_212 : ∀ q ∈ mt_212, mT 212 q.1 q.2 := mAllP_mem mc_212
theorem mt9_213 : ∀ q ∈ mt_213, mT 213 q.1 q.2 := mAllP_mem mc_213
theorem mt9_214 : ∀ q ∈ mt_214, mT 214 q.1 q.2 := mAllP_mem mc_214
theorem mt9_215 : ∀ q ∈ mt_215, mT 215 q.1 q.2 := mAllP_mem mc_215
theorem mt9_216 : ∀ q ∈ mt_216, mT 216 q.1 q.2 := mAllP_mem mc_216
theorem mt9_217 : ∀ q ∈ mt_217, mT 217 q.1 q.2 := mAllP_mem mc_217
theorem mt9_218 : ∀ q ∈ mt_218, mT 218 q.1 q.2 := mAllP_mem mc_218
theorem mt9_219 : ∀ q ∈ mt_219, mT 219 q.1 q.2 := mAllP_mem mc_219
theorem mt9_220 : ∀ q ∈ mt_220, mT 220 q.1 q.2 := mAllP_mem mc_220
theorem mt9_221 : ∀ q ∈ mt_221, mT 221 q.1 q.2 := mAllP_mem mc_221
theorem mt9_222 : ∀ q ∈ mt_222, mT 222 q.1 q.2 := mAllP_mem mc_222
theorem mt9_223 : ∀ q ∈ mt_223, mT 223 q.1 q.2 := mAllP_mem mc_223
theorem mt9_224 : ∀ q ∈ mt_224, mT 224 q.1 q.2 := mAllP_mem mc_224
theorem mt9_225 : ∀ q ∈ mt_225, mT 225 q.1 q.2 := mAllP_mem mc_225
theorem mt9_226 : ∀ q ∈ mt_226, mT 226 q.1 q.2 := mAllP_mem mc_226
theorem mt9_227 : ∀ q ∈ mt_227, mT 227 q.1 q.2 := mAllP_mem mc_227
theorem mt9_228 : ∀ q ∈ mt_228, mT 228 q.1 q.2 := mAllP_mem mc_228
theorem mt9_229 : ∀ q ∈ mt_229, mT 229 q.1 q.2 := mAllP_mem mc_229
theorem mt9_230 : ∀ q ∈ mt_230, mT 230 q.1 q.2 := mAllP_mem mc_230
theorem mt9_231 : ∀ q ∈ mt_231, mT 231 q.1 q.2 := mAllP_mem mc_231
theorem mt9_232 : ∀ q ∈ mt_232, mT 232 q.1 q.2 := mAllP_mem mc_232
theorem mt9_233 : ∀ q ∈ mt_233, mT 233 q.1 q.2 := mAllP_mem mc_233
theorem mt9_234 : ∀ q ∈ mt_234, mT 234 q.1 q.2 := mAllP_mem mc_234
theorem mt9_235 : ∀ q ∈ mt_235, mT 235 q.1 q.2 := mAllP_mem mc_235
theorem mt9_236 : ∀ q ∈ mt_236, mT 236 q.1 q.2 := mAllP_mem mc_236
theorem mt9_237 : ∀ q ∈ mt_237, mT 237 q.1 q.2 := mAllP_mem mc_237
theorem mt9_238 : ∀ q ∈ mt_238, mT 238 q.1 q.2 := mAllP_mem mc_238
theorem mt9_239 : ∀ q ∈ mt_239, mT 239 q.1 q.2 := mAllP_mem mc_239
theorem mt9_240 : ∀ q ∈ mt_240, mT 240 q.1 q.2 := mAllP_mem mc_240
theorem mt9_241 : ∀ q ∈ mt_241, mT 241 q.1 q.2 := mAllP_mem mc_241
theorem mt9_242 : ∀ q ∈ mt_242, mT 242 q.1 q.2 := mAllP_mem mc_242
theorem mt9_243 : ∀ q ∈ mt_243, mT 243 q.1 q.2 := mAllP_mem mc_243
theorem mt9_244 : ∀ q ∈ mt_244, mT 244 q.1 q.2 := mAllP_mem mc_244
theorem mt9_245 : ∀ q ∈ mt_245, mT 245 q.1 q.2 := mAllP_mem mc_245
theorem mt9_246 : ∀ q ∈ mt_246, mT 246 q.1 q.2 := mAllP_mem mc_246
theorem mt9_247 : ∀ q ∈ mt_247, mT 247 q.1 q.2 := mAllP_mem mc_247
theorem mt9_248 : ∀ q ∈ mt_248, mT 248 q.1 q.2 := mAllP_mem mc_248
theorem mt9_249 : ∀ q ∈ mt_249, mT 249 q.1 q.2 := mAllP_mem mc_249
theorem mt9_250 : ∀ q ∈ mt_250, mT 250 q.1 q.2 := mAllP_mem mc_250
theorem mt9_251 : ∀ q ∈ mt_251, mT 251 q.1 q.2 := mAllP_mem mc_251
theorem mt9_252 : ∀ q ∈ mt_252, mT 252 q.1 q.2 := mAllP_mem mc_252
theorem mt9_253 : ∀ q ∈ mt_253, mT 253 q.1 q.2 := mAllP_mem mc_253
theorem mt9_254 : ∀ q ∈ mt_254, mT 254 q.1 q.2 := mAllP_mem mc_254
theorem mt9_255 : ∀ q ∈ mt_255, mT 255 q.1 q.2 := mAllP_mem mc_255
theorem mt9_256 : ∀ q ∈ mt_256, mT 256 q.1 q.2 := mAllP_mem mc_256
theorem mt9_257 : ∀ q ∈ mt_257, mT 257 q.1 q.2 := mAllP_mem mc_257
theorem mt9_258 : ∀ q ∈ mt_258, mT 258 q.1 q.2 := mAllP_mem mc_258
theorem mt9_259 : ∀ q ∈ mt_259, mT 259 q.1 q.2 := mAllP_mem mc_259
theorem mt9_260 : ∀ q ∈ mt_260, mT 260 q.1 q.2 := mAllP_mem mc_260
theorem mt9_261 : ∀ q ∈ mt_261, mT 261 q.1 q.2 := mAllP_mem mc_261
theorem mt9_262 : ∀ q ∈ mt_262, mT 262 q.1 q.2 := mAllP_mem mc_262
theorem mt9_263 : ∀ q ∈ mt_263, mT 263 q.1 q.2 := mAllP_mem mc_263
theorem mt9_264 : ∀ q ∈ mt_264, mT 264 q.1 q.2 := mAllP_mem mc_264
theorem mt9_265 : ∀ q ∈ mt_265, mT 265 q.1 q.2 := mAllP_mem mc_265
theorem mt9_266 : ∀ q ∈ mt_266, mT 266 q.1 q.2 := mAllP_mem mc_266
theorem mt9_267 : ∀ q ∈ mt_267, mT 267 q.1 q.2 := mAllP_mem mc_267
theorem mt9_268 : ∀ q ∈ mt_268, mT 268 q.1 q.2 := mAllP_mem mc_268
theorem mt9_269 : ∀ q ∈ mt_269, mT 269 q.1 q.2 := mAllP_mem mc_269
theorem mt9_270 : ∀ q ∈ mt_270, mT 270 q.1 q.2 := mAllP_mem mc_270
theorem mt9_271 : ∀ q ∈ mt_271, mT 271 q.1 q.2 := mAllP_mem mc_271
theorem mt9_272 : ∀ q ∈ mt_272, mT 272 q.1 q.2 := mAllP_mem mc_272
theorem mt9_273 : ∀ q ∈ mt_273, mT 273 q.1 q.2 := mAllP_mem mc_273
theorem mt9_274 : ∀ q ∈ mt_274, mT 274 q.1 q.2 := mAllP_mem mc_274
theorem mt9_275 : ∀ q ∈ mt_275, mT 275 q.1 q.2 := mAllP_mem mc_275
theorem mt9_276 : ∀ q ∈ mt_276, mT 276 q.1 q.2 := mAllP_mem mc_276
theorem mt9_277 : ∀ q ∈ mt_277, mT 277 q.1 q.2 := mAllP_mem mc_277
theorem mt9_278 : ∀ q ∈ mt_278, mT 278 q.1 q.2 := mAllP_mem mc_278
theorem mt9_279 : ∀ q ∈ mt_279, mT 279 q.1 q.2 := mAllP_mem mc_279
theorem mt9_280 : ∀ q ∈ mt_280, mT 280 q.1 q.2 := mAllP_mem mc_280
theorem mt9_281 : ∀ q ∈ mt_281, mT 281 q.1 q.2 := mAllP_mem mc_281
theorem mt9_282 : ∀ q ∈ mt_282, mT 282 q.1 q.2 := mAllP_mem mc_282
theorem mt9_283 : ∀ q ∈ mt_283, mT 283 q.1 q.2 := mAllP_mem mc_283
theorem mt9_284 : ∀ q ∈ mt_284, mT 284 q.1 q.2 := mAllP_mem mc_284
theorem mt9_285 : ∀ q ∈ mt_285, mT 285 q.1 q.2 := mAllP_mem mc_285
theorem mt9_286 : ∀ q ∈ mt_286, mT 286 q.1 q.2 := mAllP_mem mc_286
theorem mt9_287 : ∀ q ∈ mt_287, mT 287 q.1 q.2 := mAllP_mem mc_287
theorem mt9_288 : ∀ q ∈ mt_288, mT 288 q.1 q.2 := mAllP_mem mc_288
theorem mt9_289 : ∀ q ∈ mt_289, mT 289 q.1 q.2 := mAllP_mem mc_289
theorem mt9_290 : ∀ q ∈ mt_290, mT 290 q.1 q.2 := mAllP_mem mc_290
theorem mt9_291 : ∀ q ∈ mt_291, mT 291 q.1 q.2 := mAllP_mem mc_291
theorem mt9_292 : ∀ q ∈ mt_292, mT 292 q.1 q.2 := mAllP_mem mc_292
theorem mt9_293 : ∀ q ∈ mt_293, mT 293 q.1 q.2 := mAllP_mem mc_293
theorem mt9_294 : ∀ q ∈ mt_294, mT 294 q.1 q.2 := mAllP_mem mc_294
theorem mt9_295 : ∀ q ∈ mt_295, mT 295 q.1 q.2 := mAllP_mem mc_295
theorem mt9_296 : ∀ q ∈ mt_296, mT 296 q.1 q.2 := mAllP_mem mc_296
theorem mt9_297 : ∀ q ∈ mt_297, mT 297 q.1 q.2 := mAllP_mem mc_297
theorem mt9_298 : ∀ q ∈ mt_298, mT 298 q.1 q.2 := mAllP_mem mc_298
theorem mt9_299 : ∀ q ∈ mt_299, mT 299 q.1 q.2 := mAllP_mem mc_299
theorem mt9_300 : ∀ q ∈ mt_300, mT 300 q.1 q.2 := mAllP_mem mc_300
theorem mt9_301 : ∀ q ∈ mt_301, mT 301 q.1 q.2 := mAllP_mem mc_301
theorem mt9_302 : ∀ q ∈ mt_302, mT 302 q.1 q.2 := mAllP_mem mc_302
theorem mt9_303 : ∀ q ∈ mt_303, mT 303 q.1 q.2 := mAllP_mem mc_303
theorem mt9_304 : ∀ q ∈ mt_304, mT 304 q.1 q.2 := mAllP_mem mc_304
theorem mt9_305 : ∀ q ∈ mt_305, mT 305 q.1 q.2 := mAllP_mem mc_305
theorem mt9_306 : ∀ q ∈ mt_306, mT 306 q.1 q.2 := mAllP_mem mc_306
theorem mt9_307 : ∀ q ∈ mt_307, mT 307 q.1 q.2 := mAllP_mem mc_307
theorem mt9_308 : ∀ q ∈ mt_308, mT 308 q.1 q.2 := mAllP_mem mc_308
theorem mt9_309 : ∀ q ∈ mt_309, mT 309 q.1 q.2 := mAllP_mem mc_309
theorem mt9_310 : ∀ q ∈ mt_310, mT 310 q.1 q.2 := mAllP_mem mc_310
theorem mt9_311 : ∀ q ∈ mt_311, mT 311 q.1 q.2 := mAllP_mem mc_311
theorem mt9_312 : ∀ q ∈ mt_312, mT 312 q.1 q.2 := mAllP_mem mc_312
theorem mt9_313 : ∀ q ∈ mt_313, mT 313 q.1 q.2 := mAllP_mem mc_313
theorem mt9_314 : ∀ q ∈ mt_314, mT 314 q.1 q.2 := mAllP_mem mc_314
theorem mt9_315 : ∀ q ∈ mt_315, mT 315 q.1 q.2 := mAllP_mem mc_315
theorem mt9_316 : ∀ q ∈ mt_316, mT 316 q.1 q.2 := mAllP_mem mc_316
theorem mt9_317 : ∀ q ∈ mt_317, mT 317 q.1 q.2 := mAllP_mem mc_317
theorem mt9_318 : ∀ q ∈ mt_318, mT 318 q.1 q.2 := mAllP_mem mc_318
theorem mt9_319 : ∀ q ∈ mt_319, mT 319 q.1 q.2 := mAllP_mem mc_319
theorem mt9_320 : ∀ q ∈ mt_320, mT 320 q.1 q.2 := mAllP_mem mc_320
theorem mt9_321 : ∀ q ∈ mt_321, mT 321 q.1 q.2 := mAllP_mem mc_321
theorem mt9_322 : ∀ q ∈ mt_322, mT 322 q.1 q.2 := mAllP_mem mc_322
theorem mt9_323 : ∀ q ∈ mt_323, mT 323 q.1 q.2 := mAllP_mem mc_323
theorem mt9_324 : ∀ q ∈ mt_324, mT 324 q.1 q.2 := mAllP_mem mc_324
theorem mt9_325 : ∀ q ∈ mt_325, mT 325 q.1 q.2 := mAllP_mem mc_325
theorem mt9_326 : ∀ q ∈ mt_326, mT 326 q.1 q.2 := mAllP_mem mc_326
theorem mt9_327 : ∀ q ∈ mt_327, mT 327 q.1 q.2 := mAllP_mem mc_327
theorem mt9_328 : ∀ q ∈ mt_328, mT 328 q.1 q.2 := mAllP_mem mc_328
theorem mt9_329 : ∀ q ∈ mt_329, mT 329 q.1 q.2 := mAllP_mem mc_329
theorem mt9_330 : ∀ q ∈ mt_330, mT 330 q.1 q.2 := mAllP_mem mc_330
theorem mt9_331 : ∀ q ∈ mt_331, mT 331 q.1 q.2 := mAllP_mem mc_331
theorem mt9_332 : ∀ q ∈ mt_332, mT 332 q.1 q.2 := mAllP_mem mc_332
theorem mt9_333 : ∀ q ∈ mt_333, mT 333 q.1 q.2 := mAllP_mem mc_333
theorem mt9_334 : ∀ q ∈ mt_334, mT 334 q.1 q.2 := mAllApp (mAllP_mem mc_334_0) ((mAllP_mem mc_334_1))
theorem mt9_335 : ∀ q ∈ mt_335, mT 335 q.1 q.2 := mAllP_mem mc_335
theorem mt9_336 : ∀ q ∈ mt_336, mT 336 q.1 q.2 := mAllApp (mAllP_mem mc_336_0) ((mAllP_mem mc_336_1))
theorem mt9_337 : ∀ q ∈ mt_337, mT 337 q.1 q.2 := mAllP_mem mc_337
theorem mt9_338 : ∀ q ∈ mt_338, mT 338 q.1 q.2 := mAllP_mem mc_338
theorem mt9_339 : ∀ q ∈ mt_339, mT 339 q.1 q.2 := mAllP_mem mc_339
theorem mt9_340 : ∀ q ∈ mt_340, mT 340 q.1 q.2 := mAllP_mem mc_340
theorem mt9_341 : ∀ q ∈ mt_341, mT 341 q.1 q.2 := mAllP_mem mc_341
theorem mt9_342 : ∀ q ∈ mt_342, mT 342 q.1 q.2 := mAllP_mem mc_342
theorem mt9_343 : ∀ q ∈ mt_343, mT 343 q.1 q.2 := mAllP_mem mc_343
theorem mt9_344 : ∀ q ∈ mt_344, mT 344 q.1 q.2 := mAllP_mem mc_344
theorem mt9_345 : ∀ q ∈ mt_345, mT 345 q.1 q.2 := mAllP_mem mc_345
theorem mt9_346 : ∀ q ∈ mt_346, mT 346 q.1 q.2 := mAllP_mem mc_346
theorem mt9_347 : ∀ q ∈ mt_347, mT 347 q.1 q.2 := mAllP_mem mc_347
theorem mt9_348 : ∀ q ∈ mt_348, mT 348 q.1 q.2 := mAllP_mem mc_348
theorem mt9_349 : ∀ q ∈ mt_349, mT 349 q.1 q.2 := mAllP_mem mc_349
theorem mt9_350 : ∀ q ∈ mt_350, mT 350 q.1 q.2 := mAllP_mem mc_350
theorem mt9_351 : ∀ q ∈ mt_351, mT 351 q.1 q.2 := mAllP_mem mc_351
theorem mt9_352 : ∀ q ∈ mt_352, mT 352 q.1 q.2 := mAllP_mem mc_352
theorem mt9_353 : ∀ q ∈ mt_353, mT 353 q.1 q.2 := mAllP_mem mc_353
theorem mt9_354 : ∀ q ∈ mt_354, mT 354 q.1 q.2 := mAllP_mem mc_354
theorem mt9_355 : ∀ q ∈ mt_355, mT 355 q.1 q.2 := mAllP_mem mc_355
theorem mt9_356 : ∀ q ∈ mt_356, mT 356 q.1 q.2 := mAllP_mem mc_356
theorem mt9_357 : ∀ q ∈ mt_357, mT 357 q.1 q.2 := mAllP_mem mc_357
theorem mt9_358 : ∀ q ∈ mt_358, mT 358 q.1 q.2 := mAllP_mem mc_358
theorem mt9_359 : ∀ q ∈ mt_359, mT 359 q.1 q.2 := mAllP_mem mc_359
theorem mt9_360 : ∀ q ∈ mt_360, mT 360 q.1 q.2 := mAllP_mem mc_360
theorem mt9_361 : ∀ q ∈ mt_361, mT 361 q.1 q.2 := mAllP_mem mc_361
theorem mt9_362 : ∀ q ∈ mt_362, mT 362 q.1 q.2 := mAllP_mem mc_362
theorem mt9_363 : ∀ q ∈ mt_363, mT 363 q.1 q.2 := mAllP_mem mc_363
theorem mt9_364 : ∀ q ∈ mt_364, mT 364 q.1 q.2 := mAllApp (mAllP_mem mc_364_0) (mAllApp (mAllP_mem mc_364_1) (mAllApp (mAllP_mem mc_364_2) (mAllApp (mAllP_mem mc_364_3) (mAllApp (mAllP_mem mc_364_4) (mAllApp (mAllP_mem mc_364_5) (mAllApp (mAllP_mem mc_364_6) (mAllApp (mAllP_mem mc_364_7) ((mAllP_mem mc_364_8)))))))))
abbrev mA9 (k : Nat) : Prop := ∀ q ∈ mtab k, (decode (mC k) q.1 = .ok (q.2.1, q.2.2.1) ∧ mlen q.2.1 q.2.2.1 = true) ∧ mT k q.1 q.2

theorem mr_0 (k : Nat) (h1 : 0 ≤ k) (h2 : k < 16) : mA9 k := by
  rcases (show k = 0 ∨ k = 1 ∨ k = 2 ∨ k = 3 ∨ k = 4 ∨ k = 5 ∨ k = 6 ∨ k = 7 ∨ k = 8 ∨ k = 9 ∨ k = 10 ∨ k = 11 ∨ k = 12 ∨ k = 13 ∨ k = 14 ∨ k = 15 by omega) with rfl | rfl | rfl | rfl | rfl | rfl | rfl | rfl | rfl | rfl | rfl | rfl | rfl | rfl | rfl | rfl
  · exact fun q hq => ⟨mb_0 q hq, mt9_0 q hq⟩
  · exact fun q hq => ⟨mb_1 q hq, mt9_1 q hq⟩
  · exact fun q hq => ⟨mb_2 q hq, mt9_2 q hq⟩
  · exact fun q hq => ⟨mb_3 q hq, mt9_3 q hq⟩
  · exact fun q hq => ⟨mb_4 q hq, mt9_4 q hq⟩
  · exact fun q hq => ⟨mb_5 q hq, mt9_5 q hq⟩
  · exact fun q hq => ⟨mb_6 q hq, mt9_6 q hq⟩
  · exact fun q hq => ⟨mb_7 q hq, mt9_7 q hq⟩
  · exact fun q hq => ⟨mb_8 q hq, mt9_8 q hq⟩
  · exact fun q hq => ⟨mb_9 q hq, mt9_9 q hq⟩
  · exact fun q hq => ⟨mb_10 q hq, mt9_10 q hq⟩
  · exact fun q hq => ⟨mb_11 q hq, mt9_11 q hq⟩
  · exact fun q hq => ⟨mb_12 q hq, mt9_12 q hq⟩
  · exact fun q hq => ⟨mb_13 q hq, mt9_13 q hq⟩
  · exact fun q hq => ⟨mb_14 q hq, mt9_14 q hq⟩
  · exact fun q hq => ⟨mb_15 q hq, mt9_15 q hq⟩
theorem mr_16 (k : Nat) (h1 : 16 ≤ k) (h2 : k < 32) : mA9 k := by
  rcases (show k = 16 ∨ k = 17 ∨ k = 18 ∨ k = 19 ∨ k = 20 ∨ k = 21 ∨ k = 22 ∨ k = 23 ∨ k = 24 ∨ k = 25 ∨ k = 26 ∨ k = 27 ∨ k = 28 ∨ k = 29 ∨ k = 30 ∨ k = 31 by omega) with rfl | rfl | rfl | rfl | rfl | rfl | rfl | rfl | rfl | rfl | rfl | rfl | rfl | rfl | rfl | rfl
  · exact fun q hq => ⟨mb_16 q hq, mt9_16 q hq⟩
  · exact fun q hq => ⟨mb_17 q hq, mt9_17 q hq⟩
  · exact fun q hq => ⟨mb_18 q hq, mt9_18 q hq⟩
  · exact fun q hq => ⟨mb_19 q hq, mt9_19 q hq⟩
  · exact fun q hq => ⟨mb_20 q hq, mt9_20 q hq⟩
  · exact fun q hq => ⟨mb_21 q hq, mt9_21 q hq⟩
  · exact fun q hq => ⟨mb_22 q hq, mt9_22 q hq⟩
  · exact fun q hq => ⟨mb_23 q hq, mt9_23 q hq⟩
  · exact fun q hq => ⟨mb_24 q hq, mt9_24 q hq⟩
  · exact fun q hq => ⟨mb_25 q hq, mt9_25 q hq⟩
  · exact fun q hq => ⟨mb_26 q hq, mt9_26 q hq⟩
  · exact fun q hq => ⟨mb_27 q hq, mt9_27 q hq⟩
  · exact fun q hq => ⟨mb_28 q hq, mt9_28 q hq⟩
  · exact fun q hq => ⟨mb_29 q hq, mt9_29 q hq⟩
  · exact fun q hq => ⟨mb_30 q hq, mt9_30 q hq⟩
  · exact fun q hq => ⟨mb_31 q hq, mt9_31 q hq⟩
theorem mr_32 (k : Nat) (h1 : 32 ≤ k) (h2 : k < 48) : mA9 k := by
  rcases (show k = 32 ∨ k = 33 ∨ k = 34 ∨ k = 35 ∨ k = 36 ∨ k = 37 ∨ k = 38 ∨ k = 39 ∨ k = 40 ∨ k = 41 ∨ k = 42 ∨ k = 43 ∨ k = 44 ∨ k = 45 ∨ k = 46 ∨ k = 47 by omega) with rfl | rfl | rfl | rfl | rfl | rfl | rfl | rfl | rfl | rfl | rfl | rfl | rfl | rfl | rfl | rfl
  · exact fun q hq => ⟨mb_32 q hq, mt9_32 q hq⟩
  · exact fun q hq => ⟨mb_33 q hq, mt9_33 q hq⟩
  · exact fun q hq => ⟨mb_34 q hq, mt9_34 q hq⟩
  · exact fun q hq => ⟨mb_35 q hq, mt9_35 q hq⟩
  · exact fun q hq => ⟨mb_36 q hq, mt9_36 q hq⟩
  · exact fun q hq => ⟨mb_37 q hq, mt9_37 q hq⟩
  · exact fun q hq => ⟨mb_38 q hq, mt9_38 q hq⟩
  · exact fun q hq => ⟨mb_39 q hq, mt9_39 q hq⟩
  · exact fun q hq => ⟨mb_40 q hq, mt9_40 q hq⟩
  · exact fun q hq => ⟨mb_41 q hq, mt9_41 q hq⟩
  · exact fun q hq => ⟨mb_42 q hq, mt9_42 q hq⟩
  · exact fun q hq => ⟨mb_43 q hq, mt9_43 q hq⟩
  · exact fun q hq => ⟨mb_44 q hq, mt9_44 q hq⟩
  · exact fun q hq => ⟨mb_45 q hq, mt9_45 q hq⟩
  · exact fun q hq => ⟨mb_46 q hq, mt9_46 q hq⟩
  · exact fun q hq => ⟨mb_47 q hq, mt9_47 q hq⟩
theorem mr_48 (k : Nat) (h1 : 48 ≤ k) (h2 : k < 64) : mA9 k := by
  rcases (show k = 48 ∨ k = 49 ∨ k = 50 ∨ k = 51 ∨ k = 52 ∨ k = 53 ∨ k = 54 ∨ k = 55 ∨ k = 56 ∨ k = 57 ∨ k = 58 ∨ k = 59 ∨ k = 60 ∨ k = 61 ∨ k = 62 ∨ k = 63 by omega) with rfl | rfl | rfl | rfl | rfl | rfl | rfl | rfl | rfl | rfl | rfl | rfl | rfl | rfl | rfl | rfl
  · exact fun q hq => ⟨mb_48 q hq, mt9_48 q hq⟩
  · exact fun q hq => ⟨mb_49 q hq, mt9_49 q hq⟩
  · exact fun q hq => ⟨mb_50 q hq, mt9_50 q hq⟩
  · exact fun q hq => ⟨mb_51 q hq, mt9_51 q hq⟩
  · exact fun q hq => ⟨mb_52 q hq, mt9_52 q hq⟩
  · exact fun q hq => ⟨mb_53 q hq, mt9_53 q hq⟩
  · exact fun q hq => ⟨mb_54 q hq, mt9_54 q hq⟩
  · exact fun q hq => ⟨mb_55 q hq, mt9_55 q hq⟩
  · exact fun q hq => ⟨mb_56 q hq, mt9_56 q hq⟩
  · exact fun q hq => ⟨mb_57 q hq, mt9_57 q hq⟩
  · exact fun q hq => ⟨mb_58 q hq, mt9_58 q hq⟩
  · exact fun q hq => ⟨mb_59 q hq, mt9_59 q hq⟩
  · exact fun q hq => ⟨mb_60 q hq, mt9_60 q hq⟩
  · exact fun q hq => ⟨mb_61 q hq, mt9_61 q hq⟩
  · exact fun q hq => ⟨mb_62 q hq, mt9_62 q hq⟩
  · exact fun q hq => ⟨mb_63 q hq, mt9_63 q hq⟩
theorem mr_64 (k : Nat) (h1 : 64 ≤ k) (h2 : k < 80) : mA9 k := by
  rcases (show k = 64 ∨ k = 65 ∨ k = 66 ∨ k = 67 ∨ k = 68 ∨ k = 69 ∨ k = 70 ∨ k = 71 ∨ k = 72 ∨ k = 73 ∨ k = 74 ∨ k = 75 ∨ k = 76 ∨ k = 77 ∨ k = 78 ∨ k = 79 by omega) with rfl | rfl | rfl | rfl | rfl | rfl | rfl | rfl | rfl | rfl | rfl | rfl | rfl | rfl | rfl | rfl
  · exact fun q hq => ⟨mb_64 q hq, mt9_64 q hq⟩
  · exact fun q hq => ⟨mb_65 q hq, mt9_65 q hq⟩
  · exact fun q hq => ⟨mb_66 q hq, mt9_66 q hq⟩
  · exact fun q hq => ⟨mb_67 q hq, mt9_67 q hq⟩
  · exact fun q hq => ⟨mb_68 q hq, mt9_68 q hq⟩
  · exact fun q hq => ⟨mb_69 q hq, mt9_69 q hq⟩
  · exact fun q hq => ⟨mb_70 q hq, mt9_70 q hq⟩
  · exact fun q hq => ⟨mb_71 q hq, mt9_71 q hq⟩
  · exact fun q hq => ⟨mb_72 q hq, mt9_72 q hq⟩
  · exact fun q hq => ⟨mb_73 q hq, mt9_73 q hq⟩
  · exact fun q hq => ⟨mb_74 q hq, mt9_74 q hq⟩
  · exact fun q hq => ⟨mb_75 q hq, mt9_75 q hq⟩
  · exact fun q hq => ⟨mb_76 q hq, mt9_76 q hq⟩
  · exact fun q hq => ⟨mb_77 q hq, mt9_77 q hq⟩
  · exact fun q hq => ⟨mb_78 q hq, mt9_78 q hq⟩
  · exact fun q hq => ⟨mb_79 q hq, mt9_79 q hq⟩
theorem mr_80 (k : Nat) (h1 : 80 ≤ k) (h2 : k < 96) : mA9 k := by
  rcases (show k = 80 ∨ k = 81 ∨ k = 82 ∨ k = 83 ∨ k = 84 ∨ k = 85 ∨ k = 86 ∨ k = 87 ∨ k = 88 ∨ k = 89 ∨ k = 90 ∨ k = 91 ∨ k = 92 ∨ k = 93 ∨ k = 94 ∨ k = 95 by omega) with rfl | rfl | rfl | rfl | rfl | rfl | rfl | rfl | rfl | rfl | rfl | rfl | rfl | rfl | rfl | rfl
  · exact fun q hq => ⟨mb_80 q hq, mt9_80 q hq⟩
  · exact fun q hq => ⟨mb_81 q hq, mt9_81 q hq⟩
  · exact fun q hq => ⟨mb_82 q hq, mt9_82 q hq⟩
  · exact fun q hq => ⟨mb_83 q hq, mt9_83 q hq⟩
  · exact fun q hq => ⟨mb_84 q hq, mt9_84 q hq⟩
  · exact fun q hq => ⟨mb_85 q hq, mt9_85 q hq⟩
  · exact fun q hq => ⟨mb_86 q hq, mt9_86 q hq⟩
  · exact fun q hq => ⟨mb_87 q hq, mt9_87 q hq⟩
  · exact fun q hq => ⟨mb_88 q hq, mt9_88 q hq⟩
  · exact fun q hq => ⟨mb_89 q hq, mt9_89 q hq⟩
  · exact fun q hq => ⟨mb_90 q hq, mt9_90 q hq⟩
  · exact fun q hq => ⟨mb_91 q hq, mt9_91 q hq⟩
  · exact fun q hq => ⟨mb_92 q hq, mt9_92 q hq⟩
  · exact fun q hq => ⟨mb_93 q hq, mt9_93 q hq⟩
  · exact fun q hq => ⟨mb_94 q hq, mt9_94 q hq⟩
  · exact fun q hq => ⟨mb_95 q hq, mt9_95 q hq⟩
theorem mr_96 (k : Nat) (h1 : 96 ≤ k) (h2 : k < 112) : mA9 k := by
  rcases (show k = 96 ∨ k = 97 ∨ k = 98 ∨ k = 99 ∨ k = 100 ∨ k = 101 ∨ k = 102 ∨ k = 103 ∨ k = 104 ∨ k = 105 ∨ k = 106 ∨ k = 107 ∨ k = 108 ∨ k = 109 ∨ k = 110 ∨ k = 111 by omega) with rfl | rfl | rfl | rfl | rfl | rfl | rfl | rfl | rfl | rfl | rfl | rfl | rfl | rfl | rfl | rfl
  · exact fun q hq => ⟨mb_96 q hq, mt9_96 q hq⟩
  · exact fun q hq => ⟨mb_97 q hq, mt9_97 q hq⟩
  · exact fun q hq => ⟨mb_98 q hq, mt9_98 q hq⟩
  · exact fun q hq => ⟨mb_99 q hq, mt9_99 q hq⟩
  · exact fun q hq => ⟨mb_100 q hq, mt9_100 q hq⟩
  · exact fun q hq => ⟨mb_101 q hq, mt9_101 q hq⟩
  · exact fun q hq => ⟨mb_102 q hq, mt9_102 q hq⟩
  · exact fun q hq => ⟨mb_103 q hq, mt9_103 q hq⟩
  · exact fun q hq => ⟨mb_104 q hq, mt9_104 q hq⟩
  · exact fun q hq => ⟨mb_105 q hq, mt9_105 q hq⟩
  · exact fun q hq => ⟨mb_106 q hq, mt9_106 q hq⟩
  · exact fun q hq => ⟨mb_107 q hq, mt9_107 q hq⟩
  · exact fun q hq => ⟨mb_108 q hq, mt9_108 q hq⟩
  · exact fun q hq => ⟨mb_109 q hq, mt9_109 q hq⟩
  · exact fun q hq => ⟨mb_110 q hq, mt9_110 q hq⟩
  · exact fun q hq => ⟨mb_111 q hq, mt9_111 q hq⟩
theorem mr_112 (k : Nat) (h1 : 112 ≤ k) (h2 : k < 128) : mA9 k := by
  rcases (show k = 112 ∨ k = 113 ∨ k = 114 ∨ k = 115 ∨ k = 116 ∨ k = 117 ∨ k = 118 ∨ k = 119 ∨ k = 120 ∨ k = 121 ∨ k = 122 ∨ k = 123 ∨ k = 124 ∨ k = 125 ∨ k = 126 ∨ k = 127 by omega) with rfl | rfl | rfl | rfl | rfl | rfl | rfl | rfl | rfl | rfl | rfl | rfl | rfl | rfl | rfl | rfl
  · exact fun q hq => ⟨mb_112 q hq, mt9_112 q hq⟩
  · exact fun q hq => ⟨mb_113 q hq, mt9_113 q hq⟩
  · exact fun q hq => ⟨mb_114 q hq, mt9_114 q hq⟩
  · exact fun q hq => ⟨mb_115 q hq, mt9_115 q hq⟩
  · exact fun q hq => ⟨mb_116 q hq, mt9_116 q hq⟩
  · exact fun q hq => ⟨mb_117 q hq, mt9_117 q hq⟩
  · exact fun q hq => ⟨mb_118 q hq, mt9_118 q hq⟩
  · exact fun q hq => ⟨mb_119 q hq, mt9_119 q hq⟩
  · exact fun q hq => ⟨mb_120 q hq, mt9_120 q hq⟩
  · exact fun q hq => ⟨mb_121 q hq, mt9_121 q hq⟩
  · exact fun q hq => ⟨mb_122 q hq, mt9_122 q hq⟩
  · exact fun q hq => ⟨mb_123 q hq, mt9_123 q hq⟩
  · exact fun q hq => ⟨mb_124 q hq, mt9_124 q hq⟩
  · exact fun q hq => ⟨mb_125 q hq, mt9_125 q hq⟩
  · exact fun q hq => ⟨mb_126 q hq, mt9_126 q hq⟩
  · exact fun q hq => ⟨mb_127 q hq, mt9_127 q hq⟩
theorem mr_128 (k : Nat) (h1 : 128 ≤ k) (h2 : k < 144) : mA9 k := by
  rcases (show k = 128 ∨ k = 129 ∨ k = 130 ∨ k = 131 ∨ k = 132 ∨ k = 133 ∨ k = 134 ∨ k = 135 ∨ k = 136 ∨ k = 137 ∨ k = 138 ∨ k = 139 ∨ k = 140 ∨ k = 141 ∨ k = 142 ∨ k = 143 by omega) with rfl | rfl | rfl | rfl | rfl | rfl | rfl | rfl | rfl | rfl | rfl | rfl | rfl | rfl | rfl | rfl
  · exact fun q hq => ⟨mb_128 q hq, mt9_128 q hq⟩
  · exact fun q hq => ⟨mb_129 q hq, mt9_129 q hq⟩
  · exact fun q hq => ⟨mb_130 q hq, mt9_130 q hq⟩
  · exact fun q hq => ⟨mb_131 q hq, mt9_131 q hq⟩
  · exact fun q hq => ⟨mb_132 q hq, mt9_132 q hq⟩
  · exact fun q hq => ⟨mb_133 q hq, mt9_133 q hq⟩
  · exact fun q hq => ⟨mb_134 q hq, mt9_134 q hq⟩
  · exact fun q hq => ⟨mb_135 q hq, mt9_135 q hq⟩
  · exact fun q hq => ⟨mb_136 q hq, mt9_136 q hq⟩
  · exact fun q hq => ⟨mb_137 q hq, mt9_137 q hq⟩
  · exact fun q hq => ⟨mb_138 q hq, mt9_138 q hq⟩
  · exact fun q hq => ⟨mb_139 q hq, mt9_139 q hq⟩
  · exact fun q hq => ⟨mb_140 q hq, mt9_140 q hq⟩
  · exact fun q hq => ⟨mb_141 q hq, mt9_141 q hq⟩
  · exact fun q hq => ⟨mb_142 q hq, mt9_142 q hq⟩
  · exact fun q hq => ⟨mb_143 q hq, mt9_143 q hq⟩
theorem mr_144 (k : Nat) (h1 : 144 ≤ k) (h2 : k < 160) : mA9 k := by
  rcases (show k = 144 ∨ k = 145 ∨ k = 146 ∨ k = 147 ∨ k = 148 ∨ k = 149 ∨ k = 150 ∨ k = 151 ∨ k = 152 ∨ k = 153 ∨ k = 154 ∨ k = 155 ∨ k = 156 ∨ k = 157 ∨ k = 158 ∨ k = 159 by omega) with rfl | rfl | rfl | rfl | rfl | rfl | rfl | rfl | rfl | rfl | rfl | rfl | rfl | rfl | rfl | rfl
  · exact fun q hq => ⟨mb_144 q hq, mt9_144 q hq⟩
  · exact fun q hq => ⟨mb_145 q hq, mt9_145 q hq⟩
  · exact fun q hq => ⟨mb_146 q hq, mt9_146 q hq⟩
  · exact fun q hq => ⟨mb_147 q hq, mt9_147 q hq⟩
  · exact fun q hq => ⟨mb_148 q hq, mt9_148 q hq⟩
  · exact fun q hq => ⟨mb_149 q hq, mt9_149 q hq⟩
  · exact fun q hq => ⟨mb_150 q hq, mt9_150 q hq⟩
  · exact fun q hq => ⟨mb_151 q hq, mt9_151 q hq⟩
  · exact fun q hq => ⟨mb_152 q hq, mt9_152 q hq⟩
  · exact fun q hq => ⟨mb_153 q hq, mt9_153 q hq⟩
  · exact fun q hq => ⟨mb_154 q hq, mt9_154 q hq⟩
  · exact fun q hq => ⟨mb_155 q hq, mt9_155 q hq⟩
  · exact fun q hq => ⟨mb_156 q hq, mt9_156 q hq⟩
  · exact fun q hq => ⟨mb_157 q hq, mt9_157 q hq⟩
  · exact fun q hq => ⟨mb_158 q hq, mt9_158 q hq⟩
  · exact fun q hq => ⟨mb_159 q hq, mt9_159 q hq⟩
theorem mr_160 (k : Nat) (h1 : 160 ≤ k) (h2 : k < 176) : mA9 k := by
  rcases (show k = 160 ∨ k = 161 ∨ k = 162 ∨ k = 163 ∨ k = 164 ∨ k = 165 ∨ k = 166 ∨ k = 167 ∨ k = 168 ∨ k = 169 ∨ k = 170 ∨ k = 171 ∨ k = 172 ∨ k = 173 ∨ k = 174 ∨ k = 175 by omega) with rfl | rfl | rfl | rfl | rfl | rfl | rfl | rfl | rfl | rfl | rfl | rfl | rfl | rfl | rfl | rfl
  · exact fun q hq => ⟨mb_160 q hq, mt9_160 q hq⟩
  · exact fun q hq => ⟨mb_161 q hq, mt9_161 q hq⟩
  · exact fun q hq => ⟨mb_162 q hq, mt9_162 q hq⟩
  · exact fun q hq => ⟨mb_163 q hq, mt9_163 q hq⟩
  · exact fun q hq => ⟨mb_164 q hq, mt9_164 q hq⟩
  · exact fun q hq => ⟨mb_165 q hq, mt9_165 q hq⟩
  · exact fun q hq => ⟨mb_166 q hq, mt9_166 q hq⟩
  · exact fun q hq => ⟨mb_167 q hq, mt9_167 q hq⟩
  · exact fun q hq => ⟨mb_168 q hq, mt9_168 q hq⟩
  · exact fun q hq => ⟨mb_169 q hq, mt9_169 q hq⟩
  · exact fun q hq => ⟨mb_170 q hq, mt9_170 q hq⟩
  · exact fun q hq => ⟨mb_171 q hq, mt9_171 q hq⟩
  · exact fun q hq => ⟨mb_172 q hq, mt9_172 q hq⟩
  · exact fun q hq => ⟨mb_173 q hq, mt9_173 q hq⟩
  · exact fun q hq => ⟨mb_174 q hq, mt9_174 q hq⟩
  · exact fun q hq => ⟨mb_175 q hq, mt9_175 q hq⟩
theorem mr_176 (k : Nat) (h1 : 176 ≤ k) (h2 : k < 192) : mA9 k := by
  rcases (show k = 176 ∨ k = 177 ∨ k = 178 ∨ k = 179 ∨ k = 180 ∨ k = 181 ∨ k = 182 ∨ k = 183 ∨ k = 184 ∨ k = 185 ∨ k = 186 ∨ k = 187 ∨ k = 188 ∨ k = 189 ∨ k = 190 ∨ k = 191 by omega) with rfl | rfl | rfl | rfl | rfl | rfl | rfl | rfl | rfl | rfl | rfl | rfl | rfl | rfl | rfl | rfl
  · exact fun q hq => ⟨mb_176 q hq, mt9_176 q hq⟩
  · exact fun q hq => ⟨mb_177 q hq, mt9_177 q hq⟩
  · exact fun q hq => ⟨mb_178 q hq, mt9_178 q hq⟩
  · exact fun q hq => ⟨mb_179 q hq, mt9_179 q hq⟩
  · exact fun q hq => ⟨mb_180 q hq, mt9_180 q hq⟩
  · exact fun q hq => ⟨mb_181 q hq, mt9_181 q hq⟩
  · exact fun q hq => ⟨mb_182 q hq, mt9_182 q hq⟩
  · exact fun q hq => ⟨mb_183 q hq, mt9_183 q hq⟩
  · exact fun q hq => ⟨mb_184 q hq, mt9_184 q hq⟩
  · exact fun q hq => ⟨mb_185 q hq, mt9_185 q hq⟩
  · exact fun q hq => ⟨mb_186 q hq, mt9_186 q hq⟩
  · exact fun q hq => ⟨mb_187 q hq, mt9_187 q hq⟩
  · exact fun q hq => ⟨mb_188 q hq, mt9_188 q hq⟩
  · exact fun q hq => ⟨mb_189 q hq, mt9_189 q hq⟩
  · exact fun q hq => ⟨mb_190 q hq, mt9_190 q hq⟩
  · exact fun q hq => ⟨mb_191 q hq, mt9_191 q hq⟩
theorem mr_192 (k : Nat) (h1 : 192 ≤ k) (h2 : k < 208) : mA9 k := by
  rcases (show k = 192 ∨ k = 193 ∨ k = 194 ∨ k = 195 ∨ k = 196 ∨ k = 197 ∨ k = 198 ∨ k = 199 ∨ k = 200 ∨ k = 201 ∨ k = 202 ∨ k = 203 ∨ k = 204 ∨ k = 205 ∨ k = 206 ∨ k = 207 by omega) with rfl | rfl | rfl | rfl | rfl | rfl | rfl | rfl | rfl | rfl | rfl | rfl | rfl | rfl | rfl | rfl
  · exact fun q hq => ⟨mb_192 q hq, mt9_192 q hq⟩
  · exact fun q hq => ⟨mb_193 q hq, mt9_193 q hq⟩
  · exact fun q hq => ⟨mb_194 q hq, mt9_194 q hq⟩
  · exact fun q hq => ⟨mb_195 q hq, mt9_195 q hq⟩
  · exact fun q hq => ⟨mb_196 q hq, mt9_196 q hq⟩
  · exact fun q hq => ⟨mb_197 q hq, mt9_197 q hq⟩
  · exact fun q hq => ⟨mb_198 q hq, mt9_198 q hq⟩
  · exact fun q hq => ⟨mb_199 q hq, mt9_199 q hq⟩
  · exact fun q hq => ⟨mb_200 q hq, mt9_200 q hq⟩
  · exact fun q hq => ⟨mb_201 q hq, mt9_201 q hq⟩
  · exact fun q hq => ⟨mb_202 q hq, mt9_202 q hq⟩
  · exact fun q hq => ⟨mb_203 q hq, mt9_203 q hq⟩
  · exact fun q hq => ⟨mb_204 q hq, mt9_204 q hq⟩
  · exact fun q hq => ⟨mb_205 q hq, mt9_205 q hq⟩
  · exact fun q hq => ⟨mb_206 q hq, mt9_206 q hq⟩
  · exact fun q hq => ⟨mb_207 q hq, mt9_207 q hq⟩
theorem mr_208 (k : Nat) (h1 : 208 ≤ k) (h2 : k < 224) : mA9 k := by
  rcases (show k = 208 ∨ k = 209 ∨ k = 210 ∨ k = 211 ∨ k = 212 ∨ k = 213 ∨ k = 214 ∨ k = 215 ∨ k = 216 ∨ k = 217 ∨ k = 218 ∨ k = 219 ∨ k = 220 ∨ k = 221 ∨ k = 222 ∨ k = 223 by omega) with rfl | rfl | rfl | rfl | rfl | rfl | rfl | rfl | rfl | rfl | rfl | rfl | rfl | rfl | rfl | rfl
  · exact fun q hq => ⟨mb_208 q hq, mt9_208 q hq⟩
  · exact fun q hq => ⟨mb_209 q hq, mt9_209 q hq⟩
  · exact fun q hq => ⟨mb_210 q hq, mt9_210 q hq⟩
  · exact fun q hq => ⟨mb_211 q hq, mt9_211 q hq⟩
  · exact fun q hq => ⟨mb_212 q hq, mt9_212 q hq⟩
  · exact fun q hq => ⟨mb_213 q hq, mt9_213 q hq⟩
  · exact fun q hq => ⟨mb_214 q hq, mt9_214 q hq⟩
  · exact fun q hq => ⟨mb_215 q hq, mt9_215 q hq⟩
  · exact fun q hq => ⟨mb_216 q hq, mt9_216 q hq⟩
  · exact fun q hq => ⟨mb_217 q hq, mt9_217 q hq⟩
  · exact fun q hq => ⟨mb_218 q hq, mt9_218 q hq⟩
  · exact fun q hq => ⟨mb_219 q hq, mt9_219 q hq⟩
  · exact fun q hq => ⟨mb_220 q hq, mt9_220 q hq⟩
  · exact fun q hq => ⟨mb_221 q hq, mt9_221 q hq⟩
  · exact fun q hq => ⟨mb_222 q hq, mt9_222 q hq⟩
  · exact fun q hq => ⟨mb_223 q hq, mt9_223 q hq⟩
theorem mr_224 (k : Nat) (h1 : 224 ≤ k) (h2 : k < 240) : mA9 k := by
  rcases (show k = 224 ∨ k = 225 ∨ k = 226 ∨ k = 227 ∨ k = 228 ∨ k = 229 ∨ k = 230 ∨ k = 231 ∨ k = 232 ∨ k = 233 ∨ k = 234 ∨ k = 235 ∨ k = 236 ∨ k = 237 ∨ k = 238 ∨ k = 239 by omega) with rfl | rfl | rfl | rfl | rfl | rfl | rfl | rfl | rfl | rfl | rfl | rfl | rfl | rfl | rfl | rfl
  · exact fun q hq => ⟨mb_224 q hq, mt9_224 q hq⟩
  · exact fun q hq => ⟨mb_225 q hq, mt9_225 q hq⟩
  · exact fun q hq => ⟨mb_226 q hq, mt9_226 q hq⟩
  · exact fun q hq => ⟨mb_227 q hq, mt9_227 q hq⟩
  · exact fun q hq => ⟨mb_228 q hq, mt9_228 q hq⟩
  · exact fun q hq => ⟨mb_229 q hq, mt9_229 q hq⟩
  · exact fun q hq => ⟨mb_230 q hq, mt9_230 q hq⟩
  · exact fun q hq => ⟨mb_231 q hq, mt9_231 q hq⟩
  · exact fun q hq => ⟨mb_232 q hq, mt9_232 q hq⟩
  · exact fun q hq => ⟨mb_233 q hq, mt9_233 q hq⟩
  · exact fun q hq => ⟨mb_234 q hq, mt9_234 q hq⟩
  · exact fun q hq => ⟨mb_235 q hq, mt9_235 q hq⟩
  · exact fun q hq => ⟨mb_236 q hq, mt9_236 q hq⟩
  · exact fun q hq => ⟨mb_237 q hq, mt9_237 q hq⟩
  · exact fun q hq => ⟨mb_238 q hq, mt9_238 q hq⟩
  · exact fun q hq => ⟨mb_239 q hq, mt9_239 q hq⟩
theorem mr_240 (k : Nat) (h1 : 240 ≤ k) (h2 : k < 256) : mA9 k := by
  rcases (show k = 240 ∨ k = 241 ∨ k = 242 ∨ k = 243 ∨ k = 244 ∨ k = 245 ∨ k = 246 ∨ k = 247 ∨ k = 248 ∨ k = 249 ∨ k = 250 ∨ k = 251 ∨ k = 252 ∨ k = 253 ∨ k = 254 ∨ k = 255 by omega) with rfl | rfl | rfl | rfl | rfl | rfl | rfl | rfl | rfl | rfl | rfl | rfl | rfl | rfl | rfl | rfl
  · exact fun q hq => ⟨mb_240 q hq, mt9_240 q hq⟩
  · exact fun q hq => ⟨mb_241 q hq, mt9_241 q hq⟩
  · exact fun q hq => ⟨mb_242 q hq, mt9_242 q hq⟩
  · exact fun q hq => ⟨mb_243 q hq, mt9_243 q hq⟩
  · exact fun q hq => ⟨mb_244 q hq, mt9_244 q hq⟩
  · exact fun q hq => ⟨mb_245 q hq, mt9_245 q hq⟩
  · exact fun q hq => ⟨mb_246 q hq, mt9_246 q hq⟩
  · exact fun q hq => ⟨mb_247 q hq, mt9_247 q hq⟩
  · exact fun q hq => ⟨mb_248 q hq, mt9_248 q hq⟩
  · exact fun q hq => ⟨mb_249 q hq, mt9_249 q hq⟩
  · exact fun q hq => ⟨mb_250 q hq, mt9_250 q hq⟩
  · exact fun q hq => ⟨mb_251 q hq, mt9_251 q hq⟩
  · exact fun q hq => ⟨mb_252 q hq, mt9_252 q hq⟩
  · exact fun q hq => ⟨mb_253 q hq, mt9_253 q hq⟩
  · exact fun q hq => ⟨mb_254 q hq, mt9_254 q hq⟩
  · exact fun q hq => ⟨mb_255 q hq, mt9_255 q hq⟩
theorem mr_256 (k : Nat) (h1 : 256 ≤ k) (h2 : k < 272) : mA9 k := by
  rcases (show k = 256 ∨ k = 257 ∨ k = 258 ∨ k = 259 ∨ k = 260 ∨ k = 261 ∨ k = 262 ∨ k = 263 ∨ k = 264 ∨ k = 265 ∨ k = 266 ∨ k = 267 ∨ k = 268 ∨ k = 269 ∨ k = 270 ∨ k = 271 by omega) with rfl | rfl | rfl | rfl | rfl | rfl | rfl | rfl | rfl | rfl | rfl | rfl | rfl | rfl | rfl | rfl
  · exact fun q hq => ⟨mb_256 q hq, mt9_256 q hq⟩
  · exact fun q hq => ⟨mb_257 q hq, mt9_257 q hq⟩
  · exact fun q hq => ⟨mb_258 q hq, mt9_258 q hq⟩
  · exact fun q hq => ⟨mb_259 q hq, mt9_259 q hq⟩
  · exact fun q hq => ⟨mb_260 q hq, mt9_260 q hq⟩
  · exact fun q hq => ⟨mb_261 q hq, mt9_261 q hq⟩
  · exact fun q hq => ⟨mb_262 q hq, mt9_262 q hq⟩
  · exact fun q hq => ⟨mb_263 q hq, mt9_263 q hq⟩
  · exact fun q hq => ⟨mb_264 q hq, mt9_264 q hq⟩
  · exact fun q hq => ⟨mb_265 q hq, mt9_265 q hq⟩
  · exact fun q hq => ⟨mb_266 q hq, mt9_266 q hq⟩
  · exact fun q hq => ⟨mb_267 q hq, mt9_267 q hq⟩
  · exact fun q hq => ⟨mb_268 q hq, mt9_268 q hq⟩
  · exact fun q hq => ⟨mb_269 q hq, mt9_269 q hq⟩
  · exact fun q hq => ⟨mb_270 q hq, mt9_270 q hq⟩
  · exact fun q hq => ⟨mb_271 q hq, mt9_271 q hq⟩
theorem mr_272 (k : Nat) (h1 : 272 ≤ k) (h2 : k < 288) : mA9 k := by
  rcases (show k = 272 ∨ k = 273 ∨ k = 274 ∨ k = 275 ∨ k = 276 ∨ k = 277 ∨ k = 278 ∨ k = 279 ∨ k = 280 ∨ k = 281 ∨ k = 282 ∨ k = 283 ∨ k = 284 ∨ k = 285 ∨ k = 286 ∨ k = 287 by omega) with rfl | rfl | rfl | rfl | rfl | rfl | rfl | rfl | rfl | rfl | rfl | rfl | rfl | rfl | rfl | rfl
  · exact fun q hq => ⟨mb_272 q hq, mt9_272 q hq⟩
  · exact fun q hq => ⟨mb_273 q hq, mt9_273 q hq⟩
  · exact fun q hq => ⟨mb_274 q hq, mt9_274 q hq⟩
  · exact fun q hq => ⟨mb_275 q hq, mt9_275 q hq⟩
  · exact fun q hq => ⟨mb_276 q hq, mt9_276 q hq⟩
  · exact fun q hq => ⟨mb_277 q hq, mt9_277 q hq⟩
  · exact fun q hq => ⟨mb_278 q hq, mt9_278 q hq⟩
  · exact fun q hq => ⟨mb_279 q hq, mt9_279 q hq⟩
  · exact fun q hq => ⟨mb_280 q hq, mt9_280 q hq⟩
  · exact fun q hq => ⟨mb_281 q hq, mt9_281 q hq⟩
  · exact fun q hq => ⟨mb_282 q hq, mt9_282 q hq⟩
  · exact fun q hq => ⟨mb_283 q hq, mt9_283 q hq⟩
  · exact fun q hq => ⟨mb_284 q hq, mt9_284 q hq⟩
  · exact fun q hq => ⟨mb_285 q hq, mt9_285 q hq⟩
  · exact fun q hq => ⟨mb_286 q hq, mt9_286 q hq⟩
  · exact fun q hq => ⟨mb_287 q hq, mt9_287 q hq⟩
theorem mr_288 (k : Nat) (h1 : 288 ≤ k) (h2 : k < 304) : mA9 k := by
  rcases (show k = 288 ∨ k = 289 ∨ k = 290 ∨ k = 291 ∨ k = 292 ∨ k = 293 ∨ k = 294 ∨ k = 295 ∨ k = 296 ∨ k = 297 ∨ k = 298 ∨ k = 299 ∨ k = 300 ∨ k = 301 ∨ k = 302 ∨ k = 303 by omega) with rfl | rfl | rfl | rfl | rfl | rfl | rfl | rfl | rfl | rfl | rfl | rfl | rfl | rfl | rfl | rfl
  · exact fun q hq => ⟨mb_288 q hq, mt9_288 q hq⟩
  · exact fun q hq => ⟨mb_289 q hq, mt9_289 q hq⟩
  · exact fun q hq => ⟨mb_290 q hq, mt9_290 q hq⟩
  · exact fun q hq => ⟨mb_291 q hq, mt9_291 q hq⟩
  · exact fun q hq => ⟨mb_292 q hq, mt9_292 q hq⟩
  · exact fun q hq => ⟨mb_293 q hq, mt9_293 q hq⟩
  · exact fun q hq => ⟨mb_294 q hq, mt9_294 q hq⟩
  · exact fun q hq => ⟨mb_295 q hq, mt9_295 q hq⟩
  · exact fun q hq => ⟨mb_296 q hq, mt9_296 q hq⟩
  · exact fun q hq => ⟨mb_297 q hq, mt9_297 q hq⟩
  · exact fun q hq => ⟨mb_298 q hq, mt9_298 q hq⟩
  · exact fun q hq => ⟨mb_299 q hq, mt9_299 q hq⟩
  · exact fun q hq => ⟨mb_300 q hq, mt9_300 q hq⟩
  · exact fun q hq => ⟨mb_301 q hq, mt9_301 q hq⟩
  · exact fun q hq => ⟨mb_302 q hq, mt9_302 q hq⟩
  · exact fun q hq => ⟨mb_303 q hq, mt9_303 q hq⟩
theorem mr_304 (k : Nat) (h1 : 304 ≤ k) (h2 : k < 320) : mA9 k := by
  rcases (show k = 304 ∨ k = 305 ∨ k = 306 ∨ k = 307 ∨ k = 308 ∨ k = 309 ∨ k = 310 ∨ k = 311 ∨ k = 312 ∨ k = 313 ∨ k = 314 ∨ k = 315 ∨ k = 316 ∨ k = 317 ∨ k = 318 ∨ k = 319 by omega) with rfl | rfl | rfl | rfl | rfl | rfl | rfl | rfl | rfl | rfl | rfl | rfl | rfl | rfl | rfl | rfl
  · exact fun q hq => ⟨mb_304 q hq, mt9_304 q hq⟩
  · exact fun q hq => ⟨mb_305 q hq, mt9_305 q hq⟩
  · exact fun q hq => ⟨mb_306 q hq, mt9_306 q hq⟩
  · exact fun q hq => ⟨mb_307 q hq, mt9_307 q hq⟩
  · exact fun q hq => ⟨mb_308 q hq, mt9_308 q hq⟩
  · exact fun q hq => ⟨mb_309 q hq, mt9_309 q hq⟩
  · exact fun q hq => ⟨mb_310 q hq, mt9_310 q hq⟩
  · exact fun q hq => ⟨mb_311 q hq, mt9_311 q hq⟩
  · exact fun q hq => ⟨mb_312 q hq, mt9_312 q hq⟩
  · exact fun q hq => ⟨mb_313 q hq, mt9_313 q hq⟩
  · exact fun q hq => ⟨mb_314 q hq, mt9_314 q hq⟩
  · exact fun q hq => ⟨mb_315 q hq, mt9_315 q hq⟩
  · exact fun q hq => ⟨mb_316 q hq, mt9_316 q hq⟩
  · exact fun q hq => ⟨mb_317 q hq, mt9_317 q hq⟩
  · exact fun q hq => ⟨mb_318 q hq, mt9_318 q hq⟩
  · exact fun q hq => ⟨mb_319 q hq, mt9_319 q hq⟩
theorem mr_320 (k : Nat) (h1 : 320 ≤ k) (h2 : k < 336) : mA9 k := by
  rcases (show k = 320 ∨ k = 321 ∨ k = 322 ∨ k = 323 ∨ k = 324 ∨ k = 325 ∨ k = 326 ∨ k = 327 ∨ k = 328 ∨ k = 329 ∨ k = 330 ∨ k = 331 ∨ k = 332 ∨ k = 333 ∨ k = 334 ∨ k = 335 by omega) with rfl | rfl | rfl | rfl | rfl | rfl | rfl | rfl | rfl | rfl | rfl | rfl | rfl | rfl | rfl | rfl
  · exact fun q hq => ⟨mb_320 q hq, mt9_320 q hq⟩
  · exact fun q hq => ⟨mb_321 q hq, mt9_321 q hq⟩
  · exact fun q hq => ⟨mb_322 q hq, mt9_322 q hq⟩
  · exact fun q hq => ⟨mb_323 q hq, mt9_323 q hq⟩
  · exact fun q hq => ⟨mb_324 q hq, mt9_324 q hq⟩
  · exact fun q hq => ⟨mb_325 q hq, mt9_325 q hq⟩
  · exact fun q hq => ⟨mb_326 q hq, mt9_326 q hq⟩
  · exact fun q hq => ⟨mb_327 q hq, mt9_327 q hq⟩
  · exact fun q hq => ⟨mb_328 q hq, mt9_328 q hq⟩
  · exact fun q hq => ⟨mb_329 q hq, mt9_329 q hq⟩
  · exact fun q hq => ⟨mb_330 q hq, mt9_330 q hq⟩
  · exact fun q hq => ⟨mb_331 q hq, mt9_331 q hq⟩
  · exact fun q hq => ⟨mb_332 q hq, mt9_332 q hq⟩
  · exact fun q hq => ⟨mb_333 q hq, mt9_333 q hq⟩
  · exact fun q hq => ⟨mb_334 q hq, mt9_334 q hq⟩
  · exact fun q hq => ⟨mb_335 q hq, mt9_335 q hq⟩
theorem mr_336 (k : Nat) (h1 : 336 ≤ k) (h2 : k < 352) : mA9 k := by
  rcases (show k = 336 ∨ k = 337 ∨ k = 338 ∨ k = 339 ∨ k = 340 ∨ k = 341 ∨ k = 342 ∨ k = 343 ∨ k = 344 ∨ k = 345 ∨ k = 346 ∨ k = 347 ∨ k = 348 ∨ k = 349 ∨ k = 350 ∨ k = 351 by omega) with rfl | rfl | rfl | rfl | rfl | rfl | rfl | rfl | rfl | rfl | rfl | rfl | rfl | rfl | rfl | rfl
  · exact fun q hq => ⟨mb_336 q hq, mt9_336 q hq⟩
  · exact fun q hq => ⟨mb_337 q hq, mt9_337 q hq⟩
  · exact fun q hq => ⟨mb_338 q hq, mt9_338 q hq⟩
  · exact fun q hq => ⟨mb_339 q hq, mt9_339 q hq⟩
  · exact fun q hq => ⟨mb_340 q hq, mt9_340 q hq⟩
  · exact fun q hq => ⟨mb_341 q hq, mt9_341 q hq⟩
  · exact fun q hq => ⟨mb_342 q hq, mt9_342 q hq⟩
  · exact fun q hq => ⟨mb_343 q hq, mt9_343 q hq⟩
  · exact fun q hq => ⟨mb_344 q hq, mt9_344 q hq⟩
  · exact fun q hq => ⟨mb_345 q hq, mt9_345 q hq⟩
  · exact fun q hq => ⟨mb_346 q hq, mt9_346 q hq⟩
  · exact fun q hq => ⟨mb_347 q hq, mt9_347 q hq⟩
  · exact fun q hq => ⟨mb_348 q hq, mt9_348 q hq⟩
  · exact fun q hq => ⟨mb_349 q hq, mt9_349 q hq⟩
  · exact fun q hq => ⟨mb_350 q hq, mt9_350 q hq⟩
  · exact fun q hq => ⟨mb_351 q hq, mt9_351 q hq⟩
theorem mr_352 (k : Nat) (h1 : 352 ≤ k) (h2 : k < 365) : mA9 k := by
  rcases (show k = 352 ∨ k = 353 ∨ k = 354 ∨ k = 355 ∨ k = 356 ∨ k = 357 ∨ k = 358 ∨ k = 359 ∨ k = 360 ∨ k = 361 ∨ k = 362 ∨ k = 363 ∨ k = 364 by omega) with rfl | rfl | rfl | rfl | rfl | rfl | rfl | rfl | rfl | rfl | rfl | rfl | rfl
  · exact fun q hq => ⟨mb_352 q hq, mt9_352 q hq⟩
  · exact fun q hq => ⟨mb_353 q hq, mt9_353 q hq⟩
  · exact fun q hq => ⟨mb_354 q hq, mt9_354 q hq⟩
  · exact fun q hq => ⟨mb_355 q hq, mt9_355 q hq⟩
  · exact fun q hq => ⟨mb_356 q hq, mt9_356 q hq⟩
  · exact fun q hq => ⟨mb_357 q hq, mt9_357 q hq⟩
  · exact fun q hq => ⟨mb_358 q hq, mt9_358 q hq⟩
  · exact fun q hq => ⟨mb_359 q hq, mt9_359 q hq⟩
  · exact fun q hq => ⟨mb_360 q hq, mt9_360 q hq⟩
  · exact fun q hq => ⟨mb_361 q hq, mt9_361 q hq⟩
  · exact fun q hq => ⟨mb_362 q hq, mt9_362 q hq⟩
  · exact fun q hq => ⟨mb_363 q hq, mt9_363 q hq⟩
  · exact fun q hq => ⟨mb_364 q hq, mt9_364 q hq⟩
theorem mr_all (k : Nat) (h : k < 365) : mA9 k := by
  rcases (show (0 ≤ k ∧ k < 16) ∨ (16 ≤ k ∧ k < 32) ∨ (32 ≤ k ∧ k < 48) ∨ (48 ≤ k ∧ k < 64) ∨ (64 ≤ k ∧ k < 80) ∨ (80 ≤ k ∧ k < 96) ∨ (96 ≤ k ∧ k < 112) ∨ (112 ≤ k ∧ k < 128) ∨ (128 ≤ k ∧ k < 144) ∨ (144 ≤ k ∧ k < 160) ∨ (160 ≤ k ∧ k < 176) ∨ (176 ≤ k ∧ k < 192) ∨ (192 ≤ k ∧ k < 208) ∨ (208 ≤ k ∧ k < 224) ∨ (224 ≤ k ∧ k < 240) ∨ (240 ≤ k ∧ k < 256) ∨ (256 ≤ k ∧ k < 272) ∨ (272 ≤ k ∧ k < 288) ∨ (288 ≤ k ∧ k < 304) ∨ (304 ≤ k ∧ k < 320) ∨ (320 ≤ k ∧ k < 336) ∨ (336 ≤ k ∧ k < 352) ∨ (352 ≤ k ∧ k < 365) by omega) with ⟨h1, h2⟩ | ⟨h1, h2⟩ | ⟨h1, h2⟩ | ⟨h1, h2⟩ | ⟨h1, h2⟩ | ⟨h1, h2⟩ | ⟨h1, h2⟩ | ⟨h1, h2⟩ | ⟨h1, h2⟩ | ⟨h1, h2⟩ | ⟨h1, h2⟩ | ⟨h1, h2⟩ | ⟨h1, h2⟩ | ⟨h1, h2⟩ | ⟨h1, h2⟩ | ⟨h1, h2⟩ | ⟨h1, h2⟩ | ⟨h1, h2⟩ | ⟨h1, h2⟩ | ⟨h1, h2⟩ | ⟨h1, h2⟩ | ⟨h1, h2⟩ | ⟨h1, h2⟩
  · exact mr_0 k h1 h2
  · exact mr_16 k h1 h2
  · exact mr_32 k h1 h2
  · exact mr_48 k h1 h2
  · exact mr_64 k h1 h2
  · exact mr_80 k h1 h2
  · exact mr_96 k h1 h2
  · exact mr_112 k h1 h2
  · exact mr_128 k h1 h2
  · exact mr_144 k h1 h2
  · exact mr_160 k h1 h2
  · exact mr_176 k h1 h2
  · exact mr_192 k h1 h2
  · exact mr_208 k h1 h2
  · exact mr_224 k h1 h2
  · exact mr_240 k h1 h2
  · exact mr_256 k h1 h2
  · exact mr_272 k h1 h2
  · exact mr_288 k h1 h2
  · exact mr_304 k h1 h2
  · exact mr_320 k h1 h2
  · exact mr_336 k h1 h2
  · exact mr_352 k h1 h2
theorem mlook_mem : ∀ {l : List (Nat × mE)} {pc : Nat} {e : mE}, mlook l pc = some e → (pc, e) ∈ l := by
  intro l
  induction l with
  | nil => intro pc e h; cases h
  | cons q l ih =>
    intro pc e h
    unfold mlook at h
    cases hb : Nat.beq q.1 pc with
    | true =>
      rw [hb] at h
      have h1 : q.1 = pc := Nat.eq_of_beq_eq_true hb
      have h2 : q.2 = e := Option.some.inj h
      rw [← h1, ← h2]
      exact List.mem_cons_self
    | false =>
      rw [hb] at h
      exact List.mem_cons_of_mem _ (ih h)
theorem mP1 {k pc : Nat} {e : mE} (h : mPg.1 k pc = some e) : k < 365 ∧ (pc, e) ∈ mtab k := by
  have h' : (bif Nat.blt k 365 then mlook (mtab k) pc else none) = some e := h
  cases hb : Nat.blt k 365 with
  | false => rw [hb] at h'; cases h'
  | true =>
    rw [hb] at h'
    exact ⟨by simpa using hb, mlook_mem h'⟩
theorem mOK_chk : ∀ k pc e, mPg.1 k pc = some e → mChk mGd mnw mstrs mcl mft mPg mY mC mRt mHn mDp k pc e := by
  intro k pc e h
  obtain ⟨h1, h2⟩ := mP1 h
  obtain ⟨⟨h3, h4⟩, h5⟩ := mr_all k h1 (pc, e) h2
  exact ⟨h3, h4, h5⟩
theorem mOK_plainL : ∀ k, k < 365 → plainFor (mY k) = true := by decide +kernel
theorem mOK_plain : ∀ k pc e, mPg.1 k pc = some e → plainFor (mY k) = true := fun k pc e h => mOK_plainL k (mP1 h).1
def mIsN (w : Cond) : Bool := match w with
  | .methodLinkNest _ _ _ _ => true
  | .declares _ => true
  | _ => false
theorem mOK_nwB : mnw.all mIsN = true := rfl
theorem mOK_nw : ∀ w ∈ mnw, mNwOk w := by
  intro w hw
  have h1 := List.all_eq_true.mp mOK_nwB w hw
  cases w <;> first | exact Or.inl ⟨_, _, _, _, rfl⟩ | exact Or.inr ⟨_, rfl⟩ | cases h1
theorem mws_of {C : String} {T : u_T} {n : Nat} (h : ∀ k, k < n → u_lay C T k ∈ mGd) : ∀ w ∈ u_ws C T n, w ∈ mGd := by
  intro w hw
  obtain ⟨k, hk, rfl⟩ := List.mem_map.mp hw
  exact h k (List.mem_range.mp hk)

theorem mu_0 : ∀ k, k < 7 → u_lay RX0 TX0 k ∈ mGd := by
  intro k hk
  rcases (show k = 0 ∨ k = 1 ∨ k = 2 ∨ k = 3 ∨ k = 4 ∨ k = 5 ∨ k = 6 by omega) with rfl | rfl | rfl | rfl | rfl | rfl | rfl
  · exact gw_212
  · exact gw_214
  · exact gw_216
  · exact gw_218
  · exact gw_220
  · exact gw_222
  · exact gw_224
theorem mf_0 : ∀ k, k < 7 → (mft 0 k = 1 ∧ ((∃ n, tyX0 k = .object n) ∨ ∃ t, tyX0 k = .array t)) ∨ (mft 0 k = 0 ∧ tyX0 k = .int) ∨ (mft 0 k = 2 ∧ tyX0 k = .boolean) := by
  intro k hk
  rcases (show k = 0 ∨ k = 1 ∨ k = 2 ∨ k = 3 ∨ k = 4 ∨ k = 5 ∨ k = 6 by omega) with rfl | rfl | rfl | rfl | rfl | rfl | rfl
  · exact Or.inl ⟨rfl, Or.inl ⟨_, rfl⟩⟩
  · exact Or.inl ⟨rfl, Or.inl ⟨_, rfl⟩⟩
  · exact Or.inl ⟨rfl, Or.inl ⟨_, rfl⟩⟩
  · exact Or.inl ⟨rfl, Or.inl ⟨_, rfl⟩⟩
  · exact Or.inl ⟨rfl, Or.inl ⟨_, rfl⟩⟩
  · exact Or.inl ⟨rfl, Or.inl ⟨_, rfl⟩⟩
  · exact Or.inl ⟨rfl, Or.inl ⟨_, rfl⟩⟩
theorem mu_1 : ∀ k, k < 3 → u_lay RX1 TX1 k ∈ mGd := by
  intro k hk
  rcases (show k = 0 ∨ k = 1 ∨ k = 2 by omega) with rfl | rfl | rfl
  · exact gw_37
  · exact gw_39
  · exact gw_41
theorem mf_1 : ∀ k, k < 3 → (mft 1 k = 1 ∧ ((∃ n, tyX1 k = .object n) ∨ ∃ t, tyX1 k = .array t)) ∨ (mft 1 k = 0 ∧ tyX1 k = .int) ∨ (mft 1 k = 2 ∧ tyX1 k = .boolean) := by
  intro k hk
  rcases (show k = 0 ∨ k = 1 ∨ k = 2 by omega) with rfl | rfl | rfl
  · exact Or.inl ⟨rfl, Or.inr ⟨_, rfl⟩⟩
  · exact Or.inl ⟨rfl, Or.inr ⟨_, rfl⟩⟩
  · exact Or.inr (Or.inl ⟨rfl, rfl⟩)
theorem mu_2 : ∀ k, k < 3 → u_lay RX2 TX2 k ∈ mGd := by
  intro k hk
  rcases (show k = 0 ∨ k = 1 ∨ k = 2 by omega) with rfl | rfl | rfl
  · exact gw_148
  · exact gw_150
  · exact gw_152
theorem mf_2 : ∀ k, k < 3 → (mft 2 k = 1 ∧ ((∃ n, tyX2 k = .object n) ∨ ∃ t, tyX2 k = .array t)) ∨ (mft 2 k = 0 ∧ tyX2 k = .int) ∨ (mft 2 k = 2 ∧ tyX2 k = .boolean) := by
  intro k hk
  rcases (show k = 0 ∨ k = 1 ∨ k = 2 by omega) with rfl | rfl | rfl
  · exact Or.inl ⟨rfl, Or.inl ⟨_, rfl⟩⟩
  · exact Or.inl ⟨rfl, Or.inl ⟨_, rfl⟩⟩
  · exact Or.inl ⟨rfl, Or.inr ⟨_, rfl⟩⟩
theorem mu_3 : ∀ k, k < 6 → u_lay RX3 TX3 k ∈ mGd := by
  intro k hk
  rcases (show k = 0 ∨ k = 1 ∨ k = 2 ∨ k = 3 ∨ k = 4 ∨ k = 5 by omega) with rfl | rfl | rfl | rfl | rfl | rfl
  · exact gw_190
  · exact gw_192
  · exact gw_194
  · exact gw_196
  · exact gw_198
  · exact gw_200
theorem mf_3 : ∀ k, k < 6 → (mft 3 k = 1 ∧ ((∃ n, tyX3 k = .object n) ∨ ∃ t, tyX3 k = .array t)) ∨ (mft 3 k = 0 ∧ tyX3 k = .int) ∨ (mft 3 k = 2 ∧ tyX3 k = .boolean) := by
  intro k hk
  rcases (show k = 0 ∨ k = 1 ∨ k = 2 ∨ k = 3 ∨ k = 4 ∨ k = 5 by omega) with rfl | rfl | rfl | rfl | rfl | rfl
  · exact Or.inl ⟨rfl, Or.inl ⟨_, rfl⟩⟩
  · exact Or.inl ⟨rfl, Or.inl ⟨_, rfl⟩⟩
  · exact Or.inl ⟨rfl, Or.inl ⟨_, rfl⟩⟩
  · exact Or.inl ⟨rfl, Or.inl ⟨_, rfl⟩⟩
  · exact Or.inl ⟨rfl, Or.inl ⟨_, rfl⟩⟩
  · exact Or.inr (Or.inl ⟨rfl, rfl⟩)
theorem mu_4 : ∀ k, k < 9 → u_lay RX4 TX4 k ∈ mGd := by
  intro k hk
  rcases (show k = 0 ∨ k = 1 ∨ k = 2 ∨ k = 3 ∨ k = 4 ∨ k = 5 ∨ k = 6 ∨ k = 7 ∨ k = 8 by omega) with rfl | rfl | rfl | rfl | rfl | rfl | rfl | rfl | rfl
  · exact gw_281
  · exact gw_283
  · exact gw_285
  · exact gw_287
  · exact gw_289
  · exact gw_291
  · exact gw_293
  · exact gw_295
  · exact gw_297
theorem mf_4 : ∀ k, k < 9 → (mft 4 k = 1 ∧ ((∃ n, tyX4 k = .object n) ∨ ∃ t, tyX4 k = .array t)) ∨ (mft 4 k = 0 ∧ tyX4 k = .int) ∨ (mft 4 k = 2 ∧ tyX4 k = .boolean) := by
  intro k hk
  rcases (show k = 0 ∨ k = 1 ∨ k = 2 ∨ k = 3 ∨ k = 4 ∨ k = 5 ∨ k = 6 ∨ k = 7 ∨ k = 8 by omega) with rfl | rfl | rfl | rfl | rfl | rfl | rfl | rfl | rfl
  · exact Or.inr (Or.inl ⟨rfl, rfl⟩)
  · exact Or.inr (Or.inl ⟨rfl, rfl⟩)
  · exact Or.inr (Or.inl ⟨rfl, rfl⟩)
  · exact Or.inr (Or.inl ⟨rfl, rfl⟩)
  · exact Or.inr (Or.inl ⟨rfl, rfl⟩)
  · exact Or.inl ⟨rfl, Or.inl ⟨_, rfl⟩⟩
  · exact Or.inl ⟨rfl, Or.inl ⟨_, rfl⟩⟩
  · exact Or.inr (Or.inl ⟨rfl, rfl⟩)
  · exact Or.inr (Or.inl ⟨rfl, rfl⟩)
theorem mu_5 : ∀ k, k < 3 → u_lay RX5 TX5 k ∈ mGd := by
  intro k hk
  rcases (show k = 0 ∨ k = 1 ∨ k = 2 by omega) with rfl | rfl | rfl
  · exact gw_238
  · exact gw_240
  · exact gw_242
theorem mf_5 : ∀ k, k < 3 → (mft 5 k = 1 ∧ ((∃ n, tyX5 k = .object n) ∨ ∃ t, tyX5 k = .array t)) ∨ (mft 5 k = 0 ∧ tyX5 k = .int) ∨ (mft 5 k = 2 ∧ tyX5 k = .boolean) := by
  intro k hk
  rcases (show k = 0 ∨ k = 1 ∨ k = 2 by omega) with rfl | rfl | rfl
  · exact Or.inl ⟨rfl, Or.inl ⟨_, rfl⟩⟩
  · exact Or.inl ⟨rfl, Or.inl ⟨_, rfl⟩⟩
  · exact Or.inl ⟨rfl, Or.inl ⟨_, rfl⟩⟩
theorem mu_6 : ∀ k, k < 4 → u_lay RX6 TX6 k ∈ mGd := by
  intro k hk
  rcases (show k = 0 ∨ k = 1 ∨ k = 2 ∨ k = 3 by omega) with rfl | rfl | rfl | rfl
  · exact gw_256
  · exact gw_258
  · exact gw_260
  · exact gw_262
theorem mf_6 : ∀ k, k < 4 → (mft 6 k = 1 ∧ ((∃ n, tyX6 k = .object n) ∨ ∃ t, tyX6 k = .array t)) ∨ (mft 6 k = 0 ∧ tyX6 k = .int) ∨ (mft 6 k = 2 ∧ tyX6 k = .boolean) := by
  intro k hk
  rcases (show k = 0 ∨ k = 1 ∨ k = 2 ∨ k = 3 by omega) with rfl | rfl | rfl | rfl
  · exact Or.inl ⟨rfl, Or.inl ⟨_, rfl⟩⟩
  · exact Or.inl ⟨rfl, Or.inl ⟨_, rfl⟩⟩
  · exact Or.inl ⟨rfl, Or.inl ⟨_, rfl⟩⟩
  · exact Or.inr (Or.inr ⟨rfl, rfl⟩)
theorem mu_7 : ∀ k, k < 2 → u_lay RX7 TX7 k ∈ mGd := by
  intro k hk
  rcases (show k = 0 ∨ k = 1 by omega) with rfl | rfl
  · exact gw_165
  · exact gw_167
theorem mf_7 : ∀ k, k < 2 → (mft 7 k = 1 ∧ ((∃ n, tyX7 k = .object n) ∨ ∃ t, tyX7 k = .array t)) ∨ (mft 7 k = 0 ∧ tyX7 k = .int) ∨ (mft 7 k = 2 ∧ tyX7 k = .boolean) := by
  intro k hk
  rcases (show k = 0 ∨ k = 1 by omega) with rfl | rfl
  · exact Or.inl ⟨rfl, Or.inl ⟨_, rfl⟩⟩
  · exact Or.inl ⟨rfl, Or.inl ⟨_, rfl⟩⟩
theorem mu_8 : ∀ k, k < 2 → u_lay RX8 TX8 k ∈ mGd := by
  intro k hk
  rcases (show k = 0 ∨ k = 1 by omega) with rfl | rfl
  · exact gw_56
  · exact gw_58
theorem mf_8 : ∀ k, k < 2 → (mft 8 k = 1 ∧ ((∃ n, tyX8 k = .object n) ∨ ∃ t, tyX8 k = .array t)) ∨ (mft 8 k = 0 ∧ tyX8 k = .int) ∨ (mft 8 k = 2 ∧ tyX8 k = .boolean) := by
  intro k hk
  rcases (show k = 0 ∨ k = 1 by omega) with rfl | rfl
  · exact Or.inl ⟨rfl, Or.inr ⟨_, rfl⟩⟩
  · exact Or.inr (Or.inl ⟨rfl, rfl⟩)
theorem mu_9 : ∀ k, k < 11 → u_lay RX9 TX9 k ∈ mGd := by
  intro k hk
  rcases (show k = 0 ∨ k = 1 ∨ k = 2 ∨ k = 3 ∨ k = 4 ∨ k = 5 ∨ k = 6 ∨ k = 7 ∨ k = 8 ∨ k = 9 ∨ k = 10 by omega) with rfl | rfl | rfl | rfl | rfl | rfl | rfl | rfl | rfl | rfl | rfl
  · exact gw_109
  · exact gw_111
  · exact gw_113
  · exact gw_115
  · exact gw_117
  · exact gw_119
  · exact gw_121
  · exact gw_123
  · exact gw_125
  · exact gw_127
  · exact gw_129
theorem mf_9 : ∀ k, k < 11 → (mft 9 k = 1 ∧ ((∃ n, tyX9 k = .object n) ∨ ∃ t, tyX9 k = .array t)) ∨ (mft 9 k = 0 ∧ tyX9 k = .int) ∨ (mft 9 k = 2 ∧ tyX9 k = .boolean) := by
  intro k hk
  rcases (show k = 0 ∨ k = 1 ∨ k = 2 ∨ k = 3 ∨ k = 4 ∨ k = 5 ∨ k = 6 ∨ k = 7 ∨ k = 8 ∨ k = 9 ∨ k = 10 by omega) with rfl | rfl | rfl | rfl | rfl | rfl | rfl | rfl | rfl | rfl | rfl
  · exact Or.inl ⟨rfl, Or.inl ⟨_, rfl⟩⟩
  · exact Or.inl ⟨rfl, Or.inl ⟨_, rfl⟩⟩
  · exact Or.inl ⟨rfl, Or.inl ⟨_, rfl⟩⟩
  · exact Or.inl ⟨rfl, Or.inl ⟨_, rfl⟩⟩
  · exact Or.inl ⟨rfl, Or.inl ⟨_, rfl⟩⟩
  · exact Or.inl ⟨rfl, Or.inl ⟨_, rfl⟩⟩
  · exact Or.inl ⟨rfl, Or.inl ⟨_, rfl⟩⟩
  · exact Or.inl ⟨rfl, Or.inl ⟨_, rfl⟩⟩
  · exact Or.inl ⟨rfl, Or.inl ⟨_, rfl⟩⟩
  · exact Or.inl ⟨rfl, Or.inl ⟨_, rfl⟩⟩
  · exact Or.inl ⟨rfl, Or.inr ⟨_, rfl⟩⟩
theorem mu_10 : ∀ k, k < 20 → u_lay RX10 TX10 k ∈ mGd := by
  intro k hk
  by_cases hk12 : k < 12
  · rcases (show k = 0 ∨ k = 1 ∨ k = 2 ∨ k = 3 ∨ k = 4 ∨ k = 5 ∨ k = 6 ∨ k = 7 ∨ k = 8 ∨ k = 9 ∨ k = 10 ∨ k = 11 by omega) with rfl | rfl | rfl | rfl | rfl | rfl | rfl | rfl | rfl | rfl | rfl | rfl
    · exact gw_320
    · exact gw_322
    · exact gw_324
    · exact gw_326
    · exact gw_328
    · exact gw_330
    · exact gw_332
    · exact gw_334
    · exact gw_336
    · exact gw_338
    · exact gw_340
    · exact gw_342
  rcases (show k = 12 ∨ k = 13 ∨ k = 14 ∨ k = 15 ∨ k = 16 ∨ k = 17 ∨ k = 18 ∨ k = 19 by omega) with rfl | rfl | rfl | rfl | rfl | rfl | rfl | rfl
  · exact gw_344
  · exact gw_346
  · exact gw_348
  · exact gw_350
  · exact gw_352
  · exact gw_354
  · exact gw_356
  · exact gw_358
theorem mf_10 : ∀ k, k < 20 → (mft 10 k = 1 ∧ ((∃ n, tyX10 k = .object n) ∨ ∃ t, tyX10 k = .array t)) ∨ (mft 10 k = 0 ∧ tyX10 k = .int) ∨ (mft 10 k = 2 ∧ tyX10 k = .boolean) := by
  intro k hk
  by_cases hk12 : k < 12
  · rcases (show k = 0 ∨ k = 1 ∨ k = 2 ∨ k = 3 ∨ k = 4 ∨ k = 5 ∨ k = 6 ∨ k = 7 ∨ k = 8 ∨ k = 9 ∨ k = 10 ∨ k = 11 by omega) with rfl | rfl | rfl | rfl | rfl | rfl | rfl | rfl | rfl | rfl | rfl | rfl
    · exact Or.inl ⟨rfl, Or.inl ⟨_, rfl⟩⟩
    · exact Or.inl ⟨rfl, Or.inl ⟨_, rfl⟩⟩
    · exact Or.inl ⟨rfl, Or.inl ⟨_, rfl⟩⟩
    · exact Or.inl ⟨rfl, Or.inr ⟨_, rfl⟩⟩
    · exact Or.inr (Or.inl ⟨rfl, rfl⟩)
    · exact Or.inl ⟨rfl, Or.inr ⟨_, rfl⟩⟩
    · exact Or.inl ⟨rfl, Or.inl ⟨_, rfl⟩⟩
    · exact Or.inl ⟨rfl, Or.inr ⟨_, rfl⟩⟩
    · exact Or.inl ⟨rfl, Or.inr ⟨_, rfl⟩⟩
    · exact Or.inr (Or.inl ⟨rfl, rfl⟩)
    · exact Or.inl ⟨rfl, Or.inr ⟨_, rfl⟩⟩
    · exact Or.inl ⟨rfl, Or.inl ⟨_, rfl⟩⟩
  rcases (show k = 12 ∨ k = 13 ∨ k = 14 ∨ k = 15 ∨ k = 16 ∨ k = 17 ∨ k = 18 ∨ k = 19 by omega) with rfl | rfl | rfl | rfl | rfl | rfl | rfl | rfl
  · exact Or.inl ⟨rfl, Or.inl ⟨_, rfl⟩⟩
  · exact Or.inr (Or.inl ⟨rfl, rfl⟩)
  · exact Or.inr (Or.inl ⟨rfl, rfl⟩)
  · exact Or.inl ⟨rfl, Or.inl ⟨_, rfl⟩⟩
  · exact Or.inl ⟨rfl, Or.inr ⟨_, rfl⟩⟩
  · exact Or.inl ⟨rfl, Or.inl ⟨_, rfl⟩⟩
  · exact Or.inl ⟨rfl, Or.inl ⟨_, rfl⟩⟩
  · exact Or.inl ⟨rfl, Or.inl ⟨_, rfl⟩⟩
theorem mOK_cl : mCl mGd mcl mft := by
  intro a q h
  have ha : a < 11 := (List.getElem?_eq_some_iff.mp h).1
  rcases (show a = 0 ∨ a = 1 ∨ a = 2 ∨ a = 3 ∨ a = 4 ∨ a = 5 ∨ a = 6 ∨ a = 7 ∨ a = 8 ∨ a = 9 ∨ a = 10 by omega) with rfl | rfl | rfl | rfl | rfl | rfl | rfl | rfl | rfl | rfl | rfl
  · cases h; exact ⟨mws_of mu_0, nmX0, tyX0, fun k hk => ⟨tyX0_ok k hk, mf_0 k hk⟩⟩
  · cases h; exact ⟨mws_of mu_1, nmX1, tyX1, fun k hk => ⟨tyX1_ok k hk, mf_1 k hk⟩⟩
  · cases h; exact ⟨mws_of mu_2, nmX2, tyX2, fun k hk => ⟨tyX2_ok k hk, mf_2 k hk⟩⟩
  · cases h; exact ⟨mws_of mu_3, nmX3, tyX3, fun k hk => ⟨tyX3_ok k hk, mf_3 k hk⟩⟩
  · cases h; exact ⟨mws_of mu_4, nmX4, tyX4, fun k hk => ⟨tyX4_ok k hk, mf_4 k hk⟩⟩
  · cases h; exact ⟨mws_of mu_5, nmX5, tyX5, fun k hk => ⟨tyX5_ok k hk, mf_5 k hk⟩⟩
  · cases h; exact ⟨mws_of mu_6, nmX6, tyX6, fun k hk => ⟨tyX6_ok k hk, mf_6 k hk⟩⟩
  · cases h; exact ⟨mws_of mu_7, nmX7, tyX7, fun k hk => ⟨tyX7_ok k hk, mf_7 k hk⟩⟩
  · cases h; exact ⟨mws_of mu_8, nmX8, tyX8, fun k hk => ⟨tyX8_ok k hk, mf_8 k hk⟩⟩
  · cases h; exact ⟨mws_of mu_9, nmX9, tyX9, fun k hk => ⟨tyX9_ok k hk, mf_9 k hk⟩⟩
  · cases h; exact ⟨mws_of mu_10, nmX10, tyX10, fun k hk => ⟨tyX10_ok k hk, mf_10 k hk⟩⟩
theorem mOK_nf : ∀ a q, mcl[a]? = some q → mPg.2.2.2.2 a = q.2.2 := by
  intro a q h
  have ha : a < 11 := (List.getElem?_eq_some_iff.mp h).1
  rcases (show a = 0 ∨ a = 1 ∨ a = 2 ∨ a = 3 ∨ a = 4 ∨ a = 5 ∨ a = 6 ∨ a = 7 ∨ a = 8 ∨ a = 9 ∨ a = 10 by omega) with rfl | rfl | rfl | rfl | rfl | rfl | rfl | rfl | rfl | rfl | rfl
  · cases h; rfl
  · cases h; rfl
  · cases h; rfl
  · cases h; rfl
  · cases h; rfl
  · cases h; rfl
  · cases h; rfl
  · cases h; rfl
  · cases h; rfl
  · cases h; rfl
  · cases h; rfl
def mCf (k pc E : Nat) (q : Nat × Nat) : Prop := E < 3 ∧ ∃ hh pre x suf, mHn k = some hh ∧ tableOf hh = pre ++ x :: suf ∧ (∀ z ∈ pre, z.catchType ≠ 0 ∧ ∃ j, j < 3 ∧ E ≠ j ∧ Cond.classLink (mY k).cls z.catchType (pE j) ∈ mGd) ∧ covers x pc = true ∧ x.catchType ≠ 0 ∧ Cond.classLink (mY k).cls x.catchType (pE E) ∈ mGd ∧ q.2 < mPg.2.2.1 k ∧
    ((∃ i : Fin 4, (i : Nat) = q.2 ∧ decode (mC k) x.handlerPc = .ok (.astore_n i, 1) ∧ q.1 = x.handlerPc + 1) ∨ (decode (mC k) x.handlerPc = .ok (.astore q.2, 2) ∧ q.1 = x.handlerPc + 2))
theorem mz0 {P : ExceptionTableEntry → Prop} : ∀ z ∈ ([] : List ExceptionTableEntry), P z := fun z hz => absurd hz List.not_mem_nil
theorem mz1 {P : ExceptionTableEntry → Prop} {x : ExceptionTableEntry} {l : List ExceptionTableEntry} (h : P x) (hl : ∀ z ∈ l, P z) : ∀ z ∈ x :: l, P z := fun z hz => (List.mem_cons.mp hz).elim (fun e => by rw [e]; exact h) (hl z)

theorem gw_811 : Cond.classLink "CollationerLaw" (61 : Nat) "java/lang/IndexOutOfBoundsException" ∈ mGd := lk_4 (List.mem_of_getElem? (i := 91) rfl) rfl
theorem cf_332_0 : mCf 332 6 0 (12, 5) := ⟨by decide, _, (tableOf [(0, 9, 10, 61), (0, 9, 15, 63), (0, 9, 20, 65)]).take 0, (tableOf [(0, 9, 10, 61), (0, 9, 15, 63), (0, 9, 20, 65)]).getD 0 ⟨0, 0, 0, 0⟩, (tableOf [(0, 9, 10, 61), (0, 9, 15, 63), (0, 9, 20, 65)]).drop 1, rfl, rfl, mz0, rfl, by decide, gw_811, by decide, Or.inr ⟨by decide +kernel, rfl⟩⟩
theorem gw_812 : Cond.classLink "CollationerLaw" (63 : Nat) "java/lang/IllegalArgumentException" ∈ mGd := lk_4 (List.mem_of_getElem? (i := 92) rfl) rfl
theorem cf_332_1 : mCf 332 6 1 (17, 5) := ⟨by decide, _, (tableOf [(0, 9, 10, 61), (0, 9, 15, 63), (0, 9, 20, 65)]).take 1, (tableOf [(0, 9, 10, 61), (0, 9, 15, 63), (0, 9, 20, 65)]).getD 1 ⟨0, 0, 0, 0⟩, (tableOf [(0, 9, 10, 61), (0, 9, 15, 63), (0, 9, 20, 65)]).drop 2, rfl, rfl, mz1 ⟨by decide, 0, by decide, by decide, gw_811⟩ (mz0), rfl, by decide, gw_812, by decide, Or.inr ⟨by decide +kernel, rfl⟩⟩
theorem gw_813 : Cond.classLink "CollationerLaw" (65 : Nat) "java/lang/IllegalStateException" ∈ mGd := lk_4 (List.mem_of_getElem? (i := 93) rfl) rfl
theorem cf_332_2 : mCf 332 6 2 (22, 5) := ⟨by decide, _, (tableOf [(0, 9, 10, 61), (0, 9, 15, 63), (0, 9, 20, 65)]).take 2, (tableOf [(0, 9, 10, 61), (0, 9, 15, 63), (0, 9, 20, 65)]).getD 2 ⟨0, 0, 0, 0⟩, (tableOf [(0, 9, 10, 61), (0, 9, 15, 63), (0, 9, 20, 65)]).drop 3, rfl, rfl, mz1 ⟨by decide, 0, by decide, by decide, gw_811⟩ (mz1 ⟨by decide, 1, by decide, by decide, gw_812⟩ (mz0)), rfl, by decide, gw_813, by decide, Or.inr ⟨by decide +kernel, rfl⟩⟩
theorem mCt_some {k pc E : Nat} {hh : List (Nat × Nat × Nat × Nat)} (h : mHn k = some hh) : mPg.2.1 k pc E = if pc = mPl.getD (k - 332) 0 then some ((mXl.getD (k - 332) []).getD E (100000, 0)) else some (100000, 0) := by
  show mCt k pc E = _
  unfold mCt
  rw [h]
theorem cg_332 (pc E : Nat) (q : Nat × Nat) (h : mPg.2.1 332 pc E = some q) : mPg.1 332 q.1 = none ∨ mCf 332 pc E q := by
  rw [mCt_some (hh := [(0, 9, 10, 61), (0, 9, 15, 63), (0, 9, 20, 65)]) rfl] at h
  split at h
  · rename_i hp
    have hp : pc = 6 := hp
    subst hp
    rcases (show E = 0 ∨ E = 1 ∨ E = 2 ∨ 3 ≤ E by omega) with rfl | rfl | rfl | hE
    · cases h; exact Or.inr cf_332_0
    · cases h; exact Or.inr cf_332_1
    · cases h; exact Or.inr cf_332_2
    · obtain ⟨E, rfl⟩ : ∃ E0, E = E0 + 3 := ⟨E - 3, by omega⟩
      cases h; exact Or.inl (mNone _)
  · cases h; exact Or.inl (mNone _)
theorem mOK_cat : mCat mGd mPg mY mC mHn := by
  intro k pc E
  refine ⟨fun h => ?_, fun q h => ?_⟩
  · cases hH : mHn k with
    | none => rfl
    | some hh =>
      rw [mCt_some hH] at h
      split at h <;> cases h
  · cases hH : mHn k with
    | none =>
      have h' : mCt k pc E = some q := h
      unfold mCt at h'
      rw [hH] at h'
      dsimp only at h'
      split at h'
      · cases h'; exact Or.inl (mNone _)
      · cases h'
    | some hh =>
      have hk : 332 ≤ k ∧ k < 333 := by
        unfold mHn at hH
        split at hH
        · assumption
        · cases hH
      have hg : mPg.1 k q.1 = none ∨ mCf k pc E q := by
        rcases (show k = 332 by omega) with rfl
        · exact cg_332 pc E q h
      rcases hg with hg | hg
      · exact Or.inl hg
      · rw [← hH]
        exact Or.inr hg
theorem mOK_all : mOK mGd mnw mstrs mcl mft mPg mY mC mRt mHn mDp := ⟨fun w hw => (List.mem_filter.mp hw).2, mOK_nw, mOK_cl, mOK_chk, mOK_cat, mOK_plain, fun _ _ => rfl, mOK_nf⟩
