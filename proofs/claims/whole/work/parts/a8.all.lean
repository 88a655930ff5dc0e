/-! ALL THE CODE is the machine's own -/
def MP (y : Nat) : Prop := ∀ q : mu_Mi, mu_mi[y]? = some q → ∀ t ∈ mu_code y, mu_Sim q.1.cls q.2.1 q.2.2.1 q.2.2.2 q.1.name (mu_lng y) t.1 t.2
theorem mp_of {y : Nat} {q0 : mu_Mi} {cd : List (Nat × mu_Sem)} (h1 : mu_mi[y]? = some q0) (h2 : mu_code y = cd) (h3 : ∀ t ∈ cd, mu_Sim q0.1.cls q0.2.1 q0.2.2.1 q0.2.2.2 q0.1.name (mu_lng y) t.1 t.2) : MP y := by
  intro q hq
  cases h1.symm.trans hq
  rw [h2]
  exact h3
theorem mp_0 : MP 0 := fun q _ t ht => absurd (show t ∈ ([] : List (Nat × mu_Sem)) from ht) List.not_mem_nil
theorem mp_1 : MP 1 := mp_of rfl cq_1 al_1
theorem mp_2 : MP 2 := mp_of rfl cq_2 al_2
theorem mp_3 : MP 3 := mp_of rfl cq_3 al_3
theorem mp_4 : MP 4 := mp_of rfl cq_4 al_4
theorem mp_5 : MP 5 := mp_of rfl cq_5 al_5
theorem mp_6 : MP 6 := mp_of rfl cq_6 al_6
theorem mp_7 : MP 7 := mp_of rfl cq_7 al_7
theorem mp_8 : MP 8 := mp_of rfl cq_8 al_8
theorem mp_9 : MP 9 := mp_of rfl cq_9 al_9
theorem mp_10 : MP 10 := mp_of rfl cq_10 al_10
theorem mp_11 : MP 11 := mp_of rfl cq_11 al_11
theorem mp_12 : MP 12 := mp_of rfl cq_12 al_12
theorem mp_13 : MP 13 := mp_of rfl cq_13 al_13
theorem mp_14 : MP 14 := mp_of rfl cq_14 al_14
theorem mp_15 : MP 15 := mp_of rfl cq_15 al_15
theorem mp_16 : MP 16 := mp_of rfl cq_16 al_16
theorem mp_17 : MP 17 := mp_of rfl cq_17 al_17
theorem mp_18 : MP 18 := mp_of rfl cq_18 al_18
theorem mp_19 : MP 19 := mp_of rfl cq_19 al_19
theorem mp_20 : MP 20 := mp_of rfl cq_20 al_20
theorem mp_21 : MP 21 := mp_of rfl cq_21 al_21
theorem mp_22 : MP 22 := mp_of rfl cq_22 al_22
theorem mp_23 : MP 23 := mp_of rfl cq_23 al_23
theorem mp_24 : MP 24 := mp_of rfl cq_24 al_24
theorem mp_25 : MP 25 := mp_of rfl cq_25 al_25
theorem mp_26 : MP 26 := mp_of rfl cq_26 al_26
theorem mp_27 : MP 27 := mp_of rfl cq_27 al_27
theorem mp_28 : MP 28 := mp_of rfl cq_28 al_28
theorem mp_29 : MP 29 := mp_of rfl cq_29 al_29
theorem mp_30 : MP 30 := mp_of rfl cq_30 al_30
theorem mp_31 : MP 31 := mp_of rfl cq_31 al_31
theorem mp_32 : MP 32 := mp_of rfl cq_32 al_32
theorem mp_33 : MP 33 := mp_of rfl cq_33 al_33
theorem mp_34 : MP 34 := mp_of rfl cq_34 al_34
theorem mp_35 : MP 35 := mp_of rfl cq_35 al_35
theorem mp_36 : MP 36 := mp_of rfl cq_36 al_36
theorem mp_37 : MP 37 := mp_of rfl cq_37 al_37
theorem mp_38 : MP 38 := mp_of rfl cq_38 al_38
theorem mp_39 : MP 39 := mp_of rfl cq_39 al_39
theorem mp_40 : MP 40 := mp_of rfl cq_40 al_40
theorem mp_41 : MP 41 := mp_of rfl cq_41 al_41
theorem mp_42 : MP 42 := mp_of rfl cq_42 al_42
theorem mp_43 : MP 43 := mp_of rfl cq_43 al_43
theorem mp_44 : MP 44 := mp_of rfl cq_44 al_44
theorem mp_45 : MP 45 := mp_of rfl cq_45 al_45
theorem mp_46 : MP 46 := mp_of rfl cq_46 al_46
theorem mp_47 : MP 47 := mp_of rfl cq_47 al_47
theorem mp_48 : MP 48 := mp_of rfl cq_48 al_48
theorem mp_49 : MP 49 := mp_of rfl cq_49 al_49
theorem mp_50 : MP 50 := mp_of rfl cq_50 al_50
theorem mp_51 : MP 51 := mp_of rfl cq_51 al_51
theorem mp_52 : MP 52 := mp_of rfl cq_52 al_52
theorem mp_53 : MP 53 := mp_of rfl cq_53 al_53
theorem mp_54 : MP 54 := mp_of rfl cq_54 al_54
theorem mp_55 : MP 55 := mp_of rfl cq_55 al_55
theorem mp_56 : MP 56 := mp_of rfl cq_56 al_56
theorem mp_57 : MP 57 := mp_of rfl cq_57 al_57
theorem mp_58 : MP 58 := mp_of rfl cq_58 al_58
theorem mp_59 : MP 59 := mp_of rfl cq_59 al_59
theorem mp_60 : MP 60 := mp_of rfl cq_60 al_60
theorem mp_61 : MP 61 := mp_of rfl cq_61 al_61
theorem mp_62 : MP 62 := mp_of rfl cq_62 al_62
theorem mp_63 : MP 63 := mp_of rfl cq_63 al_63
theorem mp_64 : MP 64 := mp_of rfl cq_64 al_64
theorem mp_65 : MP 65 := mp_of rfl cq_65 al_65
theorem mp_66 : MP 66 := mp_of rfl cq_66 al_66
theorem mp_67 : MP 67 := mp_of rfl cq_67 al_67
theorem mp_68 : MP 68 := mp_of rfl cq_68 al_68
theorem mp_69 : MP 69 := mp_of rfl cq_69 al_69
theorem mp_70 : MP 70 := mp_of rfl cq_70 al_70
theorem mp_71 : MP 71 := mp_of rfl cq_71 al_71
theorem mp_72 : MP 72 := mp_of rfl cq_72 al_72
theorem mp_73 : MP 73 := mp_of rfl cq_73 al_73
theorem mp_74 : MP 74 := mp_of rfl cq_74 al_74
theorem mp_75 : MP 75 := mp_of rfl cq_75 al_75
theorem mp_76 : MP 76 := mp_of rfl cq_76 al_76
theorem mp_77 : MP 77 := mp_of rfl cq_77 al_77
theorem mp_78 : MP 78 := mp_of rfl cq_78 al_78
theorem mp_79 : MP 79 := mp_of rfl cq_79 al_79
theorem mp_80 : MP 80 := mp_of rfl cq_80 al_80
theorem mp_81 : MP 81 := mp_of rfl cq_81 al_81
theorem mp_82 : MP 82 := mp_of rfl cq_82 al_82
theorem mp_83 : MP 83 := mp_of rfl cq_83 al_83
theorem mp_84 : MP 84 := mp_of rfl cq_84 al_84
theorem mp_85 : MP 85 := mp_of rfl cq_85 al_85
theorem mp_86 : MP 86 := mp_of rfl cq_86 al_86
theorem mp_87 : MP 87 := mp_of rfl cq_87 al_87
theorem mp_88 : MP 88 := mp_of rfl cq_88 al_88
theorem mp_89 : MP 89 := mp_of rfl cq_89 al_89
theorem mp_90 : MP 90 := mp_of rfl cq_90 al_90
theorem mp_91 : MP 91 := mp_of rfl cq_91 al_91
theorem mp_92 : MP 92 := mp_of rfl cq_92 al_92
theorem mp_93 : MP 93 := mp_of rfl cq_93 al_93
theorem mp_94 : MP 94 := mp_of rfl cq_94 al_94
theorem mp_95 : MP 95 := mp_of rfl cq_95 al_95
theorem mp_96 : MP 96 := mp_of rfl cq_96 al_96
theorem mp_97 : MP 97 := mp_of rfl cq_97 al_97
theorem mp_98 : MP 98 := mp_of rfl cq_98 al_98
theorem mp_99 : MP 99 := mp_of rfl cq_99 al_99
theorem mp_100 : MP 100 := mp_of rfl cq_100 al_100
theorem mp_101 : MP 101 := mp_of rfl cq_101 al_101
theorem mp_102 : MP 102 := mp_of rfl cq_102 al_102
theorem mp_103 : MP 103 := mp_of rfl cq_103 al_103
theorem mp_104 : MP 104 := mp_of rfl cq_104 al_104
theorem mp_105 : MP 105 := mp_of rfl cq_105 al_105
theorem mp_106 : MP 106 := mp_of rfl cq_106 al_106
theorem mp_107 : MP 107 := mp_of rfl cq_107 al_107
theorem mp_108 : MP 108 := mp_of rfl cq_108 al_108
theorem mp_109 : MP 109 := mp_of rfl cq_109 al_109
theorem mp_110 : MP 110 := mp_of rfl cq_110 al_110
theorem mp_111 : MP 111 := mp_of rfl cq_111 al_111
theorem mp_112 : MP 112 := mp_of rfl cq_112 al_112
theorem mp_113 : MP 113 := mp_of rfl cq_113 al_113
theorem mp_114 : MP 114 := mp_of rfl cq_114 al_114
theorem mp_115 : MP 115 := mp_of rfl cq_115 al_115
theorem mp_116 : MP 116 := mp_of rfl cq_116 al_116
theorem mp_117 : MP 117 := mp_of rfl cq_117 al_117
theorem mp_118 : MP 118 := mp_of rfl cq_118 al_118
theorem mp_119 : MP 119 := mp_of rfl cq_119 al_119
theorem mp_120 : MP 120 := mp_of rfl cq_120 al_120
theorem mp_121 : MP 121 := mp_of rfl cq_121 al_121
theorem mp_122 : MP 122 := mp_of rfl cq_122 al_122
theorem mp_123 : MP 123 := mp_of rfl cq_123 al_123
theorem mp_124 : MP 124 := mp_of rfl cq_124 al_124
theorem mp_125 : MP 125 := mp_of rfl cq_125 al_125
theorem mp_126 : MP 126 := mp_of rfl cq_126 al_126
theorem mp_127 : MP 127 := mp_of rfl cq_127 al_127
theorem mp_128 : MP 128 := mp_of rfl cq_128 al_128
theorem mp_129 : MP 129 := mp_of rfl cq_129 al_129
theorem mp_130 : MP 130 := mp_of rfl cq_130 al_130
theorem mp_131 : MP 131 := mp_of rfl cq_131 al_131
theorem mp_132 : MP 132 := mp_of rfl cq_132 al_132
theorem mp_133 : MP 133 := mp_of rfl cq_133 al_133
theorem mp_134 : MP 134 := mp_of rfl cq_134 al_134
theorem mp_135 : MP 135 := mp_of rfl cq_135 al_135
theorem mp_136 : MP 136 := mp_of rfl cq_136 al_136
theorem mp_137 : MP 137 := mp_of rfl cq_137 al_137
theorem mp_138 : MP 138 := mp_of rfl cq_138 al_138
theorem mp_139 : MP 139 := mp_of rfl cq_139 al_139
theorem mp_140 : MP 140 := mp_of rfl cq_140 al_140
theorem mp_141 : MP 141 := mp_of rfl cq_141 al_141
theorem mp_142 : MP 142 := mp_of rfl cq_142 al_142
theorem mp_143 : MP 143 := mp_of rfl cq_143 al_143
theorem mp_144 : MP 144 := mp_of rfl cq_144 al_144
theorem mp_145 : MP 145 := mp_of rfl cq_145 al_145
theorem mp_146 : MP 146 := mp_of rfl cq_146 al_146
theorem mp_147 : MP 147 := mp_of rfl cq_147 al_147
theorem mp_148 : MP 148 := mp_of rfl cq_148 al_148
theorem mp_149 : MP 149 := mp_of rfl cq_149 al_149
theorem mp_150 : MP 150 := mp_of rfl cq_150 al_150
theorem mp_151 : MP 151 := mp_of rfl cq_151 al_151
theorem mp_152 : MP 152 := mp_of rfl cq_152 al_152
theorem mp_153 : MP 153 := mp_of rfl cq_153 al_153
theorem mp_154 : MP 154 := mp_of rfl cq_154 al_154
theorem mp_155 : MP 155 := mp_of rfl cq_155 al_155
theorem mp_156 : MP 156 := mp_of rfl cq_156 al_156
theorem mp_157 : MP 157 := mp_of rfl cq_157 al_157
theorem mp_158 : MP 158 := mp_of rfl cq_158 al_158
theorem mp_159 : MP 159 := mp_of rfl cq_159 al_159
theorem mp_160 : MP 160 := mp_of rfl cq_160 al_160
theorem mp_161 : MP 161 := mp_of rfl cq_161 al_161
theorem mp_162 : MP 162 := mp_of rfl cq_162 al_162
theorem mp_163 : MP 163 := mp_of rfl cq_163 al_163
theorem mp_164 : MP 164 := mp_of rfl cq_164 al_164
theorem mp_165 : MP 165 := mp_of rfl cq_165 al_165
theorem mp_166 : MP 166 := mp_of rfl cq_166 al_166
theorem mp_167 : MP 167 := mp_of rfl cq_167 al_167
theorem mp_168 : MP 168 := mp_of rfl cq_168 al_168
theorem mp_169 : MP 169 := mp_of rfl cq_169 al_169
theorem mp_170 : MP 170 := mp_of rfl cq_170 al_170
theorem mp_171 : MP 171 := mp_of rfl cq_171 al_171
theorem mp_172 : MP 172 := mp_of rfl cq_172 al_172
theorem mp_173 : MP 173 := mp_of rfl cq_173 al_173
theorem mp_174 : MP 174 := mp_of rfl cq_174 al_174
theorem mp_175 : MP 175 := mp_of rfl cq_175 al_175
theorem mp_176 : MP 176 := mp_of rfl cq_176 al_176
theorem mp_177 : MP 177 := mp_of rfl cq_177 al_177
theorem mp_178 : MP 178 := mp_of rfl cq_178 al_178
theorem mp_179 : MP 179 := mp_of rfl cq_179 al_179
theorem mp_180 : MP 180 := mp_of rfl cq_180 al_180
theorem mp_181 : MP 181 := mp_of rfl cq_181 al_181
theorem mp_182 : MP 182 := mp_of rfl cq_182 al_182
theorem mp_183 : MP 183 := mp_of rfl cq_183 al_183
theorem mp_184 : MP 184 := mp_of rfl cq_184 al_184
theorem mp_185 : MP 185 := mp_of rfl cq_185 al_185
theorem mp_186 : MP 186 := mp_of rfl cq_186 al_186
theorem mp_187 : MP 187 := mp_of rfl cq_187 al_187
theorem mp_188 : MP 188 := mp_of rfl cq_188 al_188
theorem mp_189 : MP 189 := mp_of rfl cq_189 al_189
theorem mp_190 : MP 190 := mp_of rfl cq_190 al_190
theorem mp_191 : MP 191 := mp_of rfl cq_191 al_191
theorem mp_192 : MP 192 := mp_of rfl cq_192 al_192
theorem mp_193 : MP 193 := mp_of rfl cq_193 al_193
theorem mp_194 : MP 194 := mp_of rfl cq_194 al_194
theorem mp_195 : MP 195 := mp_of rfl cq_195 al_195
theorem mp_196 : MP 196 := mp_of rfl cq_196 al_196
theorem mp_197 : MP 197 := mp_of rfl cq_197 al_197
theorem mp_198 : MP 198 := mp_of rfl cq_198 al_198
theorem mp_199 : MP 199 := mp_of rfl cq_199 al_199
theorem mp_200 : MP 200 := mp_of rfl cq_200 al_200
theorem mp_201 : MP 201 := mp_of rfl cq_201 al_201
theorem mp_202 : MP 202 := mp_of rfl cq_202 al_202
theorem mp_203 : MP 203 := mp_of rfl cq_203 al_203
theorem mp_204 : MP 204 := mp_of rfl cq_204 al_204
theorem mp_205 : MP 205 := mp_of rfl cq_205 al_205
theorem mp_206 : MP 206 := mp_of rfl cq_206 al_206
theorem mp_207 : MP 207 := mp_of rfl cq_207 al_207
theorem mp_208 : MP 208 := mp_of rfl cq_208 al_208
theorem mp_209 : MP 209 := mp_of rfl cq_209 al_209
theorem mp_210 : MP 210 := mp_of rfl cq_210 al_210
theorem mp_211 : MP 211 := mp_of rfl cq_211 al_211
theorem mp_212 : MP 212 := mp_of rfl cq_212 al_212
theorem mp_213 : MP 213 := mp_of rfl cq_213 al_213
theorem mp_214 : MP 214 := mp_of rfl cq_214 al_214
theorem mp_215 : MP 215 := mp_of rfl cq_215 al_215
theorem mp_216 : MP 216 := mp_of rfl cq_216 al_216
theorem mp_217 : MP 217 := mp_of rfl cq_217 al_217
theorem mp_218 : MP 218 := mp_of rfl cq_218 al_218
theorem mp_219 : MP 219 := mp_of rfl cq_219 al_219
theorem mp_220 : MP 220 := mp_of rfl cq_220 al_220
theorem mp_221 : MP 221 := mp_of rfl cq_221 al_221
theorem mp_222 : MP 222 := mp_of rfl cq_222 al_222
theorem mp_223 : MP 223 := mp_of rfl cq_223 al_223
theorem mp_224 : MP 224 := mp_of rfl cq_224 al_224
theorem mp_225 : MP 225 := mp_of rfl cq_225 al_225
theorem mp_226 : MP 226 := mp_of rfl cq_226 al_226
theorem mp_227 : MP 227 := mp_of rfl cq_227 al_227
theorem mp_228 : MP 228 := mp_of rfl cq_228 al_228
theorem mp_229 : MP 229 := mp_of rfl cq_229 al_229
def mp_l0 : List Nat := [0, 1, 2, 3, 4, 5, 6, 7, 8, 9, 10, 11, 12, 13, 14, 15, 16, 17, 18, 19, 20, 21, 22]
theorem mp_c0 : ∀ y ∈ mp_l0, MP y := List.forall_mem_cons.mpr ⟨mp_0, List.forall_mem_cons.mpr ⟨mp_1, List.forall_mem_cons.mpr ⟨mp_2, List.forall_mem_cons.mpr ⟨mp_3, List.forall_mem_cons.mpr ⟨mp_4, List.forall_mem_cons.mpr ⟨mp_5, List.forall_mem_cons.mpr ⟨mp_6, List.forall_mem_cons.mpr ⟨mp_7, List.forall_mem_cons.mpr ⟨mp_8, List.forall_mem_cons.mpr ⟨mp_9, List.forall_mem_cons.mpr ⟨mp_10, List.forall_mem_cons.mpr ⟨mp_11, List.forall_mem_cons.mpr ⟨mp_12, List.forall_mem_cons.mpr ⟨mp_13, List.forall_mem_cons.mpr ⟨mp_14, List.forall_mem_cons.mpr ⟨mp_15, List.forall_mem_cons.mpr ⟨mp_16, List.forall_mem_cons.mpr ⟨mp_17, List.forall_mem_cons.mpr ⟨mp_18, List.forall_mem_cons.mpr ⟨mp_19, List.forall_mem_cons.mpr ⟨mp_20, List.forall_mem_cons.mpr ⟨mp_21, List.forall_mem_cons.mpr ⟨mp_22, fun _ h => absurd h List.not_mem_nil⟩⟩⟩⟩⟩⟩⟩⟩⟩⟩⟩⟩⟩⟩⟩⟩⟩⟩⟩⟩⟩⟩⟩
def mp_l1 : List Nat := [23, 24, 25, 26, 27, 28, 29, 30, 31, 32, 33, 34, 35, 36, 37, 38, 39, 40, 41, 42, 43, 44, 45]
theorem mp_c1 : ∀ y ∈ mp_l1, MP y := List.forall_mem_cons.mpr ⟨mp_23, List.forall_mem_cons.mpr ⟨mp_24, List.forall_mem_cons.mpr ⟨mp_25, List.forall_mem_cons.mpr ⟨mp_26, List.forall_mem_cons.mpr ⟨mp_27, List.forall_mem_cons.mpr ⟨mp_28, List.forall_mem_cons.mpr ⟨mp_29, List.forall_mem_cons.mpr ⟨mp_30, List.forall_mem_cons.mpr ⟨mp_31, List.forall_mem_cons.mpr ⟨mp_32, List.forall_mem_cons.mpr ⟨mp_33, List.forall_mem_cons.mpr ⟨mp_34, List.forall_mem_cons.mpr ⟨mp_35, List.forall_mem_cons.mpr ⟨mp_36, List.forall_mem_cons.mpr ⟨mp_37, List.forall_mem_cons.mpr ⟨mp_38, List.forall_mem_cons.mpr ⟨mp_39, List.forall_mem_cons.mpr ⟨mp_40, List.forall_mem_cons.mpr ⟨mp_41, List.forall_mem_cons.mpr ⟨mp_42, List.forall_mem_cons.mpr ⟨mp_43, List.forall_mem_cons.mpr ⟨mp_44, List.forall_mem_cons.mpr ⟨mp_45, fun _ h => absurd h List.not_mem_nil⟩⟩⟩⟩⟩⟩⟩⟩⟩⟩⟩⟩⟩⟩⟩⟩⟩⟩⟩⟩⟩⟩⟩
def mp_l2 : List Nat := [46, 47, 48, 49, 50, 51, 52, 53, 54, 55, 56, 57, 58, 59, 60, 61, 62, 63, 64, 65, 66, 67, 68]
theorem mp_c2 : ∀ y ∈ mp_l2, MP y := List.forall_mem_cons.mpr ⟨mp_46, List.forall_mem_cons.mpr ⟨mp_47, List.forall_mem_cons.mpr ⟨mp_48, List.forall_mem_cons.mpr ⟨mp_49, List.forall_mem_cons.mpr ⟨mp_50, List.forall_mem_cons.mpr ⟨mp_51, List.forall_mem_cons.mpr ⟨mp_52, List.forall_mem_cons.mpr ⟨mp_53, List.forall_mem_cons.mpr ⟨mp_54, List.forall_mem_cons.mpr ⟨mp_55, List.forall_mem_cons.mpr ⟨mp_56, List.forall_mem_cons.mpr ⟨mp_57, List.forall_mem_cons.mpr ⟨mp_58, List.forall_mem_cons.mpr ⟨mp_59, List.forall_mem_cons.mpr ⟨mp_60, List.forall_mem_cons.mpr ⟨mp_61, List.forall_mem_cons.mpr ⟨mp_62, List.forall_mem_cons.mpr ⟨mp_63, List.forall_mem_cons.mpr ⟨mp_64, List.forall_mem_cons.mpr ⟨mp_65, List.forall_mem_cons.mpr ⟨mp_66, List.forall_mem_cons.mpr ⟨mp_67, List.forall_mem_cons.mpr ⟨mp_68, fun _ h => absurd h List.not_mem_nil⟩⟩⟩⟩⟩⟩⟩⟩⟩⟩⟩⟩⟩⟩⟩⟩⟩⟩⟩⟩⟩⟩⟩
def mp_l3 : List Nat := [69, 70, 71, 72, 73, 74, 75, 76, 77, 78, 79, 80, 81, 82, 83, 84, 85, 86, 87, 88, 89, 90, 91]
theorem mp_c3 : ∀ y ∈ mp_l3, MP y := List.forall_mem_cons.mpr ⟨mp_69, List.forall_mem_cons.mpr ⟨mp_70, List.forall_mem_cons.mpr ⟨mp_71, List.forall_mem_cons.mpr ⟨mp_72, List.forall_mem_cons.mpr ⟨mp_73, List.forall_mem_cons.mpr ⟨mp_74, List.forall_mem_cons.mpr ⟨mp_75, List.forall_mem_cons.mpr ⟨mp_76, List.forall_mem_cons.mpr ⟨mp_77, List.forall_mem_cons.mpr ⟨mp_78, List.forall_mem_cons.mpr ⟨mp_79, List.forall_mem_cons.mpr ⟨mp_80, List.forall_mem_cons.mpr ⟨mp_81, List.forall_mem_cons.mpr ⟨mp_82, List.forall_mem_cons.mpr ⟨mp_83, List.forall_mem_cons.mpr ⟨mp_84, List.forall_mem_cons.mpr ⟨mp_85, List.forall_mem_cons.mpr ⟨mp_86, List.forall_mem_cons.mpr ⟨mp_87, List.forall_mem_cons.mpr ⟨mp_88, List.forall_mem_cons.mpr ⟨mp_89, List.forall_mem_cons.mpr ⟨mp_90, List.forall_mem_cons.mpr ⟨mp_91, fun _ h => absurd h List.not_mem_nil⟩⟩⟩⟩⟩⟩⟩⟩⟩⟩⟩⟩⟩⟩⟩⟩⟩⟩⟩⟩⟩⟩⟩
def mp_l4 : List Nat := [92, 93, 94, 95, 96, 97, 98, 99, 100, 101, 102, 103, 104, 105, 106, 107, 108, 109, 110, 111, 112, 113, 114]
theorem mp_c4 : ∀ y ∈ mp_l4, MP y := List.forall_mem_cons.mpr ⟨mp_92, List.forall_mem_cons.mpr ⟨mp_93, List.forall_mem_cons.mpr ⟨mp_94, List.forall_mem_cons.mpr ⟨mp_95, List.forall_mem_cons.mpr ⟨mp_96, List.forall_mem_cons.mpr ⟨mp_97, List.forall_mem_cons.mpr ⟨mp_98, List.forall_mem_cons.mpr ⟨mp_99, List.forall_mem_cons.mpr ⟨mp_100, List.forall_mem_cons.mpr ⟨mp_101, List.forall_mem_cons.mpr ⟨mp_102, List.forall_mem_cons.mpr ⟨mp_103, List.forall_mem_cons.mpr ⟨mp_104, List.forall_mem_cons.mpr ⟨mp_105, List.forall_mem_cons.mpr ⟨mp_106, List.forall_mem_cons.mpr ⟨mp_107, List.forall_mem_cons.mpr ⟨mp_108, List.forall_mem_cons.mpr ⟨mp_109, List.forall_mem_cons.mpr ⟨mp_110, List.forall_mem_cons.mpr ⟨mp_111, List.forall_mem_cons.mpr ⟨mp_112, List.forall_mem_cons.mpr ⟨mp_113, List.forall_mem_cons.mpr ⟨mp_114, fun _ h => absurd h List.not_mem_nil⟩⟩⟩⟩⟩⟩⟩⟩⟩⟩⟩⟩⟩⟩⟩⟩⟩⟩⟩⟩⟩⟩⟩
def mp_l5 : List Nat := [115, 116, 117, 118, 119, 120, 121, 122, 123, 124, 125, 126, 127, 128, 129, 130, 131, 132, 133, 134, 135, 136, 137]
theorem mp_c5 : ∀ y ∈ mp_l5, MP y := List.forall_mem_cons.mpr ⟨mp_115, List.forall_mem_cons.mpr ⟨mp_116, List.forall_mem_cons.mpr ⟨mp_117, List.forall_mem_cons.mpr ⟨mp_118, List.forall_mem_cons.mpr ⟨mp_119, List.forall_mem_cons.mpr ⟨mp_120, List.forall_mem_cons.mpr ⟨mp_121, List.forall_mem_cons.mpr ⟨mp_122, List.forall_mem_cons.mpr ⟨mp_123, List.forall_mem_cons.mpr ⟨mp_124, List.forall_mem_cons.mpr ⟨mp_125, List.forall_mem_cons.mpr ⟨mp_126, List.forall_mem_cons.mpr ⟨mp_127, List.forall_mem_cons.mpr ⟨mp_128, List.forall_mem_cons.mpr ⟨mp_129, List.forall_mem_cons.mpr ⟨mp_130, List.forall_mem_cons.mpr ⟨mp_131, List.forall_mem_cons.mpr ⟨mp_132, List.forall_mem_cons.mpr ⟨mp_133, List.forall_mem_cons.mpr ⟨mp_134, List.forall_mem_cons.mpr ⟨mp_135, List.forall_mem_cons.mpr ⟨mp_136, List.forall_mem_cons.mpr ⟨mp_137, fun _ h => absurd h List.not_mem_nil⟩⟩⟩⟩⟩⟩⟩⟩⟩⟩⟩⟩⟩⟩⟩⟩⟩⟩⟩⟩⟩⟩⟩
def mp_l6 : List Nat := [138, 139, 140, 141, 142, 143, 144, 145, 146, 147, 148, 149, 150, 151, 152, 153, 154, 155, 156, 157, 158, 159, 160]
theorem mp_c6 : ∀ y ∈ mp_l6, MP y := List.forall_mem_cons.mpr ⟨mp_138, List.forall_mem_cons.mpr ⟨mp_139, List.forall_mem_cons.mpr ⟨mp_140, List.forall_mem_cons.mpr ⟨mp_141, List.forall_mem_cons.mpr ⟨mp_142, List.forall_mem_cons.mpr ⟨mp_143, List.forall_mem_cons.mpr ⟨mp_144, List.forall_mem_cons.mpr ⟨mp_145, List.forall_mem_cons.mpr ⟨mp_146, List.forall_mem_cons.mpr ⟨mp_147, List.forall_mem_cons.mpr ⟨mp_148, List.forall_mem_cons.mpr ⟨mp_149, List.forall_mem_cons.mpr ⟨mp_150, List.forall_mem_cons.mpr ⟨mp_151, List.forall_mem_cons.mpr ⟨mp_152, List.forall_mem_cons.mpr ⟨mp_153, List.forall_mem_cons.mpr ⟨mp_154, List.forall_mem_cons.mpr ⟨mp_155, List.forall_mem_cons.mpr ⟨mp_156, List.forall_mem_cons.mpr ⟨mp_157, List.forall_mem_cons.mpr ⟨mp_158, List.forall_mem_cons.mpr ⟨mp_159, List.forall_mem_cons.mpr ⟨mp_160, fun _ h => absurd h List.not_mem_nil⟩⟩⟩⟩⟩⟩⟩⟩⟩⟩⟩⟩⟩⟩⟩⟩⟩⟩⟩⟩⟩⟩⟩
def mp_l7 : List Nat := [161, 162, 163, 164, 165, 166, 167, 168, 169, 170, 171, 172, 173, 174, 175, 176, 177, 178, 179, 180, 181, 182, 183]
theorem mp_c7 : ∀ y ∈ mp_l7, MP y := List.forall_mem_cons.mpr ⟨mp_161, List.forall_mem_cons.mpr ⟨mp_162, List.forall_mem_cons.mpr ⟨mp_163, List.forall_mem_cons.mpr ⟨mp_164, List.forall_mem_cons.mpr ⟨mp_165, List.forall_mem_cons.mpr ⟨mp_166, List.forall_mem_cons.mpr ⟨mp_167, List.forall_mem_cons.mpr ⟨mp_168, List.forall_mem_cons.mpr ⟨mp_169, List.forall_mem_cons.mpr ⟨mp_170, List.forall_mem_cons.mpr ⟨mp_171, List.forall_mem_cons.mpr ⟨mp_172, List.forall_mem_cons.mpr ⟨mp_173, List.forall_mem_cons.mpr ⟨mp_174, List.forall_mem_cons.mpr ⟨mp_175, List.forall_mem_cons.mpr ⟨mp_176, List.forall_mem_cons.mpr ⟨mp_177, List.forall_mem_cons.mpr ⟨mp_178, List.forall_mem_cons.mpr ⟨mp_179, List.forall_mem_cons.mpr ⟨mp_180, List.forall_mem_cons.mpr ⟨mp_181, List.forall_mem_cons.mpr ⟨mp_182, List.forall_mem_cons.mpr ⟨mp_183, fun _ h => absurd h List.not_mem_nil⟩⟩⟩⟩⟩⟩⟩⟩⟩⟩⟩⟩⟩⟩⟩⟩⟩⟩⟩⟩⟩⟩⟩
def mp_l8 : List Nat := [184, 185, 186, 187, 188, 189, 190, 191, 192, 193, 194, 195, 196, 197, 198, 199, 200, 201, 202, 203, 204, 205, 206]
theorem mp_c8 : ∀ y ∈ mp_l8, MP y := List.forall_mem_cons.mpr ⟨mp_184, List.forall_mem_cons.mpr ⟨mp_185, List.forall_mem_cons.mpr ⟨mp_186, List.forall_mem_cons.mpr ⟨mp_187, List.forall_mem_cons.mpr ⟨mp_188, List.forall_mem_cons.mpr ⟨mp_189, List.forall_mem_cons.mpr ⟨mp_190, List.forall_mem_cons.mpr ⟨mp_191, List.forall_mem_cons.mpr ⟨mp_192, List.forall_mem_cons.mpr ⟨mp_193, List.forall_mem_cons.mpr ⟨mp_194, List.forall_mem_cons.mpr ⟨mp_195, List.forall_mem_cons.mpr ⟨mp_196, List.forall_mem_cons.mpr ⟨mp_197, List.forall_mem_cons.mpr ⟨mp_198, List.forall_mem_cons.mpr ⟨mp_199, List.forall_mem_cons.mpr ⟨mp_200, List.forall_mem_cons.mpr ⟨mp_201, List.forall_mem_cons.mpr ⟨mp_202, List.forall_mem_cons.mpr ⟨mp_203, List.forall_mem_cons.mpr ⟨mp_204, List.forall_mem_cons.mpr ⟨mp_205, List.forall_mem_cons.mpr ⟨mp_206, fun _ h => absurd h List.not_mem_nil⟩⟩⟩⟩⟩⟩⟩⟩⟩⟩⟩⟩⟩⟩⟩⟩⟩⟩⟩⟩⟩⟩⟩
def mp_l9 : List Nat := [207, 208, 209, 210, 211, 212, 213, 214, 215, 216, 217, 218, 219, 220, 221, 222, 223, 224, 225, 226, 227, 228, 229]
theorem mp_c9 : ∀ y ∈ mp_l9, MP y := List.forall_mem_cons.mpr ⟨mp_207, List.forall_mem_cons.mpr ⟨mp_208, List.forall_mem_cons.mpr ⟨mp_209, List.forall_mem_cons.mpr ⟨mp_210, List.forall_mem_cons.mpr ⟨mp_211, List.forall_mem_cons.mpr ⟨mp_212, List.forall_mem_cons.mpr ⟨mp_213, List.forall_mem_cons.mpr ⟨mp_214, List.forall_mem_cons.mpr ⟨mp_215, List.forall_mem_cons.mpr ⟨mp_216, List.forall_mem_cons.mpr ⟨mp_217, List.forall_mem_cons.mpr ⟨mp_218, List.forall_mem_cons.mpr ⟨mp_219, List.forall_mem_cons.mpr ⟨mp_220, List.forall_mem_cons.mpr ⟨mp_221, List.forall_mem_cons.mpr ⟨mp_222, List.forall_mem_cons.mpr ⟨mp_223, List.forall_mem_cons.mpr ⟨mp_224, List.forall_mem_cons.mpr ⟨mp_225, List.forall_mem_cons.mpr ⟨mp_226, List.forall_mem_cons.mpr ⟨mp_227, List.forall_mem_cons.mpr ⟨mp_228, List.forall_mem_cons.mpr ⟨mp_229, fun _ h => absurd h List.not_mem_nil⟩⟩⟩⟩⟩⟩⟩⟩⟩⟩⟩⟩⟩⟩⟩⟩⟩⟩⟩⟩⟩⟩⟩
theorem mp_range : List.range 230 = mp_l0 ++ (mp_l1 ++ (mp_l2 ++ (mp_l3 ++ (mp_l4 ++ (mp_l5 ++ (mp_l6 ++ (mp_l7 ++ (mp_l8 ++ (mp_l9))))))))) := by decide +kernel
theorem mp_at (y : Nat) (h : y < 230) : MP y := by
  have hm := List.mem_range.mpr h
  rw [mp_range] at hm
  exact (show ∀ y ∈ mp_l0 ++ (mp_l1 ++ (mp_l2 ++ (mp_l3 ++ (mp_l4 ++ (mp_l5 ++ (mp_l6 ++ (mp_l7 ++ (mp_l8 ++ (mp_l9))))))))), MP y from List.forall_mem_append.mpr ⟨mp_c0, List.forall_mem_append.mpr ⟨mp_c1, List.forall_mem_append.mpr ⟨mp_c2, List.forall_mem_append.mpr ⟨mp_c3, List.forall_mem_append.mpr ⟨mp_c4, List.forall_mem_append.mpr ⟨mp_c5, List.forall_mem_append.mpr ⟨mp_c6, List.forall_mem_append.mpr ⟨mp_c7, List.forall_mem_append.mpr ⟨mp_c8, mp_c9⟩⟩⟩⟩⟩⟩⟩⟩⟩) y hm
theorem mu_mi_len : mu_mi.length = 230 := by decide +kernel
theorem mu_codes_len : mu_codes.length = 230 := by decide +kernel
theorem mu_all : mu_All mu_code := by
  refine ⟨fun y q hq => mp_at y ?_ q hq, fun y hy => ?_, rfl⟩
  · have := (List.getElem?_eq_some_iff.mp hq).1
    rw [mu_mi_len] at this
    exact this
  · have h := List.getElem?_eq_none_iff.mp hy
    rw [mu_mi_len] at h
    show mu_codes.getD y [] = []
    rw [List.getD_eq_getElem?_getD, List.getElem?_eq_none (by rw [mu_codes_len]; exact h)]
    rfl
