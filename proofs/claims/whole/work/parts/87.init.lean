/-! ===== the constructors: shapes and stretches ===== -/
def zq_0 : zv_S := zS_in
def zq_1 : zv_S := zv_new zq_0 8 11
def zq_2 : zv_S := zv_new zq_1 4 12
def zq_3 : zv_S := zv_new zq_2 10 90
def zq_4 : zv_S := zv_rw zq_3 1 0 2
def zq_5 : zv_S := zv_new zq_4 11 25
def zq_6 : zv_S := zv_rw zq_5 1 5 3
def zq_7 : zv_S := zv_new zq_6 11 25
def zq_8 : zv_S := zv_rw zq_7 1 6 4
def zq_9 : zv_S := zv_new zq_8 11 4
def zq_10 : zv_S := zv_rw zq_9 1 7 5
def zq_11 : zv_S := zv_new zq_10 11 4
def zq_12 : zv_S := zv_rw zq_11 1 8 6
def zq_13 : zv_S := zv_new zq_12 11 4
def zq_14 : zv_S := zv_rw zq_13 1 9 7
def zq_15 : zv_S := zv_new zq_14 11 4
def zq_16 : zv_S := zv_rw zq_15 1 10 8
def zq_17 : zv_S := zv_rw zq_16 0 0 1
def zq_18 : zv_S := zv_new zq_17 3 8
def zq_19 : zv_S := zv_new zq_18 11 25
def zq_20 : zv_S := zv_rw zq_19 9 2 10
def zq_21 : zv_S := zv_new zq_20 11 25
def zq_22 : zv_S := zv_rw zq_21 9 3 11
def zq_23 : zv_S := zv_new zq_22 11 4
def zq_24 : zv_S := zv_rw zq_23 9 4 12
def zq_25 : zv_S := zv_new zq_24 11 4
def zq_26 : zv_S := zv_rw zq_25 9 5 13
def zq_27 : zv_S := zv_new zq_26 11 4
def zq_28 : zv_S := zv_rw zq_27 9 6 14
def zq_29 : zv_S := zv_new zq_28 11 5
def zq_30 : zv_S := zv_rw zq_29 9 7 15
def zq_31 : zv_S := zv_rw zq_30 0 1 9
def zq_32 : zv_S := zv_new zq_31 6 9
def zq_33 : zv_S := zv_new zq_32 7 6
def zq_34 : zv_S := zv_new zq_33 11 25
def zq_35 : zv_S := zv_rw zq_34 17 0 18
def zq_36 : zv_S := zv_new zq_35 11 4
def zq_37 : zv_S := zv_rw zq_36 17 1 19
def zq_38 : zv_S := zv_new zq_37 11 5
def zq_39 : zv_S := zv_rw zq_38 17 2 20
def zq_40 : zv_S := zv_rw zq_39 16 1 17
def zq_41 : zv_S := zv_new zq_40 11 5
def zq_42 : zv_S := zv_rw zq_41 16 2 21
def zq_43 : zv_S := zv_new zq_42 11 25
def zq_44 : zv_S := zv_rw zq_43 16 4 22
def zq_45 : zv_S := zv_new zq_44 11 80
def zq_46 : zv_S := zv_rw zq_45 16 5 23
def zq_47 : zv_S := zv_new zq_46 11 4
def zq_48 : zv_S := zv_rw zq_47 16 6 24
def zq_49 : zv_S := zv_new zq_48 11 4
def zq_50 : zv_S := zv_rw zq_49 16 7 25
def zq_51 : zv_S := zv_new zq_50 11 5
def zq_52 : zv_S := zv_rw zq_51 16 8 26
def zq_53 : zv_S := zv_rw zq_52 16 0 9
def zq_54 : zv_S := zv_rw zq_53 0 2 16
def zq_55 : zv_S := zv_new zq_54 6 9
def zq_56 : zv_S := zv_new zq_55 7 6
def zq_57 : zv_S := zv_new zq_56 11 25
def zq_58 : zv_S := zv_rw zq_57 28 0 29
def zq_59 : zv_S := zv_new zq_58 11 4
def zq_60 : zv_S := zv_rw zq_59 28 1 30
def zq_61 : zv_S := zv_new zq_60 11 5
def zq_62 : zv_S := zv_rw zq_61 28 2 31
def zq_63 : zv_S := zv_rw zq_62 27 1 28
def zq_64 : zv_S := zv_new zq_63 11 5
def zq_65 : zv_S := zv_rw zq_64 27 2 32
def zq_66 : zv_S := zv_new zq_65 11 25
def zq_67 : zv_S := zv_rw zq_66 27 4 33
def zq_68 : zv_S := zv_new zq_67 11 80
def zq_69 : zv_S := zv_rw zq_68 27 5 34
def zq_70 : zv_S := zv_new zq_69 11 4
def zq_71 : zv_S := zv_rw zq_70 27 6 35
def zq_72 : zv_S := zv_new zq_71 11 4
def zq_73 : zv_S := zv_rw zq_72 27 7 36
def zq_74 : zv_S := zv_new zq_73 11 5
def zq_75 : zv_S := zv_rw zq_74 27 8 37
def zq_76 : zv_S := zv_rw zq_75 27 0 9
def zq_77 : zv_S := zv_rw zq_76 0 3 27
def zq_78 : zv_S := zv_new zq_77 0 4
def zq_79 : zv_S := zv_new zq_78 11 305
def zq_80 : zv_S := zv_rw zq_79 38 3 39
def zq_81 : zv_S := zv_rw zq_80 0 4 38
def zq_82 : zv_S := zv_new zq_81 1 6
def zq_83 : zv_S := zv_new zq_82 11 5
def zq_84 : zv_S := zv_rw zq_83 40 3 41
def zq_85 : zv_S := zv_new zq_84 11 120
def zq_86 : zv_S := zv_rw zq_85 40 4 42
def zq_87 : zv_S := zv_new zq_86 11 5
def zq_88 : zv_S := zv_rw zq_87 40 5 43
def zq_89 : zv_S := zv_rw zq_88 0 5 40
def zq_90 : zv_S := zv_new zq_89 2 3
def zq_91 : zv_S := zv_new zq_90 13 14
def zq_92 : zv_S := zv_rw zq_91 44 2 45
def zq_93 : zv_S := zv_new zq_92 7 6
def zq_94 : zv_S := zv_new zq_93 11 25
def zq_95 : zv_S := zv_rw zq_94 46 0 47
def zq_96 : zv_S := zv_new zq_95 11 4
def zq_97 : zv_S := zv_rw zq_96 46 1 48
def zq_98 : zv_S := zv_new zq_97 11 5
def zq_99 : zv_S := zv_rw zq_98 46 2 49
def zq_100 : zv_S := zv_rw zq_99 45 0 46
def zq_101 : zv_S := zv_new zq_100 7 6
def zq_102 : zv_S := zv_new zq_101 11 25
def zq_103 : zv_S := zv_rw zq_102 50 0 51
def zq_104 : zv_S := zv_new zq_103 11 4
def zq_105 : zv_S := zv_rw zq_104 50 1 52
def zq_106 : zv_S := zv_new zq_105 11 5
def zq_107 : zv_S := zv_rw zq_106 50 2 53
def zq_108 : zv_S := zv_rw zq_107 45 1 50
def zq_109 : zv_S := zv_new zq_108 7 6
def zq_110 : zv_S := zv_new zq_109 11 25
def zq_111 : zv_S := zv_rw zq_110 54 0 55
def zq_112 : zv_S := zv_new zq_111 11 4
def zq_113 : zv_S := zv_rw zq_112 54 1 56
def zq_114 : zv_S := zv_new zq_113 11 5
def zq_115 : zv_S := zv_rw zq_114 54 2 57
def zq_116 : zv_S := zv_rw zq_115 45 2 54
def zq_117 : zv_S := zv_new zq_116 7 6
def zq_118 : zv_S := zv_new zq_117 11 25
def zq_119 : zv_S := zv_rw zq_118 58 0 59
def zq_120 : zv_S := zv_new zq_119 11 4
def zq_121 : zv_S := zv_rw zq_120 58 1 60
def zq_122 : zv_S := zv_new zq_121 11 5
def zq_123 : zv_S := zv_rw zq_122 58 2 61
def zq_124 : zv_S := zv_rw zq_123 45 3 58
def zq_125 : zv_S := zv_new zq_124 7 6
def zq_126 : zv_S := zv_new zq_125 11 25
def zq_127 : zv_S := zv_rw zq_126 62 0 63
def zq_128 : zv_S := zv_new zq_127 11 4
def zq_129 : zv_S := zv_rw zq_128 62 1 64
def zq_130 : zv_S := zv_new zq_129 11 5
def zq_131 : zv_S := zv_rw zq_130 62 2 65
def zq_132 : zv_S := zv_rw zq_131 45 4 62
def zq_133 : zv_S := zv_new zq_132 7 6
def zq_134 : zv_S := zv_new zq_133 11 25
def zq_135 : zv_S := zv_rw zq_134 66 0 67
def zq_136 : zv_S := zv_new zq_135 11 4
def zq_137 : zv_S := zv_rw zq_136 66 1 68
def zq_138 : zv_S := zv_new zq_137 11 5
def zq_139 : zv_S := zv_rw zq_138 66 2 69
def zq_140 : zv_S := zv_rw zq_139 45 5 66
def zq_141 : zv_S := zv_new zq_140 7 6
def zq_142 : zv_S := zv_new zq_141 11 25
def zq_143 : zv_S := zv_rw zq_142 70 0 71
def zq_144 : zv_S := zv_new zq_143 11 4
def zq_145 : zv_S := zv_rw zq_144 70 1 72
def zq_146 : zv_S := zv_new zq_145 11 5
def zq_147 : zv_S := zv_rw zq_146 70 2 73
def zq_148 : zv_S := zv_rw zq_147 45 6 70
def zq_149 : zv_S := zv_new zq_148 7 6
def zq_150 : zv_S := zv_new zq_149 11 25
def zq_151 : zv_S := zv_rw zq_150 74 0 75
def zq_152 : zv_S := zv_new zq_151 11 4
def zq_153 : zv_S := zv_rw zq_152 74 1 76
def zq_154 : zv_S := zv_new zq_153 11 5
def zq_155 : zv_S := zv_rw zq_154 74 2 77
def zq_156 : zv_S := zv_rw zq_155 45 7 74
def zq_157 : zv_S := zv_new zq_156 7 6
def zq_158 : zv_S := zv_new zq_157 11 25
def zq_159 : zv_S := zv_rw zq_158 78 0 79
def zq_160 : zv_S := zv_new zq_159 11 4
def zq_161 : zv_S := zv_rw zq_160 78 1 80
def zq_162 : zv_S := zv_new zq_161 11 5
def zq_163 : zv_S := zv_rw zq_162 78 2 81
def zq_164 : zv_S := zv_rw zq_163 45 8 78
def zq_165 : zv_S := zv_new zq_164 7 6
def zq_166 : zv_S := zv_new zq_165 11 25
def zq_167 : zv_S := zv_rw zq_166 82 0 83
def zq_168 : zv_S := zv_new zq_167 11 4
def zq_169 : zv_S := zv_rw zq_168 82 1 84
def zq_170 : zv_S := zv_new zq_169 11 5
def zq_171 : zv_S := zv_rw zq_170 82 2 85
def zq_172 : zv_S := zv_rw zq_171 45 9 82
def zq_173 : zv_S := zv_new zq_172 7 6
def zq_174 : zv_S := zv_new zq_173 11 25
def zq_175 : zv_S := zv_rw zq_174 86 0 87
def zq_176 : zv_S := zv_new zq_175 11 4
def zq_177 : zv_S := zv_rw zq_176 86 1 88
def zq_178 : zv_S := zv_new zq_177 11 5
def zq_179 : zv_S := zv_rw zq_178 86 2 89
def zq_180 : zv_S := zv_rw zq_179 45 10 86
def zq_181 : zv_S := zv_new zq_180 7 6
def zq_182 : zv_S := zv_new zq_181 11 25
def zq_183 : zv_S := zv_rw zq_182 90 0 91
def zq_184 : zv_S := zv_new zq_183 11 4
def zq_185 : zv_S := zv_rw zq_184 90 1 92
def zq_186 : zv_S := zv_new zq_185 11 5
def zq_187 : zv_S := zv_rw zq_186 90 2 93
def zq_188 : zv_S := zv_rw zq_187 45 11 90
def zq_189 : zv_S := zv_new zq_188 7 6
def zq_190 : zv_S := zv_new zq_189 11 25
def zq_191 : zv_S := zv_rw zq_190 94 0 95
def zq_192 : zv_S := zv_new zq_191 11 4
def zq_193 : zv_S := zv_rw zq_192 94 1 96
def zq_194 : zv_S := zv_new zq_193 11 5
def zq_195 : zv_S := zv_rw zq_194 94 2 97
def zq_196 : zv_S := zv_rw zq_195 45 12 94
def zq_197 : zv_S := zv_new zq_196 7 6
def zq_198 : zv_S := zv_new zq_197 11 25
def zq_199 : zv_S := zv_rw zq_198 98 0 99
def zq_200 : zv_S := zv_new zq_199 11 4
def zq_201 : zv_S := zv_rw zq_200 98 1 100
def zq_202 : zv_S := zv_new zq_201 11 5
def zq_203 : zv_S := zv_rw zq_202 98 2 101
def zq_204 : zv_S := zv_rw zq_203 45 13 98
def zq_205 : zv_S := zv_rw zq_204 0 6 44
def zq_206 : zv_S := zv_new zq_205 13 2
def zq_207 : zv_S := zv_rw zq_206 0 7 102
def zq_208 : zv_S := zv_new zq_207 7 6
def zq_209 : zv_S := zv_new zq_208 11 25
def zq_210 : zv_S := zv_rw zq_209 103 0 104
def zq_211 : zv_S := zv_new zq_210 11 4
def zq_212 : zv_S := zv_rw zq_211 103 1 105
def zq_213 : zv_S := zv_new zq_212 11 5
def zq_214 : zv_S := zv_rw zq_213 103 2 106
def zq_215 : zv_S := zv_rw zq_214 102 0 103
def zq_216 : zv_S := zv_new zq_215 7 6
def zq_217 : zv_S := zv_new zq_216 11 25
def zq_218 : zv_S := zv_rw zq_217 107 0 108
def zq_219 : zv_S := zv_new zq_218 11 4
def zq_220 : zv_S := zv_rw zq_219 107 1 109
def zq_221 : zv_S := zv_new zq_220 11 5
def zq_222 : zv_S := zv_rw zq_221 107 2 110
def zq_223 : zv_S := zv_rw zq_222 102 1 107
def zq_224 : zv_S := zv_new zq_223 12 2
def zq_225 : zv_S := zv_rw zq_224 0 8 111
def zq_226 : zv_S := zv_new zq_225 5 4
def zq_227 : zv_S := zv_new zq_226 11 6
def zq_228 : zv_S := zv_rw zq_227 112 1 113
def zq_229 : zv_S := zv_new zq_228 11 6
def zq_230 : zv_S := zv_rw zq_229 112 2 114
def zq_231 : zv_S := zv_new zq_230 11 6
def zq_232 : zv_S := zv_rw zq_231 112 3 115
def zq_233 : zv_S := zv_rw zq_232 0 9 112
def zq_234 : zv_S := zv_new zq_233 9 32
def zq_235 : zv_S := zv_new zq_234 11 90
def zq_236 : zv_S := zv_rw zq_235 116 1 117
def zq_237 : zv_S := zv_new zq_236 11 101
def zq_238 : zv_S := zv_rw zq_237 116 5 118
def zq_239 : zv_S := zv_new zq_238 11 101
def zq_240 : zv_S := zv_rw zq_239 116 6 119
def zq_241 : zv_S := zv_new zq_240 11 101
def zq_242 : zv_S := zv_rw zq_241 116 7 120
def zq_243 : zv_S := zv_new zq_242 11 101
def zq_244 : zv_S := zv_rw zq_243 116 8 121
def zq_245 : zv_S := zv_new zq_244 11 1414
def zq_246 : zv_S := zv_rw zq_245 116 9 122
def zq_247 : zv_S := zv_new zq_246 11 202
def zq_248 : zv_S := zv_rw zq_247 116 11 123
def zq_249 : zv_S := zv_new zq_248 12 2
def zq_250 : zv_S := zv_rw zq_249 116 12 124
def zq_251 : zv_S := zv_new zq_250 11 6
def zq_252 : zv_S := zv_rw zq_251 116 14 125
def zq_253 : zv_S := zv_new zq_252 11 6
def zq_254 : zv_S := zv_rw zq_253 116 15 126
def zq_255 : zv_S := zv_new zq_254 11 6
def zq_256 : zv_S := zv_rw zq_255 116 16 127
def zq_257 : zv_S := zv_new zq_256 11 25
def zq_258 : zv_S := zv_rw zq_257 116 18 128
def zq_259 : zv_S := zv_new zq_258 11 4
def zq_260 : zv_S := zv_rw zq_259 116 19 129
def zq_261 : zv_S := zv_new zq_260 11 4
def zq_262 : zv_S := zv_rw zq_261 116 20 130
def zq_263 : zv_S := zv_new zq_262 11 6
def zq_264 : zv_S := zv_rw zq_263 116 21 131
def zq_265 : zv_S := zv_new zq_264 11 30
def zq_266 : zv_S := zv_rw zq_265 116 22 132
def zq_267 : zv_S := zv_new zq_266 11 1830
def zq_268 : zv_S := zv_rw zq_267 116 23 133
def zq_269 : zv_S := zv_new zq_268 11 120
def zq_270 : zv_S := zv_rw zq_269 116 27 134
def zq_271 : zv_S := zv_new zq_270 11 16
def zq_272 : zv_S := zv_rw zq_271 116 28 135
set_option maxRecDepth 20000 in
theorem zin_0 (ca : zv_Ca) (ci : zv_Ci) (xs : Nat × (Nat → Int32)) (Dm : zv_D) : zv_z true zt_X8_init ca ci xs false 0 [some (.ref 0), none] [] zq_1 Dm = ((ci 28 [.ref 1] zq_2 (zv_zer zq_1 Dm)).bind fun p => zv_z true zt_X8_init ca ci xs false 12 [some (.ref 0), none] [.ref 1, .ref 0] p.2.1 p.2.2) := (zv_zn _ _ _ _ _ _ [12] 8 _ _ _ _ _).trans rfl
set_option maxRecDepth 20000 in
theorem zin_1 (ca : zv_Ca) (ci : zv_Ci) (xs : Nat × (Nat → Int32)) (Dm : zv_D) : zv_z true zt_X4_init ca ci xs false 0 [some (.ref 1)] [] zq_2 Dm = some ((0, 0, 0), zq_16, (zv_zer zq_14 (zv_zer zq_12 (zv_zer zq_10 (zv_zer zq_8 (zv_zer zq_6 (zv_zer zq_4 (zv_zer zq_2 Dm)))))))) := (zv_zn _ _ _ _ _ _ [] 33 _ _ _ _ _).trans rfl
set_option maxRecDepth 20000 in
theorem zin_2 (ca : zv_Ca) (ci : zv_Ci) (xs : Nat × (Nat → Int32)) (Dm : zv_D) : zv_z true zt_X8_init ca ci xs false 12 [some (.ref 0), none] [.ref 1, .ref 0] zq_16 Dm = ((ci 19 [.ref 9] zq_18 (zv_zer zq_17 Dm)).bind fun p => zv_z true zt_X8_init ca ci xs false 23 [some (.ref 0), none] [.ref 9, .ref 0] p.2.1 p.2.2) := (zv_zn _ _ _ _ _ _ [23] 7 _ _ _ _ _).trans rfl
set_option maxRecDepth 20000 in
theorem zin_3 (ca : zv_Ca) (ci : zv_Ci) (xs : Nat × (Nat → Int32)) (Dm : zv_D) : zv_z true zt_X3_init ca ci xs false 0 [some (.ref 9)] [] zq_18 Dm = some ((0, 0, 0), zq_30, (zv_zer zq_28 (zv_zer zq_26 (zv_zer zq_24 (zv_zer zq_22 (zv_zer zq_20 (zv_zer zq_18 (zv_w Dm.1 9 0 1, Dm.2)))))))) := (zv_zn _ _ _ _ _ _ [] 32 _ _ _ _ _).trans rfl
set_option maxRecDepth 20000 in
theorem zin_4 (ca : zv_Ca) (ci : zv_Ci) (xs : Nat × (Nat → Int32)) (Dm : zv_D) : zv_z true zt_X8_init ca ci xs false 23 [some (.ref 0), none] [.ref 9, .ref 0] zq_30 Dm = ((ci 45 [.ref 16, .ref 9] zq_32 (zv_zer zq_31 Dm)).bind fun p => zv_z true zt_X8_init ca ci xs false 38 [some (.ref 0), none] [.ref 16, .ref 0] p.2.1 p.2.2) := (zv_zn _ _ _ _ _ _ [38] 9 _ _ _ _ _).trans rfl
set_option maxRecDepth 20000 in
theorem zin_5 (ca : zv_Ca) (ci : zv_Ci) (xs : Nat × (Nat → Int32)) (Dm : zv_D) : zv_z true zt_X6_init ca ci xs false 0 [some (.ref 16), some (.ref 9)] [] zq_32 Dm = ((ci 67 [.ref 17] zq_33 (zv_zer zq_32 Dm)).bind fun p => zv_z true zt_X6_init ca ci xs false 12 [some (.ref 16), some (.ref 9)] [.ref 17, .ref 16] p.2.1 p.2.2) := (zv_zn _ _ _ _ _ _ [12] 8 _ _ _ _ _).trans rfl
set_option maxRecDepth 20000 in
theorem zin_6 (ca : zv_Ca) (ci : zv_Ci) (xs : Nat × (Nat → Int32)) (Dm : zv_D) : zv_z true zt_X7_init ca ci xs false 0 [some (.ref 17)] [] zq_33 Dm = some ((0, 0, 0), zq_39, (zv_zer zq_37 (zv_zer zq_35 (zv_zer zq_33 Dm)))) := (zv_zn _ _ _ _ _ _ [] 17 _ _ _ _ _).trans rfl
set_option maxRecDepth 20000 in
theorem zin_7 (ca : zv_Ca) (ci : zv_Ci) (xs : Nat × (Nat → Int32)) (Dm : zv_D) : zv_z true zt_X6_init ca ci xs false 12 [some (.ref 16), some (.ref 9)] [.ref 17, .ref 16] zq_39 Dm = ((ca 53 [.ref 16] zq_53 (zv_zer zq_50 (zv_zer zq_48 (zv_zer zq_46 (zv_zer zq_44 (zv_zer zq_42 (zv_zer zq_40 Dm))))))).bind fun p => zv_z true zt_X6_init ca ci xs false 68 [some (.ref 16), some (.ref 9)] [] zq_53 p.2) := (zv_zn _ _ _ _ _ _ [68] 32 _ _ _ _ _).trans rfl
set_option maxRecDepth 20000 in
theorem zin_8 (ca : zv_Ca) (ci : zv_Ci) (xs : Nat × (Nat → Int32)) (Dm : zv_D) : zv_z true zt_X6_init ca ci xs false 68 [some (.ref 16), some (.ref 9)] [] zq_53 Dm = ((ca 52 [.ref 16] zq_53 Dm).bind fun p => zv_z true zt_X6_init ca ci xs false 72 [some (.ref 16), some (.ref 9)] [] zq_53 p.2) := (zv_zn _ _ _ _ _ _ [72] 4 _ _ _ _ _).trans rfl
set_option maxRecDepth 20000 in
theorem zin_9 (ca : zv_Ca) (ci : zv_Ci) (xs : Nat × (Nat → Int32)) (Dm : zv_D) : zv_z true zt_X6_init ca ci xs false 72 [some (.ref 16), some (.ref 9)] [] zq_53 Dm = some ((0, 0, 0), zq_53, Dm) := (zv_zn _ _ _ _ _ _ [] 3 _ _ _ _ _).trans rfl
set_option maxRecDepth 20000 in
theorem zin_10 (ca : zv_Ca) (ci : zv_Ci) (xs : Nat × (Nat → Int32)) (Dm : zv_D) : zv_z true zt_X8_init ca ci xs false 38 [some (.ref 0), none] [.ref 16, .ref 0] zq_53 Dm = ((ci 45 [.ref 27, .ref 9] zq_55 (zv_zer zq_54 Dm)).bind fun p => zv_z true zt_X8_init ca ci xs false 53 [some (.ref 0), none] [.ref 27, .ref 0] p.2.1 p.2.2) := (zv_zn _ _ _ _ _ _ [53] 9 _ _ _ _ _).trans rfl
set_option maxRecDepth 20000 in
theorem zin_11 (ca : zv_Ca) (ci : zv_Ci) (xs : Nat × (Nat → Int32)) (Dm : zv_D) : zv_z true zt_X6_init ca ci xs false 0 [some (.ref 27), some (.ref 9)] [] zq_55 Dm = ((ci 67 [.ref 28] zq_56 (zv_zer zq_55 Dm)).bind fun p => zv_z true zt_X6_init ca ci xs false 12 [some (.ref 27), some (.ref 9)] [.ref 28, .ref 27] p.2.1 p.2.2) := (zv_zn _ _ _ _ _ _ [12] 8 _ _ _ _ _).trans rfl
set_option maxRecDepth 20000 in
theorem zin_12 (ca : zv_Ca) (ci : zv_Ci) (xs : Nat × (Nat → Int32)) (Dm : zv_D) : zv_z true zt_X7_init ca ci xs false 0 [some (.ref 28)] [] zq_56 Dm = some ((0, 0, 0), zq_62, (zv_zer zq_60 (zv_zer zq_58 (zv_zer zq_56 Dm)))) := (zv_zn _ _ _ _ _ _ [] 17 _ _ _ _ _).trans rfl
set_option maxRecDepth 20000 in
theorem zin_13 (ca : zv_Ca) (ci : zv_Ci) (xs : Nat × (Nat → Int32)) (Dm : zv_D) : zv_z true zt_X6_init ca ci xs false 12 [some (.ref 27), some (.ref 9)] [.ref 28, .ref 27] zq_62 Dm = ((ca 53 [.ref 27] zq_76 (zv_zer zq_73 (zv_zer zq_71 (zv_zer zq_69 (zv_zer zq_67 (zv_zer zq_65 (zv_zer zq_63 Dm))))))).bind fun p => zv_z true zt_X6_init ca ci xs false 68 [some (.ref 27), some (.ref 9)] [] zq_76 p.2) := (zv_zn _ _ _ _ _ _ [68] 32 _ _ _ _ _).trans rfl
set_option maxRecDepth 20000 in
theorem zin_14 (ca : zv_Ca) (ci : zv_Ci) (xs : Nat × (Nat → Int32)) (Dm : zv_D) : zv_z true zt_X6_init ca ci xs false 68 [some (.ref 27), some (.ref 9)] [] zq_76 Dm = ((ca 52 [.ref 27] zq_76 Dm).bind fun p => zv_z true zt_X6_init ca ci xs false 72 [some (.ref 27), some (.ref 9)] [] zq_76 p.2) := (zv_zn _ _ _ _ _ _ [72] 4 _ _ _ _ _).trans rfl
set_option maxRecDepth 20000 in
theorem zin_15 (ca : zv_Ca) (ci : zv_Ci) (xs : Nat × (Nat → Int32)) (Dm : zv_D) : zv_z true zt_X6_init ca ci xs false 72 [some (.ref 27), some (.ref 9)] [] zq_76 Dm = some ((0, 0, 0), zq_76, Dm) := (zv_zn _ _ _ _ _ _ [] 3 _ _ _ _ _).trans rfl
set_option maxRecDepth 20000 in
theorem zin_16 (ca : zv_Ca) (ci : zv_Ci) (xs : Nat × (Nat → Int32)) (Dm : zv_D) : zv_z true zt_X8_init ca ci xs false 53 [some (.ref 0), none] [.ref 27, .ref 0] zq_76 Dm = ((ci 2 [.ref 38] zq_78 (zv_zer zq_77 Dm)).bind fun p => zv_z true zt_X8_init ca ci xs false 64 [some (.ref 0), none] [.ref 38, .ref 0] p.2.1 p.2.2) := (zv_zn _ _ _ _ _ _ [64] 7 _ _ _ _ _).trans rfl
set_option maxRecDepth 20000 in
theorem zin_17 (ca : zv_Ca) (ci : zv_Ci) (xs : Nat × (Nat → Int32)) (Dm : zv_D) : zv_z true zt_X0_init ca ci xs false 0 [some (.ref 38)] [] zq_78 Dm = some ((0, 0, 0), zq_80, (zv_zer zq_78 Dm)) := (zv_zn _ _ _ _ _ _ [] 9 _ _ _ _ _).trans rfl
set_option maxRecDepth 20000 in
theorem zin_18 (ca : zv_Ca) (ci : zv_Ci) (xs : Nat × (Nat → Int32)) (Dm : zv_D) : zv_z true zt_X8_init ca ci xs false 64 [some (.ref 0), none] [.ref 38, .ref 0] zq_80 Dm = ((ci 8 [.ref 40] zq_82 (zv_zer zq_81 Dm)).bind fun p => zv_z true zt_X8_init ca ci xs false 75 [some (.ref 0), none] [.ref 40, .ref 0] p.2.1 p.2.2) := (zv_zn _ _ _ _ _ _ [75] 7 _ _ _ _ _).trans rfl
set_option maxRecDepth 20000 in
theorem zin_19 (ca : zv_Ca) (ci : zv_Ci) (xs : Nat × (Nat → Int32)) (Dm : zv_D) : zv_z true zt_X1_init ca ci xs false 0 [some (.ref 40)] [] zq_82 Dm = some ((0, 0, 0), zq_88, (zv_zer zq_86 (zv_zer zq_84 (zv_zer zq_82 Dm)))) := (zv_zn _ _ _ _ _ _ [] 17 _ _ _ _ _).trans rfl
set_option maxRecDepth 20000 in
theorem zin_20 (ca : zv_Ca) (ci : zv_Ci) (xs : Nat × (Nat → Int32)) (Dm : zv_D) : zv_z true zt_X8_init ca ci xs false 75 [some (.ref 0), none] [.ref 40, .ref 0] zq_88 Dm = ((ci 16 [.ref 44] zq_90 (zv_zer zq_89 Dm)).bind fun p => zv_z true zt_X8_init ca ci xs false 86 [some (.ref 0), none] [.ref 44, .ref 0] p.2.1 p.2.2) := (zv_zn _ _ _ _ _ _ [86] 7 _ _ _ _ _).trans rfl
set_option maxRecDepth 20000 in
theorem zin_21 (ca : zv_Ca) (ci : zv_Ci) (xs : Nat × (Nat → Int32)) (Dm : zv_D) : zv_z true zt_X2_init ca ci xs false 0 [some (.ref 44), none] [] zq_90 Dm = ((ci 67 [.ref 46] zq_93 (zv_zer zq_92 (zv_zer zq_90 Dm))).bind fun p => zv_z true zt_X2_init ca ci xs false 33 [some (.ref 44), some (.int 0)] [.ref 46, .int 0, .ref 45] p.2.1 p.2.2) := (zv_zn _ _ _ _ _ _ [33] 19 _ _ _ _ _).trans rfl
set_option maxRecDepth 20000 in
theorem zin_22 (ca : zv_Ca) (ci : zv_Ci) (xs : Nat × (Nat → Int32)) (Dm : zv_D) : zv_z true zt_X7_init ca ci xs false 0 [some (.ref 46)] [] zq_93 Dm = some ((0, 0, 0), zq_99, (zv_zer zq_97 (zv_zer zq_95 (zv_zer zq_93 Dm)))) := (zv_zn _ _ _ _ _ _ [] 17 _ _ _ _ _).trans rfl
set_option maxRecDepth 20000 in
theorem zin_23 (ca : zv_Ca) (ci : zv_Ci) (xs : Nat × (Nat → Int32)) (Dm : zv_D) : zv_z true zt_X2_init ca ci xs false 33 [some (.ref 44), some (.int 0)] [.ref 46, .int 0, .ref 45] zq_99 Dm = ((ci 67 [.ref 50] zq_101 (zv_zer zq_100 Dm)).bind fun p => zv_z true zt_X2_init ca ci xs false 33 [some (.ref 44), some (.int 1)] [.ref 50, .int 1, .ref 45] p.2.1 p.2.2) := (zv_zn _ _ _ _ _ _ [33] 14 _ _ _ _ _).trans rfl
set_option maxRecDepth 20000 in
theorem zin_24 (ca : zv_Ca) (ci : zv_Ci) (xs : Nat × (Nat → Int32)) (Dm : zv_D) : zv_z true zt_X7_init ca ci xs false 0 [some (.ref 50)] [] zq_101 Dm = some ((0, 0, 0), zq_107, (zv_zer zq_105 (zv_zer zq_103 (zv_zer zq_101 Dm)))) := (zv_zn _ _ _ _ _ _ [] 17 _ _ _ _ _).trans rfl
set_option maxRecDepth 20000 in
theorem zin_25 (ca : zv_Ca) (ci : zv_Ci) (xs : Nat × (Nat → Int32)) (Dm : zv_D) : zv_z true zt_X2_init ca ci xs false 33 [some (.ref 44), some (.int 1)] [.ref 50, .int 1, .ref 45] zq_107 Dm = ((ci 67 [.ref 54] zq_109 (zv_zer zq_108 Dm)).bind fun p => zv_z true zt_X2_init ca ci xs false 33 [some (.ref 44), some (.int 2)] [.ref 54, .int 2, .ref 45] p.2.1 p.2.2) := (zv_zn _ _ _ _ _ _ [33] 14 _ _ _ _ _).trans rfl
set_option maxRecDepth 20000 in
theorem zin_26 (ca : zv_Ca) (ci : zv_Ci) (xs : Nat × (Nat → Int32)) (Dm : zv_D) : zv_z true zt_X7_init ca ci xs false 0 [some (.ref 54)] [] zq_109 Dm = some ((0, 0, 0), zq_115, (zv_zer zq_113 (zv_zer zq_111 (zv_zer zq_109 Dm)))) := (zv_zn _ _ _ _ _ _ [] 17 _ _ _ _ _).trans rfl
set_option maxRecDepth 20000 in
theorem zin_27 (ca : zv_Ca) (ci : zv_Ci) (xs : Nat × (Nat → Int32)) (Dm : zv_D) : zv_z true zt_X2_init ca ci xs false 33 [some (.ref 44), some (.int 2)] [.ref 54, .int 2, .ref 45] zq_115 Dm = ((ci 67 [.ref 58] zq_117 (zv_zer zq_116 Dm)).bind fun p => zv_z true zt_X2_init ca ci xs false 33 [some (.ref 44), some (.int 3)] [.ref 58, .int 3, .ref 45] p.2.1 p.2.2) := (zv_zn _ _ _ _ _ _ [33] 14 _ _ _ _ _).trans rfl
set_option maxRecDepth 20000 in
theorem zin_28 (ca : zv_Ca) (ci : zv_Ci) (xs : Nat × (Nat → Int32)) (Dm : zv_D) : zv_z true zt_X7_init ca ci xs false 0 [some (.ref 58)] [] zq_117 Dm = some ((0, 0, 0), zq_123, (zv_zer zq_121 (zv_zer zq_119 (zv_zer zq_117 Dm)))) := (zv_zn _ _ _ _ _ _ [] 17 _ _ _ _ _).trans rfl
set_option maxRecDepth 20000 in
theorem zin_29 (ca : zv_Ca) (ci : zv_Ci) (xs : Nat × (Nat → Int32)) (Dm : zv_D) : zv_z true zt_X2_init ca ci xs false 33 [some (.ref 44), some (.int 3)] [.ref 58, .int 3, .ref 45] zq_123 Dm = ((ci 67 [.ref 62] zq_125 (zv_zer zq_124 Dm)).bind fun p => zv_z true zt_X2_init ca ci xs false 33 [some (.ref 44), some (.int 4)] [.ref 62, .int 4, .ref 45] p.2.1 p.2.2) := (zv_zn _ _ _ _ _ _ [33] 14 _ _ _ _ _).trans rfl
set_option maxRecDepth 20000 in
theorem zin_30 (ca : zv_Ca) (ci : zv_Ci) (xs : Nat × (Nat → Int32)) (Dm : zv_D) : zv_z true zt_X7_init ca ci xs false 0 [some (.ref 62)] [] zq_125 Dm = some ((0, 0, 0), zq_131, (zv_zer zq_129 (zv_zer zq_127 (zv_zer zq_125 Dm)))) := (zv_zn _ _ _ _ _ _ [] 17 _ _ _ _ _).trans rfl
set_option maxRecDepth 20000 in
theorem zin_31 (ca : zv_Ca) (ci : zv_Ci) (xs : Nat × (Nat → Int32)) (Dm : zv_D) : zv_z true zt_X2_init ca ci xs false 33 [some (.ref 44), some (.int 4)] [.ref 62, .int 4, .ref 45] zq_131 Dm = ((ci 67 [.ref 66] zq_133 (zv_zer zq_132 Dm)).bind fun p => zv_z true zt_X2_init ca ci xs false 33 [some (.ref 44), some (.int 5)] [.ref 66, .int 5, .ref 45] p.2.1 p.2.2) := (zv_zn _ _ _ _ _ _ [33] 14 _ _ _ _ _).trans rfl
set_option maxRecDepth 20000 in
theorem zin_32 (ca : zv_Ca) (ci : zv_Ci) (xs : Nat × (Nat → Int32)) (Dm : zv_D) : zv_z true zt_X7_init ca ci xs false 0 [some (.ref 66)] [] zq_133 Dm = some ((0, 0, 0), zq_139, (zv_zer zq_137 (zv_zer zq_135 (zv_zer zq_133 Dm)))) := (zv_zn _ _ _ _ _ _ [] 17 _ _ _ _ _).trans rfl
set_option maxRecDepth 20000 in
theorem zin_33 (ca : zv_Ca) (ci : zv_Ci) (xs : Nat × (Nat → Int32)) (Dm : zv_D) : zv_z true zt_X2_init ca ci xs false 33 [some (.ref 44), some (.int 5)] [.ref 66, .int 5, .ref 45] zq_139 Dm = ((ci 67 [.ref 70] zq_141 (zv_zer zq_140 Dm)).bind fun p => zv_z true zt_X2_init ca ci xs false 33 [some (.ref 44), some (.int 6)] [.ref 70, .int 6, .ref 45] p.2.1 p.2.2) := (zv_zn _ _ _ _ _ _ [33] 14 _ _ _ _ _).trans rfl
set_option maxRecDepth 20000 in
theorem zin_34 (ca : zv_Ca) (ci : zv_Ci) (xs : Nat × (Nat → Int32)) (Dm : zv_D) : zv_z true zt_X7_init ca ci xs false 0 [some (.ref 70)] [] zq_141 Dm = some ((0, 0, 0), zq_147, (zv_zer zq_145 (zv_zer zq_143 (zv_zer zq_141 Dm)))) := (zv_zn _ _ _ _ _ _ [] 17 _ _ _ _ _).trans rfl
set_option maxRecDepth 20000 in
theorem zin_35 (ca : zv_Ca) (ci : zv_Ci) (xs : Nat × (Nat → Int32)) (Dm : zv_D) : zv_z true zt_X2_init ca ci xs false 33 [some (.ref 44), some (.int 6)] [.ref 70, .int 6, .ref 45] zq_147 Dm = ((ci 67 [.ref 74] zq_149 (zv_zer zq_148 Dm)).bind fun p => zv_z true zt_X2_init ca ci xs false 33 [some (.ref 44), some (.int 7)] [.ref 74, .int 7, .ref 45] p.2.1 p.2.2) := (zv_zn _ _ _ _ _ _ [33] 14 _ _ _ _ _).trans rfl
set_option maxRecDepth 20000 in
theorem zin_36 (ca : zv_Ca) (ci : zv_Ci) (xs : Nat × (Nat → Int32)) (Dm : zv_D) : zv_z true zt_X7_init ca ci xs false 0 [some (.ref 74)] [] zq_149 Dm = some ((0, 0, 0), zq_155, (zv_zer zq_153 (zv_zer zq_151 (zv_zer zq_149 Dm)))) := (zv_zn _ _ _ _ _ _ [] 17 _ _ _ _ _).trans rfl
set_option maxRecDepth 20000 in
theorem zin_37 (ca : zv_Ca) (ci : zv_Ci) (xs : Nat × (Nat → Int32)) (Dm : zv_D) : zv_z true zt_X2_init ca ci xs false 33 [some (.ref 44), some (.int 7)] [.ref 74, .int 7, .ref 45] zq_155 Dm = ((ci 67 [.ref 78] zq_157 (zv_zer zq_156 Dm)).bind fun p => zv_z true zt_X2_init ca ci xs false 33 [some (.ref 44), some (.int 8)] [.ref 78, .int 8, .ref 45] p.2.1 p.2.2) := (zv_zn _ _ _ _ _ _ [33] 14 _ _ _ _ _).trans rfl
set_option maxRecDepth 20000 in
theorem zin_38 (ca : zv_Ca) (ci : zv_Ci) (xs : Nat × (Nat → Int32)) (Dm : zv_D) : zv_z true zt_X7_init ca ci xs false 0 [some (.ref 78)] [] zq_157 Dm = some ((0, 0, 0), zq_163, (zv_zer zq_161 (zv_zer zq_159 (zv_zer zq_157 Dm)))) := (zv_zn _ _ _ _ _ _ [] 17 _ _ _ _ _).trans rfl
set_option maxRecDepth 20000 in
theorem zin_39 (ca : zv_Ca) (ci : zv_Ci) (xs : Nat × (Nat → Int32)) (Dm : zv_D) : zv_z true zt_X2_init ca ci xs false 33 [some (.ref 44), some (.int 8)] [.ref 78, .int 8, .ref 45] zq_163 Dm = ((ci 67 [.ref 82] zq_165 (zv_zer zq_164 Dm)).bind fun p => zv_z true zt_X2_init ca ci xs false 33 [some (.ref 44), some (.int 9)] [.ref 82, .int 9, .ref 45] p.2.1 p.2.2) := (zv_zn _ _ _ _ _ _ [33] 14 _ _ _ _ _).trans rfl
set_option maxRecDepth 20000 in
theorem zin_40 (ca : zv_Ca) (ci : zv_Ci) (xs : Nat × (Nat → Int32)) (Dm : zv_D) : zv_z true zt_X7_init ca ci xs false 0 [some (.ref 82)] [] zq_165 Dm = some ((0, 0, 0), zq_171, (zv_zer zq_169 (zv_zer zq_167 (zv_zer zq_165 Dm)))) := (zv_zn _ _ _ _ _ _ [] 17 _ _ _ _ _).trans rfl
set_option maxRecDepth 20000 in
theorem zin_41 (ca : zv_Ca) (ci : zv_Ci) (xs : Nat × (Nat → Int32)) (Dm : zv_D) : zv_z true zt_X2_init ca ci xs false 33 [some (.ref 44), some (.int 9)] [.ref 82, .int 9, .ref 45] zq_171 Dm = ((ci 67 [.ref 86] zq_173 (zv_zer zq_172 Dm)).bind fun p => zv_z true zt_X2_init ca ci xs false 33 [some (.ref 44), some (.int 10)] [.ref 86, .int 10, .ref 45] p.2.1 p.2.2) := (zv_zn _ _ _ _ _ _ [33] 14 _ _ _ _ _).trans rfl
set_option maxRecDepth 20000 in
theorem zin_42 (ca : zv_Ca) (ci : zv_Ci) (xs : Nat × (Nat → Int32)) (Dm : zv_D) : zv_z true zt_X7_init ca ci xs false 0 [some (.ref 86)] [] zq_173 Dm = some ((0, 0, 0), zq_179, (zv_zer zq_177 (zv_zer zq_175 (zv_zer zq_173 Dm)))) := (zv_zn _ _ _ _ _ _ [] 17 _ _ _ _ _).trans rfl
set_option maxRecDepth 20000 in
theorem zin_43 (ca : zv_Ca) (ci : zv_Ci) (xs : Nat × (Nat → Int32)) (Dm : zv_D) : zv_z true zt_X2_init ca ci xs false 33 [some (.ref 44), some (.int 10)] [.ref 86, .int 10, .ref 45] zq_179 Dm = ((ci 67 [.ref 90] zq_181 (zv_zer zq_180 Dm)).bind fun p => zv_z true zt_X2_init ca ci xs false 33 [some (.ref 44), some (.int 11)] [.ref 90, .int 11, .ref 45] p.2.1 p.2.2) := (zv_zn _ _ _ _ _ _ [33] 14 _ _ _ _ _).trans rfl
set_option maxRecDepth 20000 in
theorem zin_44 (ca : zv_Ca) (ci : zv_Ci) (xs : Nat × (Nat → Int32)) (Dm : zv_D) : zv_z true zt_X7_init ca ci xs false 0 [some (.ref 90)] [] zq_181 Dm = some ((0, 0, 0), zq_187, (zv_zer zq_185 (zv_zer zq_183 (zv_zer zq_181 Dm)))) := (zv_zn _ _ _ _ _ _ [] 17 _ _ _ _ _).trans rfl
set_option maxRecDepth 20000 in
theorem zin_45 (ca : zv_Ca) (ci : zv_Ci) (xs : Nat × (Nat → Int32)) (Dm : zv_D) : zv_z true zt_X2_init ca ci xs false 33 [some (.ref 44), some (.int 11)] [.ref 90, .int 11, .ref 45] zq_187 Dm = ((ci 67 [.ref 94] zq_189 (zv_zer zq_188 Dm)).bind fun p => zv_z true zt_X2_init ca ci xs false 33 [some (.ref 44), some (.int 12)] [.ref 94, .int 12, .ref 45] p.2.1 p.2.2) := (zv_zn _ _ _ _ _ _ [33] 14 _ _ _ _ _).trans rfl
set_option maxRecDepth 20000 in
theorem zin_46 (ca : zv_Ca) (ci : zv_Ci) (xs : Nat × (Nat → Int32)) (Dm : zv_D) : zv_z true zt_X7_init ca ci xs false 0 [some (.ref 94)] [] zq_189 Dm = some ((0, 0, 0), zq_195, (zv_zer zq_193 (zv_zer zq_191 (zv_zer zq_189 Dm)))) := (zv_zn _ _ _ _ _ _ [] 17 _ _ _ _ _).trans rfl
set_option maxRecDepth 20000 in
theorem zin_47 (ca : zv_Ca) (ci : zv_Ci) (xs : Nat × (Nat → Int32)) (Dm : zv_D) : zv_z true zt_X2_init ca ci xs false 33 [some (.ref 44), some (.int 12)] [.ref 94, .int 12, .ref 45] zq_195 Dm = ((ci 67 [.ref 98] zq_197 (zv_zer zq_196 Dm)).bind fun p => zv_z true zt_X2_init ca ci xs false 33 [some (.ref 44), some (.int 13)] [.ref 98, .int 13, .ref 45] p.2.1 p.2.2) := (zv_zn _ _ _ _ _ _ [33] 14 _ _ _ _ _).trans rfl
set_option maxRecDepth 20000 in
theorem zin_48 (ca : zv_Ca) (ci : zv_Ci) (xs : Nat × (Nat → Int32)) (Dm : zv_D) : zv_z true zt_X7_init ca ci xs false 0 [some (.ref 98)] [] zq_197 Dm = some ((0, 0, 0), zq_203, (zv_zer zq_201 (zv_zer zq_199 (zv_zer zq_197 Dm)))) := (zv_zn _ _ _ _ _ _ [] 17 _ _ _ _ _).trans rfl
set_option maxRecDepth 20000 in
theorem zin_49 (ca : zv_Ca) (ci : zv_Ci) (xs : Nat × (Nat → Int32)) (Dm : zv_D) : zv_z true zt_X2_init ca ci xs false 33 [some (.ref 44), some (.int 13)] [.ref 98, .int 13, .ref 45] zq_203 Dm = some ((0, 0, 0), zq_204, Dm) := (zv_zn _ _ _ _ _ _ [] 9 _ _ _ _ _).trans rfl
set_option maxRecDepth 20000 in
theorem zin_50 (ca : zv_Ca) (ci : zv_Ci) (xs : Nat × (Nat → Int32)) (Dm : zv_D) : zv_z true zt_X8_init ca ci xs false 86 [some (.ref 0), none] [.ref 44, .ref 0] zq_204 Dm = ((ci 67 [.ref 103] zq_208 (zv_zer zq_207 (zv_zer zq_205 Dm))).bind fun p => zv_z true zt_X8_init ca ci xs false 116 [some (.ref 0), some (.int 0)] [.ref 103, .int 0, .ref 102] p.2.1 p.2.2) := (zv_zn _ _ _ _ _ _ [116] 18 _ _ _ _ _).trans rfl
set_option maxRecDepth 20000 in
theorem zin_51 (ca : zv_Ca) (ci : zv_Ci) (xs : Nat × (Nat → Int32)) (Dm : zv_D) : zv_z true zt_X7_init ca ci xs false 0 [some (.ref 103)] [] zq_208 Dm = some ((0, 0, 0), zq_214, (zv_zer zq_212 (zv_zer zq_210 (zv_zer zq_208 Dm)))) := (zv_zn _ _ _ _ _ _ [] 17 _ _ _ _ _).trans rfl
set_option maxRecDepth 20000 in
theorem zin_52 (ca : zv_Ca) (ci : zv_Ci) (xs : Nat × (Nat → Int32)) (Dm : zv_D) : zv_z true zt_X8_init ca ci xs false 116 [some (.ref 0), some (.int 0)] [.ref 103, .int 0, .ref 102] zq_214 Dm = ((ci 67 [.ref 107] zq_216 (zv_zer zq_215 Dm)).bind fun p => zv_z true zt_X8_init ca ci xs false 116 [some (.ref 0), some (.int 1)] [.ref 107, .int 1, .ref 102] p.2.1 p.2.2) := (zv_zn _ _ _ _ _ _ [116] 14 _ _ _ _ _).trans rfl
set_option maxRecDepth 20000 in
theorem zin_53 (ca : zv_Ca) (ci : zv_Ci) (xs : Nat × (Nat → Int32)) (Dm : zv_D) : zv_z true zt_X7_init ca ci xs false 0 [some (.ref 107)] [] zq_216 Dm = some ((0, 0, 0), zq_222, (zv_zer zq_220 (zv_zer zq_218 (zv_zer zq_216 Dm)))) := (zv_zn _ _ _ _ _ _ [] 17 _ _ _ _ _).trans rfl
set_option maxRecDepth 20000 in
theorem zin_54 (ca : zv_Ca) (ci : zv_Ci) (xs : Nat × (Nat → Int32)) (Dm : zv_D) : zv_z true zt_X8_init ca ci xs false 116 [some (.ref 0), some (.int 1)] [.ref 107, .int 1, .ref 102] zq_222 Dm = ((ci 42 [.ref 112] zq_226 (zv_zer zq_225 (zv_zer zq_223 Dm))).bind fun p => zv_z true zt_X8_init ca ci xs false 138 [some (.ref 0), some (.int 2)] [.ref 112, .ref 0] p.2.1 p.2.2) := (zv_zn _ _ _ _ _ _ [138] 16 _ _ _ _ _).trans rfl
set_option maxRecDepth 20000 in
theorem zin_55 (ca : zv_Ca) (ci : zv_Ci) (xs : Nat × (Nat → Int32)) (Dm : zv_D) : zv_z true zt_X5_init ca ci xs false 0 [some (.ref 112)] [] zq_226 Dm = some ((0, 0, 0), zq_232, (zv_zer zq_230 (zv_zer zq_228 (zv_zer zq_226 Dm)))) := (zv_zn _ _ _ _ _ _ [] 17 _ _ _ _ _).trans rfl
set_option maxRecDepth 20000 in
theorem zin_56 (ca : zv_Ca) (ci : zv_Ci) (xs : Nat × (Nat → Int32)) (Dm : zv_D) : zv_z true zt_X8_init ca ci xs false 138 [some (.ref 0), some (.int 2)] [.ref 112, .ref 0] zq_232 Dm = some ((0, 0, 0), zq_233, (Dm.1, zv_wl Dm.2 0 10 0)) := (zv_zn _ _ _ _ _ _ [] 7 _ _ _ _ _).trans rfl
set_option maxRecDepth 20000 in
theorem zin_57 (ca : zv_Ca) (ci : zv_Ci) (xs : Nat × (Nat → Int32)) (Dm : zv_D) : zv_z true zt_X9_init ca ci xs false 0 [some (.ref 116)] [] zq_234 Dm = zv_z true zt_X9_init ca ci xs false 36 [some (.ref 116)] [] zq_242 (zv_zer zq_240 (zv_zer zq_238 (zv_zer zq_236 (zv_zer zq_234 Dm)))) := (zv_zn _ _ _ _ _ _ [36] 20 _ _ _ _ _).trans rfl
set_option maxRecDepth 20000 in
theorem zin_58 (ca : zv_Ca) (ci : zv_Ci) (xs : Nat × (Nat → Int32)) (Dm : zv_D) : zv_z true zt_X9_init ca ci xs false 36 [some (.ref 116)] [] zq_242 Dm = zv_z true zt_X9_init ca ci xs false 69 [some (.ref 116)] [] zq_250 (zv_zer zq_248 (zv_zer zq_246 (zv_zer zq_244 (zv_zer zq_242 Dm)))) := (zv_zn _ _ _ _ _ _ [69] 18 _ _ _ _ _).trans rfl
set_option maxRecDepth 20000 in
theorem zin_59 (ca : zv_Ca) (ci : zv_Ci) (xs : Nat × (Nat → Int32)) (Dm : zv_D) : zv_z true zt_X9_init ca ci xs false 69 [some (.ref 116)] [] zq_250 Dm = zv_z true zt_X9_init ca ci xs false 101 [some (.ref 116)] [] zq_258 (zv_zer zq_256 (zv_zer zq_254 (zv_zer zq_252 (zv_zer zq_250 Dm)))) := (zv_zn _ _ _ _ _ _ [101] 18 _ _ _ _ _).trans rfl
set_option maxRecDepth 20000 in
theorem zin_60 (ca : zv_Ca) (ci : zv_Ci) (xs : Nat × (Nat → Int32)) (Dm : zv_D) : zv_z true zt_X9_init ca ci xs false 101 [some (.ref 116)] [] zq_258 Dm = zv_z true zt_X9_init ca ci xs false 131 [some (.ref 116)] [] zq_266 (zv_zer zq_264 (zv_zer zq_262 (zv_zer zq_260 (zv_zer zq_258 Dm)))) := (zv_zn _ _ _ _ _ _ [131] 18 _ _ _ _ _).trans rfl
set_option maxRecDepth 20000 in
theorem zin_61 (ca : zv_Ca) (ci : zv_Ci) (xs : Nat × (Nat → Int32)) (Dm : zv_D) : zv_z true zt_X9_init ca ci xs false 131 [some (.ref 116)] [] zq_266 Dm = zv_z true zt_X9_init ca ci xs false 163 [some (.ref 116)] [] zq_272 (zv_w (zv_zer zq_270 (zv_zer zq_268 (zv_zer zq_266 Dm))).1 119 0 1, (zv_zer zq_270 (zv_zer zq_268 (zv_zer zq_266 Dm))).2) := (zv_zn _ _ _ _ _ _ [163] 19 _ _ _ _ _).trans rfl
set_option maxRecDepth 20000 in
theorem zin_62 (ca : zv_Ca) (ci : zv_Ci) (xs : Nat × (Nat → Int32)) (Dm : zv_D) : zv_z true zt_X9_init ca ci xs false 163 [some (.ref 116)] [] zq_272 Dm = ((ca 133 [.ref 119] zq_272 Dm).bind fun p => zv_z true zt_X9_init ca ci xs false 170 [some (.ref 116)] [] zq_272 p.2) := (zv_zn _ _ _ _ _ _ [170] 5 _ _ _ _ _).trans rfl
set_option maxRecDepth 20000 in
theorem zin_63 (ca : zv_Ca) (ci : zv_Ci) (xs : Nat × (Nat → Int32)) (Dm : zv_D) : zv_z true zt_X9_init ca ci xs false 170 [some (.ref 116)] [] zq_272 Dm = some ((0, 0, 0), zq_272, Dm) := (zv_zn _ _ _ _ _ _ [] 3 _ _ _ _ _).trans rfl
