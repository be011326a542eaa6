/-! ===== the program is the machine's: all its methods ===== -/
section PA
variable {l : Launch} {D : va_G} {cA : Nat → ClassId} {ad : Nat → Nat}
def pa_P (l : Launch) (D : va_G) (cA : Nat → ClassId) (ad : Nat → Nat) (y : Nat) : Prop := ∀ q ∈ sm_tab y, sn_V l D cA ad (sn_SK ad) sm_nm sm_by sm_mL sm_rt (sm_by y) (sm_nm y).cls (sm_mL y) (sm_rt y) q.1 q.2
set_option maxRecDepth 100000 in
theorem pa_0 : ∀ j, j < 36 → pa_P l D cA ad (0 + j)
  | 0, _ => pv_0
  | 1, _ => pv_1
  | 2, _ => pv_2
  | 3, _ => pv_3
  | 4, _ => pv_4
  | 5, _ => pv_5
  | 6, _ => pv_6
  | 7, _ => pv_7
  | 8, _ => pv_8
  | 9, _ => pv_9
  | 10, _ => pv_10
  | 11, _ => pv_11
  | 12, _ => pv_12
  | 13, _ => pv_13
  | 14, _ => pv_14
  | 15, _ => pv_15
  | 16, _ => pv_16
  | 17, _ => pv_17
  | 18, _ => pv_18
  | 19, _ => pv_19
  | 20, _ => pv_20
  | 21, _ => pv_21
  | 22, _ => pv_22
  | 23, _ => pv_23
  | 24, _ => pv_24
  | 25, _ => pv_25
  | 26, _ => pv_26
  | 27, _ => pv_27
  | 28, _ => pv_28
  | 29, _ => pv_29
  | 30, _ => pv_30
  | 31, _ => pv_31
  | 32, _ => pv_32
  | 33, _ => pv_33
  | 34, _ => pv_34
  | 35, _ => pv_35
  | j + 36, h => absurd h (by omega)
set_option maxRecDepth 100000 in
theorem pa_36 : ∀ j, j < 36 → pa_P l D cA ad (36 + j)
  | 0, _ => pv_36
  | 1, _ => pv_37
  | 2, _ => pv_38
  | 3, _ => pv_39
  | 4, _ => pv_40
  | 5, _ => pv_41
  | 6, _ => pv_42
  | 7, _ => pv_43
  | 8, _ => pv_44
  | 9, _ => pv_45
  | 10, _ => pv_46
  | 11, _ => pv_47
  | 12, _ => pv_48
  | 13, _ => pv_49
  | 14, _ => pv_50
  | 15, _ => pv_51
  | 16, _ => pv_52
  | 17, _ => pv_53
  | 18, _ => pv_54
  | 19, _ => pv_55
  | 20, _ => pv_56
  | 21, _ => pv_57
  | 22, _ => pv_58
  | 23, _ => pv_59
  | 24, _ => pv_60
  | 25, _ => pv_61
  | 26, _ => pv_62
  | 27, _ => pv_63
  | 28, _ => pv_64
  | 29, _ => pv_65
  | 30, _ => pv_66
  | 31, _ => pv_67
  | 32, _ => pv_68
  | 33, _ => pv_69
  | 34, _ => pv_70
  | 35, _ => pv_71
  | j + 36, h => absurd h (by omega)
set_option maxRecDepth 100000 in
theorem pa_72 : ∀ j, j < 36 → pa_P l D cA ad (72 + j)
  | 0, _ => pv_72
  | 1, _ => pv_73
  | 2, _ => pv_74
  | 3, _ => pv_75
  | 4, _ => pv_76
  | 5, _ => pv_77
  | 6, _ => pv_78
  | 7, _ => pv_79
  | 8, _ => pv_80
  | 9, _ => pv_81
  | 10, _ => pv_82
  | 11, _ => pv_83
  | 12, _ => pv_84
  | 13, _ => pv_85
  | 14, _ => pv_86
  | 15, _ => pv_87
  | 16, _ => pv_88
  | 17, _ => pv_89
  | 18, _ => pv_90
  | 19, _ => pv_91
  | 20, _ => pv_92
  | 21, _ => pv_93
  | 22, _ => pv_94
  | 23, _ => pv_95
  | 24, _ => pv_96
  | 25, _ => pv_97
  | 26, _ => pv_98
  | 27, _ => pv_99
  | 28, _ => pv_100
  | 29, _ => pv_101
  | 30, _ => pv_102
  | 31, _ => pv_103
  | 32, _ => pv_104
  | 33, _ => pv_105
  | 34, _ => pv_106
  | 35, _ => pv_107
  | j + 36, h => absurd h (by omega)
set_option maxRecDepth 100000 in
theorem pa_108 : ∀ j, j < 36 → pa_P l D cA ad (108 + j)
  | 0, _ => pv_108
  | 1, _ => pv_109
  | 2, _ => pv_110
  | 3, _ => pv_111
  | 4, _ => pv_112
  | 5, _ => pv_113
  | 6, _ => pv_114
  | 7, _ => pv_115
  | 8, _ => pv_116
  | 9, _ => pv_117
  | 10, _ => pv_118
  | 11, _ => pv_119
  | 12, _ => pv_120
  | 13, _ => pv_121
  | 14, _ => pv_122
  | 15, _ => pv_123
  | 16, _ => pv_124
  | 17, _ => pv_125
  | 18, _ => pv_126
  | 19, _ => pv_127
  | 20, _ => pv_128
  | 21, _ => pv_129
  | 22, _ => pv_130
  | 23, _ => pv_131
  | 24, _ => pv_132
  | 25, _ => pv_133
  | 26, _ => pv_134
  | 27, _ => pv_135
  | 28, _ => pv_136
  | 29, _ => pv_137
  | 30, _ => pv_138
  | 31, _ => pv_139
  | 32, _ => pv_140
  | 33, _ => pv_141
  | 34, _ => pv_142
  | 35, _ => pv_143
  | j + 36, h => absurd h (by omega)
set_option maxRecDepth 100000 in
theorem pa_144 : ∀ j, j < 36 → pa_P l D cA ad (144 + j)
  | 0, _ => pv_144
  | 1, _ => pv_145
  | 2, _ => pv_146
  | 3, _ => pv_147
  | 4, _ => pv_148
  | 5, _ => pv_149
  | 6, _ => pv_150
  | 7, _ => pv_151
  | 8, _ => pv_152
  | 9, _ => pv_153
  | 10, _ => pv_154
  | 11, _ => pv_155
  | 12, _ => pv_156
  | 13, _ => pv_157
  | 14, _ => pv_158
  | 15, _ => pv_159
  | 16, _ => pv_160
  | 17, _ => pv_161
  | 18, _ => pv_162
  | 19, _ => pv_163
  | 20, _ => pv_164
  | 21, _ => pv_165
  | 22, _ => pv_166
  | 23, _ => pv_167
  | 24, _ => pv_168
  | 25, _ => pv_169
  | 26, _ => pv_170
  | 27, _ => pv_171
  | 28, _ => pv_172
  | 29, _ => pv_173
  | 30, _ => pv_174
  | 31, _ => pv_175
  | 32, _ => pv_176
  | 33, _ => pv_177
  | 34, _ => pv_178
  | 35, _ => pv_179
  | j + 36, h => absurd h (by omega)
set_option maxRecDepth 100000 in
theorem pa_180 : ∀ j, j < 36 → pa_P l D cA ad (180 + j)
  | 0, _ => pv_180
  | 1, _ => pv_181
  | 2, _ => pv_182
  | 3, _ => pv_183
  | 4, _ => pv_184
  | 5, _ => pv_185
  | 6, _ => pv_186
  | 7, _ => pv_187
  | 8, _ => pv_188
  | 9, _ => pv_189
  | 10, _ => pv_190
  | 11, _ => pv_191
  | 12, _ => pv_192
  | 13, _ => pv_193
  | 14, _ => pv_194
  | 15, _ => pv_195
  | 16, _ => pv_196
  | 17, _ => pv_197
  | 18, _ => pv_198
  | 19, _ => pv_199
  | 20, _ => pv_200
  | 21, _ => pv_201
  | 22, _ => pv_202
  | 23, _ => pv_203
  | 24, _ => pv_204
  | 25, _ => pv_205
  | 26, _ => pv_206
  | 27, _ => pv_207
  | 28, _ => pv_208
  | 29, _ => pv_209
  | 30, _ => pv_210
  | 31, _ => pv_211
  | 32, _ => pv_212
  | 33, _ => pv_213
  | 34, _ => pv_214
  | 35, _ => pv_215
  | j + 36, h => absurd h (by omega)
set_option maxRecDepth 100000 in
theorem pa_216 : ∀ j, j < 36 → pa_P l D cA ad (216 + j)
  | 0, _ => pv_216
  | 1, _ => pv_217
  | 2, _ => pv_218
  | 3, _ => pv_219
  | 4, _ => pv_220
  | 5, _ => pv_221
  | 6, _ => pv_222
  | 7, _ => pv_223
  | 8, _ => pv_224
  | 9, _ => pv_225
  | 10, _ => pv_226
  | 11, _ => pv_227
  | 12, _ => pv_228
  | 13, _ => pv_229
  | 14, _ => pv_230
  | 15, _ => pv_231
  | 16, _ => pv_232
  | 17, _ => pv_233
  | 18, _ => pv_234
  | 19, _ => pv_235
  | 20, _ => pv_236
  | 21, _ => pv_237
  | 22, _ => pv_238
  | 23, _ => pv_239
  | 24, _ => pv_240
  | 25, _ => pv_241
  | 26, _ => pv_242
  | 27, _ => pv_243
  | 28, _ => pv_244
  | 29, _ => pv_245
  | 30, _ => pv_246
  | 31, _ => pv_247
  | 32, _ => pv_248
  | 33, _ => pv_249
  | 34, _ => pv_250
  | 35, _ => pv_251
  | j + 36, h => absurd h (by omega)
set_option maxRecDepth 100000 in
theorem pa_252 : ∀ j, j < 36 → pa_P l D cA ad (252 + j)
  | 0, _ => pv_252
  | 1, _ => pv_253
  | 2, _ => pv_254
  | 3, _ => pv_255
  | 4, _ => pv_256
  | 5, _ => pv_257
  | 6, _ => pv_258
  | 7, _ => pv_259
  | 8, _ => pv_260
  | 9, _ => pv_261
  | 10, _ => pv_262
  | 11, _ => pv_263
  | 12, _ => pv_264
  | 13, _ => pv_265
  | 14, _ => pv_266
  | 15, _ => pv_267
  | 16, _ => pv_268
  | 17, _ => pv_269
  | 18, _ => pv_270
  | 19, _ => pv_271
  | 20, _ => pv_272
  | 21, _ => pv_273
  | 22, _ => pv_274
  | 23, _ => pv_275
  | 24, _ => pv_276
  | 25, _ => pv_277
  | 26, _ => pv_278
  | 27, _ => pv_279
  | 28, _ => pv_280
  | 29, _ => pv_281
  | 30, _ => pv_282
  | 31, _ => pv_283
  | 32, _ => pv_284
  | 33, _ => pv_285
  | 34, _ => pv_286
  | 35, _ => pv_287
  | j + 36, h => absurd h (by omega)
theorem pa_all {y : Nat} (hy : y < 288) : pa_P l D cA ad y := by
  by_cases h0 : y < 36
  · have := pa_0 (l := l) (D := D) (cA := cA) (ad := ad) (y - 0) (by omega)
    rwa [show 0 + (y - 0) = y by omega] at this
  by_cases h36 : y < 72
  · have := pa_36 (l := l) (D := D) (cA := cA) (ad := ad) (y - 36) (by omega)
    rwa [show 36 + (y - 36) = y by omega] at this
  by_cases h72 : y < 108
  · have := pa_72 (l := l) (D := D) (cA := cA) (ad := ad) (y - 72) (by omega)
    rwa [show 72 + (y - 72) = y by omega] at this
  by_cases h108 : y < 144
  · have := pa_108 (l := l) (D := D) (cA := cA) (ad := ad) (y - 108) (by omega)
    rwa [show 108 + (y - 108) = y by omega] at this
  by_cases h144 : y < 180
  · have := pa_144 (l := l) (D := D) (cA := cA) (ad := ad) (y - 144) (by omega)
    rwa [show 144 + (y - 144) = y by omega] at this
  by_cases h180 : y < 216
  · have := pa_180 (l := l) (D := D) (cA := cA) (ad := ad) (y - 180) (by omega)
    rwa [show 180 + (y - 180) = y by omega] at this
  by_cases h216 : y < 252
  · have := pa_216 (l := l) (D := D) (cA := cA) (ad := ad) (y - 216) (by omega)
    rwa [show 216 + (y - 216) = y by omega] at this
  by_cases h252 : y < 288
  · have := pa_252 (l := l) (D := D) (cA := cA) (ad := ad) (y - 252) (by omega)
    rwa [show 252 + (y - 252) = y by omega] at this
  exact absurd hy h252
theorem sm_lk_mem : ∀ (t : List (Nat × sm_I)) (k : Nat) (i : sm_I), sm_lk t k = some i → (k, i) ∈ t
  | [], k, i, h => by cases h
  | q :: r, k, i, h => by
    unfold sm_lk at h
    split at h
    next e => cases h; rw [← e]; exact List.mem_cons_self
    next => exact List.mem_cons_of_mem _ (sm_lk_mem r k i h)
set_option maxRecDepth 100000 in
theorem sm_tab_lt {y k : Nat} {i : sm_I} (h : sm_P y k = some i) : y < 288 := by
  refine Nat.lt_of_not_le (fun q => ?_)
  unfold sm_P sm_tab at h
  rw [List.getD_eq_getElem?_getD, List.getElem?_eq_none (show sm_tabL.length ≤ y from q)] at h
  cases h
theorem pa_small : ∀ y, y < 288 → plainFor (sm_nm y) = true ∧ sm_mL y ≤ 20 := by decide +kernel
theorem pa_prog (hinj : ∀ i j : Nat, i < sm_NC → j < sm_NC → ad i = ad j → i = j) : sn_ProgF l D cA ad (sn_SK ad) sm_nm sm_by sm_mL sm_rt sm_P := by
  refine ⟨fun y k i h => ?_, hinj, sn_SKok ad⟩
  have hy := sm_tab_lt h
  exact ⟨pa_all hy (k, i) (sm_lk_mem _ _ _ h), pa_small y hy⟩
end PA
