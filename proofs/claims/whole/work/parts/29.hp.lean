/-! ===== reading and writing; numbers (own rows) ===== -/
theorem ln_0 : sm_ln 0 = 0 := rfl
theorem ln_1 : sm_ln 1 = 900 := rfl
theorem ln_2 : sm_ln 2 = 0 := rfl
theorem ln_3 : sm_ln 3 = 12 := rfl
theorem ln_4 : sm_ln 4 = 12 := rfl
theorem ln_5 : sm_ln 5 = 12 := rfl
theorem ln_6 : sm_ln 6 = 12 := rfl
theorem ln_7 : sm_ln 7 = 6 := rfl
theorem ln_8 : sm_ln 8 = 6 := rfl
theorem ln_9 : sm_ln 9 = 6 := rfl
theorem ln_10 : sm_ln 10 = 6 := rfl
theorem ln_11 : sm_ln 11 = 6 := rfl
theorem ln_12 : sm_ln 12 = 0 := rfl
theorem ln_13 : sm_ln 13 = 900 := rfl
theorem ln_14 : sm_ln 14 = 64 := rfl
theorem ln_15 : sm_ln 15 = 0 := rfl
theorem ln_16 : sm_ln 16 = 900 := rfl
theorem ln_17 : sm_ln 17 = 64 := rfl
theorem ln_18 : sm_ln 18 = 0 := rfl
theorem ln_19 : sm_ln 19 = 6 := rfl
theorem ln_20 : sm_ln 20 = 6 := rfl
theorem ln_21 : sm_ln 21 = 6 := rfl
theorem ln_22 : sm_ln 22 = 6 := rfl
theorem ln_23 : sm_ln 23 = 0 := rfl
theorem ln_24 : sm_ln 24 = 6 := rfl
theorem ln_25 : sm_ln 25 = 6 := rfl
theorem ln_26 : sm_ln 26 = 6 := rfl
theorem ln_27 : sm_ln 27 = 6 := rfl
theorem ln_28 : sm_ln 28 = 0 := rfl
theorem ln_29 : sm_ln 29 = 0 := rfl
theorem ln_30 : sm_ln 30 = 12 := rfl
theorem ln_31 : sm_ln 31 = 12 := rfl
theorem ln_32 : sm_ln 32 = 12 := rfl
theorem ln_33 : sm_ln 33 = 12 := rfl
theorem ln_34 : sm_ln 34 = 6 := rfl
theorem ln_35 : sm_ln 35 = 6 := rfl
theorem ln_36 : sm_ln 36 = 6 := rfl
theorem ln_37 : sm_ln 37 = 6 := rfl
theorem ln_38 : sm_ln 38 = 6 := rfl
theorem ln_39 : sm_ln 39 = 0 := rfl
theorem ln_40 : sm_ln 40 = 900 := rfl
theorem ln_41 : sm_ln 41 = 64 := rfl
theorem ln_42 : sm_ln 42 = 0 := rfl
theorem ln_43 : sm_ln 43 = 900 := rfl
theorem ln_44 : sm_ln 44 = 64 := rfl
theorem ln_45 : sm_ln 45 = 901 := rfl
theorem ln_46 : sm_ln 46 = 901 := rfl
theorem ln_47 : sm_ln 47 = 901 := rfl
theorem ln_48 : sm_ln 48 = 0 := rfl
theorem ln_49 : sm_ln 49 = 7 := rfl
theorem ln_50 : sm_ln 50 = 6720 := rfl
theorem ln_51 : sm_ln 51 = 0 := rfl
theorem ln_52 : sm_ln 52 = 0 := rfl
theorem ln_53 : sm_ln 53 = 10 := rfl
theorem ln_54 : sm_ln 54 = 0 := rfl
theorem ln_55 : sm_ln 55 = 6 := rfl
theorem ln_56 : sm_ln 56 = 6 := rfl
theorem ln_57 : sm_ln 57 = 6 := rfl
theorem ln_58 : sm_ln 58 = 6 := rfl
theorem ln_59 : sm_ln 59 = 0 := rfl
theorem ln_60 : sm_ln 60 = 6 := rfl
theorem ln_61 : sm_ln 61 = 6 := rfl
theorem ln_62 : sm_ln 62 = 6 := rfl
theorem ln_63 : sm_ln 63 = 6 := rfl
theorem ln_64 : sm_ln 64 = 0 := rfl
theorem ln_65 : sm_ln 65 = 6 := rfl
theorem ln_66 : sm_ln 66 = 6 := rfl
theorem ln_67 : sm_ln 67 = 6 := rfl
theorem ln_68 : sm_ln 68 = 6 := rfl
theorem ln_69 : sm_ln 69 = 0 := rfl
theorem ln_70 : sm_ln 70 = 6 := rfl
theorem ln_71 : sm_ln 71 = 6 := rfl
theorem ln_72 : sm_ln 72 = 6 := rfl
theorem ln_73 : sm_ln 73 = 6 := rfl
theorem ln_74 : sm_ln 74 = 0 := rfl
theorem ln_75 : sm_ln 75 = 6 := rfl
theorem ln_76 : sm_ln 76 = 6 := rfl
theorem ln_77 : sm_ln 77 = 6 := rfl
theorem ln_78 : sm_ln 78 = 6 := rfl
theorem ln_79 : sm_ln 79 = 0 := rfl
theorem ln_80 : sm_ln 80 = 6 := rfl
theorem ln_81 : sm_ln 81 = 6 := rfl
theorem ln_82 : sm_ln 82 = 6 := rfl
theorem ln_83 : sm_ln 83 = 6 := rfl
theorem ln_84 : sm_ln 84 = 0 := rfl
theorem ln_85 : sm_ln 85 = 6 := rfl
theorem ln_86 : sm_ln 86 = 6 := rfl
theorem ln_87 : sm_ln 87 = 6 := rfl
theorem ln_88 : sm_ln 88 = 6 := rfl
theorem ln_89 : sm_ln 89 = 0 := rfl
theorem ln_90 : sm_ln 90 = 6 := rfl
theorem ln_91 : sm_ln 91 = 6 := rfl
theorem ln_92 : sm_ln 92 = 6 := rfl
theorem ln_93 : sm_ln 93 = 6 := rfl
theorem ln_94 : sm_ln 94 = 0 := rfl
theorem ln_95 : sm_ln 95 = 6 := rfl
theorem ln_96 : sm_ln 96 = 6 := rfl
theorem ln_97 : sm_ln 97 = 6 := rfl
theorem ln_98 : sm_ln 98 = 6 := rfl
theorem ln_99 : sm_ln 99 = 0 := rfl
theorem ln_100 : sm_ln 100 = 6 := rfl
theorem ln_101 : sm_ln 101 = 6 := rfl
theorem ln_102 : sm_ln 102 = 6 := rfl
theorem ln_103 : sm_ln 103 = 6 := rfl
theorem ln_104 : sm_ln 104 = 0 := rfl
theorem ln_105 : sm_ln 105 = 61440 := rfl
theorem ln_106 : sm_ln 106 = 3840 := rfl
theorem ln_107 : sm_ln 107 = 10240 := rfl
theorem ln_108 : sm_ln 108 = 6 := rfl
theorem ln_109 : sm_ln 109 = 96 := rfl
theorem ln_110 : sm_ln 110 = 2 := rfl
theorem ln_111 : sm_ln 111 = 3840 := rfl
theorem ln_112 : sm_ln 112 = 3840 := rfl
theorem ln_113 : sm_ln 113 = 0 := rfl
theorem ln_114 : sm_ln 114 = 6 := rfl
theorem ln_115 : sm_ln 115 = 6 := rfl
theorem ln_116 : sm_ln 116 = 0 := rfl
theorem ln_117 : sm_ln 117 = 4 := rfl
theorem ln_118 : sm_ln 118 = 40 := rfl
theorem ln_119 : sm_ln 119 = 40 := rfl
theorem ln_120 : sm_ln 120 = 40 := rfl
theorem ln_121 : sm_ln 121 = 40 := rfl
theorem ln_122 : sm_ln 122 = 4 := rfl
theorem ln_123 : sm_ln 123 = 4 := rfl
theorem ln_124 : sm_ln 124 = 0 := rfl
theorem ln_125 : sm_ln 125 = 2 := rfl
theorem ln_126 : sm_ln 126 = 0 := rfl
theorem ln_127 : sm_ln 127 = 12 := rfl
theorem ln_128 : sm_ln 128 = 12 := rfl
theorem ln_129 : sm_ln 129 = 12 := rfl
theorem ln_130 : sm_ln 130 = 12 := rfl
theorem ln_131 : sm_ln 131 = 6 := rfl
theorem ln_132 : sm_ln 132 = 6 := rfl
theorem ln_133 : sm_ln 133 = 6 := rfl
theorem ln_134 : sm_ln 134 = 6 := rfl
theorem ln_135 : sm_ln 135 = 6 := rfl
theorem ln_136 : sm_ln 136 = 0 := rfl
theorem ln_137 : sm_ln 137 = 900 := rfl
theorem ln_138 : sm_ln 138 = 64 := rfl
theorem ln_139 : sm_ln 139 = 0 := rfl
theorem ln_140 : sm_ln 140 = 900 := rfl
theorem ln_141 : sm_ln 141 = 64 := rfl
theorem ln_142 : sm_ln 142 = 0 := rfl
theorem ln_143 : sm_ln 143 = 12 := rfl
theorem ln_144 : sm_ln 144 = 12 := rfl
theorem ln_145 : sm_ln 145 = 12 := rfl
theorem ln_146 : sm_ln 146 = 12 := rfl
theorem ln_147 : sm_ln 147 = 6 := rfl
theorem ln_148 : sm_ln 148 = 6 := rfl
theorem ln_149 : sm_ln 149 = 6 := rfl
theorem ln_150 : sm_ln 150 = 6 := rfl
theorem ln_151 : sm_ln 151 = 6 := rfl
theorem ln_152 : sm_ln 152 = 0 := rfl
theorem ln_153 : sm_ln 153 = 900 := rfl
theorem ln_154 : sm_ln 154 = 64 := rfl
theorem ln_155 : sm_ln 155 = 0 := rfl
theorem ln_156 : sm_ln 156 = 900 := rfl
theorem ln_157 : sm_ln 157 = 64 := rfl
theorem ln_158 : sm_ln 158 = 2 := rfl
theorem ln_159 : sm_ln 159 = 0 := rfl
theorem ln_160 : sm_ln 160 = 6 := rfl
theorem ln_161 : sm_ln 161 = 6 := rfl
theorem ln_162 : sm_ln 162 = 6 := rfl
theorem ln_163 : sm_ln 163 = 6 := rfl
theorem ln_164 : sm_ln 164 = 0 := rfl
theorem ln_165 : sm_ln 165 = 6 := rfl
theorem ln_166 : sm_ln 166 = 6 := rfl
theorem ln_167 : sm_ln 167 = 6 := rfl
theorem ln_168 : sm_ln 168 = 6 := rfl
theorem ln_169 : sm_ln 169 = 0 := rfl
theorem ln_170 : sm_ln 170 = 3828 := rfl
theorem ln_171 : sm_ln 171 = 2 := rfl
theorem ln_172 : sm_ln 172 = 900 := rfl
theorem ln_173 : sm_ln 173 = 1276 := rfl
theorem ln_174 : sm_ln 174 = 900 := rfl
theorem ln_175 : sm_ln 175 = 7 := rfl
theorem ln_176 : sm_ln 176 = 26 := rfl
theorem ln_177 : sm_ln 177 = 61440 := rfl
theorem ln_178 : sm_ln 178 = 61440 := rfl
theorem ln_179 : sm_ln 179 = 61440 := rfl
theorem ln_180 : sm_ln 180 = 737280 := rfl
theorem ln_181 : sm_ln 181 = 4000 := rfl
theorem ln_182 : sm_ln 182 = 3840 := rfl
theorem ln_183 : sm_ln 183 = 3840 := rfl
theorem ln_184 : sm_ln 184 = 4 := rfl
theorem ln_185 : sm_ln 185 = 4 := rfl
theorem ln_186 : sm_ln 186 = 160 := rfl
theorem kd_0 : sm_kd 0 = 21 := rfl
theorem kd_1 : sm_kd 1 = 1 := rfl
theorem kd_2 : sm_kd 2 = 13 := rfl
theorem kd_3 : sm_kd 3 = 0 := rfl
theorem kd_4 : sm_kd 4 = 0 := rfl
theorem kd_5 : sm_kd 5 = 0 := rfl
theorem kd_6 : sm_kd 6 = 0 := rfl
theorem kd_7 : sm_kd 7 = 0 := rfl
theorem kd_8 : sm_kd 8 = 0 := rfl
theorem kd_9 : sm_kd 9 = 0 := rfl
theorem kd_10 : sm_kd 10 = 0 := rfl
theorem kd_11 : sm_kd 11 = 0 := rfl
theorem kd_12 : sm_kd 12 = 14 := rfl
theorem kd_13 : sm_kd 13 = 0 := rfl
theorem kd_14 : sm_kd 14 = 0 := rfl
theorem kd_15 : sm_kd 15 = 14 := rfl
theorem kd_16 : sm_kd 16 = 0 := rfl
theorem kd_17 : sm_kd 17 = 0 := rfl
theorem kd_18 : sm_kd 18 = 20 := rfl
theorem kd_19 : sm_kd 19 = 0 := rfl
theorem kd_20 : sm_kd 20 = 0 := rfl
theorem kd_21 : sm_kd 21 = 0 := rfl
theorem kd_22 : sm_kd 22 = 0 := rfl
theorem kd_23 : sm_kd 23 = 20 := rfl
theorem kd_24 : sm_kd 24 = 0 := rfl
theorem kd_25 : sm_kd 25 = 0 := rfl
theorem kd_26 : sm_kd 26 = 0 := rfl
theorem kd_27 : sm_kd 27 = 0 := rfl
theorem kd_28 : sm_kd 28 = 17 := rfl
theorem kd_29 : sm_kd 29 = 13 := rfl
theorem kd_30 : sm_kd 30 = 0 := rfl
theorem kd_31 : sm_kd 31 = 0 := rfl
theorem kd_32 : sm_kd 32 = 0 := rfl
theorem kd_33 : sm_kd 33 = 0 := rfl
theorem kd_34 : sm_kd 34 = 0 := rfl
theorem kd_35 : sm_kd 35 = 0 := rfl
theorem kd_36 : sm_kd 36 = 0 := rfl
theorem kd_37 : sm_kd 37 = 0 := rfl
theorem kd_38 : sm_kd 38 = 0 := rfl
theorem kd_39 : sm_kd 39 = 14 := rfl
theorem kd_40 : sm_kd 40 = 0 := rfl
theorem kd_41 : sm_kd 41 = 0 := rfl
theorem kd_42 : sm_kd 42 = 14 := rfl
theorem kd_43 : sm_kd 43 = 0 := rfl
theorem kd_44 : sm_kd 44 = 0 := rfl
theorem kd_45 : sm_kd 45 = 0 := rfl
theorem kd_46 : sm_kd 46 = 0 := rfl
theorem kd_47 : sm_kd 47 = 0 := rfl
theorem kd_48 : sm_kd 48 = 15 := rfl
theorem kd_49 : sm_kd 49 = 0 := rfl
theorem kd_50 : sm_kd 50 = 0 := rfl
theorem kd_51 : sm_kd 51 = 12 := rfl
theorem kd_52 : sm_kd 52 = 16 := rfl
theorem kd_53 : sm_kd 53 = 4 := rfl
theorem kd_54 : sm_kd 54 = 20 := rfl
theorem kd_55 : sm_kd 55 = 0 := rfl
theorem kd_56 : sm_kd 56 = 0 := rfl
theorem kd_57 : sm_kd 57 = 0 := rfl
theorem kd_58 : sm_kd 58 = 0 := rfl
theorem kd_59 : sm_kd 59 = 20 := rfl
theorem kd_60 : sm_kd 60 = 0 := rfl
theorem kd_61 : sm_kd 61 = 0 := rfl
theorem kd_62 : sm_kd 62 = 0 := rfl
theorem kd_63 : sm_kd 63 = 0 := rfl
theorem kd_64 : sm_kd 64 = 20 := rfl
theorem kd_65 : sm_kd 65 = 0 := rfl
theorem kd_66 : sm_kd 66 = 0 := rfl
theorem kd_67 : sm_kd 67 = 0 := rfl
theorem kd_68 : sm_kd 68 = 0 := rfl
theorem kd_69 : sm_kd 69 = 20 := rfl
theorem kd_70 : sm_kd 70 = 0 := rfl
theorem kd_71 : sm_kd 71 = 0 := rfl
theorem kd_72 : sm_kd 72 = 0 := rfl
theorem kd_73 : sm_kd 73 = 0 := rfl
theorem kd_74 : sm_kd 74 = 20 := rfl
theorem kd_75 : sm_kd 75 = 0 := rfl
theorem kd_76 : sm_kd 76 = 0 := rfl
theorem kd_77 : sm_kd 77 = 0 := rfl
theorem kd_78 : sm_kd 78 = 0 := rfl
theorem kd_79 : sm_kd 79 = 20 := rfl
theorem kd_80 : sm_kd 80 = 0 := rfl
theorem kd_81 : sm_kd 81 = 0 := rfl
theorem kd_82 : sm_kd 82 = 0 := rfl
theorem kd_83 : sm_kd 83 = 0 := rfl
theorem kd_84 : sm_kd 84 = 20 := rfl
theorem kd_85 : sm_kd 85 = 0 := rfl
theorem kd_86 : sm_kd 86 = 0 := rfl
theorem kd_87 : sm_kd 87 = 0 := rfl
theorem kd_88 : sm_kd 88 = 0 := rfl
theorem kd_89 : sm_kd 89 = 20 := rfl
theorem kd_90 : sm_kd 90 = 0 := rfl
theorem kd_91 : sm_kd 91 = 0 := rfl
theorem kd_92 : sm_kd 92 = 0 := rfl
theorem kd_93 : sm_kd 93 = 0 := rfl
theorem kd_94 : sm_kd 94 = 20 := rfl
theorem kd_95 : sm_kd 95 = 0 := rfl
theorem kd_96 : sm_kd 96 = 0 := rfl
theorem kd_97 : sm_kd 97 = 0 := rfl
theorem kd_98 : sm_kd 98 = 0 := rfl
theorem kd_99 : sm_kd 99 = 20 := rfl
theorem kd_100 : sm_kd 100 = 0 := rfl
theorem kd_101 : sm_kd 101 = 0 := rfl
theorem kd_102 : sm_kd 102 = 0 := rfl
theorem kd_103 : sm_kd 103 = 0 := rfl
theorem kd_104 : sm_kd 104 = 18 := rfl
theorem kd_105 : sm_kd 105 = 0 := rfl
theorem kd_106 : sm_kd 106 = 0 := rfl
theorem kd_107 : sm_kd 107 = 0 := rfl
theorem kd_108 : sm_kd 108 = 0 := rfl
theorem kd_109 : sm_kd 109 = 0 := rfl
theorem kd_110 : sm_kd 110 = 6 := rfl
theorem kd_111 : sm_kd 111 = 3 := rfl
theorem kd_112 : sm_kd 112 = 3 := rfl
theorem kd_113 : sm_kd 113 = 11 := rfl
theorem kd_114 : sm_kd 114 = 0 := rfl
theorem kd_115 : sm_kd 115 = 0 := rfl
theorem kd_116 : sm_kd 116 = 19 := rfl
theorem kd_117 : sm_kd 117 = 6 := rfl
theorem kd_118 : sm_kd 118 = 3 := rfl
theorem kd_119 : sm_kd 119 = 3 := rfl
theorem kd_120 : sm_kd 120 = 3 := rfl
theorem kd_121 : sm_kd 121 = 3 := rfl
theorem kd_122 : sm_kd 122 = 0 := rfl
theorem kd_123 : sm_kd 123 = 0 := rfl
theorem kd_124 : sm_kd 124 = 10 := rfl
theorem kd_125 : sm_kd 125 = 5 := rfl
theorem kd_126 : sm_kd 126 = 13 := rfl
theorem kd_127 : sm_kd 127 = 0 := rfl
theorem kd_128 : sm_kd 128 = 0 := rfl
theorem kd_129 : sm_kd 129 = 0 := rfl
theorem kd_130 : sm_kd 130 = 0 := rfl
theorem kd_131 : sm_kd 131 = 0 := rfl
theorem kd_132 : sm_kd 132 = 0 := rfl
theorem kd_133 : sm_kd 133 = 0 := rfl
theorem kd_134 : sm_kd 134 = 0 := rfl
theorem kd_135 : sm_kd 135 = 0 := rfl
theorem kd_136 : sm_kd 136 = 14 := rfl
theorem kd_137 : sm_kd 137 = 0 := rfl
theorem kd_138 : sm_kd 138 = 0 := rfl
theorem kd_139 : sm_kd 139 = 14 := rfl
theorem kd_140 : sm_kd 140 = 0 := rfl
theorem kd_141 : sm_kd 141 = 0 := rfl
theorem kd_142 : sm_kd 142 = 13 := rfl
theorem kd_143 : sm_kd 143 = 0 := rfl
theorem kd_144 : sm_kd 144 = 0 := rfl
theorem kd_145 : sm_kd 145 = 0 := rfl
theorem kd_146 : sm_kd 146 = 0 := rfl
theorem kd_147 : sm_kd 147 = 0 := rfl
theorem kd_148 : sm_kd 148 = 0 := rfl
theorem kd_149 : sm_kd 149 = 0 := rfl
theorem kd_150 : sm_kd 150 = 0 := rfl
theorem kd_151 : sm_kd 151 = 0 := rfl
theorem kd_152 : sm_kd 152 = 14 := rfl
theorem kd_153 : sm_kd 153 = 0 := rfl
theorem kd_154 : sm_kd 154 = 0 := rfl
theorem kd_155 : sm_kd 155 = 14 := rfl
theorem kd_156 : sm_kd 156 = 0 := rfl
theorem kd_157 : sm_kd 157 = 0 := rfl
theorem kd_158 : sm_kd 158 = 4 := rfl
theorem kd_159 : sm_kd 159 = 20 := rfl
theorem kd_160 : sm_kd 160 = 0 := rfl
theorem kd_161 : sm_kd 161 = 0 := rfl
theorem kd_162 : sm_kd 162 = 0 := rfl
theorem kd_163 : sm_kd 163 = 0 := rfl
theorem kd_164 : sm_kd 164 = 20 := rfl
theorem kd_165 : sm_kd 165 = 0 := rfl
theorem kd_166 : sm_kd 166 = 0 := rfl
theorem kd_167 : sm_kd 167 = 0 := rfl
theorem kd_168 : sm_kd 168 = 0 := rfl
theorem kd_169 : sm_kd 169 = 22 := rfl
theorem kd_170 : sm_kd 170 = 0 := rfl
theorem kd_171 : sm_kd 171 = 2 := rfl
theorem kd_172 : sm_kd 172 = 0 := rfl
theorem kd_173 : sm_kd 173 = 0 := rfl
theorem kd_174 : sm_kd 174 = 0 := rfl
theorem kd_175 : sm_kd 175 = 0 := rfl
theorem kd_176 : sm_kd 176 = 0 := rfl
theorem kd_177 : sm_kd 177 = 0 := rfl
theorem kd_178 : sm_kd 178 = 0 := rfl
theorem kd_179 : sm_kd 179 = 0 := rfl
theorem kd_180 : sm_kd 180 = 0 := rfl
theorem kd_181 : sm_kd 181 = 0 := rfl
theorem kd_182 : sm_kd 182 = 3 := rfl
theorem kd_183 : sm_kd 183 = 3 := rfl
theorem kd_184 : sm_kd 184 = 0 := rfl
theorem kd_185 : sm_kd 185 = 0 := rfl
theorem kd_186 : sm_kd 186 = 3 := rfl
section HP
variable {h : sm_H} {c c' i i' : Nat} {v : Int32} {u : Int64} {x : Nat}
theorem gi_si : sm_gi (sm_si h c i v) c' i' = if c' = c then (if i' = i then v else sm_gi h c' i') else sm_gi h c' i' := rfl
theorem gi_same : sm_gi (sm_si h c i v) c i = v := by rw [gi_si, if_pos rfl, if_pos rfl]
theorem gi_cell (hc : c' ≠ c) : sm_gi (sm_si h c i v) c' i' = sm_gi h c' i' := by rw [gi_si, if_neg hc]
theorem gi_slot (hi : i' ≠ i) : sm_gi (sm_si h c i v) c' i' = sm_gi h c' i' := by
  rw [gi_si]
  by_cases q : c' = c
  · rw [if_pos q, if_neg hi]
  · rw [if_neg q]
theorem gl_sl : sm_gl (sm_sl h c i u) c' i' = if c' = c then (if i' = i then u else sm_gl h c' i') else sm_gl h c' i' := rfl
theorem gl_same : sm_gl (sm_sl h c i u) c i = u := by rw [gl_sl, if_pos rfl, if_pos rfl]
theorem gl_cell (hc : c' ≠ c) : sm_gl (sm_sl h c i u) c' i' = sm_gl h c' i' := by rw [gl_sl, if_neg hc]
theorem gl_slot (hi : i' ≠ i) : sm_gl (sm_sl h c i u) c' i' = sm_gl h c' i' := by
  rw [gl_sl]
  by_cases q : c' = c
  · rw [if_pos q, if_neg hi]
  · rw [if_neg q]
theorem gi_sl : sm_gi (sm_sl h c i u) c' i' = sm_gi h c' i' := rfl
theorem gl_si : sm_gl (sm_si h c i v) c' i' = sm_gl h c' i' := rfl
theorem gi_sw : sm_gi (sm_sw h x) c' i' = sm_gi h c' i' := rfl
theorem gl_sw : sm_gl (sm_sw h x) c' i' = sm_gl h c' i' := rfl
theorem lw_si : sm_lw (sm_si h c i v) = sm_lw h := rfl
theorem lw_sl : sm_lw (sm_sl h c i u) = sm_lw h := rfl
theorem lw_sw : sm_lw (sm_sw h x) = x := rfl
theorem gi_cp {a sp b dp n : Nat} : sm_gi (sm_cp h a sp b dp n) c' i' = if c' = b then (if dp ≤ i' ∧ i' < dp + n then sm_gi h a (sp + (i' - dp)) else sm_gi h b i') else sm_gi h c' i' := rfl
theorem gl_cp {a sp b dp n : Nat} : sm_gl (sm_cp h a sp b dp n) c' i' = sm_gl h c' i' := rfl
theorem lw_cp {a sp b dp n : Nat} : sm_lw (sm_cp h a sp b dp n) = sm_lw h := rfl
end HP
theorem xc_eq {y : Nat} {as : List Value} {h : sm_H} : xc y as h = xe (sm_rk y as) y 0 (sm_lo (sm_mL y) as) [] h := rfl
theorem bnd {α β : Type} {a : α} {f : α → Option β} : (some a).bind f = f a := rfl
theorem nI_z {n : Nat} (h : n < 2 ^ 31) : (nI n = 0) ↔ n = 0 := by rw [← nI_0, nI_eq h (by decide)]
theorem nI_z' {n : Nat} (h : n < 2 ^ 31) : ((0 : Int32) = nI n) ↔ n = 0 := by rw [← nI_0, nI_eq (by decide) h]; exact eq_comm
theorem nI_o {n : Nat} (h : n < 2 ^ 31) : (nI n = 1) ↔ n = 1 := by rw [show (1 : Int32) = nI 1 from by decide +kernel, nI_eq h (by decide)]
theorem nI_neg {n : Nat} (h : n < 2 ^ 31) : (nI n < 0) ↔ False := iff_false_intro (nI_pos h)
theorem nI_ge0 {n : Nat} (h : n < 2 ^ 31) : (0 ≤ nI n) ↔ True := iff_true_intro (nI_pos' h)
theorem nI_gt0 {n : Nat} (h : n < 2 ^ 31) : (0 < nI n) ↔ 0 < n := by rw [← nI_0, nI_ltI (by decide) h]
theorem nI_le0 {n : Nat} (h : n < 2 ^ 31) : (nI n ≤ 0) ↔ n = 0 := by rw [← nI_0, nI_leI h (by decide)]; omega
theorem nI_m1 {n : Nat} (h : n < 2 ^ 31) : (nI n = -1) ↔ False := iff_false_intro (fun q => by
  have := congrArg Int32.toInt q
  rw [nI_toInt h] at this
  rw [show ((-1 : Int32).toInt) = -1 from by decide +kernel] at this
  omega)
theorem nI_m1' {n : Nat} (h : n < 2 ^ 31) : ((-1 : Int32) = nI n) ↔ False := by rw [eq_comm]; exact nI_m1 h
theorem nI_m1lt {n : Nat} (h : n < 2 ^ 31) : ((-1 : Int32) < nI n) ↔ True := iff_true_intro (by
  rw [Int32.lt_iff_toInt_lt, nI_toInt h, show ((-1 : Int32).toInt) = -1 from by decide +kernel]; omega)
theorem nI_m1le {n : Nat} (h : n < 2 ^ 31) : ((-1 : Int32) ≤ nI n) ↔ True := iff_true_intro (by
  rw [Int32.le_iff_toInt_le, nI_toInt h, show ((-1 : Int32).toInt) = -1 from by decide +kernel]; omega)
theorem nI_lem1 {n : Nat} (h : n < 2 ^ 31) : (nI n ≤ -1) ↔ False := iff_false_intro (fun q => by
  rw [Int32.le_iff_toInt_le, nI_toInt h, show ((-1 : Int32).toInt) = -1 from by decide +kernel] at q; omega)
theorem nI_ltm1 {n : Nat} (h : n < 2 ^ 31) : (nI n < -1) ↔ False := iff_false_intro (fun q => by
  rw [Int32.lt_iff_toInt_lt, nI_toInt h, show ((-1 : Int32).toInt) = -1 from by decide +kernel] at q; omega)
theorem in_nI {a n : Nat} (h : n < 2 ^ 31) : sm_in a (nI n) ↔ n < sm_ln a := by
  unfold sm_in
  rw [nI_clamp h]
  exact ⟨fun q => q.2, fun q => ⟨nI_pos' h, q⟩⟩
theorem ite_z {c : Prop} [Decidable c] : ((if c then nI 1 else nI 0) = 0) ↔ ¬ c := by
  by_cases q : c
  · rw [if_pos q]; exact iff_of_false (by decide +kernel) (fun z => z q)
  · rw [if_neg q]; exact iff_of_true (by decide +kernel) q
theorem ite_z1 {c : Prop} [Decidable c] : ((if c then nI 1 else nI 0) = 0 ∨ (if c then nI 1 else nI 0) = 1) ↔ True := by
  by_cases q : c
  · rw [if_pos q]; exact iff_of_true (Or.inr (by decide +kernel)) trivial
  · rw [if_neg q]; exact iff_of_true (Or.inl (by decide +kernel)) trivial
theorem app1 {v : Value} {l : List Value} : [v] ++ l = v :: l := rfl
