/-! ===== closed facts ===== -/
theorem bp_10 : (Int8.ofInt (10)).toInt32 = (10 : Int32) := by decide +kernel
theorem bp_100 : (Int8.ofInt (100)).toInt32 = (100 : Int32) := by decide +kernel
theorem bp_11 : (Int8.ofInt (11)).toInt32 = (11 : Int32) := by decide +kernel
theorem bp_12 : (Int8.ofInt (12)).toInt32 = (12 : Int32) := by decide +kernel
theorem bp_122 : (Int8.ofInt (122)).toInt32 = (122 : Int32) := by decide +kernel
theorem bp_13 : (Int8.ofInt (13)).toInt32 = (13 : Int32) := by decide +kernel
theorem bp_14 : (Int8.ofInt (14)).toInt32 = (14 : Int32) := by decide +kernel
theorem bp_15 : (Int8.ofInt (15)).toInt32 = (15 : Int32) := by decide +kernel
theorem bp_16 : (Int8.ofInt (16)).toInt32 = (16 : Int32) := by decide +kernel
theorem bp_17 : (Int8.ofInt (17)).toInt32 = (17 : Int32) := by decide +kernel
theorem bp_18 : (Int8.ofInt (18)).toInt32 = (18 : Int32) := by decide +kernel
theorem bp_19 : (Int8.ofInt (19)).toInt32 = (19 : Int32) := by decide +kernel
theorem bp_20 : (Int8.ofInt (20)).toInt32 = (20 : Int32) := by decide +kernel
theorem bp_22 : (Int8.ofInt (22)).toInt32 = (22 : Int32) := by decide +kernel
theorem bp_28 : (Int8.ofInt (28)).toInt32 = (28 : Int32) := by decide +kernel
theorem bp_29 : (Int8.ofInt (29)).toInt32 = (29 : Int32) := by decide +kernel
theorem bp_30 : (Int8.ofInt (30)).toInt32 = (30 : Int32) := by decide +kernel
theorem bp_31 : (Int8.ofInt (31)).toInt32 = (31 : Int32) := by decide +kernel
theorem bp_32 : (Int8.ofInt (32)).toInt32 = (32 : Int32) := by decide +kernel
theorem bp_37 : (Int8.ofInt (37)).toInt32 = (37 : Int32) := by decide +kernel
theorem bp_40 : (Int8.ofInt (40)).toInt32 = (40 : Int32) := by decide +kernel
theorem bp_41 : (Int8.ofInt (41)).toInt32 = (41 : Int32) := by decide +kernel
theorem bp_42 : (Int8.ofInt (42)).toInt32 = (42 : Int32) := by decide +kernel
theorem bp_43 : (Int8.ofInt (43)).toInt32 = (43 : Int32) := by decide +kernel
theorem bp_45 : (Int8.ofInt (45)).toInt32 = (45 : Int32) := by decide +kernel
theorem bp_46 : (Int8.ofInt (46)).toInt32 = (46 : Int32) := by decide +kernel
theorem bp_48 : (Int8.ofInt (48)).toInt32 = (48 : Int32) := by decide +kernel
theorem bp_57 : (Int8.ofInt (57)).toInt32 = (57 : Int32) := by decide +kernel
theorem bp_59 : (Int8.ofInt (59)).toInt32 = (59 : Int32) := by decide +kernel
theorem bp_6 : (Int8.ofInt (6)).toInt32 = (6 : Int32) := by decide +kernel
theorem bp_60 : (Int8.ofInt (60)).toInt32 = (60 : Int32) := by decide +kernel
theorem bp_61 : (Int8.ofInt (61)).toInt32 = (61 : Int32) := by decide +kernel
theorem bp_63 : (Int8.ofInt (63)).toInt32 = (63 : Int32) := by decide +kernel
theorem bp_7 : (Int8.ofInt (7)).toInt32 = (7 : Int32) := by decide +kernel
theorem bp_77 : (Int8.ofInt (77)).toInt32 = (77 : Int32) := by decide +kernel
theorem bp_78 : (Int8.ofInt (78)).toInt32 = (78 : Int32) := by decide +kernel
theorem bp_8 : (Int8.ofInt (8)).toInt32 = (8 : Int32) := by decide +kernel
theorem bp_80 : (Int8.ofInt (80)).toInt32 = (80 : Int32) := by decide +kernel
theorem bp_9 : (Int8.ofInt (9)).toInt32 = (9 : Int32) := by decide +kernel
theorem bp_97 : (Int8.ofInt (97)).toInt32 = (97 : Int32) := by decide +kernel
theorem bp_99 : (Int8.ofInt (99)).toInt32 = (99 : Int32) := by decide +kernel
theorem bp_m100 : (Int8.ofInt (-100)).toInt32 = (-100 : Int32) := by decide +kernel
theorem bp_m11 : (Int8.ofInt (-11)).toInt32 = (-11 : Int32) := by decide +kernel
theorem bp_m12 : (Int8.ofInt (-12)).toInt32 = (-12 : Int32) := by decide +kernel
theorem bp_m13 : (Int8.ofInt (-13)).toInt32 = (-13 : Int32) := by decide +kernel
theorem bp_m14 : (Int8.ofInt (-14)).toInt32 = (-14 : Int32) := by decide +kernel
theorem bp_m2 : (Int8.ofInt (-2)).toInt32 = (-2 : Int32) := by decide +kernel
theorem bp_m3 : (Int8.ofInt (-3)).toInt32 = (-3 : Int32) := by decide +kernel
theorem bp_m4 : (Int8.ofInt (-4)).toInt32 = (-4 : Int32) := by decide +kernel
theorem cc_100_172 : ck_ca 100 8 172 77 3 0 [2, 3] = true := by decide +kernel
theorem cc_101_108 : ck_ca 101 8 108 112 3 1 [0, 1, 7, 8, 9] = true := by decide +kernel
theorem cc_101_307 : ck_ca 101 8 307 100 3 1 [2, 3] = true := by decide +kernel
theorem cc_101_313 : ck_ca 101 8 313 102 2 1 [0, 1, 7, 8, 9] = true := by decide +kernel
theorem cc_101_88 : ck_ca 101 8 88 113 1 1 [0, 1, 7, 8, 9] = true := by decide +kernel
theorem cc_103_316 : ck_ca 103 8 316 1 2 0 [2, 3] = true := by decide +kernel
theorem cc_104_323 : ck_ca 104 8 323 2 2 0 [2, 3] = true := by decide +kernel
theorem cc_106_108 : ck_ca 106 8 108 112 3 1 [0, 1, 7, 8, 9] = true := by decide +kernel
theorem cc_106_251 : ck_ca 106 8 251 115 1 1 [0, 1, 7, 8, 9] = true := by decide +kernel
theorem cc_106_301 : ck_ca 106 8 301 38 3 0 [2, 3] = true := by decide +kernel
theorem cc_107_108 : ck_ca 107 8 108 112 3 1 [0, 1, 7, 8, 9] = true := by decide +kernel
theorem cc_107_251 : ck_ca 107 8 251 115 1 1 [0, 1, 7, 8, 9] = true := by decide +kernel
theorem cc_107_304 : ck_ca 107 8 304 39 3 0 [2, 3] = true := by decide +kernel
theorem cc_108_251 : ck_ca 108 8 251 115 1 1 [0, 1, 7, 8, 9] = true := by decide +kernel
theorem cc_108_326 : ck_ca 108 8 326 40 3 1 [2, 3] = true := by decide +kernel
theorem cc_109_104 : ck_ca 109 8 104 66 4 1 [2, 3] = true := by decide +kernel
theorem cc_109_108 : ck_ca 109 8 108 112 3 1 [0, 1, 7, 8, 9] = true := by decide +kernel
theorem cc_109_251 : ck_ca 109 8 251 115 1 1 [0, 1, 7, 8, 9] = true := by decide +kernel
theorem cc_109_326 : ck_ca 109 8 326 40 3 1 [2, 3] = true := by decide +kernel
theorem cc_110_108 : ck_ca 110 8 108 112 3 1 [0, 1, 7, 8, 9] = true := by decide +kernel
theorem cc_110_135 : ck_ca 110 8 135 116 2 1 [2, 3] = true := by decide +kernel
theorem cc_110_335 : ck_ca 110 8 335 111 2 1 [0, 1, 7, 8, 9] = true := by decide +kernel
theorem cc_113_108 : ck_ca 113 8 108 112 3 1 [0, 1, 7, 8, 9] = true := by decide +kernel
theorem cc_114_108 : ck_ca 114 8 108 112 3 1 [0, 1, 7, 8, 9] = true := by decide +kernel
theorem cc_115_108 : ck_ca 115 8 108 112 3 1 [0, 1, 7, 8, 9] = true := by decide +kernel
theorem cc_116_108 : ck_ca 116 8 108 112 3 1 [0, 1, 7, 8, 9] = true := by decide +kernel
theorem cc_117_108 : ck_ca 117 8 108 112 3 1 [0, 1, 7, 8, 9] = true := by decide +kernel
theorem cc_121_3 : ck_ca 121 9 3 118 3 1 [0, 1, 7, 8, 9] = true := by decide +kernel
theorem cc_122_3 : ck_ca 122 9 3 118 3 1 [0, 1, 7, 8, 9] = true := by decide +kernel
theorem cc_123_3 : ck_ca 123 9 3 118 3 1 [0, 1, 7, 8, 9] = true := by decide +kernel
theorem cc_124_11 : ck_ca 124 9 11 122 1 1 [0, 1, 7, 8, 9] = true := by decide +kernel
theorem cc_124_15 : ck_ca 124 9 15 121 1 1 [0, 1, 7, 8, 9] = true := by decide +kernel
theorem cc_126_15 : ck_ca 126 9 15 121 1 1 [0, 1, 7, 8, 9] = true := by decide +kernel
theorem cc_126_3 : ck_ca 126 9 3 118 3 1 [0, 1, 7, 8, 9] = true := by decide +kernel
theorem cc_126_46 : ck_ca 126 9 46 125 5 0 [2, 3] = true := by decide +kernel
theorem cc_127_3 : ck_ca 127 9 3 118 3 1 [0, 1, 7, 8, 9] = true := by decide +kernel
theorem cc_127_53 : ck_ca 127 9 53 123 2 1 [2, 3] = true := by decide +kernel
theorem cc_128_15 : ck_ca 128 9 15 121 1 1 [0, 1, 7, 8, 9] = true := by decide +kernel
theorem cc_128_3 : ck_ca 128 9 3 118 3 1 [0, 1, 7, 8, 9] = true := by decide +kernel
theorem cc_129_3 : ck_ca 129 9 3 118 3 1 [0, 1, 7, 8, 9] = true := by decide +kernel
theorem cc_129_56 : ck_ca 129 9 56 127 3 1 [2, 3] = true := by decide +kernel
theorem cc_129_60 : ck_ca 129 9 60 128 4 1 [2, 3] = true := by decide +kernel
theorem cc_131_11 : ck_ca 131 9 11 122 1 1 [0, 1, 7, 8, 9] = true := by decide +kernel
theorem cc_131_63 : ck_ca 131 9 63 130 2 1 [2, 3] = true := by decide +kernel
theorem cc_132_3 : ck_ca 132 9 3 118 3 1 [0, 1, 7, 8, 9] = true := by decide +kernel
theorem cc_133_67 : ck_ca 133 9 67 157 8 1 [2, 3] = true := by decide +kernel
theorem cc_134_67 : ck_ca 134 9 67 157 8 1 [2, 3] = true := by decide +kernel
theorem cc_135_11 : ck_ca 135 9 11 122 1 1 [0, 1, 7, 8, 9] = true := by decide +kernel
theorem cc_135_3 : ck_ca 135 9 3 118 3 1 [0, 1, 7, 8, 9] = true := by decide +kernel
theorem cc_135_53 : ck_ca 135 9 53 123 2 1 [2, 3] = true := by decide +kernel
theorem cc_135_71 : ck_ca 135 9 71 132 3 1 [2, 3] = true := by decide +kernel
theorem cc_135_75 : ck_ca 135 9 75 133 5 1 [2, 3] = true := by decide +kernel
theorem cc_135_79 : ck_ca 135 9 79 134 2 1 [2, 3] = true := by decide +kernel
theorem cc_136_3 : ck_ca 136 9 3 118 3 1 [0, 1, 7, 8, 9] = true := by decide +kernel
theorem cc_139_91 : ck_ca 139 9 91 137 2 1 [2, 3] = true := by decide +kernel
theorem cc_140_110 : ck_ca 140 9 110 138 2 1 [2, 3] = true := by decide +kernel
theorem cc_141_110 : ck_ca 141 9 110 138 2 1 [2, 3] = true := by decide +kernel
theorem cc_141_113 : ck_ca 141 9 113 139 1 0 [2, 3] = true := by decide +kernel
theorem cc_141_117 : ck_ca 141 9 117 140 1 0 [2, 3] = true := by decide +kernel
theorem cc_141_91 : ck_ca 141 9 91 137 2 1 [2, 3] = true := by decide +kernel
theorem cc_146_135 : ck_ca 146 9 135 145 1 1 [0, 1, 7, 8, 9] = true := by decide +kernel
theorem cc_146_141 : ck_ca 146 9 141 144 2 0 [2, 3] = true := by decide +kernel
theorem cc_148_135 : ck_ca 148 9 135 145 1 1 [0, 1, 7, 8, 9] = true := by decide +kernel
theorem cc_148_145 : ck_ca 148 9 145 142 2 1 [2, 3] = true := by decide +kernel
theorem cc_148_148 : ck_ca 148 9 148 143 2 1 [2, 3] = true := by decide +kernel
theorem cc_148_158 : ck_ca 148 9 158 146 2 0 [2, 3] = true := by decide +kernel
theorem cc_148_161 : ck_ca 148 9 161 147 2 0 [2, 3] = true := by decide +kernel
theorem cc_149_145 : ck_ca 149 9 145 142 2 1 [2, 3] = true := by decide +kernel
theorem cc_149_158 : ck_ca 149 9 158 146 2 0 [2, 3] = true := by decide +kernel
theorem cc_150_145 : ck_ca 150 9 145 142 2 1 [2, 3] = true := by decide +kernel
theorem cc_150_148 : ck_ca 150 9 148 143 2 1 [2, 3] = true := by decide +kernel
theorem cc_150_161 : ck_ca 150 9 161 147 2 0 [2, 3] = true := by decide +kernel
theorem cc_151_141 : ck_ca 151 9 141 144 2 0 [2, 3] = true := by decide +kernel
theorem cc_151_145 : ck_ca 151 9 145 142 2 1 [2, 3] = true := by decide +kernel
theorem cc_151_148 : ck_ca 151 9 148 143 2 1 [2, 3] = true := by decide +kernel
theorem cc_151_158 : ck_ca 151 9 158 146 2 0 [2, 3] = true := by decide +kernel
theorem cc_151_164 : ck_ca 151 9 164 150 2 1 [2, 3] = true := by decide +kernel
theorem cc_151_171 : ck_ca 151 9 171 148 1 1 [2, 3] = true := by decide +kernel
theorem cc_151_175 : ck_ca 151 9 175 149 1 1 [2, 3] = true := by decide +kernel
theorem cc_151_178 : ck_ca 151 9 178 141 1 0 [2, 3] = true := by decide +kernel
theorem cc_152_148 : ck_ca 152 9 148 143 2 1 [2, 3] = true := by decide +kernel
theorem cc_152_178 : ck_ca 152 9 178 141 1 0 [2, 3] = true := by decide +kernel
theorem cc_152_181 : ck_ca 152 9 181 151 2 1 [2, 3] = true := by decide +kernel
theorem cc_153_187 : ck_ca 153 9 187 152 2 1 [2, 3] = true := by decide +kernel
theorem cc_154_3 : ck_ca 154 9 3 118 3 1 [0, 1, 7, 8, 9] = true := by decide +kernel
theorem cc_157_225 : ck_ca 157 9 225 156 3 1 [0, 1, 7, 8, 9] = true := by decide +kernel
theorem cc_157_229 : ck_ca 157 9 229 119 2 1 [0, 1, 7, 8, 9] = true := by decide +kernel
theorem cc_157_232 : ck_ca 157 9 232 120 2 1 [0, 1, 7, 8, 9] = true := by decide +kernel
theorem cc_158_229 : ck_ca 158 9 229 119 2 1 [0, 1, 7, 8, 9] = true := by decide +kernel
theorem cc_158_63 : ck_ca 158 9 63 130 2 1 [2, 3] = true := by decide +kernel
theorem cc_158_71 : ck_ca 158 9 71 132 3 1 [2, 3] = true := by decide +kernel
theorem cc_158_75 : ck_ca 158 9 75 133 5 1 [2, 3] = true := by decide +kernel
theorem cc_160_11 : ck_ca 160 9 11 122 1 1 [0, 1, 7, 8, 9] = true := by decide +kernel
theorem cc_160_15 : ck_ca 160 9 15 121 1 1 [0, 1, 7, 8, 9] = true := by decide +kernel
theorem cc_160_251 : ck_ca 160 9 251 159 1 1 [2, 3] = true := by decide +kernel
theorem cc_160_255 : ck_ca 160 9 255 158 4 0 [2, 3] = true := by decide +kernel
theorem cc_160_3 : ck_ca 160 9 3 118 3 1 [0, 1, 7, 8, 9] = true := by decide +kernel
theorem cc_161_255 : ck_ca 161 9 255 158 4 0 [2, 3] = true := by decide +kernel
theorem cc_162_15 : ck_ca 162 9 15 121 1 1 [0, 1, 7, 8, 9] = true := by decide +kernel
theorem cc_162_229 : ck_ca 162 9 229 119 2 1 [0, 1, 7, 8, 9] = true := by decide +kernel
theorem cc_162_232 : ck_ca 162 9 232 120 2 1 [0, 1, 7, 8, 9] = true := by decide +kernel
theorem cc_162_251 : ck_ca 162 9 251 159 1 1 [2, 3] = true := by decide +kernel
theorem cc_162_255 : ck_ca 162 9 255 158 4 0 [2, 3] = true := by decide +kernel
theorem cc_162_3 : ck_ca 162 9 3 118 3 1 [0, 1, 7, 8, 9] = true := by decide +kernel
theorem cc_162_67 : ck_ca 162 9 67 157 8 1 [2, 3] = true := by decide +kernel
theorem cc_163_79 : ck_ca 163 9 79 134 2 1 [2, 3] = true := by decide +kernel
theorem cc_164_15 : ck_ca 164 9 15 121 1 1 [0, 1, 7, 8, 9] = true := by decide +kernel
theorem cc_164_251 : ck_ca 164 9 251 159 1 1 [2, 3] = true := by decide +kernel
theorem cc_164_259 : ck_ca 164 9 259 161 3 1 [2, 3] = true := by decide +kernel
theorem cc_164_262 : ck_ca 164 9 262 163 2 1 [2, 3] = true := by decide +kernel
theorem cc_164_3 : ck_ca 164 9 3 118 3 1 [0, 1, 7, 8, 9] = true := by decide +kernel
theorem cc_165_11 : ck_ca 165 9 11 122 1 1 [0, 1, 7, 8, 9] = true := by decide +kernel
theorem cc_165_15 : ck_ca 165 9 15 121 1 1 [0, 1, 7, 8, 9] = true := by decide +kernel
theorem cc_165_232 : ck_ca 165 9 232 120 2 1 [0, 1, 7, 8, 9] = true := by decide +kernel
theorem cc_165_251 : ck_ca 165 9 251 159 1 1 [2, 3] = true := by decide +kernel
theorem cc_165_259 : ck_ca 165 9 259 161 3 1 [2, 3] = true := by decide +kernel
theorem cc_165_3 : ck_ca 165 9 3 118 3 1 [0, 1, 7, 8, 9] = true := by decide +kernel
theorem cc_165_46 : ck_ca 165 9 46 125 5 0 [2, 3] = true := by decide +kernel
theorem cc_166_15 : ck_ca 166 9 15 121 1 1 [0, 1, 7, 8, 9] = true := by decide +kernel
theorem cc_166_251 : ck_ca 166 9 251 159 1 1 [2, 3] = true := by decide +kernel
theorem cc_166_259 : ck_ca 166 9 259 161 3 1 [2, 3] = true := by decide +kernel
theorem cc_167_251 : ck_ca 167 9 251 159 1 1 [2, 3] = true := by decide +kernel
theorem cc_167_255 : ck_ca 167 9 255 158 4 0 [2, 3] = true := by decide +kernel
theorem cc_168_15 : ck_ca 168 9 15 121 1 1 [0, 1, 7, 8, 9] = true := by decide +kernel
theorem cc_168_274 : ck_ca 168 9 274 178 1 1 [0, 1, 7, 8, 9] = true := by decide +kernel
theorem cc_168_277 : ck_ca 168 9 277 167 2 0 [2, 3] = true := by decide +kernel
theorem cc_168_3 : ck_ca 168 9 3 118 3 1 [0, 1, 7, 8, 9] = true := by decide +kernel
theorem cc_168_53 : ck_ca 168 9 53 123 2 1 [2, 3] = true := by decide +kernel
theorem cc_169_11 : ck_ca 169 9 11 122 1 1 [0, 1, 7, 8, 9] = true := by decide +kernel
theorem cc_169_15 : ck_ca 169 9 15 121 1 1 [0, 1, 7, 8, 9] = true := by decide +kernel
theorem cc_169_229 : ck_ca 169 9 229 119 2 1 [0, 1, 7, 8, 9] = true := by decide +kernel
theorem cc_169_251 : ck_ca 169 9 251 159 1 1 [2, 3] = true := by decide +kernel
theorem cc_169_255 : ck_ca 169 9 255 158 4 0 [2, 3] = true := by decide +kernel
theorem cc_169_274 : ck_ca 169 9 274 178 1 1 [0, 1, 7, 8, 9] = true := by decide +kernel
theorem cc_169_280 : ck_ca 169 9 280 179 4 1 [2, 3] = true := by decide +kernel
theorem cc_16_54 : ck_ca 16 2 54 9 2 1 [2, 3] = true := by decide +kernel
theorem cc_170_251 : ck_ca 170 9 251 159 1 1 [2, 3] = true := by decide +kernel
theorem cc_170_255 : ck_ca 170 9 255 158 4 0 [2, 3] = true := by decide +kernel
theorem cc_171_15 : ck_ca 171 9 15 121 1 1 [0, 1, 7, 8, 9] = true := by decide +kernel
theorem cc_171_284 : ck_ca 171 9 284 170 3 1 [2, 3] = true := by decide +kernel
theorem cc_173_15 : ck_ca 173 9 15 121 1 1 [0, 1, 7, 8, 9] = true := by decide +kernel
theorem cc_173_284 : ck_ca 173 9 284 170 3 1 [2, 3] = true := by decide +kernel
theorem cc_173_289 : ck_ca 173 9 289 172 2 2 [0, 1, 7, 8, 9] = true := by decide +kernel
theorem cc_173_3 : ck_ca 173 9 3 118 3 1 [0, 1, 7, 8, 9] = true := by decide +kernel
theorem cc_175_296 : ck_ca 175 9 296 174 4 0 [0, 1, 7, 8, 9] = true := by decide +kernel
theorem cc_176_296 : ck_ca 176 9 296 174 4 0 [0, 1, 7, 8, 9] = true := by decide +kernel
theorem cc_178_3 : ck_ca 178 9 3 118 3 1 [0, 1, 7, 8, 9] = true := by decide +kernel
theorem cc_179_274 : ck_ca 179 9 274 178 1 1 [0, 1, 7, 8, 9] = true := by decide +kernel
theorem cc_179_3 : ck_ca 179 9 3 118 3 1 [0, 1, 7, 8, 9] = true := by decide +kernel
theorem cc_180_274 : ck_ca 180 9 274 178 1 1 [0, 1, 7, 8, 9] = true := by decide +kernel
theorem cc_180_3 : ck_ca 180 9 3 118 3 1 [0, 1, 7, 8, 9] = true := by decide +kernel
theorem cc_181_274 : ck_ca 181 9 274 178 1 1 [0, 1, 7, 8, 9] = true := by decide +kernel
theorem cc_182_274 : ck_ca 182 9 274 178 1 1 [0, 1, 7, 8, 9] = true := by decide +kernel
theorem cc_182_3 : ck_ca 182 9 3 118 3 1 [0, 1, 7, 8, 9] = true := by decide +kernel
theorem cc_182_304 : ck_ca 182 9 304 126 4 1 [2, 3] = true := by decide +kernel
theorem cc_183_3 : ck_ca 183 9 3 118 3 1 [0, 1, 7, 8, 9] = true := by decide +kernel
theorem cc_183_53 : ck_ca 183 9 53 123 2 1 [2, 3] = true := by decide +kernel
theorem cc_185_335 : ck_ca 185 13 335 187 1 1 [2, 3] = true := by decide +kernel
theorem cc_186_492 : ck_ca 186 13 492 188 1 1 [2, 3] = true := by decide +kernel
theorem cc_186_495 : ck_ca 186 13 495 190 2 1 [0, 1, 7, 8, 9] = true := by decide +kernel
theorem cc_189_1059 : ck_ca 189 13 1059 191 3 1 [0, 1, 7, 8, 9] = true := by decide +kernel
theorem cc_18_61 : ck_ca 18 2 61 17 2 0 [2, 3] = true := by decide +kernel
theorem cc_18_68 : ck_ca 18 2 68 16 2 0 [2, 3] = true := by decide +kernel
theorem cc_190_9 : ck_ca 190 14 9 189 2 0 [0, 1, 7, 8, 9] = true := by decide +kernel
theorem cc_192_101 : ck_ca 192 10 101 177 2 1 [2, 3] = true := by decide +kernel
theorem cc_192_102 : ck_ca 192 10 102 106 4 1 [2, 3] = true := by decide +kernel
theorem cc_192_105 : ck_ca 192 10 105 179 4 1 [2, 3] = true := by decide +kernel
theorem cc_192_106 : ck_ca 192 10 106 107 4 1 [2, 3] = true := by decide +kernel
theorem cc_192_109 : ck_ca 192 10 109 180 4 1 [2, 3] = true := by decide +kernel
theorem cc_192_110 : ck_ca 192 10 110 108 6 1 [2, 3] = true := by decide +kernel
theorem cc_192_114 : ck_ca 192 10 114 181 6 1 [2, 3] = true := by decide +kernel
theorem cc_192_115 : ck_ca 192 10 115 109 5 1 [2, 3] = true := by decide +kernel
theorem cc_192_119 : ck_ca 192 10 119 182 5 1 [2, 3] = true := by decide +kernel
theorem cc_192_120 : ck_ca 192 10 120 110 3 1 [2, 3] = true := by decide +kernel
theorem cc_192_123 : ck_ca 192 10 123 183 3 1 [2, 3] = true := by decide +kernel
theorem cc_192_13 : ck_ca 192 10 13 64 3 1 [2, 3] = true := by decide +kernel
theorem cc_192_17 : ck_ca 192 10 17 124 3 1 [2, 3] = true := by decide +kernel
theorem cc_192_18 : ck_ca 192 10 18 65 4 1 [2, 3] = true := by decide +kernel
theorem cc_192_22 : ck_ca 192 10 22 126 4 1 [2, 3] = true := by decide +kernel
theorem cc_192_23 : ck_ca 192 10 23 67 4 1 [2, 3] = true := by decide +kernel
theorem cc_192_26 : ck_ca 192 10 26 129 4 1 [2, 3] = true := by decide +kernel
theorem cc_192_27 : ck_ca 192 10 27 69 3 1 [2, 3] = true := by decide +kernel
theorem cc_192_30 : ck_ca 192 10 30 127 3 1 [2, 3] = true := by decide +kernel
theorem cc_192_31 : ck_ca 192 10 31 70 2 1 [2, 3] = true := by decide +kernel
theorem cc_192_35 : ck_ca 192 10 35 131 2 1 [2, 3] = true := by decide +kernel
theorem cc_192_36 : ck_ca 192 10 36 71 4 1 [2, 3] = true := by decide +kernel
theorem cc_192_39 : ck_ca 192 10 39 135 4 1 [2, 3] = true := by decide +kernel
theorem cc_192_40 : ck_ca 192 10 40 72 2 1 [2, 3] = true := by decide +kernel
theorem cc_192_43 : ck_ca 192 10 43 136 2 1 [2, 3] = true := by decide +kernel
theorem cc_192_44 : ck_ca 192 10 44 73 1 1 [2, 3] = true := by decide +kernel
theorem cc_192_48 : ck_ca 192 10 48 153 1 1 [2, 3] = true := by decide +kernel
theorem cc_192_49 : ck_ca 192 10 49 74 2 1 [2, 3] = true := by decide +kernel
theorem cc_192_52 : ck_ca 192 10 52 154 2 1 [2, 3] = true := by decide +kernel
theorem cc_192_53 : ck_ca 192 10 53 75 4 1 [2, 3] = true := by decide +kernel
theorem cc_192_56 : ck_ca 192 10 56 160 4 1 [2, 3] = true := by decide +kernel
theorem cc_192_57 : ck_ca 192 10 57 76 3 1 [2, 3] = true := by decide +kernel
theorem cc_192_60 : ck_ca 192 10 60 162 3 1 [2, 3] = true := by decide +kernel
theorem cc_192_61 : ck_ca 192 10 61 84 3 1 [2, 3] = true := by decide +kernel
theorem cc_192_64 : ck_ca 192 10 64 164 3 1 [2, 3] = true := by decide +kernel
theorem cc_192_65 : ck_ca 192 10 65 88 4 1 [2, 3] = true := by decide +kernel
theorem cc_192_68 : ck_ca 192 10 68 165 4 1 [2, 3] = true := by decide +kernel
theorem cc_192_69 : ck_ca 192 10 69 90 2 1 [2, 3] = true := by decide +kernel
theorem cc_192_72 : ck_ca 192 10 72 166 2 1 [2, 3] = true := by decide +kernel
theorem cc_192_73 : ck_ca 192 10 73 91 3 1 [2, 3] = true := by decide +kernel
theorem cc_192_76 : ck_ca 192 10 76 168 3 1 [2, 3] = true := by decide +kernel
theorem cc_192_77 : ck_ca 192 10 77 98 4 1 [2, 3] = true := by decide +kernel
theorem cc_192_80 : ck_ca 192 10 80 169 4 1 [2, 3] = true := by decide +kernel
theorem cc_192_81 : ck_ca 192 10 81 99 3 1 [2, 3] = true := by decide +kernel
theorem cc_192_84 : ck_ca 192 10 84 171 3 1 [2, 3] = true := by decide +kernel
theorem cc_192_85 : ck_ca 192 10 85 101 6 2 [2, 3] = true := by decide +kernel
theorem cc_192_89 : ck_ca 192 10 89 173 6 2 [2, 3] = true := by decide +kernel
theorem cc_192_90 : ck_ca 192 10 90 103 1 1 [2, 3] = true := by decide +kernel
theorem cc_192_93 : ck_ca 192 10 93 175 1 1 [2, 3] = true := by decide +kernel
theorem cc_192_94 : ck_ca 192 10 94 104 1 1 [2, 3] = true := by decide +kernel
theorem cc_192_97 : ck_ca 192 10 97 176 1 1 [2, 3] = true := by decide +kernel
theorem cc_192_98 : ck_ca 192 10 98 105 2 1 [2, 3] = true := by decide +kernel
theorem cc_1_57 : ck_ca 1 0 57 5 2 0 [2, 3] = true := by decide +kernel
theorem cc_20_71 : ck_ca 20 2 71 184 1 1 [0, 1, 7, 8, 9] = true := by decide +kernel
theorem cc_21_80 : ck_ca 21 2 80 24 7 0 [2, 3] = true := by decide +kernel
theorem cc_21_87 : ck_ca 21 2 87 55 3 1 [2, 3] = true := by decide +kernel
theorem cc_21_91 : ck_ca 21 2 91 25 3 1 [0, 1, 7, 8, 9] = true := by decide +kernel
theorem cc_21_95 : ck_ca 21 2 95 11 2 1 [2, 3] = true := by decide +kernel
theorem cc_22_80 : ck_ca 22 2 80 24 7 0 [2, 3] = true := by decide +kernel
theorem cc_22_87 : ck_ca 22 2 87 55 3 1 [2, 3] = true := by decide +kernel
theorem cc_22_91 : ck_ca 22 2 91 25 3 1 [0, 1, 7, 8, 9] = true := by decide +kernel
theorem cc_23_80 : ck_ca 23 2 80 24 7 0 [2, 3] = true := by decide +kernel
theorem cc_23_87 : ck_ca 23 2 87 55 3 1 [2, 3] = true := by decide +kernel
theorem cc_23_91 : ck_ca 23 2 91 25 3 1 [0, 1, 7, 8, 9] = true := by decide +kernel
theorem cc_26_104 : ck_ca 26 2 104 22 2 1 [2, 3] = true := by decide +kernel
theorem cc_2_57 : ck_ca 2 0 57 5 2 0 [2, 3] = true := by decide +kernel
theorem cc_2_61 : ck_ca 2 0 61 13 1 0 [2, 3] = true := by decide +kernel
theorem cc_2_64 : ck_ca 2 0 64 17 2 0 [2, 3] = true := by decide +kernel
theorem cc_2_68 : ck_ca 2 0 68 16 2 0 [2, 3] = true := by decide +kernel
theorem cc_30_19 : ck_ca 30 3 19 52 1 0 [2, 3] = true := by decide +kernel
theorem cc_30_24 : ck_ca 30 3 24 44 1 0 [2, 3] = true := by decide +kernel
theorem cc_30_36 : ck_ca 30 3 36 45 1 0 [2, 3] = true := by decide +kernel
theorem cc_30_39 : ck_ca 30 3 39 31 2 1 [2, 3] = true := by decide +kernel
theorem cc_30_43 : ck_ca 30 3 43 54 2 0 [2, 3] = true := by decide +kernel
theorem cc_31_36 : ck_ca 31 3 36 45 1 0 [2, 3] = true := by decide +kernel
theorem cc_31_47 : ck_ca 31 3 47 32 2 1 [2, 3] = true := by decide +kernel
theorem cc_31_50 : ck_ca 31 3 50 53 2 0 [2, 3] = true := by decide +kernel
theorem cc_32_36 : ck_ca 32 3 36 45 1 0 [2, 3] = true := by decide +kernel
theorem cc_32_50 : ck_ca 32 3 50 53 2 0 [2, 3] = true := by decide +kernel
theorem cc_32_53 : ck_ca 32 3 53 33 2 1 [2, 3] = true := by decide +kernel
theorem cc_33_36 : ck_ca 33 3 36 45 1 0 [2, 3] = true := by decide +kernel
theorem cc_33_50 : ck_ca 33 3 50 53 2 0 [2, 3] = true := by decide +kernel
theorem cc_33_53 : ck_ca 33 3 53 33 2 1 [2, 3] = true := by decide +kernel
theorem cc_33_56 : ck_ca 33 3 56 34 2 1 [2, 3] = true := by decide +kernel
theorem cc_34_36 : ck_ca 34 3 36 45 1 0 [2, 3] = true := by decide +kernel
theorem cc_34_50 : ck_ca 34 3 50 53 2 0 [2, 3] = true := by decide +kernel
theorem cc_34_59 : ck_ca 34 3 59 35 2 1 [2, 3] = true := by decide +kernel
theorem cc_35_36 : ck_ca 35 3 36 45 1 0 [2, 3] = true := by decide +kernel
theorem cc_35_50 : ck_ca 35 3 50 53 2 0 [2, 3] = true := by decide +kernel
theorem cc_35_62 : ck_ca 35 3 62 36 2 1 [2, 3] = true := by decide +kernel
theorem cc_36_36 : ck_ca 36 3 36 45 1 0 [2, 3] = true := by decide +kernel
theorem cc_36_39 : ck_ca 36 3 39 31 2 1 [2, 3] = true := by decide +kernel
theorem cc_36_50 : ck_ca 36 3 50 53 2 0 [2, 3] = true := by decide +kernel
theorem cc_36_62 : ck_ca 36 3 62 36 2 1 [2, 3] = true := by decide +kernel
theorem cc_41_22 : ck_ca 41 4 22 113 1 1 [0, 1, 7, 8, 9] = true := by decide +kernel
theorem cc_41_26 : ck_ca 41 4 26 112 3 1 [0, 1, 7, 8, 9] = true := by decide +kernel
theorem cc_44_22 : ck_ca 44 5 22 45 1 0 [2, 3] = true := by decide +kernel
theorem cc_45_31 : ck_ca 45 5 31 112 3 1 [0, 1, 7, 8, 9] = true := by decide +kernel
theorem cc_45_35 : ck_ca 45 5 35 46 1 0 [2, 3] = true := by decide +kernel
theorem cc_45_38 : ck_ca 45 5 38 47 1 0 [2, 3] = true := by decide +kernel
theorem cc_45_41 : ck_ca 45 5 41 49 1 1 [0, 1, 7, 8, 9] = true := by decide +kernel
theorem cc_46_31 : ck_ca 46 5 31 112 3 1 [0, 1, 7, 8, 9] = true := by decide +kernel
theorem cc_46_45 : ck_ca 46 5 45 50 1 3 [0, 1, 7, 8, 9] = true := by decide +kernel
theorem cc_46_49 : ck_ca 46 5 49 48 2 1 [2, 3] = true := by decide +kernel
theorem cc_47_31 : ck_ca 47 5 31 112 3 1 [0, 1, 7, 8, 9] = true := by decide +kernel
theorem cc_48_56 : ck_ca 48 5 56 185 1 1 [2, 3] = true := by decide +kernel
theorem cc_48_62 : ck_ca 48 5 62 186 2 1 [2, 3] = true := by decide +kernel
theorem cc_57_41 : ck_ca 57 7 41 14 2 1 [2, 3] = true := by decide +kernel
theorem cc_57_50 : ck_ca 57 7 50 58 3 0 [2, 3] = true := by decide +kernel
theorem cc_58_41 : ck_ca 58 7 41 14 2 1 [2, 3] = true := by decide +kernel
theorem cc_58_54 : ck_ca 58 7 54 19 4 1 [2, 3] = true := by decide +kernel
theorem cc_58_58 : ck_ca 58 7 58 20 4 1 [2, 3] = true := by decide +kernel
theorem cc_58_61 : ck_ca 58 7 61 60 1 1 [2, 3] = true := by decide +kernel
theorem cc_58_65 : ck_ca 58 7 65 21 5 1 [2, 3] = true := by decide +kernel
theorem cc_58_78 : ck_ca 58 7 78 59 1 0 [2, 3] = true := by decide +kernel
theorem cc_5_30 : ck_ca 5 1 30 4 7 0 [2, 3] = true := by decide +kernel
theorem cc_61_81 : ck_ca 61 7 81 112 3 1 [0, 1, 7, 8, 9] = true := by decide +kernel
theorem cc_64_101 : ck_ca 64 8 101 13 1 0 [2, 3] = true := by decide +kernel
theorem cc_64_84 : ck_ca 64 8 84 114 1 1 [0, 1, 7, 8, 9] = true := by decide +kernel
theorem cc_64_88 : ck_ca 64 8 88 113 1 1 [0, 1, 7, 8, 9] = true := by decide +kernel
theorem cc_65_104 : ck_ca 65 8 104 66 4 1 [2, 3] = true := by decide +kernel
theorem cc_66_108 : ck_ca 66 8 108 112 3 1 [0, 1, 7, 8, 9] = true := by decide +kernel
theorem cc_66_119 : ck_ca 66 8 119 4 7 0 [2, 3] = true := by decide +kernel
theorem cc_66_125 : ck_ca 66 8 125 16 2 0 [2, 3] = true := by decide +kernel
theorem cc_66_84 : ck_ca 66 8 84 114 1 1 [0, 1, 7, 8, 9] = true := by decide +kernel
theorem cc_66_88 : ck_ca 66 8 88 113 1 1 [0, 1, 7, 8, 9] = true := by decide +kernel
theorem cc_67_108 : ck_ca 67 8 108 112 3 1 [0, 1, 7, 8, 9] = true := by decide +kernel
theorem cc_67_125 : ck_ca 67 8 125 16 2 0 [2, 3] = true := by decide +kernel
theorem cc_67_131 : ck_ca 67 8 131 68 3 1 [2, 3] = true := by decide +kernel
theorem cc_67_135 : ck_ca 67 8 135 116 2 1 [2, 3] = true := by decide +kernel
theorem cc_67_138 : ck_ca 67 8 138 7 3 1 [2, 3] = true := by decide +kernel
theorem cc_67_142 : ck_ca 67 8 142 6 2 1 [2, 3] = true := by decide +kernel
theorem cc_67_146 : ck_ca 67 8 146 17 2 0 [2, 3] = true := by decide +kernel
theorem cc_67_149 : ck_ca 67 8 149 8 3 0 [2, 3] = true := by decide +kernel
theorem cc_68_101 : ck_ca 68 8 101 13 1 0 [2, 3] = true := by decide +kernel
theorem cc_68_153 : ck_ca 68 8 153 117 2 1 [2, 3] = true := by decide +kernel
theorem cc_68_88 : ck_ca 68 8 88 113 1 1 [0, 1, 7, 8, 9] = true := by decide +kernel
theorem cc_69_108 : ck_ca 69 8 108 112 3 1 [0, 1, 7, 8, 9] = true := by decide +kernel
theorem cc_69_135 : ck_ca 69 8 135 116 2 1 [2, 3] = true := by decide +kernel
theorem cc_69_142 : ck_ca 69 8 142 6 2 1 [2, 3] = true := by decide +kernel
theorem cc_69_153 : ck_ca 69 8 153 117 2 1 [2, 3] = true := by decide +kernel
theorem cc_70_156 : ck_ca 70 8 156 14 2 1 [2, 3] = true := by decide +kernel
theorem cc_70_84 : ck_ca 70 8 84 114 1 1 [0, 1, 7, 8, 9] = true := by decide +kernel
theorem cc_71_108 : ck_ca 71 8 108 112 3 1 [0, 1, 7, 8, 9] = true := by decide +kernel
theorem cc_71_135 : ck_ca 71 8 135 116 2 1 [2, 3] = true := by decide +kernel
theorem cc_71_159 : ck_ca 71 8 159 22 2 1 [2, 3] = true := by decide +kernel
theorem cc_71_162 : ck_ca 71 8 162 9 2 1 [2, 3] = true := by decide +kernel
theorem cc_71_165 : ck_ca 71 8 165 21 5 1 [2, 3] = true := by decide +kernel
theorem cc_71_84 : ck_ca 71 8 84 114 1 1 [0, 1, 7, 8, 9] = true := by decide +kernel
theorem cc_72_108 : ck_ca 72 8 108 112 3 1 [0, 1, 7, 8, 9] = true := by decide +kernel
theorem cc_72_65 : ck_ca 72 8 65 43 2 0 [2, 3] = true := by decide +kernel
theorem cc_73_73 : ck_ca 73 8 73 30 2 1 [2, 3] = true := by decide +kernel
theorem cc_74_108 : ck_ca 74 8 108 112 3 1 [0, 1, 7, 8, 9] = true := by decide +kernel
theorem cc_75_108 : ck_ca 75 8 108 112 3 1 [0, 1, 7, 8, 9] = true := by decide +kernel
theorem cc_75_172 : ck_ca 75 8 172 77 3 0 [2, 3] = true := by decide +kernel
theorem cc_75_187 : ck_ca 75 8 187 60 1 1 [2, 3] = true := by decide +kernel
theorem cc_75_190 : ck_ca 75 8 190 61 2 1 [2, 3] = true := by decide +kernel
theorem cc_75_84 : ck_ca 75 8 84 114 1 1 [0, 1, 7, 8, 9] = true := by decide +kernel
theorem cc_75_88 : ck_ca 75 8 88 113 1 1 [0, 1, 7, 8, 9] = true := by decide +kernel
theorem cc_76_193 : ck_ca 76 8 193 15 1 1 [2, 3] = true := by decide +kernel
theorem cc_76_196 : ck_ca 76 8 196 78 3 1 [2, 3] = true := by decide +kernel
theorem cc_76_199 : ck_ca 76 8 199 79 2 1 [2, 3] = true := by decide +kernel
theorem cc_76_202 : ck_ca 76 8 202 80 2 1 [2, 3] = true := by decide +kernel
theorem cc_76_205 : ck_ca 76 8 205 81 2 1 [2, 3] = true := by decide +kernel
theorem cc_76_208 : ck_ca 76 8 208 82 2 1 [2, 3] = true := by decide +kernel
theorem cc_76_211 : ck_ca 76 8 211 83 2 1 [2, 3] = true := by decide +kernel
theorem cc_76_88 : ck_ca 76 8 88 113 1 1 [0, 1, 7, 8, 9] = true := by decide +kernel
theorem cc_77_193 : ck_ca 77 8 193 15 1 1 [2, 3] = true := by decide +kernel
theorem cc_77_214 : ck_ca 77 8 214 57 5 0 [2, 3] = true := by decide +kernel
theorem cc_78_214 : ck_ca 78 8 214 57 5 0 [2, 3] = true := by decide +kernel
theorem cc_79_172 : ck_ca 79 8 172 77 3 0 [2, 3] = true := by decide +kernel
theorem cc_7_34 : ck_ca 7 1 34 112 3 1 [0, 1, 7, 8, 9] = true := by decide +kernel
theorem cc_7_38 : ck_ca 7 1 38 113 1 1 [0, 1, 7, 8, 9] = true := by decide +kernel
theorem cc_80_172 : ck_ca 80 8 172 77 3 0 [2, 3] = true := by decide +kernel
theorem cc_80_187 : ck_ca 80 8 187 60 1 1 [2, 3] = true := by decide +kernel
theorem cc_80_218 : ck_ca 80 8 218 23 5 1 [2, 3] = true := by decide +kernel
theorem cc_81_172 : ck_ca 81 8 172 77 3 0 [2, 3] = true := by decide +kernel
theorem cc_81_187 : ck_ca 81 8 187 60 1 1 [2, 3] = true := by decide +kernel
theorem cc_82_172 : ck_ca 82 8 172 77 3 0 [2, 3] = true := by decide +kernel
theorem cc_83_172 : ck_ca 83 8 172 77 3 0 [2, 3] = true := by decide +kernel
theorem cc_84_108 : ck_ca 84 8 108 112 3 1 [0, 1, 7, 8, 9] = true := by decide +kernel
theorem cc_84_193 : ck_ca 84 8 193 15 1 1 [2, 3] = true := by decide +kernel
theorem cc_84_196 : ck_ca 84 8 196 78 3 1 [2, 3] = true := by decide +kernel
theorem cc_84_233 : ck_ca 84 8 233 85 3 1 [2, 3] = true := by decide +kernel
theorem cc_84_236 : ck_ca 84 8 236 86 3 1 [2, 3] = true := by decide +kernel
theorem cc_84_239 : ck_ca 84 8 239 27 2 1 [2, 3] = true := by decide +kernel
theorem cc_84_88 : ck_ca 84 8 88 113 1 1 [0, 1, 7, 8, 9] = true := by decide +kernel
theorem cc_85_193 : ck_ca 85 8 193 15 1 1 [2, 3] = true := by decide +kernel
theorem cc_85_242 : ck_ca 85 8 242 87 4 1 [2, 3] = true := by decide +kernel
theorem cc_86_193 : ck_ca 86 8 193 15 1 1 [2, 3] = true := by decide +kernel
theorem cc_86_239 : ck_ca 86 8 239 27 2 1 [2, 3] = true := by decide +kernel
theorem cc_86_242 : ck_ca 86 8 242 87 4 1 [2, 3] = true := by decide +kernel
theorem cc_86_245 : ck_ca 86 8 245 26 1 0 [2, 3] = true := by decide +kernel
theorem cc_87_214 : ck_ca 87 8 214 57 5 0 [2, 3] = true := by decide +kernel
theorem cc_88_108 : ck_ca 88 8 108 112 3 1 [0, 1, 7, 8, 9] = true := by decide +kernel
theorem cc_88_193 : ck_ca 88 8 193 15 1 1 [2, 3] = true := by decide +kernel
theorem cc_88_196 : ck_ca 88 8 196 78 3 1 [2, 3] = true := by decide +kernel
theorem cc_88_248 : ck_ca 88 8 248 89 5 1 [2, 3] = true := by decide +kernel
theorem cc_88_84 : ck_ca 88 8 84 114 1 1 [0, 1, 7, 8, 9] = true := by decide +kernel
theorem cc_88_88 : ck_ca 88 8 88 113 1 1 [0, 1, 7, 8, 9] = true := by decide +kernel
theorem cc_89_119 : ck_ca 89 8 119 4 7 0 [2, 3] = true := by decide +kernel
theorem cc_89_125 : ck_ca 89 8 125 16 2 0 [2, 3] = true := by decide +kernel
theorem cc_89_146 : ck_ca 89 8 146 17 2 0 [2, 3] = true := by decide +kernel
theorem cc_89_193 : ck_ca 89 8 193 15 1 1 [2, 3] = true := by decide +kernel
theorem cc_89_196 : ck_ca 89 8 196 78 3 1 [2, 3] = true := by decide +kernel
theorem cc_90_193 : ck_ca 90 8 193 15 1 1 [2, 3] = true := by decide +kernel
theorem cc_90_196 : ck_ca 90 8 196 78 3 1 [2, 3] = true := by decide +kernel
theorem cc_90_242 : ck_ca 90 8 242 87 4 1 [2, 3] = true := by decide +kernel
theorem cc_90_88 : ck_ca 90 8 88 113 1 1 [0, 1, 7, 8, 9] = true := by decide +kernel
theorem cc_91_108 : ck_ca 91 8 108 112 3 1 [0, 1, 7, 8, 9] = true := by decide +kernel
theorem cc_91_135 : ck_ca 91 8 135 116 2 1 [2, 3] = true := by decide +kernel
theorem cc_91_251 : ck_ca 91 8 251 115 1 1 [0, 1, 7, 8, 9] = true := by decide +kernel
theorem cc_91_257 : ck_ca 91 8 257 41 1 1 [2, 3] = true := by decide +kernel
theorem cc_91_261 : ck_ca 91 8 261 93 2 1 [2, 3] = true := by decide +kernel
theorem cc_91_265 : ck_ca 91 8 265 94 2 1 [2, 3] = true := by decide +kernel
theorem cc_91_268 : ck_ca 91 8 268 95 2 1 [2, 3] = true := by decide +kernel
theorem cc_91_271 : ck_ca 91 8 271 96 2 1 [2, 3] = true := by decide +kernel
theorem cc_91_274 : ck_ca 91 8 274 97 3 1 [2, 3] = true := by decide +kernel
theorem cc_92_193 : ck_ca 92 8 193 15 1 1 [2, 3] = true := by decide +kernel
theorem cc_92_214 : ck_ca 92 8 214 57 5 0 [2, 3] = true := by decide +kernel
theorem cc_92_281 : ck_ca 92 8 281 62 2 1 [2, 3] = true := by decide +kernel
theorem cc_93_285 : ck_ca 93 8 285 92 3 1 [2, 3] = true := by decide +kernel
theorem cc_94_285 : ck_ca 94 8 285 92 3 1 [2, 3] = true := by decide +kernel
theorem cc_95_285 : ck_ca 95 8 285 92 3 1 [2, 3] = true := by decide +kernel
theorem cc_96_265 : ck_ca 96 8 265 94 2 1 [2, 3] = true := by decide +kernel
theorem cc_97_265 : ck_ca 97 8 265 94 2 1 [2, 3] = true := by decide +kernel
theorem cc_97_295 : ck_ca 97 8 295 18 3 0 [2, 3] = true := by decide +kernel
theorem cc_98_172 : ck_ca 98 8 172 77 3 0 [2, 3] = true := by decide +kernel
theorem cc_98_190 : ck_ca 98 8 190 61 2 1 [2, 3] = true := by decide +kernel
theorem cc_98_251 : ck_ca 98 8 251 115 1 1 [0, 1, 7, 8, 9] = true := by decide +kernel
theorem cc_98_301 : ck_ca 98 8 301 38 3 0 [2, 3] = true := by decide +kernel
theorem cc_98_304 : ck_ca 98 8 304 39 3 0 [2, 3] = true := by decide +kernel
theorem cc_98_84 : ck_ca 98 8 84 114 1 1 [0, 1, 7, 8, 9] = true := by decide +kernel
theorem cc_98_88 : ck_ca 98 8 88 113 1 1 [0, 1, 7, 8, 9] = true := by decide +kernel
theorem cc_99_307 : ck_ca 99 8 307 100 3 1 [2, 3] = true := by decide +kernel
theorem cc_99_88 : ck_ca 99 8 88 113 1 1 [0, 1, 7, 8, 9] = true := by decide +kernel
theorem cc_9_34 : ck_ca 9 1 34 112 3 1 [0, 1, 7, 8, 9] = true := by decide +kernel
theorem cc_9_42 : ck_ca 9 1 42 10 2 1 [2, 3] = true := by decide +kernel
theorem cl_0 : (0 : Int32).toNatClampNeg = 0 := by decide +kernel
theorem cl_1 : (1 : Int32).toNatClampNeg = 1 := by decide +kernel
theorem cl_2 : (2 : Int32).toNatClampNeg = 2 := by decide +kernel
theorem cl_3 : (3 : Int32).toNatClampNeg = 3 := by decide +kernel
theorem cl_4 : (4 : Int32).toNatClampNeg = 4 := by decide +kernel
theorem cl_5 : (5 : Int32).toNatClampNeg = 5 := by decide +kernel
theorem cl_6 : (6 : Int32).toNatClampNeg = 6 := by decide +kernel
theorem cl_99 : (99 : Int32).toNatClampNeg = 99 := by decide +kernel
theorem cm_0_45 : ma_f4 45 (mt_ct.getD 0 []) = some (0, 7, 838) := by decide +kernel
theorem cm_8_221 : ma_f4 221 (mt_ct.getD 8 []) = some (0, 8, 703) := by decide +kernel
theorem cm_8_226 : ma_f4 226 (mt_ct.getD 8 []) = some (0, 9, 710) := by decide +kernel
theorem cm_8_329 : ma_f4 329 (mt_ct.getD 8 []) = some (0, 7, 877) := by decide +kernel
theorem cq_0_0_6_6_6 : xv_cq (0 : Int32) (0 : Int32) (6 : Int32) 6 6 := by unfold xv_cq; decide +kernel
theorem fb_0_25_7 : ck_pb 0 25 7 0 = true := by decide +kernel
theorem fb_7_34_10 : ck_pb 7 34 10 6 = true := by decide +kernel
theorem fb_9_241_40 : ck_pb 9 241 40 35 = true := by decide +kernel
theorem fb_9_293_40 : ck_pb 9 293 40 42 = true := by decide +kernel
theorem fg_0_29_6 : ck_gi 0 29 6 0 = true := by decide +kernel
theorem fg_0_35_7 : ck_gi 0 35 7 1 = true := by decide +kernel
theorem fg_0_36_6 : ck_gi 0 36 6 8 = true := by decide +kernel
theorem fg_0_39_7 : ck_gi 0 39 7 2 = true := by decide +kernel
theorem fg_0_40_6 : ck_gi 0 40 6 1 = true := by decide +kernel
theorem fg_0_43_7 : ck_gi 0 43 7 3 = true := by decide +kernel
theorem fg_0_52_6 : ck_gi 0 52 6 4 = true := by decide +kernel
theorem fg_0_55_7 : ck_gi 0 55 7 6 = true := by decide +kernel
theorem fg_1_15_17 : ck_gi 1 15 17 1 = true := by decide +kernel
theorem fg_1_15_30 : ck_gi 1 15 30 1 = true := by decide +kernel
theorem fg_1_18_17 : ck_gi 1 18 17 2 = true := by decide +kernel
theorem fg_1_18_30 : ck_gi 1 18 30 2 = true := by decide +kernel
theorem fg_1_21_17 : ck_gi 1 21 17 3 = true := by decide +kernel
theorem fg_1_21_30 : ck_gi 1 21 30 3 = true := by decide +kernel
theorem fg_1_24_17 : ck_gi 1 24 17 4 = true := by decide +kernel
theorem fg_1_24_30 : ck_gi 1 24 30 4 = true := by decide +kernel
theorem fg_1_27_17 : ck_gi 1 27 17 5 = true := by decide +kernel
theorem fg_1_27_30 : ck_gi 1 27 30 5 = true := by decide +kernel
theorem fg_1_9_17 : ck_gi 1 9 17 0 = true := by decide +kernel
theorem fg_1_9_30 : ck_gi 1 9 30 0 = true := by decide +kernel
theorem fg_2_101_17 : ck_gi 2 101 17 5 = true := by decide +kernel
theorem fg_2_48_6 : ck_gi 2 48 6 1 = true := by decide +kernel
theorem fg_2_51_6 : ck_gi 2 51 6 4 = true := by decide +kernel
theorem fg_2_58_17 : ck_gi 2 58 17 2 = true := by decide +kernel
theorem fg_2_77_17 : ck_gi 2 77 17 1 = true := by decide +kernel
theorem fg_2_84_6 : ck_gi 2 84 6 8 = true := by decide +kernel
theorem fg_2_98_17 : ck_gi 2 98 17 4 = true := by decide +kernel
theorem fg_3_29_8 : ck_gi 3 29 8 1 = true := by decide +kernel
theorem fg_3_33_8 : ck_gi 3 33 8 2 = true := by decide +kernel
theorem fg_3_65_8 : ck_gi 3 65 8 3 = true := by decide +kernel
theorem fg_4_19_12 : ck_gi 4 19 12 1 = true := by decide +kernel
theorem fg_4_9_12 : ck_gi 4 9 12 0 = true := by decide +kernel
theorem fg_5_15_8 : ck_gi 5 15 8 0 = true := by decide +kernel
theorem fg_5_19_8 : ck_gi 5 19 8 4 = true := by decide +kernel
theorem fg_5_25_8 : ck_gi 5 25 8 2 = true := by decide +kernel
theorem fg_5_28_8 : ck_gi 5 28 8 1 = true := by decide +kernel
theorem fg_5_53_8 : ck_gi 5 53 8 3 = true := by decide +kernel
theorem fg_6_21_19 : ck_gi 6 21 19 0 = true := by decide +kernel
theorem fg_7_15_10 : ck_gi 7 15 10 0 = true := by decide +kernel
theorem fg_7_19_10 : ck_gi 7 19 10 1 = true := by decide +kernel
theorem fg_7_22_10 : ck_gi 7 22 10 7 = true := by decide +kernel
theorem fg_7_25_10 : ck_gi 7 25 10 2 = true := by decide +kernel
theorem fg_7_28_10 : ck_gi 7 28 10 3 = true := by decide +kernel
theorem fg_7_31_10 : ck_gi 7 31 10 5 = true := by decide +kernel
theorem fg_7_34_10 : ck_gi 7 34 10 6 = true := by decide +kernel
theorem fg_7_38_10 : ck_gi 7 38 10 4 = true := by decide +kernel
theorem fg_7_47_6 : ck_gi 7 47 6 0 = true := by decide +kernel
theorem fg_7_73_17 : ck_gi 7 73 17 3 = true := by decide +kernel
theorem fg_7_85_12 : ck_gi 7 85 12 1 = true := by decide +kernel
theorem fg_8_112_6 : ck_gi 8 112 6 4 = true := by decide +kernel
theorem fg_8_128_6 : ck_gi 8 128 6 0 = true := by decide +kernel
theorem fg_8_169_6 : ck_gi 8 169 6 8 = true := by decide +kernel
theorem fg_8_175_10 : ck_gi 8 175 10 0 = true := by decide +kernel
theorem fg_8_178_10 : ck_gi 8 178 10 1 = true := by decide +kernel
theorem fg_8_181_10 : ck_gi 8 181 10 2 = true := by decide +kernel
theorem fg_8_184_10 : ck_gi 8 184 10 3 = true := by decide +kernel
theorem fg_8_229_10 : ck_gi 8 229 10 6 = true := by decide +kernel
theorem fg_8_254_12 : ck_gi 8 254 12 0 = true := by decide +kernel
theorem fg_8_289_10 : ck_gi 8 289 10 5 = true := by decide +kernel
theorem fg_8_292_17 : ck_gi 8 292 17 0 = true := by decide +kernel
theorem fg_8_298_10 : ck_gi 8 298 10 4 = true := by decide +kernel
theorem fg_8_303_12 : ck_gi 8 303 12 1 = true := by decide +kernel
theorem fg_8_320_7 : ck_gi 8 320 7 0 = true := by decide +kernel
theorem fg_8_338_17 : ck_gi 8 338 17 1 = true := by decide +kernel
theorem fg_8_77_8 : ck_gi 8 77 8 0 = true := by decide +kernel
theorem fg_8_81_6 : ck_gi 8 81 6 6 = true := by decide +kernel
theorem fg_8_91_6 : ck_gi 8 91 6 1 = true := by decide +kernel
theorem fg_9_100_40 : ck_gi 9 100 40 20 = true := by decide +kernel
theorem fg_9_107_40 : ck_gi 9 107 40 19 = true := by decide +kernel
theorem fg_9_123_40 : ck_gi 9 123 40 28 = true := by decide +kernel
theorem fg_9_126_40 : ck_gi 9 126 40 29 = true := by decide +kernel
theorem fg_9_129_40 : ck_gi 9 129 40 24 = true := by decide +kernel
theorem fg_9_138_40 : ck_gi 9 138 40 25 = true := by decide +kernel
theorem fg_9_155_40 : ck_gi 9 155 40 26 = true := by decide +kernel
theorem fg_9_184_40 : ck_gi 9 184 40 13 = true := by decide +kernel
theorem fg_9_18_40 : ck_gi 9 18 40 1 = true := by decide +kernel
theorem fg_9_190_40 : ck_gi 9 190 40 14 = true := by decide +kernel
theorem fg_9_235_40 : ck_gi 9 235 40 33 = true := by decide +kernel
theorem fg_9_238_40 : ck_gi 9 238 40 34 = true := by decide +kernel
theorem fg_9_241_40 : ck_gi 9 241 40 35 = true := by decide +kernel
theorem fg_9_245_40 : ck_gi 9 245 40 36 = true := by decide +kernel
theorem fg_9_248_40 : ck_gi 9 248 40 37 = true := by decide +kernel
theorem fg_9_265_40 : ck_gi 9 265 40 39 = true := by decide +kernel
theorem fg_9_268_40 : ck_gi 9 268 40 40 = true := by decide +kernel
theorem fg_9_271_40 : ck_gi 9 271 40 41 = true := by decide +kernel
theorem fg_9_293_40 : ck_gi 9 293 40 42 = true := by decide +kernel
theorem fg_9_50_40 : ck_gi 9 50 40 0 = true := by decide +kernel
theorem fg_9_7_40 : ck_gi 9 7 40 4 = true := by decide +kernel
theorem fg_9_82_40 : ck_gi 9 82 40 12 = true := by decide +kernel
theorem fg_9_88_40 : ck_gi 9 88 40 17 = true := by decide +kernel
theorem fg_9_94_40 : ck_gi 9 94 40 18 = true := by decide +kernel
theorem fo_x_3_15 : (match ma_f4 15 (mt_ft.getD 3 []) with | some (ci, j, _) => Nat.beq (ma_gk 9) (100 + ci) && ma_rf ci j && !(ma_ff ci j) && Nat.beq j 1 | none => false) = true := by decide +kernel
theorem fp_0_29_6 : ck_pi 0 29 6 0 = true := by decide +kernel
theorem fp_0_35_7 : ck_pi 0 35 7 1 = true := by decide +kernel
theorem fp_0_36_6 : ck_pi 0 36 6 8 = true := by decide +kernel
theorem fp_0_39_7 : ck_pi 0 39 7 2 = true := by decide +kernel
theorem fp_0_40_6 : ck_pi 0 40 6 1 = true := by decide +kernel
theorem fp_0_43_7 : ck_pi 0 43 7 3 = true := by decide +kernel
theorem fp_0_52_6 : ck_pi 0 52 6 4 = true := by decide +kernel
theorem fp_0_55_7 : ck_pi 0 55 7 6 = true := by decide +kernel
theorem fp_1_15_17 : ck_pi 1 15 17 1 = true := by decide +kernel
theorem fp_1_15_30 : ck_pi 1 15 30 1 = true := by decide +kernel
theorem fp_1_18_17 : ck_pi 1 18 17 2 = true := by decide +kernel
theorem fp_1_18_30 : ck_pi 1 18 30 2 = true := by decide +kernel
theorem fp_1_21_17 : ck_pi 1 21 17 3 = true := by decide +kernel
theorem fp_1_21_30 : ck_pi 1 21 30 3 = true := by decide +kernel
theorem fp_1_24_17 : ck_pi 1 24 17 4 = true := by decide +kernel
theorem fp_1_24_30 : ck_pi 1 24 30 4 = true := by decide +kernel
theorem fp_1_27_17 : ck_pi 1 27 17 5 = true := by decide +kernel
theorem fp_1_27_30 : ck_pi 1 27 30 5 = true := by decide +kernel
theorem fp_1_9_17 : ck_pi 1 9 17 0 = true := by decide +kernel
theorem fp_1_9_30 : ck_pi 1 9 30 0 = true := by decide +kernel
theorem fp_2_65_17 : ck_pi 2 65 17 0 = true := by decide +kernel
theorem fp_4_19_12 : ck_pi 4 19 12 1 = true := by decide +kernel
theorem fp_4_9_12 : ck_pi 4 9 12 0 = true := by decide +kernel
theorem fp_5_15_8 : ck_pi 5 15 8 0 = true := by decide +kernel
theorem fp_5_19_8 : ck_pi 5 19 8 4 = true := by decide +kernel
theorem fp_5_25_8 : ck_pi 5 25 8 2 = true := by decide +kernel
theorem fp_5_28_8 : ck_pi 5 28 8 1 = true := by decide +kernel
theorem fp_5_53_8 : ck_pi 5 53 8 3 = true := by decide +kernel
theorem fp_6_21_19 : ck_pi 6 21 19 0 = true := by decide +kernel
theorem fp_7_15_10 : ck_pi 7 15 10 0 = true := by decide +kernel
theorem fp_7_19_10 : ck_pi 7 19 10 1 = true := by decide +kernel
theorem fp_7_22_10 : ck_pi 7 22 10 7 = true := by decide +kernel
theorem fp_7_25_10 : ck_pi 7 25 10 2 = true := by decide +kernel
theorem fp_7_28_10 : ck_pi 7 28 10 3 = true := by decide +kernel
theorem fp_7_31_10 : ck_pi 7 31 10 5 = true := by decide +kernel
theorem fp_7_38_10 : ck_pi 7 38 10 4 = true := by decide +kernel
theorem fp_8_112_6 : ck_pi 8 112 6 4 = true := by decide +kernel
theorem fp_8_128_6 : ck_pi 8 128 6 0 = true := by decide +kernel
theorem fp_8_169_6 : ck_pi 8 169 6 8 = true := by decide +kernel
theorem fp_8_77_8 : ck_pi 8 77 8 0 = true := by decide +kernel
theorem fp_8_81_6 : ck_pi 8 81 6 6 = true := by decide +kernel
theorem fp_8_91_6 : ck_pi 8 91 6 1 = true := by decide +kernel
theorem fp_9_100_40 : ck_pi 9 100 40 20 = true := by decide +kernel
theorem fp_9_107_40 : ck_pi 9 107 40 19 = true := by decide +kernel
theorem fp_9_123_40 : ck_pi 9 123 40 28 = true := by decide +kernel
theorem fp_9_126_40 : ck_pi 9 126 40 29 = true := by decide +kernel
theorem fp_9_129_40 : ck_pi 9 129 40 24 = true := by decide +kernel
theorem fp_9_138_40 : ck_pi 9 138 40 25 = true := by decide +kernel
theorem fp_9_155_40 : ck_pi 9 155 40 26 = true := by decide +kernel
theorem fp_9_184_40 : ck_pi 9 184 40 13 = true := by decide +kernel
theorem fp_9_18_40 : ck_pi 9 18 40 1 = true := by decide +kernel
theorem fp_9_190_40 : ck_pi 9 190 40 14 = true := by decide +kernel
theorem fp_9_235_40 : ck_pi 9 235 40 33 = true := by decide +kernel
theorem fp_9_238_40 : ck_pi 9 238 40 34 = true := by decide +kernel
theorem fp_9_245_40 : ck_pi 9 245 40 36 = true := by decide +kernel
theorem fp_9_248_40 : ck_pi 9 248 40 37 = true := by decide +kernel
theorem fp_9_265_40 : ck_pi 9 265 40 39 = true := by decide +kernel
theorem fp_9_268_40 : ck_pi 9 268 40 40 = true := by decide +kernel
theorem fp_9_271_40 : ck_pi 9 271 40 41 = true := by decide +kernel
theorem fp_9_50_40 : ck_pi 9 50 40 0 = true := by decide +kernel
theorem fp_9_7_40 : ck_pi 9 7 40 4 = true := by decide +kernel
theorem fp_9_82_40 : ck_pi 9 82 40 12 = true := by decide +kernel
theorem fp_9_88_40 : ck_pi 9 88 40 17 = true := by decide +kernel
theorem fp_9_94_40 : ck_pi 9 94 40 18 = true := by decide +kernel
theorem fr_0_15_7 : ck_gr 0 15 7 5 = true := by decide +kernel
theorem fr_0_20_7 : ck_gr 0 20 7 7 = true := by decide +kernel
theorem fr_0_44_6 : ck_gr 0 44 6 2 = true := by decide +kernel
theorem fr_0_51_6 : ck_gr 0 51 6 3 = true := by decide +kernel
theorem fr_0_56_6 : ck_gr 0 56 6 5 = true := by decide +kernel
theorem fr_0_9_7 : ck_gr 0 9 7 4 = true := by decide +kernel
theorem fr_2_15_6 : ck_gr 2 15 6 2 = true := by decide +kernel
theorem fr_2_19_6 : ck_gr 2 19 6 3 = true := by decide +kernel
theorem fr_2_24_6 : ck_gr 2 24 6 5 = true := by decide +kernel
theorem fr_2_30_6 : ck_gr 2 30 6 7 = true := by decide +kernel
theorem fr_2_34_6 : ck_gr 2 34 6 9 = true := by decide +kernel
theorem fr_2_37_6 : ck_gr 2 37 6 10 = true := by decide +kernel
theorem fr_2_40_6 : ck_gr 2 40 6 11 = true := by decide +kernel
theorem fr_2_43_6 : ck_gr 2 43 6 12 = true := by decide +kernel
theorem fr_3_15_9 : ck_gr 3 15 9 1 = true := by decide +kernel
theorem fr_3_9_9 : ck_gr 3 9 9 0 = true := by decide +kernel
theorem fr_4_15_12 : ck_gr 4 15 12 2 = true := by decide +kernel
theorem fr_5_9_8 : ck_gr 5 9 8 5 = true := by decide +kernel
theorem fr_6_15_19 : ck_gr 6 15 19 2 = true := by decide +kernel
theorem fr_6_18_19 : ck_gr 6 18 19 3 = true := by decide +kernel
theorem fr_6_9_19 : ck_gr 6 9 19 1 = true := by decide +kernel
theorem fr_7_69_6 : ck_gr 7 69 6 5 = true := by decide +kernel
theorem fr_7_90_12 : ck_gr 7 90 12 2 = true := by decide +kernel
theorem fr_7_9_10 : ck_gr 7 9 10 8 = true := by decide +kernel
theorem fr_8_115_6 : ck_gr 8 115 6 5 = true := by decide +kernel
theorem fr_8_12_5 : ck_gr 8 12 5 0 = true := by decide +kernel
theorem fr_8_19_5 : ck_gr 8 19 5 1 = true := by decide +kernel
theorem fr_8_26_5 : ck_gr 8 26 5 2 = true := by decide +kernel
theorem fr_8_278_12 : ck_gr 8 278 12 2 = true := by decide +kernel
theorem fr_8_35_5 : ck_gr 8 35 5 3 = true := by decide +kernel
theorem fr_8_42_5 : ck_gr 8 42 5 4 = true := by decide +kernel
theorem fr_8_48_5 : ck_gr 8 48 5 5 = true := by decide +kernel
theorem fr_8_69_6 : ck_gr 8 69 6 7 = true := by decide +kernel
theorem fr_8_94_6 : ck_gr 8 94 6 2 = true := by decide +kernel
theorem fr_8_98_6 : ck_gr 8 98 6 3 = true := by decide +kernel
theorem fr_9_103_40 : ck_gr 9 103 40 21 = true := by decide +kernel
theorem fr_9_120_40 : ck_gr 9 120 40 15 = true := by decide +kernel
theorem fr_9_132_40 : ck_gr 9 132 40 23 = true := by decide +kernel
theorem fr_9_151_40 : ck_gr 9 151 40 27 = true := by decide +kernel
theorem fr_9_168_40 : ck_gr 9 168 40 16 = true := by decide +kernel
theorem fr_9_198_40 : ck_gr 9 198 40 30 = true := by decide +kernel
theorem fr_9_201_40 : ck_gr 9 201 40 31 = true := by decide +kernel
theorem fr_9_204_40 : ck_gr 9 204 40 32 = true := by decide +kernel
theorem fr_9_207_40 : ck_gr 9 207 40 38 = true := by decide +kernel
theorem fr_9_210_40 : ck_gr 9 210 40 43 = true := by decide +kernel
theorem fr_9_213_40 : ck_gr 9 213 40 44 = true := by decide +kernel
theorem fr_9_216_40 : ck_gr 9 216 40 45 = true := by decide +kernel
theorem fr_9_219_40 : ck_gr 9 219 40 46 = true := by decide +kernel
theorem fr_9_21_40 : ck_gr 9 21 40 2 = true := by decide +kernel
theorem fr_9_222_40 : ck_gr 9 222 40 47 = true := by decide +kernel
theorem fr_9_25_40 : ck_gr 9 25 40 3 = true := by decide +kernel
theorem fr_9_28_40 : ck_gr 9 28 40 5 = true := by decide +kernel
theorem fr_9_31_40 : ck_gr 9 31 40 6 = true := by decide +kernel
theorem fr_9_34_40 : ck_gr 9 34 40 7 = true := by decide +kernel
theorem fr_9_37_40 : ck_gr 9 37 40 8 = true := by decide +kernel
theorem fr_9_40_40 : ck_gr 9 40 40 9 = true := by decide +kernel
theorem fr_9_43_40 : ck_gr 9 43 40 10 = true := by decide +kernel
theorem fr_9_85_40 : ck_gr 9 85 40 11 = true := by decide +kernel
theorem fr_9_97_40 : ck_gr 9 97 40 22 = true := by decide +kernel
theorem fs_13_15 : ma_f4 15 (mt_ft.getD 13 []) = some (13, 1, 1300) := by decide +kernel
theorem fs_13_9 : ma_f4 9 (mt_ft.getD 13 []) = some (13, 0, 1299) := by decide +kernel
theorem ga_11 : (Nat.ble 10 (ma_gk 11) && Nat.blt (ma_gk 11) 100) = true := by decide +kernel
theorem ga_16 : (Nat.ble 10 (ma_gk 16) && Nat.blt (ma_gk 16) 100) = true := by decide +kernel
theorem ga_18 : (Nat.ble 10 (ma_gk 18) && Nat.blt (ma_gk 18) 100) = true := by decide +kernel
theorem ga_29 : (Nat.ble 10 (ma_gk 29) && Nat.blt (ma_gk 29) 100) = true := by decide +kernel
theorem gb_3 : (Nat.beq (ma_gk 3) 2 || Nat.beq (ma_gk 3) 4) = true := by decide +kernel
theorem gb_55 : (Nat.beq (ma_gk 55) 2 || Nat.beq (ma_gk 55) 4) = true := by decide +kernel
theorem gc_52 : (Nat.beq (ma_gk 52) 3 || Nat.beq (ma_gk 52) 3) = true := by decide +kernel
theorem gk_1 : Nat.beq (ma_gk 1) 1 = true := by decide +kernel
theorem gk_13 : Nat.beq (ma_gk 13) 1 = true := by decide +kernel
theorem gk_14 : Nat.beq (ma_gk 14) 1 = true := by decide +kernel
theorem gk_15 : Nat.beq (ma_gk 15) 1 = true := by decide +kernel
theorem gk_20 : Nat.beq (ma_gk 20) 1 = true := by decide +kernel
theorem gk_21 : Nat.beq (ma_gk 21) 1 = true := by decide +kernel
theorem gk_22 : Nat.beq (ma_gk 22) 1 = true := by decide +kernel
theorem gk_23 : Nat.beq (ma_gk 23) 1 = true := by decide +kernel
theorem gk_24 : Nat.beq (ma_gk 24) 1 = true := by decide +kernel
theorem gk_25 : Nat.beq (ma_gk 25) 1 = true := by decide +kernel
theorem gk_26 : Nat.beq (ma_gk 26) 1 = true := by decide +kernel
theorem gk_31 : Nat.beq (ma_gk 31) 1 = true := by decide +kernel
theorem gk_32 : Nat.beq (ma_gk 32) 1 = true := by decide +kernel
theorem gk_41 : Nat.beq (ma_gk 41) 1 = true := by decide +kernel
theorem gk_42 : Nat.beq (ma_gk 42) 1 = true := by decide +kernel
theorem gk_43 : Nat.beq (ma_gk 43) 1 = true := by decide +kernel
theorem gk_44 : Nat.beq (ma_gk 44) 1 = true := by decide +kernel
theorem gk_45 : Nat.beq (ma_gk 45) 1 = true := by decide +kernel
theorem gk_46 : Nat.beq (ma_gk 46) 1 = true := by decide +kernel
theorem gk_47 : Nat.beq (ma_gk 47) 1 = true := by decide +kernel
theorem gk_48 : Nat.beq (ma_gk 48) 1 = true := by decide +kernel
theorem gk_49 : Nat.beq (ma_gk 49) 1 = true := by decide +kernel
theorem gk_50 : Nat.beq (ma_gk 50) 1 = true := by decide +kernel
theorem gk_51 : Nat.beq (ma_gk 51) 1 = true := by decide +kernel
theorem gk_53 : Nat.beq (ma_gk 53) 1 = true := by decide +kernel
theorem gk_54 : Nat.beq (ma_gk 54) 1 = true := by decide +kernel
theorem gk_56 : Nat.beq (ma_gk 56) 1 = true := by decide +kernel
theorem gk_57 : Nat.beq (ma_gk 57) 1 = true := by decide +kernel
theorem gk_58 : Nat.beq (ma_gk 58) 1 = true := by decide +kernel
theorem gk_59 : Nat.beq (ma_gk 59) 1 = true := by decide +kernel
theorem gk_60 : Nat.beq (ma_gk 60) 1 = true := by decide +kernel
theorem gk_61 : Nat.beq (ma_gk 61) 1 = true := by decide +kernel
theorem gk_62 : Nat.beq (ma_gk 62) 1 = true := by decide +kernel
theorem gk_63 : Nat.beq (ma_gk 63) 1 = true := by decide +kernel
theorem gk_64 : Nat.beq (ma_gk 64) 1 = true := by decide +kernel
theorem gl_11 : ma_gl 11 = 4 := by decide +kernel
theorem gl_13 : ma_gl 13 = 40 := by decide +kernel
theorem gl_14 : ma_gl 14 = 6 := by decide +kernel
theorem gl_15 : ma_gl 15 = 6 := by decide +kernel
theorem gl_16 : ma_gl 16 = 8 := by decide +kernel
theorem gl_18 : ma_gl 18 = 6 := by decide +kernel
theorem gl_20 : ma_gl 20 = 160 := by decide +kernel
theorem gl_21 : ma_gl 21 = 3 := by decide +kernel
theorem gl_22 : ma_gl 22 = 40 := by decide +kernel
theorem gl_23 : ma_gl 23 = 100 := by decide +kernel
theorem gl_24 : ma_gl 24 = 800 := by decide +kernel
theorem gl_25 : ma_gl 25 = 8 := by decide +kernel
theorem gl_26 : ma_gl 26 = 6 := by decide +kernel
theorem gl_27 : ma_gl 27 = 6 := by decide +kernel
theorem gl_28 : ma_gl 28 = 6 := by decide +kernel
theorem gl_29 : ma_gl 29 = 8 := by decide +kernel
theorem gl_31 : ma_gl 31 = 160 := by decide +kernel
theorem gl_32 : ma_gl 32 = 22 := by decide +kernel
theorem gl_41 : ma_gl 41 = 6 := by decide +kernel
theorem gl_42 : ma_gl 42 = 6 := by decide +kernel
theorem gl_43 : ma_gl 43 = 9 := by decide +kernel
theorem gl_44 : ma_gl 44 = 9 := by decide +kernel
theorem gl_45 : ma_gl 45 = 9 := by decide +kernel
theorem gl_46 : ma_gl 46 = 9 := by decide +kernel
theorem gl_47 : ma_gl 47 = 9 := by decide +kernel
theorem gl_48 : ma_gl 48 = 9 := by decide +kernel
theorem gl_49 : ma_gl 49 = 160 := by decide +kernel
theorem gl_50 : ma_gl 50 = 2880 := by decide +kernel
theorem gl_51 : ma_gl 51 = 18 := by decide +kernel
theorem gl_54 : ma_gl 54 = 170 := by decide +kernel
theorem gl_55 : ma_gl 55 = 8 := by decide +kernel
theorem gl_56 : ma_gl 56 = 170 := by decide +kernel
theorem gl_57 : ma_gl 57 = 6 := by decide +kernel
theorem gl_58 : ma_gl 58 = 24 := by decide +kernel
theorem gl_59 : ma_gl 59 = 100 := by decide +kernel
theorem gl_60 : ma_gl 60 = 64 := by decide +kernel
theorem gl_61 : ma_gl 61 = 4 := by decide +kernel
theorem gl_62 : ma_gl 62 = 4 := by decide +kernel
theorem gl_63 : ma_gl 63 = 160 := by decide +kernel
theorem gl_64 : ma_gl 64 = 40 := by decide +kernel
theorem gn_13 : ∀ (I : ma_I) (o i : Nat), ma_len (ma_mem I o) 13 i = 40 := fun _ _ _ => (by decide +kernel : ma_gl 13 = 40)
theorem gn_14 : ∀ (I : ma_I) (o i : Nat), ma_len (ma_mem I o) 14 i = 6 := fun _ _ _ => (by decide +kernel : ma_gl 14 = 6)
theorem gn_15 : ∀ (I : ma_I) (o i : Nat), ma_len (ma_mem I o) 15 i = 6 := fun _ _ _ => (by decide +kernel : ma_gl 15 = 6)
theorem gn_20 : ∀ (I : ma_I) (o i : Nat), ma_len (ma_mem I o) 20 i = 160 := fun _ _ _ => (by decide +kernel : ma_gl 20 = 160)
theorem gn_21 : ∀ (I : ma_I) (o i : Nat), ma_len (ma_mem I o) 21 i = 3 := fun _ _ _ => (by decide +kernel : ma_gl 21 = 3)
theorem gn_22 : ∀ (I : ma_I) (o i : Nat), ma_len (ma_mem I o) 22 i = 40 := fun _ _ _ => (by decide +kernel : ma_gl 22 = 40)
theorem gn_23 : ∀ (I : ma_I) (o i : Nat), ma_len (ma_mem I o) 23 i = 100 := fun _ _ _ => (by decide +kernel : ma_gl 23 = 100)
theorem gn_24 : ∀ (I : ma_I) (o i : Nat), ma_len (ma_mem I o) 24 i = 800 := fun _ _ _ => (by decide +kernel : ma_gl 24 = 800)
theorem gn_25 : ∀ (I : ma_I) (o i : Nat), ma_len (ma_mem I o) 25 i = 8 := fun _ _ _ => (by decide +kernel : ma_gl 25 = 8)
theorem gn_26 : ∀ (I : ma_I) (o i : Nat), ma_len (ma_mem I o) 26 i = 6 := fun _ _ _ => (by decide +kernel : ma_gl 26 = 6)
theorem gn_31 : ∀ (I : ma_I) (o i : Nat), ma_len (ma_mem I o) 31 i = 160 := fun _ _ _ => (by decide +kernel : ma_gl 31 = 160)
theorem gn_32 : ∀ (I : ma_I) (o i : Nat), ma_len (ma_mem I o) 32 i = 22 := fun _ _ _ => (by decide +kernel : ma_gl 32 = 22)
theorem gn_41 : ∀ (I : ma_I) (o i : Nat), ma_len (ma_mem I o) 41 i = 6 := fun _ _ _ => (by decide +kernel : ma_gl 41 = 6)
theorem gn_42 : ∀ (I : ma_I) (o i : Nat), ma_len (ma_mem I o) 42 i = 6 := fun _ _ _ => (by decide +kernel : ma_gl 42 = 6)
theorem gn_43 : ∀ (I : ma_I) (o i : Nat), ma_len (ma_mem I o) 43 i = 9 := fun _ _ _ => (by decide +kernel : ma_gl 43 = 9)
theorem gn_44 : ∀ (I : ma_I) (o i : Nat), ma_len (ma_mem I o) 44 i = 9 := fun _ _ _ => (by decide +kernel : ma_gl 44 = 9)
theorem gn_45 : ∀ (I : ma_I) (o i : Nat), ma_len (ma_mem I o) 45 i = 9 := fun _ _ _ => (by decide +kernel : ma_gl 45 = 9)
theorem gn_46 : ∀ (I : ma_I) (o i : Nat), ma_len (ma_mem I o) 46 i = 9 := fun _ _ _ => (by decide +kernel : ma_gl 46 = 9)
theorem gn_47 : ∀ (I : ma_I) (o i : Nat), ma_len (ma_mem I o) 47 i = 9 := fun _ _ _ => (by decide +kernel : ma_gl 47 = 9)
theorem gn_48 : ∀ (I : ma_I) (o i : Nat), ma_len (ma_mem I o) 48 i = 9 := fun _ _ _ => (by decide +kernel : ma_gl 48 = 9)
theorem gn_49 : ∀ (I : ma_I) (o i : Nat), ma_len (ma_mem I o) 49 i = 160 := fun _ _ _ => (by decide +kernel : ma_gl 49 = 160)
theorem gn_50 : ∀ (I : ma_I) (o i : Nat), ma_len (ma_mem I o) 50 i = 2880 := fun _ _ _ => (by decide +kernel : ma_gl 50 = 2880)
theorem gn_51 : ∀ (I : ma_I) (o i : Nat), ma_len (ma_mem I o) 51 i = 18 := fun _ _ _ => (by decide +kernel : ma_gl 51 = 18)
theorem gn_52 : ∀ (I : ma_I) (o i : Nat), ma_len (ma_mem I o) 52 i = 52 := fun _ _ _ => (by decide +kernel : ma_gl 52 = 52)
theorem gn_53 : ∀ (I : ma_I) (o i : Nat), ma_len (ma_mem I o) 53 i = 13 := fun _ _ _ => (by decide +kernel : ma_gl 53 = 13)
theorem gn_54 : ∀ (I : ma_I) (o i : Nat), ma_len (ma_mem I o) 54 i = 170 := fun _ _ _ => (by decide +kernel : ma_gl 54 = 170)
theorem gn_55 : ∀ (I : ma_I) (o i : Nat), ma_len (ma_mem I o) 55 i = 8 := fun _ _ _ => (by decide +kernel : ma_gl 55 = 8)
theorem gn_56 : ∀ (I : ma_I) (o i : Nat), ma_len (ma_mem I o) 56 i = 170 := fun _ _ _ => (by decide +kernel : ma_gl 56 = 170)
theorem gn_57 : ∀ (I : ma_I) (o i : Nat), ma_len (ma_mem I o) 57 i = 6 := fun _ _ _ => (by decide +kernel : ma_gl 57 = 6)
theorem gn_58 : ∀ (I : ma_I) (o i : Nat), ma_len (ma_mem I o) 58 i = 24 := fun _ _ _ => (by decide +kernel : ma_gl 58 = 24)
theorem gn_59 : ∀ (I : ma_I) (o i : Nat), ma_len (ma_mem I o) 59 i = 100 := fun _ _ _ => (by decide +kernel : ma_gl 59 = 100)
theorem gn_60 : ∀ (I : ma_I) (o i : Nat), ma_len (ma_mem I o) 60 i = 64 := fun _ _ _ => (by decide +kernel : ma_gl 60 = 64)
theorem gn_61 : ∀ (I : ma_I) (o i : Nat), ma_len (ma_mem I o) 61 i = 4 := fun _ _ _ => (by decide +kernel : ma_gl 61 = 4)
theorem gn_62 : ∀ (I : ma_I) (o i : Nat), ma_len (ma_mem I o) 62 i = 4 := fun _ _ _ => (by decide +kernel : ma_gl 62 = 4)
theorem gn_63 : ∀ (I : ma_I) (o i : Nat), ma_len (ma_mem I o) 63 i = 160 := fun _ _ _ => (by decide +kernel : ma_gl 63 = 160)
theorem gn_64 : ∀ (I : ma_I) (o i : Nat), ma_len (ma_mem I o) 64 i = 40 := fun _ _ _ => (by decide +kernel : ma_gl 64 = 40)
theorem gs_13 : (Nat.beq (ma_gk 13) 1 && Nat.ble 5 13) = true := by decide +kernel
theorem gs_14 : (Nat.beq (ma_gk 14) 1 && Nat.ble 5 14) = true := by decide +kernel
theorem gs_15 : (Nat.beq (ma_gk 15) 1 && Nat.ble 5 15) = true := by decide +kernel
theorem gs_20 : (Nat.beq (ma_gk 20) 1 && Nat.ble 5 20) = true := by decide +kernel
theorem gs_21 : (Nat.beq (ma_gk 21) 1 && Nat.ble 5 21) = true := by decide +kernel
theorem gs_22 : (Nat.beq (ma_gk 22) 1 && Nat.ble 5 22) = true := by decide +kernel
theorem gs_23 : (Nat.beq (ma_gk 23) 1 && Nat.ble 5 23) = true := by decide +kernel
theorem gs_24 : (Nat.beq (ma_gk 24) 1 && Nat.ble 5 24) = true := by decide +kernel
theorem gs_25 : (Nat.beq (ma_gk 25) 1 && Nat.ble 5 25) = true := by decide +kernel
theorem gs_26 : (Nat.beq (ma_gk 26) 1 && Nat.ble 5 26) = true := by decide +kernel
theorem gs_31 : (Nat.beq (ma_gk 31) 1 && Nat.ble 5 31) = true := by decide +kernel
theorem gs_32 : (Nat.beq (ma_gk 32) 1 && Nat.ble 5 32) = true := by decide +kernel
theorem gs_41 : (Nat.beq (ma_gk 41) 1 && Nat.ble 5 41) = true := by decide +kernel
theorem gs_42 : (Nat.beq (ma_gk 42) 1 && Nat.ble 5 42) = true := by decide +kernel
theorem gs_43 : (Nat.beq (ma_gk 43) 1 && Nat.ble 5 43) = true := by decide +kernel
theorem gs_44 : (Nat.beq (ma_gk 44) 1 && Nat.ble 5 44) = true := by decide +kernel
theorem gs_45 : (Nat.beq (ma_gk 45) 1 && Nat.ble 5 45) = true := by decide +kernel
theorem gs_46 : (Nat.beq (ma_gk 46) 1 && Nat.ble 5 46) = true := by decide +kernel
theorem gs_47 : (Nat.beq (ma_gk 47) 1 && Nat.ble 5 47) = true := by decide +kernel
theorem gs_48 : (Nat.beq (ma_gk 48) 1 && Nat.ble 5 48) = true := by decide +kernel
theorem gs_49 : (Nat.beq (ma_gk 49) 1 && Nat.ble 5 49) = true := by decide +kernel
theorem gs_50 : (Nat.beq (ma_gk 50) 1 && Nat.ble 5 50) = true := by decide +kernel
theorem gs_51 : (Nat.beq (ma_gk 51) 1 && Nat.ble 5 51) = true := by decide +kernel
theorem gs_54 : (Nat.beq (ma_gk 54) 1 && Nat.ble 5 54) = true := by decide +kernel
theorem gs_55 : (Nat.beq (ma_gk 55) 2 && Nat.ble 5 55) = true := by decide +kernel
theorem gs_56 : (Nat.beq (ma_gk 56) 1 && Nat.ble 5 56) = true := by decide +kernel
theorem gs_57 : (Nat.beq (ma_gk 57) 1 && Nat.ble 5 57) = true := by decide +kernel
theorem gs_58 : (Nat.beq (ma_gk 58) 1 && Nat.ble 5 58) = true := by decide +kernel
theorem gs_59 : (Nat.beq (ma_gk 59) 1 && Nat.ble 5 59) = true := by decide +kernel
theorem gs_60 : (Nat.beq (ma_gk 60) 1 && Nat.ble 5 60) = true := by decide +kernel
theorem gs_61 : (Nat.beq (ma_gk 61) 1 && Nat.ble 5 61) = true := by decide +kernel
theorem gs_62 : (Nat.beq (ma_gk 62) 1 && Nat.ble 5 62) = true := by decide +kernel
theorem gs_63 : (Nat.beq (ma_gk 63) 1 && Nat.ble 5 63) = true := by decide +kernel
theorem gs_64 : (Nat.beq (ma_gk 64) 1 && Nat.ble 5 64) = true := by decide +kernel
theorem gy_13_13 : (Nat.beq (ma_gk 13) 1 && Nat.beq (ma_gk 13) 1 && Nat.ble 5 13 && Nat.ble 5 13 && Nat.ble 0 8) = true := by decide +kernel
theorem gy_14_27 : (Nat.beq (ma_gk 14) 1 && Nat.beq (ma_gk 27) 1 && Nat.ble 5 14 && Nat.ble 5 27 && Nat.ble 0 8) = true := by decide +kernel
theorem gy_15_28 : (Nat.beq (ma_gk 15) 1 && Nat.beq (ma_gk 28) 1 && Nat.ble 5 15 && Nat.ble 5 28 && Nat.ble 0 8) = true := by decide +kernel
theorem gy_27_14 : (Nat.beq (ma_gk 27) 1 && Nat.beq (ma_gk 14) 1 && Nat.ble 5 27 && Nat.ble 5 14 && Nat.ble 0 8) = true := by decide +kernel
theorem gy_28_15 : (Nat.beq (ma_gk 28) 1 && Nat.beq (ma_gk 15) 1 && Nat.ble 5 28 && Nat.ble 5 15 && Nat.ble 0 8) = true := by decide +kernel
theorem gz_1 : (Nat.ble 1 (ma_gk 1) && Nat.blt (ma_gk 1) 100) = true := by decide +kernel
theorem gz_3 : (Nat.ble 1 (ma_gk 3) && Nat.blt (ma_gk 3) 100) = true := by decide +kernel
theorem gz_42 : (Nat.ble 1 (ma_gk 42) && Nat.blt (ma_gk 42) 100) = true := by decide +kernel
theorem gz_44 : (Nat.ble 1 (ma_gk 44) && Nat.blt (ma_gk 44) 100) = true := by decide +kernel
theorem gz_45 : (Nat.ble 1 (ma_gk 45) && Nat.blt (ma_gk 45) 100) = true := by decide +kernel
theorem gz_46 : (Nat.ble 1 (ma_gk 46) && Nat.blt (ma_gk 46) 100) = true := by decide +kernel
theorem gz_47 : (Nat.ble 1 (ma_gk 47) && Nat.blt (ma_gk 47) 100) = true := by decide +kernel
theorem gz_48 : (Nat.ble 1 (ma_gk 48) && Nat.blt (ma_gk 48) 100) = true := by decide +kernel
theorem gz_60 : (Nat.ble 1 (ma_gk 60) && Nat.blt (ma_gk 60) 100) = true := by decide +kernel
theorem ic_0 : Int32.ofInt (0) = (0 : Int32) := by decide +kernel
theorem ic_1 : Int32.ofInt (1) = (1 : Int32) := by decide +kernel
theorem ic_10 : Int32.ofInt (10) = (10 : Int32) := by decide +kernel
theorem ic_10010 : Int32.ofInt (10010) = (10010 : Int32) := by decide +kernel
theorem ic_10011 : Int32.ofInt (10011) = (10011 : Int32) := by decide +kernel
theorem ic_10012 : Int32.ofInt (10012) = (10012 : Int32) := by decide +kernel
theorem ic_10013 : Int32.ofInt (10013) = (10013 : Int32) := by decide +kernel
theorem ic_10014 : Int32.ofInt (10014) = (10014 : Int32) := by decide +kernel
theorem ic_10015 : Int32.ofInt (10015) = (10015 : Int32) := by decide +kernel
theorem ic_10016 : Int32.ofInt (10016) = (10016 : Int32) := by decide +kernel
theorem ic_10017 : Int32.ofInt (10017) = (10017 : Int32) := by decide +kernel
theorem ic_10018 : Int32.ofInt (10018) = (10018 : Int32) := by decide +kernel
theorem ic_11 : Int32.ofInt (11) = (11 : Int32) := by decide +kernel
theorem ic_12 : Int32.ofInt (12) = (12 : Int32) := by decide +kernel
theorem ic_13 : Int32.ofInt (13) = (13 : Int32) := by decide +kernel
theorem ic_14 : Int32.ofInt (14) = (14 : Int32) := by decide +kernel
theorem ic_15 : Int32.ofInt (15) = (15 : Int32) := by decide +kernel
theorem ic_16 : Int32.ofInt (16) = (16 : Int32) := by decide +kernel
theorem ic_17 : Int32.ofInt (17) = (17 : Int32) := by decide +kernel
theorem ic_18 : Int32.ofInt (18) = (18 : Int32) := by decide +kernel
theorem ic_19 : Int32.ofInt (19) = (19 : Int32) := by decide +kernel
theorem ic_2 : Int32.ofInt (2) = (2 : Int32) := by decide +kernel
theorem ic_20 : Int32.ofInt (20) = (20 : Int32) := by decide +kernel
theorem ic_21 : Int32.ofInt (21) = (21 : Int32) := by decide +kernel
theorem ic_22 : Int32.ofInt (22) = (22 : Int32) := by decide +kernel
theorem ic_23 : Int32.ofInt (23) = (23 : Int32) := by decide +kernel
theorem ic_24 : Int32.ofInt (24) = (24 : Int32) := by decide +kernel
theorem ic_25 : Int32.ofInt (25) = (25 : Int32) := by decide +kernel
theorem ic_3 : Int32.ofInt (3) = (3 : Int32) := by decide +kernel
theorem ic_4 : Int32.ofInt (4) = (4 : Int32) := by decide +kernel
theorem ic_40 : Int32.ofInt (40) = (40 : Int32) := by decide +kernel
theorem ic_41 : Int32.ofInt (41) = (41 : Int32) := by decide +kernel
theorem ic_42 : Int32.ofInt (42) = (42 : Int32) := by decide +kernel
theorem ic_43 : Int32.ofInt (43) = (43 : Int32) := by decide +kernel
theorem ic_44 : Int32.ofInt (44) = (44 : Int32) := by decide +kernel
theorem ic_45 : Int32.ofInt (45) = (45 : Int32) := by decide +kernel
theorem ic_46 : Int32.ofInt (46) = (46 : Int32) := by decide +kernel
theorem ic_47 : Int32.ofInt (47) = (47 : Int32) := by decide +kernel
theorem ic_48 : Int32.ofInt (48) = (48 : Int32) := by decide +kernel
theorem ic_49 : Int32.ofInt (49) = (49 : Int32) := by decide +kernel
theorem ic_5 : Int32.ofInt (5) = (5 : Int32) := by decide +kernel
theorem ic_50 : Int32.ofInt (50) = (50 : Int32) := by decide +kernel
theorem ic_51 : Int32.ofInt (51) = (51 : Int32) := by decide +kernel
theorem ic_52 : Int32.ofInt (52) = (52 : Int32) := by decide +kernel
theorem ic_53 : Int32.ofInt (53) = (53 : Int32) := by decide +kernel
theorem ic_54 : Int32.ofInt (54) = (54 : Int32) := by decide +kernel
theorem ic_55 : Int32.ofInt (55) = (55 : Int32) := by decide +kernel
theorem ic_56 : Int32.ofInt (56) = (56 : Int32) := by decide +kernel
theorem ic_57 : Int32.ofInt (57) = (57 : Int32) := by decide +kernel
theorem ic_58 : Int32.ofInt (58) = (58 : Int32) := by decide +kernel
theorem ic_59 : Int32.ofInt (59) = (59 : Int32) := by decide +kernel
theorem ic_6 : Int32.ofInt (6) = (6 : Int32) := by decide +kernel
theorem ic_60 : Int32.ofInt (60) = (60 : Int32) := by decide +kernel
theorem ic_61 : Int32.ofInt (61) = (61 : Int32) := by decide +kernel
theorem ic_7 : Int32.ofInt (7) = (7 : Int32) := by decide +kernel
theorem ic_8 : Int32.ofInt (8) = (8 : Int32) := by decide +kernel
theorem ic_9 : Int32.ofInt (9) = (9 : Int32) := by decide +kernel
theorem ic_m1 : Int32.ofInt (-1) = (-1 : Int32) := by decide +kernel
theorem k1_eq_0 : ma_c1 .eq (0 : Int32) = true := by decide +kernel
theorem k1_eq_1 : ma_c1 .eq (1 : Int32) = false := by decide +kernel
theorem k1_ne_0 : ma_c1 .ne (0 : Int32) = false := by decide +kernel
theorem k1_ne_1 : ma_c1 .ne (1 : Int32) = true := by decide +kernel
theorem k2_eq_m100_m100 : ma_c2 .eq (-100 : Int32) (-100 : Int32) = true := by decide +kernel
theorem kl_8_311 : ma_fk 311 (mt_lt.getD 8 []) = some ((-4611686018427387904 : Int64), 826) := by decide +kernel
theorem kl_9_287 : ma_fk 287 (mt_lt.getD 9 []) = some ((-4611686018427387904 : Int64), 1260) := by decide +kernel
theorem kl_9_300 : ma_fk 300 (mt_lt.getD 9 []) = some ((3 : Int64), 1292) := by decide +kernel
theorem kl_9_302 : ma_fk 302 (mt_lt.getD 9 []) = some ((2 : Int64), 1293) := by decide +kernel
theorem kn_5_66 : ma_fk 66 (mt_kt.getD 5 []) = none := by decide +kernel
theorem kn_5_68 : ma_fk 68 (mt_kt.getD 5 []) = none := by decide +kernel
theorem kn_5_70 : ma_fk 70 (mt_kt.getD 5 []) = none := by decide +kernel
theorem kn_5_72 : ma_fk 72 (mt_kt.getD 5 []) = none := by decide +kernel
theorem kn_5_74 : ma_fk 74 (mt_kt.getD 5 []) = none := by decide +kernel
theorem kn_5_76 : ma_fk 76 (mt_kt.getD 5 []) = none := by decide +kernel
theorem kn_5_78 : ma_fk 78 (mt_kt.getD 5 []) = none := by decide +kernel
theorem kn_5_80 : ma_fk 80 (mt_kt.getD 5 []) = none := by decide +kernel
theorem kn_5_82 : ma_fk 82 (mt_kt.getD 5 []) = none := by decide +kernel
theorem kn_5_84 : ma_fk 84 (mt_kt.getD 5 []) = none := by decide +kernel
theorem kn_5_86 : ma_fk 86 (mt_kt.getD 5 []) = none := by decide +kernel
theorem kn_5_88 : ma_fk 88 (mt_kt.getD 5 []) = none := by decide +kernel
theorem ks_5_66 : ma_fk 66 (mt_st.getD 5 []) = some (0, 426) := by decide +kernel
theorem ks_5_68 : ma_fk 68 (mt_st.getD 5 []) = some (1, 427) := by decide +kernel
theorem ks_5_70 : ma_fk 70 (mt_st.getD 5 []) = some (2, 428) := by decide +kernel
theorem ks_5_72 : ma_fk 72 (mt_st.getD 5 []) = some (3, 429) := by decide +kernel
theorem ks_5_74 : ma_fk 74 (mt_st.getD 5 []) = some (4, 430) := by decide +kernel
theorem ks_5_76 : ma_fk 76 (mt_st.getD 5 []) = some (5, 431) := by decide +kernel
theorem ks_5_78 : ma_fk 78 (mt_st.getD 5 []) = some (6, 432) := by decide +kernel
theorem ks_5_80 : ma_fk 80 (mt_st.getD 5 []) = some (7, 433) := by decide +kernel
theorem ks_5_82 : ma_fk 82 (mt_st.getD 5 []) = some (8, 434) := by decide +kernel
theorem ks_5_84 : ma_fk 84 (mt_st.getD 5 []) = some (9, 435) := by decide +kernel
theorem ks_5_86 : ma_fk 86 (mt_st.getD 5 []) = some (10, 436) := by decide +kernel
theorem ks_5_88 : ma_fk 88 (mt_st.getD 5 []) = some (11, 437) := by decide +kernel
theorem kt_11_265 : ma_fk 265 (mt_kt.getD 11 []) = some ((1431655765 : Int32), 661) := by decide +kernel
theorem kt_11_266 : ma_fk 266 (mt_kt.getD 11 []) = some ((858993459 : Int32), 662) := by decide +kernel
theorem kt_11_267 : ma_fk 267 (mt_kt.getD 11 []) = some ((252645135 : Int32), 663) := by decide +kernel
theorem kt_8_310 : ma_fk 310 (mt_kt.getD 8 []) = some ((1103515245 : Int32), 821) := by decide +kernel
theorem kt_9_283 : ma_fk 283 (mt_kt.getD 9 []) = some ((1103515245 : Int32), 1255) := by decide +kernel
theorem mi_0_170 : ma_in (0 : Int32) 170 := by unfold ma_in; decide +kernel
theorem mi_0_22 : ma_in (0 : Int32) 22 := by unfold ma_in; decide +kernel
theorem mi_0_24 : ma_in (0 : Int32) 24 := by unfold ma_in; decide +kernel
theorem mi_0_40 : ma_in (0 : Int32) 40 := by unfold ma_in; decide +kernel
theorem mi_0_6 : ma_in (0 : Int32) 6 := by unfold ma_in; decide +kernel
theorem mi_0_64 : ma_in (0 : Int32) 64 := by unfold ma_in; decide +kernel
theorem mi_0_8 : ma_in (0 : Int32) 8 := by unfold ma_in; decide +kernel
theorem mi_1_6 : ma_in (1 : Int32) 6 := by unfold ma_in; decide +kernel
theorem mi_1_64 : ma_in (1 : Int32) 64 := by unfold ma_in; decide +kernel
theorem mi_2_6 : ma_in (2 : Int32) 6 := by unfold ma_in; decide +kernel
theorem mi_2_64 : ma_in (2 : Int32) 64 := by unfold ma_in; decide +kernel
theorem mi_3_6 : ma_in (3 : Int32) 6 := by unfold ma_in; decide +kernel
theorem mi_3_64 : ma_in (3 : Int32) 64 := by unfold ma_in; decide +kernel
theorem mi_4_6 : ma_in (4 : Int32) 6 := by unfold ma_in; decide +kernel
theorem mi_5_6 : ma_in (5 : Int32) 6 := by unfold ma_in; decide +kernel
theorem mi_99_100 : ma_in (99 : Int32) 100 := by unfold ma_in; decide +kernel
theorem ow_1 : mt_own.getD 1 0 = 0 := by rfl
theorem ow_10 : mt_own.getD 10 0 = 1 := by rfl
theorem ow_100 : mt_own.getD 100 0 = 8 := by rfl
theorem ow_101 : mt_own.getD 101 0 = 8 := by rfl
theorem ow_103 : mt_own.getD 103 0 = 8 := by rfl
theorem ow_104 : mt_own.getD 104 0 = 8 := by rfl
theorem ow_105 : mt_own.getD 105 0 = 8 := by rfl
theorem ow_106 : mt_own.getD 106 0 = 8 := by rfl
theorem ow_107 : mt_own.getD 107 0 = 8 := by rfl
theorem ow_108 : mt_own.getD 108 0 = 8 := by rfl
theorem ow_109 : mt_own.getD 109 0 = 8 := by rfl
theorem ow_11 : mt_own.getD 11 0 = 1 := by rfl
theorem ow_110 : mt_own.getD 110 0 = 8 := by rfl
theorem ow_116 : mt_own.getD 116 0 = 8 := by rfl
theorem ow_117 : mt_own.getD 117 0 = 8 := by rfl
theorem ow_123 : mt_own.getD 123 0 = 9 := by rfl
theorem ow_124 : mt_own.getD 124 0 = 9 := by rfl
theorem ow_125 : mt_own.getD 125 0 = 9 := by rfl
theorem ow_126 : mt_own.getD 126 0 = 9 := by rfl
theorem ow_127 : mt_own.getD 127 0 = 9 := by rfl
theorem ow_128 : mt_own.getD 128 0 = 9 := by rfl
theorem ow_129 : mt_own.getD 129 0 = 9 := by rfl
theorem ow_13 : mt_own.getD 13 0 = 2 := by rfl
theorem ow_130 : mt_own.getD 130 0 = 9 := by rfl
theorem ow_132 : mt_own.getD 132 0 = 9 := by rfl
theorem ow_133 : mt_own.getD 133 0 = 9 := by rfl
theorem ow_134 : mt_own.getD 134 0 = 9 := by rfl
theorem ow_136 : mt_own.getD 136 0 = 9 := by rfl
theorem ow_137 : mt_own.getD 137 0 = 9 := by rfl
theorem ow_138 : mt_own.getD 138 0 = 9 := by rfl
theorem ow_139 : mt_own.getD 139 0 = 9 := by rfl
theorem ow_14 : mt_own.getD 14 0 = 2 := by rfl
theorem ow_140 : mt_own.getD 140 0 = 9 := by rfl
theorem ow_141 : mt_own.getD 141 0 = 9 := by rfl
theorem ow_142 : mt_own.getD 142 0 = 9 := by rfl
theorem ow_143 : mt_own.getD 143 0 = 9 := by rfl
theorem ow_144 : mt_own.getD 144 0 = 9 := by rfl
theorem ow_146 : mt_own.getD 146 0 = 9 := by rfl
theorem ow_147 : mt_own.getD 147 0 = 9 := by rfl
theorem ow_148 : mt_own.getD 148 0 = 9 := by rfl
theorem ow_149 : mt_own.getD 149 0 = 9 := by rfl
theorem ow_15 : mt_own.getD 15 0 = 2 := by rfl
theorem ow_150 : mt_own.getD 150 0 = 9 := by rfl
theorem ow_151 : mt_own.getD 151 0 = 9 := by rfl
theorem ow_152 : mt_own.getD 152 0 = 9 := by rfl
theorem ow_153 : mt_own.getD 153 0 = 9 := by rfl
theorem ow_154 : mt_own.getD 154 0 = 9 := by rfl
theorem ow_157 : mt_own.getD 157 0 = 9 := by rfl
theorem ow_158 : mt_own.getD 158 0 = 9 := by rfl
theorem ow_159 : mt_own.getD 159 0 = 9 := by rfl
theorem ow_16 : mt_own.getD 16 0 = 2 := by rfl
theorem ow_160 : mt_own.getD 160 0 = 9 := by rfl
theorem ow_161 : mt_own.getD 161 0 = 9 := by rfl
theorem ow_162 : mt_own.getD 162 0 = 9 := by rfl
theorem ow_163 : mt_own.getD 163 0 = 9 := by rfl
theorem ow_164 : mt_own.getD 164 0 = 9 := by rfl
theorem ow_165 : mt_own.getD 165 0 = 9 := by rfl
theorem ow_166 : mt_own.getD 166 0 = 9 := by rfl
theorem ow_167 : mt_own.getD 167 0 = 9 := by rfl
theorem ow_168 : mt_own.getD 168 0 = 9 := by rfl
theorem ow_169 : mt_own.getD 169 0 = 9 := by rfl
theorem ow_17 : mt_own.getD 17 0 = 2 := by rfl
theorem ow_170 : mt_own.getD 170 0 = 9 := by rfl
theorem ow_173 : mt_own.getD 173 0 = 9 := by rfl
theorem ow_175 : mt_own.getD 175 0 = 9 := by rfl
theorem ow_176 : mt_own.getD 176 0 = 9 := by rfl
theorem ow_177 : mt_own.getD 177 0 = 9 := by rfl
theorem ow_179 : mt_own.getD 179 0 = 9 := by rfl
theorem ow_18 : mt_own.getD 18 0 = 2 := by rfl
theorem ow_180 : mt_own.getD 180 0 = 9 := by rfl
theorem ow_181 : mt_own.getD 181 0 = 9 := by rfl
theorem ow_182 : mt_own.getD 182 0 = 9 := by rfl
theorem ow_183 : mt_own.getD 183 0 = 9 := by rfl
theorem ow_184 : mt_own.getD 184 0 = 11 := by rfl
theorem ow_185 : mt_own.getD 185 0 = 13 := by rfl
theorem ow_186 : mt_own.getD 186 0 = 13 := by rfl
theorem ow_187 : mt_own.getD 187 0 = 13 := by rfl
theorem ow_188 : mt_own.getD 188 0 = 13 := by rfl
theorem ow_189 : mt_own.getD 189 0 = 13 := by rfl
theorem ow_19 : mt_own.getD 19 0 = 2 := by rfl
theorem ow_2 : mt_own.getD 2 0 = 0 := by rfl
theorem ow_20 : mt_own.getD 20 0 = 2 := by rfl
theorem ow_21 : mt_own.getD 21 0 = 2 := by rfl
theorem ow_22 : mt_own.getD 22 0 = 2 := by rfl
theorem ow_23 : mt_own.getD 23 0 = 2 := by rfl
theorem ow_24 : mt_own.getD 24 0 = 2 := by rfl
theorem ow_26 : mt_own.getD 26 0 = 2 := by rfl
theorem ow_27 : mt_own.getD 27 0 = 2 := by rfl
theorem ow_28 : mt_own.getD 28 0 = 2 := by rfl
theorem ow_30 : mt_own.getD 30 0 = 3 := by rfl
theorem ow_31 : mt_own.getD 31 0 = 3 := by rfl
theorem ow_32 : mt_own.getD 32 0 = 3 := by rfl
theorem ow_33 : mt_own.getD 33 0 = 3 := by rfl
theorem ow_34 : mt_own.getD 34 0 = 3 := by rfl
theorem ow_35 : mt_own.getD 35 0 = 3 := by rfl
theorem ow_36 : mt_own.getD 36 0 = 3 := by rfl
theorem ow_38 : mt_own.getD 38 0 = 4 := by rfl
theorem ow_39 : mt_own.getD 39 0 = 4 := by rfl
theorem ow_4 : mt_own.getD 4 0 = 1 := by rfl
theorem ow_40 : mt_own.getD 40 0 = 4 := by rfl
theorem ow_41 : mt_own.getD 41 0 = 4 := by rfl
theorem ow_43 : mt_own.getD 43 0 = 5 := by rfl
theorem ow_44 : mt_own.getD 44 0 = 5 := by rfl
theorem ow_45 : mt_own.getD 45 0 = 5 := by rfl
theorem ow_46 : mt_own.getD 46 0 = 5 := by rfl
theorem ow_47 : mt_own.getD 47 0 = 5 := by rfl
theorem ow_48 : mt_own.getD 48 0 = 5 := by rfl
theorem ow_5 : mt_own.getD 5 0 = 1 := by rfl
theorem ow_50 : mt_own.getD 50 0 = 5 := by rfl
theorem ow_52 : mt_own.getD 52 0 = 6 := by rfl
theorem ow_53 : mt_own.getD 53 0 = 6 := by rfl
theorem ow_54 : mt_own.getD 54 0 = 6 := by rfl
theorem ow_55 : mt_own.getD 55 0 = 6 := by rfl
theorem ow_57 : mt_own.getD 57 0 = 7 := by rfl
theorem ow_58 : mt_own.getD 58 0 = 7 := by rfl
theorem ow_59 : mt_own.getD 59 0 = 7 := by rfl
theorem ow_6 : mt_own.getD 6 0 = 1 := by rfl
theorem ow_60 : mt_own.getD 60 0 = 7 := by rfl
theorem ow_61 : mt_own.getD 61 0 = 7 := by rfl
theorem ow_62 : mt_own.getD 62 0 = 7 := by rfl
theorem ow_64 : mt_own.getD 64 0 = 8 := by rfl
theorem ow_66 : mt_own.getD 66 0 = 8 := by rfl
theorem ow_67 : mt_own.getD 67 0 = 8 := by rfl
theorem ow_68 : mt_own.getD 68 0 = 8 := by rfl
theorem ow_69 : mt_own.getD 69 0 = 8 := by rfl
theorem ow_7 : mt_own.getD 7 0 = 1 := by rfl
theorem ow_70 : mt_own.getD 70 0 = 8 := by rfl
theorem ow_71 : mt_own.getD 71 0 = 8 := by rfl
theorem ow_72 : mt_own.getD 72 0 = 8 := by rfl
theorem ow_73 : mt_own.getD 73 0 = 8 := by rfl
theorem ow_74 : mt_own.getD 74 0 = 8 := by rfl
theorem ow_75 : mt_own.getD 75 0 = 8 := by rfl
theorem ow_76 : mt_own.getD 76 0 = 8 := by rfl
theorem ow_77 : mt_own.getD 77 0 = 8 := by rfl
theorem ow_78 : mt_own.getD 78 0 = 8 := by rfl
theorem ow_79 : mt_own.getD 79 0 = 8 := by rfl
theorem ow_8 : mt_own.getD 8 0 = 1 := by rfl
theorem ow_80 : mt_own.getD 80 0 = 8 := by rfl
theorem ow_81 : mt_own.getD 81 0 = 8 := by rfl
theorem ow_82 : mt_own.getD 82 0 = 8 := by rfl
theorem ow_83 : mt_own.getD 83 0 = 8 := by rfl
theorem ow_84 : mt_own.getD 84 0 = 8 := by rfl
theorem ow_85 : mt_own.getD 85 0 = 8 := by rfl
theorem ow_86 : mt_own.getD 86 0 = 8 := by rfl
theorem ow_87 : mt_own.getD 87 0 = 8 := by rfl
theorem ow_88 : mt_own.getD 88 0 = 8 := by rfl
theorem ow_89 : mt_own.getD 89 0 = 8 := by rfl
theorem ow_9 : mt_own.getD 9 0 = 1 := by rfl
theorem ow_90 : mt_own.getD 90 0 = 8 := by rfl
theorem ow_91 : mt_own.getD 91 0 = 8 := by rfl
theorem ow_92 : mt_own.getD 92 0 = 8 := by rfl
theorem ow_95 : mt_own.getD 95 0 = 8 := by rfl
theorem ow_96 : mt_own.getD 96 0 = 8 := by rfl
theorem ow_97 : mt_own.getD 97 0 = 8 := by rfl
theorem ow_98 : mt_own.getD 98 0 = 8 := by rfl
theorem rt_1 : mt_ret.getD 1 none = none := by rfl
theorem rt_10 : mt_ret.getD 10 none = (some .boolean) := by rfl
theorem rt_100 : mt_ret.getD 100 none = (some .int) := by rfl
theorem rt_101 : mt_ret.getD 101 none = (some .long) := by rfl
theorem rt_102 : mt_ret.getD 102 none = (some .int) := by rfl
theorem rt_103 : mt_ret.getD 103 none = (some .int) := by rfl
theorem rt_104 : mt_ret.getD 104 none = (some .int) := by rfl
theorem rt_105 : mt_ret.getD 105 none = (some .int) := by rfl
theorem rt_106 : mt_ret.getD 106 none = (some .int) := by rfl
theorem rt_107 : mt_ret.getD 107 none = (some .int) := by rfl
theorem rt_108 : mt_ret.getD 108 none = (some .int) := by rfl
theorem rt_109 : mt_ret.getD 109 none = (some .int) := by rfl
theorem rt_11 : mt_ret.getD 11 none = (some .int) := by rfl
theorem rt_110 : mt_ret.getD 110 none = (some .int) := by rfl
theorem rt_111 : mt_ret.getD 111 none = (some .boolean) := by rfl
theorem rt_112 : mt_ret.getD 112 none = (some .boolean) := by rfl
theorem rt_113 : mt_ret.getD 113 none = (some .boolean) := by rfl
theorem rt_114 : mt_ret.getD 114 none = (some .boolean) := by rfl
theorem rt_115 : mt_ret.getD 115 none = (some .boolean) := by rfl
theorem rt_116 : mt_ret.getD 116 none = (some .boolean) := by rfl
theorem rt_117 : mt_ret.getD 117 none = (some .boolean) := by rfl
theorem rt_118 : mt_ret.getD 118 none = (some .boolean) := by rfl
theorem rt_119 : mt_ret.getD 119 none = (some .int) := by rfl
theorem rt_120 : mt_ret.getD 120 none = (some .int) := by rfl
theorem rt_121 : mt_ret.getD 121 none = (some .boolean) := by rfl
theorem rt_122 : mt_ret.getD 122 none = (some .boolean) := by rfl
theorem rt_123 : mt_ret.getD 123 none = (some .boolean) := by rfl
theorem rt_124 : mt_ret.getD 124 none = (some .int) := by rfl
theorem rt_125 : mt_ret.getD 125 none = none := by rfl
theorem rt_126 : mt_ret.getD 126 none = (some .int) := by rfl
theorem rt_127 : mt_ret.getD 127 none = (some .int) := by rfl
theorem rt_128 : mt_ret.getD 128 none = (some .boolean) := by rfl
theorem rt_129 : mt_ret.getD 129 none = (some .int) := by rfl
theorem rt_13 : mt_ret.getD 13 none = none := by rfl
theorem rt_130 : mt_ret.getD 130 none = (some .int) := by rfl
theorem rt_131 : mt_ret.getD 131 none = (some .int) := by rfl
theorem rt_132 : mt_ret.getD 132 none = (some .boolean) := by rfl
theorem rt_133 : mt_ret.getD 133 none = (some .int) := by rfl
theorem rt_134 : mt_ret.getD 134 none = (some .int) := by rfl
theorem rt_135 : mt_ret.getD 135 none = (some .int) := by rfl
theorem rt_136 : mt_ret.getD 136 none = (some .int) := by rfl
theorem rt_137 : mt_ret.getD 137 none = (some .boolean) := by rfl
theorem rt_138 : mt_ret.getD 138 none = (some .boolean) := by rfl
theorem rt_139 : mt_ret.getD 139 none = none := by rfl
theorem rt_14 : mt_ret.getD 14 none = (some .int) := by rfl
theorem rt_140 : mt_ret.getD 140 none = none := by rfl
theorem rt_141 : mt_ret.getD 141 none = none := by rfl
theorem rt_142 : mt_ret.getD 142 none = (some .boolean) := by rfl
theorem rt_143 : mt_ret.getD 143 none = (some .boolean) := by rfl
theorem rt_144 : mt_ret.getD 144 none = none := by rfl
theorem rt_145 : mt_ret.getD 145 none = (some .int) := by rfl
theorem rt_146 : mt_ret.getD 146 none = none := by rfl
theorem rt_147 : mt_ret.getD 147 none = none := by rfl
theorem rt_148 : mt_ret.getD 148 none = (some .boolean) := by rfl
theorem rt_149 : mt_ret.getD 149 none = (some .boolean) := by rfl
theorem rt_15 : mt_ret.getD 15 none = (some .int) := by rfl
theorem rt_150 : mt_ret.getD 150 none = (some .boolean) := by rfl
theorem rt_151 : mt_ret.getD 151 none = (some .boolean) := by rfl
theorem rt_152 : mt_ret.getD 152 none = (some .int) := by rfl
theorem rt_153 : mt_ret.getD 153 none = (some .int) := by rfl
theorem rt_154 : mt_ret.getD 154 none = (some .int) := by rfl
theorem rt_156 : mt_ret.getD 156 none = (some .int) := by rfl
theorem rt_157 : mt_ret.getD 157 none = (some .int) := by rfl
theorem rt_158 : mt_ret.getD 158 none = none := by rfl
theorem rt_159 : mt_ret.getD 159 none = (some .int) := by rfl
theorem rt_16 : mt_ret.getD 16 none = none := by rfl
theorem rt_160 : mt_ret.getD 160 none = (some .int) := by rfl
theorem rt_161 : mt_ret.getD 161 none = (some .int) := by rfl
theorem rt_162 : mt_ret.getD 162 none = (some .int) := by rfl
theorem rt_163 : mt_ret.getD 163 none = (some .int) := by rfl
theorem rt_164 : mt_ret.getD 164 none = (some .int) := by rfl
theorem rt_165 : mt_ret.getD 165 none = (some .int) := by rfl
theorem rt_166 : mt_ret.getD 166 none = (some .int) := by rfl
theorem rt_167 : mt_ret.getD 167 none = none := by rfl
theorem rt_168 : mt_ret.getD 168 none = (some .int) := by rfl
theorem rt_169 : mt_ret.getD 169 none = (some .int) := by rfl
theorem rt_17 : mt_ret.getD 17 none = none := by rfl
theorem rt_170 : mt_ret.getD 170 none = (some .int) := by rfl
theorem rt_171 : mt_ret.getD 171 none = (some .int) := by rfl
theorem rt_172 : mt_ret.getD 172 none = (some .long) := by rfl
theorem rt_173 : mt_ret.getD 173 none = (some .long) := by rfl
theorem rt_174 : mt_ret.getD 174 none = none := by rfl
theorem rt_175 : mt_ret.getD 175 none = (some .int) := by rfl
theorem rt_176 : mt_ret.getD 176 none = (some .int) := by rfl
theorem rt_177 : mt_ret.getD 177 none = (some .int) := by rfl
theorem rt_178 : mt_ret.getD 178 none = (some .boolean) := by rfl
theorem rt_179 : mt_ret.getD 179 none = (some .int) := by rfl
theorem rt_18 : mt_ret.getD 18 none = none := by rfl
theorem rt_180 : mt_ret.getD 180 none = (some .int) := by rfl
theorem rt_181 : mt_ret.getD 181 none = (some .int) := by rfl
theorem rt_182 : mt_ret.getD 182 none = (some .int) := by rfl
theorem rt_183 : mt_ret.getD 183 none = (some .int) := by rfl
theorem rt_184 : mt_ret.getD 184 none = (some .int) := by rfl
theorem rt_185 : mt_ret.getD 185 none = (some .int) := by rfl
theorem rt_186 : mt_ret.getD 186 none = (some .char) := by rfl
theorem rt_187 : mt_ret.getD 187 none = (some .byte) := by rfl
theorem rt_188 : mt_ret.getD 188 none = (some .boolean) := by rfl
theorem rt_189 : mt_ret.getD 189 none = none := by rfl
theorem rt_19 : mt_ret.getD 19 none = (some .int) := by rfl
theorem rt_190 : mt_ret.getD 190 none = (some .char) := by rfl
theorem rt_191 : mt_ret.getD 191 none = (some .int) := by rfl
theorem rt_192 : mt_ret.getD 192 none = (some .boolean) := by rfl
theorem rt_2 : mt_ret.getD 2 none = none := by rfl
theorem rt_20 : mt_ret.getD 20 none = (some .int) := by rfl
theorem rt_21 : mt_ret.getD 21 none = (some .int) := by rfl
theorem rt_22 : mt_ret.getD 22 none = (some .int) := by rfl
theorem rt_23 : mt_ret.getD 23 none = (some .int) := by rfl
theorem rt_24 : mt_ret.getD 24 none = none := by rfl
theorem rt_25 : mt_ret.getD 25 none = (some .int) := by rfl
theorem rt_26 : mt_ret.getD 26 none = none := by rfl
theorem rt_27 : mt_ret.getD 27 none = (some .int) := by rfl
theorem rt_28 : mt_ret.getD 28 none = (some .int) := by rfl
theorem rt_30 : mt_ret.getD 30 none = (some .int) := by rfl
theorem rt_31 : mt_ret.getD 31 none = (some .boolean) := by rfl
theorem rt_32 : mt_ret.getD 32 none = (some .boolean) := by rfl
theorem rt_33 : mt_ret.getD 33 none = (some .boolean) := by rfl
theorem rt_34 : mt_ret.getD 34 none = (some .boolean) := by rfl
theorem rt_35 : mt_ret.getD 35 none = (some .boolean) := by rfl
theorem rt_36 : mt_ret.getD 36 none = (some .boolean) := by rfl
theorem rt_38 : mt_ret.getD 38 none = none := by rfl
theorem rt_39 : mt_ret.getD 39 none = none := by rfl
theorem rt_4 : mt_ret.getD 4 none = none := by rfl
theorem rt_40 : mt_ret.getD 40 none = (some .boolean) := by rfl
theorem rt_41 : mt_ret.getD 41 none = (some .boolean) := by rfl
theorem rt_43 : mt_ret.getD 43 none = none := by rfl
theorem rt_44 : mt_ret.getD 44 none = none := by rfl
theorem rt_45 : mt_ret.getD 45 none = none := by rfl
theorem rt_46 : mt_ret.getD 46 none = none := by rfl
theorem rt_47 : mt_ret.getD 47 none = none := by rfl
theorem rt_48 : mt_ret.getD 48 none = (some .boolean) := by rfl
theorem rt_49 : mt_ret.getD 49 none = (some .boolean) := by rfl
theorem rt_5 : mt_ret.getD 5 none = none := by rfl
theorem rt_50 : mt_ret.getD 50 none = (some (.object "java/lang/String")) := by rfl
theorem rt_52 : mt_ret.getD 52 none = none := by rfl
theorem rt_53 : mt_ret.getD 53 none = none := by rfl
theorem rt_54 : mt_ret.getD 54 none = none := by rfl
theorem rt_55 : mt_ret.getD 55 none = (some .int) := by rfl
theorem rt_57 : mt_ret.getD 57 none = none := by rfl
theorem rt_58 : mt_ret.getD 58 none = none := by rfl
theorem rt_59 : mt_ret.getD 59 none = none := by rfl
theorem rt_6 : mt_ret.getD 6 none = (some .int) := by rfl
theorem rt_60 : mt_ret.getD 60 none = (some .int) := by rfl
theorem rt_61 : mt_ret.getD 61 none = (some .int) := by rfl
theorem rt_62 : mt_ret.getD 62 none = (some .boolean) := by rfl
theorem rt_64 : mt_ret.getD 64 none = (some .int) := by rfl
theorem rt_65 : mt_ret.getD 65 none = (some .int) := by rfl
theorem rt_66 : mt_ret.getD 66 none = (some .int) := by rfl
theorem rt_67 : mt_ret.getD 67 none = (some .int) := by rfl
theorem rt_68 : mt_ret.getD 68 none = (some .int) := by rfl
theorem rt_69 : mt_ret.getD 69 none = (some .int) := by rfl
theorem rt_7 : mt_ret.getD 7 none = (some .boolean) := by rfl
theorem rt_70 : mt_ret.getD 70 none = (some .int) := by rfl
theorem rt_71 : mt_ret.getD 71 none = (some .int) := by rfl
theorem rt_72 : mt_ret.getD 72 none = (some .int) := by rfl
theorem rt_73 : mt_ret.getD 73 none = (some .int) := by rfl
theorem rt_74 : mt_ret.getD 74 none = (some .int) := by rfl
theorem rt_75 : mt_ret.getD 75 none = (some .int) := by rfl
theorem rt_76 : mt_ret.getD 76 none = (some .int) := by rfl
theorem rt_77 : mt_ret.getD 77 none = none := by rfl
theorem rt_78 : mt_ret.getD 78 none = (some .int) := by rfl
theorem rt_79 : mt_ret.getD 79 none = (some .int) := by rfl
theorem rt_8 : mt_ret.getD 8 none = none := by rfl
theorem rt_80 : mt_ret.getD 80 none = (some .int) := by rfl
theorem rt_81 : mt_ret.getD 81 none = (some .int) := by rfl
theorem rt_82 : mt_ret.getD 82 none = (some .int) := by rfl
theorem rt_83 : mt_ret.getD 83 none = (some .int) := by rfl
theorem rt_84 : mt_ret.getD 84 none = (some .int) := by rfl
theorem rt_85 : mt_ret.getD 85 none = (some .int) := by rfl
theorem rt_86 : mt_ret.getD 86 none = (some .int) := by rfl
theorem rt_87 : mt_ret.getD 87 none = (some .boolean) := by rfl
theorem rt_88 : mt_ret.getD 88 none = (some .int) := by rfl
theorem rt_89 : mt_ret.getD 89 none = (some .int) := by rfl
theorem rt_9 : mt_ret.getD 9 none = (some .boolean) := by rfl
theorem rt_90 : mt_ret.getD 90 none = (some .int) := by rfl
theorem rt_91 : mt_ret.getD 91 none = (some .int) := by rfl
theorem rt_92 : mt_ret.getD 92 none = (some .boolean) := by rfl
theorem rt_93 : mt_ret.getD 93 none = (some .int) := by rfl
theorem rt_94 : mt_ret.getD 94 none = (some .int) := by rfl
theorem rt_95 : mt_ret.getD 95 none = (some .int) := by rfl
theorem rt_96 : mt_ret.getD 96 none = (some .int) := by rfl
theorem rt_97 : mt_ret.getD 97 none = (some .int) := by rfl
theorem rt_98 : mt_ret.getD 98 none = (some .int) := by rfl
theorem rt_99 : mt_ret.getD 99 none = (some .int) := by rfl
theorem sp_1000 : (Int16.ofInt (1000)).toInt32 = (1000 : Int32) := by decide +kernel
theorem sp_10000 : (Int16.ofInt (10000)).toInt32 = (10000 : Int32) := by decide +kernel
theorem sp_10010 : (Int16.ofInt (10010)).toInt32 = (10010 : Int32) := by decide +kernel
theorem sp_10011 : (Int16.ofInt (10011)).toInt32 = (10011 : Int32) := by decide +kernel
theorem sp_10012 : (Int16.ofInt (10012)).toInt32 = (10012 : Int32) := by decide +kernel
theorem sp_10013 : (Int16.ofInt (10013)).toInt32 = (10013 : Int32) := by decide +kernel
theorem sp_10014 : (Int16.ofInt (10014)).toInt32 = (10014 : Int32) := by decide +kernel
theorem sp_10015 : (Int16.ofInt (10015)).toInt32 = (10015 : Int32) := by decide +kernel
theorem sp_10016 : (Int16.ofInt (10016)).toInt32 = (10016 : Int32) := by decide +kernel
theorem sp_10017 : (Int16.ofInt (10017)).toInt32 = (10017 : Int32) := by decide +kernel
theorem sp_10018 : (Int16.ofInt (10018)).toInt32 = (10018 : Int32) := by decide +kernel
theorem sp_12345 : (Int16.ofInt (12345)).toInt32 = (12345 : Int32) := by decide +kernel
theorem sp_160 : (Int16.ofInt (160)).toInt32 = (160 : Int32) := by decide +kernel
theorem sp_255 : (Int16.ofInt (255)).toInt32 = (255 : Int32) := by decide +kernel
theorem sp_999 : (Int16.ofInt (999)).toInt32 = (999 : Int32) := by decide +kernel
theorem sp_9999 : (Int16.ofInt (9999)).toInt32 = (9999 : Int32) := by decide +kernel
theorem tk_105_1 : xv_tk 1 87 (0) (5) [39, 47, 55, 63, 71, 79] = true := by decide +kernel
theorem tk_11_4 : xv_tk 4 52 (1) (4) [32, 52, 39, 48] = true := by decide +kernel
theorem tk_127_74 : xv_tk 74 84 (1) (7) [42, 49, 56, 63, 70, 84, 77] = true := by decide +kernel
theorem tk_128_1 : xv_tk 1 126 (0) (5) [39, 47, 55, 78, 101, 113] = true := by decide +kernel
theorem tk_129_44 : xv_tk 44 98 (0) (5) [40, 48, 58, 68, 78, 88] = true := by decide +kernel
theorem tk_132_43 : xv_tk 43 122 (2) (5) [29, 44, 64, 106] = true := by decide +kernel
theorem tk_156_1 : xv_tk 1 91 (11) (17) [77, 91, 55, 66, 43, 47, 51] = true := by decide +kernel
theorem tk_160_48 : xv_tk 48 72 (0) (4) [36, 41, 46, 58, 65] = true := by decide +kernel
theorem tk_177_1 : xv_tk 1 69 (0) (5) [39, 44, 49, 54, 59, 64] = true := by decide +kernel
theorem tk_192_33 : xv_tk 33 1028 (0) (25) [119, 152, 195, 238, 271, 294, 337, 360, 373, 396, 439, 472, 505, 548, 571, 604, 647, 680, 744, 757, 770, 793, 836, 879, 942, 995] = true := by decide +kernel
theorem tk_49_1 : xv_tk 1 105 (40) (61) [103, 103, 103, 103, 105, 103, 105, 105, 105, 105, 105, 105, 105, 105, 105, 105, 105, 105, 105, 103, 103, 103] = true := by decide +kernel
theorem tk_50_1 : xv_tk 1 92 (0) (10) [59, 62, 65, 68, 71, 74, 77, 80, 83, 86, 89] = true := by decide +kernel
theorem tk_55_79 : xv_tk 79 176 (10010) (10018) [49, 57, 72, 92, 112, 129, 146, 156, 166] = true := by decide +kernel
theorem tk_6_1 : xv_tk 1 73 (1) (7) [43, 48, 53, 58, 63, 73, 68] = true := by decide +kernel
theorem tk_75_44 : xv_tk 44 76 (0) (4) [36, 44, 52, 60, 68] = true := by decide +kernel
theorem tk_76_11 : xv_tk 11 80 (0) (5) [37, 50, 56, 62, 68, 74] = true := by decide +kernel
theorem tk_7_1 : xv_tk 1 106 (1) (5) [35, 43, 64, 85, 95] = true := by decide +kernel
theorem tk_8_1 : xv_tk 1 75 (1) (5) [35, 43, 51, 59, 67] = true := by decide +kernel
theorem tk_91_78 : xv_tk 78 58 (0) (3) [30, 37, 44, 51] = true := by decide +kernel
theorem tk_9_17 : xv_tk 17 121 (2) (5) [31, 49, 67, 107] = true := by decide +kernel
