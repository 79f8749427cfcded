def PLs : List (List (Nat × List Instr)) := [P0, P1, P2, P3, P4, P5, P6, P7, P8, P9, P10, P11, P12, P13, P14, P15, P16, P17, P18, P19, P20, P21, P22, P23, P24, P25, P26, P27, P28, P29, P30, P31, P32, P33, P34, P35, P36, P37, P38, P39, P40, P41, P42, P43, P44, P45, P46, P47, P48, P49, P50, P51, P52, P53, P54, P55, P56, P57, P58, P59, P60, P61, P62, P63, P64, P65, P66, P67, P68, P69, P70, P71, P72, P73, P74, P75, P76, P77, P78, P79, P80, P81, P82, P83, P84, P85, P86, P87, P88, P89, P90, P91, P92, P93, P94, P95, P96, P97, P98, P99, P100, P101, P102, P103, P104, P105, P106, P107, P108, P109, P110, P111, P112, P113, P114, P115, P116, P117, P118, P119, P120, P121, P122, P123, P124, P125, P126, P127, P128, P129, P130, P131, P132, P133, P134, P135, P136, P137, P138, P139, P140, P141, P142, P143, P144, P145, P146, P147, P148, P149, P150, P151, P152, P153, P154, P155, P156, P157, P158, P159, P160, P161, P162, P163, P164, P165, P166, P167, P168, P169, P170, P171, P172, P173, P174, P175, P176, P177, P178, P179, P180, P181, P182, P183, P184, P185, P186, P187, P188, P189, P190, P191, P192, P193, P194, P195, P196, P197, P198, P199, P200, P201, P202, P203, P204, P205, P206, P207, P208, P209, P210, P211, P212, P213, P214, P215, P216, P217, P218, P219, P220, P221, P222, P223, P224, P225, P226, P227, P228, P229, P230, P231, P232, P233, P234, P235, P236, P237, P238, P239, P240, P241, P242, P243, P244, P245, P246, P247, P248, P249, P250, P251, P252, P253, P254, P255, P256, P257, P258, P259, P260, P261, P262, P263, P264, P265, P266, P267, P268, P269, P270, P271, P272, P273, P274, P275, P276, P277, P278, P279, P280, P281, P282, P283, P284, P285, P286, P287, P288, P289, P290]
def PL (j : Nat) : List (Nat × List Instr) := PLs.getD j []
def inL : List Bool := [true, false, false, false, false, true, false, false, false, false, false, false, true, false, false, false, false, true, false, false, false, false, false, true, false, false, false, true, false, false, false, false, false, false, false, false, false, false, false, false, false, false, true, false, false, false, false, false, false, true, false, false, false, false, false, false, false, false, false, false, false, true, false, false, false, false, false, true, false, false, false, false, false, false, false, false, false, false, false, false, false, false, false, false, false, false, false, true, false, false, false, false, false, false, false, false, false, false, false, false, false, false, false, false, false, false, false, true, false, false, false, false, false, false, false, false, false, false, false, false, false, false, false, false, false, false, false, false, false, false, false, false, false, false, false, false, false, false, false, false, false, false, false, false, false, false, false, false, false, false, false, false, false, false, false, false, false, false, false, false, false, false, true, false, false, false, false, false, false, false, false, false, false, false, false, false, false, false, false, false, false, false, false, false, false, false, false, false, false, false, false, false, false, false, false, false, false, false, false, false, false, false, false, false, false, false, false, false, false, false, false, false, false, false, false, false, false, false, false, false, false, false, false, false, false, false, false, false, false, false, false, false, false, false, false, false, false, false, false, false, false, false, false, false, false, false, false, false, false, false, false, false, false, false, false, false, false, false, false, false, false, false, false, false, false, false, false, false, false, false, false, false, false, false, false, false, false, false, false, false, false, false, false, false, false, false, false, false, false, false, false, false]
def inj (j : Nat) : Bool := inL.getD j false
theorem inj_ok : ∀ j, j < 292 → inj j = true → (yy j).name = "<init>" := by decide +kernel
def ckQ (j : Nat) : Bool := ckP (ow j) (inj j) (bb j) (PL j)
theorem kq_0 : ckQ 0 = true := K0
theorem kq_1 : ckQ 1 = true := K1
theorem kq_2 : ckQ 2 = true := K2
theorem kq_3 : ckQ 3 = true := K3
theorem kq_4 : ckQ 4 = true := K4
theorem kq_5 : ckQ 5 = true := K5
theorem kq_6 : ckQ 6 = true := K6
theorem kq_7 : ckQ 7 = true := K7
theorem kq_8 : ckQ 8 = true := K8
theorem kq_9 : ckQ 9 = true := K9
theorem kq_10 : ckQ 10 = true := K10
theorem kq_11 : ckQ 11 = true := K11
theorem kq_12 : ckQ 12 = true := K12
theorem kq_13 : ckQ 13 = true := K13
theorem kq_14 : ckQ 14 = true := K14
theorem kq_15 : ckQ 15 = true := K15
theorem kq_16 : ckQ 16 = true := K16
theorem kq_17 : ckQ 17 = true := K17
theorem kq_18 : ckQ 18 = true := K18
theorem kq_19 : ckQ 19 = true := K19
theorem kq_20 : ckQ 20 = true := K20
theorem kq_21 : ckQ 21 = true := K21
theorem kq_22 : ckQ 22 = true := K22
theorem kq_23 : ckQ 23 = true := K23
theorem kq_24 : ckQ 24 = true := K24
theorem kq_25 : ckQ 25 = true := K25
theorem kq_26 : ckQ 26 = true := K26
theorem kq_27 : ckQ 27 = true := K27
theorem kq_28 : ckQ 28 = true := K28
theorem kq_29 : ckQ 29 = true := K29
theorem kq_30 : ckQ 30 = true := K30
theorem kq_31 : ckQ 31 = true := K31
theorem kq_32 : ckQ 32 = true := K32
theorem kq_33 : ckQ 33 = true := K33
theorem kq_34 : ckQ 34 = true := K34
theorem kq_35 : ckQ 35 = true := K35
theorem kq_36 : ckQ 36 = true := K36
theorem kq_37 : ckQ 37 = true := K37
theorem kq_38 : ckQ 38 = true := K38
theorem kq_39 : ckQ 39 = true := K39
theorem kq_40 : ckQ 40 = true := K40
theorem kq_41 : ckQ 41 = true := K41
theorem kq_42 : ckQ 42 = true := K42
theorem kq_43 : ckQ 43 = true := K43
theorem kq_44 : ckQ 44 = true := K44
theorem kq_45 : ckQ 45 = true := K45
theorem kq_46 : ckQ 46 = true := K46
theorem kq_47 : ckQ 47 = true := K47
theorem kq_48 : ckQ 48 = true := K48
theorem kq_49 : ckQ 49 = true := K49
theorem kq_50 : ckQ 50 = true := K50
theorem kq_51 : ckQ 51 = true := K51
theorem kq_52 : ckQ 52 = true := K52
theorem kq_53 : ckQ 53 = true := K53
theorem kq_54 : ckQ 54 = true := K54
theorem kq_55 : ckQ 55 = true := K55
theorem kq_56 : ckQ 56 = true := K56
theorem kq_57 : ckQ 57 = true := K57
theorem kq_58 : ckQ 58 = true := K58
theorem kq_59 : ckQ 59 = true := K59
theorem kq_60 : ckQ 60 = true := K60
theorem kq_61 : ckQ 61 = true := K61
theorem kq_62 : ckQ 62 = true := K62
theorem kq_63 : ckQ 63 = true := K63
theorem kq_64 : ckQ 64 = true := K64
theorem kq_65 : ckQ 65 = true := K65
theorem kq_66 : ckQ 66 = true := K66
theorem kq_67 : ckQ 67 = true := K67
theorem kq_68 : ckQ 68 = true := K68
theorem kq_69 : ckQ 69 = true := K69
theorem kq_70 : ckQ 70 = true := K70
theorem kq_71 : ckQ 71 = true := K71
theorem kq_72 : ckQ 72 = true := K72
theorem kq_73 : ckQ 73 = true := K73
theorem kq_74 : ckQ 74 = true := K74
theorem kq_75 : ckQ 75 = true := K75
theorem kq_76 : ckQ 76 = true := K76
theorem kq_77 : ckQ 77 = true := K77
theorem kq_78 : ckQ 78 = true := K78
theorem kq_79 : ckQ 79 = true := K79
theorem kq_80 : ckQ 80 = true := K80
theorem kq_81 : ckQ 81 = true := K81
theorem kq_82 : ckQ 82 = true := K82
theorem kq_83 : ckQ 83 = true := K83
theorem kq_84 : ckQ 84 = true := K84
theorem kq_85 : ckQ 85 = true := K85
theorem kq_86 : ckQ 86 = true := K86
theorem kq_87 : ckQ 87 = true := K87
theorem kq_88 : ckQ 88 = true := K88
theorem kq_89 : ckQ 89 = true := K89
theorem kq_90 : ckQ 90 = true := K90
theorem kq_91 : ckQ 91 = true := K91
theorem kq_92 : ckQ 92 = true := K92
theorem kq_93 : ckQ 93 = true := K93
theorem kq_94 : ckQ 94 = true := K94
theorem kq_95 : ckQ 95 = true := K95
theorem kq_96 : ckQ 96 = true := K96
theorem kq_97 : ckQ 97 = true := K97
theorem kq_98 : ckQ 98 = true := K98
theorem kq_99 : ckQ 99 = true := K99
theorem kq_100 : ckQ 100 = true := K100
theorem kq_101 : ckQ 101 = true := K101
theorem kq_102 : ckQ 102 = true := K102
theorem kq_103 : ckQ 103 = true := K103
theorem kq_104 : ckQ 104 = true := K104
theorem kq_105 : ckQ 105 = true := K105
theorem kq_106 : ckQ 106 = true := K106
theorem kq_107 : ckQ 107 = true := K107
theorem kq_108 : ckQ 108 = true := K108
theorem kq_109 : ckQ 109 = true := K109
theorem kq_110 : ckQ 110 = true := K110
theorem kq_111 : ckQ 111 = true := K111
theorem kq_112 : ckQ 112 = true := K112
theorem kq_113 : ckQ 113 = true := K113
theorem kq_114 : ckQ 114 = true := K114
theorem kq_115 : ckQ 115 = true := K115
theorem kq_116 : ckQ 116 = true := K116
theorem kq_117 : ckQ 117 = true := K117
theorem kq_118 : ckQ 118 = true := K118
theorem kq_119 : ckQ 119 = true := K119
theorem kq_120 : ckQ 120 = true := K120
theorem kq_121 : ckQ 121 = true := K121
theorem kq_122 : ckQ 122 = true := K122
theorem kq_123 : ckQ 123 = true := K123
theorem kq_124 : ckQ 124 = true := K124
theorem kq_125 : ckQ 125 = true := K125
theorem kq_126 : ckQ 126 = true := K126
theorem kq_127 : ckQ 127 = true := K127
theorem kq_128 : ckQ 128 = true := K128
theorem kq_129 : ckQ 129 = true := K129
theorem kq_130 : ckQ 130 = true := K130
theorem kq_131 : ckQ 131 = true := K131
theorem kq_132 : ckQ 132 = true := K132
theorem kq_133 : ckQ 133 = true := K133
theorem kq_134 : ckQ 134 = true := K134
theorem kq_135 : ckQ 135 = true := K135
theorem kq_136 : ckQ 136 = true := K136
theorem kq_137 : ckQ 137 = true := K137
theorem kq_138 : ckQ 138 = true := K138
theorem kq_139 : ckQ 139 = true := K139
theorem kq_140 : ckQ 140 = true := K140
theorem kq_141 : ckQ 141 = true := K141
theorem kq_142 : ckQ 142 = true := K142
theorem kq_143 : ckQ 143 = true := K143
theorem kq_144 : ckQ 144 = true := K144
theorem kq_145 : ckQ 145 = true := K145
theorem kq_146 : ckQ 146 = true := K146
theorem kq_147 : ckQ 147 = true := K147
theorem kq_148 : ckQ 148 = true := K148
theorem kq_149 : ckQ 149 = true := K149
theorem kq_150 : ckQ 150 = true := K150
theorem kq_151 : ckQ 151 = true := K151
theorem kq_152 : ckQ 152 = true := K152
theorem kq_153 : ckQ 153 = true := K153
theorem kq_154 : ckQ 154 = true := K154
theorem kq_155 : ckQ 155 = true := K155
theorem kq_156 : ckQ 156 = true := K156
theorem kq_157 : ckQ 157 = true := K157
theorem kq_158 : ckQ 158 = true := K158
theorem kq_159 : ckQ 159 = true := K159
theorem kq_160 : ckQ 160 = true := K160
theorem kq_161 : ckQ 161 = true := K161
theorem kq_162 : ckQ 162 = true := K162
theorem kq_163 : ckQ 163 = true := K163
theorem kq_164 : ckQ 164 = true := K164
theorem kq_165 : ckQ 165 = true := K165
theorem kq_166 : ckQ 166 = true := K166
theorem kq_167 : ckQ 167 = true := K167
theorem kq_168 : ckQ 168 = true := K168
theorem kq_169 : ckQ 169 = true := K169
theorem kq_170 : ckQ 170 = true := K170
theorem kq_171 : ckQ 171 = true := K171
theorem kq_172 : ckQ 172 = true := K172
theorem kq_173 : ckQ 173 = true := K173
theorem kq_174 : ckQ 174 = true := K174
theorem kq_175 : ckQ 175 = true := K175
theorem kq_176 : ckQ 176 = true := K176
theorem kq_177 : ckQ 177 = true := K177
theorem kq_178 : ckQ 178 = true := K178
theorem kq_179 : ckQ 179 = true := K179
theorem kq_180 : ckQ 180 = true := K180
theorem kq_181 : ckQ 181 = true := K181
theorem kq_182 : ckQ 182 = true := K182
theorem kq_183 : ckQ 183 = true := K183
theorem kq_184 : ckQ 184 = true := K184
theorem kq_185 : ckQ 185 = true := K185
theorem kq_186 : ckQ 186 = true := K186
theorem kq_187 : ckQ 187 = true := K187
theorem kq_188 : ckQ 188 = true := K188
theorem kq_189 : ckQ 189 = true := K189
theorem kq_190 : ckQ 190 = true := K190
theorem kq_191 : ckQ 191 = true := K191
theorem kq_192 : ckQ 192 = true := K192
theorem kq_193 : ckQ 193 = true := K193
theorem kq_194 : ckQ 194 = true := K194
theorem kq_195 : ckQ 195 = true := K195
theorem kq_196 : ckQ 196 = true := K196
theorem kq_197 : ckQ 197 = true := K197
theorem kq_198 : ckQ 198 = true := K198
theorem kq_199 : ckQ 199 = true := K199
theorem kq_200 : ckQ 200 = true := K200
theorem kq_201 : ckQ 201 = true := K201
theorem kq_202 : ckQ 202 = true := K202
theorem kq_203 : ckQ 203 = true := K203
theorem kq_204 : ckQ 204 = true := K204
theorem kq_205 : ckQ 205 = true := K205
theorem kq_206 : ckQ 206 = true := K206
theorem kq_207 : ckQ 207 = true := K207
theorem kq_208 : ckQ 208 = true := K208
theorem kq_209 : ckQ 209 = true := K209
theorem kq_210 : ckQ 210 = true := K210
theorem kq_211 : ckQ 211 = true := K211
theorem kq_212 : ckQ 212 = true := K212
theorem kq_213 : ckQ 213 = true := K213
theorem kq_214 : ckQ 214 = true := K214
theorem kq_215 : ckQ 215 = true := K215
theorem kq_216 : ckQ 216 = true := K216
theorem kq_217 : ckQ 217 = true := K217
theorem kq_218 : ckQ 218 = true := K218
theorem kq_219 : ckQ 219 = true := K219
theorem kq_220 : ckQ 220 = true := K220
theorem kq_221 : ckQ 221 = true := K221
theorem kq_222 : ckQ 222 = true := K222
theorem kq_223 : ckQ 223 = true := K223
theorem kq_224 : ckQ 224 = true := K224
theorem kq_225 : ckQ 225 = true := K225
theorem kq_226 : ckQ 226 = true := K226
theorem kq_227 : ckQ 227 = true := K227
theorem kq_228 : ckQ 228 = true := K228
theorem kq_229 : ckQ 229 = true := K229
theorem kq_230 : ckQ 230 = true := K230
theorem kq_231 : ckQ 231 = true := K231
theorem kq_232 : ckQ 232 = true := K232
theorem kq_233 : ckQ 233 = true := K233
theorem kq_234 : ckQ 234 = true := K234
theorem kq_235 : ckQ 235 = true := K235
theorem kq_236 : ckQ 236 = true := K236
theorem kq_237 : ckQ 237 = true := K237
theorem kq_238 : ckQ 238 = true := K238
theorem kq_239 : ckQ 239 = true := K239
theorem kq_240 : ckQ 240 = true := K240
theorem kq_241 : ckQ 241 = true := K241
theorem kq_242 : ckQ 242 = true := K242
theorem kq_243 : ckQ 243 = true := K243
theorem kq_244 : ckQ 244 = true := K244
theorem kq_245 : ckQ 245 = true := K245
theorem kq_246 : ckQ 246 = true := K246
theorem kq_247 : ckQ 247 = true := K247
theorem kq_248 : ckQ 248 = true := K248
theorem kq_249 : ckQ 249 = true := K249
theorem kq_250 : ckQ 250 = true := K250
theorem kq_251 : ckQ 251 = true := K251
theorem kq_252 : ckQ 252 = true := K252
theorem kq_253 : ckQ 253 = true := K253
theorem kq_254 : ckQ 254 = true := K254
theorem kq_255 : ckQ 255 = true := K255
theorem kq_256 : ckQ 256 = true := K256
theorem kq_257 : ckQ 257 = true := K257
theorem kq_258 : ckQ 258 = true := K258
theorem kq_259 : ckQ 259 = true := K259
theorem kq_260 : ckQ 260 = true := K260
theorem kq_261 : ckQ 261 = true := K261
theorem kq_262 : ckQ 262 = true := K262
theorem kq_263 : ckQ 263 = true := K263
theorem kq_264 : ckQ 264 = true := K264
theorem kq_265 : ckQ 265 = true := K265
theorem kq_266 : ckQ 266 = true := K266
theorem kq_267 : ckQ 267 = true := K267
theorem kq_268 : ckQ 268 = true := K268
theorem kq_269 : ckQ 269 = true := K269
theorem kq_270 : ckQ 270 = true := K270
theorem kq_271 : ckQ 271 = true := K271
theorem kq_272 : ckQ 272 = true := K272
theorem kq_273 : ckQ 273 = true := K273
theorem kq_274 : ckQ 274 = true := K274
theorem kq_275 : ckQ 275 = true := K275
theorem kq_276 : ckQ 276 = true := K276
theorem kq_277 : ckQ 277 = true := K277
theorem kq_278 : ckQ 278 = true := K278
theorem kq_279 : ckQ 279 = true := K279
theorem kq_280 : ckQ 280 = true := K280
theorem kq_281 : ckQ 281 = true := K281
theorem kq_282 : ckQ 282 = true := K282
theorem kq_283 : ckQ 283 = true := K283
theorem kq_284 : ckQ 284 = true := K284
theorem kq_285 : ckQ 285 = true := K285
theorem kq_286 : ckQ 286 = true := K286
theorem kq_287 : ckQ 287 = true := K287
theorem kq_288 : ckQ 288 = true := K288
theorem kq_289 : ckQ 289 = true := K289
def kqL_0 : List Nat := [0, 1, 2, 3, 4, 5, 6, 7, 8, 9, 10, 11, 12, 13, 14, 15, 16, 17, 18, 19, 20, 21, 22, 23]
theorem kqK_0 : ∀ j ∈ kqL_0, ckQ j = true := List.forall_mem_cons.mpr ⟨kq_0, List.forall_mem_cons.mpr ⟨kq_1, List.forall_mem_cons.mpr ⟨kq_2, List.forall_mem_cons.mpr ⟨kq_3, List.forall_mem_cons.mpr ⟨kq_4, List.forall_mem_cons.mpr ⟨kq_5, List.forall_mem_cons.mpr ⟨kq_6, List.forall_mem_cons.mpr ⟨kq_7, List.forall_mem_cons.mpr ⟨kq_8, List.forall_mem_cons.mpr ⟨kq_9, List.forall_mem_cons.mpr ⟨kq_10, List.forall_mem_cons.mpr ⟨kq_11, List.forall_mem_cons.mpr ⟨kq_12, List.forall_mem_cons.mpr ⟨kq_13, List.forall_mem_cons.mpr ⟨kq_14, List.forall_mem_cons.mpr ⟨kq_15, List.forall_mem_cons.mpr ⟨kq_16, List.forall_mem_cons.mpr ⟨kq_17, List.forall_mem_cons.mpr ⟨kq_18, List.forall_mem_cons.mpr ⟨kq_19, List.forall_mem_cons.mpr ⟨kq_20, List.forall_mem_cons.mpr ⟨kq_21, List.forall_mem_cons.mpr ⟨kq_22, List.forall_mem_cons.mpr ⟨kq_23, fun _ h => absurd h List.not_mem_nil⟩⟩⟩⟩⟩⟩⟩⟩⟩⟩⟩⟩⟩⟩⟩⟩⟩⟩⟩⟩⟩⟩⟩⟩
def kqL_1 : List Nat := [24, 25, 26, 27, 28, 29, 30, 31, 32, 33, 34, 35, 36, 37, 38, 39, 40, 41, 42, 43, 44, 45, 46, 47]
theorem kqK_1 : ∀ j ∈ kqL_1, ckQ j = true := List.forall_mem_cons.mpr ⟨kq_24, List.forall_mem_cons.mpr ⟨kq_25, List.forall_mem_cons.mpr ⟨kq_26, List.forall_mem_cons.mpr ⟨kq_27, List.forall_mem_cons.mpr ⟨kq_28, List.forall_mem_cons.mpr ⟨kq_29, List.forall_mem_cons.mpr ⟨kq_30, List.forall_mem_cons.mpr ⟨kq_31, List.forall_mem_cons.mpr ⟨kq_32, List.forall_mem_cons.mpr ⟨kq_33, List.forall_mem_cons.mpr ⟨kq_34, List.forall_mem_cons.mpr ⟨kq_35, List.forall_mem_cons.mpr ⟨kq_36, List.forall_mem_cons.mpr ⟨kq_37, List.forall_mem_cons.mpr ⟨kq_38, List.forall_mem_cons.mpr ⟨kq_39, List.forall_mem_cons.mpr ⟨kq_40, List.forall_mem_cons.mpr ⟨kq_41, List.forall_mem_cons.mpr ⟨kq_42, List.forall_mem_cons.mpr ⟨kq_43, List.forall_mem_cons.mpr ⟨kq_44, List.forall_mem_cons.mpr ⟨kq_45, List.forall_mem_cons.mpr ⟨kq_46, List.forall_mem_cons.mpr ⟨kq_47, fun _ h => absurd h List.not_mem_nil⟩⟩⟩⟩⟩⟩⟩⟩⟩⟩⟩⟩⟩⟩⟩⟩⟩⟩⟩⟩⟩⟩⟩⟩
def kqL_2 : List Nat := [48, 49, 50, 51, 52, 53, 54, 55, 56, 57, 58, 59, 60, 61, 62, 63, 64, 65, 66, 67, 68, 69, 70, 71]
theorem kqK_2 : ∀ j ∈ kqL_2, ckQ j = true := List.forall_mem_cons.mpr ⟨kq_48, List.forall_mem_cons.mpr ⟨kq_49, List.forall_mem_cons.mpr ⟨kq_50, List.forall_mem_cons.mpr ⟨kq_51, List.forall_mem_cons.mpr ⟨kq_52, List.forall_mem_cons.mpr ⟨kq_53, List.forall_mem_cons.mpr ⟨kq_54, List.forall_mem_cons.mpr ⟨kq_55, List.forall_mem_cons.mpr ⟨kq_56, List.forall_mem_cons.mpr ⟨kq_57, List.forall_mem_cons.mpr ⟨kq_58, List.forall_mem_cons.mpr ⟨kq_59, List.forall_mem_cons.mpr ⟨kq_60, List.forall_mem_cons.mpr ⟨kq_61, List.forall_mem_cons.mpr ⟨kq_62, List.forall_mem_cons.mpr ⟨kq_63, List.forall_mem_cons.mpr ⟨kq_64, List.forall_mem_cons.mpr ⟨kq_65, List.forall_mem_cons.mpr ⟨kq_66, List.forall_mem_cons.mpr ⟨kq_67, List.forall_mem_cons.mpr ⟨kq_68, List.forall_mem_cons.mpr ⟨kq_69, List.forall_mem_cons.mpr ⟨kq_70, List.forall_mem_cons.mpr ⟨kq_71, fun _ h => absurd h List.not_mem_nil⟩⟩⟩⟩⟩⟩⟩⟩⟩⟩⟩⟩⟩⟩⟩⟩⟩⟩⟩⟩⟩⟩⟩⟩
def kqL_3 : List Nat := [72, 73, 74, 75, 76, 77, 78, 79, 80, 81, 82, 83, 84, 85, 86, 87, 88, 89, 90, 91, 92, 93, 94, 95]
theorem kqK_3 : ∀ j ∈ kqL_3, ckQ j = true := List.forall_mem_cons.mpr ⟨kq_72, List.forall_mem_cons.mpr ⟨kq_73, List.forall_mem_cons.mpr ⟨kq_74, List.forall_mem_cons.mpr ⟨kq_75, List.forall_mem_cons.mpr ⟨kq_76, List.forall_mem_cons.mpr ⟨kq_77, List.forall_mem_cons.mpr ⟨kq_78, List.forall_mem_cons.mpr ⟨kq_79, List.forall_mem_cons.mpr ⟨kq_80, List.forall_mem_cons.mpr ⟨kq_81, List.forall_mem_cons.mpr ⟨kq_82, List.forall_mem_cons.mpr ⟨kq_83, List.forall_mem_cons.mpr ⟨kq_84, List.forall_mem_cons.mpr ⟨kq_85, List.forall_mem_cons.mpr ⟨kq_86, List.forall_mem_cons.mpr ⟨kq_87, List.forall_mem_cons.mpr ⟨kq_88, List.forall_mem_cons.mpr ⟨kq_89, List.forall_mem_cons.mpr ⟨kq_90, List.forall_mem_cons.mpr ⟨kq_91, List.forall_mem_cons.mpr ⟨kq_92, List.forall_mem_cons.mpr ⟨kq_93, List.forall_mem_cons.mpr ⟨kq_94, List.forall_mem_cons.mpr ⟨kq_95, fun _ h => absurd h List.not_mem_nil⟩⟩⟩⟩⟩⟩⟩⟩⟩⟩⟩⟩⟩⟩⟩⟩⟩⟩⟩⟩⟩⟩⟩⟩
def kqL_4 : List Nat := [96, 97, 98, 99, 100, 101, 102, 103, 104, 105, 106, 107, 108, 109, 110, 111, 112, 113, 114, 115, 116, 117, 118, 119]
theorem kqK_4 : ∀ j ∈ kqL_4, ckQ j = true := List.forall_mem_cons.mpr ⟨kq_96, List.forall_mem_cons.mpr ⟨kq_97, List.forall_mem_cons.mpr ⟨kq_98, List.forall_mem_cons.mpr ⟨kq_99, List.forall_mem_cons.mpr ⟨kq_100, List.forall_mem_cons.mpr ⟨kq_101, List.forall_mem_cons.mpr ⟨kq_102, List.forall_mem_cons.mpr ⟨kq_103, List.forall_mem_cons.mpr ⟨kq_104, List.forall_mem_cons.mpr ⟨kq_105, List.forall_mem_cons.mpr ⟨kq_106, List.forall_mem_cons.mpr ⟨kq_107, List.forall_mem_cons.mpr ⟨kq_108, List.forall_mem_cons.mpr ⟨kq_109, List.forall_mem_cons.mpr ⟨kq_110, List.forall_mem_cons.mpr ⟨kq_111, List.forall_mem_cons.mpr ⟨kq_112, List.forall_mem_cons.mpr ⟨kq_113, List.forall_mem_cons.mpr ⟨kq_114, List.forall_mem_cons.mpr ⟨kq_115, List.forall_mem_cons.mpr ⟨kq_116, List.forall_mem_cons.mpr ⟨kq_117, List.forall_mem_cons.mpr ⟨kq_118, List.forall_mem_cons.mpr ⟨kq_119, fun _ h => absurd h List.not_mem_nil⟩⟩⟩⟩⟩⟩⟩⟩⟩⟩⟩⟩⟩⟩⟩⟩⟩⟩⟩⟩⟩⟩⟩⟩
def kqL_5 : List Nat := [120, 121, 122, 123, 124, 125, 126, 127, 128, 129, 130, 131, 132, 133, 134, 135, 136, 137, 138, 139, 140, 141, 142, 143]
theorem kqK_5 : ∀ j ∈ kqL_5, ckQ j = true := List.forall_mem_cons.mpr ⟨kq_120, List.forall_mem_cons.mpr ⟨kq_121, List.forall_mem_cons.mpr ⟨kq_122, List.forall_mem_cons.mpr ⟨kq_123, List.forall_mem_cons.mpr ⟨kq_124, List.forall_mem_cons.mpr ⟨kq_125, List.forall_mem_cons.mpr ⟨kq_126, List.forall_mem_cons.mpr ⟨kq_127, List.forall_mem_cons.mpr ⟨kq_128, List.forall_mem_cons.mpr ⟨kq_129, List.forall_mem_cons.mpr ⟨kq_130, List.forall_mem_cons.mpr ⟨kq_131, List.forall_mem_cons.mpr ⟨kq_132, List.forall_mem_cons.mpr ⟨kq_133, List.forall_mem_cons.mpr ⟨kq_134, List.forall_mem_cons.mpr ⟨kq_135, List.forall_mem_cons.mpr ⟨kq_136, List.forall_mem_cons.mpr ⟨kq_137, List.forall_mem_cons.mpr ⟨kq_138, List.forall_mem_cons.mpr ⟨kq_139, List.forall_mem_cons.mpr ⟨kq_140, List.forall_mem_cons.mpr ⟨kq_141, List.forall_mem_cons.mpr ⟨kq_142, List.forall_mem_cons.mpr ⟨kq_143, fun _ h => absurd h List.not_mem_nil⟩⟩⟩⟩⟩⟩⟩⟩⟩⟩⟩⟩⟩⟩⟩⟩⟩⟩⟩⟩⟩⟩⟩⟩
def kqL_6 : List Nat := [144, 145, 146, 147, 148, 149, 150, 151, 152, 153, 154, 155, 156, 157, 158, 159, 160, 161, 162, 163, 164, 165, 166, 167]
theorem kqK_6 : ∀ j ∈ kqL_6, ckQ j = true := List.forall_mem_cons.mpr ⟨kq_144, List.forall_mem_cons.mpr ⟨kq_145, List.forall_mem_cons.mpr ⟨kq_146, List.forall_mem_cons.mpr ⟨kq_147, List.forall_mem_cons.mpr ⟨kq_148, List.forall_mem_cons.mpr ⟨kq_149, List.forall_mem_cons.mpr ⟨kq_150, List.forall_mem_cons.mpr ⟨kq_151, List.forall_mem_cons.mpr ⟨kq_152, List.forall_mem_cons.mpr ⟨kq_153, List.forall_mem_cons.mpr ⟨kq_154, List.forall_mem_cons.mpr ⟨kq_155, List.forall_mem_cons.mpr ⟨kq_156, List.forall_mem_cons.mpr ⟨kq_157, List.forall_mem_cons.mpr ⟨kq_158, List.forall_mem_cons.mpr ⟨kq_159, List.forall_mem_cons.mpr ⟨kq_160, List.forall_mem_cons.mpr ⟨kq_161, List.forall_mem_cons.mpr ⟨kq_162, List.forall_mem_cons.mpr ⟨kq_163, List.forall_mem_cons.mpr ⟨kq_164, List.forall_mem_cons.mpr ⟨kq_165, List.forall_mem_cons.mpr ⟨kq_166, List.forall_mem_cons.mpr ⟨kq_167, fun _ h => absurd h List.not_mem_nil⟩⟩⟩⟩⟩⟩⟩⟩⟩⟩⟩⟩⟩⟩⟩⟩⟩⟩⟩⟩⟩⟩⟩⟩
def kqL_7 : List Nat := [168, 169, 170, 171, 172, 173, 174, 175, 176, 177, 178, 179, 180, 181, 182, 183, 184, 185, 186, 187, 188, 189, 190, 191]
theorem kqK_7 : ∀ j ∈ kqL_7, ckQ j = true := List.forall_mem_cons.mpr ⟨kq_168, List.forall_mem_cons.mpr ⟨kq_169, List.forall_mem_cons.mpr ⟨kq_170, List.forall_mem_cons.mpr ⟨kq_171, List.forall_mem_cons.mpr ⟨kq_172, List.forall_mem_cons.mpr ⟨kq_173, List.forall_mem_cons.mpr ⟨kq_174, List.forall_mem_cons.mpr ⟨kq_175, List.forall_mem_cons.mpr ⟨kq_176, List.forall_mem_cons.mpr ⟨kq_177, List.forall_mem_cons.mpr ⟨kq_178, List.forall_mem_cons.mpr ⟨kq_179, List.forall_mem_cons.mpr ⟨kq_180, List.forall_mem_cons.mpr ⟨kq_181, List.forall_mem_cons.mpr ⟨kq_182, List.forall_mem_cons.mpr ⟨kq_183, List.forall_mem_cons.mpr ⟨kq_184, List.forall_mem_cons.mpr ⟨kq_185, List.forall_mem_cons.mpr ⟨kq_186, List.forall_mem_cons.mpr ⟨kq_187, List.forall_mem_cons.mpr ⟨kq_188, List.forall_mem_cons.mpr ⟨kq_189, List.forall_mem_cons.mpr ⟨kq_190, List.forall_mem_cons.mpr ⟨kq_191, fun _ h => absurd h List.not_mem_nil⟩⟩⟩⟩⟩⟩⟩⟩⟩⟩⟩⟩⟩⟩⟩⟩⟩⟩⟩⟩⟩⟩⟩⟩
def kqL_8 : List Nat := [192, 193, 194, 195, 196, 197, 198, 199, 200, 201, 202, 203, 204, 205, 206, 207, 208, 209, 210, 211, 212, 213, 214, 215]
theorem kqK_8 : ∀ j ∈ kqL_8, ckQ j = true := List.forall_mem_cons.mpr ⟨kq_192, List.forall_mem_cons.mpr ⟨kq_193, List.forall_mem_cons.mpr ⟨kq_194, List.forall_mem_cons.mpr ⟨kq_195, List.forall_mem_cons.mpr ⟨kq_196, List.forall_mem_cons.mpr ⟨kq_197, List.forall_mem_cons.mpr ⟨kq_198, List.forall_mem_cons.mpr ⟨kq_199, List.forall_mem_cons.mpr ⟨kq_200, List.forall_mem_cons.mpr ⟨kq_201, List.forall_mem_cons.mpr ⟨kq_202, List.forall_mem_cons.mpr ⟨kq_203, List.forall_mem_cons.mpr ⟨kq_204, List.forall_mem_cons.mpr ⟨kq_205, List.forall_mem_cons.mpr ⟨kq_206, List.forall_mem_cons.mpr ⟨kq_207, List.forall_mem_cons.mpr ⟨kq_208, List.forall_mem_cons.mpr ⟨kq_209, List.forall_mem_cons.mpr ⟨kq_210, List.forall_mem_cons.mpr ⟨kq_211, List.forall_mem_cons.mpr ⟨kq_212, List.forall_mem_cons.mpr ⟨kq_213, List.forall_mem_cons.mpr ⟨kq_214, List.forall_mem_cons.mpr ⟨kq_215, fun _ h => absurd h List.not_mem_nil⟩⟩⟩⟩⟩⟩⟩⟩⟩⟩⟩⟩⟩⟩⟩⟩⟩⟩⟩⟩⟩⟩⟩⟩
def kqL_9 : List Nat := [216, 217, 218, 219, 220, 221, 222, 223, 224, 225, 226, 227, 228, 229, 230, 231, 232, 233, 234, 235, 236, 237, 238, 239]
theorem kqK_9 : ∀ j ∈ kqL_9, ckQ j = true := List.forall_mem_cons.mpr ⟨kq_216, List.forall_mem_cons.mpr ⟨kq_217, List.forall_mem_cons.mpr ⟨kq_218, List.forall_mem_cons.mpr ⟨kq_219, List.forall_mem_cons.mpr ⟨kq_220, List.forall_mem_cons.mpr ⟨kq_221, List.forall_mem_cons.mpr ⟨kq_222, List.forall_mem_cons.mpr ⟨kq_223, List.forall_mem_cons.mpr ⟨kq_224, List.forall_mem_cons.mpr ⟨kq_225, List.forall_mem_cons.mpr ⟨kq_226, List.forall_mem_cons.mpr ⟨kq_227, List.forall_mem_cons.mpr ⟨kq_228, List.forall_mem_cons.mpr ⟨kq_229, List.forall_mem_cons.mpr ⟨kq_230, List.forall_mem_cons.mpr ⟨kq_231, List.forall_mem_cons.mpr ⟨kq_232, List.forall_mem_cons.mpr ⟨kq_233, List.forall_mem_cons.mpr ⟨kq_234, List.forall_mem_cons.mpr ⟨kq_235, List.forall_mem_cons.mpr ⟨kq_236, List.forall_mem_cons.mpr ⟨kq_237, List.forall_mem_cons.mpr ⟨kq_238, List.forall_mem_cons.mpr ⟨kq_239, fun _ h => absurd h List.not_mem_nil⟩⟩⟩⟩⟩⟩⟩⟩⟩⟩⟩⟩⟩⟩⟩⟩⟩⟩⟩⟩⟩⟩⟩⟩
def kqL_10 : List Nat := [240, 241, 242, 243, 244, 245, 246, 247, 248, 249, 250, 251, 252, 253, 254, 255, 256, 257, 258, 259, 260, 261, 262, 263]
theorem kqK_10 : ∀ j ∈ kqL_10, ckQ j = true := List.forall_mem_cons.mpr ⟨kq_240, List.forall_mem_cons.mpr ⟨kq_241, List.forall_mem_cons.mpr ⟨kq_242, List.forall_mem_cons.mpr ⟨kq_243, List.forall_mem_cons.mpr ⟨kq_244, List.forall_mem_cons.mpr ⟨kq_245, List.forall_mem_cons.mpr ⟨kq_246, List.forall_mem_cons.mpr ⟨kq_247, List.forall_mem_cons.mpr ⟨kq_248, List.forall_mem_cons.mpr ⟨kq_249, List.forall_mem_cons.mpr ⟨kq_250, List.forall_mem_cons.mpr ⟨kq_251, List.forall_mem_cons.mpr ⟨kq_252, List.forall_mem_cons.mpr ⟨kq_253, List.forall_mem_cons.mpr ⟨kq_254, List.forall_mem_cons.mpr ⟨kq_255, List.forall_mem_cons.mpr ⟨kq_256, List.forall_mem_cons.mpr ⟨kq_257, List.forall_mem_cons.mpr ⟨kq_258, List.forall_mem_cons.mpr ⟨kq_259, List.forall_mem_cons.mpr ⟨kq_260, List.forall_mem_cons.mpr ⟨kq_261, List.forall_mem_cons.mpr ⟨kq_262, List.forall_mem_cons.mpr ⟨kq_263, fun _ h => absurd h List.not_mem_nil⟩⟩⟩⟩⟩⟩⟩⟩⟩⟩⟩⟩⟩⟩⟩⟩⟩⟩⟩⟩⟩⟩⟩⟩
def kqL_11 : List Nat := [264, 265, 266, 267, 268, 269, 270, 271, 272, 273, 274, 275, 276, 277, 278, 279, 280, 281, 282, 283, 284, 285, 286, 287]
theorem kqK_11 : ∀ j ∈ kqL_11, ckQ j = true := List.forall_mem_cons.mpr ⟨kq_264, List.forall_mem_cons.mpr ⟨kq_265, List.forall_mem_cons.mpr ⟨kq_266, List.forall_mem_cons.mpr ⟨kq_267, List.forall_mem_cons.mpr ⟨kq_268, List.forall_mem_cons.mpr ⟨kq_269, List.forall_mem_cons.mpr ⟨kq_270, List.forall_mem_cons.mpr ⟨kq_271, List.forall_mem_cons.mpr ⟨kq_272, List.forall_mem_cons.mpr ⟨kq_273, List.forall_mem_cons.mpr ⟨kq_274, List.forall_mem_cons.mpr ⟨kq_275, List.forall_mem_cons.mpr ⟨kq_276, List.forall_mem_cons.mpr ⟨kq_277, List.forall_mem_cons.mpr ⟨kq_278, List.forall_mem_cons.mpr ⟨kq_279, List.forall_mem_cons.mpr ⟨kq_280, List.forall_mem_cons.mpr ⟨kq_281, List.forall_mem_cons.mpr ⟨kq_282, List.forall_mem_cons.mpr ⟨kq_283, List.forall_mem_cons.mpr ⟨kq_284, List.forall_mem_cons.mpr ⟨kq_285, List.forall_mem_cons.mpr ⟨kq_286, List.forall_mem_cons.mpr ⟨kq_287, fun _ h => absurd h List.not_mem_nil⟩⟩⟩⟩⟩⟩⟩⟩⟩⟩⟩⟩⟩⟩⟩⟩⟩⟩⟩⟩⟩⟩⟩⟩
def kqL_12 : List Nat := [288, 289]
theorem kqK_12 : ∀ j ∈ kqL_12, ckQ j = true := List.forall_mem_cons.mpr ⟨kq_288, List.forall_mem_cons.mpr ⟨kq_289, fun _ h => absurd h List.not_mem_nil⟩⟩
def kqL : List Nat := kqL_0 ++ (kqL_1 ++ (kqL_2 ++ (kqL_3 ++ (kqL_4 ++ (kqL_5 ++ (kqL_6 ++ (kqL_7 ++ (kqL_8 ++ (kqL_9 ++ (kqL_10 ++ (kqL_11 ++ (kqL_12))))))))))))
theorem kq_all : ∀ j ∈ kqL, ckQ j = true := List.forall_mem_append.mpr ⟨kqK_0, List.forall_mem_append.mpr ⟨kqK_1, List.forall_mem_append.mpr ⟨kqK_2, List.forall_mem_append.mpr ⟨kqK_3, List.forall_mem_append.mpr ⟨kqK_4, List.forall_mem_append.mpr ⟨kqK_5, List.forall_mem_append.mpr ⟨kqK_6, List.forall_mem_append.mpr ⟨kqK_7, List.forall_mem_append.mpr ⟨kqK_8, List.forall_mem_append.mpr ⟨kqK_9, List.forall_mem_append.mpr ⟨kqK_10, List.forall_mem_append.mpr ⟨kqK_11, kqK_12⟩⟩⟩⟩⟩⟩⟩⟩⟩⟩⟩⟩
theorem kq_in : ∀ j, j < 290 → j ∈ kqL ∧ j ∈ coL ∧ ow j ≠ 13 ∧ j < 292 := by decide +kernel
theorem jm_all : ∀ j, j < 291 → (PL j).all (fun q => jmpB q.2 q.1) = true := by decide +kernel
theorem lr_own : ∀ q ∈ MLs, q.2.2 = 291 → q.1 = 13 := by decide +kernel
/-- the methods: all but the law's two -/
def PP (j : Nat) : Option (Nat × Option FieldType × List (Nat × List Instr)) := if j < 290 then some (ml j, rr j, PL j) else none
theorem Ev_MC {l : Launch} {D : va_G} {cy : Nat → ClassId} {b : Nat} {xo : Nat → Option Nat} {L : Nat} {xs : Nat → Int32} {EX : Nat → Nat → List Value → mm_M → Option Value → mm_M → Prop} (hX : ∀ d j a M r M1, EX d j a M r M1 → j = 291) (hXz : ∀ d j a M r M1, EX d j a M r M1 → mS M ≤ mS M1 ∧ mW M ≤ mW M1) :
    ∀ d j a M r M1, j ≠ 291 → Ev L xs ac kd PP EX d j a M r M1 → MC l D cy b xo L xs d j a M r M1 := by
  intro d
  induction d with
  | zero => intro j a M r M1 _ h; exact h.elim
  | succ d ih =>
    intro j a M r M1 hj h
    unfold Ev at h
    split at h
    · rename_i nL rt bs hP
      unfold PP at hP
      split at hP
      · rename_i hlt
        cases hP
        obtain ⟨hln, n, hn⟩ := h
        obtain ⟨hk1, hk2, hk3, hk4⟩ := kq_in j hlt
        have hck := kq_all j hk1
        have hjm := jm_all j (by omega)
        obtain ⟨hcl, how⟩ := cls_all j hk4
        refine Met_ofWF (cc := bb j) (maxL := ml j) (ret := rr j) (ws' := gT) (plf_all hk4) rfl ?_
        intro p e s m args below meth c s₁ B hml hv
        obtain ⟨rfl, hW, hK, hE, hbs⟩ := hv
        have hts := atoms_spec (ws := wJ j) B.pre
        have hown : s.vm.findClass (on (ow j)) = some m.cls := by rw [← hcl]; exact findClass_of_methodNamed B.named
        have hin : inj j = true → meth.name = "<init>" := fun q => ((name_of_methodNamed B.named B.method).1).trans (inj_ok j hk4 q)
        have hlocks := B.notSynchronized
        have hr := B.returns
        have hC : CX p s m (a.map (cv b xo)).toArray c (bb j) (ow j) (ml j) D cy b xo L xs := ⟨B.exec, B.bytes, hml, hown, fun w hw => hts w (List.mem_cons_of_mem _ hw), hK, hE, hbs⟩
        have hz := XN_size (z := mS M1) (w := mW M1) (Ev_size hXz d) (fun v M2 hv => by rw [hv.2]; exact ⟨Nat.le_refl _, Nat.le_refl _⟩) n _ _ _ _ hn
        rw [lg_entry_eq]
        have key := XN_W (Qf := MQ below (QcJ D cy b xo r M1) (a.map (cv b xo)).toArray s (mS M1 - mS M) (mW M1 - mW M) (AA b)) (R := (headSpec (wJ j) (rmJ (d + 1) M M1)).room) (l := l) (e := e) (below := below) (meth := meth) (z := mS M1) (w := mW M1) (z0 := mS M) (w0 := mW M) (d := d) (ini := inj j) hC hin (Nat.le_refl _) (Nat.le_refl _) (Nat.le_refl _) (Nat.le_refl _) ih (Ev_size hXz d)
          (fun x pc a rest M r M1 H locs rl cells slots h1 => absurd (lr_own _ h1 rfl) hk3)
          (fun q hq => ⟨List.all_eq_true.mp hck q hq, List.all_eq_true.mp hjm q hq⟩) (fun v M2 hv => by rw [hv.2]; exact ⟨Nat.le_refl _, Nat.le_refl _⟩) ?_ n 0 _ _ M hn (by unfold lay0; rw [List.length_append, List.length_replicate]; omega) (Nat.le_refl _) (Nat.le_refl _) s.heap [] _ hW va_S.rf (lay_has hln)
        · exact Wc key (Nat.sub_self _) (Nat.sub_self _)
        · intro v M2 hv H1 locs1 rl1 pc1 hW1 hS1 hq
          obtain ⟨rfl, rfl⟩ := hv
          rcases hq with ⟨x, ty, rfl, hty, hd, hnr⟩ | ⟨x, rfl, hty, hd⟩ | ⟨rfl, hty, hd⟩
          · exact W.zret hC.1 hC.2.1 (hr.trans hty) hnr (fun t ht _ => ⟨rfl, by rw [ht]; exact hW1, hS1.F ht⟩) hS1.2.2 hd hlocks
          · exact W.lret hC.1 hC.2.1 (hr.trans hty) (fun t ht _ => ⟨rfl, by rw [ht]; exact hW1, hS1.F ht⟩) hS1.2.2 hd hlocks
          · exact W.vret hC.1 hC.2.1 (hr.trans hty) (fun t ht _ => ⟨rfl, by rw [ht]; exact hW1, hS1.F ht⟩) hS1.2.2 hd hlocks
      · cases hP
    · exact absurd (hX _ _ _ _ _ _ h) hj
