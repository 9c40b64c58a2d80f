/-! ===== the program is as the files have it ===== -/
theorem mx_rng {a b k : Nat} {p : Nat → Bool} (h : (List.range' a b).all p = true) (h1 : a ≤ k) (h2 : k < a + b) : p k = true := List.all_eq_true.mp h k (List.mem_range'_1.mpr ⟨h1, h2⟩)
def mx_short (m k : Nat) : Bool := match mx_pg[k]? with | none => true | some e => Nat.ble e.2.2.2.length (50 * m)
theorem mx_short_ok {m k j : Nat} (h : mx_short m k = true) (hj : m ≤ j) (hk : k < mx_pg.length) : mx_ckc mx_pg k j = true := by
  unfold mx_short at h
  rw [List.getElem?_eq_getElem hk] at h
  exact mx_ckc_end (List.getElem?_eq_getElem hk) (Nat.le_trans (Nat.ble_eq.mp h) (Nat.mul_le_mul_left 50 hj))
theorem mx_me_all : ∀ k e, mx_pg[k]? = some e → k + 1 < mx_pg.length → mx_me e.1 e.2.1 ∧ e.1.2.2.1 ≤ 21 := by
  intro k e he hk
  rw [mx_pg_len] at hk
  match k, hk, he with
  | 0, _, he => cases he; exact mx_me_0
  | 1, _, he => cases he; exact mx_me_1
  | 2, _, he => cases he; exact mx_me_2
  | 3, _, he => cases he; exact mx_me_3
  | 4, _, he => cases he; exact mx_me_4
  | 5, _, he => cases he; exact mx_me_5
  | 6, _, he => cases he; exact mx_me_6
  | 7, _, he => cases he; exact mx_me_7
  | 8, _, he => cases he; exact mx_me_8
  | 9, _, he => cases he; exact mx_me_9
  | 10, _, he => cases he; exact mx_me_10
  | 11, _, he => cases he; exact mx_me_11
  | 12, _, he => cases he; exact mx_me_12
  | 13, _, he => cases he; exact mx_me_13
  | 14, _, he => cases he; exact mx_me_14
  | 15, _, he => cases he; exact mx_me_15
  | 16, _, he => cases he; exact mx_me_16
  | 17, _, he => cases he; exact mx_me_17
  | 18, _, he => cases he; exact mx_me_18
  | 19, _, he => cases he; exact mx_me_19
  | 20, _, he => cases he; exact mx_me_20
  | 21, _, he => cases he; exact mx_me_21
  | 22, _, he => cases he; exact mx_me_22
  | 23, _, he => cases he; exact mx_me_23
  | 24, _, he => cases he; exact mx_me_24
  | 25, _, he => cases he; exact mx_me_25
  | 26, _, he => cases he; exact mx_me_26
  | 27, _, he => cases he; exact mx_me_27
  | 28, _, he => cases he; exact mx_me_28
  | 29, _, he => cases he; exact mx_me_29
  | 30, _, he => cases he; exact mx_me_30
  | 31, _, he => cases he; exact mx_me_31
  | 32, _, he => cases he; exact mx_me_32
  | 33, _, he => cases he; exact mx_me_33
  | 34, _, he => cases he; exact mx_me_34
  | 35, _, he => cases he; exact mx_me_35
  | 36, _, he => cases he; exact mx_me_36
  | 37, _, he => cases he; exact mx_me_37
  | 38, _, he => cases he; exact mx_me_38
  | 39, _, he => cases he; exact mx_me_39
  | 40, _, he => cases he; exact mx_me_40
  | 41, _, he => cases he; exact mx_me_41
  | 42, _, he => cases he; exact mx_me_42
  | 43, _, he => cases he; exact mx_me_43
  | 44, _, he => cases he; exact mx_me_44
  | 45, _, he => cases he; exact mx_me_45
  | 46, _, he => cases he; exact mx_me_46
  | 47, _, he => cases he; exact mx_me_47
  | 48, _, he => cases he; exact mx_me_48
  | 49, _, he => cases he; exact mx_me_49
  | 50, _, he => cases he; exact mx_me_50
  | 51, _, he => cases he; exact mx_me_51
  | 52, _, he => cases he; exact mx_me_52
  | 53, _, he => cases he; exact mx_me_53
  | 54, _, he => cases he; exact mx_me_54
  | 55, _, he => cases he; exact mx_me_55
  | 56, _, he => cases he; exact mx_me_56
  | 57, _, he => cases he; exact mx_me_57
  | 58, _, he => cases he; exact mx_me_58
  | 59, _, he => cases he; exact mx_me_59
  | 60, _, he => cases he; exact mx_me_60
  | 61, _, he => cases he; exact mx_me_61
  | 62, _, he => cases he; exact mx_me_62
  | 63, _, he => cases he; exact mx_me_63
  | 64, _, he => cases he; exact mx_me_64
  | 65, _, he => cases he; exact mx_me_65
  | 66, _, he => cases he; exact mx_me_66
  | 67, _, he => cases he; exact mx_me_67
  | 68, _, he => cases he; exact mx_me_68
  | 69, _, he => cases he; exact mx_me_69
  | 70, _, he => cases he; exact mx_me_70
  | 71, _, he => cases he; exact mx_me_71
  | 72, _, he => cases he; exact mx_me_72
  | 73, _, he => cases he; exact mx_me_73
  | 74, _, he => cases he; exact mx_me_74
  | 75, _, he => cases he; exact mx_me_75
  | 76, _, he => cases he; exact mx_me_76
  | 77, _, he => cases he; exact mx_me_77
  | 78, _, he => cases he; exact mx_me_78
  | 79, _, he => cases he; exact mx_me_79
  | 80, _, he => cases he; exact mx_me_80
  | 81, _, he => cases he; exact mx_me_81
  | 82, _, he => cases he; exact mx_me_82
  | 83, _, he => cases he; exact mx_me_83
  | 84, _, he => cases he; exact mx_me_84
  | 85, _, he => cases he; exact mx_me_85
  | 86, _, he => cases he; exact mx_me_86
  | 87, _, he => cases he; exact mx_me_87
  | 88, _, he => cases he; exact mx_me_88
  | 89, _, he => cases he; exact mx_me_89
  | 90, _, he => cases he; exact mx_me_90
  | 91, _, he => cases he; exact mx_me_91
  | 92, _, he => cases he; exact mx_me_92
  | 93, _, he => cases he; exact mx_me_93
  | 94, _, he => cases he; exact mx_me_94
  | 95, _, he => cases he; exact mx_me_95
  | 96, _, he => cases he; exact mx_me_96
  | 97, _, he => cases he; exact mx_me_97
  | 98, _, he => cases he; exact mx_me_98
  | 99, _, he => cases he; exact mx_me_99
  | 100, _, he => cases he; exact mx_me_100
  | 101, _, he => cases he; exact mx_me_101
  | 102, _, he => cases he; exact mx_me_102
  | 103, _, he => cases he; exact mx_me_103
  | 104, _, he => cases he; exact mx_me_104
  | 105, _, he => cases he; exact mx_me_105
  | 106, _, he => cases he; exact mx_me_106
  | 107, _, he => cases he; exact mx_me_107
  | 108, _, he => cases he; exact mx_me_108
  | 109, _, he => cases he; exact mx_me_109
  | 110, _, he => cases he; exact mx_me_110
  | 111, _, he => cases he; exact mx_me_111
  | 112, _, he => cases he; exact mx_me_112
  | 113, _, he => cases he; exact mx_me_113
  | 114, _, he => cases he; exact mx_me_114
  | 115, _, he => cases he; exact mx_me_115
  | 116, _, he => cases he; exact mx_me_116
  | 117, _, he => cases he; exact mx_me_117
  | 118, _, he => cases he; exact mx_me_118
  | 119, _, he => cases he; exact mx_me_119
  | 120, _, he => cases he; exact mx_me_120
  | 121, _, he => cases he; exact mx_me_121
  | 122, _, he => cases he; exact mx_me_122
  | 123, _, he => cases he; exact mx_me_123
  | 124, _, he => cases he; exact mx_me_124
  | 125, _, he => cases he; exact mx_me_125
  | 126, _, he => cases he; exact mx_me_126
  | 127, _, he => cases he; exact mx_me_127
  | 128, _, he => cases he; exact mx_me_128
  | 129, _, he => cases he; exact mx_me_129
  | 130, _, he => cases he; exact mx_me_130
  | 131, _, he => cases he; exact mx_me_131
  | 132, _, he => cases he; exact mx_me_132
  | 133, _, he => cases he; exact mx_me_133
  | 134, _, he => cases he; exact mx_me_134
  | 135, _, he => cases he; exact mx_me_135
  | 136, _, he => cases he; exact mx_me_136
  | 137, _, he => cases he; exact mx_me_137
  | 138, _, he => cases he; exact mx_me_138
  | 139, _, he => cases he; exact mx_me_139
  | 140, _, he => cases he; exact mx_me_140
  | 141, _, he => cases he; exact mx_me_141
  | 142, _, he => cases he; exact mx_me_142
  | 143, _, he => cases he; exact mx_me_143
  | 144, _, he => cases he; exact mx_me_144
  | 145, _, he => cases he; exact mx_me_145
  | 146, _, he => cases he; exact mx_me_146
  | 147, _, he => cases he; exact mx_me_147
  | 148, _, he => cases he; exact mx_me_148
  | 149, _, he => cases he; exact mx_me_149
  | 150, _, he => cases he; exact mx_me_150
  | 151, _, he => cases he; exact mx_me_151
  | 152, _, he => cases he; exact mx_me_152
  | 153, _, he => cases he; exact mx_me_153
  | 154, _, he => cases he; exact mx_me_154
  | 155, _, he => cases he; exact mx_me_155
  | 156, _, he => cases he; exact mx_me_156
  | 157, _, he => cases he; exact mx_me_157
  | 158, _, he => cases he; exact mx_me_158
  | 159, _, he => cases he; exact mx_me_159
  | 160, _, he => cases he; exact mx_me_160
  | 161, _, he => cases he; exact mx_me_161
  | 162, _, he => cases he; exact mx_me_162
  | 163, _, he => cases he; exact mx_me_163
  | 164, _, he => cases he; exact mx_me_164
  | 165, _, he => cases he; exact mx_me_165
  | 166, _, he => cases he; exact mx_me_166
  | 167, _, he => cases he; exact mx_me_167
  | 168, _, he => cases he; exact mx_me_168
  | 169, _, he => cases he; exact mx_me_169
  | 170, _, he => cases he; exact mx_me_170
  | 171, _, he => cases he; exact mx_me_171
  | 172, _, he => cases he; exact mx_me_172
  | 173, _, he => cases he; exact mx_me_173
  | 174, _, he => cases he; exact mx_me_174
  | 175, _, he => cases he; exact mx_me_175
  | 176, _, he => cases he; exact mx_me_176
  | 177, _, he => cases he; exact mx_me_177
  | 178, _, he => cases he; exact mx_me_178
  | 179, _, he => cases he; exact mx_me_179
  | 180, _, he => cases he; exact mx_me_180
  | 181, _, he => cases he; exact mx_me_181
  | 182, _, he => cases he; exact mx_me_182
  | 183, _, he => cases he; exact mx_me_183
  | 184, _, he => cases he; exact mx_me_184
  | 185, _, he => cases he; exact mx_me_185
  | 186, _, he => cases he; exact mx_me_186
  | 187, _, he => cases he; exact mx_me_187
  | 188, _, he => cases he; exact mx_me_188
  | 189, _, he => cases he; exact mx_me_189
  | 190, _, he => cases he; exact mx_me_190
  | 191, _, he => cases he; exact mx_me_191
  | 192, _, he => cases he; exact mx_me_192
  | 193, _, he => cases he; exact mx_me_193
  | 194, _, he => cases he; exact mx_me_194
  | 195, _, he => cases he; exact mx_me_195
  | 196, _, he => cases he; exact mx_me_196
  | 197, _, he => cases he; exact mx_me_197
  | 198, _, he => cases he; exact mx_me_198
  | 199, _, he => cases he; exact mx_me_199
  | 200, _, he => cases he; exact mx_me_200
  | 201, _, he => cases he; exact mx_me_201
  | 202, _, he => cases he; exact mx_me_202
  | 203, _, he => cases he; exact mx_me_203
  | 204, _, he => cases he; exact mx_me_204
  | 205, _, he => cases he; exact mx_me_205
  | 206, _, he => cases he; exact mx_me_206
  | 207, _, he => cases he; exact mx_me_207
  | 208, _, he => cases he; exact mx_me_208
  | 209, _, he => cases he; exact mx_me_209
  | 210, _, he => cases he; exact mx_me_210
  | 211, _, he => cases he; exact mx_me_211
  | 212, _, he => cases he; exact mx_me_212
  | 213, _, he => cases he; exact mx_me_213
  | 214, _, he => cases he; exact mx_me_214
  | 215, _, he => cases he; exact mx_me_215
  | 216, _, he => cases he; exact mx_me_216
  | 217, _, he => cases he; exact mx_me_217
  | 218, _, he => cases he; exact mx_me_218
  | 219, _, he => cases he; exact mx_me_219
  | 220, _, he => cases he; exact mx_me_220
  | 221, _, he => cases he; exact mx_me_221
  | 222, _, he => cases he; exact mx_me_222
  | 223, _, he => cases he; exact mx_me_223
  | 224, _, he => cases he; exact mx_me_224
  | 225, _, he => cases he; exact mx_me_225
  | 226, _, he => cases he; exact mx_me_226
  | 227, _, he => cases he; exact mx_me_227
  | 228, _, he => cases he; exact mx_me_228
  | 229, _, he => cases he; exact mx_me_229
  | k + 230, hk, _ => exact absurd hk (by omega)
theorem mx_sh_0 : (List.range' 0 6).all (mx_short 1) = true := by decide +kernel
theorem mx_gr_0 {k j : Nat} (h1 : 0 ≤ k) (h2 : k < 6) (hk : k < mx_pg.length) : mx_ckc mx_pg k j = true := by
  by_cases hj : 1 ≤ j
  · exact mx_short_ok (mx_rng mx_sh_0 h1 h2) hj hk
  obtain rfl : j = 0 := by omega
  exact mx_rng (p := fun k => mx_ckc mx_pg k 0) mx_ck_g0 h1 h2
theorem mx_sh_1 : (List.range' 6 1).all (mx_short 2) = true := by decide +kernel
theorem mx_gr_1 {k j : Nat} (h1 : 6 ≤ k) (h2 : k < 7) (hk : k < mx_pg.length) : mx_ckc mx_pg k j = true := by
  by_cases hj : 2 ≤ j
  · exact mx_short_ok (mx_rng mx_sh_1 h1 h2) hj hk
  obtain rfl : k = 6 := by omega
  match j, hj with
  | 0, _ => exact mx_rng (p := fun k => mx_ckc mx_pg k 0) mx_ck_g1 h1 h2
  | 1, _ => exact mx_rng (p := fun k => mx_ckc mx_pg k 1) mx_ck_g2 h1 h2
  | z + 2, hj => exact absurd (Nat.le_add_left 2 z) hj
theorem mx_sh_2 : (List.range' 7 2).all (mx_short 1) = true := by decide +kernel
theorem mx_gr_2 {k j : Nat} (h1 : 7 ≤ k) (h2 : k < 9) (hk : k < mx_pg.length) : mx_ckc mx_pg k j = true := by
  by_cases hj : 1 ≤ j
  · exact mx_short_ok (mx_rng mx_sh_2 h1 h2) hj hk
  obtain rfl : j = 0 := by omega
  exact mx_rng (p := fun k => mx_ckc mx_pg k 0) mx_ck_g3 h1 h2
theorem mx_sh_3 : (List.range' 9 1).all (mx_short 2) = true := by decide +kernel
theorem mx_gr_3 {k j : Nat} (h1 : 9 ≤ k) (h2 : k < 10) (hk : k < mx_pg.length) : mx_ckc mx_pg k j = true := by
  by_cases hj : 2 ≤ j
  · exact mx_short_ok (mx_rng mx_sh_3 h1 h2) hj hk
  obtain rfl : k = 9 := by omega
  match j, hj with
  | 0, _ => exact mx_rng (p := fun k => mx_ckc mx_pg k 0) mx_ck_g4 h1 h2
  | 1, _ => exact mx_rng (p := fun k => mx_ckc mx_pg k 1) mx_ck_g5 h1 h2
  | z + 2, hj => exact absurd (Nat.le_add_left 2 z) hj
theorem mx_sh_4 : (List.range' 10 1).all (mx_short 1) = true := by decide +kernel
theorem mx_gr_4 {k j : Nat} (h1 : 10 ≤ k) (h2 : k < 11) (hk : k < mx_pg.length) : mx_ckc mx_pg k j = true := by
  by_cases hj : 1 ≤ j
  · exact mx_short_ok (mx_rng mx_sh_4 h1 h2) hj hk
  obtain rfl : j = 0 := by omega
  exact mx_rng (p := fun k => mx_ckc mx_pg k 0) mx_ck_g6 h1 h2
theorem mx_sh_5 : (List.range' 11 1).all (mx_short 2) = true := by decide +kernel
theorem mx_gr_5 {k j : Nat} (h1 : 11 ≤ k) (h2 : k < 12) (hk : k < mx_pg.length) : mx_ckc mx_pg k j = true := by
  by_cases hj : 2 ≤ j
  · exact mx_short_ok (mx_rng mx_sh_5 h1 h2) hj hk
  obtain rfl : k = 11 := by omega
  match j, hj with
  | 0, _ => exact mx_rng (p := fun k => mx_ckc mx_pg k 0) mx_ck_g7 h1 h2
  | 1, _ => exact mx_rng (p := fun k => mx_ckc mx_pg k 1) mx_ck_g8 h1 h2
  | z + 2, hj => exact absurd (Nat.le_add_left 2 z) hj
theorem mx_sh_6 : (List.range' 12 10).all (mx_short 1) = true := by decide +kernel
theorem mx_gr_6 {k j : Nat} (h1 : 12 ≤ k) (h2 : k < 22) (hk : k < mx_pg.length) : mx_ckc mx_pg k j = true := by
  by_cases hj : 1 ≤ j
  · exact mx_short_ok (mx_rng mx_sh_6 h1 h2) hj hk
  obtain rfl : j = 0 := by omega
  exact mx_rng (p := fun k => mx_ckc mx_pg k 0) mx_ck_g9 h1 h2
theorem mx_sh_7 : (List.range' 22 1).all (mx_short 2) = true := by decide +kernel
theorem mx_gr_7 {k j : Nat} (h1 : 22 ≤ k) (h2 : k < 23) (hk : k < mx_pg.length) : mx_ckc mx_pg k j = true := by
  by_cases hj : 2 ≤ j
  · exact mx_short_ok (mx_rng mx_sh_7 h1 h2) hj hk
  obtain rfl : k = 22 := by omega
  match j, hj with
  | 0, _ => exact mx_rng (p := fun k => mx_ckc mx_pg k 0) mx_ck_g10 h1 h2
  | 1, _ => exact mx_rng (p := fun k => mx_ckc mx_pg k 1) mx_ck_g11 h1 h2
  | z + 2, hj => exact absurd (Nat.le_add_left 2 z) hj
theorem mx_sh_8 : (List.range' 23 1).all (mx_short 2) = true := by decide +kernel
theorem mx_gr_8 {k j : Nat} (h1 : 23 ≤ k) (h2 : k < 24) (hk : k < mx_pg.length) : mx_ckc mx_pg k j = true := by
  by_cases hj : 2 ≤ j
  · exact mx_short_ok (mx_rng mx_sh_8 h1 h2) hj hk
  obtain rfl : k = 23 := by omega
  match j, hj with
  | 0, _ => exact mx_rng (p := fun k => mx_ckc mx_pg k 0) mx_ck_g12 h1 h2
  | 1, _ => exact mx_rng (p := fun k => mx_ckc mx_pg k 1) mx_ck_g13 h1 h2
  | z + 2, hj => exact absurd (Nat.le_add_left 2 z) hj
theorem mx_sh_9 : (List.range' 24 3).all (mx_short 1) = true := by decide +kernel
theorem mx_gr_9 {k j : Nat} (h1 : 24 ≤ k) (h2 : k < 27) (hk : k < mx_pg.length) : mx_ckc mx_pg k j = true := by
  by_cases hj : 1 ≤ j
  · exact mx_short_ok (mx_rng mx_sh_9 h1 h2) hj hk
  obtain rfl : j = 0 := by omega
  exact mx_rng (p := fun k => mx_ckc mx_pg k 0) mx_ck_g14 h1 h2
theorem mx_sh_10 : (List.range' 27 1).all (mx_short 1) = true := by decide +kernel
theorem mx_gr_10 {k j : Nat} (h1 : 27 ≤ k) (h2 : k < 28) (hk : k < mx_pg.length) : mx_ckc mx_pg k j = true := by
  by_cases hj : 1 ≤ j
  · exact mx_short_ok (mx_rng mx_sh_10 h1 h2) hj hk
  obtain rfl : j = 0 := by omega
  exact mx_rng (p := fun k => mx_ckc mx_pg k 0) mx_ck_g15 h1 h2
theorem mx_sh_11 : (List.range' 28 1).all (mx_short 2) = true := by decide +kernel
theorem mx_gr_11 {k j : Nat} (h1 : 28 ≤ k) (h2 : k < 29) (hk : k < mx_pg.length) : mx_ckc mx_pg k j = true := by
  by_cases hj : 2 ≤ j
  · exact mx_short_ok (mx_rng mx_sh_11 h1 h2) hj hk
  obtain rfl : k = 28 := by omega
  match j, hj with
  | 0, _ => exact mx_rng (p := fun k => mx_ckc mx_pg k 0) mx_ck_g16 h1 h2
  | 1, _ => exact mx_rng (p := fun k => mx_ckc mx_pg k 1) mx_ck_g17 h1 h2
  | z + 2, hj => exact absurd (Nat.le_add_left 2 z) hj
theorem mx_sh_12 : (List.range' 29 1).all (mx_short 2) = true := by decide +kernel
theorem mx_gr_12 {k j : Nat} (h1 : 29 ≤ k) (h2 : k < 30) (hk : k < mx_pg.length) : mx_ckc mx_pg k j = true := by
  by_cases hj : 2 ≤ j
  · exact mx_short_ok (mx_rng mx_sh_12 h1 h2) hj hk
  obtain rfl : k = 29 := by omega
  match j, hj with
  | 0, _ => exact mx_rng (p := fun k => mx_ckc mx_pg k 0) mx_ck_g18 h1 h2
  | 1, _ => exact mx_rng (p := fun k => mx_ckc mx_pg k 1) mx_ck_g19 h1 h2
  | z + 2, hj => exact absurd (Nat.le_add_left 2 z) hj
theorem mx_sh_13 : (List.range' 30 2).all (mx_short 1) = true := by decide +kernel
theorem mx_gr_13 {k j : Nat} (h1 : 30 ≤ k) (h2 : k < 32) (hk : k < mx_pg.length) : mx_ckc mx_pg k j = true := by
  by_cases hj : 1 ≤ j
  · exact mx_short_ok (mx_rng mx_sh_13 h1 h2) hj hk
  obtain rfl : j = 0 := by omega
  exact mx_rng (p := fun k => mx_ckc mx_pg k 0) mx_ck_g20 h1 h2
theorem mx_sh_14 : (List.range' 32 1).all (mx_short 2) = true := by decide +kernel
theorem mx_gr_14 {k j : Nat} (h1 : 32 ≤ k) (h2 : k < 33) (hk : k < mx_pg.length) : mx_ckc mx_pg k j = true := by
  by_cases hj : 2 ≤ j
  · exact mx_short_ok (mx_rng mx_sh_14 h1 h2) hj hk
  obtain rfl : k = 32 := by omega
  match j, hj with
  | 0, _ => exact mx_rng (p := fun k => mx_ckc mx_pg k 0) mx_ck_g21 h1 h2
  | 1, _ => exact mx_rng (p := fun k => mx_ckc mx_pg k 1) mx_ck_g22 h1 h2
  | z + 2, hj => exact absurd (Nat.le_add_left 2 z) hj
theorem mx_sh_15 : (List.range' 33 5).all (mx_short 1) = true := by decide +kernel
theorem mx_gr_15 {k j : Nat} (h1 : 33 ≤ k) (h2 : k < 38) (hk : k < mx_pg.length) : mx_ckc mx_pg k j = true := by
  by_cases hj : 1 ≤ j
  · exact mx_short_ok (mx_rng mx_sh_15 h1 h2) hj hk
  obtain rfl : j = 0 := by omega
  exact mx_rng (p := fun k => mx_ckc mx_pg k 0) mx_ck_g23 h1 h2
theorem mx_sh_16 : (List.range' 38 1).all (mx_short 2) = true := by decide +kernel
theorem mx_gr_16 {k j : Nat} (h1 : 38 ≤ k) (h2 : k < 39) (hk : k < mx_pg.length) : mx_ckc mx_pg k j = true := by
  by_cases hj : 2 ≤ j
  · exact mx_short_ok (mx_rng mx_sh_16 h1 h2) hj hk
  obtain rfl : k = 38 := by omega
  match j, hj with
  | 0, _ => exact mx_rng (p := fun k => mx_ckc mx_pg k 0) mx_ck_g24 h1 h2
  | 1, _ => exact mx_rng (p := fun k => mx_ckc mx_pg k 1) mx_ck_g25 h1 h2
  | z + 2, hj => exact absurd (Nat.le_add_left 2 z) hj
theorem mx_sh_17 : (List.range' 39 3).all (mx_short 1) = true := by decide +kernel
theorem mx_gr_17 {k j : Nat} (h1 : 39 ≤ k) (h2 : k < 42) (hk : k < mx_pg.length) : mx_ckc mx_pg k j = true := by
  by_cases hj : 1 ≤ j
  · exact mx_short_ok (mx_rng mx_sh_17 h1 h2) hj hk
  obtain rfl : j = 0 := by omega
  exact mx_rng (p := fun k => mx_ckc mx_pg k 0) mx_ck_g26 h1 h2
theorem mx_sh_18 : (List.range' 42 5).all (mx_short 1) = true := by decide +kernel
theorem mx_gr_18 {k j : Nat} (h1 : 42 ≤ k) (h2 : k < 47) (hk : k < mx_pg.length) : mx_ckc mx_pg k j = true := by
  by_cases hj : 1 ≤ j
  · exact mx_short_ok (mx_rng mx_sh_18 h1 h2) hj hk
  obtain rfl : j = 0 := by omega
  exact mx_rng (p := fun k => mx_ckc mx_pg k 0) mx_ck_g27 h1 h2
theorem mx_sh_19 : (List.range' 47 7).all (mx_short 1) = true := by decide +kernel
theorem mx_gr_19 {k j : Nat} (h1 : 47 ≤ k) (h2 : k < 54) (hk : k < mx_pg.length) : mx_ckc mx_pg k j = true := by
  by_cases hj : 1 ≤ j
  · exact mx_short_ok (mx_rng mx_sh_19 h1 h2) hj hk
  obtain rfl : j = 0 := by omega
  exact mx_rng (p := fun k => mx_ckc mx_pg k 0) mx_ck_g28 h1 h2
theorem mx_sh_20 : (List.range' 54 7).all (mx_short 1) = true := by decide +kernel
theorem mx_gr_20 {k j : Nat} (h1 : 54 ≤ k) (h2 : k < 61) (hk : k < mx_pg.length) : mx_ckc mx_pg k j = true := by
  by_cases hj : 1 ≤ j
  · exact mx_short_ok (mx_rng mx_sh_20 h1 h2) hj hk
  obtain rfl : j = 0 := by omega
  exact mx_rng (p := fun k => mx_ckc mx_pg k 0) mx_ck_g29 h1 h2
theorem mx_sh_21 : (List.range' 61 7).all (mx_short 1) = true := by decide +kernel
theorem mx_gr_21 {k j : Nat} (h1 : 61 ≤ k) (h2 : k < 68) (hk : k < mx_pg.length) : mx_ckc mx_pg k j = true := by
  by_cases hj : 1 ≤ j
  · exact mx_short_ok (mx_rng mx_sh_21 h1 h2) hj hk
  obtain rfl : j = 0 := by omega
  exact mx_rng (p := fun k => mx_ckc mx_pg k 0) mx_ck_g30 h1 h2
theorem mx_sh_22 : (List.range' 68 2).all (mx_short 1) = true := by decide +kernel
theorem mx_gr_22 {k j : Nat} (h1 : 68 ≤ k) (h2 : k < 70) (hk : k < mx_pg.length) : mx_ckc mx_pg k j = true := by
  by_cases hj : 1 ≤ j
  · exact mx_short_ok (mx_rng mx_sh_22 h1 h2) hj hk
  obtain rfl : j = 0 := by omega
  exact mx_rng (p := fun k => mx_ckc mx_pg k 0) mx_ck_g31 h1 h2
theorem mx_sh_23 : (List.range' 70 1).all (mx_short 2) = true := by decide +kernel
theorem mx_gr_23 {k j : Nat} (h1 : 70 ≤ k) (h2 : k < 71) (hk : k < mx_pg.length) : mx_ckc mx_pg k j = true := by
  by_cases hj : 2 ≤ j
  · exact mx_short_ok (mx_rng mx_sh_23 h1 h2) hj hk
  obtain rfl : k = 70 := by omega
  match j, hj with
  | 0, _ => exact mx_rng (p := fun k => mx_ckc mx_pg k 0) mx_ck_g32 h1 h2
  | 1, _ => exact mx_rng (p := fun k => mx_ckc mx_pg k 1) mx_ck_g33 h1 h2
  | z + 2, hj => exact absurd (Nat.le_add_left 2 z) hj
theorem mx_sh_24 : (List.range' 71 1).all (mx_short 3) = true := by decide +kernel
theorem mx_gr_24 {k j : Nat} (h1 : 71 ≤ k) (h2 : k < 72) (hk : k < mx_pg.length) : mx_ckc mx_pg k j = true := by
  by_cases hj : 3 ≤ j
  · exact mx_short_ok (mx_rng mx_sh_24 h1 h2) hj hk
  obtain rfl : k = 71 := by omega
  match j, hj with
  | 0, _ => exact mx_rng (p := fun k => mx_ckc mx_pg k 0) mx_ck_g34 h1 h2
  | 1, _ => exact mx_rng (p := fun k => mx_ckc mx_pg k 1) mx_ck_g35 h1 h2
  | 2, _ => exact mx_rng (p := fun k => mx_ckc mx_pg k 2) mx_ck_g36 h1 h2
  | z + 3, hj => exact absurd (Nat.le_add_left 3 z) hj
theorem mx_sh_25 : (List.range' 72 1).all (mx_short 3) = true := by decide +kernel
theorem mx_gr_25 {k j : Nat} (h1 : 72 ≤ k) (h2 : k < 73) (hk : k < mx_pg.length) : mx_ckc mx_pg k j = true := by
  by_cases hj : 3 ≤ j
  · exact mx_short_ok (mx_rng mx_sh_25 h1 h2) hj hk
  obtain rfl : k = 72 := by omega
  match j, hj with
  | 0, _ => exact mx_rng (p := fun k => mx_ckc mx_pg k 0) mx_ck_g37 h1 h2
  | 1, _ => exact mx_rng (p := fun k => mx_ckc mx_pg k 1) mx_ck_g38 h1 h2
  | 2, _ => exact mx_rng (p := fun k => mx_ckc mx_pg k 2) mx_ck_g39 h1 h2
  | z + 3, hj => exact absurd (Nat.le_add_left 3 z) hj
theorem mx_sh_26 : (List.range' 73 3).all (mx_short 1) = true := by decide +kernel
theorem mx_gr_26 {k j : Nat} (h1 : 73 ≤ k) (h2 : k < 76) (hk : k < mx_pg.length) : mx_ckc mx_pg k j = true := by
  by_cases hj : 1 ≤ j
  · exact mx_short_ok (mx_rng mx_sh_26 h1 h2) hj hk
  obtain rfl : j = 0 := by omega
  exact mx_rng (p := fun k => mx_ckc mx_pg k 0) mx_ck_g40 h1 h2
theorem mx_sh_27 : (List.range' 76 1).all (mx_short 2) = true := by decide +kernel
theorem mx_gr_27 {k j : Nat} (h1 : 76 ≤ k) (h2 : k < 77) (hk : k < mx_pg.length) : mx_ckc mx_pg k j = true := by
  by_cases hj : 2 ≤ j
  · exact mx_short_ok (mx_rng mx_sh_27 h1 h2) hj hk
  obtain rfl : k = 76 := by omega
  match j, hj with
  | 0, _ => exact mx_rng (p := fun k => mx_ckc mx_pg k 0) mx_ck_g41 h1 h2
  | 1, _ => exact mx_rng (p := fun k => mx_ckc mx_pg k 1) mx_ck_g42 h1 h2
  | z + 2, hj => exact absurd (Nat.le_add_left 2 z) hj
theorem mx_sh_28 : (List.range' 77 1).all (mx_short 1) = true := by decide +kernel
theorem mx_gr_28 {k j : Nat} (h1 : 77 ≤ k) (h2 : k < 78) (hk : k < mx_pg.length) : mx_ckc mx_pg k j = true := by
  by_cases hj : 1 ≤ j
  · exact mx_short_ok (mx_rng mx_sh_28 h1 h2) hj hk
  obtain rfl : j = 0 := by omega
  exact mx_rng (p := fun k => mx_ckc mx_pg k 0) mx_ck_g43 h1 h2
theorem mx_sh_29 : (List.range' 78 1).all (mx_short 3) = true := by decide +kernel
theorem mx_gr_29 {k j : Nat} (h1 : 78 ≤ k) (h2 : k < 79) (hk : k < mx_pg.length) : mx_ckc mx_pg k j = true := by
  by_cases hj : 3 ≤ j
  · exact mx_short_ok (mx_rng mx_sh_29 h1 h2) hj hk
  obtain rfl : k = 78 := by omega
  match j, hj with
  | 0, _ => exact mx_rng (p := fun k => mx_ckc mx_pg k 0) mx_ck_g44 h1 h2
  | 1, _ => exact mx_rng (p := fun k => mx_ckc mx_pg k 1) mx_ck_g45 h1 h2
  | 2, _ => exact mx_rng (p := fun k => mx_ckc mx_pg k 2) mx_ck_g46 h1 h2
  | z + 3, hj => exact absurd (Nat.le_add_left 3 z) hj
theorem mx_sh_30 : (List.range' 79 1).all (mx_short 3) = true := by decide +kernel
theorem mx_gr_30 {k j : Nat} (h1 : 79 ≤ k) (h2 : k < 80) (hk : k < mx_pg.length) : mx_ckc mx_pg k j = true := by
  by_cases hj : 3 ≤ j
  · exact mx_short_ok (mx_rng mx_sh_30 h1 h2) hj hk
  obtain rfl : k = 79 := by omega
  match j, hj with
  | 0, _ => exact mx_rng (p := fun k => mx_ckc mx_pg k 0) mx_ck_g47 h1 h2
  | 1, _ => exact mx_rng (p := fun k => mx_ckc mx_pg k 1) mx_ck_g48 h1 h2
  | 2, _ => exact mx_rng (p := fun k => mx_ckc mx_pg k 2) mx_ck_g49 h1 h2
  | z + 3, hj => exact absurd (Nat.le_add_left 3 z) hj
theorem mx_sh_31 : (List.range' 80 1).all (mx_short 3) = true := by decide +kernel
theorem mx_gr_31 {k j : Nat} (h1 : 80 ≤ k) (h2 : k < 81) (hk : k < mx_pg.length) : mx_ckc mx_pg k j = true := by
  by_cases hj : 3 ≤ j
  · exact mx_short_ok (mx_rng mx_sh_31 h1 h2) hj hk
  obtain rfl : k = 80 := by omega
  match j, hj with
  | 0, _ => exact mx_rng (p := fun k => mx_ckc mx_pg k 0) mx_ck_g50 h1 h2
  | 1, _ => exact mx_rng (p := fun k => mx_ckc mx_pg k 1) mx_ck_g51 h1 h2
  | 2, _ => exact mx_rng (p := fun k => mx_ckc mx_pg k 2) mx_ck_g52 h1 h2
  | z + 3, hj => exact absurd (Nat.le_add_left 3 z) hj
theorem mx_sh_32 : (List.range' 81 1).all (mx_short 2) = true := by decide +kernel
theorem mx_gr_32 {k j : Nat} (h1 : 81 ≤ k) (h2 : k < 82) (hk : k < mx_pg.length) : mx_ckc mx_pg k j = true := by
  by_cases hj : 2 ≤ j
  · exact mx_short_ok (mx_rng mx_sh_32 h1 h2) hj hk
  obtain rfl : k = 81 := by omega
  match j, hj with
  | 0, _ => exact mx_rng (p := fun k => mx_ckc mx_pg k 0) mx_ck_g53 h1 h2
  | 1, _ => exact mx_rng (p := fun k => mx_ckc mx_pg k 1) mx_ck_g54 h1 h2
  | z + 2, hj => exact absurd (Nat.le_add_left 2 z) hj
theorem mx_sh_33 : (List.range' 82 4).all (mx_short 1) = true := by decide +kernel
theorem mx_gr_33 {k j : Nat} (h1 : 82 ≤ k) (h2 : k < 86) (hk : k < mx_pg.length) : mx_ckc mx_pg k j = true := by
  by_cases hj : 1 ≤ j
  · exact mx_short_ok (mx_rng mx_sh_33 h1 h2) hj hk
  obtain rfl : j = 0 := by omega
  exact mx_rng (p := fun k => mx_ckc mx_pg k 0) mx_ck_g55 h1 h2
theorem mx_sh_34 : (List.range' 86 4).all (mx_short 1) = true := by decide +kernel
theorem mx_gr_34 {k j : Nat} (h1 : 86 ≤ k) (h2 : k < 90) (hk : k < mx_pg.length) : mx_ckc mx_pg k j = true := by
  by_cases hj : 1 ≤ j
  · exact mx_short_ok (mx_rng mx_sh_34 h1 h2) hj hk
  obtain rfl : j = 0 := by omega
  exact mx_rng (p := fun k => mx_ckc mx_pg k 0) mx_ck_g56 h1 h2
theorem mx_sh_35 : (List.range' 90 1).all (mx_short 2) = true := by decide +kernel
theorem mx_gr_35 {k j : Nat} (h1 : 90 ≤ k) (h2 : k < 91) (hk : k < mx_pg.length) : mx_ckc mx_pg k j = true := by
  by_cases hj : 2 ≤ j
  · exact mx_short_ok (mx_rng mx_sh_35 h1 h2) hj hk
  obtain rfl : k = 90 := by omega
  match j, hj with
  | 0, _ => exact mx_rng (p := fun k => mx_ckc mx_pg k 0) mx_ck_g57 h1 h2
  | 1, _ => exact mx_rng (p := fun k => mx_ckc mx_pg k 1) mx_ck_g58 h1 h2
  | z + 2, hj => exact absurd (Nat.le_add_left 2 z) hj
theorem mx_sh_36 : (List.range' 91 6).all (mx_short 1) = true := by decide +kernel
theorem mx_gr_36 {k j : Nat} (h1 : 91 ≤ k) (h2 : k < 97) (hk : k < mx_pg.length) : mx_ckc mx_pg k j = true := by
  by_cases hj : 1 ≤ j
  · exact mx_short_ok (mx_rng mx_sh_36 h1 h2) hj hk
  obtain rfl : j = 0 := by omega
  exact mx_rng (p := fun k => mx_ckc mx_pg k 0) mx_ck_g59 h1 h2
theorem mx_sh_37 : (List.range' 97 1).all (mx_short 2) = true := by decide +kernel
theorem mx_gr_37 {k j : Nat} (h1 : 97 ≤ k) (h2 : k < 98) (hk : k < mx_pg.length) : mx_ckc mx_pg k j = true := by
  by_cases hj : 2 ≤ j
  · exact mx_short_ok (mx_rng mx_sh_37 h1 h2) hj hk
  obtain rfl : k = 97 := by omega
  match j, hj with
  | 0, _ => exact mx_rng (p := fun k => mx_ckc mx_pg k 0) mx_ck_g60 h1 h2
  | 1, _ => exact mx_rng (p := fun k => mx_ckc mx_pg k 1) mx_ck_g61 h1 h2
  | z + 2, hj => exact absurd (Nat.le_add_left 2 z) hj
theorem mx_sh_38 : (List.range' 98 1).all (mx_short 2) = true := by decide +kernel
theorem mx_gr_38 {k j : Nat} (h1 : 98 ≤ k) (h2 : k < 99) (hk : k < mx_pg.length) : mx_ckc mx_pg k j = true := by
  by_cases hj : 2 ≤ j
  · exact mx_short_ok (mx_rng mx_sh_38 h1 h2) hj hk
  obtain rfl : k = 98 := by omega
  match j, hj with
  | 0, _ => exact mx_rng (p := fun k => mx_ckc mx_pg k 0) mx_ck_g62 h1 h2
  | 1, _ => exact mx_rng (p := fun k => mx_ckc mx_pg k 1) mx_ck_g63 h1 h2
  | z + 2, hj => exact absurd (Nat.le_add_left 2 z) hj
theorem mx_sh_39 : (List.range' 99 1).all (mx_short 1) = true := by decide +kernel
theorem mx_gr_39 {k j : Nat} (h1 : 99 ≤ k) (h2 : k < 100) (hk : k < mx_pg.length) : mx_ckc mx_pg k j = true := by
  by_cases hj : 1 ≤ j
  · exact mx_short_ok (mx_rng mx_sh_39 h1 h2) hj hk
  obtain rfl : j = 0 := by omega
  exact mx_rng (p := fun k => mx_ckc mx_pg k 0) mx_ck_g64 h1 h2
theorem mx_sh_40 : (List.range' 100 1).all (mx_short 2) = true := by decide +kernel
theorem mx_gr_40 {k j : Nat} (h1 : 100 ≤ k) (h2 : k < 101) (hk : k < mx_pg.length) : mx_ckc mx_pg k j = true := by
  by_cases hj : 2 ≤ j
  · exact mx_short_ok (mx_rng mx_sh_40 h1 h2) hj hk
  obtain rfl : k = 100 := by omega
  match j, hj with
  | 0, _ => exact mx_rng (p := fun k => mx_ckc mx_pg k 0) mx_ck_g65 h1 h2
  | 1, _ => exact mx_rng (p := fun k => mx_ckc mx_pg k 1) mx_ck_g66 h1 h2
  | z + 2, hj => exact absurd (Nat.le_add_left 2 z) hj
theorem mx_sh_41 : (List.range' 101 4).all (mx_short 1) = true := by decide +kernel
theorem mx_gr_41 {k j : Nat} (h1 : 101 ≤ k) (h2 : k < 105) (hk : k < mx_pg.length) : mx_ckc mx_pg k j = true := by
  by_cases hj : 1 ≤ j
  · exact mx_short_ok (mx_rng mx_sh_41 h1 h2) hj hk
  obtain rfl : j = 0 := by omega
  exact mx_rng (p := fun k => mx_ckc mx_pg k 0) mx_ck_g67 h1 h2
theorem mx_sh_42 : (List.range' 105 1).all (mx_short 2) = true := by decide +kernel
theorem mx_gr_42 {k j : Nat} (h1 : 105 ≤ k) (h2 : k < 106) (hk : k < mx_pg.length) : mx_ckc mx_pg k j = true := by
  by_cases hj : 2 ≤ j
  · exact mx_short_ok (mx_rng mx_sh_42 h1 h2) hj hk
  obtain rfl : k = 105 := by omega
  match j, hj with
  | 0, _ => exact mx_rng (p := fun k => mx_ckc mx_pg k 0) mx_ck_g68 h1 h2
  | 1, _ => exact mx_rng (p := fun k => mx_ckc mx_pg k 1) mx_ck_g69 h1 h2
  | z + 2, hj => exact absurd (Nat.le_add_left 2 z) hj
theorem mx_sh_43 : (List.range' 106 1).all (mx_short 2) = true := by decide +kernel
theorem mx_gr_43 {k j : Nat} (h1 : 106 ≤ k) (h2 : k < 107) (hk : k < mx_pg.length) : mx_ckc mx_pg k j = true := by
  by_cases hj : 2 ≤ j
  · exact mx_short_ok (mx_rng mx_sh_43 h1 h2) hj hk
  obtain rfl : k = 106 := by omega
  match j, hj with
  | 0, _ => exact mx_rng (p := fun k => mx_ckc mx_pg k 0) mx_ck_g70 h1 h2
  | 1, _ => exact mx_rng (p := fun k => mx_ckc mx_pg k 1) mx_ck_g71 h1 h2
  | z + 2, hj => exact absurd (Nat.le_add_left 2 z) hj
theorem mx_sh_44 : (List.range' 107 3).all (mx_short 1) = true := by decide +kernel
theorem mx_gr_44 {k j : Nat} (h1 : 107 ≤ k) (h2 : k < 110) (hk : k < mx_pg.length) : mx_ckc mx_pg k j = true := by
  by_cases hj : 1 ≤ j
  · exact mx_short_ok (mx_rng mx_sh_44 h1 h2) hj hk
  obtain rfl : j = 0 := by omega
  exact mx_rng (p := fun k => mx_ckc mx_pg k 0) mx_ck_g72 h1 h2
theorem mx_sh_45 : (List.range' 110 7).all (mx_short 1) = true := by decide +kernel
theorem mx_gr_45 {k j : Nat} (h1 : 110 ≤ k) (h2 : k < 117) (hk : k < mx_pg.length) : mx_ckc mx_pg k j = true := by
  by_cases hj : 1 ≤ j
  · exact mx_short_ok (mx_rng mx_sh_45 h1 h2) hj hk
  obtain rfl : j = 0 := by omega
  exact mx_rng (p := fun k => mx_ckc mx_pg k 0) mx_ck_g73 h1 h2
theorem mx_sh_46 : (List.range' 117 2).all (mx_short 1) = true := by decide +kernel
theorem mx_gr_46 {k j : Nat} (h1 : 117 ≤ k) (h2 : k < 119) (hk : k < mx_pg.length) : mx_ckc mx_pg k j = true := by
  by_cases hj : 1 ≤ j
  · exact mx_short_ok (mx_rng mx_sh_46 h1 h2) hj hk
  obtain rfl : j = 0 := by omega
  exact mx_rng (p := fun k => mx_ckc mx_pg k 0) mx_ck_g74 h1 h2
theorem mx_sh_47 : (List.range' 119 1).all (mx_short 2) = true := by decide +kernel
theorem mx_gr_47 {k j : Nat} (h1 : 119 ≤ k) (h2 : k < 120) (hk : k < mx_pg.length) : mx_ckc mx_pg k j = true := by
  by_cases hj : 2 ≤ j
  · exact mx_short_ok (mx_rng mx_sh_47 h1 h2) hj hk
  obtain rfl : k = 119 := by omega
  match j, hj with
  | 0, _ => exact mx_rng (p := fun k => mx_ckc mx_pg k 0) mx_ck_g75 h1 h2
  | 1, _ => exact mx_rng (p := fun k => mx_ckc mx_pg k 1) mx_ck_g76 h1 h2
  | z + 2, hj => exact absurd (Nat.le_add_left 2 z) hj
theorem mx_sh_48 : (List.range' 120 3).all (mx_short 1) = true := by decide +kernel
theorem mx_gr_48 {k j : Nat} (h1 : 120 ≤ k) (h2 : k < 123) (hk : k < mx_pg.length) : mx_ckc mx_pg k j = true := by
  by_cases hj : 1 ≤ j
  · exact mx_short_ok (mx_rng mx_sh_48 h1 h2) hj hk
  obtain rfl : j = 0 := by omega
  exact mx_rng (p := fun k => mx_ckc mx_pg k 0) mx_ck_g77 h1 h2
theorem mx_sh_49 : (List.range' 123 1).all (mx_short 2) = true := by decide +kernel
theorem mx_gr_49 {k j : Nat} (h1 : 123 ≤ k) (h2 : k < 124) (hk : k < mx_pg.length) : mx_ckc mx_pg k j = true := by
  by_cases hj : 2 ≤ j
  · exact mx_short_ok (mx_rng mx_sh_49 h1 h2) hj hk
  obtain rfl : k = 123 := by omega
  match j, hj with
  | 0, _ => exact mx_rng (p := fun k => mx_ckc mx_pg k 0) mx_ck_g78 h1 h2
  | 1, _ => exact mx_rng (p := fun k => mx_ckc mx_pg k 1) mx_ck_g79 h1 h2
  | z + 2, hj => exact absurd (Nat.le_add_left 2 z) hj
theorem mx_sh_50 : (List.range' 124 1).all (mx_short 2) = true := by decide +kernel
theorem mx_gr_50 {k j : Nat} (h1 : 124 ≤ k) (h2 : k < 125) (hk : k < mx_pg.length) : mx_ckc mx_pg k j = true := by
  by_cases hj : 2 ≤ j
  · exact mx_short_ok (mx_rng mx_sh_50 h1 h2) hj hk
  obtain rfl : k = 124 := by omega
  match j, hj with
  | 0, _ => exact mx_rng (p := fun k => mx_ckc mx_pg k 0) mx_ck_g80 h1 h2
  | 1, _ => exact mx_rng (p := fun k => mx_ckc mx_pg k 1) mx_ck_g81 h1 h2
  | z + 2, hj => exact absurd (Nat.le_add_left 2 z) hj
theorem mx_sh_51 : (List.range' 125 1).all (mx_short 3) = true := by decide +kernel
theorem mx_gr_51 {k j : Nat} (h1 : 125 ≤ k) (h2 : k < 126) (hk : k < mx_pg.length) : mx_ckc mx_pg k j = true := by
  by_cases hj : 3 ≤ j
  · exact mx_short_ok (mx_rng mx_sh_51 h1 h2) hj hk
  obtain rfl : k = 125 := by omega
  match j, hj with
  | 0, _ => exact mx_rng (p := fun k => mx_ckc mx_pg k 0) mx_ck_g82 h1 h2
  | 1, _ => exact mx_rng (p := fun k => mx_ckc mx_pg k 1) mx_ck_g83 h1 h2
  | 2, _ => exact mx_rng (p := fun k => mx_ckc mx_pg k 2) mx_ck_g84 h1 h2
  | z + 3, hj => exact absurd (Nat.le_add_left 3 z) hj
theorem mx_sh_52 : (List.range' 126 1).all (mx_short 2) = true := by decide +kernel
theorem mx_gr_52 {k j : Nat} (h1 : 126 ≤ k) (h2 : k < 127) (hk : k < mx_pg.length) : mx_ckc mx_pg k j = true := by
  by_cases hj : 2 ≤ j
  · exact mx_short_ok (mx_rng mx_sh_52 h1 h2) hj hk
  obtain rfl : k = 126 := by omega
  match j, hj with
  | 0, _ => exact mx_rng (p := fun k => mx_ckc mx_pg k 0) mx_ck_g85 h1 h2
  | 1, _ => exact mx_rng (p := fun k => mx_ckc mx_pg k 1) mx_ck_g86 h1 h2
  | z + 2, hj => exact absurd (Nat.le_add_left 2 z) hj
theorem mx_sh_53 : (List.range' 127 1).all (mx_short 1) = true := by decide +kernel
theorem mx_gr_53 {k j : Nat} (h1 : 127 ≤ k) (h2 : k < 128) (hk : k < mx_pg.length) : mx_ckc mx_pg k j = true := by
  by_cases hj : 1 ≤ j
  · exact mx_short_ok (mx_rng mx_sh_53 h1 h2) hj hk
  obtain rfl : j = 0 := by omega
  exact mx_rng (p := fun k => mx_ckc mx_pg k 0) mx_ck_g87 h1 h2
theorem mx_sh_54 : (List.range' 128 1).all (mx_short 3) = true := by decide +kernel
theorem mx_gr_54 {k j : Nat} (h1 : 128 ≤ k) (h2 : k < 129) (hk : k < mx_pg.length) : mx_ckc mx_pg k j = true := by
  by_cases hj : 3 ≤ j
  · exact mx_short_ok (mx_rng mx_sh_54 h1 h2) hj hk
  obtain rfl : k = 128 := by omega
  match j, hj with
  | 0, _ => exact mx_rng (p := fun k => mx_ckc mx_pg k 0) mx_ck_g88 h1 h2
  | 1, _ => exact mx_rng (p := fun k => mx_ckc mx_pg k 1) mx_ck_g89 h1 h2
  | 2, _ => exact mx_rng (p := fun k => mx_ckc mx_pg k 2) mx_ck_g90 h1 h2
  | z + 3, hj => exact absurd (Nat.le_add_left 3 z) hj
theorem mx_sh_55 : (List.range' 129 2).all (mx_short 1) = true := by decide +kernel
theorem mx_gr_55 {k j : Nat} (h1 : 129 ≤ k) (h2 : k < 131) (hk : k < mx_pg.length) : mx_ckc mx_pg k j = true := by
  by_cases hj : 1 ≤ j
  · exact mx_short_ok (mx_rng mx_sh_55 h1 h2) hj hk
  obtain rfl : j = 0 := by omega
  exact mx_rng (p := fun k => mx_ckc mx_pg k 0) mx_ck_g91 h1 h2
theorem mx_sh_56 : (List.range' 131 1).all (mx_short 2) = true := by decide +kernel
theorem mx_gr_56 {k j : Nat} (h1 : 131 ≤ k) (h2 : k < 132) (hk : k < mx_pg.length) : mx_ckc mx_pg k j = true := by
  by_cases hj : 2 ≤ j
  · exact mx_short_ok (mx_rng mx_sh_56 h1 h2) hj hk
  obtain rfl : k = 131 := by omega
  match j, hj with
  | 0, _ => exact mx_rng (p := fun k => mx_ckc mx_pg k 0) mx_ck_g92 h1 h2
  | 1, _ => exact mx_rng (p := fun k => mx_ckc mx_pg k 1) mx_ck_g93 h1 h2
  | z + 2, hj => exact absurd (Nat.le_add_left 2 z) hj
theorem mx_sh_57 : (List.range' 132 1).all (mx_short 2) = true := by decide +kernel
theorem mx_gr_57 {k j : Nat} (h1 : 132 ≤ k) (h2 : k < 133) (hk : k < mx_pg.length) : mx_ckc mx_pg k j = true := by
  by_cases hj : 2 ≤ j
  · exact mx_short_ok (mx_rng mx_sh_57 h1 h2) hj hk
  obtain rfl : k = 132 := by omega
  match j, hj with
  | 0, _ => exact mx_rng (p := fun k => mx_ckc mx_pg k 0) mx_ck_g94 h1 h2
  | 1, _ => exact mx_rng (p := fun k => mx_ckc mx_pg k 1) mx_ck_g95 h1 h2
  | z + 2, hj => exact absurd (Nat.le_add_left 2 z) hj
theorem mx_sh_58 : (List.range' 133 3).all (mx_short 1) = true := by decide +kernel
theorem mx_gr_58 {k j : Nat} (h1 : 133 ≤ k) (h2 : k < 136) (hk : k < mx_pg.length) : mx_ckc mx_pg k j = true := by
  by_cases hj : 1 ≤ j
  · exact mx_short_ok (mx_rng mx_sh_58 h1 h2) hj hk
  obtain rfl : j = 0 := by omega
  exact mx_rng (p := fun k => mx_ckc mx_pg k 0) mx_ck_g96 h1 h2
theorem mx_sh_59 : (List.range' 136 1).all (mx_short 2) = true := by decide +kernel
theorem mx_gr_59 {k j : Nat} (h1 : 136 ≤ k) (h2 : k < 137) (hk : k < mx_pg.length) : mx_ckc mx_pg k j = true := by
  by_cases hj : 2 ≤ j
  · exact mx_short_ok (mx_rng mx_sh_59 h1 h2) hj hk
  obtain rfl : k = 136 := by omega
  match j, hj with
  | 0, _ => exact mx_rng (p := fun k => mx_ckc mx_pg k 0) mx_ck_g97 h1 h2
  | 1, _ => exact mx_rng (p := fun k => mx_ckc mx_pg k 1) mx_ck_g98 h1 h2
  | z + 2, hj => exact absurd (Nat.le_add_left 2 z) hj
theorem mx_sh_60 : (List.range' 137 1).all (mx_short 1) = true := by decide +kernel
theorem mx_gr_60 {k j : Nat} (h1 : 137 ≤ k) (h2 : k < 138) (hk : k < mx_pg.length) : mx_ckc mx_pg k j = true := by
  by_cases hj : 1 ≤ j
  · exact mx_short_ok (mx_rng mx_sh_60 h1 h2) hj hk
  obtain rfl : j = 0 := by omega
  exact mx_rng (p := fun k => mx_ckc mx_pg k 0) mx_ck_g99 h1 h2
theorem mx_sh_61 : (List.range' 138 1).all (mx_short 2) = true := by decide +kernel
theorem mx_gr_61 {k j : Nat} (h1 : 138 ≤ k) (h2 : k < 139) (hk : k < mx_pg.length) : mx_ckc mx_pg k j = true := by
  by_cases hj : 2 ≤ j
  · exact mx_short_ok (mx_rng mx_sh_61 h1 h2) hj hk
  obtain rfl : k = 138 := by omega
  match j, hj with
  | 0, _ => exact mx_rng (p := fun k => mx_ckc mx_pg k 0) mx_ck_g100 h1 h2
  | 1, _ => exact mx_rng (p := fun k => mx_ckc mx_pg k 1) mx_ck_g101 h1 h2
  | z + 2, hj => exact absurd (Nat.le_add_left 2 z) hj
theorem mx_sh_62 : (List.range' 139 7).all (mx_short 1) = true := by decide +kernel
theorem mx_gr_62 {k j : Nat} (h1 : 139 ≤ k) (h2 : k < 146) (hk : k < mx_pg.length) : mx_ckc mx_pg k j = true := by
  by_cases hj : 1 ≤ j
  · exact mx_short_ok (mx_rng mx_sh_62 h1 h2) hj hk
  obtain rfl : j = 0 := by omega
  exact mx_rng (p := fun k => mx_ckc mx_pg k 0) mx_ck_g102 h1 h2
theorem mx_sh_63 : (List.range' 146 3).all (mx_short 1) = true := by decide +kernel
theorem mx_gr_63 {k j : Nat} (h1 : 146 ≤ k) (h2 : k < 149) (hk : k < mx_pg.length) : mx_ckc mx_pg k j = true := by
  by_cases hj : 1 ≤ j
  · exact mx_short_ok (mx_rng mx_sh_63 h1 h2) hj hk
  obtain rfl : j = 0 := by omega
  exact mx_rng (p := fun k => mx_ckc mx_pg k 0) mx_ck_g103 h1 h2
theorem mx_sh_64 : (List.range' 149 1).all (mx_short 5) = true := by decide +kernel
theorem mx_gr_64 {k j : Nat} (h1 : 149 ≤ k) (h2 : k < 150) (hk : k < mx_pg.length) : mx_ckc mx_pg k j = true := by
  by_cases hj : 5 ≤ j
  · exact mx_short_ok (mx_rng mx_sh_64 h1 h2) hj hk
  obtain rfl : k = 149 := by omega
  match j, hj with
  | 0, _ => exact mx_rng (p := fun k => mx_ckc mx_pg k 0) mx_ck_g104 h1 h2
  | 1, _ => exact mx_rng (p := fun k => mx_ckc mx_pg k 1) mx_ck_g105 h1 h2
  | 2, _ => exact mx_rng (p := fun k => mx_ckc mx_pg k 2) mx_ck_g106 h1 h2
  | 3, _ => exact mx_rng (p := fun k => mx_ckc mx_pg k 3) mx_ck_g107 h1 h2
  | 4, _ => exact mx_rng (p := fun k => mx_ckc mx_pg k 4) mx_ck_g108 h1 h2
  | z + 5, hj => exact absurd (Nat.le_add_left 5 z) hj
theorem mx_sh_65 : (List.range' 150 1).all (mx_short 2) = true := by decide +kernel
theorem mx_gr_65 {k j : Nat} (h1 : 150 ≤ k) (h2 : k < 151) (hk : k < mx_pg.length) : mx_ckc mx_pg k j = true := by
  by_cases hj : 2 ≤ j
  · exact mx_short_ok (mx_rng mx_sh_65 h1 h2) hj hk
  obtain rfl : k = 150 := by omega
  match j, hj with
  | 0, _ => exact mx_rng (p := fun k => mx_ckc mx_pg k 0) mx_ck_g109 h1 h2
  | 1, _ => exact mx_rng (p := fun k => mx_ckc mx_pg k 1) mx_ck_g110 h1 h2
  | z + 2, hj => exact absurd (Nat.le_add_left 2 z) hj
theorem mx_sh_66 : (List.range' 151 4).all (mx_short 1) = true := by decide +kernel
theorem mx_gr_66 {k j : Nat} (h1 : 151 ≤ k) (h2 : k < 155) (hk : k < mx_pg.length) : mx_ckc mx_pg k j = true := by
  by_cases hj : 1 ≤ j
  · exact mx_short_ok (mx_rng mx_sh_66 h1 h2) hj hk
  obtain rfl : j = 0 := by omega
  exact mx_rng (p := fun k => mx_ckc mx_pg k 0) mx_ck_g111 h1 h2
theorem mx_sh_67 : (List.range' 155 1).all (mx_short 3) = true := by decide +kernel
theorem mx_gr_67 {k j : Nat} (h1 : 155 ≤ k) (h2 : k < 156) (hk : k < mx_pg.length) : mx_ckc mx_pg k j = true := by
  by_cases hj : 3 ≤ j
  · exact mx_short_ok (mx_rng mx_sh_67 h1 h2) hj hk
  obtain rfl : k = 155 := by omega
  match j, hj with
  | 0, _ => exact mx_rng (p := fun k => mx_ckc mx_pg k 0) mx_ck_g112 h1 h2
  | 1, _ => exact mx_rng (p := fun k => mx_ckc mx_pg k 1) mx_ck_g113 h1 h2
  | 2, _ => exact mx_rng (p := fun k => mx_ckc mx_pg k 2) mx_ck_g114 h1 h2
  | z + 3, hj => exact absurd (Nat.le_add_left 3 z) hj
theorem mx_sh_68 : (List.range' 156 1).all (mx_short 2) = true := by decide +kernel
theorem mx_gr_68 {k j : Nat} (h1 : 156 ≤ k) (h2 : k < 157) (hk : k < mx_pg.length) : mx_ckc mx_pg k j = true := by
  by_cases hj : 2 ≤ j
  · exact mx_short_ok (mx_rng mx_sh_68 h1 h2) hj hk
  obtain rfl : k = 156 := by omega
  match j, hj with
  | 0, _ => exact mx_rng (p := fun k => mx_ckc mx_pg k 0) mx_ck_g115 h1 h2
  | 1, _ => exact mx_rng (p := fun k => mx_ckc mx_pg k 1) mx_ck_g116 h1 h2
  | z + 2, hj => exact absurd (Nat.le_add_left 2 z) hj
theorem mx_sh_69 : (List.range' 157 3).all (mx_short 1) = true := by decide +kernel
theorem mx_gr_69 {k j : Nat} (h1 : 157 ≤ k) (h2 : k < 160) (hk : k < mx_pg.length) : mx_ckc mx_pg k j = true := by
  by_cases hj : 1 ≤ j
  · exact mx_short_ok (mx_rng mx_sh_69 h1 h2) hj hk
  obtain rfl : j = 0 := by omega
  exact mx_rng (p := fun k => mx_ckc mx_pg k 0) mx_ck_g117 h1 h2
theorem mx_sh_70 : (List.range' 160 1).all (mx_short 3) = true := by decide +kernel
theorem mx_gr_70 {k j : Nat} (h1 : 160 ≤ k) (h2 : k < 161) (hk : k < mx_pg.length) : mx_ckc mx_pg k j = true := by
  by_cases hj : 3 ≤ j
  · exact mx_short_ok (mx_rng mx_sh_70 h1 h2) hj hk
  obtain rfl : k = 160 := by omega
  match j, hj with
  | 0, _ => exact mx_rng (p := fun k => mx_ckc mx_pg k 0) mx_ck_g118 h1 h2
  | 1, _ => exact mx_rng (p := fun k => mx_ckc mx_pg k 1) mx_ck_g119 h1 h2
  | 2, _ => exact mx_rng (p := fun k => mx_ckc mx_pg k 2) mx_ck_g120 h1 h2
  | z + 3, hj => exact absurd (Nat.le_add_left 3 z) hj
theorem mx_sh_71 : (List.range' 161 2).all (mx_short 1) = true := by decide +kernel
theorem mx_gr_71 {k j : Nat} (h1 : 161 ≤ k) (h2 : k < 163) (hk : k < mx_pg.length) : mx_ckc mx_pg k j = true := by
  by_cases hj : 1 ≤ j
  · exact mx_short_ok (mx_rng mx_sh_71 h1 h2) hj hk
  obtain rfl : j = 0 := by omega
  exact mx_rng (p := fun k => mx_ckc mx_pg k 0) mx_ck_g121 h1 h2
theorem mx_sh_72 : (List.range' 163 1).all (mx_short 4) = true := by decide +kernel
theorem mx_gr_72 {k j : Nat} (h1 : 163 ≤ k) (h2 : k < 164) (hk : k < mx_pg.length) : mx_ckc mx_pg k j = true := by
  by_cases hj : 4 ≤ j
  · exact mx_short_ok (mx_rng mx_sh_72 h1 h2) hj hk
  obtain rfl : k = 163 := by omega
  match j, hj with
  | 0, _ => exact mx_rng (p := fun k => mx_ckc mx_pg k 0) mx_ck_g122 h1 h2
  | 1, _ => exact mx_rng (p := fun k => mx_ckc mx_pg k 1) mx_ck_g123 h1 h2
  | 2, _ => exact mx_rng (p := fun k => mx_ckc mx_pg k 2) mx_ck_g124 h1 h2
  | 3, _ => exact mx_rng (p := fun k => mx_ckc mx_pg k 3) mx_ck_g125 h1 h2
  | z + 4, hj => exact absurd (Nat.le_add_left 4 z) hj
theorem mx_sh_73 : (List.range' 164 1).all (mx_short 3) = true := by decide +kernel
theorem mx_gr_73 {k j : Nat} (h1 : 164 ≤ k) (h2 : k < 165) (hk : k < mx_pg.length) : mx_ckc mx_pg k j = true := by
  by_cases hj : 3 ≤ j
  · exact mx_short_ok (mx_rng mx_sh_73 h1 h2) hj hk
  obtain rfl : k = 164 := by omega
  match j, hj with
  | 0, _ => exact mx_rng (p := fun k => mx_ckc mx_pg k 0) mx_ck_g126 h1 h2
  | 1, _ => exact mx_rng (p := fun k => mx_ckc mx_pg k 1) mx_ck_g127 h1 h2
  | 2, _ => exact mx_rng (p := fun k => mx_ckc mx_pg k 2) mx_ck_g128 h1 h2
  | z + 3, hj => exact absurd (Nat.le_add_left 3 z) hj
theorem mx_sh_74 : (List.range' 165 5).all (mx_short 1) = true := by decide +kernel
theorem mx_gr_74 {k j : Nat} (h1 : 165 ≤ k) (h2 : k < 170) (hk : k < mx_pg.length) : mx_ckc mx_pg k j = true := by
  by_cases hj : 1 ≤ j
  · exact mx_short_ok (mx_rng mx_sh_74 h1 h2) hj hk
  obtain rfl : j = 0 := by omega
  exact mx_rng (p := fun k => mx_ckc mx_pg k 0) mx_ck_g129 h1 h2
theorem mx_sh_75 : (List.range' 170 1).all (mx_short 2) = true := by decide +kernel
theorem mx_gr_75 {k j : Nat} (h1 : 170 ≤ k) (h2 : k < 171) (hk : k < mx_pg.length) : mx_ckc mx_pg k j = true := by
  by_cases hj : 2 ≤ j
  · exact mx_short_ok (mx_rng mx_sh_75 h1 h2) hj hk
  obtain rfl : k = 170 := by omega
  match j, hj with
  | 0, _ => exact mx_rng (p := fun k => mx_ckc mx_pg k 0) mx_ck_g130 h1 h2
  | 1, _ => exact mx_rng (p := fun k => mx_ckc mx_pg k 1) mx_ck_g131 h1 h2
  | z + 2, hj => exact absurd (Nat.le_add_left 2 z) hj
theorem mx_sh_76 : (List.range' 171 1).all (mx_short 4) = true := by decide +kernel
theorem mx_gr_76 {k j : Nat} (h1 : 171 ≤ k) (h2 : k < 172) (hk : k < mx_pg.length) : mx_ckc mx_pg k j = true := by
  by_cases hj : 4 ≤ j
  · exact mx_short_ok (mx_rng mx_sh_76 h1 h2) hj hk
  obtain rfl : k = 171 := by omega
  match j, hj with
  | 0, _ => exact mx_rng (p := fun k => mx_ckc mx_pg k 0) mx_ck_g132 h1 h2
  | 1, _ => exact mx_rng (p := fun k => mx_ckc mx_pg k 1) mx_ck_g133 h1 h2
  | 2, _ => exact mx_rng (p := fun k => mx_ckc mx_pg k 2) mx_ck_g134 h1 h2
  | 3, _ => exact mx_rng (p := fun k => mx_ckc mx_pg k 3) mx_ck_g135 h1 h2
  | z + 4, hj => exact absurd (Nat.le_add_left 4 z) hj
theorem mx_sh_77 : (List.range' 172 1).all (mx_short 2) = true := by decide +kernel
theorem mx_gr_77 {k j : Nat} (h1 : 172 ≤ k) (h2 : k < 173) (hk : k < mx_pg.length) : mx_ckc mx_pg k j = true := by
  by_cases hj : 2 ≤ j
  · exact mx_short_ok (mx_rng mx_sh_77 h1 h2) hj hk
  obtain rfl : k = 172 := by omega
  match j, hj with
  | 0, _ => exact mx_rng (p := fun k => mx_ckc mx_pg k 0) mx_ck_g136 h1 h2
  | 1, _ => exact mx_rng (p := fun k => mx_ckc mx_pg k 1) mx_ck_g137 h1 h2
  | z + 2, hj => exact absurd (Nat.le_add_left 2 z) hj
theorem mx_sh_78 : (List.range' 173 1).all (mx_short 3) = true := by decide +kernel
theorem mx_gr_78 {k j : Nat} (h1 : 173 ≤ k) (h2 : k < 174) (hk : k < mx_pg.length) : mx_ckc mx_pg k j = true := by
  by_cases hj : 3 ≤ j
  · exact mx_short_ok (mx_rng mx_sh_78 h1 h2) hj hk
  obtain rfl : k = 173 := by omega
  match j, hj with
  | 0, _ => exact mx_rng (p := fun k => mx_ckc mx_pg k 0) mx_ck_g138 h1 h2
  | 1, _ => exact mx_rng (p := fun k => mx_ckc mx_pg k 1) mx_ck_g139 h1 h2
  | 2, _ => exact mx_rng (p := fun k => mx_ckc mx_pg k 2) mx_ck_g140 h1 h2
  | z + 3, hj => exact absurd (Nat.le_add_left 3 z) hj
theorem mx_sh_79 : (List.range' 174 1).all (mx_short 2) = true := by decide +kernel
theorem mx_gr_79 {k j : Nat} (h1 : 174 ≤ k) (h2 : k < 175) (hk : k < mx_pg.length) : mx_ckc mx_pg k j = true := by
  by_cases hj : 2 ≤ j
  · exact mx_short_ok (mx_rng mx_sh_79 h1 h2) hj hk
  obtain rfl : k = 174 := by omega
  match j, hj with
  | 0, _ => exact mx_rng (p := fun k => mx_ckc mx_pg k 0) mx_ck_g141 h1 h2
  | 1, _ => exact mx_rng (p := fun k => mx_ckc mx_pg k 1) mx_ck_g142 h1 h2
  | z + 2, hj => exact absurd (Nat.le_add_left 2 z) hj
theorem mx_sh_80 : (List.range' 175 1).all (mx_short 3) = true := by decide +kernel
theorem mx_gr_80 {k j : Nat} (h1 : 175 ≤ k) (h2 : k < 176) (hk : k < mx_pg.length) : mx_ckc mx_pg k j = true := by
  by_cases hj : 3 ≤ j
  · exact mx_short_ok (mx_rng mx_sh_80 h1 h2) hj hk
  obtain rfl : k = 175 := by omega
  match j, hj with
  | 0, _ => exact mx_rng (p := fun k => mx_ckc mx_pg k 0) mx_ck_g143 h1 h2
  | 1, _ => exact mx_rng (p := fun k => mx_ckc mx_pg k 1) mx_ck_g144 h1 h2
  | 2, _ => exact mx_rng (p := fun k => mx_ckc mx_pg k 2) mx_ck_g145 h1 h2
  | z + 3, hj => exact absurd (Nat.le_add_left 3 z) hj
theorem mx_sh_81 : (List.range' 176 4).all (mx_short 1) = true := by decide +kernel
theorem mx_gr_81 {k j : Nat} (h1 : 176 ≤ k) (h2 : k < 180) (hk : k < mx_pg.length) : mx_ckc mx_pg k j = true := by
  by_cases hj : 1 ≤ j
  · exact mx_short_ok (mx_rng mx_sh_81 h1 h2) hj hk
  obtain rfl : j = 0 := by omega
  exact mx_rng (p := fun k => mx_ckc mx_pg k 0) mx_ck_g146 h1 h2
theorem mx_sh_82 : (List.range' 180 1).all (mx_short 2) = true := by decide +kernel
theorem mx_gr_82 {k j : Nat} (h1 : 180 ≤ k) (h2 : k < 181) (hk : k < mx_pg.length) : mx_ckc mx_pg k j = true := by
  by_cases hj : 2 ≤ j
  · exact mx_short_ok (mx_rng mx_sh_82 h1 h2) hj hk
  obtain rfl : k = 180 := by omega
  match j, hj with
  | 0, _ => exact mx_rng (p := fun k => mx_ckc mx_pg k 0) mx_ck_g147 h1 h2
  | 1, _ => exact mx_rng (p := fun k => mx_ckc mx_pg k 1) mx_ck_g148 h1 h2
  | z + 2, hj => exact absurd (Nat.le_add_left 2 z) hj
theorem mx_sh_83 : (List.range' 181 1).all (mx_short 1) = true := by decide +kernel
theorem mx_gr_83 {k j : Nat} (h1 : 181 ≤ k) (h2 : k < 182) (hk : k < mx_pg.length) : mx_ckc mx_pg k j = true := by
  by_cases hj : 1 ≤ j
  · exact mx_short_ok (mx_rng mx_sh_83 h1 h2) hj hk
  obtain rfl : j = 0 := by omega
  exact mx_rng (p := fun k => mx_ckc mx_pg k 0) mx_ck_g149 h1 h2
theorem mx_sh_84 : (List.range' 182 1).all (mx_short 3) = true := by decide +kernel
theorem mx_gr_84 {k j : Nat} (h1 : 182 ≤ k) (h2 : k < 183) (hk : k < mx_pg.length) : mx_ckc mx_pg k j = true := by
  by_cases hj : 3 ≤ j
  · exact mx_short_ok (mx_rng mx_sh_84 h1 h2) hj hk
  obtain rfl : k = 182 := by omega
  match j, hj with
  | 0, _ => exact mx_rng (p := fun k => mx_ckc mx_pg k 0) mx_ck_g150 h1 h2
  | 1, _ => exact mx_rng (p := fun k => mx_ckc mx_pg k 1) mx_ck_g151 h1 h2
  | 2, _ => exact mx_rng (p := fun k => mx_ckc mx_pg k 2) mx_ck_g152 h1 h2
  | z + 3, hj => exact absurd (Nat.le_add_left 3 z) hj
theorem mx_sh_85 : (List.range' 183 1).all (mx_short 2) = true := by decide +kernel
theorem mx_gr_85 {k j : Nat} (h1 : 183 ≤ k) (h2 : k < 184) (hk : k < mx_pg.length) : mx_ckc mx_pg k j = true := by
  by_cases hj : 2 ≤ j
  · exact mx_short_ok (mx_rng mx_sh_85 h1 h2) hj hk
  obtain rfl : k = 183 := by omega
  match j, hj with
  | 0, _ => exact mx_rng (p := fun k => mx_ckc mx_pg k 0) mx_ck_g153 h1 h2
  | 1, _ => exact mx_rng (p := fun k => mx_ckc mx_pg k 1) mx_ck_g154 h1 h2
  | z + 2, hj => exact absurd (Nat.le_add_left 2 z) hj
theorem mx_sh_86 : (List.range' 184 4).all (mx_short 1) = true := by decide +kernel
theorem mx_gr_86 {k j : Nat} (h1 : 184 ≤ k) (h2 : k < 188) (hk : k < mx_pg.length) : mx_ckc mx_pg k j = true := by
  by_cases hj : 1 ≤ j
  · exact mx_short_ok (mx_rng mx_sh_86 h1 h2) hj hk
  obtain rfl : j = 0 := by omega
  exact mx_rng (p := fun k => mx_ckc mx_pg k 0) mx_ck_g155 h1 h2
theorem mx_sh_87 : (List.range' 188 3).all (mx_short 1) = true := by decide +kernel
theorem mx_gr_87 {k j : Nat} (h1 : 188 ≤ k) (h2 : k < 191) (hk : k < mx_pg.length) : mx_ckc mx_pg k j = true := by
  by_cases hj : 1 ≤ j
  · exact mx_short_ok (mx_rng mx_sh_87 h1 h2) hj hk
  obtain rfl : j = 0 := by omega
  exact mx_rng (p := fun k => mx_ckc mx_pg k 0) mx_ck_g156 h1 h2
theorem mx_sh_88 : (List.range' 191 2).all (mx_short 1) = true := by decide +kernel
theorem mx_gr_88 {k j : Nat} (h1 : 191 ≤ k) (h2 : k < 193) (hk : k < mx_pg.length) : mx_ckc mx_pg k j = true := by
  by_cases hj : 1 ≤ j
  · exact mx_short_ok (mx_rng mx_sh_88 h1 h2) hj hk
  obtain rfl : j = 0 := by omega
  exact mx_rng (p := fun k => mx_ckc mx_pg k 0) mx_ck_g157 h1 h2
theorem mx_sh_89 : (List.range' 193 1).all (mx_short 2) = true := by decide +kernel
theorem mx_gr_89 {k j : Nat} (h1 : 193 ≤ k) (h2 : k < 194) (hk : k < mx_pg.length) : mx_ckc mx_pg k j = true := by
  by_cases hj : 2 ≤ j
  · exact mx_short_ok (mx_rng mx_sh_89 h1 h2) hj hk
  obtain rfl : k = 193 := by omega
  match j, hj with
  | 0, _ => exact mx_rng (p := fun k => mx_ckc mx_pg k 0) mx_ck_g158 h1 h2
  | 1, _ => exact mx_rng (p := fun k => mx_ckc mx_pg k 1) mx_ck_g159 h1 h2
  | z + 2, hj => exact absurd (Nat.le_add_left 2 z) hj
theorem mx_sh_90 : (List.range' 194 1).all (mx_short 7) = true := by decide +kernel
theorem mx_gr_90 {k j : Nat} (h1 : 194 ≤ k) (h2 : k < 195) (hk : k < mx_pg.length) : mx_ckc mx_pg k j = true := by
  by_cases hj : 7 ≤ j
  · exact mx_short_ok (mx_rng mx_sh_90 h1 h2) hj hk
  obtain rfl : k = 194 := by omega
  match j, hj with
  | 0, _ => exact mx_rng (p := fun k => mx_ckc mx_pg k 0) mx_ck_g160 h1 h2
  | 1, _ => exact mx_rng (p := fun k => mx_ckc mx_pg k 1) mx_ck_g161 h1 h2
  | 2, _ => exact mx_rng (p := fun k => mx_ckc mx_pg k 2) mx_ck_g162 h1 h2
  | 3, _ => exact mx_rng (p := fun k => mx_ckc mx_pg k 3) mx_ck_g163 h1 h2
  | 4, _ => exact mx_rng (p := fun k => mx_ckc mx_pg k 4) mx_ck_g164 h1 h2
  | 5, _ => exact mx_rng (p := fun k => mx_ckc mx_pg k 5) mx_ck_g165 h1 h2
  | 6, _ => exact mx_rng (p := fun k => mx_ckc mx_pg k 6) mx_ck_g166 h1 h2
  | z + 7, hj => exact absurd (Nat.le_add_left 7 z) hj
theorem mx_sh_91 : (List.range' 195 1).all (mx_short 1) = true := by decide +kernel
theorem mx_gr_91 {k j : Nat} (h1 : 195 ≤ k) (h2 : k < 196) (hk : k < mx_pg.length) : mx_ckc mx_pg k j = true := by
  by_cases hj : 1 ≤ j
  · exact mx_short_ok (mx_rng mx_sh_91 h1 h2) hj hk
  obtain rfl : j = 0 := by omega
  exact mx_rng (p := fun k => mx_ckc mx_pg k 0) mx_ck_g167 h1 h2
theorem mx_sh_92 : (List.range' 196 1).all (mx_short 2) = true := by decide +kernel
theorem mx_gr_92 {k j : Nat} (h1 : 196 ≤ k) (h2 : k < 197) (hk : k < mx_pg.length) : mx_ckc mx_pg k j = true := by
  by_cases hj : 2 ≤ j
  · exact mx_short_ok (mx_rng mx_sh_92 h1 h2) hj hk
  obtain rfl : k = 196 := by omega
  match j, hj with
  | 0, _ => exact mx_rng (p := fun k => mx_ckc mx_pg k 0) mx_ck_g168 h1 h2
  | 1, _ => exact mx_rng (p := fun k => mx_ckc mx_pg k 1) mx_ck_g169 h1 h2
  | z + 2, hj => exact absurd (Nat.le_add_left 2 z) hj
theorem mx_sh_93 : (List.range' 197 1).all (mx_short 3) = true := by decide +kernel
theorem mx_gr_93 {k j : Nat} (h1 : 197 ≤ k) (h2 : k < 198) (hk : k < mx_pg.length) : mx_ckc mx_pg k j = true := by
  by_cases hj : 3 ≤ j
  · exact mx_short_ok (mx_rng mx_sh_93 h1 h2) hj hk
  obtain rfl : k = 197 := by omega
  match j, hj with
  | 0, _ => exact mx_rng (p := fun k => mx_ckc mx_pg k 0) mx_ck_g170 h1 h2
  | 1, _ => exact mx_rng (p := fun k => mx_ckc mx_pg k 1) mx_ck_g171 h1 h2
  | 2, _ => exact mx_rng (p := fun k => mx_ckc mx_pg k 2) mx_ck_g172 h1 h2
  | z + 3, hj => exact absurd (Nat.le_add_left 3 z) hj
theorem mx_sh_94 : (List.range' 198 1).all (mx_short 2) = true := by decide +kernel
theorem mx_gr_94 {k j : Nat} (h1 : 198 ≤ k) (h2 : k < 199) (hk : k < mx_pg.length) : mx_ckc mx_pg k j = true := by
  by_cases hj : 2 ≤ j
  · exact mx_short_ok (mx_rng mx_sh_94 h1 h2) hj hk
  obtain rfl : k = 198 := by omega
  match j, hj with
  | 0, _ => exact mx_rng (p := fun k => mx_ckc mx_pg k 0) mx_ck_g173 h1 h2
  | 1, _ => exact mx_rng (p := fun k => mx_ckc mx_pg k 1) mx_ck_g174 h1 h2
  | z + 2, hj => exact absurd (Nat.le_add_left 2 z) hj
theorem mx_sh_95 : (List.range' 199 1).all (mx_short 1) = true := by decide +kernel
theorem mx_gr_95 {k j : Nat} (h1 : 199 ≤ k) (h2 : k < 200) (hk : k < mx_pg.length) : mx_ckc mx_pg k j = true := by
  by_cases hj : 1 ≤ j
  · exact mx_short_ok (mx_rng mx_sh_95 h1 h2) hj hk
  obtain rfl : j = 0 := by omega
  exact mx_rng (p := fun k => mx_ckc mx_pg k 0) mx_ck_g175 h1 h2
theorem mx_sh_96 : (List.range' 200 1).all (mx_short 5) = true := by decide +kernel
theorem mx_gr_96 {k j : Nat} (h1 : 200 ≤ k) (h2 : k < 201) (hk : k < mx_pg.length) : mx_ckc mx_pg k j = true := by
  by_cases hj : 5 ≤ j
  · exact mx_short_ok (mx_rng mx_sh_96 h1 h2) hj hk
  obtain rfl : k = 200 := by omega
  match j, hj with
  | 0, _ => exact mx_rng (p := fun k => mx_ckc mx_pg k 0) mx_ck_g176 h1 h2
  | 1, _ => exact mx_rng (p := fun k => mx_ckc mx_pg k 1) mx_ck_g177 h1 h2
  | 2, _ => exact mx_rng (p := fun k => mx_ckc mx_pg k 2) mx_ck_g178 h1 h2
  | 3, _ => exact mx_rng (p := fun k => mx_ckc mx_pg k 3) mx_ck_g179 h1 h2
  | 4, _ => exact mx_rng (p := fun k => mx_ckc mx_pg k 4) mx_ck_g180 h1 h2
  | z + 5, hj => exact absurd (Nat.le_add_left 5 z) hj
theorem mx_sh_97 : (List.range' 201 1).all (mx_short 2) = true := by decide +kernel
theorem mx_gr_97 {k j : Nat} (h1 : 201 ≤ k) (h2 : k < 202) (hk : k < mx_pg.length) : mx_ckc mx_pg k j = true := by
  by_cases hj : 2 ≤ j
  · exact mx_short_ok (mx_rng mx_sh_97 h1 h2) hj hk
  obtain rfl : k = 201 := by omega
  match j, hj with
  | 0, _ => exact mx_rng (p := fun k => mx_ckc mx_pg k 0) mx_ck_g181 h1 h2
  | 1, _ => exact mx_rng (p := fun k => mx_ckc mx_pg k 1) mx_ck_g182 h1 h2
  | z + 2, hj => exact absurd (Nat.le_add_left 2 z) hj
theorem mx_sh_98 : (List.range' 202 3).all (mx_short 1) = true := by decide +kernel
theorem mx_gr_98 {k j : Nat} (h1 : 202 ≤ k) (h2 : k < 205) (hk : k < mx_pg.length) : mx_ckc mx_pg k j = true := by
  by_cases hj : 1 ≤ j
  · exact mx_short_ok (mx_rng mx_sh_98 h1 h2) hj hk
  obtain rfl : j = 0 := by omega
  exact mx_rng (p := fun k => mx_ckc mx_pg k 0) mx_ck_g183 h1 h2
theorem mx_sh_99 : (List.range' 205 2).all (mx_short 1) = true := by decide +kernel
theorem mx_gr_99 {k j : Nat} (h1 : 205 ≤ k) (h2 : k < 207) (hk : k < mx_pg.length) : mx_ckc mx_pg k j = true := by
  by_cases hj : 1 ≤ j
  · exact mx_short_ok (mx_rng mx_sh_99 h1 h2) hj hk
  obtain rfl : j = 0 := by omega
  exact mx_rng (p := fun k => mx_ckc mx_pg k 0) mx_ck_g184 h1 h2
theorem mx_sh_100 : (List.range' 207 1).all (mx_short 2) = true := by decide +kernel
theorem mx_gr_100 {k j : Nat} (h1 : 207 ≤ k) (h2 : k < 208) (hk : k < mx_pg.length) : mx_ckc mx_pg k j = true := by
  by_cases hj : 2 ≤ j
  · exact mx_short_ok (mx_rng mx_sh_100 h1 h2) hj hk
  obtain rfl : k = 207 := by omega
  match j, hj with
  | 0, _ => exact mx_rng (p := fun k => mx_ckc mx_pg k 0) mx_ck_g185 h1 h2
  | 1, _ => exact mx_rng (p := fun k => mx_ckc mx_pg k 1) mx_ck_g186 h1 h2
  | z + 2, hj => exact absurd (Nat.le_add_left 2 z) hj
theorem mx_sh_101 : (List.range' 208 1).all (mx_short 1) = true := by decide +kernel
theorem mx_gr_101 {k j : Nat} (h1 : 208 ≤ k) (h2 : k < 209) (hk : k < mx_pg.length) : mx_ckc mx_pg k j = true := by
  by_cases hj : 1 ≤ j
  · exact mx_short_ok (mx_rng mx_sh_101 h1 h2) hj hk
  obtain rfl : j = 0 := by omega
  exact mx_rng (p := fun k => mx_ckc mx_pg k 0) mx_ck_g187 h1 h2
theorem mx_sh_102 : (List.range' 209 1).all (mx_short 4) = true := by decide +kernel
theorem mx_gr_102 {k j : Nat} (h1 : 209 ≤ k) (h2 : k < 210) (hk : k < mx_pg.length) : mx_ckc mx_pg k j = true := by
  by_cases hj : 4 ≤ j
  · exact mx_short_ok (mx_rng mx_sh_102 h1 h2) hj hk
  obtain rfl : k = 209 := by omega
  match j, hj with
  | 0, _ => exact mx_rng (p := fun k => mx_ckc mx_pg k 0) mx_ck_g188 h1 h2
  | 1, _ => exact mx_rng (p := fun k => mx_ckc mx_pg k 1) mx_ck_g189 h1 h2
  | 2, _ => exact mx_rng (p := fun k => mx_ckc mx_pg k 2) mx_ck_g190 h1 h2
  | 3, _ => exact mx_rng (p := fun k => mx_ckc mx_pg k 3) mx_ck_g191 h1 h2
  | z + 4, hj => exact absurd (Nat.le_add_left 4 z) hj
theorem mx_sh_103 : (List.range' 210 1).all (mx_short 2) = true := by decide +kernel
theorem mx_gr_103 {k j : Nat} (h1 : 210 ≤ k) (h2 : k < 211) (hk : k < mx_pg.length) : mx_ckc mx_pg k j = true := by
  by_cases hj : 2 ≤ j
  · exact mx_short_ok (mx_rng mx_sh_103 h1 h2) hj hk
  obtain rfl : k = 210 := by omega
  match j, hj with
  | 0, _ => exact mx_rng (p := fun k => mx_ckc mx_pg k 0) mx_ck_g192 h1 h2
  | 1, _ => exact mx_rng (p := fun k => mx_ckc mx_pg k 1) mx_ck_g193 h1 h2
  | z + 2, hj => exact absurd (Nat.le_add_left 2 z) hj
theorem mx_sh_104 : (List.range' 211 1).all (mx_short 3) = true := by decide +kernel
theorem mx_gr_104 {k j : Nat} (h1 : 211 ≤ k) (h2 : k < 212) (hk : k < mx_pg.length) : mx_ckc mx_pg k j = true := by
  by_cases hj : 3 ≤ j
  · exact mx_short_ok (mx_rng mx_sh_104 h1 h2) hj hk
  obtain rfl : k = 211 := by omega
  match j, hj with
  | 0, _ => exact mx_rng (p := fun k => mx_ckc mx_pg k 0) mx_ck_g194 h1 h2
  | 1, _ => exact mx_rng (p := fun k => mx_ckc mx_pg k 1) mx_ck_g195 h1 h2
  | 2, _ => exact mx_rng (p := fun k => mx_ckc mx_pg k 2) mx_ck_g196 h1 h2
  | z + 3, hj => exact absurd (Nat.le_add_left 3 z) hj
theorem mx_sh_105 : (List.range' 212 1).all (mx_short 1) = true := by decide +kernel
theorem mx_gr_105 {k j : Nat} (h1 : 212 ≤ k) (h2 : k < 213) (hk : k < mx_pg.length) : mx_ckc mx_pg k j = true := by
  by_cases hj : 1 ≤ j
  · exact mx_short_ok (mx_rng mx_sh_105 h1 h2) hj hk
  obtain rfl : j = 0 := by omega
  exact mx_rng (p := fun k => mx_ckc mx_pg k 0) mx_ck_g197 h1 h2
theorem mx_sh_106 : (List.range' 213 1).all (mx_short 2) = true := by decide +kernel
theorem mx_gr_106 {k j : Nat} (h1 : 213 ≤ k) (h2 : k < 214) (hk : k < mx_pg.length) : mx_ckc mx_pg k j = true := by
  by_cases hj : 2 ≤ j
  · exact mx_short_ok (mx_rng mx_sh_106 h1 h2) hj hk
  obtain rfl : k = 213 := by omega
  match j, hj with
  | 0, _ => exact mx_rng (p := fun k => mx_ckc mx_pg k 0) mx_ck_g198 h1 h2
  | 1, _ => exact mx_rng (p := fun k => mx_ckc mx_pg k 1) mx_ck_g199 h1 h2
  | z + 2, hj => exact absurd (Nat.le_add_left 2 z) hj
theorem mx_sh_107 : (List.range' 214 8).all (mx_short 1) = true := by decide +kernel
theorem mx_gr_107 {k j : Nat} (h1 : 214 ≤ k) (h2 : k < 222) (hk : k < mx_pg.length) : mx_ckc mx_pg k j = true := by
  by_cases hj : 1 ≤ j
  · exact mx_short_ok (mx_rng mx_sh_107 h1 h2) hj hk
  obtain rfl : j = 0 := by omega
  exact mx_rng (p := fun k => mx_ckc mx_pg k 0) mx_ck_g200 h1 h2
theorem mx_sh_108 : (List.range' 222 8).all (mx_short 1) = true := by decide +kernel
theorem mx_gr_108 {k j : Nat} (h1 : 222 ≤ k) (h2 : k < 230) (hk : k < mx_pg.length) : mx_ckc mx_pg k j = true := by
  by_cases hj : 1 ≤ j
  · exact mx_short_ok (mx_rng mx_sh_108 h1 h2) hj hk
  obtain rfl : j = 0 := by omega
  exact mx_rng (p := fun k => mx_ckc mx_pg k 0) mx_ck_g201 h1 h2
theorem mx_sh_109 : (List.range' 230 1).all (mx_short 6) = true := by decide +kernel
theorem mx_gr_109 {k j : Nat} (h1 : 230 ≤ k) (h2 : k < 231) (hk : k < mx_pg.length) : mx_ckc mx_pg k j = true := by
  by_cases hj : 6 ≤ j
  · exact mx_short_ok (mx_rng mx_sh_109 h1 h2) hj hk
  obtain rfl : k = 230 := by omega
  match j, hj with
  | 0, _ => exact mx_rng (p := fun k => mx_ckc mx_pg k 0) mx_ck_g202 h1 h2
  | 1, _ => exact mx_rng (p := fun k => mx_ckc mx_pg k 1) mx_ck_g203 h1 h2
  | 2, _ => exact mx_rng (p := fun k => mx_ckc mx_pg k 2) mx_ck_g204 h1 h2
  | 3, _ => exact mx_rng (p := fun k => mx_ckc mx_pg k 3) mx_ck_g205 h1 h2
  | 4, _ => exact mx_rng (p := fun k => mx_ckc mx_pg k 4) mx_ck_g206 h1 h2
  | 5, _ => exact mx_rng (p := fun k => mx_ckc mx_pg k 5) mx_ck_g207 h1 h2
  | z + 6, hj => exact absurd (Nat.le_add_left 6 z) hj
theorem mx_pg_ok : mx_pok mx_pg := by
  refine mx_pok_of mx_me_all (fun k hk j => ?_) ⟨mx_has_ok (c := 1028) (by decide +kernel), mx_has_ok (c := 1029) (by decide +kernel)⟩
  have hk2 := hk
  rw [mx_pg_len] at hk2
  by_cases h0 : k < 6
  · exact mx_gr_0 (Nat.zero_le _) h0 hk
  by_cases h1 : k < 7
  · exact mx_gr_1 (Nat.not_lt.mp h0) h1 hk
  by_cases h2 : k < 9
  · exact mx_gr_2 (Nat.not_lt.mp h1) h2 hk
  by_cases h3 : k < 10
  · exact mx_gr_3 (Nat.not_lt.mp h2) h3 hk
  by_cases h4 : k < 11
  · exact mx_gr_4 (Nat.not_lt.mp h3) h4 hk
  by_cases h5 : k < 12
  · exact mx_gr_5 (Nat.not_lt.mp h4) h5 hk
  by_cases h6 : k < 22
  · exact mx_gr_6 (Nat.not_lt.mp h5) h6 hk
  by_cases h7 : k < 23
  · exact mx_gr_7 (Nat.not_lt.mp h6) h7 hk
  by_cases h8 : k < 24
  · exact mx_gr_8 (Nat.not_lt.mp h7) h8 hk
  by_cases h9 : k < 27
  · exact mx_gr_9 (Nat.not_lt.mp h8) h9 hk
  by_cases h10 : k < 28
  · exact mx_gr_10 (Nat.not_lt.mp h9) h10 hk
  by_cases h11 : k < 29
  · exact mx_gr_11 (Nat.not_lt.mp h10) h11 hk
  by_cases h12 : k < 30
  · exact mx_gr_12 (Nat.not_lt.mp h11) h12 hk
  by_cases h13 : k < 32
  · exact mx_gr_13 (Nat.not_lt.mp h12) h13 hk
  by_cases h14 : k < 33
  · exact mx_gr_14 (Nat.not_lt.mp h13) h14 hk
  by_cases h15 : k < 38
  · exact mx_gr_15 (Nat.not_lt.mp h14) h15 hk
  by_cases h16 : k < 39
  · exact mx_gr_16 (Nat.not_lt.mp h15) h16 hk
  by_cases h17 : k < 42
  · exact mx_gr_17 (Nat.not_lt.mp h16) h17 hk
  by_cases h18 : k < 47
  · exact mx_gr_18 (Nat.not_lt.mp h17) h18 hk
  by_cases h19 : k < 54
  · exact mx_gr_19 (Nat.not_lt.mp h18) h19 hk
  by_cases h20 : k < 61
  · exact mx_gr_20 (Nat.not_lt.mp h19) h20 hk
  by_cases h21 : k < 68
  · exact mx_gr_21 (Nat.not_lt.mp h20) h21 hk
  by_cases h22 : k < 70
  · exact mx_gr_22 (Nat.not_lt.mp h21) h22 hk
  by_cases h23 : k < 71
  · exact mx_gr_23 (Nat.not_lt.mp h22) h23 hk
  by_cases h24 : k < 72
  · exact mx_gr_24 (Nat.not_lt.mp h23) h24 hk
  by_cases h25 : k < 73
  · exact mx_gr_25 (Nat.not_lt.mp h24) h25 hk
  by_cases h26 : k < 76
  · exact mx_gr_26 (Nat.not_lt.mp h25) h26 hk
  by_cases h27 : k < 77
  · exact mx_gr_27 (Nat.not_lt.mp h26) h27 hk
  by_cases h28 : k < 78
  · exact mx_gr_28 (Nat.not_lt.mp h27) h28 hk
  by_cases h29 : k < 79
  · exact mx_gr_29 (Nat.not_lt.mp h28) h29 hk
  by_cases h30 : k < 80
  · exact mx_gr_30 (Nat.not_lt.mp h29) h30 hk
  by_cases h31 : k < 81
  · exact mx_gr_31 (Nat.not_lt.mp h30) h31 hk
  by_cases h32 : k < 82
  · exact mx_gr_32 (Nat.not_lt.mp h31) h32 hk
  by_cases h33 : k < 86
  · exact mx_gr_33 (Nat.not_lt.mp h32) h33 hk
  by_cases h34 : k < 90
  · exact mx_gr_34 (Nat.not_lt.mp h33) h34 hk
  by_cases h35 : k < 91
  · exact mx_gr_35 (Nat.not_lt.mp h34) h35 hk
  by_cases h36 : k < 97
  · exact mx_gr_36 (Nat.not_lt.mp h35) h36 hk
  by_cases h37 : k < 98
  · exact mx_gr_37 (Nat.not_lt.mp h36) h37 hk
  by_cases h38 : k < 99
  · exact mx_gr_38 (Nat.not_lt.mp h37) h38 hk
  by_cases h39 : k < 100
  · exact mx_gr_39 (Nat.not_lt.mp h38) h39 hk
  by_cases h40 : k < 101
  · exact mx_gr_40 (Nat.not_lt.mp h39) h40 hk
  by_cases h41 : k < 105
  · exact mx_gr_41 (Nat.not_lt.mp h40) h41 hk
  by_cases h42 : k < 106
  · exact mx_gr_42 (Nat.not_lt.mp h41) h42 hk
  by_cases h43 : k < 107
  · exact mx_gr_43 (Nat.not_lt.mp h42) h43 hk
  by_cases h44 : k < 110
  · exact mx_gr_44 (Nat.not_lt.mp h43) h44 hk
  by_cases h45 : k < 117
  · exact mx_gr_45 (Nat.not_lt.mp h44) h45 hk
  by_cases h46 : k < 119
  · exact mx_gr_46 (Nat.not_lt.mp h45) h46 hk
  by_cases h47 : k < 120
  · exact mx_gr_47 (Nat.not_lt.mp h46) h47 hk
  by_cases h48 : k < 123
  · exact mx_gr_48 (Nat.not_lt.mp h47) h48 hk
  by_cases h49 : k < 124
  · exact mx_gr_49 (Nat.not_lt.mp h48) h49 hk
  by_cases h50 : k < 125
  · exact mx_gr_50 (Nat.not_lt.mp h49) h50 hk
  by_cases h51 : k < 126
  · exact mx_gr_51 (Nat.not_lt.mp h50) h51 hk
  by_cases h52 : k < 127
  · exact mx_gr_52 (Nat.not_lt.mp h51) h52 hk
  by_cases h53 : k < 128
  · exact mx_gr_53 (Nat.not_lt.mp h52) h53 hk
  by_cases h54 : k < 129
  · exact mx_gr_54 (Nat.not_lt.mp h53) h54 hk
  by_cases h55 : k < 131
  · exact mx_gr_55 (Nat.not_lt.mp h54) h55 hk
  by_cases h56 : k < 132
  · exact mx_gr_56 (Nat.not_lt.mp h55) h56 hk
  by_cases h57 : k < 133
  · exact mx_gr_57 (Nat.not_lt.mp h56) h57 hk
  by_cases h58 : k < 136
  · exact mx_gr_58 (Nat.not_lt.mp h57) h58 hk
  by_cases h59 : k < 137
  · exact mx_gr_59 (Nat.not_lt.mp h58) h59 hk
  by_cases h60 : k < 138
  · exact mx_gr_60 (Nat.not_lt.mp h59) h60 hk
  by_cases h61 : k < 139
  · exact mx_gr_61 (Nat.not_lt.mp h60) h61 hk
  by_cases h62 : k < 146
  · exact mx_gr_62 (Nat.not_lt.mp h61) h62 hk
  by_cases h63 : k < 149
  · exact mx_gr_63 (Nat.not_lt.mp h62) h63 hk
  by_cases h64 : k < 150
  · exact mx_gr_64 (Nat.not_lt.mp h63) h64 hk
  by_cases h65 : k < 151
  · exact mx_gr_65 (Nat.not_lt.mp h64) h65 hk
  by_cases h66 : k < 155
  · exact mx_gr_66 (Nat.not_lt.mp h65) h66 hk
  by_cases h67 : k < 156
  · exact mx_gr_67 (Nat.not_lt.mp h66) h67 hk
  by_cases h68 : k < 157
  · exact mx_gr_68 (Nat.not_lt.mp h67) h68 hk
  by_cases h69 : k < 160
  · exact mx_gr_69 (Nat.not_lt.mp h68) h69 hk
  by_cases h70 : k < 161
  · exact mx_gr_70 (Nat.not_lt.mp h69) h70 hk
  by_cases h71 : k < 163
  · exact mx_gr_71 (Nat.not_lt.mp h70) h71 hk
  by_cases h72 : k < 164
  · exact mx_gr_72 (Nat.not_lt.mp h71) h72 hk
  by_cases h73 : k < 165
  · exact mx_gr_73 (Nat.not_lt.mp h72) h73 hk
  by_cases h74 : k < 170
  · exact mx_gr_74 (Nat.not_lt.mp h73) h74 hk
  by_cases h75 : k < 171
  · exact mx_gr_75 (Nat.not_lt.mp h74) h75 hk
  by_cases h76 : k < 172
  · exact mx_gr_76 (Nat.not_lt.mp h75) h76 hk
  by_cases h77 : k < 173
  · exact mx_gr_77 (Nat.not_lt.mp h76) h77 hk
  by_cases h78 : k < 174
  · exact mx_gr_78 (Nat.not_lt.mp h77) h78 hk
  by_cases h79 : k < 175
  · exact mx_gr_79 (Nat.not_lt.mp h78) h79 hk
  by_cases h80 : k < 176
  · exact mx_gr_80 (Nat.not_lt.mp h79) h80 hk
  by_cases h81 : k < 180
  · exact mx_gr_81 (Nat.not_lt.mp h80) h81 hk
  by_cases h82 : k < 181
  · exact mx_gr_82 (Nat.not_lt.mp h81) h82 hk
  by_cases h83 : k < 182
  · exact mx_gr_83 (Nat.not_lt.mp h82) h83 hk
  by_cases h84 : k < 183
  · exact mx_gr_84 (Nat.not_lt.mp h83) h84 hk
  by_cases h85 : k < 184
  · exact mx_gr_85 (Nat.not_lt.mp h84) h85 hk
  by_cases h86 : k < 188
  · exact mx_gr_86 (Nat.not_lt.mp h85) h86 hk
  by_cases h87 : k < 191
  · exact mx_gr_87 (Nat.not_lt.mp h86) h87 hk
  by_cases h88 : k < 193
  · exact mx_gr_88 (Nat.not_lt.mp h87) h88 hk
  by_cases h89 : k < 194
  · exact mx_gr_89 (Nat.not_lt.mp h88) h89 hk
  by_cases h90 : k < 195
  · exact mx_gr_90 (Nat.not_lt.mp h89) h90 hk
  by_cases h91 : k < 196
  · exact mx_gr_91 (Nat.not_lt.mp h90) h91 hk
  by_cases h92 : k < 197
  · exact mx_gr_92 (Nat.not_lt.mp h91) h92 hk
  by_cases h93 : k < 198
  · exact mx_gr_93 (Nat.not_lt.mp h92) h93 hk
  by_cases h94 : k < 199
  · exact mx_gr_94 (Nat.not_lt.mp h93) h94 hk
  by_cases h95 : k < 200
  · exact mx_gr_95 (Nat.not_lt.mp h94) h95 hk
  by_cases h96 : k < 201
  · exact mx_gr_96 (Nat.not_lt.mp h95) h96 hk
  by_cases h97 : k < 202
  · exact mx_gr_97 (Nat.not_lt.mp h96) h97 hk
  by_cases h98 : k < 205
  · exact mx_gr_98 (Nat.not_lt.mp h97) h98 hk
  by_cases h99 : k < 207
  · exact mx_gr_99 (Nat.not_lt.mp h98) h99 hk
  by_cases h100 : k < 208
  · exact mx_gr_100 (Nat.not_lt.mp h99) h100 hk
  by_cases h101 : k < 209
  · exact mx_gr_101 (Nat.not_lt.mp h100) h101 hk
  by_cases h102 : k < 210
  · exact mx_gr_102 (Nat.not_lt.mp h101) h102 hk
  by_cases h103 : k < 211
  · exact mx_gr_103 (Nat.not_lt.mp h102) h103 hk
  by_cases h104 : k < 212
  · exact mx_gr_104 (Nat.not_lt.mp h103) h104 hk
  by_cases h105 : k < 213
  · exact mx_gr_105 (Nat.not_lt.mp h104) h105 hk
  by_cases h106 : k < 214
  · exact mx_gr_106 (Nat.not_lt.mp h105) h106 hk
  by_cases h107 : k < 222
  · exact mx_gr_107 (Nat.not_lt.mp h106) h107 hk
  by_cases h108 : k < 230
  · exact mx_gr_108 (Nat.not_lt.mp h107) h108 hk
  by_cases h109 : k < 231
  · exact mx_gr_109 (Nat.not_lt.mp h108) h109 hk
  exact absurd hk2 h109
