section
/-! ===== the program is as the files have it ===== -/
theorem mx_rng {a b k : Nat} {p : Nat → Bool} (h : (List.range' a b).all p = true) (h1 : a ≤ k) (h2 : k < a + b) : p k = true := List.all_eq_true.mp h k (List.mem_range'_1.mpr ⟨h1, h2⟩)
def mx_short (m k : Nat) : Bool := match mx_pg[k]? with | none => true | some e => Nat.ble e.2.2.2.length (50 * m)
theorem mx_short_ok {m k j : Nat} (h : mx_short m k = true) (hj : m ≤ j) (hk : k < mx_pg.length) : mx_ckc mx_pg k j = true := by
  unfold mx_short at h
  rw [List.getElem?_eq_getElem hk] at h
  exact mx_ckc_end (List.getElem?_eq_getElem hk) (Nat.le_trans (Nat.ble_eq.mp h) (Nat.mul_le_mul_left 50 hj))
theorem mx_me_all : ∀ k e, mx_pg[k]? = some e → k + 1 < mx_pg.length → mx_me e.1 e.2.1 ∧ e.1.2.2.1 ≤ 21 := by
  intro k e he hk
  rw [mx_pg_len] at hk
  match k, hk, he with
  | 0, _, he => cases he; exact mx_me_0
  | 1, _, he => cases he; exact mx_me_1
  | 2, _, he => cases he; exact mx_me_2
  | 3, _, he => cases he; exact mx_me_3
  | 4, _, he => cases he; exact mx_me_4
  | 5, _, he => cases he; exact mx_me_5
  | 6, _, he => cases he; exact mx_me_6
  | 7, _, he => cases he; exact mx_me_7
  | 8, _, he => cases he; exact mx_me_8
  | 9, _, he => cases he; exact mx_me_9
  | 10, _, he => cases he; exact mx_me_10
  | 11, _, he => cases he; exact mx_me_11
  | 12, _, he => cases he; exact mx_me_12
  | 13, _, he => cases he; exact mx_me_13
  | 14, _, he => cases he; exact mx_me_14
  | 15, _, he => cases he; exact mx_me_15
  | 16, _, he => cases he; exact mx_me_16
  | 17, _, he => cases he; exact mx_me_17
  | 18, _, he => cases he; exact mx_me_18
  | 19, _, he => cases he; exact mx_me_19
  | 20, _, he => cases he; exact mx_me_20
  | 21, _, he => cases he; exact mx_me_21
  | 22, _, he => cases he; exact mx_me_22
  | 23, _, he => cases he; exact mx_me_23
  | 24, _, he => cases he; exact mx_me_24
  | 25, _, he => cases he; exact mx_me_25
  | 26, _, he => cases he; exact mx_me_26
  | 27, _, he => cases he; exact mx_me_27
  | 28, _, he => cases he; exact mx_me_28
  | 29, _, he => cases he; exact mx_me_29
  | 30, _, he => cases he; exact mx_me_30
  | 31, _, he => cases he; exact mx_me_31
  | 32, _, he => cases he; exact mx_me_32
  | 33, _, he => cases he; exact mx_me_33
  | 34, _, he => cases he; exact mx_me_34
  | 35, _, he => cases he; exact mx_me_35
  | 36, _, he => cases he; exact mx_me_36
  | 37, _, he => cases he; exact mx_me_37
  | 38, _, he => cases he; exact mx_me_38
  | 39, _, he => cases he; exact mx_me_39
  | 40, _, he => cases he; exact mx_me_40
  | 41, _, he => cases he; exact mx_me_41
  | 42, _, he => cases he; exact mx_me_42
  | 43, _, he => cases he; exact mx_me_43
  | 44, _, he => cases he; exact mx_me_44
  | 45, _, he => cases he; exact mx_me_45
  | 46, _, he => cases he; exact mx_me_46
  | 47, _, he => cases he; exact mx_me_47
  | 48, _, he => cases he; exact mx_me_48
  | 49, _, he => cases he; exact mx_me_49
  | 50, _, he => cases he; exact mx_me_50
  | 51, _, he => cases he; exact mx_me_51
  | 52, _, he => cases he; exact mx_me_52
  | 53, _, he => cases he; exact mx_me_53
  | 54, _, he => cases he; exact mx_me_54
  | 55, _, he => cases he; exact mx_me_55
  | 56, _, he => cases he; exact mx_me_56
  | 57, _, he => cases he; exact mx_me_57
  | 58, _, he => cases he; exact mx_me_58
  | 59, _, he => cases he; exact mx_me_59
  | 60, _, he => cases he; exact mx_me_60
  | 61, _, he => cases he; exact mx_me_61
  | 62, _, he => cases he; exact mx_me_62
  | 63, _, he => cases he; exact mx_me_63
  | 64, _, he => cases he; exact mx_me_64
  | 65, _, he => cases he; exact mx_me_65
  | 66, _, he => cases he; exact mx_me_66
  | 67, _, he => cases he; exact mx_me_67
  | 68, _, he => cases he; exact mx_me_68
  | 69, _, he => cases he; exact mx_me_69
  | 70, _, he => cases he; exact mx_me_70
  | 71, _, he => cases he; exact mx_me_71
  | 72, _, he => cases he; exact mx_me_72
  | 73, _, he => cases he; exact mx_me_73
  | 74, _, he => cases he; exact mx_me_74
  | 75, _, he => cases he; exact mx_me_75
  | 76, _, he => cases he; exact mx_me_76
  | 77, _, he => cases he; exact mx_me_77
  | 78, _, he => cases he; exact mx_me_78
  | 79, _, he => cases he; exact mx_me_79
  | 80, _, he => cases he; exact mx_me_80
  | 81, _, he => cases he; exact mx_me_81
  | 82, _, he => cases he; exact mx_me_82
  | 83, _, he => cases he; exact mx_me_83
  | 84, _, he => cases he; exact mx_me_84
  | 85, _, he => cases he; exact mx_me_85
  | 86, _, he => cases he; exact mx_me_86
  | 87, _, he => cases he; exact mx_me_87
  | 88, _, he => cases he; exact mx_me_88
  | 89, _, he => cases he; exact mx_me_89
  | 90, _, he => cases he; exact mx_me_90
  | 91, _, he => cases he; exact mx_me_91
  | 92, _, he => cases he; exact mx_me_92
  | 93, _, he => cases he; exact mx_me_93
  | 94, _, he => cases he; exact mx_me_94
  | 95, _, he => cases he; exact mx_me_95
  | 96, _, he => cases he; exact mx_me_96
  | 97, _, he => cases he; exact mx_me_97
  | 98, _, he => cases he; exact mx_me_98
  | 99, _, he => cases he; exact mx_me_99
  | 100, _, he => cases he; exact mx_me_100
  | 101, _, he => cases he; exact mx_me_101
  | 102, _, he => cases he; exact mx_me_102
  | 103, _, he => cases he; exact mx_me_103
  | 104, _, he => cases he; exact mx_me_104
  | 105, _, he => cases he; exact mx_me_105
  | 106, _, he => cases he; exact mx_me_106
  | 107, _, he => cases he; exact mx_me_107
  | 108, _, he => cases he; exact mx_me_108
  | 109, _, he => cases he; exact mx_me_109
  | 110, _, he => cases he; exact mx_me_110
  | 111, _, he => cases he; exact mx_me_111
  | 112, _, he => cases he; exact mx_me_112
  | 113, _, he => cases he; exact mx_me_113
  | 114, _, he => cases he; exact mx_me_114
  | 115, _, he => cases he; exact mx_me_115
  | 116, _, he => cases he; exact mx_me_116
  | 117, _, he => cases he; exact mx_me_117
  | 118, _, he => cases he; exact mx_me_118
  | 119, _, he => cases he; exact mx_me_119
  | 120, _, he => cases he; exact mx_me_120
  | 121, _, he => cases he; exact mx_me_121
  | 122, _, he => cases he; exact mx_me_122
  | 123, _, he => cases he; exact mx_me_123
  | 124, _, he => cases he; exact mx_me_124
  | 125, _, he => cases he; exact mx_me_125
  | 126, _, he => cases he; exact mx_me_126
  | 127, _, he => cases he; exact mx_me_127
  | 128, _, he => cases he; exact mx_me_128
  | 129, _, he => cases he; exact mx_me_129
  | 130, _, he => cases he; exact mx_me_130
  | 131, _, he => cases he; exact mx_me_131
  | 132, _, he => cases he; exact mx_me_132
  | 133, _, he => cases he; exact mx_me_133
  | 134, _, he => cases he; exact mx_me_134
  | 135, _, he => cases he; exact mx_me_135
  | 136, _, he => cases he; exact mx_me_136
  | 137, _, he => cases he; exact mx_me_137
  | 138, _, he => cases he; exact mx_me_138
  | 139, _, he => cases he; exact mx_me_139
  | 140, _, he => cases he; exact mx_me_140
  | 141, _, he => cases he; exact mx_me_141
  | 142, _, he => cases he; exact mx_me_142
  | 143, _, he => cases he; exact mx_me_143
  | 144, _, he => cases he; exact mx_me_144
  | 145, _, he => cases he; exact mx_me_145
  | 146, _, he => cases he; exact mx_me_146
  | 147, _, he => cases he; exact mx_me_147
  | 148, _, he => cases he; exact mx_me_148
  | 149, _, he => cases he; exact mx_me_149
  | 150, _, he => cases he; exact mx_me_150
  | 151, _, he => cases he; exact mx_me_151
  | 152, _, he => cases he; exact mx_me_152
  | 153, _, he => cases he; exact mx_me_153
  | 154, _, he => cases he; exact mx_me_154
  | 155, _, he => cases he; exact mx_me_155
  | 156, _, he => cases he; exact mx_me_156
  | 157, _, he => cases he; exact mx_me_157
  | 158, _, he => cases he; exact mx_me_158
  | 159, _, he => cases he; exact mx_me_159
  | 160, _, he => cases he; exact mx_me_160
  | 161, _, he => cases he; exact mx_me_161
  | 162, _, he => cases he; exact mx_me_162
  | 163, _, he => cases he; exact mx_me_163
  | 164, _, he => cases he; exact mx_me_164
  | 165, _, he => cases he; exact mx_me_165
  | 166, _, he => cases he; exact mx_me_166
  | 167, _, he => cases he; exact mx_me_167
  | 168, _, he => cases he; exact mx_me_168
  | 169, _, he => cases he; exact mx_me_169
  | 170, _, he => cases he; exact mx_me_170
  | 171, _, he => cases he; exact mx_me_171
  | 172, _, he => cases he; exact mx_me_172
  | 173, _, he => cases he; exact mx_me_173
  | 174, _, he => cases he; exact mx_me_174
  | 175, _, he => cases he; exact mx_me_175
  | 176, _, he => cases he; exact mx_me_176
  | 177, _, he => cases he; exact mx_me_177
  | 178, _, he => cases he; exact mx_me_178
  | 179, _, he => cases he; exact mx_me_179
  | 180, _, he => cases he; exact mx_me_180
  | 181, _, he => cases he; exact mx_me_181
  | 182, _, he => cases he; exact mx_me_182
  | 183, _, he => cases he; exact mx_me_183
  | 184, _, he => cases he; exact mx_me_184
  | 185, _, he => cases he; exact mx_me_185
  | 186, _, he => cases he; exact mx_me_186
  | 187, _, he => cases he; exact mx_me_187
  | 188, _, he => cases he; exact mx_me_188
  | 189, _, he => cases he; exact mx_me_189
  | 190, _, he => cases he; exact mx_me_190
  | 191, _, he => cases he; exact mx_me_191
  | 192, _, he => cases he; exact mx_me_192
  | 193, _, he => cases he; exact mx_me_193
  | 194, _, he => cases he; exact mx_me_194
  | 195, _, he => cases he; exact mx_me_195
  | 196, _, he => cases he; exact mx_me_196
  | 197, _, he => cases he; exact mx_me_197
  | 198, _, he => cases he; exact mx_me_198
  | 199, _, he => cases he; exact mx_me_199
  | 200, _, he => cases he; exact mx_me_200
  | 201, _, he => cases he; exact mx_me_201
  | 202, _, he => cases he; exact mx_me_202
  | 203, _, he => cases he; exact mx_me_203
  | 204, _, he => cases he; exact mx_me_204
  | 205, _, he => cases he; exact mx_me_205
  | 206, _, he => cases he; exact mx_me_206
  | 207, _, he => cases he; exact mx_me_207
  | 208, _, he => cases he; exact mx_me_208
  | 209, _, he => cases he; exact mx_me_209
  | 210, _, he => cases he; exact mx_me_210
  | 211, _, he => cases he; exact mx_me_211
  | 212, _, he => cases he; exact mx_me_212
  | 213, _, he => cases he; exact mx_me_213
  | 214, _, he => cases he; exact mx_me_214
  | 215, _, he => cases he; exact mx_me_215
  | 216, _, he => cases he; exact mx_me_216
  | 217, _, he => cases he; exact mx_me_217
  | 218, _, he => cases he; exact mx_me_218
  | 219, _, he => cases he; exact mx_me_219
  | 220, _, he => cases he; exact mx_me_220
  | 221, _, he => cases he; exact mx_me_221
  | 222, _, he => cases he; exact mx_me_222
  | 223, _, he => cases he; exact mx_me_223
  | 224, _, he => cases he; exact mx_me_224
  | 225, _, he => cases he; exact mx_me_225
  | 226, _, he => cases he; exact mx_me_226
  | 227, _, he => cases he; exact mx_me_227
  | 228, _, he => cases he; exact mx_me_228
  | 229, _, he => cases he; exact mx_me_229
  | k + 230, hk, _ => exact absurd hk (by omega)
theorem mx_sh_0 : (List.range' 0 6).all (mx_short 1) = true := by decide +kernel
theorem mx_gr_0 {k j : Nat} (h1 : 0 ≤ k) (h2 : k < 6) (hk : k < mx_pg.length) : mx_ckc mx_pg k j = true := by
  by_cases hj : 1 ≤ j
  · exact mx_short_ok (mx_rng mx_sh_0 h1 h2) hj hk
  obtain rfl : j = 0 := by omega
  exact mx_rng (p := fun k => mx_ckc mx_pg k 0) mx_ck_g0 h1 h2
theorem mx_sh_1 : (List.range' 6 1).all (mx_short 2) = true := by decide +kernel
theorem mx_gr_1 {k j : Nat} (h1 : 6 ≤ k) (h2 : k < 7) (hk : k < mx_pg.length) : mx_ckc mx_pg k j = true := by
  by_cases hj : 2 ≤ j
  · exact mx_short_ok (mx_rng mx_sh_1 h1 h2) hj hk
  obtain rfl : k = 6 := by omega
  match j, hj with
  | 0, _ => exact mx_rng (p := fun k => mx_ckc mx_pg k 0) mx_ck_g1 h1 h2
  | 1, _ => exact mx_rng (p := fun k => mx_ckc mx_pg k 1) mx_ck_g2 h1 h2
  | z + 2, hj => exact absurd (Nat.le_add_left 2 z) hj
theorem mx_sh_2 : (List.range' 7 2).all (mx_short 1) = true := by decide +kernel
theorem mx_gr_2 {k j : Nat} (h1 : 7 ≤ k) (h2 : k < 9) (hk : k < mx_pg.length) : mx_ckc mx_pg k j = true := by
  by_cases hj : 1 ≤ j
  · exact mx_short_ok (mx_rng mx_sh_2 h1 h2) hj hk
  obtain rfl : j = 0 := by omega
  exact mx_rng (p := fun k => mx_ckc mx_pg k 0) mx_ck_g3 h1 h2
theorem mx_sh_3 : (List.range' 9 1).all (mx_short 2) = true := by decide +kernel
theorem mx_gr_3 {k j : Nat} (h1 : 9 ≤ k) (h2 : k < 10) (hk : k < mx_pg.length) : mx_ckc mx_pg k j = true := by
  by_cases hj : 2 ≤ j
  · exact mx_short_ok (mx_rng mx_sh_3 h1 h2) hj hk
  obtain rfl : k = 9 := by omega
  match j, hj with
  | 0, _ => exact mx_rng (p := fun k => mx_ckc mx_pg k 0) mx_ck_g4 h1 h2
  | 1, _ => exact mx_rng (p := fun k => mx_ckc mx_pg k 1) mx_ck_g5 h1 h2
  | z + 2, hj => exact absurd (Nat.le_add_left 2 z) hj
theorem mx_sh_4 : (List.range' 10 1).all (mx_short 1) = true := by decide +kernel
theorem mx_gr_4 {k j : Nat} (h1 : 10 ≤ k) (h2 : k < 11) (hk : k < mx_pg.length) : mx_ckc mx_pg k j = true := by
  by_cases hj : 1 ≤ j
  · exact mx_short_ok (mx_rng mx_sh_4 h1 h2) hj hk
  obtain rfl : j = 0 := by omega
  exact mx_rng (p := fun k => mx_ckc mx_pg k 0) mx_ck_g6 h1 h2
theorem mx_sh_5 : (List.range' 11 1).all (mx_short 2) = true := by decide +kernel
theorem mx_gr_5 {k j : Nat} (h1 : 11 ≤ k) (h2 : k < 12) (hk : k < mx_pg.length) : mx_ckc mx_pg k j = true := by
  by_cases hj : 2 ≤ j
  · exact mx_short_ok (mx_rng mx_sh_5 h1 h2) hj hk
  obtain rfl : k = 11 := by omega
  match j, hj with
  | 0, _ => exact mx_rng (p := fun k => mx_ckc mx_pg k 0) mx_ck_g7 h1 h2
  | 1, _ => exact mx_rng (p := fun k => mx_ckc mx_pg k 1) mx_ck_g8 h1 h2
  | z + 2, hj => exact absurd (Nat.le_add_left 2 z) hj
theorem mx_sh_6 : (List.range' 12 10).all (mx_short 1) = true := by decide +kernel
theorem mx_gr_6 {k j : Nat} (h1 : 12 ≤ k) (h2 : k < 22) (hk : k < mx_pg.length) : mx_ckc mx_pg k j = true := by
  by_cases hj : 1 ≤ j
  · exact mx_short_ok (mx_rng mx_sh_6 h1 h2) hj hk
  obtain rfl : j = 0 := by omega
  exact mx_rng (p := fun k => mx_ckc mx_pg k 0) mx_ck_g9 h1 h2
theorem mx_sh_7 : (List.range' 22 1).all (mx_short 2) = true := by decide +kernel
theorem mx_gr_7 {k j : Nat} (h1 : 22 ≤ k) (h2 : k < 23) (hk : k < mx_pg.length) : mx_ckc mx_pg k j = true := by
  by_cases hj : 2 ≤ j
  · exact mx_short_ok (mx_rng mx_sh_7 h1 h2) hj hk
  obtain rfl : k = 22 := by omega
  match j, hj with
  | 0, _ => exact mx_rng (p := fun k => mx_ckc mx_pg k 0) mx_ck_g10 h1 h2
  | 1, _ => exact mx_rng (p := fun k => mx_ckc mx_pg k 1) mx_ck_g11 h1 h2
  | z + 2, hj => exact absurd (Nat.le_add_left 2 z) hj
theorem mx_sh_8 : (List.range' 23 1).all (mx_short 2) = true := by decide +kernel
theorem mx_gr_8 {k j : Nat} (h1 : 23 ≤ k) (h2 : k < 24) (hk : k < mx_pg.length) : mx_ckc mx_pg k j = true := by
  by_cases hj : 2 ≤ j
  · exact mx_short_ok (mx_rng mx_sh_8 h1 h2) hj hk
  obtain rfl : k = 23 := by omega
  match j, hj with
  | 0, _ => exact mx_rng (p := fun k => mx_ckc mx_pg k 0) mx_ck_g12 h1 h2
  | 1, _ => exact mx_rng (p := fun k => mx_ckc mx_pg k 1) mx_ck_g13 h1 h2
  | z + 2, hj => exact absurd (Nat.le_add_left 2 z) hj
theorem mx_sh_9 : (List.range' 24 3).all (mx_short 1) = true := by decide +kernel
theorem mx_gr_9 {k j : Nat} (h1 : 24 ≤ k) (h2 : k < 27) (hk : k < mx_pg.length) : mx_ckc mx_pg k j = true := by
  by_cases hj : 1 ≤ j
  · exact mx_short_ok (mx_rng mx_sh_9 h1 h2) hj hk
  obtain rfl : j = 0 := by omega
  exact mx_rng (p := fun k => mx_ckc mx_pg k 0) mx_ck_g14 h1 h2
theorem mx_sh_10 : (List.range' 27 1).all (mx_short 1) = true := by decide +kernel
theorem mx_gr_10 {k j : Nat} (h1 : 27 ≤ k) (h2 : k < 28) (hk : k < mx_pg.length) : mx_ckc mx_pg k j = true := by
  by_cases hj : 1 ≤ j
  · exact mx_short_ok (mx_rng mx_sh_10 h1 h2) hj hk
  obtain rfl : j = 0 := by omega
  exact mx_rng (p := fun k => mx_ckc mx_pg k 0) mx_ck_g15 h1 h2
theorem mx_sh_11 : (List.range' 28 1).all (mx_short 2) = true := by decide +kernel
theorem mx_gr_11 {k j : Nat} (h1 : 28 ≤ k) (h2 : k < 29) (hk : k < mx_pg.length) : mx_ckc mx_pg k j = true := by
  by_cases hj : 2 ≤ j
  · exact mx_short_ok (mx_rng mx_sh_11 h1 h2) hj hk
  obtain rfl : k = 28 := by omega
  match j, hj with
  | 0, _ => exact mx_rng (p := fun k => mx_ckc mx_pg k 0) mx_ck_g16 h1 h2
  | 1, _ => exact mx_rng (p := fun k => mx_ckc mx_pg k 1) mx_ck_g17 h1 h2
  | z + 2, hj => exact absurd (Nat.le_add_left 2 z) hj
theorem mx_sh_12 : (List.range' 29 1).all (mx_short 2) = true := by decide +kernel
theorem mx_gr_12 {k j : Nat} (h1 : 29 ≤ k) (h2 : k < 30) (hk : k < mx_pg.length) : mx_ckc mx_pg k j = true := by
  by_cases hj : 2 ≤ j
  · exact mx_short_ok (mx_rng mx_sh_12 h1 h2) hj hk
  obtain rfl : k = 29 := by omega
  match j, hj with
  | 0, _ => exact mx_rng (p := fun k => mx_ckc mx_pg k 0) mx_ck_g18 h1 h2
  | 1, _ => exact mx_rng (p := fun k => mx_ckc mx_pg k 1) mx_ck_g19 h1 h2
  | z + 2, hj => exact absurd (Nat.le_add_left 2 z) hj
theorem mx_sh_13 : (List.range' 30 2).all (mx_short 1) = true := by decide +kernel
theorem mx_gr_13 {k j : Nat} (h1 : 30 ≤ k) (h2 : k < 32) (hk : k < mx_pg.length) : mx_ckc mx_pg k j = true := by
  by_cases hj : 1 ≤ j
  · exact mx_short_ok (mx_rng mx_sh_13 h1 h2) hj hk
  obtain rfl : j = 0 := by omega
  exact mx_rng (p := fun k => mx_ckc mx_pg k 0) mx_ck_g20 h1 h2
theorem mx_sh_14 : (List.range' 32 1).all (mx_short 2) = true := by decide +kernel
theorem mx_gr_14 {k j : Nat} (h1 : 32 ≤ k) (h2 : k < 33) (hk : k < mx_pg.length) : mx_ckc mx_pg k j = true := by
  by_cases hj : 2 ≤ j
  · exact mx_short_ok (mx_rng mx_sh_14 h1 h2) hj hk
  obtain rfl : k = 32 := by omega
  match j, hj with
  | 0, _ => exact mx_rng (p := fun k => mx_ckc mx_pg k 0) mx_ck_g21 h1 h2
  | 1, _ => exact mx_rng (p := fun k => mx_ckc mx_pg k 1) mx_ck_g22 h1 h2
  | z + 2, hj => exact absurd (Nat.le_add_left 2 z) hj
theorem mx_sh_15 : (List.range' 33 5).all (mx_short 1) = true := by decide +kernel
theorem mx_gr_15 {k j : Nat} (h1 : 33 ≤ k) (h2 : k < 38) (hk : k < mx_pg.length) : mx_ckc mx_pg k j = true := by
  by_cases hj : 1 ≤ j
  · exact mx_short_ok (mx_rng mx_sh_15 h1 h2) hj hk
  obtain rfl : j = 0 := by omega
  exact mx_rng (p := fun k => mx_ckc mx_pg k 0) mx_ck_g23 h1 h2
theorem mx_sh_16 : (List.range' 38 1).all (mx_short 2) = true := by decide +kernel
theorem mx_gr_16 {k j : Nat} (h1 : 38 ≤ k) (h2 : k < 39) (hk : k < mx_pg.length) : mx_ckc mx_pg k j = true := by
  by_cases hj : 2 ≤ j
  · exact mx_short_ok (mx_rng mx_sh_16 h1 h2) hj hk
  obtain rfl : k = 38 := by omega
  match j, hj with
  | 0, _ => exact mx_rng (p := fun k => mx_ckc mx_pg k 0) mx_ck_g24 h1 h2
  | 1, _ => exact mx_rng (p := fun k => mx_ckc mx_pg k 1) mx_ck_g25 h1 h2
  | z + 2, hj => exact absurd (Nat.le_add_left 2 z) hj
theorem mx_sh_17 : (List.range' 39 3).all (mx_short 1) = true := by decide +kernel
theorem mx_gr_17 {k j : Nat} (h1 : 39 ≤ k) (h2 : k < 42) (hk : k < mx_pg.length) : mx_ckc mx_pg k j = true := by
  by_cases hj : 1 ≤ j
  · exact mx_short_ok (mx_rng mx_sh_17 h1 h2) hj hk
  obtain rfl : j = 0 := by omega
  exact mx_rng (p := fun k => mx_ckc mx_pg k 0) mx_ck_g26 h1 h2
theorem mx_sh_18 : (List.range' 42 5).all (mx_short 1) = true := by decide +kernel
theorem mx_gr_18 {k j : Nat} (h1 : 42 ≤ k) (h2 : k < 47) (hk : k < mx_pg.length) : mx_ckc mx_pg k j = true := by
  by_cases hj : 1 ≤ j
  · exact mx_short_ok (mx_rng mx_sh_18 h1 h2) hj hk
  obtain rfl : j = 0 := by omega
  exact mx_rng (p := fun k => mx_ckc mx_pg k 0) mx_ck_g27 h1 h2
theorem mx_sh_19 : (List.range' 47 7).all (mx_short 1) = true := by decide +kernel
theorem mx_gr_19 {k j : Nat} (h1 : 47 ≤ k) (h2 : k < 54) (hk : k < mx_pg.length) : mx_ckc mx_pg k j = true := by
  by_cases hj : 1 ≤ j
  · exact mx_short_ok (mx_rng mx_sh_19 h1 h2) hj hk
  obtain rfl : j = 0 := by omega
  exact mx_rng (p := fun k => mx_ckc mx_pg k 0) mx_ck_g28 h1 h2
theorem mx_sh_20 : (List.range' 54 7).all (mx_short 1) = true := by decide +kernel
theorem mx_gr_20 {k j : Nat} (h1 : 54 ≤ k) (h2 : k < 61) (hk : k < mx_pg.length) : mx_ckc mx_pg k j = true := by
  by_cases hj : 1 ≤ j
  · exact mx_short_ok (mx_rng mx_sh_20 h1 h2) hj hk
  obtain rfl : j = 0 := by omega
  exact mx_rng (p := fun k => mx_ckc mx_pg k 0) mx_ck_g29 h1 h2
theorem mx_sh_21 : (List.range' 61 7).all (mx_short 1) = true := by decide +kernel
theorem mx_gr_21 {k j : Nat} (h1 : 61 ≤ k) (h2 : k < 68) (hk : k < mx_pg.length) : mx_ckc mx_pg k j = true := by
  by_cases hj : 1 ≤ j
  · exact mx_short_ok (mx_rng mx_sh_21 h1 h2) hj hk
  obtain rfl : j = 0 := by omega
  exact mx_rng (p := fun k => mx_ckc mx_pg k 0) mx_ck_g30 h1 h2
theorem mx_sh_22 : (List.range' 68 2).all (mx_short 1) = true := by decide +kernel
theorem mx_gr_22 {k j : Nat} (h1 : 68 ≤ k) (h2 : k < 70) (hk : k < mx_pg.length) : mx_ckc mx_pg k j = true := by
  by_cases hj : 1 ≤ j
  · exact mx_short_ok (mx_rng mx_sh_22 h1 h2) hj hk
  obtain rfl : j = 0 := by omega
  exact mx_rng (p := fun k => mx_ckc mx_pg k 0) mx_ck_g31 h1 h2
theorem mx_sh_23 : (List.range' 70 1).all (mx_short 2) = true := by decide +kernel
theorem mx_gr_23 {k j : Nat} (h1 : 70 ≤ k) (h2 : k < 71) (hk : k < mx_pg.length) : mx_ckc mx_pg k j = true := by
  by_cases hj : 2 ≤ j
  · exact mx_short_ok (mx_rng mx_sh_23 h1 h2) hj hk
  obtain rfl : k = 70 := by omega
  match j, hj with
  | 0, _ => exact mx_rng (p := fun k => mx_ckc mx_pg k 0) mx_ck_g32 h1 h2
  | 1, _ => exact mx_rng (p := fun k => mx_ckc mx_pg k 1) mx_ck_g33 h1 h2
  | z + 2, hj => exact absurd (Nat.le_add_left 2 z) hj
theorem mx_sh_24 : (List.range' 71 1).all (mx_short 3) = true := by decide +kernel
theorem mx_gr_24 {k j : Nat} (h1 : 71 ≤ k) (h2 : k < 72) (hk : k < mx_pg.length) : mx_ckc mx_pg k j = true := by
  by_cases hj : 3 ≤ j
  · exact mx_short_ok (mx_rng mx_sh_24 h1 h2) hj hk
  obtain rfl : k = 71 := by omega
  match j, hj with
  | 0, _ => exact mx_rng (p := fun k => mx_ckc mx_pg k 0) mx_ck_g34 h1 h2
  | 1, _ => exact mx_rng (p := fun k => mx_ckc mx_pg k 1) mx_ck_g35 h1 h2
  | 2, _ => exact mx_rng (p := fun k => mx_ckc mx_pg k 2) mx_ck_g36 h1 h2
  | z + 3, hj => exact absurd (Nat.le_add_left 3 z) hj
theorem mx_sh_25 : (List.range' 72 1).all (mx_short 3) = true := by decide +kernel
theorem mx_gr_25 {k j : Nat} (h1 : 72 ≤ k) (h2 : k < 73) (hk : k < mx_pg.length) : mx_ckc mx_pg k j = true := by
  by_cases hj : 3 ≤ j
  · exact mx_short_ok (mx_rng mx_sh_25 h1 h2) hj hk
  obtain rfl : k = 72 := by omega
  match j, hj with
  | 0, _ => exact mx_rng (p := fun k => mx_ckc mx_pg k 0) mx_ck_g37 h1 h2
  | 1, _ => exact mx_rng (p := fun k => mx_ckc mx_pg k 1) mx_ck_g38 h1 h2
  | 2, _ => exact mx_rng (p := fun k => mx_ckc mx_pg k 2) mx_ck_g39 h1 h2
  | z + 3, hj => exact absurd (Nat.le_add_left 3 z) hj
theorem mx_sh_26 : (List.range' 73 3).all (mx_short 1) = true := by decide +kernel
theorem mx_gr_26 {k j : Nat} (h1 : 73 ≤ k) (h2 : k < 76) (hk : k < mx_pg.length) : mx_ckc mx_pg k j = true := by
  by_cases hj : 1 ≤ j
  · exact mx_short_ok (mx_rng mx_sh_26 h1 h2) hj hk
  obtain rfl : j = 0 := by omega
  exact mx_rng (p := fun k => mx_ckc mx_pg k 0) mx_ck_g40 h1 h2
theorem mx_sh_27 : (List.range' 76 1).all (mx_short 2) = true := by decide +kernel
theorem mx_gr_27 {k j : Nat} (h1 : 76 ≤ k) (h2 : k < 77) (hk : k < mx_pg.length) : mx_ckc mx_pg k j = true := by
  by_cases hj : 2 ≤ j
  · exact mx_short_ok (mx_rng mx_sh_27 h1 h2) hj hk
  obtain rfl : k = 76 := by omega
  match j, hj with
  | 0, _ => exact mx_rng (p := fun k => mx_ckc mx_pg k 0) mx_ck_g41 h1 h2
  | 1, _ => exact mx_rng (p := fun k => mx_ckc mx_pg k 1) mx_ck_g42 h1 h2
  | z + 2, hj => exact absurd (Nat.le_add_left 2 z) hj
theorem mx_sh_28 : (List.range' 77 1).all (mx_short 1) = true := by decide +kernel
theorem mx_gr_28 {k j : Nat} (h1 : 77 ≤ k) (h2 : k < 78) (hk : k < mx_pg.length) : mx_ckc mx_pg k j = true := by
  by_cases hj : 1 ≤ j
  · exact mx_short_ok (mx_rng mx_sh_28 h1 h2) hj hk
  obtain rfl : j = 0 := by omega
  exact mx_rng (p := fun k => mx_ckc mx_pg k 0) mx_ck_g43 h1 h2
theorem mx_sh_29 : (List.range' 78 1).all (mx_short 3) = true := by decide +kernel
theorem mx_gr_29 {k j : Nat} (h1 : 78 ≤ k) (h2 : k < 79) (hk : k < mx_pg.length) : mx_ckc mx_pg k j = true := by
  by_cases hj : 3 ≤ j
  · exact mx_short_ok (mx_rng mx_sh_29 h1 h2) hj hk
  obtain rfl : k = 78 := by omega
  match j, hj with
  | 0, _ => exact mx_rng (p := fun k => mx_ckc mx_pg k 0) mx_ck_g44 h1 h2
  | 1, _ => exact mx_rng (p := fun k => mx_ckc mx_pg k 1) mx_ck_g45 h1 h2
  | 2, _ => exact mx_rng (p := fun k => mx_ckc mx_pg k 2) mx_ck_g46 h1 h2
  | z + 3, hj => exact absurd (Nat.le_add_left 3 z) hj
theorem mx_sh_30 : (List.range' 79 1).all (mx_short 3) = true := by decide +kernel
theorem mx_gr_30 {k j : Nat} (h1 : 79 ≤ k) (h2 : k < 80) (hk : k < mx_pg.length) : mx_ckc mx_pg k j = true := by
  by_cases hj : 3 ≤ j
  · exact mx_short_ok (mx_rng mx_sh_30 h1 h2) hj hk
  obtain rfl : k = 79 := by omega
  match j, hj with
  | 0, _ => exact mx_rng (p := fun k => mx_ckc mx_pg k 0) mx_ck_g47 h1 h2
  | 1, _ => exact mx_rng (p := fun k => mx_ckc mx_pg k 1) mx_ck_g48 h1 h2
  | 2, _ => exact mx_rng (p := fun k => mx_ckc mx_pg k 2) mx_ck_g49 h1 h2
  | z + 3, hj => exact absurd (Nat.le_add_left 3 z) hj
theorem mx_sh_31 : (List.range' 80 1).all (mx_short 3) = true := by decide +kernel
theorem mx_gr_31 {k j : Nat} (h1 : 80 ≤ k) (h2 : k < 81) (hk : k < mx_pg.length) : mx_ckc mx_pg k j = true := by
  by_cases hj : 3 ≤ j
  · exact mx_short_ok (mx_rng mx_sh_31 h1 h2) hj hk
  obtain rfl : k = 80 := by omega
  match j, hj with
  | 0, _ => exact mx_rng (p := fun k => mx_ckc mx_pg k 0) mx_ck_g50 h1 h2
  | 1, _ => exact mx_rng (p := fun k => mx_ckc mx_pg k 1) mx_ck_g51 h1 h2
  | 2, _ => exact mx_rng (p := fun k => mx_ckc mx_pg k 2) mx_ck_g52 h1 h2
  | z + 3, hj => exact absurd (Nat.le_add_left 3 z) hj
theorem mx_sh_32 : (List.range' 81 1).all (mx_short 2) = true := by decide +kernel
theorem mx_gr_32 {k j : Nat} (h1 : 81 ≤ k) (h2 : k < 82) (hk : k < mx_pg.length) : mx_ckc mx_pg k j = true := by
  by_cases hj : 2 ≤ j
  · exact mx_short_ok (mx_rng mx_sh_32 h1 h2) hj hk
  obtain rfl : k = 81 := by omega
  match j, hj with
  | 0, _ => exact mx_rng (p := fun k => mx_ckc mx_pg k 0) mx_ck_g53 h1 h2
  | 1, _ => exact mx_rng (p := fun k => mx_ckc mx_pg k 1) mx_ck_g54 h1 h2
  | z + 2, hj => exact absurd (Nat.le_add_left 2 z) hj
theorem mx_sh_33 : (List.range' 82 4).all (mx_short 1) = true := by decide +kernel
theorem mx_gr_33 {k j : Nat} (h1 : 82 ≤ k) (h2 : k < 86) (hk : k < mx_pg.length) : mx_ckc mx_pg k j = true := by
  by_cases hj : 1 ≤ j
  · exact mx_short_ok (mx_rng mx_sh_33 h1 h2) hj hk
  obtain rfl : j = 0 := by omega
  exact mx_rng (p := fun k => mx_ckc mx_pg k 0) mx_ck_g55 h1 h2
theorem mx_sh_34 : (List.range' 86 4).all (mx_short 1) = true := by decide +kernel
theorem mx_gr_34 {k j : Nat} (h1 : 86 ≤ k) (h2 : k < 90) (hk : k < mx_pg.length) : mx_ckc mx_pg k j = true := by
  by_cases hj : 1 ≤ j
  · exact mx_short_ok (mx_rng mx_sh_34 h1 h2) hj hk
  obtain rfl : j = 0 := by omega
  exact mx_rng (p := fun k => mx_ckc mx_pg k 0) mx_ck_g56 h1 h2
theorem mx_sh_35 : (List.range' 90 1).all (mx_short 2) = true := by decide +kernel
theorem mx_gr_35 {k j : Nat} (h1 : 90 ≤ k) (h2 : k < 91) (hk : k < mx_pg.length) : mx_ckc mx_pg k j = true := by
  by_cases hj : 2 ≤ j
  · exact mx_short_ok (mx_rng mx_sh_35 h1 h2) hj hk
  obtain rfl : k = 90 := by omega
  match j, hj with
  | 0, _ => exact mx_rng (p := fun k => mx_ckc mx_pg k 0) mx_ck_g57 h1 h2
  | 1, _ => exact mx_rng (p := fun k => mx_ckc mx_pg k 1) mx_ck_g58 h1 h2
  | z + 2, hj => exact absurd (Nat.le_add_left 2 z) hj
theorem mx_sh_36 : (List.range' 91 6).all (mx_short 1) = true := by decide +kernel
theorem mx_gr_36 {k j : Nat} (h1 : 91 ≤ k) (h2 : k < 97) (hk : k < mx_pg.length) : mx_ckc mx_pg k j = true := by
  by_cases hj : 1 ≤ j
  · exact mx_short_ok (mx_rng mx_sh_36 h1 h2) hj hk
  obtain rfl : j = 0 := by omega
  exact mx_rng (p := fun k => mx_ckc mx_pg k 0) mx_ck_g59 h1 h2
theorem mx_sh_37 : (List.range' 97 1).all (mx_short 2) = true := by decide +kernel
theorem mx_gr_37 {k j : Nat} (h1 : 97 ≤ k) (h2 : k < 98) (hk : k < mx_pg.length) : mx_ckc mx_pg k j = true := by
  by_cases hj : 2 ≤ j
  · exact mx_short_ok (mx_rng mx_sh_37 h1 h2) hj hk
  obtain rfl : k = 97 := by omega
  match j, hj with
  | 0, _ => exact mx_rng (p := fun k => mx_ckc mx_pg k 0) mx_ck_g60 h1 h2
  | 1, _ => exact mx_rng (p := fun k => mx_ckc mx_pg k 1) mx_ck_g61 h1 h2
  | z + 2, hj => exact absurd (Nat.le_add_left 2 z) hj
theorem mx_sh_38 : (List.range' 98 1).all (mx_short 2) = true := by decide +kernel
theorem mx_gr_38 {k j : Nat} (h1 : 98 ≤ k) (h2 : k < 99) (hk : k < mx_pg.length) : mx_ckc mx_pg k j = true := by
  by_cases hj : 2 ≤ j
  · exact mx_short_ok (mx_rng mx_sh_38 h1 h2) hj hk
  obtain rfl : k = 98 := by omega
  match j, hj with
  | 0, _ => exact mx_rng (p := fun k => mx_ckc mx_pg k 0) mx_ck_g62 h1 h2
  | 1, _ => exact mx_rng (p := fun k => mx_ckc mx_pg k 1) mx_ck_g63 h1 h2
  | z + 2, hj => exact absurd (Nat.le_add_left 2 z) hj
theorem mx_sh_39 : (List.range' 99 1).all (mx_short 1) = true := by decide +kernel
theorem mx_gr_39 {k j : Nat} (h1 : 99 ≤ k) (h2 : k < 100) (hk : k < mx_pg.length) : mx_ckc mx_pg k j = true := by
  by_cases hj : 1 ≤ j
  · exact mx_short_ok (mx_rng mx_sh_39 h1 h2) hj hk
  obtain rfl : j = 0 := by omega
  exact mx_rng (p := fun k => mx_ckc mx_pg k 0) mx_ck_g64 h1 h2
theorem mx_sh_40 : (List.range' 100 1).all (mx_short 2) = true := by decide +kernel
theorem mx_gr_40 {k j : Nat} (h1 : 100 ≤ k) (h2 : k < 101) (hk : k < mx_pg.length) : mx_ckc mx_pg k j = true := by
  by_cases hj : 2 ≤ j
  · exact mx_short_ok (mx_rng mx_sh_40 h1 h2) hj hk
  obtain rfl : k = 100 := by omega
  match j, hj with
  | 0, _ => exact mx_rng (p := fun k => mx_ckc mx_pg k 0) mx_ck_g65 h1 h2
  | 1, _ => exact mx_rng (p := fun k => mx_ckc mx_pg k 1) mx_ck_g66 h1 h2
  | z + 2, hj => exact absurd (Nat.le_add_left 2 z) hj
theorem mx_sh_41 : (List.range' 101 4).all (mx_short 1) = true := by decide +kernel
theorem mx_gr_41 {k j : Nat} (h1 : 101 ≤ k) (h2 : k < 105) (hk : k < mx_pg.length) : mx_ckc mx_pg k j = true := by
  by_cases hj : 1 ≤ j
  · exact mx_short_ok (mx_rng mx_sh_41 h1 h2) hj hk
  obtain rfl : j = 0 := by omega
  exact mx_rng (p := fun k => mx_ckc mx_pg k 0) mx_ck_g67 h1 h2
theorem mx_sh_42 : (List.range' 105 1).all (mx_short 2) = true := by decide +kernel
theorem mx_gr_42 {k j : Nat} (h1 : 105 ≤ k) (h2 : k < 106) (hk : k < mx_pg.length) : mx_ckc mx_pg k j = true := by
  by_cases hj : 2 ≤ j
  · exact mx_short_ok (mx_rng mx_sh_42 h1 h2) hj hk
  obtain rfl : k = 105 := by omega
  match j, hj with
  | 0, _ => exact mx_rng (p := fun k => mx_ckc mx_pg k 0) mx_ck_g68 h1 h2
  | 1, _ => exact mx_rng (p := fun k => mx_ckc mx_pg k 1) mx_ck_g69 h1 h2
  | z + 2, hj => exact absurd (Nat.le_add_left 2 z) hj
theorem mx_sh_43 : (List.range' 106 1).all (mx_short 2) = true := by decide +kernel
theorem mx_gr_43 {k j : Nat} (h1 : 106 ≤ k) (h2 : k < 107) (hk : k < mx_pg.length) : mx_ckc mx_pg k j = true := by
  by_cases hj : 2 ≤ j
  · exact mx_short_ok (mx_rng mx_sh_43 h1 h2) hj hk
  obtain rfl : k = 106 := by omega
  match j, hj with
  | 0, _ => exact mx_rng (p := fun k => mx_ckc mx_pg k 0) mx_ck_g70 h1 h2
  | 1, _ => exact mx_rng (p := fun k => mx_ckc mx_pg k 1) mx_ck_g71 h1 h2
  | z + 2, hj => exact absurd (Nat.le_add_left 2 z) hj
theorem mx_sh_44 : (List.range' 107 3).all (mx_short 1) = true := by decide +kernel
theorem mx_gr_44 {k j : Nat} (h1 : 107 ≤ k) (h2 : k < 110) (hk : k < mx_pg.length) : mx_ckc mx_pg k j = true := by
  by_cases hj : 1 ≤ j
  · exact mx_short_ok (mx_rng mx_sh_44 h1 h2) hj hk
  obtain rfl : j = 0 := by omega
  exact mx_rng (p := fun k => mx_ckc mx_pg k 0) mx_ck_g72 h1 h2
theorem mx_sh_45 : (List.range' 110 7).all (mx_short 1) = true := by decide +kernel
theorem mx_gr_45 {k j : Nat} (h1 : 110 ≤ k) (h2 : k < 117) (hk : k < mx_pg.length) : mx_ckc mx_pg k j = true := by
  by_cases hj : 1 ≤ j
  · exact mx_short_ok (mx_rng mx_sh_45 h1 h2) hj hk
  obtain rfl : j = 0 := by omega
  exact mx_rng (p := fun k => mx_ckc mx_pg k 0) mx_ck_g73 h1 h2
theorem mx_sh_46 : (List.range' 117 2).all (mx_short 1) = true := by decide +kernel
theorem mx_gr_46 {k j : Nat} (h1 : 117 ≤ k) (h2 : k < 119) (hk : k < mx_pg.length) : mx_ckc mx_pg k j = true := by
  by_cases hj : 1 ≤ j
  · exact mx_short_ok (mx_rng mx_sh_46 h1 h2) hj hk
  obtain rfl : j = 0 := by omega
  exact mx_rng (p := fun k => mx_ckc mx_pg k 0) mx_ck_g74 h1 h2
theorem mx_sh_47 : (List.range' 119 1).all (mx_short 2) = true := by decide +kernel
theorem mx_gr_47 {k j : Nat} (h1 : 119 ≤ k) (h2 : k < 120) (hk : k < mx_pg.length) : mx_ckc mx_pg k j = true := by
  by_cases hj : 2 ≤ j
  · exact mx_short_ok (mx_rng mx_sh_47 h1 h2) hj hk
  obtain rfl : k = 119 := by omega
  match j, hj with
  | 0, _ => exact mx_rng (p := fun k => mx_ckc mx_pg k 0) mx_ck_g75 h1 h2
  | 1, _ => exact mx_rng (p := fun k => mx_ckc mx_pg k 1) mx_ck_g76 h1 h2
  | z + 2, hj => exact absurd (Nat.le_add_left 2 z) hj
theorem mx_sh_48 : (List.range' 120 3).all (mx_short 1) = true := by decide +kernel
theorem mx_gr_48 {k j : Nat} (h1 : 120 ≤ k) (h2 : k < 123) (hk : k < mx_pg.length) : mx_ckc mx_pg k j = true := by
  by_cases hj : 1 ≤ j
  · exact mx_short_ok (mx_rng mx_sh_48 h1 h2) hj hk
  obtain rfl : j = 0 := by omega
  exact mx_rng (p := fun k => mx_ckc mx_pg k 0) mx_ck_g77 h1 h2
theorem mx_sh_49 : (List.range' 123 1).all (mx_short 2) = true := by decide +kernel
theorem mx_gr_49 {k j : Nat} (h1 : 123 ≤ k) (h2 : k < 124) (hk : k < mx_pg.length) : mx_ckc mx_pg k j = true := by
  by_cases hj : 2 ≤ j
  · exact mx_short_ok (mx_rng mx_sh_49 h1 h2) hj hk
  obtain rfl : k = 123 := by omega
  match j, hj with
  | 0, _ => exact mx_rng (p := fun k => mx_ckc mx_pg k 0) mx_ck_g78 h1 h2
  | 1, _ => exact mx_rng (p := fun k => mx_ckc mx_pg k 1) mx_ck_g79 h1 h2
  | z + 2, hj => exact absurd (Nat.le_add_left 2 z) hj
theorem mx_sh_50 : (List.range' 124 1).all (mx_short 2) = true := by decide +kernel
theorem mx_gr_50 {k j : Nat} (h1 : 124 ≤ k) (h2 : k < 125) (hk : k < mx_pg.length) : mx_ckc mx_pg k j = true := by
  by_cases hj : 2 ≤ j
  · exact mx_short_ok (mx_rng mx_sh_50 h1 h2) hj hk
  obtain rfl : k = 124 := by omega
  match j, hj with
  | 0, _ => exact mx_rng (p := fun k => mx_ckc mx_pg k 0) mx_ck_g80 h1 h2
  | 1, _ => exact mx_rng (p := fun k => mx_ckc mx_pg k 1) mx_ck_g81 h1 h2
  | z + 2, hj => exact absurd (Nat.le_add_left 2 z) hj
theorem mx_sh_51 : (List.range' 125 1).all (mx_short 3) = true := by decide +kernel
theorem mx_gr_51 {k j : Nat} (h1 : 125 ≤ k) (h2 : k < 126) (hk : k < mx_pg.length) : mx_ckc mx_pg k j = true := by
  by_cases hj : 3 ≤ j
  · exact mx_short_ok (mx_rng mx_sh_51 h1 h2) hj hk
  obtain rfl : k = 125 := by omega
  match j, hj with
  | 0, _ => exact mx_rng (p := fun k => mx_ckc mx_pg k 0) mx_ck_g82 h1 h2
  | 1, _ => exact mx_rng (p := fun k => mx_ckc mx_pg k 1) mx_ck_g83 h1 h2
  | 2, _ => exact mx_rng (p := fun k => mx_ckc mx_pg k 2) mx_ck_g84 h1 h2
  | z + 3, hj => exact absurd (Nat.le_add_left 3 z) hj
theorem mx_sh_52 : (List.range' 126 1).all (mx_short 2) = true := by decide +kernel
theorem mx_gr_52 {k j : Nat} (h1 : 126 ≤ k) (h2 : k < 127) (hk : k < mx_pg.length) : mx_ckc mx_pg k j = true := by
  by_cases hj : 2 ≤ j
  · exact mx_short_ok (mx_rng mx_sh_52 h1 h2) hj hk
  obtain rfl : k = 126 := by omega
  match j, hj with
  | 0, _ => exact mx_rng (p := fun k => mx_ckc mx_pg k 0) mx_ck_g85 h1 h2
  | 1, _ => exact mx_rng (p := fun k => mx_ckc mx_pg k 1) mx_ck_g86 h1 h2
  | z + 2, hj => exact absurd (Nat.le_add_left 2 z) hj
theorem mx_sh_53 : (List.range' 127 1).all (mx_short 1) = true := by decide +kernel
theorem mx_gr_53 {k j : Nat} (h1 : 127 ≤ k) (h2 : k < 128) (hk : k < mx_pg.length) : mx_ckc mx_pg k j = true := by
  by_cases hj : 1 ≤ j
  · exact mx_short_ok (mx_rng mx_sh_53 h1 h2) hj hk
  obtain rfl : j = 0 := by omega
  exact mx_rng (p := fun k => mx_ckc mx_pg k 0) mx_ck_g87 h1 h2
theorem mx_sh_54 : (List.range' 128 1).all (mx_short 3) = true := by decide +kernel
theorem mx_gr_54 {k j : Nat} (h1 : 128 ≤ k) (h2 : k < 129) (hk : k < mx_pg.length) : mx_ckc mx_pg k j = true := by
  by_cases hj : 3 ≤ j
  · exact mx_short_ok (mx_rng mx_sh_54 h1 h2) hj hk
  obtain rfl : k = 128 := by omega
  match j, hj with
  | 0, _ => exact mx_rng (p := fun k => mx_ckc mx_pg k 0) mx_ck_g88 h1 h2
  | 1, _ => exact mx_rng (p := fun k => mx_ckc mx_pg k 1) mx_ck_g89 h1 h2
  | 2, _ => exact mx_rng (p := fun k => mx_ckc mx_pg k 2) mx_ck_g90 h1 h2
  | z + 3, hj => exact absurd (Nat.le_add_left 3 z) hj
theorem mx_sh_55 : (List.range' 129 2).all (mx_short 1) = true := by decide +kernel
theorem mx_gr_55 {k j : Nat} (h1 : 129 ≤ k) (h2 : k < 131) (hk : k < mx_pg.length) : mx_ckc mx_pg k j = true := by
  by_cases hj : 1 ≤ j
  · exact mx_short_ok (mx_rng mx_sh_55 h1 h2) hj hk
  obtain rfl : j = 0 := by omega
  exact mx_rng (p := fun k => mx_ckc mx_pg k 0) mx_ck_g91 h1 h2
theorem mx_sh_56 : (List.range' 131 1).all (mx_short 2) = true := by decide +kernel
theorem mx_gr_56 {k j : Nat} (h1 : 131 ≤ k) (h2 : k < 132) (hk : k < mx_pg.length) : mx_ckc mx_pg k j = true := by
  by_cases hj : 2 ≤ j
  · exact mx_short_ok (mx_rng mx_sh_56 h1 h2) hj hk
  obtain rfl : k = 131 := by omega
  match j, hj with
  | 0, _ => exact mx_rng (p := fun k => mx_ckc mx_pg k 0) mx_ck_g92 h1 h2
  | 1, _ => exact mx_rng (p := fun k => mx_ckc mx_pg k 1) mx_ck_g93 h1 h2
  | z + 2, hj => exact absurd (Nat.le_add_left 2 z) hj
theorem mx_sh_57 : (List.range' 132 1).all (mx_short 2) = true := by decide +kernel
theorem mx_gr_57 {k j : Nat} (h1 : 132 ≤ k) (h2 : k < 133) (hk : k < mx_pg.length) : mx_ckc mx_pg k j = true := by
  by_cases hj : 2 ≤ j
  · exact mx_short_ok (mx_rng mx_sh_57 h1 h2) hj hk
  obtain rfl : k = 132 := by omega
  match j, hj with
  | 0, _ => exact mx_rng (p := fun k => mx_ckc mx_pg k 0) mx_ck_g94 h1 h2
  | 1, _ => exact mx_rng (p := fun k => mx_ckc mx_pg k 1) mx_ck_g95 h1 h2
  | z + 2, hj => exact absurd (Nat.le_add_left 2 z) hj
theorem mx_sh_58 : (List.range' 133 3).all (mx_short 1) = true := by decide +kernel
theorem mx_gr_58 {k j : Nat} (h1 : 133 ≤ k) (h2 : k < 136) (hk : k < mx_pg.length) : mx_ckc mx_pg k j = true := by
  by_cases hj : 1 ≤ j
  · exact mx_short_ok (mx_rng mx_sh_58 h1 h2) hj hk
  obtain rfl : j = 0 := by omega
  exact mx_rng (p := fun k => mx_ckc mx_pg k 0) mx_ck_g96 h1 h2
theorem mx_sh_59 : (List.range' 136 1).all (mx_short 2) = true := by decide +kernel
theorem mx_gr_59 {k j : Nat} (h1 : 136 ≤ k) (h2 : k < 137) (hk : k < mx_pg.length) : mx_ckc mx_pg k j = true := by
  by_cases hj : 2 ≤ j
  · exact mx_short_ok (mx_rng mx_sh_59 h1 h2) hj hk
  obtain rfl : k = 136 := by omega
  match j, hj with
  | 0, _ => exact mx_rng (p := fun k => mx_ckc mx_pg k 0) mx_ck_g97 h1 h2
  | 1, _ => exact mx_rng (p := fun k => mx_ckc mx_pg k 1) mx_ck_g98 h1 h2
  | z + 2, hj => exact absurd (Nat.le_add_left 2 z) hj
theorem mx_sh_60 : (List.range' 137 1).all (mx_short 1) = true := by decide +kernel
theorem mx_gr_60 {k j : Nat} (h1 : 137 ≤ k) (h2 : k < 138) (hk : k < mx_pg.length) : mx_ckc mx_pg k j = true := by
  by_cases hj : 1 ≤ j
  · exact mx_short_ok (mx_rng mx_sh_60 h1 h2) hj hk
  obtain rfl : j = 0 := by omega
  exact mx_rng (p := fun k => mx_ckc mx_pg k 0) mx_ck_g99 h1 h2
theorem mx_sh_61 : (List.range' 138 1).all (mx_short 2) = true := by decide +kernel
theorem mx_gr_61 {k j : Nat} (h1 : 138 ≤ k) (h2 : k < 139) (hk : k < mx_pg.length) : mx_ckc mx_pg k j = true := by
  by_cases hj : 2 ≤ j
  · exact mx_short_ok (mx_rng mx_sh_61 h1 h2) hj hk
  obtain rfl : k = 138 := by omega
  match j, hj with
  | 0, _ => exact mx_rng (p := fun k => mx_ckc mx_pg k 0) mx_ck_g100 h1 h2
  | 1, _ => exact mx_rng (p := fun k => mx_ckc mx_pg k 1) mx_ck_g101 h1 h2
  | z + 2, hj => exact absurd (Nat.le_add_left 2 z) hj
theorem mx_sh_62 : (List.range' 139 7).all (mx_short 1) = true := by decide +kernel
theorem mx_gr_62 {k j : Nat} (h1 : 139 ≤ k) (h2 : k < 146) (hk : k < mx_pg.length) : mx_ckc mx_pg k j = true := by
  by_cases hj : 1 ≤ j
  · exact mx_short_ok (mx_rng mx_sh_62 h1 h2) hj hk
  obtain rfl : j = 0 := by omega
  exact mx_rng (p := fun k => mx_ckc mx_pg k 0) mx_ck_g102 h1 h2
theorem mx_sh_63 : (List.range' 146 3).all (mx_short 1) = true := by decide +kernel
theorem mx_gr_63 {k j : Nat} (h1 : 146 ≤ k) (h2 : k < 149) (hk : k < mx_pg.length) : mx_ckc mx_pg k j = true := by
  by_cases hj : 1 ≤ j
  · exact mx_short_ok (mx_rng mx_sh_63 h1 h2) hj hk
  obtain rfl : j = 0 := by omega
  exact mx_rng (p := fun k => mx_ckc mx_pg k 0) mx_ck_g103 h1 h2
theorem mx_sh_64 : (List.range' 149 1).all (mx_short 5) = true := by decide +kernel
theorem mx_gr_64 {k j : Nat} (h1 : 149 ≤ k) (h2 : k < 150) (hk : k < mx_pg.length) : mx_ckc mx_pg k j = true := by
  by_cases hj : 5 ≤ j
  · exact mx_short_ok (mx_rng mx_sh_64 h1 h2) hj hk
  obtain rfl : k = 149 := by omega
  match j, hj with
  | 0, _ => exact mx_rng (p := fun k => mx_ckc mx_pg k 0) mx_ck_g104 h1 h2
  | 1, _ => exact mx_rng (p := fun k => mx_ckc mx_pg k 1) mx_ck_g105 h1 h2
  | 2, _ => exact mx_rng (p := fun k => mx_ckc mx_pg k 2) mx_ck_g106 h1 h2
  | 3, _ => exact mx_rng (p := fun k => mx_ckc mx_pg k 3) mx_ck_g107 h1 h2
  | 4, _ => exact mx_rng (p := fun k => mx_ckc mx_pg k 4) mx_ck_g108 h1 h2
  | z + 5, hj => exact absurd (Nat.le_add_left 5 z) hj
theorem mx_sh_65 : (List.range' 150 1).all (mx_short 2) = true := by decide +kernel
theorem mx_gr_65 {k j : Nat} (h1 : 150 ≤ k) (h2 : k < 151) (hk : k < mx_pg.length) : mx_ckc mx_pg k j = true := by
  by_cases hj : 2 ≤ j
  · exact mx_short_ok (mx_rng mx_sh_65 h1 h2) hj hk
  obtain rfl : k = 150 := by omega
  match j, hj with
  | 0, _ => exact mx_rng (p := fun k => mx_ckc mx_pg k 0) mx_ck_g109 h1 h2
  | 1, _ => exact mx_rng (p := fun k => mx_ckc mx_pg k 1) mx_ck_g110 h1 h2
  | z + 2, hj => exact absurd (Nat.le_add_left 2 z) hj
theorem mx_sh_66 : (List.range' 151 4).all (mx_short 1) = true := by decide +kernel
theorem mx_gr_66 {k j : Nat} (h1 : 151 ≤ k) (h2 : k < 155) (hk : k < mx_pg.length) : mx_ckc mx_pg k j = true := by
  by_cases hj : 1 ≤ j
  · exact mx_short_ok (mx_rng mx_sh_66 h1 h2) hj hk
  obtain rfl : j = 0 := by omega
  exact mx_rng (p := fun k => mx_ckc mx_pg k 0) mx_ck_g111 h1 h2
theorem mx_sh_67 : (List.range' 155 1).all (mx_short 3) = true := by decide +kernel
theorem mx_gr_67 {k j : Nat} (h1 : 155 ≤ k) (h2 : k < 156) (hk : k < mx_pg.length) : mx_ckc mx_pg k j = true := by
  by_cases hj : 3 ≤ j
  · exact mx_short_ok (mx_rng mx_sh_67 h1 h2) hj hk
  obtain rfl : k = 155 := by omega
  match j, hj with
  | 0, _ => exact mx_rng (p := fun k => mx_ckc mx_pg k 0) mx_ck_g112 h1 h2
  | 1, _ => exact mx_rng (p := fun k => mx_ckc mx_pg k 1) mx_ck_g113 h1 h2
  | 2, _ => exact mx_rng (p := fun k => mx_ckc mx_pg k 2) mx_ck_g114 h1 h2
  | z + 3, hj => exact absurd (Nat.le_add_left 3 z) hj
theorem mx_sh_68 : (List.range' 156 1).all (mx_short 2) = true := by decide +kernel
theorem mx_gr_68 {k j : Nat} (h1 : 156 ≤ k) (h2 : k < 157) (hk : k < mx_pg.length) : mx_ckc mx_pg k j = true := by
  by_cases hj : 2 ≤ j
  · exact mx_short_ok (mx_rng mx_sh_68 h1 h2) hj hk
  obtain rfl : k = 156 := by omega
  match j, hj with
  | 0, _ => exact mx_rng (p := fun k => mx_ckc mx_pg k 0) mx_ck_g115 h1 h2
  | 1, _ => exact mx_rng (p := fun k => mx_ckc mx_pg k 1) mx_ck_g116 h1 h2
  | z + 2, hj => exact absurd (Nat.le_add_left 2 z) hj
theorem mx_sh_69 : (List.range' 157 3).all (mx_short 1) = true := by decide +kernel
theorem mx_gr_69 {k j : Nat} (h1 : 157 ≤ k) (h2 : k < 160) (hk : k < mx_pg.length) : mx_ckc mx_pg k j = true := by
  by_cases hj : 1 ≤ j
  · exact mx_short_ok (mx_rng mx_sh_69 h1 h2) hj hk
  obtain rfl : j = 0 := by omega
  exact mx_rng (p := fun k => mx_ckc mx_pg k 0) mx_ck_g117 h1 h2
theorem mx_sh_70 : (List.range' 160 1).all (mx_short 3) = true := by decide +kernel
theorem mx_gr_70 {k j : Nat} (h1 : 160 ≤ k) (h2 : k < 161) (hk : k < mx_pg.length) : mx_ckc mx_pg k j = true := by
  by_cases hj : 3 ≤ j
  · exact mx_short_ok (mx_rng mx_sh_70 h1 h2) hj hk
  obtain rfl : k = 160 := by omega
  match j, hj with
  | 0, _ => exact mx_rng (p := fun k => mx_ckc mx_pg k 0) mx_ck_g118 h1 h2
  | 1, _ => exact mx_rng (p := fun k => mx_ckc mx_pg k 1) mx_ck_g119 h1 h2
  | 2, _ => exact mx_rng (p := fun k => mx_ckc mx_pg k 2) mx_ck_g120 h1 h2
  | z + 3, hj => exact absurd (Nat.le_add_left 3 z) hj
theorem mx_sh_71 : (List.range' 161 2).all (mx_short 1) = true := by decide +kernel
theorem mx_gr_71 {k j : Nat} (h1 : 161 ≤ k) (h2 : k < 163) (hk : k < mx_pg.length) : mx_ckc mx_pg k j = true := by
  by_cases hj : 1 ≤ j
  · exact mx_short_ok (mx_rng mx_sh_71 h1 h2) hj hk
  obtain rfl : j = 0 := by omega
  exact mx_rng (p := fun k => mx_ckc mx_pg k 0) mx_ck_g121 h1 h2
theorem mx_sh_72 : (List.range' 163 1).all (mx_short 4) = true := by decide +kernel
theorem mx_gr_72 {k j : Nat} (h1 : 163 ≤ k) (h2 : k < 164) (hk : k < mx_pg.length) : mx_ckc mx_pg k j = true := by
  by_cases hj : 4 ≤ j
  · exact mx_short_ok (mx_rng mx_sh_72 h1 h2) hj hk
  obtain rfl : k = 163 := by omega
  match j, hj with
  | 0, _ => exact mx_rng (p := fun k => mx_ckc mx_pg k 0) mx_ck_g122 h1 h2
  | 1, _ => exact mx_rng (p := fun k => mx_ckc mx_pg k 1) mx_ck_g123 h1 h2
  | 2, _ => exact mx_rng (p := fun k => mx_ckc mx_pg k 2) mx_ck_g124 h1 h2
  | 3, _ => exact mx_rng (p := fun k => mx_ckc mx_pg k 3) mx_ck_g125 h1 h2
  | z + 4, hj => exact absurd (Nat.le_add_left 4 z) hj
theorem mx_sh_73 : (List.range' 164 1).all (mx_short 3) = true := by decide +kernel
theorem mx_gr_73 {k j : Nat} (h1 : 164 ≤ k) (h2 : k < 165) (hk : k < mx_pg.length) : mx_ckc mx_pg k j = true := by
  by_cases hj : 3 ≤ j
  · exact mx_short_ok (mx_rng mx_sh_73 h1 h2) hj hk
  obtain rfl : k = 164 := by omega
  match j, hj with
  | 0, _ => exact mx_rng (p := fun k => mx_ckc mx_pg k 0) mx_ck_g126 h1 h2
  | 1, _ => exact mx_rng (p := fun k => mx_ckc mx_pg k 1) mx_ck_g127 h1 h2
  | 2, _ => exact mx_rng (p := fun k => mx_ckc mx_pg k 2) mx_ck_g128 h1 h2
  | z + 3, hj => exact absurd (Nat.le_add_left 3 z) hj
theorem mx_sh_74 : (List.range' 165 5).all (mx_short 1) = true := by decide +kernel
theorem mx_gr_74 {k j : Nat} (h1 : 165 ≤ k) (h2 : k < 170) (hk : k < mx_pg.length) : mx_ckc mx_pg k j = true := by
  by_cases hj : 1 ≤ j
  · exact mx_short_ok (mx_rng mx_sh_74 h1 h2) hj hk
  obtain rfl : j = 0 := by omega
  exact mx_rng (p := fun k => mx_ckc mx_pg k 0) mx_ck_g129 h1 h2
theorem mx_sh_75 : (List.range' 170 1).all (mx_short 2) = true := by decide +kernel
theorem mx_gr_75 {k j : Nat} (h1 : 170 ≤ k) (h2 : k < 171) (hk : k < mx_pg.length) : mx_ckc mx_pg k j = true := by
  by_cases hj : 2 ≤ j
  · exact mx_short_ok (mx_rng mx_sh_75 h1 h2) hj hk
  obtain rfl : k = 170 := by omega
  match j, hj with
  | 0, _ => exact mx_rng (p := fun k => mx_ckc mx_pg k 0) mx_ck_g130 h1 h2
  | 1, _ => exact mx_rng (p := fun k => mx_ckc mx_pg k 1) mx_ck_g131 h1 h2
  | z + 2, hj => exact absurd (Nat.le_add_left 2 z) hj
theorem mx_sh_76 : (List.range' 171 1).all (mx_short 4) = true := by decide +kernel
theorem mx_gr_76 {k j : Nat} (h1 : 171 ≤ k) (h2 : k < 172) (hk : k < mx_pg.length) : mx_ckc mx_pg k j = true := by
  by_cases hj : 4 ≤ j
  · exact mx_short_ok (mx_rng mx_sh_76 h1 h2) hj hk
  obtain rfl : k = 171 := by omega
  match j, hj with
  | 0, _ => exact mx_rng (p := fun k => mx_ckc mx_pg k 0) mx_ck_g132 h1 h2
  | 1, _ => exact mx_rng (p := fun k => mx_ckc mx_pg k 1) mx_ck_g133 h1 h2
  | 2, _ => exact mx_rng (p := fun k => mx_ckc mx_pg k 2) mx_ck_g134 h1 h2
  | 3, _ => exact mx_rng (p := fun k => mx_ckc mx_pg k 3) mx_ck_g135 h1 h2
  | z + 4, hj => exact absurd (Nat.le_add_left 4 z) hj
theorem mx_sh_77 : (List.range' 172 1).all (mx_short 2) = true := by decide +kernel
theorem mx_gr_77 {k j : Nat} (h1 : 172 ≤ k) (h2 : k < 173) (hk : k < mx_pg.length) : mx_ckc mx_pg k j = true := by
  by_cases hj : 2 ≤ j
  · exact mx_short_ok (mx_rng mx_sh_77 h1 h2) hj hk
  obtain rfl : k = 172 := by omega
  match j, hj with
  | 0, _ => exact mx_rng (p := fun k => mx_ckc mx_pg k 0) mx_ck_g136 h1 h2
  | 1, _ => exact mx_rng (p := fun k => mx_ckc mx_pg k 1) mx_ck_g137 h1 h2
  | z + 2, hj => exact absurd (Nat.le_add_left 2 z) hj
theorem mx_sh_78 : (List.range' 173 1).all (mx_short 3) = true := by decide +kernel
theorem mx_gr_78 {k j : Nat} (h1 : 173 ≤ k) (h2 : k < 174) (hk : k < mx_pg.length) : mx_ckc mx_pg k j = true := by
  by_cases hj : 3 ≤ j
  · exact mx_short_ok (mx_rng mx_sh_78 h1 h2) hj hk
  obtain rfl : k = 173 := by omega
  match j, hj with
  | 0, _ => exact mx_rng (p := fun k => mx_ckc mx_pg k 0) mx_ck_g138 h1 h2
  | 1, _ => exact mx_rng (p := fun k => mx_ckc mx_pg k 1) mx_ck_g139 h1 h2
  | 2, _ => exact mx_rng (p := fun k => mx_ckc mx_pg k 2) mx_ck_g140 h1 h2
  | z + 3, hj => exact absurd (Nat.le_add_left 3 z) hj
theorem mx_sh_79 : (List.range' 174 1).all (mx_short 2) = true := by decide +kernel
theorem mx_gr_79 {k j : Nat} (h1 : 174 ≤ k) (h2 : k < 175) (hk : k < mx_pg.length) : mx_ckc mx_pg k j = true := by
  by_cases hj : 2 ≤ j
  · exact mx_short_ok (mx_rng mx_sh_79 h1 h2) hj hk
  obtain rfl : k = 174 := by omega
  match j, hj with
  | 0, _ => exact mx_rng (p := fun k => mx_ckc mx_pg k 0) mx_ck_g141 h1 h2
  | 1, _ => exact mx_rng (p := fun k => mx_ckc mx_pg k 1) mx_ck_g142 h1 h2
  | z + 2, hj => exact absurd (Nat.le_add_left 2 z) hj
theorem mx_sh_80 : (List.range' 175 1).all (mx_short 3) = true := by decide +kernel
theorem mx_gr_80 {k j : Nat} (h1 : 175 ≤ k) (h2 : k < 176) (hk : k < mx_pg.length) : mx_ckc mx_pg k j = true := by
  by_cases hj : 3 ≤ j
  · exact mx_short_ok (mx_rng mx_sh_80 h1 h2) hj hk
  obtain rfl : k = 175 := by omega
  match j, hj with
  | 0, _ => exact mx_rng (p := fun k => mx_ckc mx_pg k 0) mx_ck_g143 h1 h2
  | 1, _ => exact mx_rng (p := fun k => mx_ckc mx_pg k 1) mx_ck_g144 h1 h2
  | 2, _ => exact mx_rng (p := fun k => mx_ckc mx_pg k 2) mx_ck_g145 h1 h2
  | z + 3, hj => exact absurd (Nat.le_add_left 3 z) hj
theorem mx_sh_81 : (List.range' 176 4).all (mx_short 1) = true := by decide +kernel
theorem mx_gr_81 {k j : Nat} (h1 : 176 ≤ k) (h2 : k < 180) (hk : k < mx_pg.length) : mx_ckc mx_pg k j = true := by
  by_cases hj : 1 ≤ j
  · exact mx_short_ok (mx_rng mx_sh_81 h1 h2) hj hk
  obtain rfl : j = 0 := by omega
  exact mx_rng (p := fun k => mx_ckc mx_pg k 0) mx_ck_g146 h1 h2
theorem mx_sh_82 : (List.range' 180 1).all (mx_short 2) = true := by decide +kernel
theorem mx_gr_82 {k j : Nat} (h1 : 180 ≤ k) (h2 : k < 181) (hk : k < mx_pg.length) : mx_ckc mx_pg k j = true := by
  by_cases hj : 2 ≤ j
  · exact mx_short_ok (mx_rng mx_sh_82 h1 h2) hj hk
  obtain rfl : k = 180 := by omega
  match j, hj with
  | 0, _ => exact mx_rng (p := fun k => mx_ckc mx_pg k 0) mx_ck_g147 h1 h2
  | 1, _ => exact mx_rng (p := fun k => mx_ckc mx_pg k 1) mx_ck_g148 h1 h2
  | z + 2, hj => exact absurd (Nat.le_add_left 2 z) hj
theorem mx_sh_83 : (List.range' 181 1).all (mx_short 1) = true := by decide +kernel
theorem mx_gr_83 {k j : Nat} (h1 : 181 ≤ k) (h2 : k < 182) (hk : k < mx_pg.length) : mx_ckc mx_pg k j = true := by
  by_cases hj : 1 ≤ j
  · exact mx_short_ok (mx_rng mx_sh_83 h1 h2) hj hk
  obtain rfl : j = 0 := by omega
  exact mx_rng (p := fun k => mx_ckc mx_pg k 0) mx_ck_g149 h1 h2
theorem mx_sh_84 : (List.range' 182 1).all (mx_short 3) = true := by decide +kernel
theorem mx_gr_84 {k j : Nat} (h1 : 182 ≤ k) (h2 : k < 183) (hk : k < mx_pg.length) : mx_ckc mx_pg k j = true := by
  by_cases hj : 3 ≤ j
  · exact mx_short_ok (mx_rng mx_sh_84 h1 h2) hj hk
  obtain rfl : k = 182 := by omega
  match j, hj with
  | 0, _ => exact mx_rng (p := fun k => mx_ckc mx_pg k 0) mx_ck_g150 h1 h2
  | 1, _ => exact mx_rng (p := fun k => mx_ckc mx_pg k 1) mx_ck_g151 h1 h2
  | 2, _ => exact mx_rng (p := fun k => mx_ckc mx_pg k 2) mx_ck_g152 h1 h2
  | z + 3, hj => exact absurd (Nat.le_add_left 3 z) hj
theorem mx_sh_85 : (List.range' 183 1).all (mx_short 2) = true := by decide +kernel
theorem mx_gr_85 {k j : Nat} (h1 : 183 ≤ k) (h2 : k < 184) (hk : k < mx_pg.length) : mx_ckc mx_pg k j = true := by
  by_cases hj : 2 ≤ j
  · exact mx_short_ok (mx_rng mx_sh_85 h1 h2) hj hk
  obtain rfl : k = 183 := by omega
  match j, hj with
  | 0, _ => exact mx_rng (p := fun k => mx_ckc mx_pg k 0) mx_ck_g153 h1 h2
  | 1, _ => exact mx_rng (p := fun k => mx_ckc mx_pg k 1) mx_ck_g154 h1 h2
  | z + 2, hj => exact absurd (Nat.le_add_left 2 z) hj
theorem mx_sh_86 : (List.range' 184 4).all (mx_short 1) = true := by decide +kernel
theorem mx_gr_86 {k j : Nat} (h1 : 184 ≤ k) (h2 : k < 188) (hk : k < mx_pg.length) : mx_ckc mx_pg k j = true := by
  by_cases hj : 1 ≤ j
  · exact mx_short_ok (mx_rng mx_sh_86 h1 h2) hj hk
  obtain rfl : j = 0 := by omega
  exact mx_rng (p := fun k => mx_ckc mx_pg k 0) mx_ck_g155 h1 h2
theorem mx_sh_87 : (List.range' 188 3).all (mx_short 1) = true := by decide +kernel
theorem mx_gr_87 {k j : Nat} (h1 : 188 ≤ k) (h2 : k < 191) (hk : k < mx_pg.length) : mx_ckc mx_pg k j = true := by
  by_cases hj : 1 ≤ j
  · exact mx_short_ok (mx_rng mx_sh_87 h1 h2) hj hk
  obtain rfl : j = 0 := by omega
  exact mx_rng (p := fun k => mx_ckc mx_pg k 0) mx_ck_g156 h1 h2
theorem mx_sh_88 : (List.range' 191 2).all (mx_short 1) = true := by decide +kernel
theorem mx_gr_88 {k j : Nat} (h1 : 191 ≤ k) (h2 : k < 193) (hk : k < mx_pg.length) : mx_ckc mx_pg k j = true := by
  by_cases hj : 1 ≤ j
  · exact mx_short_ok (mx_rng mx_sh_88 h1 h2) hj hk
  obtain rfl : j = 0 := by omega
  exact mx_rng (p := fun k => mx_ckc mx_pg k 0) mx_ck_g157 h1 h2
theorem mx_sh_89 : (List.range' 193 1).all (mx_short 2) = true := by decide +kernel
theorem mx_gr_89 {k j : Nat} (h1 : 193 ≤ k) (h2 : k < 194) (hk : k < mx_pg.length) : mx_ckc mx_pg k j = true := by
  by_cases hj : 2 ≤ j
  · exact mx_short_ok (mx_rng mx_sh_89 h1 h2) hj hk
  obtain rfl : k = 193 := by omega
  match j, hj with
  | 0, _ => exact mx_rng (p := fun k => mx_ckc mx_pg k 0) mx_ck_g158 h1 h2
  | 1, _ => exact mx_rng (p := fun k => mx_ckc mx_pg k 1) mx_ck_g159 h1 h2
  | z + 2, hj => exact absurd (Nat.le_add_left 2 z) hj
theorem mx_sh_90 : (List.range' 194 1).all (mx_short 7) = true := by decide +kernel
theorem mx_gr_90 {k j : Nat} (h1 : 194 ≤ k) (h2 : k < 195) (hk : k < mx_pg.length) : mx_ckc mx_pg k j = true := by
  by_cases hj : 7 ≤ j
  · exact mx_short_ok (mx_rng mx_sh_90 h1 h2) hj hk
  obtain rfl : k = 194 := by omega
  match j, hj with
  | 0, _ => exact mx_rng (p := fun k => mx_ckc mx_pg k 0) mx_ck_g160 h1 h2
  | 1, _ => exact mx_rng (p := fun k => mx_ckc mx_pg k 1) mx_ck_g161 h1 h2
  | 2, _ => exact mx_rng (p := fun k => mx_ckc mx_pg k 2) mx_ck_g162 h1 h2
  | 3, _ => exact mx_rng (p := fun k => mx_ckc mx_pg k 3) mx_ck_g163 h1 h2
  | 4, _ => exact mx_rng (p := fun k => mx_ckc mx_pg k 4) mx_ck_g164 h1 h2
  | 5, _ => exact mx_rng (p := fun k => mx_ckc mx_pg k 5) mx_ck_g165 h1 h2
  | 6, _ => exact mx_rng (p := fun k => mx_ckc mx_pg k 6) mx_ck_g166 h1 h2
  | z + 7, hj => exact absurd (Nat.le_add_left 7 z) hj
theorem mx_sh_91 : (List.range' 195 1).all (mx_short 1) = true := by decide +kernel
theorem mx_gr_91 {k j : Nat} (h1 : 195 ≤ k) (h2 : k < 196) (hk : k < mx_pg.length) : mx_ckc mx_pg k j = true := by
  by_cases hj : 1 ≤ j
  · exact mx_short_ok (mx_rng mx_sh_91 h1 h2) hj hk
  obtain rfl : j = 0 := by omega
  exact mx_rng (p := fun k => mx_ckc mx_pg k 0) mx_ck_g167 h1 h2
theorem mx_sh_92 : (List.range' 196 1).all (mx_short 2) = true := by decide +kernel
theorem mx_gr_92 {k j : Nat} (h1 : 196 ≤ k) (h2 : k < 197) (hk : k < mx_pg.length) : mx_ckc mx_pg k j = true := by
  by_cases hj : 2 ≤ j
  · exact mx_short_ok (mx_rng mx_sh_92 h1 h2) hj hk
  obtain rfl : k = 196 := by omega
  match j, hj with
  | 0, _ => exact mx_rng (p := fun k => mx_ckc mx_pg k 0) mx_ck_g168 h1 h2
  | 1, _ => exact mx_rng (p := fun k => mx_ckc mx_pg k 1) mx_ck_g169 h1 h2
  | z + 2, hj => exact absurd (Nat.le_add_left 2 z) hj
theorem mx_sh_93 : (List.range' 197 1).all (mx_short 3) = true := by decide +kernel
theorem mx_gr_93 {k j : Nat} (h1 : 197 ≤ k) (h2 : k < 198) (hk : k < mx_pg.length) : mx_ckc mx_pg k j = true := by
  by_cases hj : 3 ≤ j
  · exact mx_short_ok (mx_rng mx_sh_93 h1 h2) hj hk
  obtain rfl : k = 197 := by omega
  match j, hj with
  | 0, _ => exact mx_rng (p := fun k => mx_ckc mx_pg k 0) mx_ck_g170 h1 h2
  | 1, _ => exact mx_rng (p := fun k => mx_ckc mx_pg k 1) mx_ck_g171 h1 h2
  | 2, _ => exact mx_rng (p := fun k => mx_ckc mx_pg k 2) mx_ck_g172 h1 h2
  | z + 3, hj => exact absurd (Nat.le_add_left 3 z) hj
theorem mx_sh_94 : (List.range' 198 1).all (mx_short 2) = true := by decide +kernel
theorem mx_gr_94 {k j : Nat} (h1 : 198 ≤ k) (h2 : k < 199) (hk : k < mx_pg.length) : mx_ckc mx_pg k j = true := by
  by_cases hj : 2 ≤ j
  · exact mx_short_ok (mx_rng mx_sh_94 h1 h2) hj hk
  obtain rfl : k = 198 := by omega
  match j, hj with
  | 0, _ => exact mx_rng (p := fun k => mx_ckc mx_pg k 0) mx_ck_g173 h1 h2
  | 1, _ => exact mx_rng (p := fun k => mx_ckc mx_pg k 1) mx_ck_g174 h1 h2
  | z + 2, hj => exact absurd (Nat.le_add_left 2 z) hj
theorem mx_sh_95 : (List.range' 199 1).all (mx_short 1) = true := by decide +kernel
theorem mx_gr_95 {k j : Nat} (h1 : 199 ≤ k) (h2 : k < 200) (hk : k < mx_pg.length) : mx_ckc mx_pg k j = true := by
  by_cases hj : 1 ≤ j
  · exact mx_short_ok (mx_rng mx_sh_95 h1 h2) hj hk
  obtain rfl : j = 0 := by omega
  exact mx_rng (p := fun k => mx_ckc mx_pg k 0) mx_ck_g175 h1 h2
theorem mx_sh_96 : (List.range' 200 1).all (mx_short 5) = true := by decide +kernel
theorem mx_gr_96 {k j : Nat} (h1 : 200 ≤ k) (h2 : k < 201) (hk : k < mx_pg.length) : mx_ckc mx_pg k j = true := by
  by_cases hj : 5 ≤ j
  · exact mx_short_ok (mx_rng mx_sh_96 h1 h2) hj hk
  obtain rfl : k = 200 := by omega
  match j, hj with
  | 0, _ => exact mx_rng (p := fun k => mx_ckc mx_pg k 0) mx_ck_g176 h1 h2
  | 1, _ => exact mx_rng (p := fun k => mx_ckc mx_pg k 1) mx_ck_g177 h1 h2
  | 2, _ => exact mx_rng (p := fun k => mx_ckc mx_pg k 2) mx_ck_g178 h1 h2
  | 3, _ => exact mx_rng (p := fun k => mx_ckc mx_pg k 3) mx_ck_g179 h1 h2
  | 4, _ => exact mx_rng (p := fun k => mx_ckc mx_pg k 4) mx_ck_g180 h1 h2
  | z + 5, hj => exact absurd (Nat.le_add_left 5 z) hj
theorem mx_sh_97 : (List.range' 201 1).all (mx_short 2) = true := by decide +kernel
theorem mx_gr_97 {k j : Nat} (h1 : 201 ≤ k) (h2 : k < 202) (hk : k < mx_pg.length) : mx_ckc mx_pg k j = true := by
  by_cases hj : 2 ≤ j
  · exact mx_short_ok (mx_rng mx_sh_97 h1 h2) hj hk
  obtain rfl : k = 201 := by omega
  match j, hj with
  | 0, _ => exact mx_rng (p := fun k => mx_ckc mx_pg k 0) mx_ck_g181 h1 h2
  | 1, _ => exact mx_rng (p := fun k => mx_ckc mx_pg k 1) mx_ck_g182 h1 h2
  | z + 2, hj => exact absurd (Nat.le_add_left 2 z) hj
theorem mx_sh_98 : (List.range' 202 3).all (mx_short 1) = true := by decide +kernel
theorem mx_gr_98 {k j : Nat} (h1 : 202 ≤ k) (h2 : k < 205) (hk : k < mx_pg.length) : mx_ckc mx_pg k j = true := by
  by_cases hj : 1 ≤ j
  · exact mx_short_ok (mx_rng mx_sh_98 h1 h2) hj hk
  obtain rfl : j = 0 := by omega
  exact mx_rng (p := fun k => mx_ckc mx_pg k 0) mx_ck_g183 h1 h2
theorem mx_sh_99 : (List.range' 205 2).all (mx_short 1) = true := by decide +kernel
theorem mx_gr_99 {k j : Nat} (h1 : 205 ≤ k) (h2 : k < 207) (hk : k < mx_pg.length) : mx_ckc mx_pg k j = true := by
  by_cases hj : 1 ≤ j
  · exact mx_short_ok (mx_rng mx_sh_99 h1 h2) hj hk
  obtain rfl : j = 0 := by omega
  exact mx_rng (p := fun k => mx_ckc mx_pg k 0) mx_ck_g184 h1 h2
theorem mx_sh_100 : (List.range' 207 1).all (mx_short 2) = true := by decide +kernel
theorem mx_gr_100 {k j : Nat} (h1 : 207 ≤ k) (h2 : k < 208) (hk : k < mx_pg.length) : mx_ckc mx_pg k j = true := by
  by_cases hj : 2 ≤ j
  · exact mx_short_ok (mx_rng mx_sh_100 h1 h2) hj hk
  obtain rfl : k = 207 := by omega
  match j, hj with
  | 0, _ => exact mx_rng (p := fun k => mx_ckc mx_pg k 0) mx_ck_g185 h1 h2
  | 1, _ => exact mx_rng (p := fun k => mx_ckc mx_pg k 1) mx_ck_g186 h1 h2
  | z + 2, hj => exact absurd (Nat.le_add_left 2 z) hj
theorem mx_sh_101 : (List.range' 208 1).all (mx_short 1) = true := by decide +kernel
theorem mx_gr_101 {k j : Nat} (h1 : 208 ≤ k) (h2 : k < 209) (hk : k < mx_pg.length) : mx_ckc mx_pg k j = true := by
  by_cases hj : 1 ≤ j
  · exact mx_short_ok (mx_rng mx_sh_101 h1 h2) hj hk
  obtain rfl : j = 0 := by omega
  exact mx_rng (p := fun k => mx_ckc mx_pg k 0) mx_ck_g187 h1 h2
theorem mx_sh_102 : (List.range' 209 1).all (mx_short 4) = true := by decide +kernel
theorem mx_gr_102 {k j : Nat} (h1 : 209 ≤ k) (h2 : k < 210) (hk : k < mx_pg.length) : mx_ckc mx_pg k j = true := by
  by_cases hj : 4 ≤ j
  · exact mx_short_ok (mx_rng mx_sh_102 h1 h2) hj hk
  obtain rfl : k = 209 := by omega
  match j, hj with
  | 0, _ => exact mx_rng (p := fun k => mx_ckc mx_pg k 0) mx_ck_g188 h1 h2
  | 1, _ => exact mx_rng (p := fun k => mx_ckc mx_pg k 1) mx_ck_g189 h1 h2
  | 2, _ => exact mx_rng (p := fun k => mx_ckc mx_pg k 2) mx_ck_g190 h1 h2
  | 3, _ => exact mx_rng (p := fun k => mx_ckc mx_pg k 3) mx_ck_g191 h1 h2
  | z + 4, hj => exact absurd (Nat.le_add_left 4 z) hj
theorem mx_sh_103 : (List.range' 210 1).all (mx_short 2) = true := by decide +kernel
theorem mx_gr_103 {k j : Nat} (h1 : 210 ≤ k) (h2 : k < 211) (hk : k < mx_pg.length) : mx_ckc mx_pg k j = true := by
  by_cases hj : 2 ≤ j
  · exact mx_short_ok (mx_rng mx_sh_103 h1 h2) hj hk
  obtain rfl : k = 210 := by omega
  match j, hj with
  | 0, _ => exact mx_rng (p := fun k => mx_ckc mx_pg k 0) mx_ck_g192 h1 h2
  | 1, _ => exact mx_rng (p := fun k => mx_ckc mx_pg k 1) mx_ck_g193 h1 h2
  | z + 2, hj => exact absurd (Nat.le_add_left 2 z) hj
theorem mx_sh_104 : (List.range' 211 1).all (mx_short 3) = true := by decide +kernel
theorem mx_gr_104 {k j : Nat} (h1 : 211 ≤ k) (h2 : k < 212) (hk : k < mx_pg.length) : mx_ckc mx_pg k j = true := by
  by_cases hj : 3 ≤ j
  · exact mx_short_ok (mx_rng mx_sh_104 h1 h2) hj hk
  obtain rfl : k = 211 := by omega
  match j, hj with
  | 0, _ => exact mx_rng (p := fun k => mx_ckc mx_pg k 0) mx_ck_g194 h1 h2
  | 1, _ => exact mx_rng (p := fun k => mx_ckc mx_pg k 1) mx_ck_g195 h1 h2
  | 2, _ => exact mx_rng (p := fun k => mx_ckc mx_pg k 2) mx_ck_g196 h1 h2
  | z + 3, hj => exact absurd (Nat.le_add_left 3 z) hj
theorem mx_sh_105 : (List.range' 212 1).all (mx_short 1) = true := by decide +kernel
theorem mx_gr_105 {k j : Nat} (h1 : 212 ≤ k) (h2 : k < 213) (hk : k < mx_pg.length) : mx_ckc mx_pg k j = true := by
  by_cases hj : 1 ≤ j
  · exact mx_short_ok (mx_rng mx_sh_105 h1 h2) hj hk
  obtain rfl : j = 0 := by omega
  exact mx_rng (p := fun k => mx_ckc mx_pg k 0) mx_ck_g197 h1 h2
theorem mx_sh_106 : (List.range' 213 1).all (mx_short 2) = true := by decide +kernel
theorem mx_gr_106 {k j : Nat} (h1 : 213 ≤ k) (h2 : k < 214) (hk : k < mx_pg.length) : mx_ckc mx_pg k j = true := by
  by_cases hj : 2 ≤ j
  · exact mx_short_ok (mx_rng mx_sh_106 h1 h2) hj hk
  obtain rfl : k = 213 := by omega
  match j, hj with
  | 0, _ => exact mx_rng (p := fun k => mx_ckc mx_pg k 0) mx_ck_g198 h1 h2
  | 1, _ => exact mx_rng (p := fun k => mx_ckc mx_pg k 1) mx_ck_g199 h1 h2
  | z + 2, hj => exact absurd (Nat.le_add_left 2 z) hj
theorem mx_sh_107 : (List.range' 214 8).all (mx_short 1) = true := by decide +kernel
theorem mx_gr_107 {k j : Nat} (h1 : 214 ≤ k) (h2 : k < 222) (hk : k < mx_pg.length) : mx_ckc mx_pg k j = true := by
  by_cases hj : 1 ≤ j
  · exact mx_short_ok (mx_rng mx_sh_107 h1 h2) hj hk
  obtain rfl : j = 0 := by omega
  exact mx_rng (p := fun k => mx_ckc mx_pg k 0) mx_ck_g200 h1 h2
theorem mx_sh_108 : (List.range' 222 8).all (mx_short 1) = true := by decide +kernel
theorem mx_gr_108 {k j : Nat} (h1 : 222 ≤ k) (h2 : k < 230) (hk : k < mx_pg.length) : mx_ckc mx_pg k j = true := by
  by_cases hj : 1 ≤ j
  · exact mx_short_ok (mx_rng mx_sh_108 h1 h2) hj hk
  obtain rfl : j = 0 := by omega
  exact mx_rng (p := fun k => mx_ckc mx_pg k 0) mx_ck_g201 h1 h2
theorem mx_sh_109 : (List.range' 230 1).all (mx_short 6) = true := by decide +kernel
theorem mx_gr_109 {k j : Nat} (h1 : 230 ≤ k) (h2 : k < 231) (hk : k < mx_pg.length) : mx_ckc mx_pg k j = true := by
  by_cases hj : 6 ≤ j
  · exact mx_short_ok (mx_rng mx_sh_109 h1 h2) hj hk
  obtain rfl : k = 230 := by omega
  match j, hj with
  | 0, _ => exact mx_rng (p := fun k => mx_ckc mx_pg k 0) mx_ck_g202 h1 h2
  | 1, _ => exact mx_rng (p := fun k => mx_ckc mx_pg k 1) mx_ck_g203 h1 h2
  | 2, _ => exact mx_rng (p := fun k => mx_ckc mx_pg k 2) mx_ck_g204 h1 h2
  | 3, _ => exact mx_rng (p := fun k => mx_ckc mx_pg k 3) mx_ck_g205 h1 h2
  | 4, _ => exact mx_rng (p := fun k => mx_ckc mx_pg k 4) mx_ck_g206 h1 h2
  | 5, _ => exact mx_rng (p := fun k => mx_ckc mx_pg k 5) mx_ck_g207 h1 h2
  | z + 6, hj => exact absurd (Nat.le_add_left 6 z) hj
theorem mx_pg_ok : mx_pok mx_pg := by
  refine mx_pok_of mx_me_all (fun k hk j => ?_) ⟨mx_has_ok (c := 1028) (by decide +kernel), mx_has_ok (c := 1029) (by decide +kernel)⟩
  have hk2 := hk
  rw [mx_pg_len] at hk2
  by_cases h0 : k < 6
  · exact mx_gr_0 (Nat.zero_le _) h0 hk
  by_cases h1 : k < 7
  · exact mx_gr_1 (Nat.not_lt.mp h0) h1 hk
  by_cases h2 : k < 9
  · exact mx_gr_2 (Nat.not_lt.mp h1) h2 hk
  by_cases h3 : k < 10
  · exact mx_gr_3 (Nat.not_lt.mp h2) h3 hk
  by_cases h4 : k < 11
  · exact mx_gr_4 (Nat.not_lt.mp h3) h4 hk
  by_cases h5 : k < 12
  · exact mx_gr_5 (Nat.not_lt.mp h4) h5 hk
  by_cases h6 : k < 22
  · exact mx_gr_6 (Nat.not_lt.mp h5) h6 hk
  by_cases h7 : k < 23
  · exact mx_gr_7 (Nat.not_lt.mp h6) h7 hk
  by_cases h8 : k < 24
  · exact mx_gr_8 (Nat.not_lt.mp h7) h8 hk
  by_cases h9 : k < 27
  · exact mx_gr_9 (Nat.not_lt.mp h8) h9 hk
  by_cases h10 : k < 28
  · exact mx_gr_10 (Nat.not_lt.mp h9) h10 hk
  by_cases h11 : k < 29
  · exact mx_gr_11 (Nat.not_lt.mp h10) h11 hk
  by_cases h12 : k < 30
  · exact mx_gr_12 (Nat.not_lt.mp h11) h12 hk
  by_cases h13 : k < 32
  · exact mx_gr_13 (Nat.not_lt.mp h12) h13 hk
  by_cases h14 : k < 33
  · exact mx_gr_14 (Nat.not_lt.mp h13) h14 hk
  by_cases h15 : k < 38
  · exact mx_gr_15 (Nat.not_lt.mp h14) h15 hk
  by_cases h16 : k < 39
  · exact mx_gr_16 (Nat.not_lt.mp h15) h16 hk
  by_cases h17 : k < 42
  · exact mx_gr_17 (Nat.not_lt.mp h16) h17 hk
  by_cases h18 : k < 47
  · exact mx_gr_18 (Nat.not_lt.mp h17) h18 hk
  by_cases h19 : k < 54
  · exact mx_gr_19 (Nat.not_lt.mp h18) h19 hk
  by_cases h20 : k < 61
  · exact mx_gr_20 (Nat.not_lt.mp h19) h20 hk
  by_cases h21 : k < 68
  · exact mx_gr_21 (Nat.not_lt.mp h20) h21 hk
  by_cases h22 : k < 70
  · exact mx_gr_22 (Nat.not_lt.mp h21) h22 hk
  by_cases h23 : k < 71
  · exact mx_gr_23 (Nat.not_lt.mp h22) h23 hk
  by_cases h24 : k < 72
  · exact mx_gr_24 (Nat.not_lt.mp h23) h24 hk
  by_cases h25 : k < 73
  · exact mx_gr_25 (Nat.not_lt.mp h24) h25 hk
  by_cases h26 : k < 76
  · exact mx_gr_26 (Nat.not_lt.mp h25) h26 hk
  by_cases h27 : k < 77
  · exact mx_gr_27 (Nat.not_lt.mp h26) h27 hk
  by_cases h28 : k < 78
  · exact mx_gr_28 (Nat.not_lt.mp h27) h28 hk
  by_cases h29 : k < 79
  · exact mx_gr_29 (Nat.not_lt.mp h28) h29 hk
  by_cases h30 : k < 80
  · exact mx_gr_30 (Nat.not_lt.mp h29) h30 hk
  by_cases h31 : k < 81
  · exact mx_gr_31 (Nat.not_lt.mp h30) h31 hk
  by_cases h32 : k < 82
  · exact mx_gr_32 (Nat.not_lt.mp h31) h32 hk
  by_cases h33 : k < 86
  · exact mx_gr_33 (Nat.not_lt.mp h32) h33 hk
  by_cases h34 : k < 90
  · exact mx_gr_34 (Nat.not_lt.mp h33) h34 hk
  by_cases h35 : k < 91
  · exact mx_gr_35 (Nat.not_lt.mp h34) h35 hk
  by_cases h36 : k < 97
  · exact mx_gr_36 (Nat.not_lt.mp h35) h36 hk
  by_cases h37 : k < 98
  · exact mx_gr_37 (Nat.not_lt.mp h36) h37 hk
  by_cases h38 : k < 99
  · exact mx_gr_38 (Nat.not_lt.mp h37) h38 hk
  by_cases h39 : k < 100
  · exact mx_gr_39 (Nat.not_lt.mp h38) h39 hk
  by_cases h40 : k < 101
  · exact mx_gr_40 (Nat.not_lt.mp h39) h40 hk
  by_cases h41 : k < 105
  · exact mx_gr_41 (Nat.not_lt.mp h40) h41 hk
  by_cases h42 : k < 106
  · exact mx_gr_42 (Nat.not_lt.mp h41) h42 hk
  by_cases h43 : k < 107
  · exact mx_gr_43 (Nat.not_lt.mp h42) h43 hk
  by_cases h44 : k < 110
  · exact mx_gr_44 (Nat.not_lt.mp h43) h44 hk
  by_cases h45 : k < 117
  · exact mx_gr_45 (Nat.not_lt.mp h44) h45 hk
  by_cases h46 : k < 119
  · exact mx_gr_46 (Nat.not_lt.mp h45) h46 hk
  by_cases h47 : k < 120
  · exact mx_gr_47 (Nat.not_lt.mp h46) h47 hk
  by_cases h48 : k < 123
  · exact mx_gr_48 (Nat.not_lt.mp h47) h48 hk
  by_cases h49 : k < 124
  · exact mx_gr_49 (Nat.not_lt.mp h48) h49 hk
  by_cases h50 : k < 125
  · exact mx_gr_50 (Nat.not_lt.mp h49) h50 hk
  by_cases h51 : k < 126
  · exact mx_gr_51 (Nat.not_lt.mp h50) h51 hk
  by_cases h52 : k < 127
  · exact mx_gr_52 (Nat.not_lt.mp h51) h52 hk
  by_cases h53 : k < 128
  · exact mx_gr_53 (Nat.not_lt.mp h52) h53 hk
  by_cases h54 : k < 129
  · exact mx_gr_54 (Nat.not_lt.mp h53) h54 hk
  by_cases h55 : k < 131
  · exact mx_gr_55 (Nat.not_lt.mp h54) h55 hk
  by_cases h56 : k < 132
  · exact mx_gr_56 (Nat.not_lt.mp h55) h56 hk
  by_cases h57 : k < 133
  · exact mx_gr_57 (Nat.not_lt.mp h56) h57 hk
  by_cases h58 : k < 136
  · exact mx_gr_58 (Nat.not_lt.mp h57) h58 hk
  by_cases h59 : k < 137
  · exact mx_gr_59 (Nat.not_lt.mp h58) h59 hk
  by_cases h60 : k < 138
  · exact mx_gr_60 (Nat.not_lt.mp h59) h60 hk
  by_cases h61 : k < 139
  · exact mx_gr_61 (Nat.not_lt.mp h60) h61 hk
  by_cases h62 : k < 146
  · exact mx_gr_62 (Nat.not_lt.mp h61) h62 hk
  by_cases h63 : k < 149
  · exact mx_gr_63 (Nat.not_lt.mp h62) h63 hk
  by_cases h64 : k < 150
  · exact mx_gr_64 (Nat.not_lt.mp h63) h64 hk
  by_cases h65 : k < 151
  · exact mx_gr_65 (Nat.not_lt.mp h64) h65 hk
  by_cases h66 : k < 155
  · exact mx_gr_66 (Nat.not_lt.mp h65) h66 hk
  by_cases h67 : k < 156
  · exact mx_gr_67 (Nat.not_lt.mp h66) h67 hk
  by_cases h68 : k < 157
  · exact mx_gr_68 (Nat.not_lt.mp h67) h68 hk
  by_cases h69 : k < 160
  · exact mx_gr_69 (Nat.not_lt.mp h68) h69 hk
  by_cases h70 : k < 161
  · exact mx_gr_70 (Nat.not_lt.mp h69) h70 hk
  by_cases h71 : k < 163
  · exact mx_gr_71 (Nat.not_lt.mp h70) h71 hk
  by_cases h72 : k < 164
  · exact mx_gr_72 (Nat.not_lt.mp h71) h72 hk
  by_cases h73 : k < 165
  · exact mx_gr_73 (Nat.not_lt.mp h72) h73 hk
  by_cases h74 : k < 170
  · exact mx_gr_74 (Nat.not_lt.mp h73) h74 hk
  by_cases h75 : k < 171
  · exact mx_gr_75 (Nat.not_lt.mp h74) h75 hk
  by_cases h76 : k < 172
  · exact mx_gr_76 (Nat.not_lt.mp h75) h76 hk
  by_cases h77 : k < 173
  · exact mx_gr_77 (Nat.not_lt.mp h76) h77 hk
  by_cases h78 : k < 174
  · exact mx_gr_78 (Nat.not_lt.mp h77) h78 hk
  by_cases h79 : k < 175
  · exact mx_gr_79 (Nat.not_lt.mp h78) h79 hk
  by_cases h80 : k < 176
  · exact mx_gr_80 (Nat.not_lt.mp h79) h80 hk
  by_cases h81 : k < 180
  · exact mx_gr_81 (Nat.not_lt.mp h80) h81 hk
  by_cases h82 : k < 181
  · exact mx_gr_82 (Nat.not_lt.mp h81) h82 hk
  by_cases h83 : k < 182
  · exact mx_gr_83 (Nat.not_lt.mp h82) h83 hk
  by_cases h84 : k < 183
  · exact mx_gr_84 (Nat.not_lt.mp h83) h84 hk
  by_cases h85 : k < 184
  · exact mx_gr_85 (Nat.not_lt.mp h84) h85 hk
  by_cases h86 : k < 188
  · exact mx_gr_86 (Nat.not_lt.mp h85) h86 hk
  by_cases h87 : k < 191
  · exact mx_gr_87 (Nat.not_lt.mp h86) h87 hk
  by_cases h88 : k < 193
  · exact mx_gr_88 (Nat.not_lt.mp h87) h88 hk
  by_cases h89 : k < 194
  · exact mx_gr_89 (Nat.not_lt.mp h88) h89 hk
  by_cases h90 : k < 195
  · exact mx_gr_90 (Nat.not_lt.mp h89) h90 hk
  by_cases h91 : k < 196
  · exact mx_gr_91 (Nat.not_lt.mp h90) h91 hk
  by_cases h92 : k < 197
  · exact mx_gr_92 (Nat.not_lt.mp h91) h92 hk
  by_cases h93 : k < 198
  · exact mx_gr_93 (Nat.not_lt.mp h92) h93 hk
  by_cases h94 : k < 199
  · exact mx_gr_94 (Nat.not_lt.mp h93) h94 hk
  by_cases h95 : k < 200
  · exact mx_gr_95 (Nat.not_lt.mp h94) h95 hk
  by_cases h96 : k < 201
  · exact mx_gr_96 (Nat.not_lt.mp h95) h96 hk
  by_cases h97 : k < 202
  · exact mx_gr_97 (Nat.not_lt.mp h96) h97 hk
  by_cases h98 : k < 205
  · exact mx_gr_98 (Nat.not_lt.mp h97) h98 hk
  by_cases h99 : k < 207
  · exact mx_gr_99 (Nat.not_lt.mp h98) h99 hk
  by_cases h100 : k < 208
  · exact mx_gr_100 (Nat.not_lt.mp h99) h100 hk
  by_cases h101 : k < 209
  · exact mx_gr_101 (Nat.not_lt.mp h100) h101 hk
  by_cases h102 : k < 210
  · exact mx_gr_102 (Nat.not_lt.mp h101) h102 hk
  by_cases h103 : k < 211
  · exact mx_gr_103 (Nat.not_lt.mp h102) h103 hk
  by_cases h104 : k < 212
  · exact mx_gr_104 (Nat.not_lt.mp h103) h104 hk
  by_cases h105 : k < 213
  · exact mx_gr_105 (Nat.not_lt.mp h104) h105 hk
  by_cases h106 : k < 214
  · exact mx_gr_106 (Nat.not_lt.mp h105) h106 hk
  by_cases h107 : k < 222
  · exact mx_gr_107 (Nat.not_lt.mp h106) h107 hk
  by_cases h108 : k < 230
  · exact mx_gr_108 (Nat.not_lt.mp h107) h108 hk
  by_cases h109 : k < 231
  · exact mx_gr_109 (Nat.not_lt.mp h108) h109 hk
  exact absurd hk2 h109
end
section
/-! ===== one text, read by both ===== -/
theorem vk_eq_vl : ∀ (l : List vl_I) (C M : List (Int × qx_T)), vk_eq l C M = vl_eq l C M
  | [], _, _ => rfl
  | q :: l, C, M => by
    show (if q.1.1 = 3 then vk_eq l (C ++ [q.1.2]) M else if q.1.1 = 4 then vk_eq l C (M ++ [q.1.2]) else ((C, M), q.2) :: vk_eq l C M) = (if q.1.1 = 3 then vl_eq l (C ++ [q.1.2]) M else if q.1.1 = 4 then vl_eq l C (M ++ [q.1.2]) else ((C, M), q.2) :: vl_eq l C M)
    rw [vk_eq_vl l (C ++ [q.1.2]) M, vk_eq_vl l C (M ++ [q.1.2]), vk_eq_vl l C M]
theorem vk_mf_vl : ∀ (l : List vl_I) (M : List (Int × qx_T)), vk_mf l M = vl_mf l M
  | [], _ => rfl
  | q :: l, M => by
    show (if q.1.1 = 4 then vk_mf l (M ++ [q.1.2]) else vk_mf l M) = (if q.1.1 = 4 then vl_mf l (M ++ [q.1.2]) else vl_mf l M)
    rw [vk_mf_vl l (M ++ [q.1.2]), vk_mf_vl l M]
theorem vs_tl_mk {SN : Int → Int → Prop} {TV : Int → qx_T → Prop} {AR : Nat → List Int} : ∀ {l : List vl_I} {C M : List (Int × qx_T)} {tl : vw_L}, vl_tx SN TV AR l C M tl → tl.length = (vl_eq l C M).length ∧ ∀ (k : Nat) p, (vl_eq l C M)[k]? = some p → ∃ W V x y, tl[k]? = some (W, V) ∧ (vl_tm SN p.1.1 p.1.2 TV AR p.2.1).1 W [] [] x ∧ (vl_tm SN p.1.1 p.1.2 TV AR p.2.2).1 V [] [] y
  | [], C, M, tl, h => by
    have e : tl = [] := h
    subst e
    exact ⟨rfl, fun k p hp => by
      have : (none : Option ((List (Int × qx_T) × List (Int × qx_T)) × (px_N × px_N))) = some p := hp
      cases this⟩
  | q :: l, C, M, tl, h => by
    rcases h with ⟨k, h⟩ | ⟨k, h⟩ | ⟨k, L, R, l1, x, e, a1, a2, h⟩
    · have e1 : vl_eq (q :: l) C M = vl_eq l (C ++ [q.1.2]) M := by
        show (if q.1.1 = 3 then _ else _) = _
        rw [if_pos k]
      rw [e1]
      exact vs_tl_mk h
    · have e1 : vl_eq (q :: l) C M = vl_eq l C (M ++ [q.1.2]) := by
        show (if q.1.1 = 3 then _ else if q.1.1 = 4 then _ else _) = _
        rw [if_neg (by omega), if_pos k]
      rw [e1]
      exact vs_tl_mk h
    · have e1 : vl_eq (q :: l) C M = ((C, M), q.2) :: vl_eq l C M := by
        show (if q.1.1 = 3 then _ else if q.1.1 = 4 then _ else _) = _
        rw [if_neg (by omega), if_neg (by omega)]
      obtain ⟨i1, i2⟩ := vs_tl_mk h
      subst e
      rw [e1]
      refine ⟨by rw [List.length_cons, List.length_cons, i1], fun k p hp => ?_⟩
      cases k with
      | zero =>
        have ep : ((C, M), q.2) = p := Option.some.inj hp
        rw [← ep]
        exact ⟨L, R, x, x, rfl, a1, a2⟩
      | succ k =>
        rw [List.getElem?_cons_succ] at hp
        obtain ⟨W, V, x, y, t1, t2⟩ := i2 k p hp
        exact ⟨W, V, x, y, by rw [List.getElem?_cons_succ]; exact t1, t2⟩
theorem vs_tl_vl {SN : Int → Int → Prop} {TV : Int → qx_T → Prop} {AR : Nat → List Int} {l : List vl_I} {tl : vw_L} (h : vl_tx SN TV AR l [] [] tl) : vs_tl SN TV AR (vk_eq l [] []) tl := by
  rw [vk_eq_vl]
  exact vs_tl_mk h
theorem vs_sat_vl {SN : Int → Int → Prop} {TV : Int → qx_T → Prop} {AR : Nat → List Int} {l : List vl_I} {tl : vw_L} (h : vl_tx SN TV AR l [] [] tl) : vs_sat AR tl (vk_mf l []) ↔ vl_sat SN l := by
  rw [vl_sat_iff h, vk_mf_vl]
  constructor
  · rintro ⟨th, ⟨g, sc⟩, q⟩
    refine ⟨th, g, fun u u0 u1 => sc u u0 u1, fun p hp => ?_⟩
    obtain ⟨i, hi⟩ := List.mem_iff_getElem?.mp hp
    have hl : i < tl.length := (List.getElem?_eq_some_iff.mp hi).1
    exact q (i : Int) (by omega) (by omega) p (by rw [Int.toNat_natCast]; exact hi)
  · rintro ⟨th, g, sc, q⟩
    exact ⟨th, ⟨g, fun u u0 u1 => sc u u0 u1⟩, fun i i0 i1 p hp => q p (List.mem_of_getElem? hp)⟩
/-! what the desk's load leaves stays where its cells stay -/
theorem dz_E_c {b : Nat → Int} {n : Int} {C M : List (Int × qx_T)} {s t : sx_S} (h : ∀ p, 2 ≤ p → p ≤ 28 → t.1 p = s.1 p ∧ t.2.1 p = s.2.1 p) (g : dz_E b n C M s) : dz_E b n C M t := by
  have a2 := (h 2 (by decide) (by decide)).1
  have a8 := (h 8 (by decide) (by decide)).1
  have a19 := (h 19 (by decide) (by decide)).1
  have a22 := (h 22 (by decide) (by decide)).1
  have b3 := (h 3 (by decide) (by decide)).2
  have b4 := (h 4 (by decide) (by decide)).2
  have b5 := (h 5 (by decide) (by decide)).2
  have b6 := (h 6 (by decide) (by decide)).2
  have b9 := (h 9 (by decide) (by decide)).2
  have b10 := (h 10 (by decide) (by decide)).2
  have b20 := (h 20 (by decide) (by decide)).2
  have b21 := (h 21 (by decide) (by decide)).2
  have b23 := (h 23 (by decide) (by decide)).2
  have b24 := (h 24 (by decide) (by decide)).2
  unfold dz_E dz_TN px_TK px_DE px_DT dz_DL dx_TI dx_is at g ⊢
  simp only [a2, a8, a19, a22, b3, b4, b5, b6, b9, b10, b20, b21, b23, b24]
  exact g
end
section
/-! ===== two contracts of one call: a state that keeps what both say ===== -/
theorem sx_bothM {sL : Nat} {sx : Nat → Int32} {d mi : Nat} {av : List sx_V} {s : sx_S} {K1 K2 K : Int → sx_S → Prop} {e : mx_En} (he : mx_pg[mi]? = some e) (h1 : sx_C sL sx d mi av s K1) (h2 : sx_C sL sx d mi av s K2) (h : ∀ z1 t1 z2 t2, K1 z1 t1 → K2 z2 t2 → sx_vo e.1.2.2.2 z1 = sx_vo e.1.2.2.2 z2 → sx_hp t1 = sx_hp t2 → ∃ t3, sx_hp t3 = sx_hp t1 ∧ t3.2.2.2 = t1.2.2.2 ∧ K z1 t3) : sx_C sL sx d mi av s K := by
  intro hw e' he' c n
  cases he.symm.trans he'
  obtain ⟨z1, t1, ⟨k1, a1⟩, a2, a3, a4⟩ := h1 hw e he c n
  obtain ⟨z2, t2, ⟨k2, b1⟩, b2, b3, b4⟩ := h2 hw e he c n
  have q1 := mx_mono a1 (k1 + k2) (Nat.le_add_right _ _)
  have q2 := mx_mono b1 (k1 + k2) (Nat.le_add_left _ _)
  have q := Option.some.inj (q1.symm.trans q2)
  obtain ⟨t3, e1, e2, e3⟩ := h z1 t1 z2 t2 a4 b4 (congrArg Prod.fst q) (congrArg (fun r => r.2.1) q)
  refine ⟨z1, t3, ⟨k1, ?_⟩, by omega, by omega, e3⟩
  rw [e1, e2]
  exact a1
/-- the cells 1 .. 28 of b, the others of a -/
def sx_mg (a b : sx_S) : sx_S := (fun p => cond (Nat.ble 1 p && Nat.ble p 28) (b.1 p) (a.1 p), fun p => cond (Nat.ble 1 p && Nat.ble p 28) (b.2.1 p) (a.2.1 p), a.2.2)
theorem sx_mg_in {a b : sx_S} {p : Nat} (h1 : 1 ≤ p) (h2 : p ≤ 28) : (sx_mg a b).1 p = b.1 p ∧ (sx_mg a b).2.1 p = b.2.1 p := by
  have e : (Nat.ble 1 p && Nat.ble p 28) = true := by
    rw [Bool.and_eq_true]
    exact ⟨Nat.ble_eq.mpr h1, Nat.ble_eq.mpr h2⟩
  show cond (Nat.ble 1 p && Nat.ble p 28) (b.1 p) (a.1 p) = b.1 p ∧ cond (Nat.ble 1 p && Nat.ble p 28) (b.2.1 p) (a.2.1 p) = b.2.1 p
  rw [e]
  exact ⟨rfl, rfl⟩
theorem sx_mg_out {a b : sx_S} {p : Nat} (h : p = 0 ∨ 28 < p) : (sx_mg a b).1 p = a.1 p ∧ (sx_mg a b).2.1 p = a.2.1 p := by
  have e : (Nat.ble 1 p && Nat.ble p 28) = false := by
    cases hb : (Nat.ble 1 p && Nat.ble p 28) with
    | false => rfl
    | true =>
      rw [Bool.and_eq_true] at hb
      have h1 := Nat.ble_eq.mp hb.1
      have h2 := Nat.ble_eq.mp hb.2
      exact absurd h (by omega)
  show cond (Nat.ble 1 p && Nat.ble p 28) (b.1 p) (a.1 p) = a.1 p ∧ cond (Nat.ble 1 p && Nat.ble p 28) (b.2.1 p) (a.2.1 p) = a.2.1 p
  rw [e]
  exact ⟨rfl, rfl⟩
theorem sx_cell_cg {s t : sx_S} {p : Nat} (x : Sum (Nat × List Nat) (Nat × Nat)) (h1 : s.1 p = t.1 p) (h2 : s.2.1 p = t.2.1 p) : sx_cell s p x = sx_cell t p x := by
  unfold sx_cell
  rw [h1, h2]
theorem sx_mg_hp {a b : sx_S} (hh : sx_hp a = sx_hp b) : sx_hp (sx_mg a b) = sx_hp a := by
  have e1 : sx_sh.mapIdx (fun p x => sx_cell (sx_mg a b) p x) = sx_sh.mapIdx (fun p x => sx_cell a p x) := by
    apply List.ext_getElem?
    intro p
    rw [List.getElem?_mapIdx, List.getElem?_mapIdx]
    cases hx : sx_sh[p]? with
    | none => rfl
    | some x =>
      show some (sx_cell (sx_mg a b) p x) = some (sx_cell a p x)
      by_cases c : 1 ≤ p ∧ p ≤ 28
      · have q : some (sx_cell a p x) = some (sx_cell b p x) := (sx_hp_at hx).symm.trans ((congrArg (fun l => l[p]?) hh).trans (sx_hp_at hx))
        rw [q, sx_cell_cg x (sx_mg_in c.1 c.2).1 (sx_mg_in c.1 c.2).2]
      · rw [sx_cell_cg x (sx_mg_out (a := a) (b := b) (by omega)).1 (sx_mg_out (a := a) (b := b) (by omega)).2]
  unfold sx_hp
  rw [e1]
  rfl
theorem sx_mg_I {a b : sx_S} (ha : cx_I a) (hb : cx_I b) : cx_I (sx_mg a b) := by
  intro k p j hp
  match k with
  | 0 =>
    show (cx_rng p j).1 ≤ (sx_mg a b).1 p j ∧ (sx_mg a b).1 p j ≤ (cx_rng p j).2
    by_cases c : 1 ≤ p ∧ p ≤ 28
    · rw [(sx_mg_in c.1 c.2).1]
      exact hb 0 p j hp
    · rw [(sx_mg_out (a := a) (b := b) (by omega)).1]
      exact ha 0 p j hp
  | 1 =>
    show (cx_arg p).1 ≤ (sx_mg a b).2.1 p j ∧ (sx_mg a b).2.1 p j ≤ (cx_arg p).2
    by_cases c : 1 ≤ p ∧ p ≤ 28
    · rw [(sx_mg_in c.1 c.2).2]
      exact hb 1 p j hp
    · rw [(sx_mg_out (a := a) (b := b) (by omega)).2]
      exact ha 1 p j hp
  | k + 2 =>
    show (j : Int) < (sx_mg a b).1 11 6 → (sx_mg a b).2.1 16 j ≤ (sx_mg a b).1 11 6
    rw [(sx_mg_in (by decide) (by decide)).1, (sx_mg_in (by decide) (by decide)).2]
    exact hb (k + 2) p j hp
theorem sx_mg_F {s a b : sx_S} (h : cx_F [(0, 28)] s a) : cx_F [(0, 28)] s (sx_mg a b) := by
  intro p
  refine ⟨fun ho => ?_, (h 0).2⟩
  have hp : 28 < p := by
    have := ho (0, 28) List.mem_cons_self
    dsimp only at this
    omega
  rw [(sx_mg_out (a := a) (b := b) (Or.inr hp)).1, (sx_mg_out (a := a) (b := b) (Or.inr hp)).2]
  exact (h p).1 ho
end
section
/-! ===== the desk: what its calls leave of the loaded text ===== -/
theorem c_dload3 {sL : Nat} {sx : Nat → Int32} (hsL : sL ≤ 3072) (d : Nat) (hd : 165 ≤ d) : ∀ (a0 : Int) (s : sx_S) (K : Int → sx_S → Prop), cx_I s → (-2147483648 ≤ a0 ∧ a0 ≤ 2147483647) → (∀ (z : Int) (t : sx_S), cx_I t → cx_F [(0, 28)] s t → (-2147483648 ≤ z ∧ z ≤ 2147483647) → (((a0 < 0 ∨ s.1 0 1 < a0) ∧ t.1 0 1 = s.1 0 1) ∨ (0 ≤ a0 ∧ a0 ≤ s.1 0 1 ∧ t.1 0 1 = 0 ∧ (z = 0 ∧ t.1 0 2 = 1 ∧ t.1 0 3 = -1 ∨ z ≠ 0 ∧ t.1 0 2 = 0))) → K z t) → sx_C sL sx d 138 [.inr (.inl 0), .inl a0] s K := by
  intro a0 s K hI p0 hK
  obtain ⟨d, rfl⟩ : ∃ e, d = e + 2 := ⟨d - 2, by omega⟩
  exact sx_meth (wr := true) (n := 400) hsL (e := eX11_load) rfl (w_dload3 (Q := fun _ _ _ => False) (fun a0 s K h1 h2 hK => c_tkreadD hsL (d + 1) (by omega) a0 s K h1 h2 (fun z t t1 t2 t3 => hK z t t1 t2 ⟨t3.1, t3.2, congrFun (t2.same 0 rfl).1 3⟩)) (fun s K h1 hK => c_gacceptsD hsL (d + 1) (by omega) s K h1 (fun z t t1 t2 t4 t3 => hK z t t1 t2 t4 ⟨t3.1, t3.2, congrFun (t2.same 0 rfl).1 3⟩)) (c_gplace hsL (d + 1) (by omega)) (fun s K h1 hK => c_cacceptsD hsL (d + 1) (by omega) s K h1 (fun z t t1 t2 t4 t3 => hK z t t1 t2 t4 ⟨t3.1, t3.2, congrFun (t2.same 0 rfl).1 3⟩)) (c_chplace hsL (d + 1) (by omega)) (c_chnumber hsL (d + 1) (by omega)) hI p0 hK)
theorem px_an_fun {b : Nat → Int} {n z z' : Int} (h : px_an b n z) (h' : px_an b n z') : z = z' := by
  rcases h with ⟨h1, h2⟩ | ⟨l, h1, h2⟩ <;> rcases h' with ⟨g1, g2⟩ | ⟨l', g1, g2⟩
  · omega
  · exact absurd g1 (h2 l')
  · exact absurd h1 (g2 l)
  · obtain rfl := px_TX_fun h1 g1
    rcases h2 with ⟨h2, h3⟩ | ⟨h2, h3⟩ <;> rcases g2 with ⟨g2, g3⟩ | ⟨g2, g3⟩
    · omega
    · exact absurd h3 g3
    · exact absurd g3 h3
    · omega
theorem px_an_r {b : Nat → Int} {n z : Int} (h : px_an b n z) : -3 ≤ z ∧ z ≤ 0 := by
  rcases h with ⟨h1, _⟩ | ⟨l, _, ⟨h1, _⟩ | ⟨h1, _⟩⟩ <;> omega
end
section
/-- a call that leaves it -/
def vz_K (s t : sx_S) : Prop := True → (t.1 0 2 = s.1 0 2 ∧ t.1 0 3 = s.1 0 3 ∧ t.1 66 37 = s.1 66 37) ∧ (∀ p, 2 ≤ p → p ≤ 28 → t.1 p = s.1 p ∧ t.2.1 p = s.2.1 p) ∧ (s.1 66 37 ≠ 0 → ∀ b n l, vk_LD b n l (rf_l0 s) → vk_LD b n l (rf_l0 t))
theorem vz_K_0 (s : sx_S) : vz_K s s := fun _ => ⟨⟨rfl, rfl, rfl⟩, fun _ _ _ => ⟨rfl, rfl⟩, fun _ _ _ _ h => h⟩
theorem vz_K_t {s t u : sx_S} (h2 : vz_K t u) (h1 : vz_K s t) : vz_K s u := fun _ => by
  obtain ⟨⟨a1, a2, a3⟩, a4, a5⟩ := h1 trivial
  obtain ⟨⟨b1, b2, b3⟩, b4, b5⟩ := h2 trivial
  exact ⟨⟨b1.trans a1, b2.trans a2, b3.trans a3⟩, fun p h1 h2 => ⟨(b4 p h1 h2).1.trans (a4 p h1 h2).1, (b4 p h1 h2).2.trans (a4 p h1 h2).2⟩, fun h b n l g => b5 (by rw [a3]; exact h) b n l (a5 h b n l g)⟩
theorem vk_LD_s {b : Nat → Int} {n : Int} {l : List ((Int × Int × qx_T) × (px_N × px_N))} {s t : sx_S} (h9 : t.1 66 9 = s.1 66 9) (h45 : t.1 66 45 = s.1 66 45) (h47 : t.1 66 47 = s.1 66 47) (h75 : t.1 66 75 = s.1 66 75) (h76 : t.1 66 76 = s.1 66 76) (ha : ∀ p, 72 ≤ p → p ≤ 73 ∨ 97 ≤ p → p ≤ 99 ∨ p = 123 → t.2.1 p = s.2.1 p) (hn : ∀ p j : Nat, 100 ≤ p → p ≤ 104 → (j : Int) < s.1 66 75 → t.2.1 p j = s.2.1 p j) (hr : ∀ j : Nat, (j : Int) < s.1 66 76 → t.2.1 105 j = s.2.1 105 j) (g : vk_LD b n l (rf_l0 s)) : vk_LD b n l (rf_l0 t) := by
  obtain ⟨l1, l2, l3, l4, _⟩ := rf_l0_f (s := s)
  obtain ⟨m1, m2, m3, m4, _⟩ := rf_l0_f (s := t)
  have y9 : (rf_l0 t).1 66 9 = (rf_l0 s).1 66 9 := ((m4 9 (by decide) (by decide) (by decide)).trans h9).trans (l4 9 (by decide) (by decide) (by decide)).symm
  have y45 : (rf_l0 t).1 66 45 = (rf_l0 s).1 66 45 := ((m4 45 (by decide) (by decide) (by decide)).trans h45).trans (l4 45 (by decide) (by decide) (by decide)).symm
  have y47 : (rf_l0 t).1 66 47 = (rf_l0 s).1 66 47 := ((m4 47 (by decide) (by decide) (by decide)).trans h47).trans (l4 47 (by decide) (by decide) (by decide)).symm
  have u72 : (rf_l0 t).2.1 72 = (rf_l0 s).2.1 72 := ha 72 (by omega) (by omega) (by omega)
  have u73 : (rf_l0 t).2.1 73 = (rf_l0 s).2.1 73 := ha 73 (by omega) (by omega) (by omega)
  have u97 : (rf_l0 t).2.1 97 = (rf_l0 s).2.1 97 := ha 97 (by omega) (by omega) (by omega)
  have u123 : (rf_l0 t).2.1 123 = (rf_l0 s).2.1 123 := ha 123 (by omega) (by omega) (by omega)
  have u98 : (rf_l0 t).2.1 98 = (rf_l0 s).2.1 98 := ha 98 (by omega) (by omega) (by omega)
  have u99 : (rf_l0 t).2.1 99 = (rf_l0 s).2.1 99 := ha 99 (by omega) (by omega) (by omega)
  exact vk_LD_u (s := rf_l0 s) (t := rf_l0 t) (fun _ => ⟨⟨by omega, by omega, by omega, fun j => ⟨by omega, fun _ => ⟨by rw [u72], by rw [u73]⟩⟩⟩, fun p j h1 h2 h3 => hn p j h1 (by omega) (by omega), fun j => ⟨fun hj => hn 104 j (by omega) (by omega) (by omega), fun hj => hr j (by omega), fun _ => by rw [u123]⟩⟩) y45 y47 u97 u123 u98 u99 g
/-- the desk writes what it shows -/
theorem vz_K_w {s t : sx_S} (h : cx_F [(29, 37), (55, 65)] s t) : vz_K s t := fun _ => by
  have e0 := (h.same 0 rfl).1
  have e66 := (h.same 66 rfl).1
  have big : ∀ p, 66 ≤ p → t.2.1 p = s.2.1 p := fun p hp => ((h p).1 (fun q hq => by
    simp only [List.mem_cons, List.not_mem_nil, or_false] at hq
    rcases hq with rfl | rfl <;> (dsimp only; omega))).2
  refine ⟨⟨by rw [e0], by rw [e0], by rw [e66]⟩, fun p h1 h2 => (h p).1 (fun q hq => by
    simp only [List.mem_cons, List.not_mem_nil, or_false] at hq
    rcases hq with rfl | rfl <;> (dsimp only; omega)), fun _ b n l g => vk_LD_s (by rw [e66]) (by rw [e66]) (by rw [e66]) (by rw [e66]) (by rw [e66]) (fun p h1 _ _ => big p (by omega)) (fun p j h1 _ _ => by rw [big p (by omega)]) (fun j _ => by rw [big 105 (by omega)]) g⟩
/-- feed of the desk; of the reference -/
theorem vz_K_d {s t : sx_S} (h : cx_F [(0, 1)] s t) (h2 : t.1 0 2 = s.1 0 2) (h3 : t.1 0 3 = s.1 0 3) : vz_K s t := fun _ => by
  have e66 := (h.same 66 rfl).1
  have big : ∀ p, 2 ≤ p → t.1 p = s.1 p ∧ t.2.1 p = s.2.1 p := fun p hp => (h p).1 (fun q hq => by
    simp only [List.mem_cons, List.not_mem_nil, or_false] at hq
    rcases hq with rfl
    dsimp only
    omega)
  exact ⟨⟨h2, h3, by rw [e66]⟩, fun p h1 _ => big p h1, fun _ b n l g => vk_LD_s (by rw [e66]) (by rw [e66]) (by rw [e66]) (by rw [e66]) (by rw [e66]) (fun p h1 _ _ => (big p (by omega)).2) (fun p j h1 _ _ => by rw [(big p (by omega)).2]) (fun j _ => by rw [(big 105 (by omega)).2]) g⟩
theorem vz_K_f {s t : sx_S} (h : cx_F [(66, 67)] s t) (hf : rf_f [1] s t) : vz_K s t := fun _ => by
  have e0 := (h.same 0 rfl).1
  have big : ∀ p, p ≠ 66 → p ≠ 67 → t.1 p = s.1 p ∧ t.2.1 p = s.2.1 p := fun p h6 h7 => (h p).1 (fun q hq => by
    simp only [List.mem_cons, List.not_mem_nil, or_false] at hq
    rcases hq with rfl
    dsimp only
    omega)
  exact ⟨⟨by rw [e0], by rw [e0], hf 37 rfl⟩, fun p _ _ => big p (by omega) (by omega), fun _ b n l g => vk_LD_s (hf 9 rfl) (hf 45 rfl) (hf 47 rfl) (hf 75 rfl) (hf 76 rfl) (fun p h1 _ _ => (big p (by omega) (by omega)).2) (fun p j h1 _ _ => by rw [(big p (by omega) (by omega)).2]) (fun j _ => by rw [(big 105 (by omega) (by omega)).2]) g⟩
/-- the reference writes what it shows -/
theorem vz_K_p {s t : sx_S} (h : rf_BC s) (p : t = s ∨ (s.1 66 78 ≠ 0 ∧ rf_PP s t)) : vz_K s t := by
  rcases p with rfl | ⟨_, ⟨_, a2, _, _⟩, p2, p3⟩
  · exact vz_K_0 _
  · intro _
    have e0 := (p2.same 0 rfl).1
    refine ⟨⟨by rw [e0], by rw [e0], p3 37 rfl⟩, fun p h1 h2 => (p2 p).1 (fun q hq => by
      simp only [List.mem_cons, List.not_mem_nil, or_false] at hq
      rcases hq with rfl | rfl | rfl <;> (dsimp only; omega)), fun h37 b n l g => ?_⟩
    obtain ⟨_, _, _, _, _, ⟨m1, m2, _⟩, _⟩ := h.2.1 h37
    refine vk_LD_s (p3 9 rfl) (p3 45 rfl) (p3 47 rfl) (p3 75 rfl) (p3 76 rfl) (fun p h1 h2 h3 => ((p2 p).1 (fun q hq => by
      simp only [List.mem_cons, List.not_mem_nil, or_false] at hq
      rcases hq with rfl | rfl | rfl <;> (dsimp only; omega))).2) (fun p j h1 h2 h3 => ?_) (fun j hj => (a2.2 j).2.1 (by omega)) g
    obtain ⟨d1, d2, d3, d4, d5⟩ := (a2.2 j).1 (by omega)
    have : p = 100 ∨ p = 101 ∨ p = 102 ∨ p = 103 ∨ p = 104 := by omega
    rcases this with rfl | rfl | rfl | rfl | rfl
    · exact d1
    · exact d2
    · exact d3
    · exact d4
    · exact d5
theorem px_A5_an {bb : Nat → Int} {n z h c m e : Int} (g : px_A5 bb n z h c m e) : px_an bb n z ∧ (z = 0 → h = 1) ∧ (z ≠ 0 → h = 0) := by
  rcases g with ⟨g1, g2, g3⟩ | ⟨l, g1, ⟨g2, g3, g4, _⟩ | ⟨g2, g3, g4⟩⟩
  · exact ⟨Or.inl ⟨g1, g2⟩, fun q => by omega, fun _ => g3⟩
  · exact ⟨Or.inr ⟨l, g1, Or.inl ⟨g2, g3⟩⟩, fun _ => g4, fun q => absurd g2 q⟩
  · exact ⟨Or.inr ⟨l, g1, Or.inr ⟨g2, g3⟩⟩, fun q => by omega, fun _ => g4⟩
end
section
/-! ===== open unknowns as heads: values put in for them; two solutions each of which comes of the other ===== -/
/-- values put in for the open unknowns (heads below 0) -/
def wz_in (σ : Int → rf_N) : rf_N → Int → rf_N
  | .leaf, _ => .leaf
  | .inner _ q _ F X, L => if q.1 = 0 then rf_n 0 0 0 (wz_in σ F (L + 1)) (wz_in σ X L) else if q.1 = 1 ∧ q.2 < 0 then vx_sb (vx_re (vx_ix (dz_hs F) L) (σ (-1 - q.2))) (wz_in σ X L) else rf_n 0 q.1 q.2 (wz_in σ F L) (wz_in σ X L)
theorem wz_in_in (σ : Int → rf_N) (j : Nat) (q : Int × Int) (u : Unit) (F X : rf_N) (L : Int) : wz_in σ (.inner j q u F X) L = if q.1 = 0 then rf_n 0 0 0 (wz_in σ F (L + 1)) (wz_in σ X L) else if q.1 = 1 ∧ q.2 < 0 then vx_sb (vx_re (vx_ix (dz_hs F) L) (σ (-1 - q.2))) (wz_in σ X L) else rf_n 0 q.1 q.2 (wz_in σ F L) (wz_in σ X L) := rfl
/-- a row of variables -/
def wz_vr : rf_N → Prop
  | .leaf => True
  | .inner _ q _ F X => (q.1 = 2 ∧ F = .leaf) ∧ wz_vr X
/-- calls of open unknowns below n stand before variables alone, as many as they must -/
def wz_ok (n : Int) (ar : Int → Int) : rf_N → Prop
  | .leaf => True
  | .inner _ q _ F X => (if q.1 = 1 ∧ q.2 < 0 then wz_vr F ∧ ((dz_hs F).length : Int) = ar (-1 - q.2) ∧ -1 - q.2 < n else wz_ok n ar F) ∧ wz_ok n ar X ∧ (q.1 = 0 → vx_on F)
/-- no open unknown stands in it as a head; a \ has one part -/
def wz_nn : rf_N → Prop
  | .leaf => True
  | .inner _ q _ F X => (q.1 = 1 → 0 ≤ q.2) ∧ (q.1 ≠ 3 → wz_nn F) ∧ wz_nn X ∧ (q.1 = 0 → vx_sg F)
theorem wz_re_leaf {ρ : Int → Int} : ∀ {F : rf_N}, vx_re ρ F = .leaf ↔ F = .leaf
  | .leaf => ⟨fun _ => rfl, fun _ => rfl⟩
  | .inner _ _ _ _ _ => ⟨fun h => (by cases h), fun h => (by cases h)⟩
theorem wz_vr_re {ρ : Int → Int} : ∀ {F : rf_N}, wz_vr (vx_re ρ F) ↔ wz_vr F
  | .leaf => ⟨fun h => h, fun h => h⟩
  | .inner j q u F X => by
    have hX := wz_vr_re (ρ := ρ) (F := X)
    constructor
    · rintro ⟨⟨h1, h2⟩, h3⟩
      exact ⟨⟨h1, wz_re_leaf.mp h2⟩, hX.mp h3⟩
    · rintro ⟨⟨h1, h2⟩, h3⟩
      exact ⟨⟨h1, wz_re_leaf.mpr h2⟩, hX.mpr h3⟩
theorem wz_hs_re (ρ : Int → Int) : ∀ {F : rf_N}, wz_vr F → dz_hs (vx_re ρ F) = (dz_hs F).map ρ
  | .leaf, _ => rfl
  | .inner j q u F X, ⟨⟨h1, h2⟩, h3⟩ => by
    have e := wz_hs_re ρ h3
    show (if q.1 = 2 then ρ q.2 else q.2) :: dz_hs (vx_re ρ X) = ρ q.2 :: (dz_hs X).map ρ
    rw [if_pos h1, e]
theorem wz_ok_in {n : Int} {ar : Int → Int} {j : Nat} {q : Int × Int} {u : Unit} {F X : rf_N} : wz_ok n ar (.inner j q u F X) ↔ (if q.1 = 1 ∧ q.2 < 0 then wz_vr F ∧ ((dz_hs F).length : Int) = ar (-1 - q.2) ∧ -1 - q.2 < n else wz_ok n ar F) ∧ wz_ok n ar X ∧ (q.1 = 0 → vx_on F) := Iff.rfl
theorem wz_ok_re {n : Int} {ar : Int → Int} (ρ : Int → Int) : ∀ {A : rf_N}, wz_ok n ar A → wz_ok n ar (vx_re ρ A)
  | .leaf, _ => trivial
  | .inner j q u F X, h => by
    obtain ⟨h1, h2, h3⟩ := wz_ok_in.mp h
    rw [vx_re_in, wz_ok_in]
    dsimp only
    refine ⟨?_, wz_ok_re ρ h2, fun z => vx_re_on (h3 z)⟩
    by_cases c : q.1 = 1 ∧ q.2 < 0
    · have e : (if q.1 = 2 then ρ q.2 else q.2) = q.2 := if_neg (by omega)
      rw [e, if_pos c]
      rw [if_pos c] at h1
      exact ⟨wz_vr_re.mpr h1.1, by rw [wz_hs_re ρ h1.1, List.length_map]; exact h1.2.1, h1.2.2⟩
    · rw [if_neg c] at h1
      have e : ¬ (q.1 = 1 ∧ (if q.1 = 2 then ρ q.2 else q.2) < 0) := fun d => by
        obtain ⟨d1, d2⟩ := d
        rw [if_neg (by omega)] at d2
        exact c ⟨d1, d2⟩
      rw [if_neg e]
      exact wz_ok_re ρ h1
theorem wz_in_sb {σ : Int → rf_N} (hσ : ∀ m, vx_on (σ m)) {X a : rf_N} {L : Int} (ha : vx_on a) : wz_in σ (vx_sb a X) L = vx_sb (wz_in σ a L) (wz_in σ X L) := by
  obtain ⟨k, h, F, rfl⟩ := ha
  show wz_in σ (.inner 0 (k, h) () F X) L = vx_sb (wz_in σ (.inner 0 (k, h) () F .leaf) L) (wz_in σ X L)
  rw [wz_in_in, wz_in_in]
  dsimp only
  by_cases h0 : k = 0
  · rw [if_pos h0, if_pos h0]
    rfl
  · rw [if_neg h0, if_neg h0]
    by_cases h1 : k = 1 ∧ h < 0
    · rw [if_pos h1, if_pos h1]
      have e : wz_in σ .leaf L = .leaf := rfl
      rw [e, vx_sb_leaf (vx_re_on (hσ _))]
    · rw [if_neg h1, if_neg h1]
      rfl
theorem wz_in_re {σ : Int → rf_N} (hg : vx_gd σ) {n : Int} {ar : Int → Int} {ρ : Int → Int} : ∀ {A : rf_N} {L L' : Int}, wz_ok n ar A → (∀ i : Int, 0 ≤ i → ρ (L + i) = L' + i) → wz_in σ (vx_re ρ A) L' = vx_re ρ (wz_in σ A L)
  | .leaf, _, _, _, _ => rfl
  | .inner j q u F X, L, L', h, hL => by
    obtain ⟨h1, h2, _⟩ := wz_ok_in.mp h
    have hX := wz_in_re hg (n := n) (ar := ar) (ρ := ρ) (A := X) h2 hL
    rw [vx_re_in, wz_in_in, wz_in_in]
    dsimp only
    by_cases h0 : q.1 = 0
    · rw [if_pos h0, if_pos h0]
      rw [if_neg (by omega)] at h1
      have hF := wz_in_re hg (n := n) (ar := ar) (ρ := ρ) (A := F) (L := L + 1) (L' := L' + 1) h1 (fun i hi => by
        have := hL (1 + i) (by omega)
        rw [show L + 1 + i = L + (1 + i) by omega, this]
        omega)
      rw [hF, hX]
      rfl
    · rw [if_neg h0, if_neg h0]
      by_cases hh : q.1 = 1 ∧ q.2 < 0
      · rw [if_pos hh] at h1
        have e : (if q.1 = 2 then ρ q.2 else q.2) = q.2 := if_neg (by omega)
        rw [e, if_pos hh, if_pos hh, vx_re_sb, vx_re_re, hX, wz_hs_re ρ h1.1]
        have : vx_re (fun v => ρ (vx_ix (dz_hs F) L v)) (σ (-1 - q.2)) = vx_re (vx_ix ((dz_hs F).map ρ) L') (σ (-1 - q.2)) := vx_re_eq.mpr (fun v hv => vx_ix_re hL ((hg _).2 v hv))
        rw [this]
      · have e : ¬ (q.1 = 1 ∧ (if q.1 = 2 then ρ q.2 else q.2) < 0) := fun d => by
          obtain ⟨d1, d2⟩ := d
          rw [if_neg (by omega)] at d2
          exact hh ⟨d1, d2⟩
        rw [if_neg hh] at h1
        have hF := wz_in_re hg (n := n) (ar := ar) (ρ := ρ) (A := F) h1 hL
        rw [if_neg e, if_neg hh, hF, hX]
        rfl
theorem wz_ok_F {ar : Int → Int} {AR : Nat → List Int} {j : Nat} {q : Int × Int} {u : Unit} {F X : rf_N} (h : vx_ok ar AR (.inner j q u F X)) (h3 : q.1 ≠ 3) : vx_ok ar AR F := by
  rcases h.1 with ⟨_, o⟩ | ⟨o, _⟩
  · exact o
  · exact absurd o h3
/-- putting in and taking values: one after the other -/
theorem wz_in_val {σ th th' : Int → rf_N} {ar : Int → Int} {n : Int} {ar0 : Int → Int} {AR : Nat → List Int} (hg : vx_gd σ) (h' : ∀ m, vx_on (th' m)) : ∀ {A : rf_N} {e : Int → Int} {L : Int}, wz_nn A → vx_ok ar AR A → (∀ m, vx_mt m A → wz_ok n ar0 (th' m) ∧ th m = wz_in σ (th' m) (ar m)) → wz_in σ (vx_val th' AR A e L) L = vx_val th AR A e L
  | .leaf, _, _, _, _, _ => rfl
  | .inner j q u F X, e, L, ⟨n1, n2, n3, n4⟩, o, hm => by
    have hX := wz_in_val hg h' (e := e) (L := L) n3 o.2 (fun m h => hm m (Or.inr (Or.inr h)))
    rw [vx_val_in, vx_val_in]
    by_cases h0 : q.1 = 0
    · have hF := wz_in_val hg h' (e := vx_up e q.2 L) (L := L + 1) (n2 (by omega)) (wz_ok_F o (by omega)) (fun m h => hm m (Or.inr (Or.inl ⟨by omega, h⟩)))
      rw [if_pos h0, if_pos h0, wz_in_in]
      dsimp only
      rw [if_pos rfl, hF, hX]
    · rw [if_neg h0, if_neg h0]
      by_cases h3 : q.1 = 3
      · obtain ⟨k1, k2⟩ := hm q.2 (Or.inl ⟨h3, rfl⟩)
        have hl : ((AR j).length : Int) = ar q.2 := by
          rcases o.1 with ⟨z, _⟩ | ⟨_, z⟩
          · omega
          · exact z
        rw [if_pos h3, if_pos h3, wz_in_sb (fun m => (hg m).1) (vx_re_on (h' _)), hX, wz_in_re hg (n := n) (ar := ar0) (ρ := vx_ix ((AR j).map e) L) (L := ar q.2) k1 (fun i hi => by
          have := vx_ix_hi (xs := (AR j).map e) (L := L) hi
          rw [List.length_map, hl] at this
          exact this), ← k2]
      · have hF := wz_in_val hg h' (e := e) (L := L) (n2 h3) (wz_ok_F o h3) (fun m h => hm m (Or.inr (Or.inl ⟨h3, h⟩)))
        rw [if_neg h3, if_neg h3, wz_in_in]
        dsimp only
        rw [if_neg h0, if_neg (fun c => by
          obtain ⟨c1, c2⟩ := c
          rw [if_neg (by omega)] at c2
          have := n1 c1
          omega), hF, hX]
theorem wz_ok_sb {n : Int} {ar : Int → Int} {a X : rf_N} (ha : vx_on a) : wz_ok n ar (vx_sb a X) ↔ wz_ok n ar a ∧ wz_ok n ar X := by
  obtain ⟨k, h, F, rfl⟩ := ha
  exact ⟨fun z => ⟨⟨z.1, trivial, z.2.2⟩, z.2.1⟩, fun z => ⟨z.1.1, z.2, z.1.2.2⟩⟩
theorem wz_ok_val {th : Int → rf_N} {n : Int} {ar : Int → Int} {AR : Nat → List Int} (hon : ∀ m, vx_on (th m)) : ∀ {A : rf_N} {e : Int → Int} {L : Int}, wz_nn A → (∀ m, vx_mt m A → wz_ok n ar (th m)) → wz_ok n ar (vx_val th AR A e L)
  | .leaf, _, _, _, _ => trivial
  | .inner j q u F X, e, L, ⟨n1, n2, n3, n4⟩, hm => by
    have hX := wz_ok_val hon (AR := AR) (e := e) (L := L) n3 (fun m h => hm m (Or.inr (Or.inr h)))
    rw [vx_val_in]
    by_cases h0 : q.1 = 0
    · have hF := wz_ok_val hon (AR := AR) (e := vx_up e q.2 L) (L := L + 1) (n2 (by omega)) (fun m h => hm m (Or.inr (Or.inl ⟨by omega, h⟩)))
      rw [if_pos h0, wz_ok_in]
      dsimp only
      rw [if_neg (by omega)]
      refine ⟨hF, hX, fun _ => ?_⟩
      obtain ⟨s1, s2⟩ := vx_sg_1 (n4 h0)
      have := vx_val_on (AR := AR) (e := vx_up e q.2 L) (L := L + 1) hon s1
      rw [s2] at this
      exact this
    · rw [if_neg h0]
      by_cases h3 : q.1 = 3
      · rw [if_pos h3, wz_ok_sb (vx_re_on (hon _))]
        exact ⟨wz_ok_re _ (hm q.2 (Or.inl ⟨h3, rfl⟩)), hX⟩
      · have hF := wz_ok_val hon (AR := AR) (e := e) (L := L) (n2 h3) (fun m h => hm m (Or.inr (Or.inl ⟨h3, h⟩)))
        rw [if_neg h3, wz_ok_in]
        dsimp only
        rw [if_neg (fun c => by
          obtain ⟨c1, c2⟩ := c
          rw [if_neg (by omega)] at c2
          have := n1 c1
          omega)]
        exact ⟨hF, hX, fun z => absurd z h0⟩
theorem wz_vs : ∀ (n : Nat) (i : Int), wz_vr (vx_vs n i) ∧ (dz_hs (vx_vs n i)).length = n ∧ ∀ k : Nat, k < n → (dz_hs (vx_vs n i))[k]? = some (i + (k : Int))
  | 0, _ => ⟨trivial, rfl, fun k h => absurd h (Nat.not_lt_zero _)⟩
  | n + 1, i => by
    obtain ⟨a, b, c⟩ := wz_vs n (i + 1)
    have e : dz_hs (vx_vs (n + 1) i) = i :: dz_hs (vx_vs n (i + 1)) := rfl
    refine ⟨⟨⟨rfl, rfl⟩, a⟩, by rw [e, List.length_cons, b], fun k hk => ?_⟩
    rw [e]
    cases k with
    | zero =>
      rw [List.getElem?_cons_zero]
      exact congrArg some (by omega)
    | succ k =>
      rw [List.getElem?_cons_succ, c k (by omega)]
      exact congrArg some (by omega)
theorem wz_ix_id {xs : List Int} {a v : Int} (hl : (xs.length : Int) = a) (hx : ∀ k : Nat, k < xs.length → xs[k]? = some (k : Int)) (hv : 0 ≤ v) : vx_ix xs a v = v := by
  unfold vx_ix
  by_cases c : v < (xs.length : Int)
  · rw [if_pos c, vx_getD (hx v.toNat (by omega))]
    omega
  · rw [if_neg c]
    omega
theorem wz_gn_ok {n : Int} {ar : Int → Int} {u : Int} (h0 : 0 ≤ u) (h1 : u < n) (ha : 0 ≤ ar u) : wz_ok n ar (vx_gn ar u) := by
  obtain ⟨a, b, _⟩ := wz_vs (ar u).toNat 0
  show wz_ok n ar (.inner 0 (1, -1 - u) () (vx_vs (ar u).toNat 0) .leaf)
  rw [wz_ok_in]
  dsimp only
  rw [if_pos ⟨rfl, by omega⟩]
  have e : -1 - (-1 - u) = u := by omega
  rw [e, b]
  exact ⟨⟨a, by omega, h1⟩, trivial, fun z => absurd z (by decide)⟩
theorem wz_in_gn {σ : Int → rf_N} (hg : vx_gd σ) {ar : Int → Int} {u : Int} (h0 : 0 ≤ u) (ha : 0 ≤ ar u) (hs : vx_sc (σ u) (ar u)) : wz_in σ (vx_gn ar u) (ar u) = σ u := by
  obtain ⟨_, b, c⟩ := wz_vs (ar u).toNat 0
  show wz_in σ (.inner 0 (1, -1 - u) () (vx_vs (ar u).toNat 0) .leaf) (ar u) = σ u
  rw [wz_in_in]
  dsimp only
  rw [if_neg (by decide), if_pos ⟨rfl, by omega⟩]
  have e : -1 - (-1 - u) = u := by omega
  have e1 : wz_in σ .leaf (ar u) = .leaf := rfl
  rw [e, e1, vx_sb_leaf (vx_re_on (hg u).1)]
  refine vx_re_id hs (fun v hv => wz_ix_id (by omega) (fun k hk => ?_) ((hg u).2 v hv))
  rw [c k (by omega)]
  exact congrArg some (by omega)
/-- every solution comes of the most general one -/
theorem wz_sol {S : vx_S} {th th' : Int → rf_N} {rk : Int → Nat} (hr : vx_rk S rk) (hW : vx_W S) (hB : vx_B1 S) (hS' : vx_So S th') (ho : ∀ u, S.2.2.2.1 u = none → th' u = vx_gn S.2.2.1 u) (hn : ∀ u B e, S.2.2.2.1 u = some (B, e) → wz_nn B) (hS : vx_So S th) : ∀ u, 0 ≤ u → u < S.1 → wz_ok S.1 S.2.2.1 (th' u) ∧ th u = wz_in th (th' u) (S.2.2.1 u) := by
  have main : ∀ k u, rk u < k → 0 ≤ u → u < S.1 → wz_ok S.1 S.2.2.1 (th' u) ∧ th u = wz_in th (th' u) (S.2.2.1 u) := by
    intro k
    induction k with
    | zero => exact fun u h => absurd h (Nat.not_lt_zero _)
    | succ k ih =>
      intro u hk u0 u1
      cases hb : S.2.2.2.1 u with
      | none =>
        rw [ho u hb]
        exact ⟨wz_gn_ok u0 u1 (hB.2 u), (wz_in_gn hS.1 u0 (hB.2 u) (hS.2.1 u u0 u1)).symm⟩
      | some p =>
        obtain ⟨B, e⟩ := p
        obtain ⟨_, w3, _⟩ := hW u B e hb
        have hm : ∀ m, vx_mt m B → wz_ok S.1 S.2.2.1 (th' m) ∧ th m = wz_in th (th' m) (S.2.2.1 m) := fun m hm => ih m (by have := hr u B e m hb hm; omega) (w3.1 m hm).1 (w3.1 m hm).2
        rw [hS'.2.2 u B e hb]
        refine ⟨wz_ok_val (fun m => (hS'.1 m).1) (hn u B e hb) (fun m h => (hm m h).1), ?_⟩
        rw [wz_in_val hS.1 (fun m => (hS'.1 m).1) (hn u B e hb) w3.2.2 hm]
        exact hS.2.2 u B e hb
  exact fun u => main (rk u + 1) u (by omega)
def wz_hd : rf_N → Int
  | .leaf => 0
  | .inner _ q _ _ _ => q.2
def wz_q : rf_N → Int × Int
  | .leaf => (0, 0)
  | .inner _ q _ _ _ => q
def wz_F : rf_N → rf_N
  | .leaf => .leaf
  | .inner _ _ _ F _ => F
/-- alike but for the numbers of the open unknowns and the order of their ARGs -/
def wz_rl (π π' : Int → Int) (I J : Int → List Int) : rf_N → rf_N → Prop
  | .leaf, .leaf => True
  | .inner _ q _ F X, .inner _ q' _ F' X' => (if q.1 = 1 ∧ q.2 < 0 then (q'.1 = 1 ∧ q'.2 < 0) ∧ (q'.2 = π q.2 ∧ q.2 = π' q'.2) ∧ dz_hs F' = (I q.2).map (fun i => (dz_hs F).getD i.toNat (-1)) ∧ dz_hs F = (J q'.2).map (fun i => (dz_hs F').getD i.toNat (-1)) else q' = q ∧ wz_rl π π' I J F F') ∧ wz_rl π π' I J X X'
  | _, _ => False
theorem wz_rl_in {π π' : Int → Int} {I J : Int → List Int} {j j' : Nat} {q q' : Int × Int} {u u' : Unit} {F X F' X' : rf_N} : wz_rl π π' I J (.inner j q u F X) (.inner j' q' u' F' X') ↔ (if q.1 = 1 ∧ q.2 < 0 then (q'.1 = 1 ∧ q'.2 < 0) ∧ (q'.2 = π q.2 ∧ q.2 = π' q'.2) ∧ dz_hs F' = (I q.2).map (fun i => (dz_hs F).getD i.toNat (-1)) ∧ dz_hs F = (J q'.2).map (fun i => (dz_hs F').getD i.toNat (-1)) else q' = q ∧ wz_rl π π' I J F F') ∧ wz_rl π π' I J X X' := Iff.rfl
/-- the variables of a row that is scoped -/
theorem wz_vr_sc {b : Int} : ∀ {F : rf_N}, wz_vr F → vx_sc F b → ∀ i ∈ dz_hs F, 0 ≤ i ∧ i < b
  | .leaf, _, _, i, h => absurd h List.not_mem_nil
  | .inner j q u F X, ⟨⟨h1, _⟩, h3⟩, ⟨_, hs, hX⟩, i, h => by
    rcases List.mem_cons.mp h with rfl | h
    · rcases hs with ⟨z, _⟩ | ⟨z | ⟨_, z⟩, _⟩
      · omega
      · omega
      · exact z
    · exact wz_vr_sc h3 hX i h
theorem wz_row {xs is : List Int} {L b : Int} (hl : (xs.length : Int) = b) (h : ∀ i ∈ is, 0 ≤ i ∧ i < b) : is.map (vx_ix xs L) = is.map (fun i => xs.getD i.toNat (-1)) := List.map_congr_left (fun i hi => by
  unfold vx_ix
  rw [if_pos (by have := h i hi; omega)])
theorem wz_n_in {j j' : Nat} {q q' : Int × Int} {F X F' X' : rf_N} (e : (.inner j q () F X : rf_N) = .inner j' q' () F' X') : j = j' ∧ q = q' ∧ F = F' ∧ X = X' := by
  injection e with e1 e2 e5 e3 e4
  exact ⟨e1, e2, e3, e4⟩
/-- each comes of the other: then they are alike -/
theorem wz_mut {σ τ : Int → rf_N} (gσ : vx_gd σ) (gτ : vx_gd τ) {n n' : Int} {ar ar' : Int → Int} (sσ : ∀ m, 0 ≤ m → m < n → vx_sc (σ m) (ar m)) (sτ : ∀ m, 0 ≤ m → m < n' → vx_sc (τ m) (ar' m)) : ∀ {A : rf_N} {L : Int}, wz_ok n ar A → wz_ok n' ar' (wz_in σ A L) → wz_in τ (wz_in σ A L) L = A → wz_rl (fun h => wz_hd (σ (-1 - h))) (fun h => wz_hd (τ (-1 - h))) (fun h => dz_hs (wz_F (σ (-1 - h)))) (fun h => dz_hs (wz_F (τ (-1 - h)))) A (wz_in σ A L)
  | .leaf, _, _, _, _ => trivial
  | .inner j q u F X, L, hA, hB, hE => by
    obtain ⟨a1, a2, _⟩ := wz_ok_in.mp hA
    by_cases h0 : q.1 = 0
    · have e1 : wz_in σ (.inner j q u F X) L = rf_n 0 0 0 (wz_in σ F (L + 1)) (wz_in σ X L) := by rw [wz_in_in, if_pos h0]
      rw [e1] at hB hE ⊢
      have e2 : wz_in τ (rf_n 0 0 0 (wz_in σ F (L + 1)) (wz_in σ X L)) L = rf_n 0 0 0 (wz_in τ (wz_in σ F (L + 1)) (L + 1)) (wz_in τ (wz_in σ X L) L) := rfl
      rw [e2] at hE
      obtain ⟨_, e4, e5, e6⟩ := wz_n_in hE
      have b1 : wz_ok n' ar' (wz_in σ F (L + 1)) ∧ wz_ok n' ar' (wz_in σ X L) := ⟨hB.1, hB.2.1⟩
      rw [if_neg (by omega)] at a1
      rw [wz_rl_in, if_neg (by omega)]
      exact ⟨⟨e4, wz_mut gσ gτ sσ sτ a1 b1.1 e5⟩, wz_mut gσ gτ sσ sτ a2 b1.2 e6⟩
    · by_cases h1 : q.1 = 1 ∧ q.2 < 0
      · obtain ⟨k, h', G, hσ⟩ := (gσ (-1 - q.2)).1
        rw [if_pos h1] at a1
        obtain ⟨a3, a4, a5⟩ := a1
        have e1 : wz_in σ (.inner j q u F X) L = rf_n 0 k (if k = 2 then vx_ix (dz_hs F) L h' else h') (vx_re (vx_ix (dz_hs F) L) G) (wz_in σ X L) := by
          rw [wz_in_in, if_neg h0, if_pos h1, hσ]
          rfl
        rw [e1] at hB hE ⊢
        obtain ⟨b1, b2, _⟩ := wz_ok_in.mp hB
        rw [wz_in_in] at hE
        dsimp only at b1 b2 hE
        by_cases k0 : k = 0
        · rw [if_pos k0] at hE
          obtain ⟨_, e4, _⟩ := wz_n_in hE
          rw [← e4] at h0
          exact absurd rfl h0
        · rw [if_neg k0] at hE
          by_cases k1 : k = 1 ∧ h' < 0
          · have eh : (if k = 2 then vx_ix (dz_hs F) L h' else h') = h' := if_neg (by omega)
            rw [eh, if_pos k1] at b1 hE
            rw [eh]
            obtain ⟨k2, h2, G2, hτ⟩ := (gτ (-1 - h')).1
            obtain ⟨b3, b4, b5⟩ := b1
            have vG := wz_vr_re.mp b3
            rw [hτ] at hE
            obtain ⟨_, e4, e5, e6⟩ := wz_n_in (j := 0) (q := (k2, if k2 = 2 then vx_ix (dz_hs (vx_re (vx_ix (dz_hs F) L) G)) L h2 else h2)) (F := vx_re (vx_ix (dz_hs (vx_re (vx_ix (dz_hs F) L) G)) L) G2) (X := wz_in τ (wz_in σ X L) L) hE
            have ek : k2 = q.1 := by rw [← e4]
            have eq2 : h2 = q.2 := by
              rw [← e4]
              show h2 = if k2 = 2 then _ else h2
              rw [if_neg (by omega)]
            have vG2 : wz_vr G2 := by
              rw [← e5] at a3
              exact wz_vr_re.mp a3
            have s1 : vx_sc G (ar (-1 - q.2)) := by
              have := sσ (-1 - q.2) (by omega) a5
              rw [hσ] at this
              obtain ⟨_, z, _⟩ := this
              rcases z with ⟨z, _⟩ | ⟨_, z⟩
              · exact absurd z k0
              · exact z
            have s2 : vx_sc G2 (ar' (-1 - h')) := by
              have := sτ (-1 - h') (by omega) b5
              rw [hτ] at this
              obtain ⟨_, z, _⟩ := this
              rcases z with ⟨z, _⟩ | ⟨_, z⟩
              · have z' : k2 = 0 := z
                omega
              · exact z
            rw [wz_rl_in, if_pos h1]
            refine ⟨⟨⟨k1.1, k1.2⟩, ⟨?_, ?_⟩, ?_, ?_⟩, wz_mut gσ gτ sσ sτ a2 b2 e6⟩
            · show h' = wz_hd (σ (-1 - q.2))
              rw [hσ]
              rfl
            · show q.2 = wz_hd (τ (-1 - h'))
              rw [hτ, ← eq2]
              rfl
            · show dz_hs (vx_re (vx_ix (dz_hs F) L) G) = (dz_hs (wz_F (σ (-1 - q.2)))).map (fun i => (dz_hs F).getD i.toNat (-1))
              rw [wz_hs_re _ vG, hσ]
              exact wz_row a4 (wz_vr_sc vG s1)
            · show dz_hs F = (dz_hs (wz_F (τ (-1 - h')))).map (fun i => (dz_hs (vx_re (vx_ix (dz_hs F) L) G)).getD i.toNat (-1))
              have e7 : dz_hs F = dz_hs (vx_re (vx_ix (dz_hs (vx_re (vx_ix (dz_hs F) L) G)) L) G2) := by rw [e5]
              rw [hτ]
              refine e7.trans ?_
              rw [wz_hs_re _ vG2]
              exact wz_row b4 (wz_vr_sc vG2 s2)
          · have c1 : ¬ (k = 1 ∧ (if k = 2 then vx_ix (dz_hs F) L h' else h') < 0) := fun d => by
              obtain ⟨d1, d2⟩ := d
              rw [if_neg (by omega)] at d2
              exact k1 ⟨d1, d2⟩
            rw [if_neg c1] at hE
            obtain ⟨_, e4, _⟩ := wz_n_in hE
            rw [← e4] at h1
            exact absurd h1 c1
      · have e1 : wz_in σ (.inner j q u F X) L = rf_n 0 q.1 q.2 (wz_in σ F L) (wz_in σ X L) := by rw [wz_in_in, if_neg h0, if_neg h1]
        rw [e1] at hB hE ⊢
        obtain ⟨b1, b2, _⟩ := wz_ok_in.mp hB
        rw [wz_in_in] at hE
        dsimp only at b1 b2 hE
        rw [if_neg h0, if_neg h1] at hE
        obtain ⟨_, e4, e5, e6⟩ := wz_n_in hE
        rw [if_neg h1] at a1 b1
        rw [wz_rl_in, if_neg h1]
        exact ⟨⟨e4, wz_mut gσ gτ sσ sτ a1 b1 e5⟩, wz_mut gσ gτ sσ sτ a2 b2 e6⟩
/-- the open unknowns, with their ARGs, in the order in which they are met -/
def wz_ad (a : List (Int × List Int)) (h : Int) (xs : List Int) : List (Int × List Int) := if h ∈ a.map Prod.fst then a else a ++ [(h, xs)]
def wz_go : rf_N → List (Int × List Int) → List (Int × List Int)
  | .leaf, a => a
  | .inner _ q _ F X, a => wz_go X (if q.1 = 1 ∧ q.2 < 0 then wz_ad a q.2 (dz_hs F) else wz_go F a)
theorem wz_go_in (j : Nat) (q : Int × Int) (u : Unit) (F X : rf_N) (a : List (Int × List Int)) : wz_go (.inner j q u F X) a = wz_go X (if q.1 = 1 ∧ q.2 < 0 then wz_ad a q.2 (dz_hs F) else wz_go F a) := rfl
/-- it is met -/
def wz_oc (h : Int) : rf_N → Prop
  | .leaf => False
  | .inner _ q _ F X => (if q.1 = 1 ∧ q.2 < 0 then q.2 = h else wz_oc h F) ∨ wz_oc h X
theorem wz_oc_in {h : Int} {j : Nat} {q : Int × Int} {u : Unit} {F X : rf_N} : wz_oc h (.inner j q u F X) ↔ (if q.1 = 1 ∧ q.2 < 0 then q.2 = h else wz_oc h F) ∨ wz_oc h X := Iff.rfl
theorem wz_ad_mem {a : List (Int × List Int)} {h x : Int} {xs : List Int} : x ∈ (wz_ad a h xs).map Prod.fst ↔ x ∈ a.map Prod.fst ∨ h = x := by
  unfold wz_ad
  by_cases c : h ∈ a.map Prod.fst
  · rw [if_pos c]
    exact ⟨fun z => Or.inl z, fun z => z.elim id (fun z => z ▸ c)⟩
  · rw [if_neg c, List.map_append, List.mem_append]
    refine ⟨fun z => z.imp id (fun z => ?_), fun z => z.imp id (fun z => ?_)⟩
    · exact (List.mem_singleton.mp z).symm
    · exact List.mem_singleton.mpr z.symm
theorem wz_go_mem {x : Int} : ∀ {A : rf_N} {a : List (Int × List Int)}, x ∈ (wz_go A a).map Prod.fst ↔ x ∈ a.map Prod.fst ∨ wz_oc x A
  | .leaf, a => ⟨fun h => Or.inl h, fun h => h.elim id (fun z => z.elim)⟩
  | .inner j q u F X, a => by
    rw [wz_go_in, wz_go_mem (A := X), wz_oc_in]
    by_cases c : q.1 = 1 ∧ q.2 < 0
    · rw [if_pos c, if_pos c, wz_ad_mem, or_assoc]
    · rw [if_neg c, if_neg c, wz_go_mem (A := F), or_assoc]
theorem wz_go_sub : ∀ {A : rf_N} {a : List (Int × List Int)}, (∀ x, wz_oc x A → x ∈ a.map Prod.fst) → wz_go A a = a
  | .leaf, _, _ => rfl
  | .inner j q u F X, a, h => by
    rw [wz_go_in]
    have hX := wz_go_sub (A := X) (a := a) (fun x hx => h x (wz_oc_in.mpr (Or.inr hx)))
    by_cases c : q.1 = 1 ∧ q.2 < 0
    · rw [if_pos c]
      unfold wz_ad
      rw [if_pos (h q.2 (wz_oc_in.mpr (Or.inl (by rw [if_pos c])))), hX]
    · rw [if_neg c, wz_go_sub (A := F) (a := a) (fun x hx => h x (wz_oc_in.mpr (Or.inl (by rw [if_neg c]; exact hx)))), hX]
theorem wz_oc_re {ρ : Int → Int} {x : Int} : ∀ {A : rf_N}, wz_oc x (vx_re ρ A) ↔ wz_oc x A
  | .leaf => Iff.rfl
  | .inner j q u F X => by
    rw [vx_re_in, wz_oc_in, wz_oc_in, wz_oc_re (A := X)]
    dsimp only
    by_cases c : q.1 = 1 ∧ q.2 < 0
    · have e : (if q.1 = 2 then ρ q.2 else q.2) = q.2 := if_neg (by omega)
      rw [e, if_pos c, if_pos c]
    · have e : ¬ (q.1 = 1 ∧ (if q.1 = 2 then ρ q.2 else q.2) < 0) := fun d => by
        obtain ⟨d1, d2⟩ := d
        rw [if_neg (by omega)] at d2
        exact c ⟨d1, d2⟩
      rw [if_neg e, if_neg c, wz_oc_re (A := F)]
/-- two lists, one by one -/
def wz_Rl (P : Int × List Int → Int × List Int → Prop) : List (Int × List Int) → List (Int × List Int) → Prop
  | [], [] => True
  | p :: a, r :: b => P p r ∧ wz_Rl P a b
  | _, _ => False
theorem wz_Rl_app {P : Int × List Int → Int × List Int → Prop} {p r : Int × List Int} (hp : P p r) : ∀ {a b : List (Int × List Int)}, wz_Rl P a b → wz_Rl P (a ++ [p]) (b ++ [r])
  | [], [], _ => ⟨hp, trivial⟩
  | _ :: _, _ :: _, h => ⟨h.1, wz_Rl_app hp h.2⟩
  | [], _ :: _, h => h.elim
  | _ :: _, [], h => h.elim
theorem wz_Rl_get {P : Int × List Int → Int × List Int → Prop} : ∀ {a b : List (Int × List Int)} {i : Nat} {p : Int × List Int}, wz_Rl P a b → a[i]? = some p → ∃ r, b[i]? = some r ∧ P p r
  | [], [], _, _, _, h => by simp at h
  | p :: a, r :: b, 0, p', hR, h => by
    rw [List.getElem?_cons_zero] at h
    cases h
    exact ⟨r, rfl, hR.1⟩
  | p :: a, r :: b, i + 1, p', hR, h => by
    rw [List.getElem?_cons_succ] at h
    obtain ⟨r', h1, h2⟩ := wz_Rl_get hR.2 h
    exact ⟨r', by rw [List.getElem?_cons_succ]; exact h1, h2⟩
  | [], _ :: _, _, _, h, _ => h.elim
  | _ :: _, [], _, _, h, _ => h.elim
/-- the same open unknown on both sides -/
def wz_P (π π' : Int → Int) (I J : Int → List Int) (p r : Int × List Int) : Prop := (r.1 = π p.1 ∧ p.1 = π' r.1) ∧ r.2 = (I p.1).map (fun i => p.2.getD i.toNat (-1)) ∧ p.2 = (J r.1).map (fun i => r.2.getD i.toNat (-1))
theorem wz_Rl_mem {π π' : Int → Int} {I J : Int → List Int} {h h' : Int} (e : h' = π h) (e' : h = π' h') : ∀ {a b : List (Int × List Int)}, wz_Rl (wz_P π π' I J) a b → (h ∈ a.map Prod.fst ↔ h' ∈ b.map Prod.fst)
  | [], [], _ => ⟨fun z => absurd z List.not_mem_nil, fun z => absurd z List.not_mem_nil⟩
  | p :: a, r :: b, hR => by
    have ih := wz_Rl_mem e e' hR.2
    obtain ⟨⟨e1, e2⟩, _⟩ := hR.1
    rw [List.map_cons, List.map_cons, List.mem_cons, List.mem_cons, ih]
    refine ⟨fun z => z.imp (fun z => ?_) id, fun z => z.imp (fun z => ?_) id⟩
    · rw [e, z, e1]
    · rw [e', z, e2]
  | [], _ :: _, h => h.elim
  | _ :: _, [], h => h.elim
theorem wz_go_rl {π π' : Int → Int} {I J : Int → List Int} : ∀ {A B : rf_N} {a b : List (Int × List Int)}, wz_rl π π' I J A B → wz_Rl (wz_P π π' I J) a b → wz_Rl (wz_P π π' I J) (wz_go A a) (wz_go B b)
  | .leaf, .leaf, _, _, _, h => h
  | .inner j q u F X, .inner j' q' u' F' X', a, b, hR, h => by
    obtain ⟨h1, h2⟩ := wz_rl_in.mp hR
    rw [wz_go_in, wz_go_in]
    refine wz_go_rl h2 ?_
    by_cases c : q.1 = 1 ∧ q.2 < 0
    · rw [if_pos c] at h1
      obtain ⟨c', ⟨e1, e2⟩, e3, e4⟩ := h1
      rw [if_pos c, if_pos c']
      unfold wz_ad
      have hm := wz_Rl_mem e1 e2 h
      by_cases d : q.2 ∈ a.map Prod.fst
      · rw [if_pos d, if_pos (hm.mp d)]
        exact h
      · rw [if_neg d, if_neg (fun z => d (hm.mpr z))]
        exact wz_Rl_app ⟨⟨e1, e2⟩, e3, e4⟩ h
    · rw [if_neg c] at h1
      obtain ⟨e1, e2⟩ := h1
      rw [if_neg c, if_neg (by rw [e1]; exact c)]
      exact wz_go_rl e2 h
  | .leaf, .inner _ _ _ _ _, _, _, h, _ => h.elim
  | .inner _ _ _ _ _, .leaf, _, _, h, _ => h.elim
/-- two most general solutions of one set of equations -/
def wz_MG (S : vx_S) (n0 : Int) (Q : (Int → rf_N) → Prop) (th : Int → rf_N) : Prop := True → (vx_W S ∧ vx_B1 S ∧ ∃ rk, vx_rk S rk) ∧ (∀ u B e, S.2.2.2.1 u = some (B, e) → wz_nn B) ∧ (vx_So S th ∧ ∀ u, S.2.2.2.1 u = none → th u = vx_gn S.2.2.1 u) ∧ (∀ th', vx_So S th' → Q th') ∧ n0 ≤ S.1 ∧ ∀ th0, vx_gd th0 → (∀ u, 0 ≤ u → u < n0 → vx_sc (th0 u) (S.2.2.1 u)) → Q th0 → ∃ th', vx_So S th' ∧ vx_ag n0 th0 th'
/-- all of them, as they are met in the values of the first n unknowns -/
def wz_al (th : Int → rf_N) : Nat → List (Int × List Int)
  | 0 => []
  | n + 1 => wz_go (th (n : Int)) (wz_al th n)
theorem wz_al_rl {π π' : Int → Int} {I J : Int → List Int} {th th' : Int → rf_N} : ∀ {n : Nat}, (∀ u : Int, 0 ≤ u → u < (n : Int) → wz_rl π π' I J (th u) (th' u)) → wz_Rl (wz_P π π' I J) (wz_al th n) (wz_al th' n)
  | 0, _ => trivial
  | n + 1, h => wz_go_rl (h (n : Int) (by omega) (by omega)) (wz_al_rl (fun u u0 u1 => h u u0 (by omega)))
theorem wz_al_mem {th : Int → rf_N} {x : Int} : ∀ {n : Nat}, x ∈ (wz_al th n).map Prod.fst ↔ ∃ u : Int, (0 ≤ u ∧ u < (n : Int)) ∧ wz_oc x (th u)
  | 0 => ⟨fun h => absurd h List.not_mem_nil, fun ⟨u, h, _⟩ => by omega⟩
  | n + 1 => by
    show x ∈ (wz_go (th (n : Int)) (wz_al th n)).map Prod.fst ↔ _
    rw [wz_go_mem, wz_al_mem (n := n)]
    constructor
    · rintro (⟨u, h, hx⟩ | h)
      · exact ⟨u, by omega, hx⟩
      · exact ⟨(n : Int), by omega, h⟩
    · rintro ⟨u, h, hx⟩
      by_cases c : u = (n : Int)
      · rw [c] at hx
        exact Or.inr hx
      · exact Or.inl ⟨u, by omega, hx⟩
end
section
/-! ===== what is written of a value, on a paper of any kind ===== -/
abbrev we_A (Ω : Type) : Type := List (Int × List Int) × Ω
def we_bs {Ω : Type} (pb : Int → Ω → Ω) (l : List Int) (w : we_A Ω) : we_A Ω := (w.1, l.foldl (fun o c => pb c o) w.2)
/-- one term, by what is written of its parts -/
def we_o {Ω : Type} (pb : Int → Ω → Ω) (dg nm : Int → List Int) (hf : Int → List Int → Int → we_A Ω → we_A Ω) (q : Int × Int) (F : rf_N) (f : (Int → we_A Ω → we_A Ω) × (Int → we_A Ω → we_A Ω)) (dp : Int) (w : we_A Ω) : we_A Ω := if q.1 = 0 then f.1 (dp + 1) (we_bs pb (92 :: 120 :: (dg dp ++ [46])) w) else if q.1 = 1 ∧ q.2 < 0 then hf q.2 (dz_hs F) dp w else f.2 dp (we_bs pb (if q.1 = 1 then nm q.2 else 120 :: dg q.2) w)
/-- an ARG -/
def we_g {Ω : Type} (pb : Int → Ω → Ω) (q : Int × Int) (F : rf_N) (o : Int → we_A Ω → we_A Ω) (dp : Int) (w : we_A Ω) : we_A Ω := if q.1 = 0 ∨ rf_len F ≠ 0 then we_bs pb [41] (o dp (we_bs pb [40] w)) else o dp w
/-- one term; a row of ARGs -/
def we_w {Ω : Type} (pb : Int → Ω → Ω) (dg nm : Int → List Int) (hf : Int → List Int → Int → we_A Ω → we_A Ω) : rf_N → (Int → we_A Ω → we_A Ω) × (Int → we_A Ω → we_A Ω)
  | .leaf => (fun _ w => w, fun _ w => w)
  | .inner _ q _ F X => (we_o pb dg nm hf q F (we_w pb dg nm hf F), fun dp w => (we_w pb dg nm hf X).2 dp (we_g pb q F (we_o pb dg nm hf q F (we_w pb dg nm hf F)) dp (we_bs pb [32] w)))
theorem wz_n10 : ¬ ((1 : Int) = 0) := by decide
theorem wz_n20 : ¬ ((2 : Int) = 0) := by decide
theorem wz_n21 : ¬ ((2 : Int) = 1) := by decide
section
variable {Ω : Type} {pb : Int → Ω → Ω} {dg nm : Int → List Int} {hf : Int → List Int → Int → we_A Ω → we_A Ω}
theorem we_w_1 (j : Nat) (q : Int × Int) (u : Unit) (F X : rf_N) (dp : Int) (w : we_A Ω) : (we_w pb dg nm hf (.inner j q u F X)).1 dp w = we_o pb dg nm hf q F (we_w pb dg nm hf F) dp w := rfl
theorem we_w_2 (j : Nat) (q : Int × Int) (u : Unit) (F X : rf_N) (dp : Int) (w : we_A Ω) : (we_w pb dg nm hf (.inner j q u F X)).2 dp w = (we_w pb dg nm hf X).2 dp (we_g pb q F (we_o pb dg nm hf q F (we_w pb dg nm hf F)) dp (we_bs pb [32] w)) := rfl
theorem we_w_0 (dp : Int) (w : we_A Ω) : (we_w pb dg nm hf .leaf).2 dp w = w := rfl
/-- a term as an ARG: in brackets or not -/
def we_gv (pb : Int → Ω → Ω) (v : rf_N) (o : Int → we_A Ω → we_A Ω) (dp : Int) (w : we_A Ω) : we_A Ω := we_g pb (wz_q v) (wz_F v) o dp w
theorem we_w_sb {a X : rf_N} (ha : vx_on a) (dp : Int) (w : we_A Ω) : (we_w pb dg nm hf (vx_sb a X)).1 dp w = (we_w pb dg nm hf a).1 dp w ∧ (we_w pb dg nm hf (vx_sb a X)).2 dp w = (we_w pb dg nm hf X).2 dp (we_gv pb a (we_w pb dg nm hf a).1 dp (we_bs pb [32] w)) := by
  obtain ⟨k, h, F, rfl⟩ := ha
  exact ⟨rfl, rfl⟩
theorem we_lam (j : Nat) (r : Int) (F X : rf_N) (dp : Int) (w : we_A Ω) : (we_w pb dg nm hf (rf_n j 0 r F X)).1 dp w = (we_w pb dg nm hf F).1 (dp + 1) (we_bs pb (92 :: 120 :: (dg dp ++ [46])) w) := by
  show we_o pb dg nm hf (0, r) F _ dp w = _
  unfold we_o
  rw [if_pos rfl]
theorem we_hol (j : Nat) (h : Int) (F X : rf_N) (hh : h < 0) (dp : Int) (w : we_A Ω) : (we_w pb dg nm hf (rf_n j 1 h F X)).1 dp w = hf h (dz_hs F) dp w := by
  show we_o pb dg nm hf (1, h) F _ dp w = _
  unfold we_o
  rw [if_neg wz_n10, if_pos ⟨rfl, hh⟩]
theorem we_con (j : Nat) (h : Int) (F X : rf_N) (hh : 0 ≤ h) (dp : Int) (w : we_A Ω) : (we_w pb dg nm hf (rf_n j 1 h F X)).1 dp w = (we_w pb dg nm hf F).2 dp (we_bs pb (nm h) w) := by
  show we_o pb dg nm hf (1, h) F _ dp w = _
  unfold we_o
  rw [if_neg wz_n10, if_neg (fun c => by have := c.2; dsimp only at this; omega), if_pos rfl]
theorem we_var (j : Nat) (h : Int) (F X : rf_N) (dp : Int) (w : we_A Ω) : (we_w pb dg nm hf (rf_n j 2 h F X)).1 dp w = (we_w pb dg nm hf F).2 dp (we_bs pb (120 :: dg h) w) := by
  show we_o pb dg nm hf (2, h) F _ dp w = _
  unfold we_o
  rw [if_neg wz_n20, if_neg (fun c => absurd c.1 wz_n21), if_neg wz_n21]
theorem we_bs_app (l l' : List Int) (w : we_A Ω) : we_bs pb (l ++ l') w = we_bs pb l' (we_bs pb l w) := by
  unfold we_bs
  rw [List.foldl_append]
theorem we_bs_1 (l : List Int) (w : we_A Ω) : (we_bs pb l w).1 = w.1 := rfl
/-- which open unknowns are met -/
theorem we_acc (h1 : ∀ h xs dp w, (hf h xs dp w).1 = wz_ad w.1 h xs) {n : Int} {ar : Int → Int} : ∀ {v : rf_N}, wz_ok n ar v → ∀ (dp : Int) (w : we_A Ω), ((we_w pb dg nm hf v).1 dp w).1 = wz_go (vx_1 v) w.1 ∧ ((we_w pb dg nm hf v).2 dp w).1 = wz_go v w.1
  | .leaf, _, _, _ => ⟨rfl, rfl⟩
  | .inner j q u F X, ho, dp, w => by
    obtain ⟨o1, o2, o3⟩ := wz_ok_in.mp ho
    have one : ∀ dp w, (we_o pb dg nm hf q F (we_w pb dg nm hf F) dp w).1 = (if q.1 = 1 ∧ q.2 < 0 then wz_ad w.1 q.2 (dz_hs F) else wz_go F w.1) := fun dp w => by
      unfold we_o
      by_cases c0 : q.1 = 0
      · rw [if_neg (by omega)] at o1
        have hF := (we_acc h1 o1 (dp + 1) (we_bs pb (92 :: 120 :: (dg dp ++ [46])) w)).1
        obtain ⟨k, h, G, hG⟩ := o3 c0
        rw [if_pos c0, if_neg (by omega), hF, hG]
        rfl
      · rw [if_neg c0]
        by_cases c1 : q.1 = 1 ∧ q.2 < 0
        · rw [if_pos c1, if_pos c1, h1]
        · rw [if_neg c1] at o1
          rw [if_neg c1, if_neg c1, (we_acc h1 o1 dp _).2, we_bs_1]
    constructor
    · rw [we_w_1, one]
      rfl
    · rw [we_w_2, (we_acc h1 o2 dp _).2]
      unfold we_g
      by_cases c : q.1 = 0 ∨ rf_len F ≠ 0
      · rw [if_pos c, we_bs_1, one, we_bs_1, we_bs_1]
        rfl
      · rw [if_neg c, one, we_bs_1]
        rfl
/-- a paper on which there is no room stays as it is -/
theorem we_sat {P : Ω → Prop} (hp : ∀ c o, P o → P (pb c o)) (hh : ∀ h xs dp w, P w.2 → P (hf h xs dp w).2) : ∀ {v : rf_N} (dp : Int) (w : we_A Ω), P w.2 → P ((we_w pb dg nm hf v).1 dp w).2 ∧ P ((we_w pb dg nm hf v).2 dp w).2
  | .leaf, _, _, h => ⟨h, h⟩
  | .inner j q u F X, dp, w, h => by
    have hb : ∀ (l : List Int) (w : we_A Ω), P w.2 → P (we_bs pb l w).2 := fun l => by
      induction l with
      | nil => exact fun w h => h
      | cons c l ih => exact fun w h => ih (w.1, pb c w.2) (hp c w.2 h)
    have one : ∀ dp w, P w.2 → P (we_o pb dg nm hf q F (we_w pb dg nm hf F) dp w).2 := fun dp w h => by
      unfold we_o
      by_cases c0 : q.1 = 0
      · rw [if_pos c0]
        exact (we_sat hp hh (v := F) _ _ (hb _ _ h)).1
      · rw [if_neg c0]
        by_cases c1 : q.1 = 1 ∧ q.2 < 0
        · rw [if_pos c1]
          exact hh _ _ _ _ h
        · rw [if_neg c1]
          exact (we_sat hp hh (v := F) _ _ (hb _ _ h)).2
    refine ⟨by rw [we_w_1]; exact one _ _ h, ?_⟩
    rw [we_w_2]
    refine (we_sat hp hh (v := X) _ _ ?_).2
    unfold we_g
    by_cases c : q.1 = 0 ∨ rf_len F ≠ 0
    · rw [if_pos c]
      exact hb _ _ (one _ _ (hb _ _ (hb _ _ h)))
    · rw [if_neg c]
      exact one _ _ (hb _ _ h)
/-- without open unknowns in it: the same whatever is written of them -/
theorem we_noh {hf' : Int → List Int → Int → we_A Ω → we_A Ω} : ∀ {v : rf_N}, (∀ x, ¬ wz_oc x v) → we_w pb dg nm hf v = we_w pb dg nm hf' v
  | .leaf, _ => rfl
  | .inner j q u F X, h => by
    have c : ¬ (q.1 = 1 ∧ q.2 < 0) := fun c => h q.2 (wz_oc_in.mpr (Or.inl (by rw [if_pos c])))
    have hF := we_noh (hf' := hf') (v := F) (fun x hx => h x (wz_oc_in.mpr (Or.inl (by rw [if_neg c]; exact hx))))
    have hX := we_noh (hf' := hf') (v := X) (fun x hx => h x (wz_oc_in.mpr (Or.inr hx)))
    have ho : we_o pb dg nm hf q F (we_w pb dg nm hf F) = we_o pb dg nm hf' q F (we_w pb dg nm hf' F) := by
      funext dp w
      unfold we_o
      rw [if_neg c, if_neg c, hF]
    show (we_o pb dg nm hf q F (we_w pb dg nm hf F), _) = (we_o pb dg nm hf' q F (we_w pb dg nm hf' F), _)
    rw [ho, hX]
end
/-- the places of a row, by what stands there: the smallest first -/
def we_od (row : List Int) (p : Nat) : Nat := ((List.range row.length).find? (fun k => decide (rf_rnk (fun i => row.getD i (-1)) row.length k = p))).getD 0
/-- the row with which an open unknown was first met -/
def we_rw (a : List (Int × List Int)) (h : Int) : List Int := ((a.find? (fun p => decide (p.1 = h))).map Prod.snd).getD []
/-- an open unknown is written: its number, its ARGs in their order, long -/
def we_hf {Ω : Type} (pb : Int → Ω → Ω) (dg nm : Int → List Int) (ht : Int → List rf_T) (h : Int) (xs : List Int) (dp : Int) (w : we_A Ω) : we_A Ω := (we_w pb dg nm (fun _ _ _ w => w) (vq_rl ((List.range xs.length).map (fun p => (ht h).getD (we_od (we_rw (wz_ad w.1 h xs) h) p) .leaf)) ((List.range xs.length).map (fun p => xs.getD (we_od (we_rw (wz_ad w.1 h xs) h) p) (-1))) dp)).2 dp (we_bs pb (104 :: dg (vx_ii ((wz_ad w.1 h xs).map Prod.fst) h)) (wz_ad w.1 h xs, w.2))
section
variable {Ω : Type} {pb : Int → Ω → Ω} {dg nm : Int → List Int}
theorem we_fst0 : ∀ {v : rf_N} (dp : Int) (w : we_A Ω), ((we_w pb dg nm (fun _ _ _ w => w) v).1 dp w).1 = w.1 ∧ ((we_w pb dg nm (fun _ _ _ w => w) v).2 dp w).1 = w.1
  | .leaf, _, _ => ⟨rfl, rfl⟩
  | .inner j q u F X, dp, w => by
    have one : ∀ dp w, (we_o pb dg nm (fun _ _ _ w => w) q F (we_w pb dg nm (fun _ _ _ w => w) F) dp w).1 = w.1 := fun dp w => by
      unfold we_o
      by_cases c0 : q.1 = 0
      · rw [if_pos c0, (we_fst0 (v := F) _ _).1, we_bs_1]
      · rw [if_neg c0]
        by_cases c1 : q.1 = 1 ∧ q.2 < 0
        · rw [if_pos c1]
        · rw [if_neg c1, (we_fst0 (v := F) _ _).2, we_bs_1]
    refine ⟨by rw [we_w_1, one], ?_⟩
    rw [we_w_2, (we_fst0 (v := X) _ _).2]
    unfold we_g
    by_cases c : q.1 = 0 ∨ rf_len F ≠ 0
    · rw [if_pos c, we_bs_1, one, we_bs_1, we_bs_1]
    · rw [if_neg c, one, we_bs_1]
theorem we_hf_1 (ht : Int → List rf_T) (h : Int) (xs : List Int) (dp : Int) (w : we_A Ω) : (we_hf pb dg nm ht h xs dp w).1 = wz_ad w.1 h xs := by
  unfold we_hf
  rw [(we_fst0 _ _).2, we_bs_1]
theorem we_pb_l {P : Ω → Prop} (hp : ∀ c o, P o → P (pb c o)) : ∀ (l : List Int) (o : Ω), P o → P (l.foldl (fun o c => pb c o) o)
  | [], _, h => h
  | c :: l, o, h => we_pb_l hp l (pb c o) (hp c o h)
theorem we_hf_sat {P : Ω → Prop} (hp : ∀ c o, P o → P (pb c o)) (ht : Int → List rf_T) (h : Int) (xs : List Int) (dp : Int) (w : we_A Ω) (hw : P w.2) : P (we_hf pb dg nm ht h xs dp w).2 := by
  unfold we_hf
  exact (we_sat hp (fun _ _ _ _ h => h) _ _ (we_pb_l hp _ _ hw)).2
end
/-- long forms hold no open unknown -/
theorem wz_lm_oc {x : Int} {T : rf_N} (h : ¬ wz_oc x T) : ∀ n, ¬ wz_oc x (vq_lm n T)
  | 0 => h
  | n + 1 => fun c => by
    have c' : wz_oc x (.inner 0 (0, 0) () (vq_lm n T) .leaf) := c
    rw [wz_oc_in, if_neg (by decide)] at c'
    rcases c' with c' | c'
    · exact wz_lm_oc h n c'
    · exact c'
theorem wz_sb_oc {x : Int} {a X : rf_N} (ha : vx_on a) : wz_oc x (vx_sb a X) ↔ wz_oc x a ∨ wz_oc x X := by
  obtain ⟨k, h, F, rfl⟩ := ha
  show wz_oc x (.inner 0 (k, h) () F X) ↔ wz_oc x (.inner 0 (k, h) () F .leaf) ∨ wz_oc x X
  rw [wz_oc_in, wz_oc_in]
  exact ⟨fun z => z.imp Or.inl id, fun z => z.elim (fun z => z.elim Or.inl (fun z => z.elim)) Or.inr⟩
theorem wz_row_oc {x : Int} : ∀ (A : rf_T) (i M : Int), ¬ wz_oc x (vq_row A i M)
  | .leaf, _, _ => fun h => h
  | .inner _ _ _ A B, i, M => fun h => by
    have h' : wz_oc x (vx_sb (vq_lm (rf_args A).length (rf_n 0 2 i (vq_row A M (M + ((rf_args A).length : Int))) .leaf)) (vq_row B (i + 1) M)) := h
    rw [wz_sb_oc (vq_lm_on ⟨2, i, _, rfl⟩ _)] at h'
    rcases h' with h' | h'
    · refine wz_lm_oc (fun c => ?_) _ h'
      have c' : wz_oc x (.inner 0 (2, i) () (vq_row A M (M + ((rf_args A).length : Int))) .leaf) := c
      rw [wz_oc_in, if_neg (fun q => absurd q.1 wz_n21)] at c'
      rcases c' with c' | c'
      · exact wz_row_oc A _ _ c'
      · exact c'
    · exact wz_row_oc B _ _ h'
theorem wz_cv_oc {x : Int} (A : rf_T) (n L : Int) : ¬ wz_oc x (vq_cv A n L) := wz_lm_oc (fun c => by
  have c' : wz_oc x (.inner 0 (2, n) () (vq_row A L (L + ((rf_args A).length : Int))) .leaf) := c
  rw [wz_oc_in, if_neg (fun q => absurd q.1 wz_n21)] at c'
  rcases c' with c' | c'
  · exact wz_row_oc A _ _ c'
  · exact c') _
end
section
/-! ===== the reference: what is known while it writes ===== -/
/-- papers, digits, names; what the paper is, when it is full, names in memory; types of ARGs; values, rows, ranks -/
abbrev we_E (Ω : Type) : Type := ((Int → Ω → Ω) × (Int → List Int) × (Int → List Int)) × ((Int → (Nat → Int) → Ω → Prop) × (Ω → Prop) × (sx_S → Prop)) × (Int → List rf_T) × (Int → rf_N) × (Nat → List Int) × (Int → Nat)
section
variable {Ω : Type}
def we_W (E : we_E Ω) (v : rf_N) : (Int → we_A Ω → we_A Ω) × (Int → we_A Ω → we_A Ω) := we_w E.1.1 E.1.2.1 E.1.2.2 (we_hf E.1.1 E.1.2.1 E.1.2.2 E.2.2.1) v
def we_W0 (E : we_E Ω) (v : rf_N) : (Int → we_A Ω → we_A Ω) × (Int → we_A Ω → we_A Ω) := we_w E.1.1 E.1.2.1 E.1.2.2 (fun _ _ _ w => w) v
def we_b (E : we_E Ω) (l : List Int) (w : we_A Ω) : we_A Ω := we_bs E.1.1 l w
def we_Sp (E : we_E Ω) (s : sx_S) (o : Ω) : Prop := E.2.1.1 (s.1 66 86) (s.2.1 122) o
def we_sa (E : we_E Ω) (o : Ω) : Prop := E.2.1.2.1 o
def we_Rn (E : we_E Ω) (s : sx_S) : Prop := E.2.1.2.2 s
def we_th (E : we_E Ω) : Int → rf_N := E.2.2.2.1
def we_AR (E : we_E Ω) : Nat → List Int := E.2.2.2.2.1
def we_rk (E : we_E Ω) : Int → Nat := E.2.2.2.2.2
/-- what papers keep to -/
def we_L (E : we_E Ω) : Prop := True → (∀ c o, we_sa E o → we_sa E (E.1.1 c o)) ∧ (∀ a p c o, we_sa E o → E.2.1.1 a p o → E.2.1.1 a p (E.1.1 c o)) ∧ (∀ a p o, E.2.1.1 a p o → 4000 < a → we_sa E o) ∧ ∀ s t : sx_S, (∀ p, 68 ≤ p → p ≤ 99 → t.2.1 p = s.2.1 p) → t.1 66 3 = s.1 66 3 → t.1 66 42 = s.1 66 42 → we_Rn E s → we_Rn E t
/-- the bytes l were put -/
def we_PT (E : we_E Ω) (s t : sx_S) (l : List Int) : Prop := cx_I t ∧ cx_F [(66, 66), (122, 122)] s t ∧ rf_f [86] s t ∧ ∀ o, we_Sp E s o → we_Sp E t (l.foldl (fun o c => E.1.1 c o) o)
/-- the methods that put -/
def we_K (E : we_E Ω) (sL : Nat) (sx : Nat → Int32) : Prop := True → (∀ d : Nat, 2 ≤ d → ∀ (a0 : Int) (s : sx_S) (K : Int → sx_S → Prop), cx_I s → (-2147483648 ≤ a0 ∧ a0 ≤ 2147483647) → (∀ z t, we_PT E s t [a0] → K z t) → sx_C sL sx d 203 [.inr (.inl 66), .inl a0] s K) ∧ (∀ d : Nat, 3 ≤ d → ∀ (a0 a1 : Int) (s : sx_S) (K : Int → sx_S → Prop), cx_I s → (0 ≤ a0 ∧ a0 ≤ 255) → (-2147483648 ≤ a1 ∧ a1 ≤ 2147483647) → (∀ z t, we_PT E s t (a0 :: E.1.2.1 a1) → K z t) → sx_C sL sx d 204 [.inr (.inl 66), .inl a0, .inl a1] s K) ∧ (∀ d : Nat, 3 ≤ d → ∀ (k u : Int) (s : sx_S) (K : Int → sx_S → Prop), cx_I s → we_Rn E s → (0 ≤ k ∧ k < s.1 66 42) → u = s.2.1 95 k.toNat → (0 ≤ u ∧ u ≤ 241) → (∀ z t, we_PT E s t (E.1.2.2 k) → K z t) → sx_C sL sx d 205 [.inr (.inl 66), .inl u] s K) ∧ ∀ d : Nat, 6 ≤ d → ∀ (a0 a1 : Int) (s : sx_S) (K : Int → sx_S → Prop), cx_I s → (0 ≤ a0 ∧ a0 ≤ 399999) → (-2147483648 ≤ a1 ∧ a1 ≤ 2147483647) → (∀ (z : Int) (t : sx_S), cx_I t → cx_F [(66, 66), (107, 107), (122, 122)] s t → rf_f [86] s t → (∀ j : Nat, t.2.1 107 j = if j = a0.toNat then a1 else s.2.1 107 j) → (∀ o, we_Sp E s o → we_Sp E t ((92 :: 120 :: (E.1.2.1 a1 ++ [46])).foldl (fun o c => E.1.1 c o) o)) → K z t) → sx_C sL sx d 206 [.inr (.inl 66), .inl a0, .inl a1] s K
/-- the depth at which a variable was bound; those still to be made -/
def we_D (s : sx_S) (dp v : Int) : Int := if v < s.1 66 58 then s.2.1 107 v.toNat else dp + (v - s.1 66 58)
def we_V (E : we_E Ω) (s : sx_S) (A : rf_N) (y : rf_Y) (dp : Int) : rf_N := vx_re (we_D s dp) (vr_V (we_th E) (we_AR E) A y (s.1 66 58))
def we_X (E : we_E Ω) (s : sx_S) (f : rf_N) (y : rf_Y) (dp : Int) : rf_N := vx_re (we_D s dp) (vr_X (we_th E) (we_AR E) f y (s.1 66 58))
/-- the solved unknowns, the values, the ranks, the types -/
def we_G (E : we_E Ω) (s : sx_S) (g : rf_Gh) : Prop := True → (vr_G s g (we_AR E) ∧ vx_So (vr_S s g (we_AR E)) (we_th E)) ∧ (∀ m, 0 ≤ m → m < s.1 66 61 → s.2.1 111 m.toNat = 0 → we_th E m = vx_gn (vr_ar s) m) ∧ (∀ m, 0 ≤ m → m < s.1 66 61 → wz_ok (s.1 66 61) (vr_ar s) (we_th E m)) ∧ (∀ u m, 0 ≤ u → u < s.1 66 61 → s.2.1 111 u.toNat ≠ 0 → vx_mt m (vr_1 (g.1 u)) → we_rk E m < we_rk E u) ∧ (∀ (m : Int) (q : Nat), 0 ≤ m → m < s.1 66 61 → (q : Int) < rf_aa s m → rf_py s m q ((E.2.2.1 (-1 - m)).getD q .leaf)) ∧ 1 ≤ s.1 66 58 ∧ we_Rn E s
theorem we_ar {nb ib : Int} {s t : sx_S} (hE : rf_EX nb ib s t) (hN : rf_NC s t) : vr_ar t = vr_ar s := by
  funext u
  unfold vr_ar
  rw [hN.1]
  by_cases c : 0 ≤ u ∧ u < s.1 66 61
  · rw [if_pos c, if_pos c, hE.aa c.1 c.2]
  · rw [if_neg c, if_neg c]
theorem we_G_up {E : we_E Ω} (hL : we_L E) {nb ib : Int} {s t : sx_S} {g : rf_Gh} (hI : cx_I s) (hM : rf_MI nb ib s g) (hE : rf_EX nb ib s t) (hN : rf_NC s t) (h58 : s.1 66 58 ≤ t.1 66 58) (hR : ∀ p, 68 ≤ p → p ≤ 99 → t.2.1 p = s.2.1 p) (e3 : t.1 66 3 = s.1 66 3) (h : we_G E s g) : we_G E t g := fun _ => by
  obtain ⟨⟨h1, h2⟩, h3, h4, h5, h6, h7, h8⟩ := h trivial
  have e61 := hN.1
  have ea := we_ar hE hN
  refine ⟨⟨vr_G_up hE (rf_EG_refl s g) hN (fun _ _ => rfl) h1, (vr_So_NC hI hE (rf_EG_refl s g) hN hM h1 (fun _ _ => rfl)).mpr h2⟩, fun m m0 m1 hs => ?_, fun m m0 m1 => ?_, fun u m u0 u1 hs => ?_, fun m q m0 m1 hq => ?_, by omega, (hL trivial).2.2.2 s t hR e3 hE.1.1.2.2.2.2 h8⟩
  · rw [ea]
    exact h3 m m0 (by omega) (by rw [← hN.2 m.toNat (by omega)]; exact hs)
  · rw [ea, e61]
    exact h4 m m0 (by omega)
  · exact h5 u m u0 (by omega) (by rw [← hN.2 u.toNat (by omega)]; exact hs)
  · rw [hE.aa m0 (by omega)] at hq
    exact hE.pt m0 (by omega) (h6 m q m0 (by omega) hq)
theorem we_G_WF {E : we_E Ω} (hL : we_L E) {aM : Bool} {nb ib : Int} {s t : sx_S} {g : rf_Gh} (hW : rf_WW aM nb ib s g) (hF : rf_WF s t) (h : we_G E s g) : we_G E t g := by
  obtain ⟨⟨hI, hM, hnb, hib, _⟩, _⟩ := hW
  obtain ⟨hE, hN⟩ := rf_WF_EX hF
  refine we_G_up hL hI hM (rf_EX_le hE hnb hib) hN hF.2.2.1 (fun p h1 h2 => (hF.1.1 p).1 (fun q hq => ?_) |>.2) (hF.1.2.1 3 rfl) h
  simp only [List.mem_cons, List.not_mem_nil, or_false] at hq
  rcases hq with rfl | rfl | rfl | rfl <;> (dsimp only; omega)
/-- the numbers of the open unknowns, and the order of their ARGs -/
def we_N (s : sx_S) (a : List (Int × List Int)) : Prop := True → s.1 66 79 = (a.length : Int) ∧ (a.map Prod.fst).Nodup ∧ ∀ m : Int, 0 ≤ m → m < s.1 66 61 → (s.2.1 118 m.toNat = -1 ∧ -1 - m ∉ a.map Prod.fst) ∨ ∃ (i : Nat) (xs : List Int), a[i]? = some (-1 - m, xs) ∧ s.2.1 118 m.toNat = (i : Int) ∧ (xs.length : Int) = rf_aa s m ∧ (∀ p q : Nat, p < xs.length → q < xs.length → xs.getD p (-1) = xs.getD q (-1) → p = q) ∧ ∀ k : Nat, k < xs.length → s.2.1 121 (s.2.1 120 m.toNat + ((rf_rnk (fun i => xs.getD i (-1)) xs.length k : Nat) : Int)).toNat = (k : Int)
theorem we_N_same {s t : sx_S} {a : List (Int × List Int)} (e79 : t.1 66 79 = s.1 66 79) (e61 : t.1 66 61 = s.1 66 61) (ea : ∀ p, p = 108 ∨ p = 118 ∨ p = 120 ∨ p = 121 → t.2.1 p = s.2.1 p) (h : we_N s a) : we_N t a := fun _ => by
  have h' := h trivial
  unfold rf_aa at h' ⊢
  rw [e79, e61, ea 108 (Or.inl rfl), ea 118 (Or.inr (Or.inl rfl)), ea 120 (Or.inr (Or.inr (Or.inl rfl))), ea 121 (Or.inr (Or.inr (Or.inr rfl)))]
  exact h'
/-- numbering: what was seen is numbered, or under way; writing: all is numbered -/
def we_M (E : we_E Ω) (u : sx_S) (w Z : we_A Ω) (v T : rf_N) (P P' : Int → Prop) : Prop := True → (u.1 66 89 = 0 → ∀ x, wz_oc x v → x ∈ w.1.map Prod.fst) ∧ (u.1 66 89 ≠ 0 → we_sa E w.2 ∧ (∀ m, P' m → vx_bl (we_rk E) (we_rk E m) T ∧ (P m ∨ ∀ x, wz_oc x (we_th E m) → x ∈ Z.1.map Prod.fst)) ∧ ∀ m, 0 ≤ m → m < u.1 66 61 → u.2.1 119 m.toNat ≠ 0 → P' m ∨ ∀ x, wz_oc x (we_th E m) → x ∈ w.1.map Prod.fst)
/-- w is there, and what k makes of it is Z -/
def we_J (E : we_E Ω) (Z : we_A Ω) (P : Int → Prop) (u : sx_S) (v T : rf_N) (k : we_A Ω → we_A Ω) : Prop := ∃ (w : we_A Ω) (P' : Int → Prop), (we_N u w.1 ∧ we_Sp E u w.2) ∧ k w = Z ∧ we_M E u w Z v T P P'
/-- Z is there -/
def we_Z (E : we_E Ω) (Z : we_A Ω) (P : Int → Prop) (t : sx_S) : Prop := True → (we_N t Z.1 ∧ we_Sp E t Z.2) ∧ (t.1 66 89 ≠ 0 → we_sa E Z.2 ∧ ∀ m, 0 ≤ m → m < t.1 66 61 → t.2.1 119 m.toNat ≠ 0 → P m ∨ ∀ x, wz_oc x (we_th E m) → x ∈ Z.1.map Prod.fst)
theorem we_J_Z {E : we_E Ω} {Z : we_A Ω} {P : Int → Prop} {u : sx_S} {v T : rf_N} {k : we_A Ω → we_A Ω} (hk : ∀ w, k w = w) (h : we_J E Z P u v T k) : we_Z E Z P u := fun _ => by
  obtain ⟨w, P', h1, h2, h3⟩ := h
  rw [hk] at h2
  subst h2
  refine ⟨h1, fun c => ?_⟩
  obtain ⟨a, b, d⟩ := (h3 trivial).2 c
  exact ⟨a, fun m m0 m1 hs => (d m m0 m1 hs).elim (fun z => (b m z).2) Or.inr⟩
theorem we_J_le {E : we_E Ω} {Z : we_A Ω} {P : Int → Prop} {u : sx_S} {v T v' T' : rf_N} {k : we_A Ω → we_A Ω} (hv : ∀ x, wz_oc x v' → wz_oc x v) (hT : ∀ m, vx_mt m T' → vx_mt m T) (h : we_J E Z P u v T k) : we_J E Z P u v' T' k := by
  obtain ⟨w, P', h1, h2, h3⟩ := h
  obtain ⟨a, b⟩ := h3 trivial
  exact ⟨w, P', h1, h2, fun _ => ⟨fun c x hx => a c x (hv x hx), fun c => ⟨(b c).1, fun m hm => ⟨fun x hx => ((b c).2.1 m hm).1 x (hT x hx), ((b c).2.1 m hm).2⟩, (b c).2.2⟩⟩⟩
theorem we_J_k {E : we_E Ω} {Z : we_A Ω} {P : Int → Prop} {u : sx_S} {v T : rf_N} {k k' : we_A Ω → we_A Ω} (hk : ∀ w, k w = k' w) (h : we_J E Z P u v T k) : we_J E Z P u v T k' := by
  obtain ⟨w, P', h1, h2, h3⟩ := h
  exact ⟨w, P', h1, by rw [← hk]; exact h2, h3⟩
/-- nothing of it has changed -/
theorem we_J_same {E : we_E Ω} {Z : we_A Ω} {P : Int → Prop} {u t : sx_S} {v T : rf_N} {k : we_A Ω → we_A Ω} (ef : ∀ k, k = 61 ∨ k = 79 ∨ k = 86 ∨ k = 89 → t.1 66 k = u.1 66 k) (ea : ∀ p, p = 108 ∨ (118 ≤ p ∧ p ≤ 122) → t.2.1 p = u.2.1 p) (h : we_J E Z P u v T k) : we_J E Z P t v T k := by
  obtain ⟨w, P', ⟨h0, h1⟩, h2, h3⟩ := h
  have e61 := ef 61 (by omega)
  have e86 := ef 86 (by omega)
  have e89 := ef 89 (by omega)
  refine ⟨w, P', ⟨we_N_same (ef 79 (by omega)) e61 (fun p hp => ea p (by omega)) h0, ?_⟩, h2, fun _ => ?_⟩
  · unfold we_Sp
    rw [e86, ea 122 (by omega)]
    exact h1
  · have h3' := h3 trivial
    rw [e61, e89, ea 119 (by omega)]
    exact h3'
theorem we_J_F {E : we_E Ω} {Z : we_A Ω} {P : Int → Prop} {u t : sx_S} {v T : rf_N} {k : we_A Ω → we_A Ω} {V : List (Nat × Nat)} {W : List Nat} (hF : cx_F V u t) (hf : rf_f W u t) (hW : (W.contains 61 || W.contains 79 || W.contains 86 || W.contains 89) = false) (hV : (cx_outb V 108 && cx_outb V 118 && cx_outb V 119 && cx_outb V 120 && cx_outb V 121 && cx_outb V 122) = true) (h : we_J E Z P u v T k) : we_J E Z P t v T k := by
  simp only [Bool.or_eq_false_iff] at hW
  simp only [Bool.and_eq_true] at hV
  obtain ⟨⟨⟨w1, w2⟩, w3⟩, w4⟩ := hW
  obtain ⟨⟨⟨⟨⟨v1, v2⟩, v3⟩, v4⟩, v5⟩, v6⟩ := hV
  refine we_J_same (fun k hk => ?_) (fun p hp => ?_) h
  · rcases hk with rfl | rfl | rfl | rfl
    · exact hf 61 w1
    · exact hf 79 w2
    · exact hf 86 w3
    · exact hf 89 w4
  · have : p = 108 ∨ p = 118 ∨ p = 119 ∨ p = 120 ∨ p = 121 ∨ p = 122 := by omega
    rcases this with rfl | rfl | rfl | rfl | rfl | rfl
    · exact (hF.same 108 v1).2
    · exact (hF.same 118 v2).2
    · exact (hF.same 119 v3).2
    · exact (hF.same 120 v4).2
    · exact (hF.same 121 v5).2
    · exact (hF.same 122 v6).2
/-- bytes are put -/
theorem we_J_pt {E : we_E Ω} (hL : we_L E) {Z : we_A Ω} {P : Int → Prop} {u t : sx_S} {v T : rf_N} {k k' : we_A Ω → we_A Ω} {l : List Int} (ef : ∀ k, k = 61 ∨ k = 79 ∨ k = 89 → t.1 66 k = u.1 66 k) (ea : ∀ p, p = 108 ∨ (118 ≤ p ∧ p ≤ 121) → t.2.1 p = u.2.1 p) (hS : ∀ o, we_Sp E u o → we_Sp E t (l.foldl (fun o c => E.1.1 c o) o)) (hk : ∀ w, k w = k' (we_b E l w)) (h : we_J E Z P u v T k) : we_J E Z P t v T k' := by
  obtain ⟨w, P', ⟨h0, h1⟩, h2, h3⟩ := h
  have e61 := ef 61 (by omega)
  have e89 := ef 89 (by omega)
  refine ⟨we_b E l w, P', ⟨we_N_same (ef 79 (by omega)) e61 (fun p hp => ea p (by omega)) h0, hS _ h1⟩, by rw [← hk]; exact h2, fun _ => ?_⟩
  obtain ⟨a, b⟩ := h3 trivial
  rw [e61, e89, ea 119 (by omega)]
  exact ⟨a, fun c => ⟨we_pb_l (hL trivial).1 _ _ (b c).1, (b c).2⟩⟩
theorem we_J_put {E : we_E Ω} (hL : we_L E) {Z : we_A Ω} {P : Int → Prop} {u t : sx_S} {v T : rf_N} {k k' : we_A Ω → we_A Ω} {l : List Int} (hP : we_PT E u t l) (hk : ∀ w, k w = k' (we_b E l w)) (h : we_J E Z P u v T k) : we_J E Z P t v T k' := by
  obtain ⟨_, hF, hf, hS⟩ := hP
  refine we_J_pt hL (fun k hk => ?_) (fun p hp => ?_) hS hk h
  · rcases hk with rfl | rfl | rfl
    · exact hf 61 rfl
    · exact hf 79 rfl
    · exact hf 89 rfl
  · have : p = 108 ∨ p = 118 ∨ p = 119 ∨ p = 120 ∨ p = 121 := by omega
    rcases this with rfl | rfl | rfl | rfl | rfl <;> exact (hF.same _ rfl).2
/-- trees have no open unknowns as heads -/
theorem we_nn {H : Nat → Int → Int → rf_T → Prop} {P : Nat → rf_T → Prop} (hH : ∀ j k r u, H j k r u → k = 1 → 0 ≤ r) : ∀ {A : rf_N}, (∀ t, (rf_gt H P A).1 t → wz_nn (vr_1 A)) ∧ (∀ u t, (rf_gt H P A).2 u t → wz_nn (vr_c A))
  | .leaf => ⟨fun _ h => h.elim, fun _ _ _ => trivial⟩
  | .inner j q u f x => by
    have hf := we_nn hH (P := P) (A := f)
    have hx := we_nn hH (P := P) (A := x)
    have one : ∀ t, (rf_gt H P (.inner j q u f x)).1 t → (q.1 = 1 → 0 ≤ q.2) ∧ (q.1 ≠ 3 → wz_nn (vr_f q.1 f)) ∧ (q.1 = 0 → vx_sg (vr_f q.1 f)) := by
      rintro t (⟨e, A, B, _, h1, h2⟩ | ⟨e, w, h1, h2, _⟩)
      · refine ⟨fun c => by omega, fun _ => by rw [vr_f_0 e]; exact hf.1 B h2, fun _ => ?_⟩
        rw [vr_f_0 e]
        cases f with
        | leaf => exact h2.elim
        | inner j' q' u' f' x' => exact ⟨j', q'.1, q'.2, vr_f q'.1 f', rfl⟩
      · refine ⟨fun c => hH _ _ _ _ h1 c, fun c => ?_, fun c => absurd c e⟩
        have e2 : vr_f q.1 f = vr_c f := by
          unfold vr_f
          rw [if_neg e, if_neg c]
        rw [e2]
        exact hf.2 w t h2
    refine ⟨fun t h => ?_, fun w t h => ?_⟩
    · rw [vr_1_in]
      obtain ⟨a, b, c⟩ := one t h
      exact ⟨a, b, trivial, c⟩
    · rw [vr_c_in]
      obtain ⟨A, B, _, h1, h2⟩ := h
      obtain ⟨a, b, c⟩ := one A h1
      exact ⟨a, b, hx.2 B t h2, c⟩
theorem we_Hn1 {b : Int} {s : sx_S} {N : Int → rf_T → Prop} : ∀ j k r u, rf_Hn b s N j k r u → k = 1 → 0 ≤ r := fun j k r u h hk => by
  rcases h with ⟨h1, _⟩ | ⟨_, h2, _⟩ | ⟨h1, _⟩ | ⟨h1, _⟩
  · omega
  · exact h2.1
  · omega
  · omega
theorem we_V_ok {E : we_E Ω} {s : sx_S} {g : rf_Gh} (hI : cx_I s) (hG : we_G E s g) {A : rf_N} (ht : vr_t s (we_AR E) A) (hn : wz_nn (vr_1 A)) (y : rf_Y) (dp : Int) : wz_ok (s.1 66 61) (vr_ar s) (we_V E s A y dp) := by
  obtain ⟨⟨_, h2⟩, _, h4, _⟩ := hG trivial
  exact wz_ok_re _ (wz_ok_val (fun m => (h2.1 m).1) hn (fun m hm => by
    have := ((vr_in (g := g) hI).1 ht).1 m hm
    exact h4 m this.1 this.2))
theorem we_V_on {E : we_E Ω} {s : sx_S} {g : rf_Gh} (hG : we_G E s g) {A : rf_N} (ht : vr_t s (we_AR E) A) (y : rf_Y) (dp : Int) : vx_on (we_V E s A y dp) := vx_re_on (vr_V_on (fun m => ((hG trivial).1.2.1 m).1) (vr_t_ne ht))
theorem we_on_1 {v : rf_N} (h : vx_on v) : vx_1 v = v := by
  obtain ⟨k, h, F, rfl⟩ := h
  rfl
/-- which open unknowns are numbered when it is written -/
theorem we_W_acc {E : we_E Ω} {n : Int} {ar : Int → Int} {v : rf_N} (ho : wz_ok n ar v) (h1 : vx_on v) (dp : Int) (w : we_A Ω) : ((we_W E v).1 dp w).1 = wz_go v w.1 := by
  have := (we_acc (pb := E.1.1) (dg := E.1.2.1) (nm := E.1.2.2) (hf := we_hf E.1.1 E.1.2.1 E.1.2.2 E.2.2.1) (we_hf_1 _) ho dp w).1
  rw [we_on_1 h1] at this
  exact this
/-- nothing new is met, and the paper is full: all is as if it had been written -/
theorem we_J_full {E : we_E Ω} (hL : we_L E) {Z : we_A Ω} {P : Int → Prop} {u : sx_S} {v T : rf_N} {n : Int} {ar : Int → Int} {dp : Int} (ho : wz_ok n ar v) (h1 : vx_on v) (hc : ∀ w : we_A Ω, ∀ P' : Int → Prop, we_Sp E u w.2 → we_M E u w Z v T P P' → we_sa E w.2 ∧ ∀ x, wz_oc x v → x ∈ w.1.map Prod.fst) (h : we_J E Z P u v T ((we_W E v).1 dp)) : we_Z E Z P u := fun _ => by
  obtain ⟨w, P', ⟨h2, h3⟩, h4, h5⟩ := h
  obtain ⟨c1, c2⟩ := hc w P' h3 h5
  have e1 : Z.1 = w.1 := by
    rw [← h4, we_W_acc ho h1, wz_go_sub c2]
  have e2 := (we_sat (pb := E.1.1) (dg := E.1.2.1) (nm := E.1.2.2) (hf := we_hf E.1.1 E.1.2.1 E.1.2.2 E.2.2.1) (P := fun o => we_sa E o ∧ we_Sp E u o) (fun c o ho => ⟨(hL trivial).1 c o ho.1, (hL trivial).2.1 _ _ c o ho.1 ho.2⟩) (fun h xs dp w hw => we_hf_sat (P := fun o => we_sa E o ∧ we_Sp E u o) (fun c o ho => ⟨(hL trivial).1 c o ho.1, (hL trivial).2.1 _ _ c o ho.1 ho.2⟩) _ _ _ _ _ hw) (v := v) dp w ⟨c1, h3⟩).1
  have e3 : we_sa E Z.2 ∧ we_Sp E u Z.2 := by
    rw [← h4]
    exact e2
  refine ⟨⟨by rw [e1]; exact h2, e3.2⟩, fun c => ⟨e3.1, fun m m0 m1 hs => ?_⟩⟩
  obtain ⟨_, b, d⟩ := (h5 trivial).2 c
  rcases d m m0 m1 hs with z | z
  · exact (b m z).2
  · rw [e1]
    exact Or.inr z
/-- what is numbered stays numbered -/
theorem we_w_sub {pb : Int → Ω → Ω} {dg nm : Int → List Int} {hf : Int → List Int → Int → we_A Ω → we_A Ω} {z : Int} (hh : ∀ h xs dp w, z ∈ w.1.map Prod.fst → z ∈ (hf h xs dp w).1.map Prod.fst) : ∀ {v : rf_N} (dp : Int) (w : we_A Ω), z ∈ w.1.map Prod.fst → z ∈ ((we_w pb dg nm hf v).1 dp w).1.map Prod.fst ∧ z ∈ ((we_w pb dg nm hf v).2 dp w).1.map Prod.fst
  | .leaf, _, _, h => ⟨h, h⟩
  | .inner j q u F X, dp, w, h => by
    have one : ∀ dp w, z ∈ w.1.map Prod.fst → z ∈ (we_o pb dg nm hf q F (we_w pb dg nm hf F) dp w).1.map Prod.fst := fun dp w h => by
      unfold we_o
      by_cases c0 : q.1 = 0
      · rw [if_pos c0]
        refine (we_w_sub hh (v := F) _ _ ?_).1
        exact h
      · rw [if_neg c0]
        by_cases c1 : q.1 = 1 ∧ q.2 < 0
        · rw [if_pos c1]
          exact hh _ _ _ _ h
        · rw [if_neg c1]
          refine (we_w_sub hh (v := F) _ _ ?_).2
          exact h
    refine ⟨by rw [we_w_1]; exact one _ _ h, ?_⟩
    rw [we_w_2]
    refine (we_w_sub hh (v := X) _ _ ?_).2
    unfold we_g
    by_cases c : q.1 = 0 ∨ rf_len F ≠ 0
    · rw [if_pos c]
      exact one _ _ h
    · rw [if_neg c]
      exact one _ _ h
theorem we_W_sub {E : we_E Ω} {z : Int} {v : rf_N} (dp : Int) (w : we_A Ω) (h : z ∈ w.1.map Prod.fst) : z ∈ ((we_W E v).1 dp w).1.map Prod.fst := (we_w_sub (fun h xs dp w hz => by
  rw [we_hf_1, wz_ad_mem]
  exact Or.inl hz) dp w h).1
end
end
