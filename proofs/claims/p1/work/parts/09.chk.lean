/-! ===== the program's rows are as the files have them (checked by the kernel) ===== -/
theorem mx_ck_g0 : (List.range' 0 2).all (fun k => mx_ckc mx_pg k 0) = true := by decide +kernel
theorem mx_ck_g1 : (List.range' 2 1).all (fun k => mx_ckc mx_pg k 0) = true := by decide +kernel
theorem mx_ck_g2 : (List.range' 2 1).all (fun k => mx_ckc mx_pg k 1) = true := by decide +kernel
theorem mx_ck_g3 : (List.range' 3 8).all (fun k => mx_ckc mx_pg k 0) = true := by decide +kernel
theorem mx_ck_g4 : (List.range' 11 5).all (fun k => mx_ckc mx_pg k 0) = true := by decide +kernel
theorem mx_ck_g5 : (List.range' 16 3).all (fun k => mx_ckc mx_pg k 0) = true := by decide +kernel
theorem mx_ck_g6 : (List.range' 19 1).all (fun k => mx_ckc mx_pg k 0) = true := by decide +kernel
theorem mx_ck_g7 : (List.range' 19 1).all (fun k => mx_ckc mx_pg k 1) = true := by decide +kernel
theorem mx_ck_g8 : (List.range' 20 1).all (fun k => mx_ckc mx_pg k 0) = true := by decide +kernel
theorem mx_ck_g9 : (List.range' 21 1).all (fun k => mx_ckc mx_pg k 0) = true := by decide +kernel
theorem mx_ck_g10 : (List.range' 21 1).all (fun k => mx_ckc mx_pg k 1) = true := by decide +kernel
theorem mx_ck_g11 : (List.range' 22 8).all (fun k => mx_ckc mx_pg k 0) = true := by decide +kernel
theorem mx_ck_g12 : (List.range' 30 2).all (fun k => mx_ckc mx_pg k 0) = true := by decide +kernel
theorem mx_ck_g13 : (List.range' 32 1).all (fun k => mx_ckc mx_pg k 0) = true := by decide +kernel
theorem mx_ck_g14 : (List.range' 32 1).all (fun k => mx_ckc mx_pg k 1) = true := by decide +kernel
theorem mx_ck_g15 : (List.range' 32 1).all (fun k => mx_ckc mx_pg k 2) = true := by decide +kernel
theorem mx_ck_g16 : (List.range' 32 1).all (fun k => mx_ckc mx_pg k 3) = true := by decide +kernel
theorem mx_ck_g17 : (List.range' 32 1).all (fun k => mx_ckc mx_pg k 4) = true := by decide +kernel
theorem mx_ck_g18 : (List.range' 33 1).all (fun k => mx_ckc mx_pg k 0) = true := by decide +kernel
theorem mx_ck_g19 : (List.range' 33 1).all (fun k => mx_ckc mx_pg k 1) = true := by decide +kernel
theorem mx_ck_g20 : (List.range' 34 1).all (fun k => mx_ckc mx_pg k 0) = true := by decide +kernel
theorem mx_ck_g21 : (List.range' 35 1).all (fun k => mx_ckc mx_pg k 0) = true := by decide +kernel
theorem mx_ck_g22 : (List.range' 35 1).all (fun k => mx_ckc mx_pg k 1) = true := by decide +kernel
theorem mx_ck_g23 : (List.range' 35 1).all (fun k => mx_ckc mx_pg k 2) = true := by decide +kernel
theorem mx_ck_g24 : (List.range' 36 1).all (fun k => mx_ckc mx_pg k 0) = true := by decide +kernel
theorem mx_ck_g25 : (List.range' 36 1).all (fun k => mx_ckc mx_pg k 1) = true := by decide +kernel
theorem mx_ck_g26 : (List.range' 37 1).all (fun k => mx_ckc mx_pg k 0) = true := by decide +kernel
theorem mx_ck_g27 : (List.range' 37 1).all (fun k => mx_ckc mx_pg k 1) = true := by decide +kernel
theorem mx_ck_g28 : (List.range' 37 1).all (fun k => mx_ckc mx_pg k 2) = true := by decide +kernel
theorem mx_ck_g29 : (List.range' 38 1).all (fun k => mx_ckc mx_pg k 0) = true := by decide +kernel
theorem mx_ck_g30 : (List.range' 38 1).all (fun k => mx_ckc mx_pg k 1) = true := by decide +kernel
theorem mx_ck_g31 : (List.range' 38 1).all (fun k => mx_ckc mx_pg k 2) = true := by decide +kernel
theorem mx_ck_g32 : (List.range' 39 2).all (fun k => mx_ckc mx_pg k 0) = true := by decide +kernel
theorem mx_ck_g33 : (List.range' 41 1).all (fun k => mx_ckc mx_pg k 0) = true := by decide +kernel
theorem mx_ck_g34 : (List.range' 41 1).all (fun k => mx_ckc mx_pg k 1) = true := by decide +kernel
theorem mx_ck_g35 : (List.range' 42 6).all (fun k => mx_ckc mx_pg k 0) = true := by decide +kernel
theorem mx_ck_g36 : (List.range' 48 1).all (fun k => mx_ckc mx_pg k 0) = true := by decide +kernel
theorem mx_ck_g37 : (List.range' 48 1).all (fun k => mx_ckc mx_pg k 1) = true := by decide +kernel
theorem mx_ck_g38 : (List.range' 48 1).all (fun k => mx_ckc mx_pg k 2) = true := by decide +kernel
theorem mx_ck_g39 : (List.range' 48 1).all (fun k => mx_ckc mx_pg k 3) = true := by decide +kernel
theorem mx_ck_g40 : (List.range' 48 1).all (fun k => mx_ckc mx_pg k 4) = true := by decide +kernel
theorem mx_ck_g41 : (List.range' 48 1).all (fun k => mx_ckc mx_pg k 5) = true := by decide +kernel
theorem mx_pg_len : mx_pg.length = 49 := by decide +kernel
theorem mx_me_0 : mx_me eX0_init.1 eX0_init.2.1 ∧ eX0_init.1.2.2.1 ≤ 21 := ⟨⟨mx_mem (c := 1210) rfl (by decide +kernel), mx_mem (c := 1009) rfl (by decide +kernel), by decide +kernel, by decide +kernel⟩, by decide⟩
theorem mx_me_1 : mx_me eX1_init.1 eX1_init.2.1 ∧ eX1_init.1.2.2.1 ≤ 21 := ⟨⟨mx_mem (c := 1123) rfl (by decide +kernel), mx_mem (c := 1006) rfl (by decide +kernel), by decide +kernel, by decide +kernel⟩, by decide⟩
theorem mx_me_2 : mx_me eX1_accepts.1 eX1_accepts.2.1 ∧ eX1_accepts.1.2.2.1 ≤ 21 := ⟨⟨mx_mem (c := 3119) rfl (by decide +kernel), mx_mem (c := 1006) rfl (by decide +kernel), by decide +kernel, by decide +kernel⟩, by decide⟩
theorem mx_me_3 : mx_me eX2_init.1 eX2_init.2.1 ∧ eX2_init.1.2.2.1 ≤ 21 := ⟨⟨mx_mem (c := 1060) rfl (by decide +kernel), mx_mem (c := 1003) rfl (by decide +kernel), by decide +kernel, by decide +kernel⟩, by decide⟩
theorem mx_me_4 : mx_me eX2_accepts.1 eX2_accepts.2.1 ∧ eX2_accepts.1.2.2.1 ≤ 21 := ⟨⟨mx_mem (c := 3079) rfl (by decide +kernel), mx_mem (c := 1003) rfl (by decide +kernel), by decide +kernel, by decide +kernel⟩, by decide⟩
theorem mx_me_5 : mx_me eX3_init.1 eX3_init.2.1 ∧ eX3_init.1.2.2.1 ≤ 21 := ⟨⟨mx_mem (c := 1191) rfl (by decide +kernel), mx_mem (c := 1008) rfl (by decide +kernel), by decide +kernel, by decide +kernel⟩, by decide⟩
theorem mx_me_6 : mx_me eX4_init.1 eX4_init.2.1 ∧ eX4_init.1.2.2.1 ≤ 21 := ⟨⟨mx_mem (c := 1129) rfl (by decide +kernel), mx_mem (c := 1007) rfl (by decide +kernel), by decide +kernel, by decide +kernel⟩, by decide⟩
theorem mx_me_7 : mx_me eX4_clear.1 eX4_clear.2.1 ∧ eX4_clear.1.2.2.1 ≤ 21 := ⟨⟨mx_mem (c := 3131) rfl (by decide +kernel), mx_mem (c := 1007) rfl (by decide +kernel), by decide +kernel, by decide +kernel⟩, by decide⟩
theorem mx_me_8 : mx_me eX4_total.1 eX4_total.2.1 ∧ eX4_total.1.2.2.1 ≤ 21 := ⟨⟨mx_mem (c := 4049) rfl (by decide +kernel), mx_mem (c := 1007) rfl (by decide +kernel), by decide +kernel, by decide +kernel⟩, by decide⟩
theorem mx_me_9 : mx_me eX5_init.1 eX5_init.2.1 ∧ eX5_init.1.2.2.1 ≤ 21 := ⟨⟨mx_mem (c := 2010) rfl (by decide +kernel), mx_mem (c := 1011) rfl (by decide +kernel), by decide +kernel, by decide +kernel⟩, by decide⟩
theorem mx_me_10 : mx_me eX6_init.1 eX6_init.2.1 ∧ eX6_init.1.2.2.1 ≤ 21 := ⟨⟨mx_mem (c := 2004) rfl (by decide +kernel), mx_mem (c := 1010) rfl (by decide +kernel), by decide +kernel, by decide +kernel⟩, by decide⟩
theorem mx_me_11 : mx_me eX7_init.1 eX7_init.2.1 ∧ eX7_init.1.2.2.1 ≤ 21 := ⟨⟨mx_mem (c := 1089) rfl (by decide +kernel), mx_mem (c := 1005) rfl (by decide +kernel), by decide +kernel, by decide +kernel⟩, by decide⟩
theorem mx_me_12 : mx_me eX7_clear.1 eX7_clear.2.1 ∧ eX7_clear.1.2.2.1 ≤ 21 := ⟨⟨mx_mem (c := 3127) rfl (by decide +kernel), mx_mem (c := 1005) rfl (by decide +kernel), by decide +kernel, by decide +kernel⟩, by decide⟩
theorem mx_me_13 : mx_me eX8_init.1 eX8_init.2.1 ∧ eX8_init.1.2.2.1 ≤ 21 := ⟨⟨mx_mem (c := 1034) rfl (by decide +kernel), mx_mem (c := 1002) rfl (by decide +kernel), by decide +kernel, by decide +kernel⟩, by decide⟩
theorem mx_me_14 : mx_me eX8_read.1 eX8_read.2.1 ∧ eX8_read.1.2.2.1 ≤ 21 := ⟨⟨mx_mem (c := 2168) rfl (by decide +kernel), mx_mem (c := 1002) rfl (by decide +kernel), by decide +kernel, by decide +kernel⟩, by decide⟩
theorem mx_me_15 : mx_me eX8_kind.1 eX8_kind.2.1 ∧ eX8_kind.1.2.2.1 ≤ 21 := ⟨⟨mx_mem (c := 3083) rfl (by decide +kernel), mx_mem (c := 1002) rfl (by decide +kernel), by decide +kernel, by decide +kernel⟩, by decide⟩
theorem mx_me_16 : mx_me eX9_init.1 eX9_init.2.1 ∧ eX9_init.1.2.2.1 ≤ 21 := ⟨⟨mx_mem (c := 1073) rfl (by decide +kernel), mx_mem (c := 1004) rfl (by decide +kernel), by decide +kernel, by decide +kernel⟩, by decide⟩
theorem mx_me_17 : mx_me eX9_clear.1 eX9_clear.2.1 ∧ eX9_clear.1.2.2.1 ≤ 21 := ⟨⟨mx_mem (c := 3123) rfl (by decide +kernel), mx_mem (c := 1004) rfl (by decide +kernel), by decide +kernel, by decide +kernel⟩, by decide⟩
theorem mx_me_18 : mx_me eX10_init.1 eX10_init.2.1 ∧ eX10_init.1.2.2.1 ≤ 21 := ⟨⟨mx_mem (c := 2078) rfl (by decide +kernel), mx_mem (c := 1012) rfl (by decide +kernel), by decide +kernel, by decide +kernel⟩, by decide⟩
theorem mx_me_19 : mx_me eX11_init.1 eX11_init.2.1 ∧ eX11_init.1.2.2.1 ≤ 21 := ⟨⟨mx_mem (c := 1026) rfl (by decide +kernel), mx_mem (c := 1001) rfl (by decide +kernel), by decide +kernel, by decide +kernel⟩, by decide⟩
theorem mx_me_20 : mx_me eX11_feed.1 eX11_feed.2.1 ∧ eX11_feed.1.2.2.1 ≤ 21 := ⟨⟨mx_mem (c := 2156) rfl (by decide +kernel), mx_mem (c := 1001) rfl (by decide +kernel), by decide +kernel, by decide +kernel⟩, by decide⟩
theorem mx_me_21 : mx_me eX11_load.1 eX11_load.2.1 ∧ eX11_load.1.2.2.1 ≤ 21 := ⟨⟨mx_mem (c := 2164) rfl (by decide +kernel), mx_mem (c := 1001) rfl (by decide +kernel), by decide +kernel, by decide +kernel⟩, by decide⟩
theorem mx_me_22 : mx_me eX11_told.1 eX11_told.2.1 ∧ eX11_told.1.2.2.1 ≤ 21 := ⟨⟨mx_mem (c := 4062) rfl (by decide +kernel), mx_mem (c := 1001) rfl (by decide +kernel), by decide +kernel, by decide +kernel⟩, by decide⟩
theorem mx_me_23 : mx_me eX11_count.1 eX11_count.2.1 ∧ eX11_count.1.2.2.1 ≤ 21 := ⟨⟨mx_mem (c := 4066) rfl (by decide +kernel), mx_mem (c := 1001) rfl (by decide +kernel), by decide +kernel, by decide +kernel⟩, by decide⟩
theorem mx_me_24 : mx_me eX11_solve.1 eX11_solve.2.1 ∧ eX11_solve.1.2.2.1 ≤ 21 := ⟨⟨mx_mem (c := 4082) rfl (by decide +kernel), mx_mem (c := 1001) rfl (by decide +kernel), by decide +kernel, by decide +kernel⟩, by decide⟩
theorem mx_me_25 : mx_me eX11_fresh.1 eX11_fresh.2.1 ∧ eX11_fresh.1.2.2.1 ≤ 21 := ⟨⟨mx_mem (c := 5076) rfl (by decide +kernel), mx_mem (c := 1001) rfl (by decide +kernel), by decide +kernel, by decide +kernel⟩, by decide⟩
theorem mx_me_26 : mx_me eX11_size.1 eX11_size.2.1 ∧ eX11_size.1.2.2.1 ≤ 21 := ⟨⟨mx_mem (c := 5088) rfl (by decide +kernel), mx_mem (c := 1001) rfl (by decide +kernel), by decide +kernel, by decide +kernel⟩, by decide⟩
theorem mx_me_27 : mx_me eX11_letter.1 eX11_letter.2.1 ∧ eX11_letter.1.2.2.1 ≤ 21 := ⟨⟨mx_mem (c := 5158) rfl (by decide +kernel), mx_mem (c := 1001) rfl (by decide +kernel), by decide +kernel, by decide +kernel⟩, by decide⟩
theorem mx_me_28 : mx_me eX11_side.1 eX11_side.2.1 ∧ eX11_side.1.2.2.1 ≤ 21 := ⟨⟨mx_mem (c := 5166) rfl (by decide +kernel), mx_mem (c := 1001) rfl (by decide +kernel), by decide +kernel, by decide +kernel⟩, by decide⟩
theorem mx_me_29 : mx_me eX11_sideLetter.1 eX11_sideLetter.2.1 ∧ eX11_sideLetter.1.2.2.1 ≤ 21 := ⟨⟨mx_mem (c := 5171) rfl (by decide +kernel), mx_mem (c := 1001) rfl (by decide +kernel), by decide +kernel, by decide +kernel⟩, by decide⟩
theorem mx_me_30 : mx_me eX11_hasSolution.1 eX11_hasSolution.2.1 ∧ eX11_hasSolution.1.2.2.1 ≤ 21 := ⟨⟨mx_mem (c := 5080) rfl (by decide +kernel), mx_mem (c := 1001) rfl (by decide +kernel), by decide +kernel, by decide +kernel⟩, by decide⟩
theorem mx_me_31 : mx_me eX11_takeWord.1 eX11_takeWord.2.1 ∧ eX11_takeWord.1.2.2.1 ≤ 21 := ⟨⟨mx_mem (c := 2160) rfl (by decide +kernel), mx_mem (c := 1001) rfl (by decide +kernel), by decide +kernel, by decide +kernel⟩, by decide⟩
theorem mx_me_32 : mx_me eX12_init.1 eX12_init.2.1 ∧ eX12_init.1.2.2.1 ≤ 21 := ⟨⟨mx_mem (c := 5176) rfl (by decide +kernel), mx_mem (c := 1013) rfl (by decide +kernel), by decide +kernel, by decide +kernel⟩, by decide⟩
theorem mx_me_33 : mx_me eX12_feed.1 eX12_feed.2.1 ∧ eX12_feed.1.2.2.1 ≤ 21 := ⟨⟨mx_mem (c := 6216) rfl (by decide +kernel), mx_mem (c := 1013) rfl (by decide +kernel), by decide +kernel, by decide +kernel⟩, by decide⟩
theorem mx_me_34 : mx_me eX12_byteAt.1 eX12_byteAt.2.1 ∧ eX12_byteAt.1.2.2.1 ≤ 21 := ⟨⟨mx_mem (c := 6228) rfl (by decide +kernel), mx_mem (c := 1013) rfl (by decide +kernel), by decide +kernel, by decide +kernel⟩, by decide⟩
theorem mx_me_35 : mx_me eX12_tokenAt.1 eX12_tokenAt.2.1 ∧ eX12_tokenAt.1.2.2.1 ≤ 21 := ⟨⟨mx_mem (c := 6232) rfl (by decide +kernel), mx_mem (c := 1013) rfl (by decide +kernel), by decide +kernel, by decide +kernel⟩, by decide⟩
theorem mx_me_36 : mx_me eX12_cut.1 eX12_cut.2.1 ∧ eX12_cut.1.2.2.1 ≤ 21 := ⟨⟨mx_mem (c := 6224) rfl (by decide +kernel), mx_mem (c := 1013) rfl (by decide +kernel), by decide +kernel, by decide +kernel⟩, by decide⟩
theorem mx_me_37 : mx_me eX12_read.1 eX12_read.2.1 ∧ eX12_read.1.2.2.1 ≤ 21 := ⟨⟨mx_mem (c := 7013) rfl (by decide +kernel), mx_mem (c := 1013) rfl (by decide +kernel), by decide +kernel, by decide +kernel⟩, by decide⟩
theorem mx_me_38 : mx_me eX12_load.1 eX12_load.2.1 ∧ eX12_load.1.2.2.1 ≤ 21 := ⟨⟨mx_mem (c := 6220) rfl (by decide +kernel), mx_mem (c := 1013) rfl (by decide +kernel), by decide +kernel, by decide +kernel⟩, by decide⟩
theorem mx_me_39 : mx_me eX12_told.1 eX12_told.2.1 ∧ eX12_told.1.2.2.1 ≤ 21 := ⟨⟨mx_mem (c := 7109) rfl (by decide +kernel), mx_mem (c := 1013) rfl (by decide +kernel), by decide +kernel, by decide +kernel⟩, by decide⟩
theorem mx_me_40 : mx_me eX12_count.1 eX12_count.2.1 ∧ eX12_count.1.2.2.1 ≤ 21 := ⟨⟨mx_mem (c := 7113) rfl (by decide +kernel), mx_mem (c := 1013) rfl (by decide +kernel), by decide +kernel, by decide +kernel⟩, by decide⟩
theorem mx_me_41 : mx_me eX12_solve.1 eX12_solve.2.1 ∧ eX12_solve.1.2.2.1 ≤ 21 := ⟨⟨mx_mem (c := 7117) rfl (by decide +kernel), mx_mem (c := 1013) rfl (by decide +kernel), by decide +kernel, by decide +kernel⟩, by decide⟩
theorem mx_me_42 : mx_me eX12_fresh.1 eX12_fresh.2.1 ∧ eX12_fresh.1.2.2.1 ≤ 21 := ⟨⟨mx_mem (c := 7233) rfl (by decide +kernel), mx_mem (c := 1013) rfl (by decide +kernel), by decide +kernel, by decide +kernel⟩, by decide⟩
theorem mx_me_43 : mx_me eX12_size.1 eX12_size.2.1 ∧ eX12_size.1.2.2.1 ≤ 21 := ⟨⟨mx_mem (c := 7237) rfl (by decide +kernel), mx_mem (c := 1013) rfl (by decide +kernel), by decide +kernel, by decide +kernel⟩, by decide⟩
theorem mx_me_44 : mx_me eX12_letter.1 eX12_letter.2.1 ∧ eX12_letter.1.2.2.1 ≤ 21 := ⟨⟨mx_mem (c := 8005) rfl (by decide +kernel), mx_mem (c := 1013) rfl (by decide +kernel), by decide +kernel, by decide +kernel⟩, by decide⟩
theorem mx_me_45 : mx_me eX12_side.1 eX12_side.2.1 ∧ eX12_side.1.2.2.1 ≤ 21 := ⟨⟨mx_mem (c := 8010) rfl (by decide +kernel), mx_mem (c := 1013) rfl (by decide +kernel), by decide +kernel, by decide +kernel⟩, by decide⟩
theorem mx_me_46 : mx_me eX12_sideLetter.1 eX12_sideLetter.2.1 ∧ eX12_sideLetter.1.2.2.1 ≤ 21 := ⟨⟨mx_mem (c := 8014) rfl (by decide +kernel), mx_mem (c := 1013) rfl (by decide +kernel), by decide +kernel, by decide +kernel⟩, by decide⟩
theorem mx_me_47 : mx_me eJ7_fill_53178.1 eJ7_fill_53178.2.1 ∧ eJ7_fill_53178.1.2.2.1 ≤ 21 := ⟨⟨mx_mem (c := 4094) rfl (by decide +kernel), mx_mem (c := 1021) rfl (by decide +kernel), by decide +kernel, by decide +kernel⟩, by decide⟩
theorem mx_rng {a b k : Nat} {p : Nat → Bool} (h : (List.range' a b).all p = true) (h1 : a ≤ k) (h2 : k < a + b) : p k = true := List.all_eq_true.mp h k (List.mem_range'_1.mpr ⟨h1, h2⟩)
theorem mx_ck_len : ∀ k, k < 49 → (match mx_pg[k]? with | none => false | some e => Nat.ble e.2.2.2.length ([50, 50, 100, 50, 50, 50, 50, 50, 50, 50, 50, 50, 50, 50, 50, 50, 50, 50, 50, 100, 50, 100, 50, 50, 50, 50, 50, 50, 50, 50, 50, 50, 250, 100, 50, 150, 100, 150, 150, 50, 50, 100, 50, 50, 50, 50, 50, 50, 300].getD k 0)) = true := by decide +kernel
theorem mx_me_all : ∀ k e, mx_pg[k]? = some e → k + 1 < mx_pg.length → mx_me e.1 e.2.1 ∧ e.1.2.2.1 ≤ 21 := by
  intro k e he hk
  rw [mx_pg_len] at hk
  match k, hk, he with
  | 0, _, he => cases he; exact mx_me_0
  | 1, _, he => cases he; exact mx_me_1
  | 2, _, he => cases he; exact mx_me_2
  | 3, _, he => cases he; exact mx_me_3
  | 4, _, he => cases he; exact mx_me_4
  | 5, _, he => cases he; exact mx_me_5
  | 6, _, he => cases he; exact mx_me_6
  | 7, _, he => cases he; exact mx_me_7
  | 8, _, he => cases he; exact mx_me_8
  | 9, _, he => cases he; exact mx_me_9
  | 10, _, he => cases he; exact mx_me_10
  | 11, _, he => cases he; exact mx_me_11
  | 12, _, he => cases he; exact mx_me_12
  | 13, _, he => cases he; exact mx_me_13
  | 14, _, he => cases he; exact mx_me_14
  | 15, _, he => cases he; exact mx_me_15
  | 16, _, he => cases he; exact mx_me_16
  | 17, _, he => cases he; exact mx_me_17
  | 18, _, he => cases he; exact mx_me_18
  | 19, _, he => cases he; exact mx_me_19
  | 20, _, he => cases he; exact mx_me_20
  | 21, _, he => cases he; exact mx_me_21
  | 22, _, he => cases he; exact mx_me_22
  | 23, _, he => cases he; exact mx_me_23
  | 24, _, he => cases he; exact mx_me_24
  | 25, _, he => cases he; exact mx_me_25
  | 26, _, he => cases he; exact mx_me_26
  | 27, _, he => cases he; exact mx_me_27
  | 28, _, he => cases he; exact mx_me_28
  | 29, _, he => cases he; exact mx_me_29
  | 30, _, he => cases he; exact mx_me_30
  | 31, _, he => cases he; exact mx_me_31
  | 32, _, he => cases he; exact mx_me_32
  | 33, _, he => cases he; exact mx_me_33
  | 34, _, he => cases he; exact mx_me_34
  | 35, _, he => cases he; exact mx_me_35
  | 36, _, he => cases he; exact mx_me_36
  | 37, _, he => cases he; exact mx_me_37
  | 38, _, he => cases he; exact mx_me_38
  | 39, _, he => cases he; exact mx_me_39
  | 40, _, he => cases he; exact mx_me_40
  | 41, _, he => cases he; exact mx_me_41
  | 42, _, he => cases he; exact mx_me_42
  | 43, _, he => cases he; exact mx_me_43
  | 44, _, he => cases he; exact mx_me_44
  | 45, _, he => cases he; exact mx_me_45
  | 46, _, he => cases he; exact mx_me_46
  | 47, _, he => cases he; exact mx_me_47
  | k + 48, hk, _ => exact absurd hk (by omega)
theorem mx_pg_ok : mx_pok mx_pg := by
  refine mx_pok_of mx_me_all (fun k hk j => ?_) ⟨mx_has_ok (c := 1028) (by decide +kernel), mx_has_ok (c := 1029) (by decide +kernel)⟩
  rw [mx_pg_len] at hk
  have hl := mx_ck_len k hk
  by_cases he : ∃ e, mx_pg[k]? = some e ∧ e.2.2.2.length ≤ 50 * j
  · obtain ⟨e, he, hj⟩ := he; exact mx_ckc_end he hj
  split at hl
  · cases hl
  rename_i e hek
  have hj : ¬ ([50, 50, 100, 50, 50, 50, 50, 50, 50, 50, 50, 50, 50, 50, 50, 50, 50, 50, 50, 100, 50, 100, 50, 50, 50, 50, 50, 50, 50, 50, 50, 50, 250, 100, 50, 150, 100, 150, 150, 50, 50, 100, 50, 50, 50, 50, 50, 50, 300].getD k 0) ≤ 50 * j := fun q => he ⟨e, hek, Nat.le_trans (Nat.ble_eq.mp hl) q⟩
  clear he hl hek
  by_cases h0 : k < 2
  · have hj0 : j = 0 := by (rcases (show k = 0 ∨ k = 1 by omega) with rfl | rfl) <;> (simp at hj; omega)
    subst hj0; exact mx_rng (p := fun k => mx_ckc mx_pg k 0) mx_ck_g0 (by omega) (by omega)
  by_cases h1 : k < 3
  · have hk0 : k = 2 := by omega
    subst hk0
    have hj0 : j < 2 := by (simp at hj; omega)
    rcases (show j = 0 ∨ j = 1 by omega) with rfl | rfl
    · exact mx_rng (p := fun k => mx_ckc mx_pg k 0) mx_ck_g1 (by omega) (by omega)
    · exact mx_rng (p := fun k => mx_ckc mx_pg k 1) mx_ck_g2 (by omega) (by omega)
  by_cases h3 : k < 11
  · have hj0 : j = 0 := by (rcases (show k = 3 ∨ k = 4 ∨ k = 5 ∨ k = 6 ∨ k = 7 ∨ k = 8 ∨ k = 9 ∨ k = 10 by omega) with rfl | rfl | rfl | rfl | rfl | rfl | rfl | rfl) <;> (simp at hj; omega)
    subst hj0; exact mx_rng (p := fun k => mx_ckc mx_pg k 0) mx_ck_g3 (by omega) (by omega)
  by_cases h4 : k < 16
  · have hj0 : j = 0 := by (rcases (show k = 11 ∨ k = 12 ∨ k = 13 ∨ k = 14 ∨ k = 15 by omega) with rfl | rfl | rfl | rfl | rfl) <;> (simp at hj; omega)
    subst hj0; exact mx_rng (p := fun k => mx_ckc mx_pg k 0) mx_ck_g4 (by omega) (by omega)
  by_cases h5 : k < 19
  · have hj0 : j = 0 := by (rcases (show k = 16 ∨ k = 17 ∨ k = 18 by omega) with rfl | rfl | rfl) <;> (simp at hj; omega)
    subst hj0; exact mx_rng (p := fun k => mx_ckc mx_pg k 0) mx_ck_g5 (by omega) (by omega)
  by_cases h6 : k < 20
  · have hk0 : k = 19 := by omega
    subst hk0
    have hj0 : j < 2 := by (simp at hj; omega)
    rcases (show j = 0 ∨ j = 1 by omega) with rfl | rfl
    · exact mx_rng (p := fun k => mx_ckc mx_pg k 0) mx_ck_g6 (by omega) (by omega)
    · exact mx_rng (p := fun k => mx_ckc mx_pg k 1) mx_ck_g7 (by omega) (by omega)
  by_cases h8 : k < 21
  · have hj0 : j = 0 := by (rcases (show k = 20 by omega) with rfl) <;> (simp at hj; omega)
    subst hj0; exact mx_rng (p := fun k => mx_ckc mx_pg k 0) mx_ck_g8 (by omega) (by omega)
  by_cases h9 : k < 22
  · have hk0 : k = 21 := by omega
    subst hk0
    have hj0 : j < 2 := by (simp at hj; omega)
    rcases (show j = 0 ∨ j = 1 by omega) with rfl | rfl
    · exact mx_rng (p := fun k => mx_ckc mx_pg k 0) mx_ck_g9 (by omega) (by omega)
    · exact mx_rng (p := fun k => mx_ckc mx_pg k 1) mx_ck_g10 (by omega) (by omega)
  by_cases h11 : k < 30
  · have hj0 : j = 0 := by (rcases (show k = 22 ∨ k = 23 ∨ k = 24 ∨ k = 25 ∨ k = 26 ∨ k = 27 ∨ k = 28 ∨ k = 29 by omega) with rfl | rfl | rfl | rfl | rfl | rfl | rfl | rfl) <;> (simp at hj; omega)
    subst hj0; exact mx_rng (p := fun k => mx_ckc mx_pg k 0) mx_ck_g11 (by omega) (by omega)
  by_cases h12 : k < 32
  · have hj0 : j = 0 := by (rcases (show k = 30 ∨ k = 31 by omega) with rfl | rfl) <;> (simp at hj; omega)
    subst hj0; exact mx_rng (p := fun k => mx_ckc mx_pg k 0) mx_ck_g12 (by omega) (by omega)
  by_cases h13 : k < 33
  · have hk0 : k = 32 := by omega
    subst hk0
    have hj0 : j < 5 := by (simp at hj; omega)
    rcases (show j = 0 ∨ j = 1 ∨ j = 2 ∨ j = 3 ∨ j = 4 by omega) with rfl | rfl | rfl | rfl | rfl
    · exact mx_rng (p := fun k => mx_ckc mx_pg k 0) mx_ck_g13 (by omega) (by omega)
    · exact mx_rng (p := fun k => mx_ckc mx_pg k 1) mx_ck_g14 (by omega) (by omega)
    · exact mx_rng (p := fun k => mx_ckc mx_pg k 2) mx_ck_g15 (by omega) (by omega)
    · exact mx_rng (p := fun k => mx_ckc mx_pg k 3) mx_ck_g16 (by omega) (by omega)
    · exact mx_rng (p := fun k => mx_ckc mx_pg k 4) mx_ck_g17 (by omega) (by omega)
  by_cases h18 : k < 34
  · have hk0 : k = 33 := by omega
    subst hk0
    have hj0 : j < 2 := by (simp at hj; omega)
    rcases (show j = 0 ∨ j = 1 by omega) with rfl | rfl
    · exact mx_rng (p := fun k => mx_ckc mx_pg k 0) mx_ck_g18 (by omega) (by omega)
    · exact mx_rng (p := fun k => mx_ckc mx_pg k 1) mx_ck_g19 (by omega) (by omega)
  by_cases h20 : k < 35
  · have hj0 : j = 0 := by (rcases (show k = 34 by omega) with rfl) <;> (simp at hj; omega)
    subst hj0; exact mx_rng (p := fun k => mx_ckc mx_pg k 0) mx_ck_g20 (by omega) (by omega)
  by_cases h21 : k < 36
  · have hk0 : k = 35 := by omega
    subst hk0
    have hj0 : j < 3 := by (simp at hj; omega)
    rcases (show j = 0 ∨ j = 1 ∨ j = 2 by omega) with rfl | rfl | rfl
    · exact mx_rng (p := fun k => mx_ckc mx_pg k 0) mx_ck_g21 (by omega) (by omega)
    · exact mx_rng (p := fun k => mx_ckc mx_pg k 1) mx_ck_g22 (by omega) (by omega)
    · exact mx_rng (p := fun k => mx_ckc mx_pg k 2) mx_ck_g23 (by omega) (by omega)
  by_cases h24 : k < 37
  · have hk0 : k = 36 := by omega
    subst hk0
    have hj0 : j < 2 := by (simp at hj; omega)
    rcases (show j = 0 ∨ j = 1 by omega) with rfl | rfl
    · exact mx_rng (p := fun k => mx_ckc mx_pg k 0) mx_ck_g24 (by omega) (by omega)
    · exact mx_rng (p := fun k => mx_ckc mx_pg k 1) mx_ck_g25 (by omega) (by omega)
  by_cases h26 : k < 38
  · have hk0 : k = 37 := by omega
    subst hk0
    have hj0 : j < 3 := by (simp at hj; omega)
    rcases (show j = 0 ∨ j = 1 ∨ j = 2 by omega) with rfl | rfl | rfl
    · exact mx_rng (p := fun k => mx_ckc mx_pg k 0) mx_ck_g26 (by omega) (by omega)
    · exact mx_rng (p := fun k => mx_ckc mx_pg k 1) mx_ck_g27 (by omega) (by omega)
    · exact mx_rng (p := fun k => mx_ckc mx_pg k 2) mx_ck_g28 (by omega) (by omega)
  by_cases h29 : k < 39
  · have hk0 : k = 38 := by omega
    subst hk0
    have hj0 : j < 3 := by (simp at hj; omega)
    rcases (show j = 0 ∨ j = 1 ∨ j = 2 by omega) with rfl | rfl | rfl
    · exact mx_rng (p := fun k => mx_ckc mx_pg k 0) mx_ck_g29 (by omega) (by omega)
    · exact mx_rng (p := fun k => mx_ckc mx_pg k 1) mx_ck_g30 (by omega) (by omega)
    · exact mx_rng (p := fun k => mx_ckc mx_pg k 2) mx_ck_g31 (by omega) (by omega)
  by_cases h32 : k < 41
  · have hj0 : j = 0 := by (rcases (show k = 39 ∨ k = 40 by omega) with rfl | rfl) <;> (simp at hj; omega)
    subst hj0; exact mx_rng (p := fun k => mx_ckc mx_pg k 0) mx_ck_g32 (by omega) (by omega)
  by_cases h33 : k < 42
  · have hk0 : k = 41 := by omega
    subst hk0
    have hj0 : j < 2 := by (simp at hj; omega)
    rcases (show j = 0 ∨ j = 1 by omega) with rfl | rfl
    · exact mx_rng (p := fun k => mx_ckc mx_pg k 0) mx_ck_g33 (by omega) (by omega)
    · exact mx_rng (p := fun k => mx_ckc mx_pg k 1) mx_ck_g34 (by omega) (by omega)
  by_cases h35 : k < 48
  · have hj0 : j = 0 := by (rcases (show k = 42 ∨ k = 43 ∨ k = 44 ∨ k = 45 ∨ k = 46 ∨ k = 47 by omega) with rfl | rfl | rfl | rfl | rfl | rfl) <;> (simp at hj; omega)
    subst hj0; exact mx_rng (p := fun k => mx_ckc mx_pg k 0) mx_ck_g35 (by omega) (by omega)
  by_cases h36 : k < 49
  · have hk0 : k = 48 := by omega
    subst hk0
    have hj0 : j < 6 := by (simp at hj; omega)
    rcases (show j = 0 ∨ j = 1 ∨ j = 2 ∨ j = 3 ∨ j = 4 ∨ j = 5 by omega) with rfl | rfl | rfl | rfl | rfl | rfl
    · exact mx_rng (p := fun k => mx_ckc mx_pg k 0) mx_ck_g36 (by omega) (by omega)
    · exact mx_rng (p := fun k => mx_ckc mx_pg k 1) mx_ck_g37 (by omega) (by omega)
    · exact mx_rng (p := fun k => mx_ckc mx_pg k 2) mx_ck_g38 (by omega) (by omega)
    · exact mx_rng (p := fun k => mx_ckc mx_pg k 3) mx_ck_g39 (by omega) (by omega)
    · exact mx_rng (p := fun k => mx_ckc mx_pg k 4) mx_ck_g40 (by omega) (by omega)
    · exact mx_rng (p := fun k => mx_ckc mx_pg k 5) mx_ck_g41 (by omega) (by omega)
  exact absurd hk (by omega)
