theorem wi_X0 : ∀ w ∈ u_ws RX0 TX0 3, w ∈ tw := by decide +kernel
theorem wi_X1 : ∀ w ∈ u_ws RX1 TX1 1, w ∈ tw := by decide +kernel
theorem wi_X2 : ∀ w ∈ u_ws RX2 TX2 10, w ∈ tw := by decide +kernel
theorem wi_X3 : ∀ w ∈ u_ws RX3 TX3 6, w ∈ tw := by decide +kernel
theorem wi_X4 : ∀ w ∈ u_ws RX4 TX4 2, w ∈ tw := by decide +kernel
theorem wi_X5 : ∀ w ∈ u_ws RX5 TX5 5, w ∈ tw := by decide +kernel
theorem wi_X6 : ∀ w ∈ u_ws RX6 TX6 11, w ∈ tw := by decide +kernel
theorem wi_X7 : ∀ w ∈ u_ws RX7 TX7 3, w ∈ tw := by decide +kernel
theorem wi_X8 : ∀ w ∈ u_ws RX8 TX8 8, w ∈ tw := by decide +kernel
theorem wi_X9 : ∀ w ∈ u_ws RX9 TX9 6, w ∈ tw := by decide +kernel
theorem wi_X10 : ∀ w ∈ u_ws RX10 TX10 15, w ∈ tw := by decide +kernel
theorem wi_X11 : ∀ w ∈ u_ws RX11 TX11 52, w ∈ tw := by decide +kernel
theorem pn_J6 : plainName RJ6 = true := by decide +kernel
theorem pn_J7 : plainName RJ7 = true := by decide +kernel
theorem pn_X0 : plainName RX0 = true := by decide +kernel
theorem pn_X1 : plainName RX1 = true := by decide +kernel
theorem pn_X10 : plainName RX10 = true := by decide +kernel
theorem pn_X11 : plainName RX11 = true := by decide +kernel
theorem pn_X2 : plainName RX2 = true := by decide +kernel
theorem pn_X3 : plainName RX3 = true := by decide +kernel
theorem pn_X4 : plainName RX4 = true := by decide +kernel
theorem pn_X5 : plainName RX5 = true := by decide +kernel
theorem pn_X6 : plainName RX6 = true := by decide +kernel
theorem pn_X7 : plainName RX7 = true := by decide +kernel
theorem pn_X8 : plainName RX8 = true := by decide +kernel
theorem pn_X9 : plainName RX9 = true := by decide +kernel
theorem fl_X0_9 : jFL RX0 9 0 1 := ⟨RX0, TX0, 3, rfl, Nat.le_of_ble_eq_true rfl, wi_X0, tw_tb (List.mem_of_getElem? (i := 329) (by decide +kernel)) (by decide +kernel)⟩
theorem fl_X0_15 : jFL RX0 15 0 2 := ⟨RX0, TX0, 3, rfl, Nat.le_of_ble_eq_true rfl, wi_X0, tw_tb (List.mem_of_getElem? (i := 331) (by decide +kernel)) (by decide +kernel)⟩
theorem fl_X0_18 : jFL RX0 18 0 0 := ⟨RX0, TX0, 3, rfl, Nat.le_of_ble_eq_true rfl, wi_X0, tw_tb (List.mem_of_getElem? (i := 328) (by decide +kernel)) (by decide +kernel)⟩
theorem fl_X0_22 : jFL RX0 22 2 0 := ⟨RX2, TX2, 10, rfl, Nat.le_of_ble_eq_true rfl, wi_X2, tw_tb (List.mem_of_getElem? (i := 209) (by decide +kernel)) (by decide +kernel)⟩
theorem fl_X0_58 : jFL RX0 58 6 0 := ⟨RX6, TX6, 11, rfl, Nat.le_of_ble_eq_true rfl, wi_X6, tw_tb (List.mem_of_getElem? (i := 63) (by decide +kernel)) (by decide +kernel)⟩
theorem fl_X0_70 : jFL RX0 70 6 10 := ⟨RX6, TX6, 11, rfl, Nat.le_of_ble_eq_true rfl, wi_X6, tw_tb (List.mem_of_getElem? (i := 105) (by decide +kernel)) (by decide +kernel)⟩
theorem fl_X0_74 : jFL RX0 74 6 3 := ⟨RX6, TX6, 11, rfl, Nat.le_of_ble_eq_true rfl, wi_X6, tw_tb (List.mem_of_getElem? (i := 78) (by decide +kernel)) (by decide +kernel)⟩
theorem fl_X0_77 : jFL RX0 77 2 6 := ⟨RX2, TX2, 10, rfl, Nat.le_of_ble_eq_true rfl, wi_X2, tw_tb (List.mem_of_getElem? (i := 222) (by decide +kernel)) (by decide +kernel)⟩
theorem fl_X0_80 : jFL RX0 80 6 2 := ⟨RX6, TX6, 11, rfl, Nat.le_of_ble_eq_true rfl, wi_X6, tw_tb (List.mem_of_getElem? (i := 72) (by decide +kernel)) (by decide +kernel)⟩
theorem fl_X1_9 : jFL RX1 9 1 0 := ⟨RX1, TX1, 1, rfl, Nat.le_of_ble_eq_true rfl, wi_X1, tw_tb (List.mem_of_getElem? (i := 256) (by decide +kernel)) (by decide +kernel)⟩
theorem fl_X1_21 : jFL RX1 21 2 0 := ⟨RX2, TX2, 10, rfl, Nat.le_of_ble_eq_true rfl, wi_X2, tw_tb (List.mem_of_getElem? (i := 208) (by decide +kernel)) (by decide +kernel)⟩
theorem fl_X1_33 : jFL RX1 33 6 0 := ⟨RX6, TX6, 11, rfl, Nat.le_of_ble_eq_true rfl, wi_X6, tw_tb (List.mem_of_getElem? (i := 60) (by decide +kernel)) (by decide +kernel)⟩
theorem fl_X1_55 : jFL RX1 55 6 2 := ⟨RX6, TX6, 11, rfl, Nat.le_of_ble_eq_true rfl, wi_X6, tw_tb (List.mem_of_getElem? (i := 70) (by decide +kernel)) (by decide +kernel)⟩
theorem fl_X10_14 : jFL RX10 14 10 0 := ⟨RX10, TX10, 15, rfl, Nat.le_of_ble_eq_true rfl, wi_X10, tw_tb (List.mem_of_getElem? (i := 355) (by decide +kernel)) (by decide +kernel)⟩
theorem fl_X10_23 : jFL RX10 23 10 1 := ⟨RX10, TX10, 15, rfl, Nat.le_of_ble_eq_true rfl, wi_X10, tw_tb (List.mem_of_getElem? (i := 356) (by decide +kernel)) (by decide +kernel)⟩
theorem fl_X10_30 : jFL RX10 30 10 2 := ⟨RX10, TX10, 15, rfl, Nat.le_of_ble_eq_true rfl, wi_X10, tw_tb (List.mem_of_getElem? (i := 357) (by decide +kernel)) (by decide +kernel)⟩
theorem fl_X10_37 : jFL RX10 37 10 3 := ⟨RX10, TX10, 15, rfl, Nat.le_of_ble_eq_true rfl, wi_X10, tw_tb (List.mem_of_getElem? (i := 358) (by decide +kernel)) (by decide +kernel)⟩
theorem fl_X10_41 : jFL RX10 41 10 4 := ⟨RX10, TX10, 15, rfl, Nat.le_of_ble_eq_true rfl, wi_X10, tw_tb (List.mem_of_getElem? (i := 359) (by decide +kernel)) (by decide +kernel)⟩
theorem fl_X10_49 : jFL RX10 49 10 5 := ⟨RX10, TX10, 15, rfl, Nat.le_of_ble_eq_true rfl, wi_X10, tw_tb (List.mem_of_getElem? (i := 360) (by decide +kernel)) (by decide +kernel)⟩
theorem fl_X10_53 : jFL RX10 53 10 6 := ⟨RX10, TX10, 15, rfl, Nat.le_of_ble_eq_true rfl, wi_X10, tw_tb (List.mem_of_getElem? (i := 361) (by decide +kernel)) (by decide +kernel)⟩
theorem fl_X10_56 : jFL RX10 56 10 7 := ⟨RX10, TX10, 15, rfl, Nat.le_of_ble_eq_true rfl, wi_X10, tw_tb (List.mem_of_getElem? (i := 362) (by decide +kernel)) (by decide +kernel)⟩
theorem fl_X10_59 : jFL RX10 59 10 8 := ⟨RX10, TX10, 15, rfl, Nat.le_of_ble_eq_true rfl, wi_X10, tw_tb (List.mem_of_getElem? (i := 363) (by decide +kernel)) (by decide +kernel)⟩
theorem fl_X10_62 : jFL RX10 62 10 9 := ⟨RX10, TX10, 15, rfl, Nat.le_of_ble_eq_true rfl, wi_X10, tw_tb (List.mem_of_getElem? (i := 364) (by decide +kernel)) (by decide +kernel)⟩
theorem fl_X10_65 : jFL RX10 65 10 10 := ⟨RX10, TX10, 15, rfl, Nat.le_of_ble_eq_true rfl, wi_X10, tw_tb (List.mem_of_getElem? (i := 365) (by decide +kernel)) (by decide +kernel)⟩
theorem fl_X10_71 : jFL RX10 71 10 11 := ⟨RX10, TX10, 15, rfl, Nat.le_of_ble_eq_true rfl, wi_X10, tw_tb (List.mem_of_getElem? (i := 366) (by decide +kernel)) (by decide +kernel)⟩
theorem fl_X10_80 : jFL RX10 80 10 12 := ⟨RX10, TX10, 15, rfl, Nat.le_of_ble_eq_true rfl, wi_X10, tw_tb (List.mem_of_getElem? (i := 367) (by decide +kernel)) (by decide +kernel)⟩
theorem fl_X10_87 : jFL RX10 87 10 13 := ⟨RX10, TX10, 15, rfl, Nat.le_of_ble_eq_true rfl, wi_X10, tw_tb (List.mem_of_getElem? (i := 368) (by decide +kernel)) (by decide +kernel)⟩
theorem fl_X10_96 : jFL RX10 96 10 14 := ⟨RX10, TX10, 15, rfl, Nat.le_of_ble_eq_true rfl, wi_X10, tw_tb (List.mem_of_getElem? (i := 369) (by decide +kernel)) (by decide +kernel)⟩
theorem fl_X10_121 : jFL RX10 121 2 9 := ⟨RX2, TX2, 10, rfl, Nat.le_of_ble_eq_true rfl, wi_X2, tw_tb (List.mem_of_getElem? (i := 228) (by decide +kernel)) (by decide +kernel)⟩
theorem fl_X10_148 : jFL RX10 148 6 8 := ⟨RX6, TX6, 11, rfl, Nat.le_of_ble_eq_true rfl, wi_X6, tw_tb (List.mem_of_getElem? (i := 96) (by decide +kernel)) (by decide +kernel)⟩
theorem fl_X10_152 : jFL RX10 152 6 9 := ⟨RX6, TX6, 11, rfl, Nat.le_of_ble_eq_true rfl, wi_X6, tw_tb (List.mem_of_getElem? (i := 100) (by decide +kernel)) (by decide +kernel)⟩
theorem fl_X10_155 : jFL RX10 155 6 10 := ⟨RX6, TX6, 11, rfl, Nat.le_of_ble_eq_true rfl, wi_X6, tw_tb (List.mem_of_getElem? (i := 106) (by decide +kernel)) (by decide +kernel)⟩
theorem fl_X10_158 : jFL RX10 158 2 5 := ⟨RX2, TX2, 10, rfl, Nat.le_of_ble_eq_true rfl, wi_X2, tw_tb (List.mem_of_getElem? (i := 220) (by decide +kernel)) (by decide +kernel)⟩
theorem fl_X10_161 : jFL RX10 161 2 6 := ⟨RX2, TX2, 10, rfl, Nat.le_of_ble_eq_true rfl, wi_X2, tw_tb (List.mem_of_getElem? (i := 223) (by decide +kernel)) (by decide +kernel)⟩
theorem fl_X10_164 : jFL RX10 164 2 7 := ⟨RX2, TX2, 10, rfl, Nat.le_of_ble_eq_true rfl, wi_X2, tw_tb (List.mem_of_getElem? (i := 225) (by decide +kernel)) (by decide +kernel)⟩
theorem fl_X10_171 : jFL RX10 171 6 0 := ⟨RX6, TX6, 11, rfl, Nat.le_of_ble_eq_true rfl, wi_X6, tw_tb (List.mem_of_getElem? (i := 65) (by decide +kernel)) (by decide +kernel)⟩
theorem fl_X10_178 : jFL RX10 178 2 1 := ⟨RX2, TX2, 10, rfl, Nat.le_of_ble_eq_true rfl, wi_X2, tw_tb (List.mem_of_getElem? (i := 212) (by decide +kernel)) (by decide +kernel)⟩
theorem fl_X10_182 : jFL RX10 182 6 2 := ⟨RX6, TX6, 11, rfl, Nat.le_of_ble_eq_true rfl, wi_X6, tw_tb (List.mem_of_getElem? (i := 74) (by decide +kernel)) (by decide +kernel)⟩
theorem fl_X10_185 : jFL RX10 185 6 3 := ⟨RX6, TX6, 11, rfl, Nat.le_of_ble_eq_true rfl, wi_X6, tw_tb (List.mem_of_getElem? (i := 79) (by decide +kernel)) (by decide +kernel)⟩
theorem fl_X10_191 : jFL RX10 191 2 2 := ⟨RX2, TX2, 10, rfl, Nat.le_of_ble_eq_true rfl, wi_X2, tw_tb (List.mem_of_getElem? (i := 214) (by decide +kernel)) (by decide +kernel)⟩
theorem fl_X10_194 : jFL RX10 194 2 3 := ⟨RX2, TX2, 10, rfl, Nat.le_of_ble_eq_true rfl, wi_X2, tw_tb (List.mem_of_getElem? (i := 216) (by decide +kernel)) (by decide +kernel)⟩
theorem fl_X10_196 : jFL RX10 196 2 4 := ⟨RX2, TX2, 10, rfl, Nat.le_of_ble_eq_true rfl, wi_X2, tw_tb (List.mem_of_getElem? (i := 218) (by decide +kernel)) (by decide +kernel)⟩
theorem fl_X10_199 : jFL RX10 199 6 4 := ⟨RX6, TX6, 11, rfl, Nat.le_of_ble_eq_true rfl, wi_X6, tw_tb (List.mem_of_getElem? (i := 83) (by decide +kernel)) (by decide +kernel)⟩
theorem fl_X10_202 : jFL RX10 202 6 5 := ⟨RX6, TX6, 11, rfl, Nat.le_of_ble_eq_true rfl, wi_X6, tw_tb (List.mem_of_getElem? (i := 87) (by decide +kernel)) (by decide +kernel)⟩
theorem fl_X10_205 : jFL RX10 205 6 6 := ⟨RX6, TX6, 11, rfl, Nat.le_of_ble_eq_true rfl, wi_X6, tw_tb (List.mem_of_getElem? (i := 90) (by decide +kernel)) (by decide +kernel)⟩
theorem fl_X10_208 : jFL RX10 208 6 7 := ⟨RX6, TX6, 11, rfl, Nat.le_of_ble_eq_true rfl, wi_X6, tw_tb (List.mem_of_getElem? (i := 93) (by decide +kernel)) (by decide +kernel)⟩
theorem fl_X10_292 : jFL RX10 292 0 1 := ⟨RX0, TX0, 3, rfl, Nat.le_of_ble_eq_true rfl, wi_X0, tw_tb (List.mem_of_getElem? (i := 330) (by decide +kernel)) (by decide +kernel)⟩
theorem fl_X10_314 : jFL RX10 314 2 8 := ⟨RX2, TX2, 10, rfl, Nat.le_of_ble_eq_true rfl, wi_X2, tw_tb (List.mem_of_getElem? (i := 227) (by decide +kernel)) (by decide +kernel)⟩
theorem fl_X11_7 : jFL RX11 7 11 1 := ⟨RX11, TX11, 52, rfl, Nat.le_of_ble_eq_true rfl, wi_X11, tw_tb (List.mem_of_getElem? (i := 1048) (by decide +kernel)) (by decide +kernel)⟩
theorem fl_X11_13 : jFL RX11 13 11 2 := ⟨RX11, TX11, 52, rfl, Nat.le_of_ble_eq_true rfl, wi_X11, tw_tb (List.mem_of_getElem? (i := 1049) (by decide +kernel)) (by decide +kernel)⟩
theorem fl_X11_16 : jFL RX11 16 11 3 := ⟨RX11, TX11, 52, rfl, Nat.le_of_ble_eq_true rfl, wi_X11, tw_tb (List.mem_of_getElem? (i := 1050) (by decide +kernel)) (by decide +kernel)⟩
theorem fl_X11_19 : jFL RX11 19 11 4 := ⟨RX11, TX11, 52, rfl, Nat.le_of_ble_eq_true rfl, wi_X11, tw_tb (List.mem_of_getElem? (i := 1051) (by decide +kernel)) (by decide +kernel)⟩
theorem fl_X11_22 : jFL RX11 22 11 5 := ⟨RX11, TX11, 52, rfl, Nat.le_of_ble_eq_true rfl, wi_X11, tw_tb (List.mem_of_getElem? (i := 1052) (by decide +kernel)) (by decide +kernel)⟩
theorem fl_X11_26 : jFL RX11 26 11 6 := ⟨RX11, TX11, 52, rfl, Nat.le_of_ble_eq_true rfl, wi_X11, tw_tb (List.mem_of_getElem? (i := 1053) (by decide +kernel)) (by decide +kernel)⟩
theorem fl_X11_29 : jFL RX11 29 11 7 := ⟨RX11, TX11, 52, rfl, Nat.le_of_ble_eq_true rfl, wi_X11, tw_tb (List.mem_of_getElem? (i := 1054) (by decide +kernel)) (by decide +kernel)⟩
theorem fl_X11_32 : jFL RX11 32 11 9 := ⟨RX11, TX11, 52, rfl, Nat.le_of_ble_eq_true rfl, wi_X11, tw_tb (List.mem_of_getElem? (i := 1056) (by decide +kernel)) (by decide +kernel)⟩
theorem fl_X11_35 : jFL RX11 35 11 11 := ⟨RX11, TX11, 52, rfl, Nat.le_of_ble_eq_true rfl, wi_X11, tw_tb (List.mem_of_getElem? (i := 1058) (by decide +kernel)) (by decide +kernel)⟩
theorem fl_X11_38 : jFL RX11 38 11 13 := ⟨RX11, TX11, 52, rfl, Nat.le_of_ble_eq_true rfl, wi_X11, tw_tb (List.mem_of_getElem? (i := 1060) (by decide +kernel)) (by decide +kernel)⟩
theorem fl_X11_41 : jFL RX11 41 11 18 := ⟨RX11, TX11, 52, rfl, Nat.le_of_ble_eq_true rfl, wi_X11, tw_tb (List.mem_of_getElem? (i := 1065) (by decide +kernel)) (by decide +kernel)⟩
theorem fl_X11_44 : jFL RX11 44 11 20 := ⟨RX11, TX11, 52, rfl, Nat.le_of_ble_eq_true rfl, wi_X11, tw_tb (List.mem_of_getElem? (i := 1067) (by decide +kernel)) (by decide +kernel)⟩
theorem fl_X11_47 : jFL RX11 47 11 27 := ⟨RX11, TX11, 52, rfl, Nat.le_of_ble_eq_true rfl, wi_X11, tw_tb (List.mem_of_getElem? (i := 1074) (by decide +kernel)) (by decide +kernel)⟩
theorem fl_X11_50 : jFL RX11 50 11 29 := ⟨RX11, TX11, 52, rfl, Nat.le_of_ble_eq_true rfl, wi_X11, tw_tb (List.mem_of_getElem? (i := 1076) (by decide +kernel)) (by decide +kernel)⟩
theorem fl_X11_53 : jFL RX11 53 11 30 := ⟨RX11, TX11, 52, rfl, Nat.le_of_ble_eq_true rfl, wi_X11, tw_tb (List.mem_of_getElem? (i := 1077) (by decide +kernel)) (by decide +kernel)⟩
theorem fl_X11_56 : jFL RX11 56 11 33 := ⟨RX11, TX11, 52, rfl, Nat.le_of_ble_eq_true rfl, wi_X11, tw_tb (List.mem_of_getElem? (i := 1080) (by decide +kernel)) (by decide +kernel)⟩
theorem fl_X11_60 : jFL RX11 60 11 34 := ⟨RX11, TX11, 52, rfl, Nat.le_of_ble_eq_true rfl, wi_X11, tw_tb (List.mem_of_getElem? (i := 1081) (by decide +kernel)) (by decide +kernel)⟩
theorem fl_X11_63 : jFL RX11 63 11 35 := ⟨RX11, TX11, 52, rfl, Nat.le_of_ble_eq_true rfl, wi_X11, tw_tb (List.mem_of_getElem? (i := 1082) (by decide +kernel)) (by decide +kernel)⟩
theorem fl_X11_66 : jFL RX11 66 11 39 := ⟨RX11, TX11, 52, rfl, Nat.le_of_ble_eq_true rfl, wi_X11, tw_tb (List.mem_of_getElem? (i := 1086) (by decide +kernel)) (by decide +kernel)⟩
theorem fl_X11_69 : jFL RX11 69 11 40 := ⟨RX11, TX11, 52, rfl, Nat.le_of_ble_eq_true rfl, wi_X11, tw_tb (List.mem_of_getElem? (i := 1087) (by decide +kernel)) (by decide +kernel)⟩
theorem fl_X11_73 : jFL RX11 73 11 41 := ⟨RX11, TX11, 52, rfl, Nat.le_of_ble_eq_true rfl, wi_X11, tw_tb (List.mem_of_getElem? (i := 1088) (by decide +kernel)) (by decide +kernel)⟩
theorem fl_X11_76 : jFL RX11 76 11 42 := ⟨RX11, TX11, 52, rfl, Nat.le_of_ble_eq_true rfl, wi_X11, tw_tb (List.mem_of_getElem? (i := 1089) (by decide +kernel)) (by decide +kernel)⟩
theorem fl_X11_80 : jFL RX11 80 11 43 := ⟨RX11, TX11, 52, rfl, Nat.le_of_ble_eq_true rfl, wi_X11, tw_tb (List.mem_of_getElem? (i := 1090) (by decide +kernel)) (by decide +kernel)⟩
theorem fl_X11_83 : jFL RX11 83 11 44 := ⟨RX11, TX11, 52, rfl, Nat.le_of_ble_eq_true rfl, wi_X11, tw_tb (List.mem_of_getElem? (i := 1091) (by decide +kernel)) (by decide +kernel)⟩
theorem fl_X11_86 : jFL RX11 86 11 45 := ⟨RX11, TX11, 52, rfl, Nat.le_of_ble_eq_true rfl, wi_X11, tw_tb (List.mem_of_getElem? (i := 1092) (by decide +kernel)) (by decide +kernel)⟩
theorem fl_X11_89 : jFL RX11 89 11 46 := ⟨RX11, TX11, 52, rfl, Nat.le_of_ble_eq_true rfl, wi_X11, tw_tb (List.mem_of_getElem? (i := 1093) (by decide +kernel)) (by decide +kernel)⟩
theorem fl_X11_92 : jFL RX11 92 11 48 := ⟨RX11, TX11, 52, rfl, Nat.le_of_ble_eq_true rfl, wi_X11, tw_tb (List.mem_of_getElem? (i := 1095) (by decide +kernel)) (by decide +kernel)⟩
theorem fl_X11_95 : jFL RX11 95 11 49 := ⟨RX11, TX11, 52, rfl, Nat.le_of_ble_eq_true rfl, wi_X11, tw_tb (List.mem_of_getElem? (i := 1096) (by decide +kernel)) (by decide +kernel)⟩
theorem fl_X11_98 : jFL RX11 98 11 50 := ⟨RX11, TX11, 52, rfl, Nat.le_of_ble_eq_true rfl, wi_X11, tw_tb (List.mem_of_getElem? (i := 1097) (by decide +kernel)) (by decide +kernel)⟩
theorem fl_X11_101 : jFL RX11 101 11 51 := ⟨RX11, TX11, 52, rfl, Nat.le_of_ble_eq_true rfl, wi_X11, tw_tb (List.mem_of_getElem? (i := 1098) (by decide +kernel)) (by decide +kernel)⟩
theorem fl_X11_104 : jFL RX11 104 11 0 := ⟨RX11, TX11, 52, rfl, Nat.le_of_ble_eq_true rfl, wi_X11, tw_tb (List.mem_of_getElem? (i := 1047) (by decide +kernel)) (by decide +kernel)⟩
theorem fl_X11_119 : jFL RX11 119 11 19 := ⟨RX11, TX11, 52, rfl, Nat.le_of_ble_eq_true rfl, wi_X11, tw_tb (List.mem_of_getElem? (i := 1066) (by decide +kernel)) (by decide +kernel)⟩
theorem fl_X11_124 : jFL RX11 124 11 21 := ⟨RX11, TX11, 52, rfl, Nat.le_of_ble_eq_true rfl, wi_X11, tw_tb (List.mem_of_getElem? (i := 1068) (by decide +kernel)) (by decide +kernel)⟩
theorem fl_X11_130 : jFL RX11 130 11 22 := ⟨RX11, TX11, 52, rfl, Nat.le_of_ble_eq_true rfl, wi_X11, tw_tb (List.mem_of_getElem? (i := 1069) (by decide +kernel)) (by decide +kernel)⟩
theorem fl_X11_134 : jFL RX11 134 11 23 := ⟨RX11, TX11, 52, rfl, Nat.le_of_ble_eq_true rfl, wi_X11, tw_tb (List.mem_of_getElem? (i := 1070) (by decide +kernel)) (by decide +kernel)⟩
theorem fl_X11_157 : jFL RX11 157 11 25 := ⟨RX11, TX11, 52, rfl, Nat.le_of_ble_eq_true rfl, wi_X11, tw_tb (List.mem_of_getElem? (i := 1072) (by decide +kernel)) (by decide +kernel)⟩
theorem fl_X11_160 : jFL RX11 160 11 24 := ⟨RX11, TX11, 52, rfl, Nat.le_of_ble_eq_true rfl, wi_X11, tw_tb (List.mem_of_getElem? (i := 1071) (by decide +kernel)) (by decide +kernel)⟩
theorem fl_X11_166 : jFL RX11 166 11 26 := ⟨RX11, TX11, 52, rfl, Nat.le_of_ble_eq_true rfl, wi_X11, tw_tb (List.mem_of_getElem? (i := 1073) (by decide +kernel)) (by decide +kernel)⟩
theorem fl_X11_173 : jFL RX11 173 11 28 := ⟨RX11, TX11, 52, rfl, Nat.le_of_ble_eq_true rfl, wi_X11, tw_tb (List.mem_of_getElem? (i := 1075) (by decide +kernel)) (by decide +kernel)⟩
theorem fl_X11_187 : jFL RX11 187 11 31 := ⟨RX11, TX11, 52, rfl, Nat.le_of_ble_eq_true rfl, wi_X11, tw_tb (List.mem_of_getElem? (i := 1078) (by decide +kernel)) (by decide +kernel)⟩
theorem fl_X11_206 : jFL RX11 206 11 8 := ⟨RX11, TX11, 52, rfl, Nat.le_of_ble_eq_true rfl, wi_X11, tw_tb (List.mem_of_getElem? (i := 1055) (by decide +kernel)) (by decide +kernel)⟩
theorem fl_X11_209 : jFL RX11 209 11 10 := ⟨RX11, TX11, 52, rfl, Nat.le_of_ble_eq_true rfl, wi_X11, tw_tb (List.mem_of_getElem? (i := 1057) (by decide +kernel)) (by decide +kernel)⟩
theorem fl_X11_212 : jFL RX11 212 11 38 := ⟨RX11, TX11, 52, rfl, Nat.le_of_ble_eq_true rfl, wi_X11, tw_tb (List.mem_of_getElem? (i := 1085) (by decide +kernel)) (by decide +kernel)⟩
theorem fl_X11_215 : jFL RX11 215 11 47 := ⟨RX11, TX11, 52, rfl, Nat.le_of_ble_eq_true rfl, wi_X11, tw_tb (List.mem_of_getElem? (i := 1094) (by decide +kernel)) (by decide +kernel)⟩
theorem fl_X11_218 : jFL RX11 218 11 15 := ⟨RX11, TX11, 52, rfl, Nat.le_of_ble_eq_true rfl, wi_X11, tw_tb (List.mem_of_getElem? (i := 1062) (by decide +kernel)) (by decide +kernel)⟩
theorem fl_X11_221 : jFL RX11 221 11 16 := ⟨RX11, TX11, 52, rfl, Nat.le_of_ble_eq_true rfl, wi_X11, tw_tb (List.mem_of_getElem? (i := 1063) (by decide +kernel)) (by decide +kernel)⟩
theorem fl_X11_227 : jFL RX11 227 11 14 := ⟨RX11, TX11, 52, rfl, Nat.le_of_ble_eq_true rfl, wi_X11, tw_tb (List.mem_of_getElem? (i := 1061) (by decide +kernel)) (by decide +kernel)⟩
theorem fl_X11_230 : jFL RX11 230 11 32 := ⟨RX11, TX11, 52, rfl, Nat.le_of_ble_eq_true rfl, wi_X11, tw_tb (List.mem_of_getElem? (i := 1079) (by decide +kernel)) (by decide +kernel)⟩
theorem fl_X11_239 : jFL RX11 239 11 12 := ⟨RX11, TX11, 52, rfl, Nat.le_of_ble_eq_true rfl, wi_X11, tw_tb (List.mem_of_getElem? (i := 1059) (by decide +kernel)) (by decide +kernel)⟩
theorem fl_X11_274 : jFL RX11 274 11 17 := ⟨RX11, TX11, 52, rfl, Nat.le_of_ble_eq_true rfl, wi_X11, tw_tb (List.mem_of_getElem? (i := 1064) (by decide +kernel)) (by decide +kernel)⟩
theorem fl_X11_300 : jFL RX11 300 11 36 := ⟨RX11, TX11, 52, rfl, Nat.le_of_ble_eq_true rfl, wi_X11, tw_tb (List.mem_of_getElem? (i := 1083) (by decide +kernel)) (by decide +kernel)⟩
theorem fl_X11_303 : jFL RX11 303 11 37 := ⟨RX11, TX11, 52, rfl, Nat.le_of_ble_eq_true rfl, wi_X11, tw_tb (List.mem_of_getElem? (i := 1084) (by decide +kernel)) (by decide +kernel)⟩
theorem fl_X2_9 : jFL RX2 9 2 1 := ⟨RX2, TX2, 10, rfl, Nat.le_of_ble_eq_true rfl, wi_X2, tw_tb (List.mem_of_getElem? (i := 211) (by decide +kernel)) (by decide +kernel)⟩
theorem fl_X2_15 : jFL RX2 15 2 2 := ⟨RX2, TX2, 10, rfl, Nat.le_of_ble_eq_true rfl, wi_X2, tw_tb (List.mem_of_getElem? (i := 213) (by decide +kernel)) (by decide +kernel)⟩
theorem fl_X2_18 : jFL RX2 18 2 3 := ⟨RX2, TX2, 10, rfl, Nat.le_of_ble_eq_true rfl, wi_X2, tw_tb (List.mem_of_getElem? (i := 215) (by decide +kernel)) (by decide +kernel)⟩
theorem fl_X2_21 : jFL RX2 21 2 4 := ⟨RX2, TX2, 10, rfl, Nat.le_of_ble_eq_true rfl, wi_X2, tw_tb (List.mem_of_getElem? (i := 217) (by decide +kernel)) (by decide +kernel)⟩
theorem fl_X2_24 : jFL RX2 24 2 0 := ⟨RX2, TX2, 10, rfl, Nat.le_of_ble_eq_true rfl, wi_X2, tw_tb (List.mem_of_getElem? (i := 207) (by decide +kernel)) (by decide +kernel)⟩
theorem fl_X2_28 : jFL RX2 28 6 1 := ⟨RX6, TX6, 11, rfl, Nat.le_of_ble_eq_true rfl, wi_X6, tw_tb (List.mem_of_getElem? (i := 67) (by decide +kernel)) (by decide +kernel)⟩
theorem fl_X2_40 : jFL RX2 40 2 6 := ⟨RX2, TX2, 10, rfl, Nat.le_of_ble_eq_true rfl, wi_X2, tw_tb (List.mem_of_getElem? (i := 221) (by decide +kernel)) (by decide +kernel)⟩
theorem fl_X2_44 : jFL RX2 44 2 7 := ⟨RX2, TX2, 10, rfl, Nat.le_of_ble_eq_true rfl, wi_X2, tw_tb (List.mem_of_getElem? (i := 224) (by decide +kernel)) (by decide +kernel)⟩
theorem fl_X2_50 : jFL RX2 50 2 5 := ⟨RX2, TX2, 10, rfl, Nat.le_of_ble_eq_true rfl, wi_X2, tw_tb (List.mem_of_getElem? (i := 219) (by decide +kernel)) (by decide +kernel)⟩
theorem fl_X2_53 : jFL RX2 53 2 8 := ⟨RX2, TX2, 10, rfl, Nat.le_of_ble_eq_true rfl, wi_X2, tw_tb (List.mem_of_getElem? (i := 226) (by decide +kernel)) (by decide +kernel)⟩
theorem fl_X2_59 : jFL RX2 59 6 3 := ⟨RX6, TX6, 11, rfl, Nat.le_of_ble_eq_true rfl, wi_X6, tw_tb (List.mem_of_getElem? (i := 77) (by decide +kernel)) (by decide +kernel)⟩
theorem fl_X2_74 : jFL RX2 74 6 2 := ⟨RX6, TX6, 11, rfl, Nat.le_of_ble_eq_true rfl, wi_X6, tw_tb (List.mem_of_getElem? (i := 73) (by decide +kernel)) (by decide +kernel)⟩
theorem fl_X2_77 : jFL RX2 77 6 0 := ⟨RX6, TX6, 11, rfl, Nat.le_of_ble_eq_true rfl, wi_X6, tw_tb (List.mem_of_getElem? (i := 64) (by decide +kernel)) (by decide +kernel)⟩
theorem fl_X2_80 : jFL RX2 80 6 8 := ⟨RX6, TX6, 11, rfl, Nat.le_of_ble_eq_true rfl, wi_X6, tw_tb (List.mem_of_getElem? (i := 97) (by decide +kernel)) (by decide +kernel)⟩
theorem fl_X2_88 : jFL RX2 88 7 0 := ⟨RX7, TX7, 3, rfl, Nat.le_of_ble_eq_true rfl, wi_X7, tw_tb (List.mem_of_getElem? (i := 140) (by decide +kernel)) (by decide +kernel)⟩
theorem fl_X2_90 : jFL RX2 90 7 1 := ⟨RX7, TX7, 3, rfl, Nat.le_of_ble_eq_true rfl, wi_X7, tw_tb (List.mem_of_getElem? (i := 142) (by decide +kernel)) (by decide +kernel)⟩
theorem fl_X2_93 : jFL RX2 93 6 4 := ⟨RX6, TX6, 11, rfl, Nat.le_of_ble_eq_true rfl, wi_X6, tw_tb (List.mem_of_getElem? (i := 82) (by decide +kernel)) (by decide +kernel)⟩
theorem fl_X2_96 : jFL RX2 96 7 2 := ⟨RX7, TX7, 3, rfl, Nat.le_of_ble_eq_true rfl, wi_X7, tw_tb (List.mem_of_getElem? (i := 144) (by decide +kernel)) (by decide +kernel)⟩
theorem fl_X2_98 : jFL RX2 98 6 5 := ⟨RX6, TX6, 11, rfl, Nat.le_of_ble_eq_true rfl, wi_X6, tw_tb (List.mem_of_getElem? (i := 86) (by decide +kernel)) (by decide +kernel)⟩
theorem fl_X2_118 : jFL RX2 118 6 9 := ⟨RX6, TX6, 11, rfl, Nat.le_of_ble_eq_true rfl, wi_X6, tw_tb (List.mem_of_getElem? (i := 101) (by decide +kernel)) (by decide +kernel)⟩
theorem fl_X3_15 : jFL RX3 15 3 0 := ⟨RX3, TX3, 6, rfl, Nat.le_of_ble_eq_true rfl, wi_X3, tw_tb (List.mem_of_getElem? (i := 160) (by decide +kernel)) (by decide +kernel)⟩
theorem fl_X3_19 : jFL RX3 19 3 1 := ⟨RX3, TX3, 6, rfl, Nat.le_of_ble_eq_true rfl, wi_X3, tw_tb (List.mem_of_getElem? (i := 161) (by decide +kernel)) (by decide +kernel)⟩
theorem fl_X3_22 : jFL RX3 22 3 4 := ⟨RX3, TX3, 6, rfl, Nat.le_of_ble_eq_true rfl, wi_X3, tw_tb (List.mem_of_getElem? (i := 164) (by decide +kernel)) (by decide +kernel)⟩
theorem fl_X3_25 : jFL RX3 25 3 2 := ⟨RX3, TX3, 6, rfl, Nat.le_of_ble_eq_true rfl, wi_X3, tw_tb (List.mem_of_getElem? (i := 162) (by decide +kernel)) (by decide +kernel)⟩
theorem fl_X3_32 : jFL RX3 32 3 3 := ⟨RX3, TX3, 6, rfl, Nat.le_of_ble_eq_true rfl, wi_X3, tw_tb (List.mem_of_getElem? (i := 163) (by decide +kernel)) (by decide +kernel)⟩
theorem fl_X4_15 : jFL RX4 15 4 0 := ⟨RX4, TX4, 2, rfl, Nat.le_of_ble_eq_true rfl, wi_X4, tw_tb (List.mem_of_getElem? (i := 37) (by decide +kernel)) (by decide +kernel)⟩
theorem fl_X4_21 : jFL RX4 21 4 1 := ⟨RX4, TX4, 2, rfl, Nat.le_of_ble_eq_true rfl, wi_X4, tw_tb (List.mem_of_getElem? (i := 38) (by decide +kernel)) (by decide +kernel)⟩
theorem fl_X5_12 : jFL RX5 12 5 2 := ⟨RX5, TX5, 5, rfl, Nat.le_of_ble_eq_true rfl, wi_X5, tw_tb (List.mem_of_getElem? (i := 183) (by decide +kernel)) (by decide +kernel)⟩
theorem fl_X5_21 : jFL RX5 21 5 3 := ⟨RX5, TX5, 5, rfl, Nat.le_of_ble_eq_true rfl, wi_X5, tw_tb (List.mem_of_getElem? (i := 184) (by decide +kernel)) (by decide +kernel)⟩
theorem fl_X5_30 : jFL RX5 30 5 4 := ⟨RX5, TX5, 5, rfl, Nat.le_of_ble_eq_true rfl, wi_X5, tw_tb (List.mem_of_getElem? (i := 185) (by decide +kernel)) (by decide +kernel)⟩
theorem fl_X5_34 : jFL RX5 34 5 0 := ⟨RX5, TX5, 5, rfl, Nat.le_of_ble_eq_true rfl, wi_X5, tw_tb (List.mem_of_getElem? (i := 181) (by decide +kernel)) (by decide +kernel)⟩
theorem fl_X5_42 : jFL RX5 42 5 1 := ⟨RX5, TX5, 5, rfl, Nat.le_of_ble_eq_true rfl, wi_X5, tw_tb (List.mem_of_getElem? (i := 182) (by decide +kernel)) (by decide +kernel)⟩
theorem fl_X5_46 : jFL RX5 46 3 5 := ⟨RX3, TX3, 6, rfl, Nat.le_of_ble_eq_true rfl, wi_X3, tw_tb (List.mem_of_getElem? (i := 167) (by decide +kernel)) (by decide +kernel)⟩
theorem fl_X5_67 : jFL RX5 67 3 4 := ⟨RX3, TX3, 6, rfl, Nat.le_of_ble_eq_true rfl, wi_X3, tw_tb (List.mem_of_getElem? (i := 165) (by decide +kernel)) (by decide +kernel)⟩
theorem fl_X5_100 : jFL RX5 100 6 8 := ⟨RX6, TX6, 11, rfl, Nat.le_of_ble_eq_true rfl, wi_X6, tw_tb (List.mem_of_getElem? (i := 94) (by decide +kernel)) (by decide +kernel)⟩
theorem fl_X5_108 : jFL RX5 108 6 9 := ⟨RX6, TX6, 11, rfl, Nat.le_of_ble_eq_true rfl, wi_X6, tw_tb (List.mem_of_getElem? (i := 98) (by decide +kernel)) (by decide +kernel)⟩
theorem fl_X5_112 : jFL RX5 112 6 10 := ⟨RX6, TX6, 11, rfl, Nat.le_of_ble_eq_true rfl, wi_X6, tw_tb (List.mem_of_getElem? (i := 103) (by decide +kernel)) (by decide +kernel)⟩
theorem fl_X5_117 : jFL RX5 117 6 0 := ⟨RX6, TX6, 11, rfl, Nat.le_of_ble_eq_true rfl, wi_X6, tw_tb (List.mem_of_getElem? (i := 61) (by decide +kernel)) (by decide +kernel)⟩
theorem fl_X5_129 : jFL RX5 129 6 1 := ⟨RX6, TX6, 11, rfl, Nat.le_of_ble_eq_true rfl, wi_X6, tw_tb (List.mem_of_getElem? (i := 68) (by decide +kernel)) (by decide +kernel)⟩
theorem fl_X5_132 : jFL RX5 132 6 2 := ⟨RX6, TX6, 11, rfl, Nat.le_of_ble_eq_true rfl, wi_X6, tw_tb (List.mem_of_getElem? (i := 71) (by decide +kernel)) (by decide +kernel)⟩
theorem fl_X5_135 : jFL RX5 135 6 3 := ⟨RX6, TX6, 11, rfl, Nat.le_of_ble_eq_true rfl, wi_X6, tw_tb (List.mem_of_getElem? (i := 76) (by decide +kernel)) (by decide +kernel)⟩
theorem fl_X5_141 : jFL RX5 141 6 4 := ⟨RX6, TX6, 11, rfl, Nat.le_of_ble_eq_true rfl, wi_X6, tw_tb (List.mem_of_getElem? (i := 81) (by decide +kernel)) (by decide +kernel)⟩
theorem fl_X5_144 : jFL RX5 144 6 5 := ⟨RX6, TX6, 11, rfl, Nat.le_of_ble_eq_true rfl, wi_X6, tw_tb (List.mem_of_getElem? (i := 85) (by decide +kernel)) (by decide +kernel)⟩
theorem fl_X5_147 : jFL RX5 147 6 6 := ⟨RX6, TX6, 11, rfl, Nat.le_of_ble_eq_true rfl, wi_X6, tw_tb (List.mem_of_getElem? (i := 89) (by decide +kernel)) (by decide +kernel)⟩
theorem fl_X5_150 : jFL RX5 150 6 7 := ⟨RX6, TX6, 11, rfl, Nat.le_of_ble_eq_true rfl, wi_X6, tw_tb (List.mem_of_getElem? (i := 92) (by decide +kernel)) (by decide +kernel)⟩
theorem fl_X5_165 : jFL RX5 165 7 0 := ⟨RX7, TX7, 3, rfl, Nat.le_of_ble_eq_true rfl, wi_X7, tw_tb (List.mem_of_getElem? (i := 139) (by decide +kernel)) (by decide +kernel)⟩
theorem fl_X6_14 : jFL RX6 14 6 0 := ⟨RX6, TX6, 11, rfl, Nat.le_of_ble_eq_true rfl, wi_X6, tw_tb (List.mem_of_getElem? (i := 59) (by decide +kernel)) (by decide +kernel)⟩
theorem fl_X6_20 : jFL RX6 20 6 1 := ⟨RX6, TX6, 11, rfl, Nat.le_of_ble_eq_true rfl, wi_X6, tw_tb (List.mem_of_getElem? (i := 66) (by decide +kernel)) (by decide +kernel)⟩
theorem fl_X6_23 : jFL RX6 23 6 2 := ⟨RX6, TX6, 11, rfl, Nat.le_of_ble_eq_true rfl, wi_X6, tw_tb (List.mem_of_getElem? (i := 69) (by decide +kernel)) (by decide +kernel)⟩
theorem fl_X6_26 : jFL RX6 26 6 3 := ⟨RX6, TX6, 11, rfl, Nat.le_of_ble_eq_true rfl, wi_X6, tw_tb (List.mem_of_getElem? (i := 75) (by decide +kernel)) (by decide +kernel)⟩
theorem fl_X6_29 : jFL RX6 29 6 4 := ⟨RX6, TX6, 11, rfl, Nat.le_of_ble_eq_true rfl, wi_X6, tw_tb (List.mem_of_getElem? (i := 80) (by decide +kernel)) (by decide +kernel)⟩
theorem fl_X6_32 : jFL RX6 32 6 5 := ⟨RX6, TX6, 11, rfl, Nat.le_of_ble_eq_true rfl, wi_X6, tw_tb (List.mem_of_getElem? (i := 84) (by decide +kernel)) (by decide +kernel)⟩
theorem fl_X6_35 : jFL RX6 35 6 6 := ⟨RX6, TX6, 11, rfl, Nat.le_of_ble_eq_true rfl, wi_X6, tw_tb (List.mem_of_getElem? (i := 88) (by decide +kernel)) (by decide +kernel)⟩
theorem fl_X6_38 : jFL RX6 38 6 7 := ⟨RX6, TX6, 11, rfl, Nat.le_of_ble_eq_true rfl, wi_X6, tw_tb (List.mem_of_getElem? (i := 91) (by decide +kernel)) (by decide +kernel)⟩
theorem fl_X6_48 : jFL RX6 48 6 8 := ⟨RX6, TX6, 11, rfl, Nat.le_of_ble_eq_true rfl, wi_X6, tw_tb (List.mem_of_getElem? (i := 95) (by decide +kernel)) (by decide +kernel)⟩
theorem fl_X6_52 : jFL RX6 52 6 9 := ⟨RX6, TX6, 11, rfl, Nat.le_of_ble_eq_true rfl, wi_X6, tw_tb (List.mem_of_getElem? (i := 99) (by decide +kernel)) (by decide +kernel)⟩
theorem fl_X6_55 : jFL RX6 55 6 10 := ⟨RX6, TX6, 11, rfl, Nat.le_of_ble_eq_true rfl, wi_X6, tw_tb (List.mem_of_getElem? (i := 104) (by decide +kernel)) (by decide +kernel)⟩
theorem fl_X7_14 : jFL RX7 14 7 0 := ⟨RX7, TX7, 3, rfl, Nat.le_of_ble_eq_true rfl, wi_X7, tw_tb (List.mem_of_getElem? (i := 138) (by decide +kernel)) (by decide +kernel)⟩
theorem fl_X7_20 : jFL RX7 20 7 1 := ⟨RX7, TX7, 3, rfl, Nat.le_of_ble_eq_true rfl, wi_X7, tw_tb (List.mem_of_getElem? (i := 141) (by decide +kernel)) (by decide +kernel)⟩
theorem fl_X7_23 : jFL RX7 23 7 2 := ⟨RX7, TX7, 3, rfl, Nat.le_of_ble_eq_true rfl, wi_X7, tw_tb (List.mem_of_getElem? (i := 143) (by decide +kernel)) (by decide +kernel)⟩
theorem fl_X8_10 : jFL RX8 10 8 1 := ⟨RX8, TX8, 8, rfl, Nat.le_of_ble_eq_true rfl, wi_X8, tw_tb (List.mem_of_getElem? (i := 297) (by decide +kernel)) (by decide +kernel)⟩
theorem fl_X8_16 : jFL RX8 16 8 2 := ⟨RX8, TX8, 8, rfl, Nat.le_of_ble_eq_true rfl, wi_X8, tw_tb (List.mem_of_getElem? (i := 298) (by decide +kernel)) (by decide +kernel)⟩
theorem fl_X8_24 : jFL RX8 24 8 3 := ⟨RX8, TX8, 8, rfl, Nat.le_of_ble_eq_true rfl, wi_X8, tw_tb (List.mem_of_getElem? (i := 299) (by decide +kernel)) (by decide +kernel)⟩
theorem fl_X8_28 : jFL RX8 28 8 4 := ⟨RX8, TX8, 8, rfl, Nat.le_of_ble_eq_true rfl, wi_X8, tw_tb (List.mem_of_getElem? (i := 300) (by decide +kernel)) (by decide +kernel)⟩
theorem fl_X8_31 : jFL RX8 31 8 0 := ⟨RX8, TX8, 8, rfl, Nat.le_of_ble_eq_true rfl, wi_X8, tw_tb (List.mem_of_getElem? (i := 296) (by decide +kernel)) (by decide +kernel)⟩
theorem fl_X8_35 : jFL RX8 35 8 6 := ⟨RX8, TX8, 8, rfl, Nat.le_of_ble_eq_true rfl, wi_X8, tw_tb (List.mem_of_getElem? (i := 302) (by decide +kernel)) (by decide +kernel)⟩
theorem fl_X8_47 : jFL RX8 47 8 7 := ⟨RX8, TX8, 8, rfl, Nat.le_of_ble_eq_true rfl, wi_X8, tw_tb (List.mem_of_getElem? (i := 304) (by decide +kernel)) (by decide +kernel)⟩
theorem fl_X8_50 : jFL RX8 50 2 0 := ⟨RX2, TX2, 10, rfl, Nat.le_of_ble_eq_true rfl, wi_X2, tw_tb (List.mem_of_getElem? (i := 210) (by decide +kernel)) (by decide +kernel)⟩
theorem fl_X8_56 : jFL RX8 56 6 10 := ⟨RX6, TX6, 11, rfl, Nat.le_of_ble_eq_true rfl, wi_X6, tw_tb (List.mem_of_getElem? (i := 102) (by decide +kernel)) (by decide +kernel)⟩
theorem fl_X8_72 : jFL RX8 72 8 5 := ⟨RX8, TX8, 8, rfl, Nat.le_of_ble_eq_true rfl, wi_X8, tw_tb (List.mem_of_getElem? (i := 301) (by decide +kernel)) (by decide +kernel)⟩
theorem fl_X8_98 : jFL RX8 98 6 0 := ⟨RX6, TX6, 11, rfl, Nat.le_of_ble_eq_true rfl, wi_X6, tw_tb (List.mem_of_getElem? (i := 62) (by decide +kernel)) (by decide +kernel)⟩
theorem fl_X9_14 : jFL RX9 14 9 1 := ⟨RX9, TX9, 6, rfl, Nat.le_of_ble_eq_true rfl, wi_X9, tw_tb (List.mem_of_getElem? (i := 269) (by decide +kernel)) (by decide +kernel)⟩
theorem fl_X9_20 : jFL RX9 20 9 2 := ⟨RX9, TX9, 6, rfl, Nat.le_of_ble_eq_true rfl, wi_X9, tw_tb (List.mem_of_getElem? (i := 270) (by decide +kernel)) (by decide +kernel)⟩
theorem fl_X9_24 : jFL RX9 24 9 3 := ⟨RX9, TX9, 6, rfl, Nat.le_of_ble_eq_true rfl, wi_X9, tw_tb (List.mem_of_getElem? (i := 271) (by decide +kernel)) (by decide +kernel)⟩
theorem fl_X9_27 : jFL RX9 27 9 4 := ⟨RX9, TX9, 6, rfl, Nat.le_of_ble_eq_true rfl, wi_X9, tw_tb (List.mem_of_getElem? (i := 272) (by decide +kernel)) (by decide +kernel)⟩
theorem fl_X9_30 : jFL RX9 30 9 5 := ⟨RX9, TX9, 6, rfl, Nat.le_of_ble_eq_true rfl, wi_X9, tw_tb (List.mem_of_getElem? (i := 273) (by decide +kernel)) (by decide +kernel)⟩
theorem fl_X9_33 : jFL RX9 33 9 0 := ⟨RX9, TX9, 6, rfl, Nat.le_of_ble_eq_true rfl, wi_X9, tw_tb (List.mem_of_getElem? (i := 268) (by decide +kernel)) (by decide +kernel)⟩
theorem fp_X10_121 : jFP RX10 121 2 9 .boolean := ⟨RX2, TX2, 10, tyX2, rfl, Nat.le_of_ble_eq_true rfl, wi_X2, tw_tb (List.mem_of_getElem? (i := 228) (by decide +kernel)) (by decide +kernel), tyX2_ok, nmX2, rfl, by decide +kernel⟩
theorem fp_X10_125 : jFP RX10 125 8 7 .boolean := ⟨RX8, TX8, 8, tyX8, rfl, Nat.le_of_ble_eq_true rfl, wi_X8, tw_tb (List.mem_of_getElem? (i := 303) (by decide +kernel)) (by decide +kernel), tyX8_ok, nmX8, rfl, by decide +kernel⟩
theorem fp_X10_161 : jFP RX10 161 2 6 .int := ⟨RX2, TX2, 10, tyX2, rfl, Nat.le_of_ble_eq_true rfl, wi_X2, tw_tb (List.mem_of_getElem? (i := 223) (by decide +kernel)) (by decide +kernel), tyX2_ok, nmX2, rfl, by decide +kernel⟩
theorem fp_X10_164 : jFP RX10 164 2 7 .int := ⟨RX2, TX2, 10, tyX2, rfl, Nat.le_of_ble_eq_true rfl, wi_X2, tw_tb (List.mem_of_getElem? (i := 225) (by decide +kernel)) (by decide +kernel), tyX2_ok, nmX2, rfl, by decide +kernel⟩
theorem fp_X10_314 : jFP RX10 314 2 8 .int := ⟨RX2, TX2, 10, tyX2, rfl, Nat.le_of_ble_eq_true rfl, wi_X2, tw_tb (List.mem_of_getElem? (i := 227) (by decide +kernel)) (by decide +kernel), tyX2_ok, nmX2, rfl, by decide +kernel⟩
theorem fp_X11_22 : jFP RX11 22 11 5 .int := ⟨RX11, TX11, 52, tyX11, rfl, Nat.le_of_ble_eq_true rfl, wi_X11, tw_tb (List.mem_of_getElem? (i := 1052) (by decide +kernel)) (by decide +kernel), tyX11_ok, nmX11, rfl, by decide +kernel⟩
theorem fp_X11_26 : jFP RX11 26 11 6 .int := ⟨RX11, TX11, 52, tyX11, rfl, Nat.le_of_ble_eq_true rfl, wi_X11, tw_tb (List.mem_of_getElem? (i := 1053) (by decide +kernel)) (by decide +kernel), tyX11_ok, nmX11, rfl, by decide +kernel⟩
theorem fp_X11_29 : jFP RX11 29 11 7 .int := ⟨RX11, TX11, 52, tyX11, rfl, Nat.le_of_ble_eq_true rfl, wi_X11, tw_tb (List.mem_of_getElem? (i := 1054) (by decide +kernel)) (by decide +kernel), tyX11_ok, nmX11, rfl, by decide +kernel⟩
theorem fp_X11_44 : jFP RX11 44 11 20 .int := ⟨RX11, TX11, 52, tyX11, rfl, Nat.le_of_ble_eq_true rfl, wi_X11, tw_tb (List.mem_of_getElem? (i := 1067) (by decide +kernel)) (by decide +kernel), tyX11_ok, nmX11, rfl, by decide +kernel⟩
theorem fp_X11_104 : jFP RX11 104 11 0 .int := ⟨RX11, TX11, 52, tyX11, rfl, Nat.le_of_ble_eq_true rfl, wi_X11, tw_tb (List.mem_of_getElem? (i := 1047) (by decide +kernel)) (by decide +kernel), tyX11_ok, nmX11, rfl, by decide +kernel⟩
theorem fp_X11_119 : jFP RX11 119 11 19 .int := ⟨RX11, TX11, 52, tyX11, rfl, Nat.le_of_ble_eq_true rfl, wi_X11, tw_tb (List.mem_of_getElem? (i := 1066) (by decide +kernel)) (by decide +kernel), tyX11_ok, nmX11, rfl, by decide +kernel⟩
theorem fp_X11_124 : jFP RX11 124 11 21 .int := ⟨RX11, TX11, 52, tyX11, rfl, Nat.le_of_ble_eq_true rfl, wi_X11, tw_tb (List.mem_of_getElem? (i := 1068) (by decide +kernel)) (by decide +kernel), tyX11_ok, nmX11, rfl, by decide +kernel⟩
theorem fp_X11_130 : jFP RX11 130 11 22 .long := ⟨RX11, TX11, 52, tyX11, rfl, Nat.le_of_ble_eq_true rfl, wi_X11, tw_tb (List.mem_of_getElem? (i := 1069) (by decide +kernel)) (by decide +kernel), tyX11_ok, nmX11, rfl, by decide +kernel⟩
theorem fp_X11_134 : jFP RX11 134 11 23 .int := ⟨RX11, TX11, 52, tyX11, rfl, Nat.le_of_ble_eq_true rfl, wi_X11, tw_tb (List.mem_of_getElem? (i := 1070) (by decide +kernel)) (by decide +kernel), tyX11_ok, nmX11, rfl, by decide +kernel⟩
theorem fp_X11_157 : jFP RX11 157 11 25 .int := ⟨RX11, TX11, 52, tyX11, rfl, Nat.le_of_ble_eq_true rfl, wi_X11, tw_tb (List.mem_of_getElem? (i := 1072) (by decide +kernel)) (by decide +kernel), tyX11_ok, nmX11, rfl, by decide +kernel⟩
theorem fp_X11_160 : jFP RX11 160 11 24 .int := ⟨RX11, TX11, 52, tyX11, rfl, Nat.le_of_ble_eq_true rfl, wi_X11, tw_tb (List.mem_of_getElem? (i := 1071) (by decide +kernel)) (by decide +kernel), tyX11_ok, nmX11, rfl, by decide +kernel⟩
theorem fp_X11_166 : jFP RX11 166 11 26 .int := ⟨RX11, TX11, 52, tyX11, rfl, Nat.le_of_ble_eq_true rfl, wi_X11, tw_tb (List.mem_of_getElem? (i := 1073) (by decide +kernel)) (by decide +kernel), tyX11_ok, nmX11, rfl, by decide +kernel⟩
theorem fp_X11_173 : jFP RX11 173 11 28 .int := ⟨RX11, TX11, 52, tyX11, rfl, Nat.le_of_ble_eq_true rfl, wi_X11, tw_tb (List.mem_of_getElem? (i := 1075) (by decide +kernel)) (by decide +kernel), tyX11_ok, nmX11, rfl, by decide +kernel⟩
theorem fp_X11_187 : jFP RX11 187 11 31 .int := ⟨RX11, TX11, 52, tyX11, rfl, Nat.le_of_ble_eq_true rfl, wi_X11, tw_tb (List.mem_of_getElem? (i := 1078) (by decide +kernel)) (by decide +kernel), tyX11_ok, nmX11, rfl, by decide +kernel⟩
theorem fp_X11_206 : jFP RX11 206 11 8 .int := ⟨RX11, TX11, 52, tyX11, rfl, Nat.le_of_ble_eq_true rfl, wi_X11, tw_tb (List.mem_of_getElem? (i := 1055) (by decide +kernel)) (by decide +kernel), tyX11_ok, nmX11, rfl, by decide +kernel⟩
theorem fp_X11_209 : jFP RX11 209 11 10 .int := ⟨RX11, TX11, 52, tyX11, rfl, Nat.le_of_ble_eq_true rfl, wi_X11, tw_tb (List.mem_of_getElem? (i := 1057) (by decide +kernel)) (by decide +kernel), tyX11_ok, nmX11, rfl, by decide +kernel⟩
theorem fp_X11_212 : jFP RX11 212 11 38 .int := ⟨RX11, TX11, 52, tyX11, rfl, Nat.le_of_ble_eq_true rfl, wi_X11, tw_tb (List.mem_of_getElem? (i := 1085) (by decide +kernel)) (by decide +kernel), tyX11_ok, nmX11, rfl, by decide +kernel⟩
theorem fp_X11_215 : jFP RX11 215 11 47 .int := ⟨RX11, TX11, 52, tyX11, rfl, Nat.le_of_ble_eq_true rfl, wi_X11, tw_tb (List.mem_of_getElem? (i := 1094) (by decide +kernel)) (by decide +kernel), tyX11_ok, nmX11, rfl, by decide +kernel⟩
theorem fp_X11_218 : jFP RX11 218 11 15 .int := ⟨RX11, TX11, 52, tyX11, rfl, Nat.le_of_ble_eq_true rfl, wi_X11, tw_tb (List.mem_of_getElem? (i := 1062) (by decide +kernel)) (by decide +kernel), tyX11_ok, nmX11, rfl, by decide +kernel⟩
theorem fp_X11_221 : jFP RX11 221 11 16 .int := ⟨RX11, TX11, 52, tyX11, rfl, Nat.le_of_ble_eq_true rfl, wi_X11, tw_tb (List.mem_of_getElem? (i := 1063) (by decide +kernel)) (by decide +kernel), tyX11_ok, nmX11, rfl, by decide +kernel⟩
theorem fp_X11_227 : jFP RX11 227 11 14 .int := ⟨RX11, TX11, 52, tyX11, rfl, Nat.le_of_ble_eq_true rfl, wi_X11, tw_tb (List.mem_of_getElem? (i := 1061) (by decide +kernel)) (by decide +kernel), tyX11_ok, nmX11, rfl, by decide +kernel⟩
theorem fp_X11_230 : jFP RX11 230 11 32 .int := ⟨RX11, TX11, 52, tyX11, rfl, Nat.le_of_ble_eq_true rfl, wi_X11, tw_tb (List.mem_of_getElem? (i := 1079) (by decide +kernel)) (by decide +kernel), tyX11_ok, nmX11, rfl, by decide +kernel⟩
theorem fp_X11_239 : jFP RX11 239 11 12 .int := ⟨RX11, TX11, 52, tyX11, rfl, Nat.le_of_ble_eq_true rfl, wi_X11, tw_tb (List.mem_of_getElem? (i := 1059) (by decide +kernel)) (by decide +kernel), tyX11_ok, nmX11, rfl, by decide +kernel⟩
theorem fp_X11_274 : jFP RX11 274 11 17 .int := ⟨RX11, TX11, 52, tyX11, rfl, Nat.le_of_ble_eq_true rfl, wi_X11, tw_tb (List.mem_of_getElem? (i := 1064) (by decide +kernel)) (by decide +kernel), tyX11_ok, nmX11, rfl, by decide +kernel⟩
theorem fp_X11_300 : jFP RX11 300 11 36 .int := ⟨RX11, TX11, 52, tyX11, rfl, Nat.le_of_ble_eq_true rfl, wi_X11, tw_tb (List.mem_of_getElem? (i := 1083) (by decide +kernel)) (by decide +kernel), tyX11_ok, nmX11, rfl, by decide +kernel⟩
theorem fp_X11_303 : jFP RX11 303 11 37 .int := ⟨RX11, TX11, 52, tyX11, rfl, Nat.le_of_ble_eq_true rfl, wi_X11, tw_tb (List.mem_of_getElem? (i := 1084) (by decide +kernel)) (by decide +kernel), tyX11_ok, nmX11, rfl, by decide +kernel⟩
theorem fp_X2_40 : jFP RX2 40 2 6 .int := ⟨RX2, TX2, 10, tyX2, rfl, Nat.le_of_ble_eq_true rfl, wi_X2, tw_tb (List.mem_of_getElem? (i := 221) (by decide +kernel)) (by decide +kernel), tyX2_ok, nmX2, rfl, by decide +kernel⟩
theorem fp_X2_44 : jFP RX2 44 2 7 .int := ⟨RX2, TX2, 10, tyX2, rfl, Nat.le_of_ble_eq_true rfl, wi_X2, tw_tb (List.mem_of_getElem? (i := 224) (by decide +kernel)) (by decide +kernel), tyX2_ok, nmX2, rfl, by decide +kernel⟩
theorem fp_X2_50 : jFP RX2 50 2 5 .int := ⟨RX2, TX2, 10, tyX2, rfl, Nat.le_of_ble_eq_true rfl, wi_X2, tw_tb (List.mem_of_getElem? (i := 219) (by decide +kernel)) (by decide +kernel), tyX2_ok, nmX2, rfl, by decide +kernel⟩
theorem fp_X2_53 : jFP RX2 53 2 8 .int := ⟨RX2, TX2, 10, tyX2, rfl, Nat.le_of_ble_eq_true rfl, wi_X2, tw_tb (List.mem_of_getElem? (i := 226) (by decide +kernel)) (by decide +kernel), tyX2_ok, nmX2, rfl, by decide +kernel⟩
theorem fp_X3_9 : jFP RX3 9 3 5 .int := ⟨RX3, TX3, 6, tyX3, rfl, Nat.le_of_ble_eq_true rfl, wi_X3, tw_tb (List.mem_of_getElem? (i := 166) (by decide +kernel)) (by decide +kernel), tyX3_ok, nmX3, rfl, by decide +kernel⟩
theorem fp_X3_19 : jFP RX3 19 3 1 .int := ⟨RX3, TX3, 6, tyX3, rfl, Nat.le_of_ble_eq_true rfl, wi_X3, tw_tb (List.mem_of_getElem? (i := 161) (by decide +kernel)) (by decide +kernel), tyX3_ok, nmX3, rfl, by decide +kernel⟩
theorem fp_X3_22 : jFP RX3 22 3 4 .int := ⟨RX3, TX3, 6, tyX3, rfl, Nat.le_of_ble_eq_true rfl, wi_X3, tw_tb (List.mem_of_getElem? (i := 164) (by decide +kernel)) (by decide +kernel), tyX3_ok, nmX3, rfl, by decide +kernel⟩
theorem fp_X3_25 : jFP RX3 25 3 2 .int := ⟨RX3, TX3, 6, tyX3, rfl, Nat.le_of_ble_eq_true rfl, wi_X3, tw_tb (List.mem_of_getElem? (i := 162) (by decide +kernel)) (by decide +kernel), tyX3_ok, nmX3, rfl, by decide +kernel⟩
theorem fp_X3_32 : jFP RX3 32 3 3 .int := ⟨RX3, TX3, 6, tyX3, rfl, Nat.le_of_ble_eq_true rfl, wi_X3, tw_tb (List.mem_of_getElem? (i := 163) (by decide +kernel)) (by decide +kernel), tyX3_ok, nmX3, rfl, by decide +kernel⟩
theorem fp_X4_21 : jFP RX4 21 4 1 .int := ⟨RX4, TX4, 2, tyX4, rfl, Nat.le_of_ble_eq_true rfl, wi_X4, tw_tb (List.mem_of_getElem? (i := 38) (by decide +kernel)) (by decide +kernel), tyX4_ok, nmX4, rfl, by decide +kernel⟩
theorem fp_X5_100 : jFP RX5 100 6 8 .int := ⟨RX6, TX6, 11, tyX6, rfl, Nat.le_of_ble_eq_true rfl, wi_X6, tw_tb (List.mem_of_getElem? (i := 94) (by decide +kernel)) (by decide +kernel), tyX6_ok, nmX6, rfl, by decide +kernel⟩
theorem fp_X5_108 : jFP RX5 108 6 9 .int := ⟨RX6, TX6, 11, tyX6, rfl, Nat.le_of_ble_eq_true rfl, wi_X6, tw_tb (List.mem_of_getElem? (i := 98) (by decide +kernel)) (by decide +kernel), tyX6_ok, nmX6, rfl, by decide +kernel⟩
theorem fp_X5_112 : jFP RX5 112 6 10 .int := ⟨RX6, TX6, 11, tyX6, rfl, Nat.le_of_ble_eq_true rfl, wi_X6, tw_tb (List.mem_of_getElem? (i := 103) (by decide +kernel)) (by decide +kernel), tyX6_ok, nmX6, rfl, by decide +kernel⟩
theorem fp_X6_48 : jFP RX6 48 6 8 .int := ⟨RX6, TX6, 11, tyX6, rfl, Nat.le_of_ble_eq_true rfl, wi_X6, tw_tb (List.mem_of_getElem? (i := 95) (by decide +kernel)) (by decide +kernel), tyX6_ok, nmX6, rfl, by decide +kernel⟩
theorem fp_X6_52 : jFP RX6 52 6 9 .int := ⟨RX6, TX6, 11, tyX6, rfl, Nat.le_of_ble_eq_true rfl, wi_X6, tw_tb (List.mem_of_getElem? (i := 99) (by decide +kernel)) (by decide +kernel), tyX6_ok, nmX6, rfl, by decide +kernel⟩
theorem fp_X6_55 : jFP RX6 55 6 10 .int := ⟨RX6, TX6, 11, tyX6, rfl, Nat.le_of_ble_eq_true rfl, wi_X6, tw_tb (List.mem_of_getElem? (i := 104) (by decide +kernel)) (by decide +kernel), tyX6_ok, nmX6, rfl, by decide +kernel⟩
theorem fp_X8_35 : jFP RX8 35 8 6 .boolean := ⟨RX8, TX8, 8, tyX8, rfl, Nat.le_of_ble_eq_true rfl, wi_X8, tw_tb (List.mem_of_getElem? (i := 302) (by decide +kernel)) (by decide +kernel), tyX8_ok, nmX8, rfl, by decide +kernel⟩
theorem fp_X8_47 : jFP RX8 47 8 7 .boolean := ⟨RX8, TX8, 8, tyX8, rfl, Nat.le_of_ble_eq_true rfl, wi_X8, tw_tb (List.mem_of_getElem? (i := 304) (by decide +kernel)) (by decide +kernel), tyX8_ok, nmX8, rfl, by decide +kernel⟩
theorem fp_X8_72 : jFP RX8 72 8 5 .int := ⟨RX8, TX8, 8, tyX8, rfl, Nat.le_of_ble_eq_true rfl, wi_X8, tw_tb (List.mem_of_getElem? (i := 301) (by decide +kernel)) (by decide +kernel), tyX8_ok, nmX8, rfl, by decide +kernel⟩
theorem ml_X0_28 : Cond.methodLink RX0 28 yX6_lamps ∈ tw := tw_tb (List.mem_of_getElem? (i := 940) (by decide +kernel)) (by decide +kernel)
theorem ml_X0_34 : Cond.methodLink RX0 34 yX0_lowestBut ∈ tw := tw_tb (List.mem_of_getElem? (i := 941) (by decide +kernel)) (by decide +kernel)
theorem ml_X0_38 : Cond.methodLink RX0 38 yX2_noteOf ∈ tw := tw_tb (List.mem_of_getElem? (i := 945) (by decide +kernel)) (by decide +kernel)
theorem ml_X0_47 : Cond.methodLink RX0 47 yX0_leastFree ∈ tw := tw_tb (List.mem_of_getElem? (i := 947) (by decide +kernel)) (by decide +kernel)
theorem ml_X0_51 : Cond.methodLink RX0 51 yX0_isWokenWithOne ∈ tw := tw_tb (List.mem_of_getElem? (i := 951) (by decide +kernel)) (by decide +kernel)
theorem ml_X0_55 : Cond.methodLink RX0 55 yX0_isWokenWith ∈ tw := tw_tb (List.mem_of_getElem? (i := 955) (by decide +kernel)) (by decide +kernel)
theorem ml_X0_62 : Cond.methodLink RX0 62 yX4_at ∈ tw := tw_tb (List.mem_of_getElem? (i := 959) (by decide +kernel)) (by decide +kernel)
theorem ml_X0_86 : Cond.methodLink RX0 86 yX6_allLamps ∈ tw := tw_tb (List.mem_of_getElem? (i := 970) (by decide +kernel)) (by decide +kernel)
theorem ml_X0_89 : Cond.methodLink RX0 89 yJ6_bitCount_0f7a4 ∈ tw := tw_tb (List.mem_of_getElem? (i := 971) (by decide +kernel)) (by decide +kernel)
theorem ml_X0_94 : Cond.methodLink RX0 94 yX0_leastRest ∈ tw := tw_tb (List.mem_of_getElem? (i := 977) (by decide +kernel)) (by decide +kernel)
theorem ml_X0_98 : Cond.methodLink RX0 98 yX0_restWith ∈ tw := tw_tb (List.mem_of_getElem? (i := 982) (by decide +kernel)) (by decide +kernel)
theorem ml_X0_101 : Cond.methodLink RX0 101 yX0_firstKeepingSum ∈ tw := tw_tb (List.mem_of_getElem? (i := 990) (by decide +kernel)) (by decide +kernel)
theorem ml_X1_15 : Cond.methodLink RX1 15 yJ7_fill_53178 ∈ tw := tw_tb (List.mem_of_getElem? (i := 749) (by decide +kernel)) (by decide +kernel)
theorem ml_X1_27 : Cond.methodLink RX1 27 yX6_lamps ∈ tw := tw_tb (List.mem_of_getElem? (i := 752) (by decide +kernel)) (by decide +kernel)
theorem ml_X1_37 : Cond.methodLink RX1 37 yX4_at ∈ tw := tw_tb (List.mem_of_getElem? (i := 753) (by decide +kernel)) (by decide +kernel)
theorem ml_X1_52 : Cond.methodLink RX1 52 yX2_ear ∈ tw := tw_tb (List.mem_of_getElem? (i := 758) (by decide +kernel)) (by decide +kernel)
theorem ml_X1_58 : Cond.methodLink RX1 58 yX1_hearFrom ∈ tw := tw_tb (List.mem_of_getElem? (i := 759) (by decide +kernel)) (by decide +kernel)
theorem ml_X1_66 : Cond.methodLink RX1 66 yX1_at ∈ tw := tw_tb (List.mem_of_getElem? (i := 927) (by decide +kernel)) (by decide +kernel)
theorem ml_X10_103 : Cond.methodLink RX10 103 yX2_startOn ∈ tw := tw_tb (List.mem_of_getElem? (i := 343) (by decide +kernel)) (by decide +kernel)
theorem ml_X10_106 : Cond.methodLink RX10 106 yX4_size ∈ tw := tw_tb (List.mem_of_getElem? (i := 405) (by decide +kernel)) (by decide +kernel)
theorem ml_X10_110 : Cond.methodLink RX10 110 yX4_put ∈ tw := tw_tb (List.mem_of_getElem? (i := 409) (by decide +kernel)) (by decide +kernel)
theorem ml_X10_113 : Cond.methodLink RX10 113 yX5_readQuay ∈ tw := tw_tb (List.mem_of_getElem? (i := 417) (by decide +kernel)) (by decide +kernel)
theorem ml_X10_117 : Cond.methodLink RX10 117 yX7_empty ∈ tw := tw_tb (List.mem_of_getElem? (i := 569) (by decide +kernel)) (by decide +kernel)
theorem ml_X10_120 : Cond.methodLink RX10 120 yX4_empty ∈ tw := tw_tb (List.mem_of_getElem? (i := 574) (by decide +kernel)) (by decide +kernel)
theorem ml_X10_128 : Cond.methodLink RX10 128 yX5_readNight ∈ tw := tw_tb (List.mem_of_getElem? (i := 580) (by decide +kernel)) (by decide +kernel)
theorem ml_X10_132 : Cond.methodLink RX10 132 yX5_readMonth ∈ tw := tw_tb (List.mem_of_getElem? (i := 619) (by decide +kernel)) (by decide +kernel)
theorem ml_X10_136 : Cond.methodLink RX10 136 yX5_faultPlace ∈ tw := tw_tb (List.mem_of_getElem? (i := 630) (by decide +kernel)) (by decide +kernel)
theorem ml_X10_139 : Cond.methodLink RX10 139 yX6_lamps ∈ tw := tw_tb (List.mem_of_getElem? (i := 638) (by decide +kernel)) (by decide +kernel)
theorem ml_X10_142 : Cond.methodLink RX10 142 yX6_singers ∈ tw := tw_tb (List.mem_of_getElem? (i := 639) (by decide +kernel)) (by decide +kernel)
theorem ml_X10_145 : Cond.methodLink RX10 145 yX7_count ∈ tw := tw_tb (List.mem_of_getElem? (i := 640) (by decide +kernel)) (by decide +kernel)
theorem ml_X10_167 : Cond.methodLink RX10 167 yX10_isLamp ∈ tw := tw_tb (List.mem_of_getElem? (i := 645) (by decide +kernel)) (by decide +kernel)
theorem ml_X10_174 : Cond.methodLink RX10 174 yX4_at ∈ tw := tw_tb (List.mem_of_getElem? (i := 649) (by decide +kernel)) (by decide +kernel)
theorem ml_X10_188 : Cond.methodLink RX10 188 yX2_ear ∈ tw := tw_tb (List.mem_of_getElem? (i := 650) (by decide +kernel)) (by decide +kernel)
theorem ml_X10_211 : Cond.methodLink RX10 211 yX10_isWithin ∈ tw := tw_tb (List.mem_of_getElem? (i := 666) (by decide +kernel)) (by decide +kernel)
theorem ml_X10_215 : Cond.methodLink RX10 215 yX10_isSpot ∈ tw := tw_tb (List.mem_of_getElem? (i := 671) (by decide +kernel)) (by decide +kernel)
theorem ml_X10_219 : Cond.methodLink RX10 219 yX10_isLoud ∈ tw := tw_tb (List.mem_of_getElem? (i := 674) (by decide +kernel)) (by decide +kernel)
theorem ml_X10_222 : Cond.methodLink RX10 222 yX2_woken ∈ tw := tw_tb (List.mem_of_getElem? (i := 677) (by decide +kernel)) (by decide +kernel)
theorem ml_X10_226 : Cond.methodLink RX10 226 yX2_light ∈ tw := tw_tb (List.mem_of_getElem? (i := 690) (by decide +kernel)) (by decide +kernel)
theorem ml_X10_230 : Cond.methodLink RX10 230 yX2_passMinute ∈ tw := tw_tb (List.mem_of_getElem? (i := 698) (by decide +kernel)) (by decide +kernel)
theorem ml_X10_234 : Cond.methodLink RX10 234 yX2_burning ∈ tw := tw_tb (List.mem_of_getElem? (i := 716) (by decide +kernel)) (by decide +kernel)
theorem ml_X10_237 : Cond.methodLink RX10 237 yX2_seen ∈ tw := tw_tb (List.mem_of_getElem? (i := 724) (by decide +kernel)) (by decide +kernel)
theorem ml_X10_240 : Cond.methodLink RX10 240 yX2_darken ∈ tw := tw_tb (List.mem_of_getElem? (i := 732) (by decide +kernel)) (by decide +kernel)
theorem ml_X10_243 : Cond.methodLink RX10 243 yX8_find ∈ tw := tw_tb (List.mem_of_getElem? (i := 741) (by decide +kernel)) (by decide +kernel)
theorem ml_X10_246 : Cond.methodLink RX10 246 yX8_minutes ∈ tw := tw_tb (List.mem_of_getElem? (i := 819) (by decide +kernel)) (by decide +kernel)
theorem ml_X10_249 : Cond.methodLink RX10 249 yX8_step ∈ tw := tw_tb (List.mem_of_getElem? (i := 823) (by decide +kernel)) (by decide +kernel)
theorem ml_X10_252 : Cond.methodLink RX10 252 yX10_isKnown ∈ tw := tw_tb (List.mem_of_getElem? (i := 831) (by decide +kernel)) (by decide +kernel)
theorem ml_X10_255 : Cond.methodLink RX10 255 yX4_indexOf ∈ tw := tw_tb (List.mem_of_getElem? (i := 836) (by decide +kernel)) (by decide +kernel)
theorem ml_X10_258 : Cond.methodLink RX10 258 yX4_isFull ∈ tw := tw_tb (List.mem_of_getElem? (i := 840) (by decide +kernel)) (by decide +kernel)
theorem ml_X10_262 : Cond.methodLink RX10 262 yX1_listen ∈ tw := tw_tb (List.mem_of_getElem? (i := 853) (by decide +kernel)) (by decide +kernel)
theorem ml_X10_266 : Cond.methodLink RX10 266 yX9_gather ∈ tw := tw_tb (List.mem_of_getElem? (i := 854) (by decide +kernel)) (by decide +kernel)
theorem ml_X10_270 : Cond.methodLink RX10 270 yX9_fewestSounds ∈ tw := tw_tb (List.mem_of_getElem? (i := 862) (by decide +kernel)) (by decide +kernel)
theorem ml_X10_274 : Cond.methodLink RX10 274 yX10_isTooNear ∈ tw := tw_tb (List.mem_of_getElem? (i := 887) (by decide +kernel)) (by decide +kernel)
theorem ml_X10_277 : Cond.methodLink RX10 277 yX9_fewestNotes ∈ tw := tw_tb (List.mem_of_getElem? (i := 895) (by decide +kernel)) (by decide +kernel)
theorem ml_X10_280 : Cond.methodLink RX10 280 yX9_noteOfFewest ∈ tw := tw_tb (List.mem_of_getElem? (i := 903) (by decide +kernel)) (by decide +kernel)
theorem ml_X10_283 : Cond.methodLink RX10 283 yX10_singerCouldWake ∈ tw := tw_tb (List.mem_of_getElem? (i := 915) (by decide +kernel)) (by decide +kernel)
theorem ml_X10_286 : Cond.methodLink RX10 286 yX1_hasJust ∈ tw := tw_tb (List.mem_of_getElem? (i := 923) (by decide +kernel)) (by decide +kernel)
theorem ml_X10_289 : Cond.methodLink RX10 289 yX0_partAll ∈ tw := tw_tb (List.mem_of_getElem? (i := 936) (by decide +kernel)) (by decide +kernel)
theorem ml_X10_295 : Cond.methodLink RX10 295 yX0_leastSum ∈ tw := tw_tb (List.mem_of_getElem? (i := 966) (by decide +kernel)) (by decide +kernel)
theorem ml_X10_298 : Cond.methodLink RX10 298 yX0_lampOfTuned ∈ tw := tw_tb (List.mem_of_getElem? (i := 986) (by decide +kernel)) (by decide +kernel)
theorem ml_X10_301 : Cond.methodLink RX10 301 yX2_copy ∈ tw := tw_tb (List.mem_of_getElem? (i := 998) (by decide +kernel)) (by decide +kernel)
theorem ml_X10_304 : Cond.methodLink RX10 304 yX10_darkOnDay ∈ tw := tw_tb (List.mem_of_getElem? (i := 1002) (by decide +kernel)) (by decide +kernel)
theorem ml_X10_307 : Cond.methodLink RX10 307 yX6_allLamps ∈ tw := tw_tb (List.mem_of_getElem? (i := 835) (by decide +kernel)) (by decide +kernel)
theorem ml_X10_310 : Cond.methodLink RX10 310 yX8_wokenBy ∈ tw := tw_tb (List.mem_of_getElem? (i := 1006) (by decide +kernel)) (by decide +kernel)
theorem ml_X10_317 : Cond.methodLink RX10 317 yX10_imageOf ∈ tw := tw_tb (List.mem_of_getElem? (i := 1031) (by decide +kernel)) (by decide +kernel)
theorem ml_X11_107 : Cond.methodLink RX11 107 yX11_in ∈ tw := tw_tb (List.mem_of_getElem? (i := 1210) (by decide +kernel)) (by decide +kernel)
theorem ml_X11_111 : Cond.methodLink RX11 111 yX11_all ∈ tw := tw_tb (List.mem_of_getElem? (i := 1394) (by decide +kernel)) (by decide +kernel)
theorem ml_X11_127 : Cond.methodLink RX11 127 yX11_here ∈ tw := tw_tb (List.mem_of_getElem? (i := 1218) (by decide +kernel)) (by decide +kernel)
theorem ml_X11_153 : Cond.methodLink RX11 153 yX11_fails ∈ tw := tw_tb (List.mem_of_getElem? (i := 1242) (by decide +kernel)) (by decide +kernel)
theorem ml_X11_163 : Cond.methodLink RX11 163 yX11_takeNumber ∈ tw := tw_tb (List.mem_of_getElem? (i := 1257) (by decide +kernel)) (by decide +kernel)
theorem ml_X11_169 : Cond.methodLink RX11 169 yX11_into ∈ tw := tw_tb (List.mem_of_getElem? (i := 1253) (by decide +kernel)) (by decide +kernel)
theorem ml_X11_176 : Cond.methodLink RX11 176 yX11_readWord ∈ tw := tw_tb (List.mem_of_getElem? (i := 1226) (by decide +kernel)) (by decide +kernel)
theorem ml_X11_179 : Cond.methodLink RX11 179 yX11_code ∈ tw := tw_tb (List.mem_of_getElem? (i := 1236) (by decide +kernel)) (by decide +kernel)
theorem ml_X11_183 : Cond.methodLink RX11 183 yX11_longer ∈ tw := tw_tb (List.mem_of_getElem? (i := 1239) (by decide +kernel)) (by decide +kernel)
theorem ml_X11_190 : Cond.methodLink RX11 190 yX11_has ∈ tw := tw_tb (List.mem_of_getElem? (i := 1246) (by decide +kernel)) (by decide +kernel)
theorem ml_X11_194 : Cond.methodLink RX11 194 yX11_takeLamp ∈ tw := tw_tb (List.mem_of_getElem? (i := 1249) (by decide +kernel)) (by decide +kernel)
theorem ml_X11_197 : Cond.methodLink RX11 197 yX11_takeSinger ∈ tw := tw_tb (List.mem_of_getElem? (i := 1263) (by decide +kernel)) (by decide +kernel)
theorem ml_X11_200 : Cond.methodLink RX11 200 yX11_takeStop ∈ tw := tw_tb (List.mem_of_getElem? (i := 1267) (by decide +kernel)) (by decide +kernel)
theorem ml_X11_203 : Cond.methodLink RX11 203 yX11_takeQuay ∈ tw := tw_tb (List.mem_of_getElem? (i := 1222) (by decide +kernel)) (by decide +kernel)
theorem ml_X11_224 : Cond.methodLink RX11 224 yX11_allOut ∈ tw := tw_tb (List.mem_of_getElem? (i := 1271) (by decide +kernel)) (by decide +kernel)
theorem ml_X11_233 : Cond.methodLink RX11 233 yX11_takeSong ∈ tw := tw_tb (List.mem_of_getElem? (i := 1279) (by decide +kernel)) (by decide +kernel)
theorem ml_X11_236 : Cond.methodLink RX11 236 yX11_takeDay ∈ tw := tw_tb (List.mem_of_getElem? (i := 1287) (by decide +kernel)) (by decide +kernel)
theorem ml_X11_242 : Cond.methodLink RX11 242 yX11_isLamp ∈ tw := tw_tb (List.mem_of_getElem? (i := 1303) (by decide +kernel)) (by decide +kernel)
theorem ml_X11_246 : Cond.methodLink RX11 246 yX11_earOf ∈ tw := tw_tb (List.mem_of_getElem? (i := 1307) (by decide +kernel)) (by decide +kernel)
theorem ml_X11_251 : Cond.methodLink RX11 251 yX11_size ∈ tw := tw_tb (List.mem_of_getElem? (i := 1338) (by decide +kernel)) (by decide +kernel)
theorem ml_X11_255 : Cond.methodLink RX11 255 yX11_wakesBy ∈ tw := tw_tb (List.mem_of_getElem? (i := 1334) (by decide +kernel)) (by decide +kernel)
theorem ml_X11_265 : Cond.methodLink RX11 265 yX11_isSound ∈ tw := tw_tb (List.mem_of_getElem? (i := 1326) (by decide +kernel)) (by decide +kernel)
theorem ml_X11_268 : Cond.methodLink RX11 268 yX11_isLoud ∈ tw := tw_tb (List.mem_of_getElem? (i := 1331) (by decide +kernel)) (by decide +kernel)
theorem ml_X11_271 : Cond.methodLink RX11 271 yX11_sound ∈ tw := tw_tb (List.mem_of_getElem? (i := 1345) (by decide +kernel)) (by decide +kernel)
theorem ml_X11_284 : Cond.methodLink RX11 284 yX11_draw ∈ tw := tw_tb (List.mem_of_getElem? (i := 1358) (by decide +kernel)) (by decide +kernel)
theorem ml_X11_289 : Cond.methodLink RX11 289 yX11_goOn ∈ tw := tw_tb (List.mem_of_getElem? (i := 1354) (by decide +kernel)) (by decide +kernel)
theorem ml_X11_292 : Cond.methodLink RX11 292 yX11_litNow ∈ tw := tw_tb (List.mem_of_getElem? (i := 1366) (by decide +kernel)) (by decide +kernel)
theorem ml_X11_297 : Cond.methodLink RX11 297 yX11_lesser ∈ tw := tw_tb (List.mem_of_getElem? (i := 1399) (by decide +kernel)) (by decide +kernel)
theorem ml_X11_306 : Cond.methodLink RX11 306 yX11_findRound ∈ tw := tw_tb (List.mem_of_getElem? (i := 1390) (by decide +kernel)) (by decide +kernel)
theorem ml_X11_309 : Cond.methodLink RX11 309 yX11_beginRound ∈ tw := tw_tb (List.mem_of_getElem? (i := 1386) (by decide +kernel)) (by decide +kernel)
theorem ml_X11_312 : Cond.methodLink RX11 312 yX11_step ∈ tw := tw_tb (List.mem_of_getElem? (i := 1402) (by decide +kernel)) (by decide +kernel)
theorem ml_X11_315 : Cond.methodLink RX11 315 yX11_areLamps ∈ tw := tw_tb (List.mem_of_getElem? (i := 1410) (by decide +kernel)) (by decide +kernel)
theorem ml_X11_318 : Cond.methodLink RX11 318 yX11_isNote ∈ tw := tw_tb (List.mem_of_getElem? (i := 1430) (by decide +kernel)) (by decide +kernel)
theorem ml_X11_322 : Cond.methodLink RX11 322 yX11_luredBy ∈ tw := tw_tb (List.mem_of_getElem? (i := 1426) (by decide +kernel)) (by decide +kernel)
theorem ml_X11_326 : Cond.methodLink RX11 326 yX11_noteOf ∈ tw := tw_tb (List.mem_of_getElem? (i := 1441) (by decide +kernel)) (by decide +kernel)
theorem ml_X11_329 : Cond.methodLink RX11 329 yX11_isTogether ∈ tw := tw_tb (List.mem_of_getElem? (i := 1469) (by decide +kernel)) (by decide +kernel)
theorem ml_X11_332 : Cond.methodLink RX11 332 yX11_isAlone ∈ tw := tw_tb (List.mem_of_getElem? (i := 1465) (by decide +kernel)) (by decide +kernel)
theorem ml_X11_335 : Cond.methodLink RX11 335 yX11_fileAll ∈ tw := tw_tb (List.mem_of_getElem? (i := 1461) (by decide +kernel)) (by decide +kernel)
theorem ml_X11_340 : Cond.methodLink RX11 340 yX11_bits ∈ tw := tw_tb (List.mem_of_getElem? (i := 1478) (by decide +kernel)) (by decide +kernel)
theorem ml_X11_343 : Cond.methodLink RX11 343 yX11_tuneBy ∈ tw := tw_tb (List.mem_of_getElem? (i := 1481) (by decide +kernel)) (by decide +kernel)
theorem ml_X11_347 : Cond.methodLink RX11 347 yX11_darkOn ∈ tw := tw_tb (List.mem_of_getElem? (i := 1489) (by decide +kernel)) (by decide +kernel)
theorem ml_X2_34 : Cond.methodLink RX2 34 yX4_at ∈ tw := tw_tb (List.mem_of_getElem? (i := 347) (by decide +kernel)) (by decide +kernel)
theorem ml_X2_47 : Cond.methodLink RX2 47 yX2_darken ∈ tw := tw_tb (List.mem_of_getElem? (i := 351) (by decide +kernel)) (by decide +kernel)
theorem ml_X2_56 : Cond.methodLink RX2 56 yX2_noteOf ∈ tw := tw_tb (List.mem_of_getElem? (i := 654) (by decide +kernel)) (by decide +kernel)
theorem ml_X2_62 : Cond.methodLink RX2 62 yX6_lamps ∈ tw := tw_tb (List.mem_of_getElem? (i := 681) (by decide +kernel)) (by decide +kernel)
theorem ml_X2_66 : Cond.methodLink RX2 66 yX2_ear ∈ tw := tw_tb (List.mem_of_getElem? (i := 682) (by decide +kernel)) (by decide +kernel)
theorem ml_X2_83 : Cond.methodLink RX2 83 yX7_count ∈ tw := tw_tb (List.mem_of_getElem? (i := 702) (by decide +kernel)) (by decide +kernel)
theorem ml_X2_101 : Cond.methodLink RX2 101 yX2_woken ∈ tw := tw_tb (List.mem_of_getElem? (i := 703) (by decide +kernel)) (by decide +kernel)
theorem ml_X2_105 : Cond.methodLink RX2 105 yX2_light ∈ tw := tw_tb (List.mem_of_getElem? (i := 704) (by decide +kernel)) (by decide +kernel)
theorem ml_X2_109 : Cond.methodLink RX2 109 yX2_draw ∈ tw := tw_tb (List.mem_of_getElem? (i := 705) (by decide +kernel)) (by decide +kernel)
theorem ml_X2_112 : Cond.methodLink RX2 112 yX2_burnDown ∈ tw := tw_tb (List.mem_of_getElem? (i := 712) (by decide +kernel)) (by decide +kernel)
theorem ml_X3_28 : Cond.methodLink RX3 28 yX3_fail ∈ tw := tw_tb (List.mem_of_getElem? (i := 523) (by decide +kernel)) (by decide +kernel)
theorem ml_X3_35 : Cond.methodLink RX3 35 yX3_skipBlanks ∈ tw := tw_tb (List.mem_of_getElem? (i := 437) (by decide +kernel)) (by decide +kernel)
theorem ml_X3_38 : Cond.methodLink RX3 38 yX3_hasFault ∈ tw := tw_tb (List.mem_of_getElem? (i := 443) (by decide +kernel)) (by decide +kernel)
theorem ml_X3_42 : Cond.methodLink RX3 42 yX4_size ∈ tw := tw_tb (List.mem_of_getElem? (i := 441) (by decide +kernel)) (by decide +kernel)
theorem ml_X3_48 : Cond.methodLink RX3 48 yX4_at ∈ tw := tw_tb (List.mem_of_getElem? (i := 442) (by decide +kernel)) (by decide +kernel)
theorem ml_X3_56 : Cond.methodLink RX3 56 yJ0_length_8abf5 ∈ tw := tw_tb (List.mem_of_getElem? (i := 463) (by decide +kernel)) (by decide +kernel)
theorem ml_X3_61 : Cond.methodLink RX3 61 yJ0_charAt_5068e ∈ tw := tw_tb (List.mem_of_getElem? (i := 473) (by decide +kernel)) (by decide +kernel)
theorem ml_X3_65 : Cond.methodLink RX3 65 yX3_failAtNumber ∈ tw := tw_tb (List.mem_of_getElem? (i := 531) (by decide +kernel)) (by decide +kernel)
theorem ml_X4_25 : Cond.methodLink RX4 25 yX4_put ∈ tw := tw_tb (List.mem_of_getElem? (i := 563) (by decide +kernel)) (by decide +kernel)
theorem ml_X5_50 : Cond.methodLink RX5 50 yX6_empty ∈ tw := tw_tb (List.mem_of_getElem? (i := 421) (by decide +kernel)) (by decide +kernel)
theorem ml_X5_53 : Cond.methodLink RX5 53 yX3_start ∈ tw := tw_tb (List.mem_of_getElem? (i := 429) (by decide +kernel)) (by decide +kernel)
theorem ml_X5_56 : Cond.methodLink RX5 56 yX3_hasMore ∈ tw := tw_tb (List.mem_of_getElem? (i := 433) (by decide +kernel)) (by decide +kernel)
theorem ml_X5_60 : Cond.methodLink RX5 60 yX5_readQuayClause ∈ tw := tw_tb (List.mem_of_getElem? (i := 447) (by decide +kernel)) (by decide +kernel)
theorem ml_X5_63 : Cond.methodLink RX5 63 yX4_empty ∈ tw := tw_tb (List.mem_of_getElem? (i := 552) (by decide +kernel)) (by decide +kernel)
theorem ml_X5_64 : Cond.methodLink RX5 64 yX3_hasFault ∈ tw := tw_tb (List.mem_of_getElem? (i := 553) (by decide +kernel)) (by decide +kernel)
theorem ml_X5_70 : Cond.methodLink RX5 70 yX6_fillUntold ∈ tw := tw_tb (List.mem_of_getElem? (i := 554) (by decide +kernel)) (by decide +kernel)
theorem ml_X5_73 : Cond.methodLink RX5 73 yX6_copy ∈ tw := tw_tb (List.mem_of_getElem? (i := 555) (by decide +kernel)) (by decide +kernel)
theorem ml_X5_77 : Cond.methodLink RX5 77 yX6_lamps ∈ tw := tw_tb (List.mem_of_getElem? (i := 564) (by decide +kernel)) (by decide +kernel)
theorem ml_X5_81 : Cond.methodLink RX5 81 yX3_readWord ∈ tw := tw_tb (List.mem_of_getElem? (i := 451) (by decide +kernel)) (by decide +kernel)
theorem ml_X5_86 : Cond.methodLink RX5 86 yX3_wordIs ∈ tw := tw_tb (List.mem_of_getElem? (i := 459) (by decide +kernel)) (by decide +kernel)
theorem ml_X5_90 : Cond.methodLink RX5 90 yX5_readLamp ∈ tw := tw_tb (List.mem_of_getElem? (i := 511) (by decide +kernel)) (by decide +kernel)
theorem ml_X5_95 : Cond.methodLink RX5 95 yX5_readSinger ∈ tw := tw_tb (List.mem_of_getElem? (i := 541) (by decide +kernel)) (by decide +kernel)
theorem ml_X5_102 : Cond.methodLink RX5 102 yX5_readOnce ∈ tw := tw_tb (List.mem_of_getElem? (i := 546) (by decide +kernel)) (by decide +kernel)
theorem ml_X5_114 : Cond.methodLink RX5 114 yX3_failAtWord ∈ tw := tw_tb (List.mem_of_getElem? (i := 519) (by decide +kernel)) (by decide +kernel)
theorem ml_X5_120 : Cond.methodLink RX5 120 yX4_isFull ∈ tw := tw_tb (List.mem_of_getElem? (i := 515) (by decide +kernel)) (by decide +kernel)
theorem ml_X5_123 : Cond.methodLink RX5 123 yX3_readNumber ∈ tw := tw_tb (List.mem_of_getElem? (i := 527) (by decide +kernel)) (by decide +kernel)
theorem ml_X5_126 : Cond.methodLink RX5 126 yX4_put ∈ tw := tw_tb (List.mem_of_getElem? (i := 535) (by decide +kernel)) (by decide +kernel)
theorem ml_X5_138 : Cond.methodLink RX5 138 yX3_endClause ∈ tw := tw_tb (List.mem_of_getElem? (i := 536) (by decide +kernel)) (by decide +kernel)
theorem ml_X5_153 : Cond.methodLink RX5 153 yX7_empty ∈ tw := tw_tb (List.mem_of_getElem? (i := 584) (by decide +kernel)) (by decide +kernel)
theorem ml_X5_154 : Cond.methodLink RX5 154 yX5_readSong ∈ tw := tw_tb (List.mem_of_getElem? (i := 585) (by decide +kernel)) (by decide +kernel)
theorem ml_X5_157 : Cond.methodLink RX5 157 yX7_copy ∈ tw := tw_tb (List.mem_of_getElem? (i := 610) (by decide +kernel)) (by decide +kernel)
theorem ml_X5_160 : Cond.methodLink RX5 160 yX7_count ∈ tw := tw_tb (List.mem_of_getElem? (i := 594) (by decide +kernel)) (by decide +kernel)
theorem ml_X5_168 : Cond.methodLink RX5 168 yX5_readOnlyWord ∈ tw := tw_tb (List.mem_of_getElem? (i := 590) (by decide +kernel)) (by decide +kernel)
theorem ml_X5_172 : Cond.methodLink RX5 172 yX4_at ∈ tw := tw_tb (List.mem_of_getElem? (i := 599) (by decide +kernel)) (by decide +kernel)
theorem ml_X5_176 : Cond.methodLink RX5 176 yX3_failAtNumber ∈ tw := tw_tb (List.mem_of_getElem? (i := 600) (by decide +kernel)) (by decide +kernel)
theorem ml_X5_179 : Cond.methodLink RX5 179 yX6_singers ∈ tw := tw_tb (List.mem_of_getElem? (i := 601) (by decide +kernel)) (by decide +kernel)
theorem ml_X5_182 : Cond.methodLink RX5 182 yX7_put ∈ tw := tw_tb (List.mem_of_getElem? (i := 605) (by decide +kernel)) (by decide +kernel)
theorem ml_X5_187 : Cond.methodLink RX5 187 yX4_copy ∈ tw := tw_tb (List.mem_of_getElem? (i := 624) (by decide +kernel)) (by decide +kernel)
theorem ml_X5_189 : Cond.methodLink RX5 189 yX4_size ∈ tw := tw_tb (List.mem_of_getElem? (i := 625) (by decide +kernel)) (by decide +kernel)
theorem ml_X6_41 : Cond.methodLink RX6 41 yX4_size ∈ tw := tw_tb (List.mem_of_getElem? (i := 568) (by decide +kernel)) (by decide +kernel)
theorem ml_X6_45 : Cond.methodLink RX6 45 yX4_empty ∈ tw := tw_tb (List.mem_of_getElem? (i := 425) (by decide +kernel)) (by decide +kernel)
theorem ml_X6_58 : Cond.methodLink RX6 58 yX4_copy ∈ tw := tw_tb (List.mem_of_getElem? (i := 559) (by decide +kernel)) (by decide +kernel)
theorem ml_X7_26 : Cond.methodLink RX7 26 yX4_size ∈ tw := tw_tb (List.mem_of_getElem? (i := 598) (by decide +kernel)) (by decide +kernel)
theorem ml_X7_30 : Cond.methodLink RX7 30 yX4_put ∈ tw := tw_tb (List.mem_of_getElem? (i := 609) (by decide +kernel)) (by decide +kernel)
theorem ml_X7_33 : Cond.methodLink RX7 33 yX4_empty ∈ tw := tw_tb (List.mem_of_getElem? (i := 573) (by decide +kernel)) (by decide +kernel)
theorem ml_X7_36 : Cond.methodLink RX7 36 yX4_copy ∈ tw := tw_tb (List.mem_of_getElem? (i := 614) (by decide +kernel)) (by decide +kernel)
theorem ml_X8_39 : Cond.methodLink RX8 39 yX4_size ∈ tw := tw_tb (List.mem_of_getElem? (i := 809) (by decide +kernel)) (by decide +kernel)
theorem ml_X8_43 : Cond.methodLink RX8 43 yX4_at ∈ tw := tw_tb (List.mem_of_getElem? (i := 767) (by decide +kernel)) (by decide +kernel)
theorem ml_X8_62 : Cond.methodLink RX8 62 yX1_listen ∈ tw := tw_tb (List.mem_of_getElem? (i := 745) (by decide +kernel)) (by decide +kernel)
theorem ml_X8_68 : Cond.methodLink RX8 68 yX8_lastUseful ∈ tw := tw_tb (List.mem_of_getElem? (i := 763) (by decide +kernel)) (by decide +kernel)
theorem ml_X8_75 : Cond.methodLink RX8 75 yX8_behindAt ∈ tw := tw_tb (List.mem_of_getElem? (i := 769) (by decide +kernel)) (by decide +kernel)
theorem ml_X8_79 : Cond.methodLink RX8 79 yX8_gatherLargest ∈ tw := tw_tb (List.mem_of_getElem? (i := 772) (by decide +kernel)) (by decide +kernel)
theorem ml_X8_82 : Cond.methodLink RX8 82 yX8_nearTo ∈ tw := tw_tb (List.mem_of_getElem? (i := 786) (by decide +kernel)) (by decide +kernel)
theorem ml_X8_85 : Cond.methodLink RX8 85 yX6_allLamps ∈ tw := tw_tb (List.mem_of_getElem? (i := 790) (by decide +kernel)) (by decide +kernel)
theorem ml_X8_88 : Cond.methodLink RX8 88 yX8_countMinutesAt ∈ tw := tw_tb (List.mem_of_getElem? (i := 794) (by decide +kernel)) (by decide +kernel)
theorem ml_X8_92 : Cond.methodLink RX8 92 yX8_writeSteps ∈ tw := tw_tb (List.mem_of_getElem? (i := 810) (by decide +kernel)) (by decide +kernel)
theorem ml_X8_95 : Cond.methodLink RX8 95 yX6_lamps ∈ tw := tw_tb (List.mem_of_getElem? (i := 766) (by decide +kernel)) (by decide +kernel)
theorem ml_X8_110 : Cond.methodLink RX8 110 yX4_empty ∈ tw := tw_tb (List.mem_of_getElem? (i := 776) (by decide +kernel)) (by decide +kernel)
theorem ml_X8_113 : Cond.methodLink RX8 113 yX1_at ∈ tw := tw_tb (List.mem_of_getElem? (i := 777) (by decide +kernel)) (by decide +kernel)
theorem ml_X8_115 : Cond.methodLink RX8 115 yX4_putIfLargest ∈ tw := tw_tb (List.mem_of_getElem? (i := 782) (by decide +kernel)) (by decide +kernel)
theorem ml_X8_118 : Cond.methodLink RX8 118 yX8_fewestFrom ∈ tw := tw_tb (List.mem_of_getElem? (i := 798) (by decide +kernel)) (by decide +kernel)
theorem ml_X8_121 : Cond.methodLink RX8 121 yX8_minutesFrom ∈ tw := tw_tb (List.mem_of_getElem? (i := 802) (by decide +kernel)) (by decide +kernel)
theorem ml_X8_132 : Cond.methodLink RX8 132 yX8_firstHum ∈ tw := tw_tb (List.mem_of_getElem? (i := 814) (by decide +kernel)) (by decide +kernel)
theorem ml_X8_136 : Cond.methodLink RX8 136 yX4_put ∈ tw := tw_tb (List.mem_of_getElem? (i := 818) (by decide +kernel)) (by decide +kernel)
theorem ml_X8_139 : Cond.methodLink RX8 139 yX2_woken ∈ tw := tw_tb (List.mem_of_getElem? (i := 1010) (by decide +kernel)) (by decide +kernel)
theorem ml_X9_37 : Cond.methodLink RX9 37 yX4_empty ∈ tw := tw_tb (List.mem_of_getElem? (i := 858) (by decide +kernel)) (by decide +kernel)
theorem ml_X9_40 : Cond.methodLink RX9 40 yJ7_fill_53178 ∈ tw := tw_tb (List.mem_of_getElem? (i := 859) (by decide +kernel)) (by decide +kernel)
theorem ml_X9_46 : Cond.methodLink RX9 46 yX1_at ∈ tw := tw_tb (List.mem_of_getElem? (i := 860) (by decide +kernel)) (by decide +kernel)
theorem ml_X9_52 : Cond.methodLink RX9 52 yX4_put ∈ tw := tw_tb (List.mem_of_getElem? (i := 861) (by decide +kernel)) (by decide +kernel)
theorem ml_X9_55 : Cond.methodLink RX9 55 yX4_size ∈ tw := tw_tb (List.mem_of_getElem? (i := 866) (by decide +kernel)) (by decide +kernel)
theorem ml_X9_59 : Cond.methodLink RX9 59 yX4_at ∈ tw := tw_tb (List.mem_of_getElem? (i := 867) (by decide +kernel)) (by decide +kernel)
theorem ml_X9_62 : Cond.methodLink RX9 62 yX4_putIfLargest ∈ tw := tw_tb (List.mem_of_getElem? (i := 868) (by decide +kernel)) (by decide +kernel)
theorem ml_X9_65 : Cond.methodLink RX9 65 yX9_fewestThatHold ∈ tw := tw_tb (List.mem_of_getElem? (i := 869) (by decide +kernel)) (by decide +kernel)
theorem ml_X9_68 : Cond.methodLink RX9 68 yX9_reach ∈ tw := tw_tb (List.mem_of_getElem? (i := 899) (by decide +kernel)) (by decide +kernel)
theorem ml_X9_71 : Cond.methodLink RX9 71 yX9_firstUseful ∈ tw := tw_tb (List.mem_of_getElem? (i := 907) (by decide +kernel)) (by decide +kernel)
theorem ml_X9_74 : Cond.methodLink RX9 74 yX9_leastFor ∈ tw := tw_tb (List.mem_of_getElem? (i := 878) (by decide +kernel)) (by decide +kernel)
theorem ml_X9_78 : Cond.methodLink RX9 78 yX9_leastByLowest ∈ tw := tw_tb (List.mem_of_getElem? (i := 873) (by decide +kernel)) (by decide +kernel)
theorem wc_J6_265 : Cond.constant RJ6 265 1431655765 ∈ tw := tw_tb (List.mem_of_getElem? (i := 974) (by decide +kernel)) (by decide +kernel)
theorem wc_J6_266 : Cond.constant RJ6 266 858993459 ∈ tw := tw_tb (List.mem_of_getElem? (i := 975) (by decide +kernel)) (by decide +kernel)
theorem wc_J6_267 : Cond.constant RJ6 267 252645135 ∈ tw := tw_tb (List.mem_of_getElem? (i := 976) (by decide +kernel)) (by decide +kernel)
theorem wc_X0_97 : Cond.constant RX0 97 100000 ∈ tw := tw_tb (List.mem_of_getElem? (i := 981) (by decide +kernel)) (by decide +kernel)
theorem wc_X11_283 : Cond.constant RX11 283 65536 ∈ tw := tw_tb (List.mem_of_getElem? (i := 1365) (by decide +kernel)) (by decide +kernel)
theorem wc_X11_296 : Cond.constant RX11 296 1000000 ∈ tw := tw_tb (List.mem_of_getElem? (i := 1398) (by decide +kernel)) (by decide +kernel)
theorem wc_X2_115 : Cond.constant RX2 115 1103515245 ∈ tw := tw_tb (List.mem_of_getElem? (i := 709) (by decide +kernel)) (by decide +kernel)
theorem wc_X2_116 : Cond.constant RX2 116 2147483647 ∈ tw := tw_tb (List.mem_of_getElem? (i := 710) (by decide +kernel)) (by decide +kernel)
theorem wc_X2_117 : Cond.constant RX2 117 65536 ∈ tw := tw_tb (List.mem_of_getElem? (i := 711) (by decide +kernel)) (by decide +kernel)
theorem wc_X8_127 : Cond.constant RX8 127 100000 ∈ tw := tw_tb (List.mem_of_getElem? (i := 808) (by decide +kernel)) (by decide +kernel)
theorem wc_X9_77 : Cond.constant RX9 77 100000 ∈ tw := tw_tb (List.mem_of_getElem? (i := 877) (by decide +kernel)) (by decide +kernel)
theorem wl_X11_115 : Cond.constantLong RX11 115 50 ∈ tw := tw_tb (List.mem_of_getElem? (i := 1321) (by decide +kernel)) (by decide +kernel)
theorem wl_X11_117 : Cond.constantLong RX11 117 8 ∈ tw := tw_tb (List.mem_of_getElem? (i := 1209) (by decide +kernel)) (by decide +kernel)
theorem wl_X11_122 : Cond.constantLong RX11 122 255 ∈ tw := tw_tb (List.mem_of_getElem? (i := 1213) (by decide +kernel)) (by decide +kernel)
theorem wl_X11_137 : Cond.constantLong RX11 137 97 ∈ tw := tw_tb (List.mem_of_getElem? (i := 1230) (by decide +kernel)) (by decide +kernel)
theorem wl_X11_139 : Cond.constantLong RX11 139 122 ∈ tw := tw_tb (List.mem_of_getElem? (i := 1231) (by decide +kernel)) (by decide +kernel)
theorem wl_X11_141 : Cond.constantLong RX11 141 10000000000000 ∈ tw := tw_tb (List.mem_of_getElem? (i := 1232) (by decide +kernel)) (by decide +kernel)
theorem wl_X11_143 : Cond.constantLong RX11 143 20000000000000 ∈ tw := tw_tb (List.mem_of_getElem? (i := 1233) (by decide +kernel)) (by decide +kernel)
theorem wl_X11_145 : Cond.constantLong RX11 145 27 ∈ tw := tw_tb (List.mem_of_getElem? (i := 1234) (by decide +kernel)) (by decide +kernel)
theorem wl_X11_147 : Cond.constantLong RX11 147 96 ∈ tw := tw_tb (List.mem_of_getElem? (i := 1235) (by decide +kernel)) (by decide +kernel)
theorem wl_X11_149 : Cond.constantLong RX11 149 48 ∈ tw := tw_tb (List.mem_of_getElem? (i := 1261) (by decide +kernel)) (by decide +kernel)
theorem wl_X11_151 : Cond.constantLong RX11 151 57 ∈ tw := tw_tb (List.mem_of_getElem? (i := 1262) (by decide +kernel)) (by decide +kernel)
theorem wl_X11_249 : Cond.constantLong RX11 249 3 ∈ tw := tw_tb (List.mem_of_getElem? (i := 1315) (by decide +kernel)) (by decide +kernel)
theorem wl_X11_259 : Cond.constantLong RX11 259 9 ∈ tw := tw_tb (List.mem_of_getElem? (i := 1320) (by decide +kernel)) (by decide +kernel)
theorem wl_X11_261 : Cond.constantLong RX11 261 49 ∈ tw := tw_tb (List.mem_of_getElem? (i := 1329) (by decide +kernel)) (by decide +kernel)
theorem wl_X11_263 : Cond.constantLong RX11 263 63 ∈ tw := tw_tb (List.mem_of_getElem? (i := 1330) (by decide +kernel)) (by decide +kernel)
theorem wl_X11_277 : Cond.constantLong RX11 277 1103515245 ∈ tw := tw_tb (List.mem_of_getElem? (i := 1362) (by decide +kernel)) (by decide +kernel)
theorem wl_X11_279 : Cond.constantLong RX11 279 12345 ∈ tw := tw_tb (List.mem_of_getElem? (i := 1363) (by decide +kernel)) (by decide +kernel)
theorem wl_X11_281 : Cond.constantLong RX11 281 2147483648 ∈ tw := tw_tb (List.mem_of_getElem? (i := 1364) (by decide +kernel)) (by decide +kernel)
theorem wl_X11_287 : Cond.constantLong RX11 287 300 ∈ tw := tw_tb (List.mem_of_getElem? (i := 1353) (by decide +kernel)) (by decide +kernel)
theorem wl_X11_338 : Cond.constantLong RX11 338 10 ∈ tw := tw_tb (List.mem_of_getElem? (i := 1477) (by decide +kernel)) (by decide +kernel)
theorem mn_X1_62 : (RX1, 62, yX10_isWithin, "LampsListen") ∈ jw_nl := List.mem_of_getElem? (i := 6) rfl
theorem mn_X3_52 : (RX3, 52, yX10_isWithin, "LampsListen") ∈ jw_nl := List.mem_of_getElem? (i := 5) rfl
theorem mn_X8_128 : (RX8, 128, yX10_isWithin, "LampsListen") ∈ jw_nl := List.mem_of_getElem? (i := 7) rfl
theorem ms_max : Cond.static Lib.Math.max.name ∈ tw ∧ Cond.initialized "java/lang/Math" ∈ tw ∧ Cond.code Lib.Math.max.name Lib.Math.max.code 2 (some .int) ∈ tw := ⟨tw_tb (List.mem_of_getElem? (i := 35) (by decide +kernel)) (by decide +kernel), tw_tb (List.mem_of_getElem? (i := 3) (by decide +kernel)) (by decide +kernel), tw_tb (List.mem_of_getElem? (i := 36) (by decide +kernel)) (by decide +kernel)⟩
theorem ms_min : Cond.static Lib.Math.min.name ∈ tw ∧ Cond.initialized "java/lang/Math" ∈ tw ∧ Cond.code Lib.Math.min.name Lib.Math.min.code 2 (some .int) ∈ tw := ⟨tw_tb (List.mem_of_getElem? (i := 755) (by decide +kernel)) (by decide +kernel), tw_tb (List.mem_of_getElem? (i := 3) (by decide +kernel)) (by decide +kernel), tw_tb (List.mem_of_getElem? (i := 756) (by decide +kernel)) (by decide +kernel)⟩
theorem ms_abs : Cond.static Lib.Math.abs.name ∈ tw ∧ Cond.initialized "java/lang/Math" ∈ tw ∧ Cond.code Lib.Math.abs.name Lib.Math.abs.code 1 (some .int) ∈ tw := ⟨tw_tb (List.mem_of_getElem? (i := 684) (by decide +kernel)) (by decide +kernel), tw_tb (List.mem_of_getElem? (i := 3) (by decide +kernel)) (by decide +kernel), tw_tb (List.mem_of_getElem? (i := 685) (by decide +kernel)) (by decide +kernel)⟩
theorem mm_X0_41 : Cond.methodLink RX0 41 Lib.Math.max.name ∈ tw ∧ Cond.static Lib.Math.max.name ∈ tw ∧ Cond.initialized "java/lang/Math" ∈ tw ∧ Cond.code Lib.Math.max.name Lib.Math.max.code 2 (some .int) ∈ tw := ⟨tw_tb (List.mem_of_getElem? (i := 946) (by decide +kernel)) (by decide +kernel), ms_max⟩
theorem mm_X0_67 : Cond.methodLink RX0 67 Lib.Math.abs.name ∈ tw ∧ Cond.static Lib.Math.abs.name ∈ tw ∧ Cond.initialized "java/lang/Math" ∈ tw ∧ Cond.code Lib.Math.abs.name Lib.Math.abs.code 1 (some .int) ∈ tw := ⟨tw_tb (List.mem_of_getElem? (i := 960) (by decide +kernel)) (by decide +kernel), ms_abs⟩
theorem mm_X0_83 : Cond.methodLink RX0 83 Lib.Math.min.name ∈ tw ∧ Cond.static Lib.Math.min.name ∈ tw ∧ Cond.initialized "java/lang/Math" ∈ tw ∧ Cond.code Lib.Math.min.name Lib.Math.min.code 2 (some .int) ∈ tw := ⟨tw_tb (List.mem_of_getElem? (i := 961) (by decide +kernel)) (by decide +kernel), ms_min⟩
theorem mm_X1_43 : Cond.methodLink RX1 43 Lib.Math.min.name ∈ tw ∧ Cond.static Lib.Math.min.name ∈ tw ∧ Cond.initialized "java/lang/Math" ∈ tw ∧ Cond.code Lib.Math.min.name Lib.Math.min.code 2 (some .int) ∈ tw := ⟨tw_tb (List.mem_of_getElem? (i := 754) (by decide +kernel)) (by decide +kernel), ms_min⟩
theorem mm_X1_49 : Cond.methodLink RX1 49 Lib.Math.max.name ∈ tw ∧ Cond.static Lib.Math.max.name ∈ tw ∧ Cond.initialized "java/lang/Math" ∈ tw ∧ Cond.code Lib.Math.max.name Lib.Math.max.code 2 (some .int) ∈ tw := ⟨tw_tb (List.mem_of_getElem? (i := 757) (by decide +kernel)) (by decide +kernel), ms_max⟩
theorem mm_X2_69 : Cond.methodLink RX2 69 Lib.Math.abs.name ∈ tw ∧ Cond.static Lib.Math.abs.name ∈ tw ∧ Cond.initialized "java/lang/Math" ∈ tw ∧ Cond.code Lib.Math.abs.name Lib.Math.abs.code 1 (some .int) ∈ tw := ⟨tw_tb (List.mem_of_getElem? (i := 683) (by decide +kernel)) (by decide +kernel), ms_abs⟩
theorem mm_X8_101 : Cond.methodLink RX8 101 Lib.Math.max.name ∈ tw ∧ Cond.static Lib.Math.max.name ∈ tw ∧ Cond.initialized "java/lang/Math" ∈ tw ∧ Cond.code Lib.Math.max.name Lib.Math.max.code 2 (some .int) ∈ tw := ⟨tw_tb (List.mem_of_getElem? (i := 768) (by decide +kernel)) (by decide +kernel), ms_max⟩
theorem mm_X8_107 : Cond.methodLink RX8 107 Lib.Math.abs.name ∈ tw ∧ Cond.static Lib.Math.abs.name ∈ tw ∧ Cond.initialized "java/lang/Math" ∈ tw ∧ Cond.code Lib.Math.abs.name Lib.Math.abs.code 1 (some .int) ∈ tw := ⟨tw_tb (List.mem_of_getElem? (i := 789) (by decide +kernel)) (by decide +kernel), ms_abs⟩
theorem mm_X8_124 : Cond.methodLink RX8 124 Lib.Math.min.name ∈ tw ∧ Cond.static Lib.Math.min.name ∈ tw ∧ Cond.initialized "java/lang/Math" ∈ tw ∧ Cond.code Lib.Math.min.name Lib.Math.min.code 2 (some .int) ∈ tw := ⟨tw_tb (List.mem_of_getElem? (i := 806) (by decide +kernel)) (by decide +kernel), ms_min⟩
theorem mm_X9_81 : Cond.methodLink RX9 81 Lib.Math.min.name ∈ tw ∧ Cond.static Lib.Math.min.name ∈ tw ∧ Cond.initialized "java/lang/Math" ∈ tw ∧ Cond.code Lib.Math.min.name Lib.Math.min.code 2 (some .int) ∈ tw := ⟨tw_tb (List.mem_of_getElem? (i := 882) (by decide +kernel)) (by decide +kernel), ms_min⟩
theorem kb_m10 : (Int8.ofInt (-10)).toInt32 = (-10) := by decide
theorem kb_m3 : (Int8.ofInt (-3)).toInt32 = (-3) := by decide
theorem kb_m2 : (Int8.ofInt (-2)).toInt32 = (-2) := by decide
theorem kb_8 : (Int8.ofInt 8).toInt32 = 8 := by decide
theorem kb_9 : (Int8.ofInt 9).toInt32 = 9 := by decide
theorem kb_10 : (Int8.ofInt 10).toInt32 = 10 := by decide
theorem kb_16 : (Int8.ofInt 16).toInt32 = 16 := by decide
theorem kb_20 : (Int8.ofInt 20).toInt32 = 20 := by decide
theorem kb_30 : (Int8.ofInt 30).toInt32 = 30 := by decide
theorem kb_31 : (Int8.ofInt 31).toInt32 = 31 := by decide
theorem kb_32 : (Int8.ofInt 32).toInt32 = 32 := by decide
theorem kb_40 : (Int8.ofInt 40).toInt32 = 40 := by decide
theorem kb_41 : (Int8.ofInt 41).toInt32 = 41 := by decide
theorem kb_42 : (Int8.ofInt 42).toInt32 = 42 := by decide
theorem kb_43 : (Int8.ofInt 43).toInt32 = 43 := by decide
theorem kb_48 : (Int8.ofInt 48).toInt32 = 48 := by decide
theorem kb_49 : (Int8.ofInt 49).toInt32 = 49 := by decide
theorem kb_50 : (Int8.ofInt 50).toInt32 = 50 := by decide
theorem kb_57 : (Int8.ofInt 57).toInt32 = 57 := by decide
theorem kb_59 : (Int8.ofInt 59).toInt32 = 59 := by decide
theorem kb_63 : (Int8.ofInt 63).toInt32 = 63 := by decide
theorem kb_64 : (Int8.ofInt 64).toInt32 = 64 := by decide
theorem kb_65 : (Int8.ofInt 65).toInt32 = 65 := by decide
theorem kb_90 : (Int8.ofInt 90).toInt32 = 90 := by decide
theorem kb_97 : (Int8.ofInt 97).toInt32 = 97 := by decide
theorem kb_98 : (Int8.ofInt 98).toInt32 = 98 := by decide
theorem kb_99 : (Int8.ofInt 99).toInt32 = 99 := by decide
theorem kb_100 : (Int8.ofInt 100).toInt32 = 100 := by decide
theorem kb_101 : (Int8.ofInt 101).toInt32 = 101 := by decide
theorem kb_102 : (Int8.ofInt 102).toInt32 = 102 := by decide
theorem kb_103 : (Int8.ofInt 103).toInt32 = 103 := by decide
theorem kb_104 : (Int8.ofInt 104).toInt32 = 104 := by decide
theorem kb_105 : (Int8.ofInt 105).toInt32 = 105 := by decide
theorem kb_108 : (Int8.ofInt 108).toInt32 = 108 := by decide
theorem kb_109 : (Int8.ofInt 109).toInt32 = 109 := by decide
theorem kb_110 : (Int8.ofInt 110).toInt32 = 110 := by decide
theorem kb_111 : (Int8.ofInt 111).toInt32 = 111 := by decide
theorem kb_112 : (Int8.ofInt 112).toInt32 = 112 := by decide
theorem kb_114 : (Int8.ofInt 114).toInt32 = 114 := by decide
theorem kb_115 : (Int8.ofInt 115).toInt32 = 115 := by decide
theorem kb_116 : (Int8.ofInt 116).toInt32 = 116 := by decide
theorem kb_117 : (Int8.ofInt 117).toInt32 = 117 := by decide
theorem kb_122 : (Int8.ofInt 122).toInt32 = 122 := by decide
theorem ks_m1004 : (Int16.ofInt (-1004)).toInt32 = (-1004) := by decide
theorem ks_m1003 : (Int16.ofInt (-1003)).toInt32 = (-1003) := by decide
theorem ks_m1002 : (Int16.ofInt (-1002)).toInt32 = (-1002) := by decide
theorem ks_m1001 : (Int16.ofInt (-1001)).toInt32 = (-1001) := by decide
theorem ks_200 : (Int16.ofInt 200).toInt32 = 200 := by decide
theorem ks_255 : (Int16.ofInt 255).toInt32 = 255 := by decide
theorem ks_300 : (Int16.ofInt 300).toInt32 = 300 := by decide
theorem ks_400 : (Int16.ofInt 400).toInt32 = 400 := by decide
theorem ks_599 : (Int16.ofInt 599).toInt32 = 599 := by decide
theorem ks_1023 : (Int16.ofInt 1023).toInt32 = 1023 := by decide
theorem ks_1024 : (Int16.ofInt 1024).toInt32 = 1024 := by decide
theorem ks_3200 : (Int16.ofInt 3200).toInt32 = 3200 := by decide
theorem ks_10000 : (Int16.ofInt 10000).toInt32 = 10000 := by decide
theorem ks_12345 : (Int16.ofInt 12345).toInt32 = 12345 := by decide
def LS_A (n0 : Nat) : List jSh := [.inl (0, n0)]
def LS_X0 : List jSh := [.inr (0, [.inl 18, .inl 23, .inl 24]), .inr (6, [.inl 2, .inl 4, .inl 6, .inl 8, .inl 10, .inl 12, .inl 14, .inl 16, .inr 0, .inr 0, .inr 0]), .inr (4, [.inl 3, .inr 0]), .inl (0, 10), .inr (4, [.inl 5, .inr 0]), .inl (0, 10), .inr (4, [.inl 7, .inr 0]), .inl (0, 10), .inr (4, [.inl 9, .inr 0]), .inl (0, 10), .inr (4, [.inl 11, .inr 0]), .inl (0, 8), .inr (4, [.inl 13, .inr 0]), .inl (0, 8), .inr (4, [.inl 15, .inr 0]), .inl (0, 8), .inr (4, [.inl 17, .inr 0]), .inl (0, 8), .inr (2, [.inl 1, .inl 19, .inl 20, .inl 21, .inl 22, .inr 0, .inr 0, .inr 0, .inr 0, .inr 0]), .inl (0, 10), .inl (0, 10), .inl (0, 10), .inl (0, 10), .inl (0, 10), .inl (0, 1024)]
def LS_X1 : List jSh := [.inr (1, [.inl 1]), .inl (0, 3200)]
def LS_X10 : List jSh := [.inr (10, [.inl 1, .inl 3, .inl 31, .inl 48, .inl 55, .inl 57, .inl 62, .inl 67, .inl 72, .inl 77, .inl 79, .inl 81, .inl 83, .inl 91, .inl 98]), .inr (4, [.inl 2, .inr 0]), .inl (0, 400), .inr (5, [.inl 1, .inl 30, .inl 4, .inl 21, .inl 28]), .inr (6, [.inl 5, .inl 7, .inl 9, .inl 11, .inl 13, .inl 15, .inl 17, .inl 19, .inr 0, .inr 0, .inr 0]), .inr (4, [.inl 6, .inr 0]), .inl (0, 10), .inr (4, [.inl 8, .inr 0]), .inl (0, 10), .inr (4, [.inl 10, .inr 0]), .inl (0, 10), .inr (4, [.inl 12, .inr 0]), .inl (0, 10), .inr (4, [.inl 14, .inr 0]), .inl (0, 8), .inr (4, [.inl 16, .inr 0]), .inl (0, 8), .inr (4, [.inl 18, .inr 0]), .inl (0, 8), .inr (4, [.inl 20, .inr 0]), .inl (0, 8), .inr (7, [.inl 22, .inl 24, .inl 26]), .inr (4, [.inl 23, .inr 0]), .inl (0, 30), .inr (4, [.inl 25, .inr 0]), .inl (0, 30), .inr (4, [.inl 27, .inr 0]), .inl (0, 30), .inr (4, [.inl 29, .inr 0]), .inl (0, 30), .inr (3, [.inl 1, .inr 0, .inr 0, .inr 0, .inr 0, .inr 0]), .inr (6, [.inl 32, .inl 34, .inl 36, .inl 38, .inl 40, .inl 42, .inl 44, .inl 46, .inr 0, .inr 0, .inr 0]), .inr (4, [.inl 33, .inr 0]), .inl (0, 10), .inr (4, [.inl 35, .inr 0]), .inl (0, 10), .inr (4, [.inl 37, .inr 0]), .inl (0, 10), .inr (4, [.inl 39, .inr 0]), .inl (0, 10), .inr (4, [.inl 41, .inr 0]), .inl (0, 8), .inr (4, [.inl 43, .inr 0]), .inl (0, 8), .inr (4, [.inl 45, .inr 0]), .inl (0, 8), .inr (4, [.inl 47, .inr 0]), .inl (0, 8), .inr (7, [.inl 49, .inl 51, .inl 53]), .inr (4, [.inl 50, .inr 0]), .inl (0, 30), .inr (4, [.inl 52, .inr 0]), .inl (0, 30), .inr (4, [.inl 54, .inr 0]), .inl (0, 30), .inr (4, [.inl 56, .inr 0]), .inl (0, 30), .inr (2, [.inl 31, .inl 58, .inl 59, .inl 60, .inl 61, .inr 0, .inr 0, .inr 0, .inr 0, .inr 0]), .inl (0, 10), .inl (0, 10), .inl (0, 10), .inl (0, 10), .inr (2, [.inl 31, .inl 63, .inl 64, .inl 65, .inl 66, .inr 0, .inr 0, .inr 0, .inr 0, .inr 0]), .inl (0, 10), .inl (0, 10), .inl (0, 10), .inl (0, 10), .inr (2, [.inl 31, .inl 68, .inl 69, .inl 70, .inl 71, .inr 0, .inr 0, .inr 0, .inr 0, .inr 0]), .inl (0, 10), .inl (0, 10), .inl (0, 10), .inl (0, 10), .inr (2, [.inl 31, .inl 73, .inl 74, .inl 75, .inl 76, .inr 0, .inr 0, .inr 0, .inr 0, .inr 0]), .inl (0, 10), .inl (0, 10), .inl (0, 10), .inl (0, 10), .inr (4, [.inl 78, .inr 0]), .inl (0, 8), .inr (4, [.inl 80, .inr 0]), .inl (0, 40), .inr (1, [.inl 82]), .inl (0, 3200), .inr (9, [.inl 81, .inl 84, .inl 86, .inl 87, .inl 89, .inl 90]), .inr (4, [.inl 85, .inr 0]), .inl (0, 1024), .inl (0, 1024), .inr (4, [.inl 88, .inr 0]), .inl (0, 256), .inl (0, 1024), .inl (0, 64), .inr (8, [.inl 81, .inl 92, .inl 93, .inl 94, .inl 96, .inr 0, .inr 0, .inr 0]), .inl (0, 51200), .inl (0, 50), .inr (4, [.inl 95, .inr 0]), .inl (0, 64), .inr (4, [.inl 97, .inr 0]), .inl (0, 59), .inr (0, [.inl 57, .inl 99, .inl 100]), .inl (0, 10), .inl (0, 1024)]
def LS_X11 : List jSh := [.inr (11, [.inr 0, .inl 1, .inl 2, .inl 3, .inl 4, .inr 0, .inr 0, .inr 0, .inr 0, .inl 5, .inr 0, .inl 6, .inr 0, .inl 7, .inr 0, .inr 0, .inr 0, .inr 0, .inl 8, .inr 0, .inr 0, .inr 0, .inr 1, .inr 0, .inr 0, .inr 0, .inr 0, .inl 9, .inr 0, .inl 10, .inl 11, .inr 0, .inr 0, .inl 12, .inl 13, .inl 14, .inr 0, .inr 0, .inr 0, .inl 15, .inl 16, .inl 17, .inl 18, .inl 19, .inl 20, .inl 21, .inl 22, .inr 0, .inl 23, .inl 24, .inl 25, .inl 26]), .inl (0, 40), .inl (0, 10), .inl (0, 10), .inl (0, 10), .inl (0, 32), .inl (0, 90), .inl (0, 30), .inl (0, 400), .inl (0, 40), .inl (0, 32), .inl (0, 3), .inl (0, 90), .inl (0, 51200), .inl (0, 3200), .inl (0, 8), .inl (1, 1024), .inl (0, 1024), .inl (0, 64), .inl (0, 66560), .inl (0, 10), .inl (0, 10), .inl (0, 1024), .inl (0, 40), .inl (0, 32), .inl (0, 100), .inl (1, 2)]
def LS_X11_A (n0 : Nat) : List jSh := [.inr (11, [.inr 0, .inl 1, .inl 2, .inl 3, .inl 4, .inr 0, .inr 0, .inr 0, .inr 0, .inl 5, .inr 0, .inl 6, .inr 0, .inl 7, .inr 0, .inr 0, .inr 0, .inr 0, .inl 8, .inr 0, .inr 0, .inr 0, .inr 1, .inr 0, .inr 0, .inr 0, .inr 0, .inl 9, .inr 0, .inl 10, .inl 11, .inr 0, .inr 0, .inl 12, .inl 13, .inl 14, .inr 0, .inr 0, .inr 0, .inl 15, .inl 16, .inl 17, .inl 18, .inl 19, .inl 20, .inl 21, .inl 22, .inr 0, .inl 23, .inl 24, .inl 25, .inl 26]), .inl (0, 40), .inl (0, 10), .inl (0, 10), .inl (0, 10), .inl (0, 32), .inl (0, 90), .inl (0, 30), .inl (0, 400), .inl (0, 40), .inl (0, 32), .inl (0, 3), .inl (0, 90), .inl (0, 51200), .inl (0, 3200), .inl (0, 8), .inl (1, 1024), .inl (0, 1024), .inl (0, 64), .inl (0, 66560), .inl (0, 10), .inl (0, 10), .inl (0, 1024), .inl (0, 40), .inl (0, 32), .inl (0, 100), .inl (1, 2), .inl (0, n0)]
def LS_X1_X2 : List jSh := [.inr (1, [.inl 1]), .inl (0, 3200), .inr (2, [.inl 3, .inl 20, .inl 21, .inl 22, .inl 23, .inr 0, .inr 0, .inr 0, .inr 0, .inr 0]), .inr (6, [.inl 4, .inl 6, .inl 8, .inl 10, .inl 12, .inl 14, .inl 16, .inl 18, .inr 0, .inr 0, .inr 0]), .inr (4, [.inl 5, .inr 0]), .inl (0, 10), .inr (4, [.inl 7, .inr 0]), .inl (0, 10), .inr (4, [.inl 9, .inr 0]), .inl (0, 10), .inr (4, [.inl 11, .inr 0]), .inl (0, 10), .inr (4, [.inl 13, .inr 0]), .inl (0, 8), .inr (4, [.inl 15, .inr 0]), .inl (0, 8), .inr (4, [.inl 17, .inr 0]), .inl (0, 8), .inr (4, [.inl 19, .inr 0]), .inl (0, 8), .inl (0, 10), .inl (0, 10), .inl (0, 10), .inl (0, 10)]
def LS_X2 : List jSh := [.inr (2, [.inl 1, .inl 18, .inl 19, .inl 20, .inl 21, .inr 0, .inr 0, .inr 0, .inr 0, .inr 0]), .inr (6, [.inl 2, .inl 4, .inl 6, .inl 8, .inl 10, .inl 12, .inl 14, .inl 16, .inr 0, .inr 0, .inr 0]), .inr (4, [.inl 3, .inr 0]), .inl (0, 10), .inr (4, [.inl 5, .inr 0]), .inl (0, 10), .inr (4, [.inl 7, .inr 0]), .inl (0, 10), .inr (4, [.inl 9, .inr 0]), .inl (0, 10), .inr (4, [.inl 11, .inr 0]), .inl (0, 8), .inr (4, [.inl 13, .inr 0]), .inl (0, 8), .inr (4, [.inl 15, .inr 0]), .inl (0, 8), .inr (4, [.inl 17, .inr 0]), .inl (0, 8), .inl (0, 10), .inl (0, 10), .inl (0, 10), .inl (0, 10)]
def LS_X2_X2 : List jSh := [.inr (2, [.inl 1, .inl 18, .inl 19, .inl 20, .inl 21, .inr 0, .inr 0, .inr 0, .inr 0, .inr 0]), .inr (6, [.inl 2, .inl 4, .inl 6, .inl 8, .inl 10, .inl 12, .inl 14, .inl 16, .inr 0, .inr 0, .inr 0]), .inr (4, [.inl 3, .inr 0]), .inl (0, 10), .inr (4, [.inl 5, .inr 0]), .inl (0, 10), .inr (4, [.inl 7, .inr 0]), .inl (0, 10), .inr (4, [.inl 9, .inr 0]), .inl (0, 10), .inr (4, [.inl 11, .inr 0]), .inl (0, 8), .inr (4, [.inl 13, .inr 0]), .inl (0, 8), .inr (4, [.inl 15, .inr 0]), .inl (0, 8), .inr (4, [.inl 17, .inr 0]), .inl (0, 8), .inl (0, 10), .inl (0, 10), .inl (0, 10), .inl (0, 10), .inr (2, [.inl 23, .inl 40, .inl 41, .inl 42, .inl 43, .inr 0, .inr 0, .inr 0, .inr 0, .inr 0]), .inr (6, [.inl 24, .inl 26, .inl 28, .inl 30, .inl 32, .inl 34, .inl 36, .inl 38, .inr 0, .inr 0, .inr 0]), .inr (4, [.inl 25, .inr 0]), .inl (0, 10), .inr (4, [.inl 27, .inr 0]), .inl (0, 10), .inr (4, [.inl 29, .inr 0]), .inl (0, 10), .inr (4, [.inl 31, .inr 0]), .inl (0, 10), .inr (4, [.inl 33, .inr 0]), .inl (0, 8), .inr (4, [.inl 35, .inr 0]), .inl (0, 8), .inr (4, [.inl 37, .inr 0]), .inl (0, 8), .inr (4, [.inl 39, .inr 0]), .inl (0, 8), .inl (0, 10), .inl (0, 10), .inl (0, 10), .inl (0, 10)]
def LS_X2_X7 : List jSh := [.inr (2, [.inl 1, .inl 18, .inl 19, .inl 20, .inl 21, .inr 0, .inr 0, .inr 0, .inr 0, .inr 0]), .inr (6, [.inl 2, .inl 4, .inl 6, .inl 8, .inl 10, .inl 12, .inl 14, .inl 16, .inr 0, .inr 0, .inr 0]), .inr (4, [.inl 3, .inr 0]), .inl (0, 10), .inr (4, [.inl 5, .inr 0]), .inl (0, 10), .inr (4, [.inl 7, .inr 0]), .inl (0, 10), .inr (4, [.inl 9, .inr 0]), .inl (0, 10), .inr (4, [.inl 11, .inr 0]), .inl (0, 8), .inr (4, [.inl 13, .inr 0]), .inl (0, 8), .inr (4, [.inl 15, .inr 0]), .inl (0, 8), .inr (4, [.inl 17, .inr 0]), .inl (0, 8), .inl (0, 10), .inl (0, 10), .inl (0, 10), .inl (0, 10), .inr (7, [.inl 23, .inl 25, .inl 27]), .inr (4, [.inl 24, .inr 0]), .inl (0, 30), .inr (4, [.inl 26, .inr 0]), .inl (0, 30), .inr (4, [.inl 28, .inr 0]), .inl (0, 30)]
def LS_X3 : List jSh := [.inr (3, [.inl 1, .inr 0, .inr 0, .inr 0, .inr 0, .inr 0]), .inr (4, [.inl 2, .inr 0]), .inl (0, 400)]
def LS_X4 (n0 : Nat) : List jSh := [.inr (4, [.inl 1, .inr 0]), .inl (0, n0)]
def LS_X4_X4 (n0 : Nat) (n1 : Nat) : List jSh := [.inr (4, [.inl 1, .inr 0]), .inl (0, n0), .inr (4, [.inl 3, .inr 0]), .inl (0, n1)]
def LS_X5 : List jSh := [.inr (5, [.inl 1, .inl 29, .inl 3, .inl 20, .inl 27]), .inr (4, [.inl 2, .inr 0]), .inl (0, 400), .inr (6, [.inl 4, .inl 6, .inl 8, .inl 10, .inl 12, .inl 14, .inl 16, .inl 18, .inr 0, .inr 0, .inr 0]), .inr (4, [.inl 5, .inr 0]), .inl (0, 10), .inr (4, [.inl 7, .inr 0]), .inl (0, 10), .inr (4, [.inl 9, .inr 0]), .inl (0, 10), .inr (4, [.inl 11, .inr 0]), .inl (0, 10), .inr (4, [.inl 13, .inr 0]), .inl (0, 8), .inr (4, [.inl 15, .inr 0]), .inl (0, 8), .inr (4, [.inl 17, .inr 0]), .inl (0, 8), .inr (4, [.inl 19, .inr 0]), .inl (0, 8), .inr (7, [.inl 21, .inl 23, .inl 25]), .inr (4, [.inl 22, .inr 0]), .inl (0, 30), .inr (4, [.inl 24, .inr 0]), .inl (0, 30), .inr (4, [.inl 26, .inr 0]), .inl (0, 30), .inr (4, [.inl 28, .inr 0]), .inl (0, 30), .inr (3, [.inl 1, .inr 0, .inr 0, .inr 0, .inr 0, .inr 0])]
def LS_X5_X4 (n0 : Nat) : List jSh := [.inr (5, [.inl 1, .inl 29, .inl 3, .inl 20, .inl 27]), .inr (4, [.inl 2, .inr 0]), .inl (0, 400), .inr (6, [.inl 4, .inl 6, .inl 8, .inl 10, .inl 12, .inl 14, .inl 16, .inl 18, .inr 0, .inr 0, .inr 0]), .inr (4, [.inl 5, .inr 0]), .inl (0, 10), .inr (4, [.inl 7, .inr 0]), .inl (0, 10), .inr (4, [.inl 9, .inr 0]), .inl (0, 10), .inr (4, [.inl 11, .inr 0]), .inl (0, 10), .inr (4, [.inl 13, .inr 0]), .inl (0, 8), .inr (4, [.inl 15, .inr 0]), .inl (0, 8), .inr (4, [.inl 17, .inr 0]), .inl (0, 8), .inr (4, [.inl 19, .inr 0]), .inl (0, 8), .inr (7, [.inl 21, .inl 23, .inl 25]), .inr (4, [.inl 22, .inr 0]), .inl (0, 30), .inr (4, [.inl 24, .inr 0]), .inl (0, 30), .inr (4, [.inl 26, .inr 0]), .inl (0, 30), .inr (4, [.inl 28, .inr 0]), .inl (0, 30), .inr (3, [.inl 1, .inr 0, .inr 0, .inr 0, .inr 0, .inr 0]), .inr (4, [.inl 31, .inr 0]), .inl (0, n0)]
def LS_X5_X6 : List jSh := [.inr (5, [.inl 1, .inl 29, .inl 3, .inl 20, .inl 27]), .inr (4, [.inl 2, .inr 0]), .inl (0, 400), .inr (6, [.inl 4, .inl 6, .inl 8, .inl 10, .inl 12, .inl 14, .inl 16, .inl 18, .inr 0, .inr 0, .inr 0]), .inr (4, [.inl 5, .inr 0]), .inl (0, 10), .inr (4, [.inl 7, .inr 0]), .inl (0, 10), .inr (4, [.inl 9, .inr 0]), .inl (0, 10), .inr (4, [.inl 11, .inr 0]), .inl (0, 10), .inr (4, [.inl 13, .inr 0]), .inl (0, 8), .inr (4, [.inl 15, .inr 0]), .inl (0, 8), .inr (4, [.inl 17, .inr 0]), .inl (0, 8), .inr (4, [.inl 19, .inr 0]), .inl (0, 8), .inr (7, [.inl 21, .inl 23, .inl 25]), .inr (4, [.inl 22, .inr 0]), .inl (0, 30), .inr (4, [.inl 24, .inr 0]), .inl (0, 30), .inr (4, [.inl 26, .inr 0]), .inl (0, 30), .inr (4, [.inl 28, .inr 0]), .inl (0, 30), .inr (3, [.inl 1, .inr 0, .inr 0, .inr 0, .inr 0, .inr 0]), .inr (6, [.inl 31, .inl 33, .inl 35, .inl 37, .inl 39, .inl 41, .inl 43, .inl 45, .inr 0, .inr 0, .inr 0]), .inr (4, [.inl 32, .inr 0]), .inl (0, 10), .inr (4, [.inl 34, .inr 0]), .inl (0, 10), .inr (4, [.inl 36, .inr 0]), .inl (0, 10), .inr (4, [.inl 38, .inr 0]), .inl (0, 10), .inr (4, [.inl 40, .inr 0]), .inl (0, 8), .inr (4, [.inl 42, .inr 0]), .inl (0, 8), .inr (4, [.inl 44, .inr 0]), .inl (0, 8), .inr (4, [.inl 46, .inr 0]), .inl (0, 8)]
def LS_X5_X7_X6 : List jSh := [.inr (5, [.inl 1, .inl 29, .inl 3, .inl 20, .inl 27]), .inr (4, [.inl 2, .inr 0]), .inl (0, 400), .inr (6, [.inl 4, .inl 6, .inl 8, .inl 10, .inl 12, .inl 14, .inl 16, .inl 18, .inr 0, .inr 0, .inr 0]), .inr (4, [.inl 5, .inr 0]), .inl (0, 10), .inr (4, [.inl 7, .inr 0]), .inl (0, 10), .inr (4, [.inl 9, .inr 0]), .inl (0, 10), .inr (4, [.inl 11, .inr 0]), .inl (0, 10), .inr (4, [.inl 13, .inr 0]), .inl (0, 8), .inr (4, [.inl 15, .inr 0]), .inl (0, 8), .inr (4, [.inl 17, .inr 0]), .inl (0, 8), .inr (4, [.inl 19, .inr 0]), .inl (0, 8), .inr (7, [.inl 21, .inl 23, .inl 25]), .inr (4, [.inl 22, .inr 0]), .inl (0, 30), .inr (4, [.inl 24, .inr 0]), .inl (0, 30), .inr (4, [.inl 26, .inr 0]), .inl (0, 30), .inr (4, [.inl 28, .inr 0]), .inl (0, 30), .inr (3, [.inl 1, .inr 0, .inr 0, .inr 0, .inr 0, .inr 0]), .inr (7, [.inl 31, .inl 33, .inl 35]), .inr (4, [.inl 32, .inr 0]), .inl (0, 30), .inr (4, [.inl 34, .inr 0]), .inl (0, 30), .inr (4, [.inl 36, .inr 0]), .inl (0, 30), .inr (6, [.inl 38, .inl 40, .inl 42, .inl 44, .inl 46, .inl 48, .inl 50, .inl 52, .inr 0, .inr 0, .inr 0]), .inr (4, [.inl 39, .inr 0]), .inl (0, 10), .inr (4, [.inl 41, .inr 0]), .inl (0, 10), .inr (4, [.inl 43, .inr 0]), .inl (0, 10), .inr (4, [.inl 45, .inr 0]), .inl (0, 10), .inr (4, [.inl 47, .inr 0]), .inl (0, 8), .inr (4, [.inl 49, .inr 0]), .inl (0, 8), .inr (4, [.inl 51, .inr 0]), .inl (0, 8), .inr (4, [.inl 53, .inr 0]), .inl (0, 8)]
def LS_X6 : List jSh := [.inr (6, [.inl 1, .inl 3, .inl 5, .inl 7, .inl 9, .inl 11, .inl 13, .inl 15, .inr 0, .inr 0, .inr 0]), .inr (4, [.inl 2, .inr 0]), .inl (0, 10), .inr (4, [.inl 4, .inr 0]), .inl (0, 10), .inr (4, [.inl 6, .inr 0]), .inl (0, 10), .inr (4, [.inl 8, .inr 0]), .inl (0, 10), .inr (4, [.inl 10, .inr 0]), .inl (0, 8), .inr (4, [.inl 12, .inr 0]), .inl (0, 8), .inr (4, [.inl 14, .inr 0]), .inl (0, 8), .inr (4, [.inl 16, .inr 0]), .inl (0, 8)]
def LS_X6_X6 : List jSh := [.inr (6, [.inl 1, .inl 3, .inl 5, .inl 7, .inl 9, .inl 11, .inl 13, .inl 15, .inr 0, .inr 0, .inr 0]), .inr (4, [.inl 2, .inr 0]), .inl (0, 10), .inr (4, [.inl 4, .inr 0]), .inl (0, 10), .inr (4, [.inl 6, .inr 0]), .inl (0, 10), .inr (4, [.inl 8, .inr 0]), .inl (0, 10), .inr (4, [.inl 10, .inr 0]), .inl (0, 8), .inr (4, [.inl 12, .inr 0]), .inl (0, 8), .inr (4, [.inl 14, .inr 0]), .inl (0, 8), .inr (4, [.inl 16, .inr 0]), .inl (0, 8), .inr (6, [.inl 18, .inl 20, .inl 22, .inl 24, .inl 26, .inl 28, .inl 30, .inl 32, .inr 0, .inr 0, .inr 0]), .inr (4, [.inl 19, .inr 0]), .inl (0, 10), .inr (4, [.inl 21, .inr 0]), .inl (0, 10), .inr (4, [.inl 23, .inr 0]), .inl (0, 10), .inr (4, [.inl 25, .inr 0]), .inl (0, 10), .inr (4, [.inl 27, .inr 0]), .inl (0, 8), .inr (4, [.inl 29, .inr 0]), .inl (0, 8), .inr (4, [.inl 31, .inr 0]), .inl (0, 8), .inr (4, [.inl 33, .inr 0]), .inl (0, 8)]
def LS_X7 : List jSh := [.inr (7, [.inl 1, .inl 3, .inl 5]), .inr (4, [.inl 2, .inr 0]), .inl (0, 30), .inr (4, [.inl 4, .inr 0]), .inl (0, 30), .inr (4, [.inl 6, .inr 0]), .inl (0, 30)]
def LS_X7_X7 : List jSh := [.inr (7, [.inl 1, .inl 3, .inl 5]), .inr (4, [.inl 2, .inr 0]), .inl (0, 30), .inr (4, [.inl 4, .inr 0]), .inl (0, 30), .inr (4, [.inl 6, .inr 0]), .inl (0, 30), .inr (7, [.inl 8, .inl 10, .inl 12]), .inr (4, [.inl 9, .inr 0]), .inl (0, 30), .inr (4, [.inl 11, .inr 0]), .inl (0, 30), .inr (4, [.inl 13, .inr 0]), .inl (0, 30)]
def LS_X8 : List jSh := [.inr (8, [.inl 1, .inl 3, .inl 4, .inl 5, .inl 7, .inr 0, .inr 0, .inr 0]), .inr (1, [.inl 2]), .inl (0, 3200), .inl (0, 51200), .inl (0, 50), .inr (4, [.inl 6, .inr 0]), .inl (0, 64), .inr (4, [.inl 8, .inr 0]), .inl (0, 59)]
def LS_X8_X2 : List jSh := [.inr (8, [.inl 1, .inl 3, .inl 4, .inl 5, .inl 7, .inr 0, .inr 0, .inr 0]), .inr (1, [.inl 2]), .inl (0, 3200), .inl (0, 51200), .inl (0, 50), .inr (4, [.inl 6, .inr 0]), .inl (0, 64), .inr (4, [.inl 8, .inr 0]), .inl (0, 59), .inr (2, [.inl 10, .inl 27, .inl 28, .inl 29, .inl 30, .inr 0, .inr 0, .inr 0, .inr 0, .inr 0]), .inr (6, [.inl 11, .inl 13, .inl 15, .inl 17, .inl 19, .inl 21, .inl 23, .inl 25, .inr 0, .inr 0, .inr 0]), .inr (4, [.inl 12, .inr 0]), .inl (0, 10), .inr (4, [.inl 14, .inr 0]), .inl (0, 10), .inr (4, [.inl 16, .inr 0]), .inl (0, 10), .inr (4, [.inl 18, .inr 0]), .inl (0, 10), .inr (4, [.inl 20, .inr 0]), .inl (0, 8), .inr (4, [.inl 22, .inr 0]), .inl (0, 8), .inr (4, [.inl 24, .inr 0]), .inl (0, 8), .inr (4, [.inl 26, .inr 0]), .inl (0, 8), .inl (0, 10), .inl (0, 10), .inl (0, 10), .inl (0, 10)]
def LS_X9 : List jSh := [.inr (9, [.inl 1, .inl 3, .inl 5, .inl 6, .inl 8, .inl 9]), .inr (1, [.inl 2]), .inl (0, 3200), .inr (4, [.inl 4, .inr 0]), .inl (0, 1024), .inl (0, 1024), .inr (4, [.inl 7, .inr 0]), .inl (0, 256), .inl (0, 1024), .inl (0, 64)]
theorem sb_0 : jE_ok (LS_X6) [1, 2] (LS_X4 10) = true := by decide +kernel
theorem sb_1 : jE_ok (LS_X0) [18, 1, 2, 3, 4, 5, 6, 7, 8, 9, 10, 11, 12, 13, 14, 15, 16, 17, 19, 20, 21, 22] (LS_X2) = true := by decide +kernel
theorem sb_2 : jE_ok (LS_X0) [1, 2, 3, 4, 5, 6, 7, 8, 9, 10, 11, 12, 13, 14, 15, 16, 17] (LS_X6) = true := by decide +kernel
theorem sb_3 : jE_ok (LS_X0) [2, 3] (LS_X4 10) = true := by decide +kernel
theorem sb_4 : jE_ok (LS_X0) [8, 9] (LS_X4 10) = true := by decide +kernel
theorem sb_5 : jE_ok (LS_X0) [6, 7] (LS_X4 10) = true := by decide +kernel
theorem sb_6 : jE_ok (LS_X10) [31, 32, 33, 34, 35, 36, 37, 38, 39, 40, 41, 42, 43, 44, 45, 46, 47] (LS_X6) = true := by decide +kernel
theorem sb_7 : jE_ok (LS_X10) [98, 31, 32, 33, 34, 35, 36, 37, 38, 39, 40, 41, 42, 43, 44, 45, 46, 47, 57, 58, 59, 60, 61, 99, 100] (LS_X0) = true := by decide +kernel
theorem sb_8 : jE_ok (LS_X2) [8, 9] (LS_X4 10) = true := by decide +kernel
theorem sb_9 : jE_ok (LS_X1_X2) [1] (LS_A 3200) = true := by decide +kernel
theorem sb_10 : jE_ok (LS_X1_X2) [3, 4, 5, 6, 7, 8, 9, 10, 11, 12, 13, 14, 15, 16, 17, 18, 19] (LS_X6) = true := by decide +kernel
theorem sb_11 : jE_ok (LS_X1_X2) [4, 5] (LS_X4 10) = true := by decide +kernel
theorem sb_12 : jE_ok (LS_X1_X2) [2, 3, 4, 5, 6, 7, 8, 9, 10, 11, 12, 13, 14, 15, 16, 17, 18, 19, 20, 21, 22, 23] (LS_X2) = true := by decide +kernel
theorem sb_13 : jE_ok (LS_X1_X2) [8, 9] (LS_X4 10) = true := by decide +kernel
theorem sb_14 : jE_ok (LS_X1_X2) [0, 1] (LS_X1) = true := by decide +kernel
theorem sb_15 : jE_ok (LS_X9) [3, 4] (LS_X4 1024) = true := by decide +kernel
theorem sb_16 : jE_ok (LS_X9) [5] (LS_A 1024) = true := by decide +kernel
theorem sb_17 : jE_ok (LS_X9) [1, 2] (LS_X1) = true := by decide +kernel
theorem sb_18 : jE_ok (LS_X9) [6, 7] (LS_X4 256) = true := by decide +kernel
theorem sb_19 : jE_ok (LS_X10) [77, 78] (LS_X4 8) = true := by decide +kernel
theorem sb_20 : jE_ok (LS_X10) [83, 81, 82, 84, 85, 86, 87, 88, 89, 90] (LS_X9) = true := by decide +kernel
theorem sb_21 : jE_ok (LS_X10) [81, 82, 57, 31, 32, 33, 34, 35, 36, 37, 38, 39, 40, 41, 42, 43, 44, 45, 46, 47, 58, 59, 60, 61] (LS_X1_X2) = true := by decide +kernel
theorem sb_22 : jE_ok (LS_X10) [79, 80] (LS_X4 40) = true := by decide +kernel
theorem sb_23 : jE_ok (LS_X10) [57, 31, 32, 33, 34, 35, 36, 37, 38, 39, 40, 41, 42, 43, 44, 45, 46, 47, 58, 59, 60, 61] (LS_X2) = true := by decide +kernel
theorem sb_24 : jE_ok (LS_X2) [1, 2, 3, 4, 5, 6, 7, 8, 9, 10, 11, 12, 13, 14, 15, 16, 17] (LS_X6) = true := by decide +kernel
theorem sb_25 : jE_ok (LS_X2) [6, 7] (LS_X4 10) = true := by decide +kernel
theorem sb_26 : jE_ok (LS_X2) [2, 3] (LS_X4 10) = true := by decide +kernel
theorem sb_27 : jE_ok (LS_X8_X2) [7, 8] (LS_X4 59) = true := by decide +kernel
theorem sb_28 : jE_ok (LS_X8_X2) [9, 10, 11, 12, 13, 14, 15, 16, 17, 18, 19, 20, 21, 22, 23, 24, 25, 26, 27, 28, 29, 30] (LS_X2) = true := by decide +kernel
theorem sb_29 : jE_ok (LS_X10) [55, 56] (LS_X4 30) = true := by decide +kernel
theorem sb_30 : jE_ok (LS_X10) [91, 81, 82, 92, 93, 94, 95, 96, 97, 62, 31, 32, 33, 34, 35, 36, 37, 38, 39, 40, 41, 42, 43, 44, 45, 46, 47, 63, 64, 65, 66] (LS_X8_X2) = true := by decide +kernel
theorem sb_31 : jE_ok (LS_X10) [3, 1, 2, 4, 5, 6, 7, 8, 9, 10, 11, 12, 13, 14, 15, 16, 17, 18, 19, 20, 21, 22, 23, 24, 25, 26, 27, 28, 29, 30] (LS_X5) = true := by decide +kernel
theorem sb_32 : jE_ok (LS_X10) [1, 2] (LS_X4 400) = true := by decide +kernel
theorem sb_33 : jE_ok (LS_X8) [5, 6] (LS_X4 64) = true := by decide +kernel
theorem sb_34 : jE_ok (LS_X8) [1, 2] (LS_X1) = true := by decide +kernel
theorem sb_35 : jE_ok (LS_X8) [7, 8] (LS_X4 59) = true := by decide +kernel
theorem sb_36 : jE_ok (LS_X8_X2) [1, 2, 9, 10, 11, 12, 13, 14, 15, 16, 17, 18, 19, 20, 21, 22, 23, 24, 25, 26, 27, 28, 29, 30] (LS_X1_X2) = true := by decide +kernel
theorem sb_37 : jE_ok (LS_X8_X2) [10, 11, 12, 13, 14, 15, 16, 17, 18, 19, 20, 21, 22, 23, 24, 25, 26] (LS_X6) = true := by decide +kernel
theorem sb_38 : jE_ok (LS_X8_X2) [0, 1, 2, 3, 4, 5, 6, 7, 8] (LS_X8) = true := by decide +kernel
theorem sb_39 : jE_ok (LS_X10) [91, 81, 82, 92, 93, 94, 95, 96, 97, 57, 31, 32, 33, 34, 35, 36, 37, 38, 39, 40, 41, 42, 43, 44, 45, 46, 47, 58, 59, 60, 61] (LS_X8_X2) = true := by decide +kernel
theorem sb_40 : jE_ok (LS_X10) [91, 81, 82, 92, 93, 94, 95, 96, 97] (LS_X8) = true := by decide +kernel
theorem sb_41 : jE_ok (LS_X10) [62, 31, 32, 33, 34, 35, 36, 37, 38, 39, 40, 41, 42, 43, 44, 45, 46, 47, 63, 64, 65, 66, 57, 31, 32, 33, 34, 35, 36, 37, 38, 39, 40, 41, 42, 43, 44, 45, 46, 47, 58, 59, 60, 61] (LS_X2_X2) = true := by decide +kernel
theorem sb_42 : jE_ok (LS_X10) [57, 31, 32, 33, 34, 35, 36, 37, 38, 39, 40, 41, 42, 43, 44, 45, 46, 47, 58, 59, 60, 61, 72, 31, 32, 33, 34, 35, 36, 37, 38, 39, 40, 41, 42, 43, 44, 45, 46, 47, 73, 74, 75, 76] (LS_X2_X2) = true := by decide +kernel
theorem sb_43 : jE_ok (LS_X10) [57, 31, 32, 33, 34, 35, 36, 37, 38, 39, 40, 41, 42, 43, 44, 45, 46, 47, 58, 59, 60, 61, 67, 31, 32, 33, 34, 35, 36, 37, 38, 39, 40, 41, 42, 43, 44, 45, 46, 47, 68, 69, 70, 71] (LS_X2_X2) = true := by decide +kernel
theorem sb_44 : jE_ok (LS_X7) [1, 2] (LS_X4 30) = true := by decide +kernel
theorem sb_45 : jE_ok (LS_X2_X7) [22, 23, 24, 25, 26, 27, 28] (LS_X7) = true := by decide +kernel
theorem sb_46 : jE_ok (LS_X2_X7) [23, 24] (LS_X4 30) = true := by decide +kernel
theorem sb_47 : jE_ok (LS_X2_X7) [25, 26] (LS_X4 30) = true := by decide +kernel
theorem sb_48 : jE_ok (LS_X2_X7) [10, 11] (LS_X4 8) = true := by decide +kernel
theorem sb_49 : jE_ok (LS_X2_X7) [27, 28] (LS_X4 30) = true := by decide +kernel
theorem sb_50 : jE_ok (LS_X2_X7) [12, 13] (LS_X4 8) = true := by decide +kernel
theorem sb_51 : jE_ok (LS_X2_X7) [0, 1, 2, 3, 4, 5, 6, 7, 8, 9, 10, 11, 12, 13, 14, 15, 16, 17, 18, 19, 20, 21] (LS_X2) = true := by decide +kernel
theorem sb_52 : jE_ok (LS_X10) [62, 31, 32, 33, 34, 35, 36, 37, 38, 39, 40, 41, 42, 43, 44, 45, 46, 47, 63, 64, 65, 66, 48, 49, 50, 51, 52, 53, 54] (LS_X2_X7) = true := by decide +kernel
theorem sb_53 : jE_ok (LS_X10) [62, 31, 32, 33, 34, 35, 36, 37, 38, 39, 40, 41, 42, 43, 44, 45, 46, 47, 63, 64, 65, 66] (LS_X2) = true := by decide +kernel
theorem sb_54 : jE_ok (LS_X10) [72, 31, 32, 33, 34, 35, 36, 37, 38, 39, 40, 41, 42, 43, 44, 45, 46, 47, 73, 74, 75, 76, 57, 31, 32, 33, 34, 35, 36, 37, 38, 39, 40, 41, 42, 43, 44, 45, 46, 47, 58, 59, 60, 61] (LS_X2_X2) = true := by decide +kernel
theorem sb_55 : jE_ok (LS_X10) [67, 31, 32, 33, 34, 35, 36, 37, 38, 39, 40, 41, 42, 43, 44, 45, 46, 47, 68, 69, 70, 71, 57, 31, 32, 33, 34, 35, 36, 37, 38, 39, 40, 41, 42, 43, 44, 45, 46, 47, 58, 59, 60, 61] (LS_X2_X2) = true := by decide +kernel
theorem sb_56 : jE_ok (LS_X10) [38, 39] (LS_X4 10) = true := by decide +kernel
theorem sb_57 : jE_ok (LS_X10) [36, 37] (LS_X4 10) = true := by decide +kernel
theorem sb_58 : jE_ok (LS_X10) [32, 33] (LS_X4 10) = true := by decide +kernel
theorem sb_59 : jE_ok (LS_X3) [1, 2] (LS_X4 400) = true := by decide +kernel
theorem sb_60 (n0 : Nat) : jE_ok (LS_X5_X4 n0) [29, 1, 2] (LS_X3) = true := by simp [jE_ok, LS_X5_X4, LS_X3, jw_ren, jw_rt, List.range, List.range.loop]
theorem sb_61 (n0 : Nat) : jE_ok (LS_X5_X4 n0) [30, 31] (LS_X4 n0) = true := by simp [jE_ok, LS_X5_X4, LS_X4, jw_ren, jw_rt, List.range, List.range.loop]
theorem sb_62 (n0 : Nat) (n1 : Nat) : jE_ok (LS_X4_X4 n0 n1) [0, 1] (LS_X4 n0) = true := by simp [jE_ok, LS_X4_X4, LS_X4, jw_ren, jw_rt, List.range, List.range.loop]
theorem sb_63 (n0 : Nat) : jE_ok (LS_X5_X4 n0) [27, 28] (LS_X4 30) = true := by simp [jE_ok, LS_X5_X4, LS_X4, jw_ren, jw_rt, List.range, List.range.loop]
theorem sb_64 (n0 : Nat) : jE_ok (LS_X5_X4 n0) [0, 1, 2, 3, 4, 5, 6, 7, 8, 9, 10, 11, 12, 13, 14, 15, 16, 17, 18, 19, 20, 21, 22, 23, 24, 25, 26, 27, 28, 29, 27, 28] (LS_X5_X4 30) = true := by simp [jE_ok, LS_X5_X4, LS_X5_X4, jw_ren, jw_rt, List.range, List.range.loop]
theorem sb_65 (n0 : Nat) : jE_ok (LS_X5_X4 n0) [1, 2] (LS_X4 400) = true := by simp [jE_ok, LS_X5_X4, LS_X4, jw_ren, jw_rt, List.range, List.range.loop]
theorem sb_66 (n0 : Nat) : jE_ok (LS_X5_X4 n0) [30, 31, 27, 28] (LS_X4_X4 n0 30) = true := by simp [jE_ok, LS_X5_X4, LS_X4_X4, jw_ren, jw_rt, List.range, List.range.loop]
theorem sb_67 : jE_ok (LS_X10) [3, 1, 2, 4, 5, 6, 7, 8, 9, 10, 11, 12, 13, 14, 15, 16, 17, 18, 19, 20, 21, 22, 23, 24, 25, 26, 27, 28, 29, 30, 55, 56] (LS_X5_X4 30) = true := by decide +kernel
theorem sb_68 : jE_ok (LS_X7) [3, 4] (LS_X4 30) = true := by decide +kernel
theorem sb_69 : jE_ok (LS_X7) [5, 6] (LS_X4 30) = true := by decide +kernel
theorem sb_70 : jE_ok (LS_X6) [9, 10] (LS_X4 8) = true := by decide +kernel
theorem sb_71 : jE_ok (LS_X5_X6) [0, 1, 2, 3, 4, 5, 6, 7, 8, 9, 10, 11, 12, 13, 14, 15, 16, 17, 18, 19, 20, 21, 22, 23, 24, 25, 26, 27, 28, 29, 21, 22] (LS_X5_X4 30) = true := by decide +kernel
theorem sb_72 : jE_ok (LS_X5_X6) [20, 21, 22, 23, 24, 25, 26] (LS_X7) = true := by decide +kernel
theorem sb_73 : jE_ok (LS_X5_X6) [21, 22] (LS_X4 30) = true := by decide +kernel
theorem sb_74 : jE_ok (LS_X5_X6) [29, 1, 2] (LS_X3) = true := by decide +kernel
theorem sb_75 : jE_ok (LS_X5_X6) [30, 31, 32, 33, 34, 35, 36, 37, 38, 39, 40, 41, 42, 43, 44, 45, 46] (LS_X6) = true := by decide +kernel
theorem sb_76 : jE_ok (LS_X5_X6) [43, 44] (LS_X4 8) = true := by decide +kernel
theorem sb_77 : jE_ok (LS_X5_X6) [45, 46] (LS_X4 8) = true := by decide +kernel
theorem sb_78 : jE_ok (LS_X7_X7) [1, 2, 8, 9] (LS_X4_X4 30 30) = true := by decide +kernel
theorem sb_79 : jE_ok (LS_X7_X7) [3, 4, 10, 11] (LS_X4_X4 30 30) = true := by decide +kernel
theorem sb_80 : jE_ok (LS_X7_X7) [5, 6, 12, 13] (LS_X4_X4 30 30) = true := by decide +kernel
theorem sb_81 : jE_ok (LS_X5_X7_X6) [20, 21, 22, 23, 24, 25, 26] (LS_X7) = true := by decide +kernel
theorem sb_82 : jE_ok (LS_X5_X7_X6) [29, 1, 2] (LS_X3) = true := by decide +kernel
theorem sb_83 : jE_ok (LS_X5_X7_X6) [0, 1, 2, 3, 4, 5, 6, 7, 8, 9, 10, 11, 12, 13, 14, 15, 16, 17, 18, 19, 20, 21, 22, 23, 24, 25, 26, 27, 28, 29, 37, 38, 39, 40, 41, 42, 43, 44, 45, 46, 47, 48, 49, 50, 51, 52, 53] (LS_X5_X6) = true := by decide +kernel
theorem sb_84 : jE_ok (LS_X5_X7_X6) [1, 2] (LS_X4 400) = true := by decide +kernel
theorem sb_85 : jE_ok (LS_X5_X7_X6) [30, 31, 32, 33, 34, 35, 36, 20, 21, 22, 23, 24, 25, 26] (LS_X7_X7) = true := by decide +kernel
theorem sb_86 : jE_ok (LS_X5_X7_X6) [30, 31, 32, 33, 34, 35, 36] (LS_X7) = true := by decide +kernel
theorem sb_87 : jE_ok (LS_X10) [3, 1, 2, 4, 5, 6, 7, 8, 9, 10, 11, 12, 13, 14, 15, 16, 17, 18, 19, 20, 21, 22, 23, 24, 25, 26, 27, 28, 29, 30, 48, 49, 50, 51, 52, 53, 54, 31, 32, 33, 34, 35, 36, 37, 38, 39, 40, 41, 42, 43, 44, 45, 46, 47] (LS_X5_X7_X6) = true := by decide +kernel
theorem sb_88 : jE_ok (LS_X6) [3, 4] (LS_X4 10) = true := by decide +kernel
theorem sb_89 : jE_ok (LS_X6) [5, 6] (LS_X4 10) = true := by decide +kernel
theorem sb_90 : jE_ok (LS_X6) [7, 8] (LS_X4 10) = true := by decide +kernel
theorem sb_91 : jE_ok (LS_X6) [11, 12] (LS_X4 8) = true := by decide +kernel
theorem sb_92 : jE_ok (LS_X6) [13, 14] (LS_X4 8) = true := by decide +kernel
theorem sb_93 : jE_ok (LS_X6) [15, 16] (LS_X4 8) = true := by decide +kernel
theorem sb_94 : jE_ok (LS_X5) [4, 5] (LS_X4 10) = true := by decide +kernel
theorem sb_95 : jE_ok (LS_X5) [29, 1, 2] (LS_X3) = true := by decide +kernel
theorem sb_96 : jE_ok (LS_X5) [6, 7] (LS_X4 10) = true := by decide +kernel
theorem sb_97 : jE_ok (LS_X5) [8, 9] (LS_X4 10) = true := by decide +kernel
theorem sb_98 : jE_ok (LS_X5) [10, 11] (LS_X4 10) = true := by decide +kernel
theorem sb_99 : jE_ok (LS_X5) [12, 13] (LS_X4 8) = true := by decide +kernel
theorem sb_100 : jE_ok (LS_X5) [14, 15] (LS_X4 8) = true := by decide +kernel
theorem sb_101 : jE_ok (LS_X5) [16, 17] (LS_X4 8) = true := by decide +kernel
theorem sb_102 : jE_ok (LS_X5) [18, 19] (LS_X4 8) = true := by decide +kernel
theorem sb_103 : jE_ok (LS_X6_X6) [1, 2, 18, 19] (LS_X4_X4 10 10) = true := by decide +kernel
theorem sb_104 : jE_ok (LS_X6_X6) [3, 4, 20, 21] (LS_X4_X4 10 10) = true := by decide +kernel
theorem sb_105 : jE_ok (LS_X6_X6) [5, 6, 22, 23] (LS_X4_X4 10 10) = true := by decide +kernel
theorem sb_106 : jE_ok (LS_X6_X6) [7, 8, 24, 25] (LS_X4_X4 10 10) = true := by decide +kernel
theorem sb_107 : jE_ok (LS_X6_X6) [9, 10, 26, 27] (LS_X4_X4 8 8) = true := by decide +kernel
theorem sb_108 : jE_ok (LS_X6_X6) [11, 12, 28, 29] (LS_X4_X4 8 8) = true := by decide +kernel
theorem sb_109 : jE_ok (LS_X6_X6) [13, 14, 30, 31] (LS_X4_X4 8 8) = true := by decide +kernel
theorem sb_110 : jE_ok (LS_X6_X6) [15, 16, 32, 33] (LS_X4_X4 8 8) = true := by decide +kernel
theorem sb_111 : jE_ok (LS_X5_X6) [3, 4, 5, 6, 7, 8, 9, 10, 11, 12, 13, 14, 15, 16, 17, 18, 19] (LS_X6) = true := by decide +kernel
theorem sb_112 : jE_ok (LS_X5_X6) [0, 1, 2, 3, 4, 5, 6, 7, 8, 9, 10, 11, 12, 13, 14, 15, 16, 17, 18, 19, 20, 21, 22, 23, 24, 25, 26, 27, 28, 29] (LS_X5) = true := by decide +kernel
theorem sb_113 : jE_ok (LS_X5_X6) [1, 2] (LS_X4 400) = true := by decide +kernel
theorem sb_114 : jE_ok (LS_X5_X6) [30, 31, 32, 33, 34, 35, 36, 37, 38, 39, 40, 41, 42, 43, 44, 45, 46, 3, 4, 5, 6, 7, 8, 9, 10, 11, 12, 13, 14, 15, 16, 17, 18, 19] (LS_X6_X6) = true := by decide +kernel
theorem sb_115 : jE_ok (LS_X2) [4, 5] (LS_X4 10) = true := by decide +kernel
theorem sb_116 : jE_ok (LS_X10) [3, 1, 2, 4, 5, 6, 7, 8, 9, 10, 11, 12, 13, 14, 15, 16, 17, 18, 19, 20, 21, 22, 23, 24, 25, 26, 27, 28, 29, 30, 31, 32, 33, 34, 35, 36, 37, 38, 39, 40, 41, 42, 43, 44, 45, 46, 47] (LS_X5_X6) = true := by decide +kernel
theorem sb_117 : jE_ok (LS_X10) [48, 49, 50, 51, 52, 53, 54] (LS_X7) = true := by decide +kernel
theorem sb_118 : jE_ok (LS_X10) [57, 31, 32, 33, 34, 35, 36, 37, 38, 39, 40, 41, 42, 43, 44, 45, 46, 47, 58, 59, 60, 61, 48, 49, 50, 51, 52, 53, 54] (LS_X2_X7) = true := by decide +kernel
theorem sb_119 : jE_ok (LS_X10) [46, 47] (LS_X4 8) = true := by decide +kernel
theorem sb_120 : jE_ok (LS_X10) [44, 45] (LS_X4 8) = true := by decide +kernel
theorem sb_121 : jE_ok (LS_X10) [42, 43] (LS_X4 8) = true := by decide +kernel
theorem sb_122 : jE_ok (LS_X10) [40, 41] (LS_X4 8) = true := by decide +kernel
theorem sb_123 : jE_ok (LS_X10) [81, 82] (LS_X1) = true := by decide +kernel
theorem sb_124 (n0 : Nat) : jE_ok (LS_X11_A n0) [0, 1, 2, 3, 4, 5, 6, 7, 8, 9, 10, 11, 12, 13, 14, 15, 16, 17, 18, 19, 20, 21, 22, 23, 24, 25, 26] (LS_X11) = true := by simp [jE_ok, LS_X11_A, LS_X11, jw_ren, jw_rt, List.range, List.range.loop]
theorem sb_125 : jE_ok (LS_X11) [0, 1, 2, 3, 4, 5, 6, 7, 8, 9, 10, 11, 12, 13, 14, 15, 16, 17, 18, 19, 20, 21, 22, 23, 24, 25, 26, 12] (LS_X11_A 90) = true := by decide +kernel
theorem sb_126 : jE_ok (LS_X11) [0, 1, 2, 3, 4, 5, 6, 7, 8, 9, 10, 11, 12, 13, 14, 15, 16, 17, 18, 19, 20, 21, 22, 23, 24, 25, 26, 9] (LS_X11_A 40) = true := by decide +kernel
theorem sb_127 : jE_ok (LS_X11) [0, 1, 2, 3, 4, 5, 6, 7, 8, 9, 10, 11, 12, 13, 14, 15, 16, 17, 18, 19, 20, 21, 22, 23, 24, 25, 26, 10] (LS_X11_A 32) = true := by decide +kernel
theorem sb_128 : jE_ok (LS_X11) [0, 1, 2, 3, 4, 5, 6, 7, 8, 9, 10, 11, 12, 13, 14, 15, 16, 17, 18, 19, 20, 21, 22, 23, 24, 25, 26, 11] (LS_X11_A 3) = true := by decide +kernel
