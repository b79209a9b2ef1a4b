def nw_X4 (cI : ClassId) (h0 n : Nat) (q : Nat → Nat) : va_W := [(h0, .inr (4, [.ref (q 0), .int 0])), (q 0, .inl (cI, n, .inl (fun _ => 0)))]
def Y_i4 (n : Nat) : jY := (yX4_init, cX4_init, 2, none, { frames := 1, cells := 1, slots := n, locals := 24 })
section
variable {X : nX} {l : Launch} {G : jG} {cc : ByteArray} {own : String} {nL : Nat} {R : Room} {pc : Nat} {lv lv' : List (Nat × Value)} {rest : List Value} {ws : va_W} {cells slots index : Nat}
theorem N_putF2 (hX : nB X l G cc own nL R) (hI : nIn X) {A L : va_W} {h0 ci j : Nat} {fs fs' : List Value} {v : Value} {ty : FieldType} (hf : jFF own index ci j ty) (hn : narrow ty v = v) (hfit : fits ty v = true) (hl : j < fs.length) (hd : decode cc pc = .ok (.putfield index, 3)) (hs : fs.set j v = fs') (k : NJ X (pc + 3) lv rest (A ++ ((h0, .inr (ci, fs')) :: L)) cells slots) : NJ X pc lv (v :: .ref h0 :: rest) (A ++ ((h0, .inr (ci, fs)) :: L)) cells slots := by
  subst hs; exact N_putF hX hI hf hn hfit hl hd k
theorem N_put2 (hX : nB X l G cc own nL R) {A L : va_W} {h0 ci j : Nat} {fs fs' : List Value} {v : Value} {ty : FieldType} (hf : jFP own index ci j ty) (hn : narrow ty v = v) (hfit : fits ty v = true) (hl : j < fs.length) (hd : decode cc pc = .ok (.putfield index, 3)) (hs : fs.set j v = fs') (k : NJ X (pc + 3) lv rest (A ++ ((h0, .inr (ci, fs')) :: L)) cells slots) : NJ X pc lv (v :: .ref h0 :: rest) (A ++ ((h0, .inr (ci, fs)) :: L)) cells slots := by
  subst hs; exact N_put hX hf hn hfit hl hd k
end
theorem wo_X4 : Cond.methodLink RX4 3 Lib.objectInit ∈ tw := tw_tb (List.mem_of_getElem? (i := 33) (by decide +kernel)) (by decide +kernel)
theorem ff_X4_15 : jFF RX4 15 4 0 (.array .int) := ⟨RX4, TX4, 2, tyX4, rfl, (Nat.le_of_ble_eq_true rfl), wi_X4, tw_tb (List.mem_of_getElem? (i := 37) (by decide +kernel)) (by decide +kernel), tyX4_ok, nmX4, rfl, rfl, by decide +kernel⟩
theorem mm_X4_9 : Cond.methodLink RX4 9 Lib.Math.max.name ∈ tw ∧ Cond.static Lib.Math.max.name ∈ tw ∧ Cond.initialized "java/lang/Math" ∈ tw ∧ Cond.code Lib.Math.max.name Lib.Math.max.code 2 (some .int) ∈ tw := ⟨tw_tb (List.mem_of_getElem? (i := 34) (by decide +kernel)) (by decide +kernel), ms_max⟩
theorem wo_X1 : Cond.methodLink RX1 3 Lib.objectInit ∈ tw := tw_tb (List.mem_of_getElem? (i := 255) (by decide +kernel)) (by decide +kernel)
theorem ff_X1_9 : jFF RX1 9 1 0 (.array .int) := ⟨RX1, TX1, 1, tyX1, rfl, (Nat.le_of_ble_eq_true rfl), wi_X1, tw_tb (List.mem_of_getElem? (i := 256) (by decide +kernel)) (by decide +kernel), tyX1_ok, nmX1, rfl, rfl, by decide +kernel⟩
theorem wo_X2 : Cond.methodLink RX2 3 Lib.objectInit ∈ tw := tw_tb (List.mem_of_getElem? (i := 206) (by decide +kernel)) (by decide +kernel)
theorem ff_X2_9 : jFF RX2 9 2 1 (.array .int) := ⟨RX2, TX2, 10, tyX2, rfl, (Nat.le_of_ble_eq_true rfl), wi_X2, tw_tb (List.mem_of_getElem? (i := 211) (by decide +kernel)) (by decide +kernel), tyX2_ok, nmX2, rfl, rfl, by decide +kernel⟩
theorem ff_X2_15 : jFF RX2 15 2 2 (.array .int) := ⟨RX2, TX2, 10, tyX2, rfl, (Nat.le_of_ble_eq_true rfl), wi_X2, tw_tb (List.mem_of_getElem? (i := 213) (by decide +kernel)) (by decide +kernel), tyX2_ok, nmX2, rfl, rfl, by decide +kernel⟩
theorem ff_X2_18 : jFF RX2 18 2 3 (.array .int) := ⟨RX2, TX2, 10, tyX2, rfl, (Nat.le_of_ble_eq_true rfl), wi_X2, tw_tb (List.mem_of_getElem? (i := 215) (by decide +kernel)) (by decide +kernel), tyX2_ok, nmX2, rfl, rfl, by decide +kernel⟩
theorem ff_X2_21 : jFF RX2 21 2 4 (.array .int) := ⟨RX2, TX2, 10, tyX2, rfl, (Nat.le_of_ble_eq_true rfl), wi_X2, tw_tb (List.mem_of_getElem? (i := 217) (by decide +kernel)) (by decide +kernel), tyX2_ok, nmX2, rfl, rfl, by decide +kernel⟩
theorem ff_X2_24 : jFF RX2 24 2 0 (.object "LampsListen$Site") := ⟨RX2, TX2, 10, tyX2, rfl, (Nat.le_of_ble_eq_true rfl), wi_X2, tw_tb (List.mem_of_getElem? (i := 207) (by decide +kernel)) (by decide +kernel), tyX2_ok, nmX2, rfl, rfl, by decide +kernel⟩
theorem wo_X3 : Cond.methodLink RX3 3 Lib.objectInit ∈ tw := tw_tb (List.mem_of_getElem? (i := 159) (by decide +kernel)) (by decide +kernel)
theorem ff_X3_15 : jFF RX3 15 3 0 (.object "LampsListen$Row") := ⟨RX3, TX3, 6, tyX3, rfl, (Nat.le_of_ble_eq_true rfl), wi_X3, tw_tb (List.mem_of_getElem? (i := 160) (by decide +kernel)) (by decide +kernel), tyX3_ok, nmX3, rfl, rfl, by decide +kernel⟩
theorem wo_X0 : Cond.methodLink RX0 3 Lib.objectInit ∈ tw := tw_tb (List.mem_of_getElem? (i := 327) (by decide +kernel)) (by decide +kernel)
theorem ff_X0_9 : jFF RX0 9 0 1 (.array .int) := ⟨RX0, TX0, 3, tyX0, rfl, (Nat.le_of_ble_eq_true rfl), wi_X0, tw_tb (List.mem_of_getElem? (i := 329) (by decide +kernel)) (by decide +kernel), tyX0_ok, nmX0, rfl, rfl, by decide +kernel⟩
theorem ff_X0_15 : jFF RX0 15 0 2 (.array .int) := ⟨RX0, TX0, 3, tyX0, rfl, (Nat.le_of_ble_eq_true rfl), wi_X0, tw_tb (List.mem_of_getElem? (i := 331) (by decide +kernel)) (by decide +kernel), tyX0_ok, nmX0, rfl, rfl, by decide +kernel⟩
theorem ff_X0_18 : jFF RX0 18 0 0 (.object "LampsListen$Moment") := ⟨RX0, TX0, 3, tyX0, rfl, (Nat.le_of_ble_eq_true rfl), wi_X0, tw_tb (List.mem_of_getElem? (i := 328) (by decide +kernel)) (by decide +kernel), tyX0_ok, nmX0, rfl, rfl, by decide +kernel⟩
theorem wo_X6 : Cond.methodLink RX6 3 Lib.objectInit ∈ tw := tw_tb (List.mem_of_getElem? (i := 56) (by decide +kernel)) (by decide +kernel)
theorem nn_X6_9 : jNw RX6 9 4 2 [.null, .int 0] := ⟨RX4, TX4, tyX4, rfl, wi_X4, tyX4_ok, tw_tb (List.mem_of_getElem? (i := 57) (by decide +kernel)) (by decide +kernel), tw_tb (List.mem_of_getElem? (i := 29) (by decide +kernel)) (by decide +kernel), tw_tb (List.mem_of_getElem? (i := 2) (by decide +kernel)) (by decide +kernel), by decide +kernel⟩
theorem mi_L_X6_11 : Cond.methodLink RX6 11 yX4_init ∈ tw := tw_tb (List.mem_of_getElem? (i := 58) (by decide +kernel)) (by decide +kernel)
theorem ff_X6_14 : jFF RX6 14 6 0 (.object "LampsListen$Row") := ⟨RX6, TX6, 11, tyX6, rfl, (Nat.le_of_ble_eq_true rfl), wi_X6, tw_tb (List.mem_of_getElem? (i := 59) (by decide +kernel)) (by decide +kernel), tyX6_ok, nmX6, rfl, rfl, by decide +kernel⟩
theorem ff_X6_20 : jFF RX6 20 6 1 (.object "LampsListen$Row") := ⟨RX6, TX6, 11, tyX6, rfl, (Nat.le_of_ble_eq_true rfl), wi_X6, tw_tb (List.mem_of_getElem? (i := 66) (by decide +kernel)) (by decide +kernel), tyX6_ok, nmX6, rfl, rfl, by decide +kernel⟩
theorem ff_X6_23 : jFF RX6 23 6 2 (.object "LampsListen$Row") := ⟨RX6, TX6, 11, tyX6, rfl, (Nat.le_of_ble_eq_true rfl), wi_X6, tw_tb (List.mem_of_getElem? (i := 69) (by decide +kernel)) (by decide +kernel), tyX6_ok, nmX6, rfl, rfl, by decide +kernel⟩
theorem ff_X6_26 : jFF RX6 26 6 3 (.object "LampsListen$Row") := ⟨RX6, TX6, 11, tyX6, rfl, (Nat.le_of_ble_eq_true rfl), wi_X6, tw_tb (List.mem_of_getElem? (i := 75) (by decide +kernel)) (by decide +kernel), tyX6_ok, nmX6, rfl, rfl, by decide +kernel⟩
theorem ff_X6_29 : jFF RX6 29 6 4 (.object "LampsListen$Row") := ⟨RX6, TX6, 11, tyX6, rfl, (Nat.le_of_ble_eq_true rfl), wi_X6, tw_tb (List.mem_of_getElem? (i := 80) (by decide +kernel)) (by decide +kernel), tyX6_ok, nmX6, rfl, rfl, by decide +kernel⟩
theorem ff_X6_32 : jFF RX6 32 6 5 (.object "LampsListen$Row") := ⟨RX6, TX6, 11, tyX6, rfl, (Nat.le_of_ble_eq_true rfl), wi_X6, tw_tb (List.mem_of_getElem? (i := 84) (by decide +kernel)) (by decide +kernel), tyX6_ok, nmX6, rfl, rfl, by decide +kernel⟩
theorem ff_X6_35 : jFF RX6 35 6 6 (.object "LampsListen$Row") := ⟨RX6, TX6, 11, tyX6, rfl, (Nat.le_of_ble_eq_true rfl), wi_X6, tw_tb (List.mem_of_getElem? (i := 88) (by decide +kernel)) (by decide +kernel), tyX6_ok, nmX6, rfl, rfl, by decide +kernel⟩
theorem ff_X6_38 : jFF RX6 38 6 7 (.object "LampsListen$Row") := ⟨RX6, TX6, 11, tyX6, rfl, (Nat.le_of_ble_eq_true rfl), wi_X6, tw_tb (List.mem_of_getElem? (i := 91) (by decide +kernel)) (by decide +kernel), tyX6_ok, nmX6, rfl, rfl, by decide +kernel⟩
theorem wo_X7 : Cond.methodLink RX7 3 Lib.objectInit ∈ tw := tw_tb (List.mem_of_getElem? (i := 135) (by decide +kernel)) (by decide +kernel)
theorem nn_X7_9 : jNw RX7 9 4 2 [.null, .int 0] := ⟨RX4, TX4, tyX4, rfl, wi_X4, tyX4_ok, tw_tb (List.mem_of_getElem? (i := 136) (by decide +kernel)) (by decide +kernel), tw_tb (List.mem_of_getElem? (i := 29) (by decide +kernel)) (by decide +kernel), tw_tb (List.mem_of_getElem? (i := 2) (by decide +kernel)) (by decide +kernel), by decide +kernel⟩
theorem mi_L_X7_11 : Cond.methodLink RX7 11 yX4_init ∈ tw := tw_tb (List.mem_of_getElem? (i := 137) (by decide +kernel)) (by decide +kernel)
theorem ff_X7_14 : jFF RX7 14 7 0 (.object "LampsListen$Row") := ⟨RX7, TX7, 3, tyX7, rfl, (Nat.le_of_ble_eq_true rfl), wi_X7, tw_tb (List.mem_of_getElem? (i := 138) (by decide +kernel)) (by decide +kernel), tyX7_ok, nmX7, rfl, rfl, by decide +kernel⟩
theorem ff_X7_20 : jFF RX7 20 7 1 (.object "LampsListen$Row") := ⟨RX7, TX7, 3, tyX7, rfl, (Nat.le_of_ble_eq_true rfl), wi_X7, tw_tb (List.mem_of_getElem? (i := 141) (by decide +kernel)) (by decide +kernel), tyX7_ok, nmX7, rfl, rfl, by decide +kernel⟩
theorem ff_X7_23 : jFF RX7 23 7 2 (.object "LampsListen$Row") := ⟨RX7, TX7, 3, tyX7, rfl, (Nat.le_of_ble_eq_true rfl), wi_X7, tw_tb (List.mem_of_getElem? (i := 143) (by decide +kernel)) (by decide +kernel), tyX7_ok, nmX7, rfl, rfl, by decide +kernel⟩
theorem wo_X5 : Cond.methodLink RX5 3 Lib.objectInit ∈ tw := tw_tb (List.mem_of_getElem? (i := 50) (by decide +kernel)) (by decide +kernel)
theorem nn_X5_9 : jNw RX5 9 6 11 [.null, .null, .null, .null, .null, .null, .null, .null, .int 0, .int 0, .int 0] := ⟨RX6, TX6, tyX6, rfl, wi_X6, tyX6_ok, tw_tb (List.mem_of_getElem? (i := 51) (by decide +kernel)) (by decide +kernel), tw_tb (List.mem_of_getElem? (i := 52) (by decide +kernel)) (by decide +kernel), tw_tb (List.mem_of_getElem? (i := 5) (by decide +kernel)) (by decide +kernel), by decide +kernel⟩
theorem mn_X5_11 : (RX5, 11, yX6_init, "LampsListen") ∈ jw_nl := List.mem_of_getElem? (i := 0) rfl
theorem ff_X5_12 : jFF RX5 12 5 2 (.object "LampsListen$Site") := ⟨RX5, TX5, 5, tyX5, rfl, (Nat.le_of_ble_eq_true rfl), wi_X5, tw_tb (List.mem_of_getElem? (i := 183) (by decide +kernel)) (by decide +kernel), tyX5_ok, nmX5, rfl, rfl, by decide +kernel⟩
theorem nn_X5_18 : jNw RX5 18 7 3 [.null, .null, .null] := ⟨RX7, TX7, tyX7, rfl, wi_X7, tyX7_ok, tw_tb (List.mem_of_getElem? (i := 130) (by decide +kernel)) (by decide +kernel), tw_tb (List.mem_of_getElem? (i := 131) (by decide +kernel)) (by decide +kernel), tw_tb (List.mem_of_getElem? (i := 6) (by decide +kernel)) (by decide +kernel), by decide +kernel⟩
theorem mn_X5_20 : (RX5, 20, yX7_init, "LampsListen") ∈ jw_nl := List.mem_of_getElem? (i := 1) rfl
theorem ff_X5_21 : jFF RX5 21 5 3 (.object "LampsListen$Songs") := ⟨RX5, TX5, 5, tyX5, rfl, (Nat.le_of_ble_eq_true rfl), wi_X5, tw_tb (List.mem_of_getElem? (i := 184) (by decide +kernel)) (by decide +kernel), tyX5_ok, nmX5, rfl, rfl, by decide +kernel⟩
theorem nn_X5_25 : jNw RX5 25 4 2 [.null, .int 0] := ⟨RX4, TX4, tyX4, rfl, wi_X4, tyX4_ok, tw_tb (List.mem_of_getElem? (i := 152) (by decide +kernel)) (by decide +kernel), tw_tb (List.mem_of_getElem? (i := 29) (by decide +kernel)) (by decide +kernel), tw_tb (List.mem_of_getElem? (i := 2) (by decide +kernel)) (by decide +kernel), by decide +kernel⟩
theorem mi_L_X5_27 : Cond.methodLink RX5 27 yX4_init ∈ tw := tw_tb (List.mem_of_getElem? (i := 153) (by decide +kernel)) (by decide +kernel)
theorem ff_X5_30 : jFF RX5 30 5 4 (.object "LampsListen$Row") := ⟨RX5, TX5, 5, tyX5, rfl, (Nat.le_of_ble_eq_true rfl), wi_X5, tw_tb (List.mem_of_getElem? (i := 185) (by decide +kernel)) (by decide +kernel), tyX5_ok, nmX5, rfl, rfl, by decide +kernel⟩
theorem ff_X5_34 : jFF RX5 34 5 0 (.object "LampsListen$Row") := ⟨RX5, TX5, 5, tyX5, rfl, (Nat.le_of_ble_eq_true rfl), wi_X5, tw_tb (List.mem_of_getElem? (i := 181) (by decide +kernel)) (by decide +kernel), tyX5_ok, nmX5, rfl, rfl, by decide +kernel⟩
theorem nn_X5_37 : jNw RX5 37 3 6 [.null, .int 0, .int 0, .int 0, .int 0, .int 0] := ⟨RX3, TX3, tyX3, rfl, wi_X3, tyX3_ok, tw_tb (List.mem_of_getElem? (i := 154) (by decide +kernel)) (by decide +kernel), tw_tb (List.mem_of_getElem? (i := 155) (by decide +kernel)) (by decide +kernel), tw_tb (List.mem_of_getElem? (i := 7) (by decide +kernel)) (by decide +kernel), by decide +kernel⟩
theorem mi_L_X5_39 : Cond.methodLink RX5 39 yX3_init ∈ tw := tw_tb (List.mem_of_getElem? (i := 156) (by decide +kernel)) (by decide +kernel)
theorem ff_X5_42 : jFF RX5 42 5 1 (.object "LampsListen$Reader") := ⟨RX5, TX5, 5, tyX5, rfl, (Nat.le_of_ble_eq_true rfl), wi_X5, tw_tb (List.mem_of_getElem? (i := 182) (by decide +kernel)) (by decide +kernel), tyX5_ok, nmX5, rfl, rfl, by decide +kernel⟩
theorem wo_X8 : Cond.methodLink RX8 3 Lib.objectInit ∈ tw := tw_tb (List.mem_of_getElem? (i := 292) (by decide +kernel)) (by decide +kernel)
theorem wc_X8_9 : Cond.constant RX8 9 51200 ∈ tw := tw_tb (List.mem_of_getElem? (i := 293) (by decide +kernel)) (by decide +kernel)
theorem ff_X8_10 : jFF RX8 10 8 1 (.array .int) := ⟨RX8, TX8, 8, tyX8, rfl, (Nat.le_of_ble_eq_true rfl), wi_X8, tw_tb (List.mem_of_getElem? (i := 297) (by decide +kernel)) (by decide +kernel), tyX8_ok, nmX8, rfl, rfl, by decide +kernel⟩
theorem ff_X8_16 : jFF RX8 16 8 2 (.array .int) := ⟨RX8, TX8, 8, tyX8, rfl, (Nat.le_of_ble_eq_true rfl), wi_X8, tw_tb (List.mem_of_getElem? (i := 298) (by decide +kernel)) (by decide +kernel), tyX8_ok, nmX8, rfl, rfl, by decide +kernel⟩
theorem nn_X8_19 : jNw RX8 19 4 2 [.null, .int 0] := ⟨RX4, TX4, tyX4, rfl, wi_X4, tyX4_ok, tw_tb (List.mem_of_getElem? (i := 294) (by decide +kernel)) (by decide +kernel), tw_tb (List.mem_of_getElem? (i := 29) (by decide +kernel)) (by decide +kernel), tw_tb (List.mem_of_getElem? (i := 2) (by decide +kernel)) (by decide +kernel), by decide +kernel⟩
theorem mi_L_X8_21 : Cond.methodLink RX8 21 yX4_init ∈ tw := tw_tb (List.mem_of_getElem? (i := 295) (by decide +kernel)) (by decide +kernel)
theorem ff_X8_24 : jFF RX8 24 8 3 (.object "LampsListen$Row") := ⟨RX8, TX8, 8, tyX8, rfl, (Nat.le_of_ble_eq_true rfl), wi_X8, tw_tb (List.mem_of_getElem? (i := 299) (by decide +kernel)) (by decide +kernel), tyX8_ok, nmX8, rfl, rfl, by decide +kernel⟩
theorem ff_X8_28 : jFF RX8 28 8 4 (.object "LampsListen$Row") := ⟨RX8, TX8, 8, tyX8, rfl, (Nat.le_of_ble_eq_true rfl), wi_X8, tw_tb (List.mem_of_getElem? (i := 300) (by decide +kernel)) (by decide +kernel), tyX8_ok, nmX8, rfl, rfl, by decide +kernel⟩
theorem ff_X8_31 : jFF RX8 31 8 0 (.object "LampsListen$Hearing") := ⟨RX8, TX8, 8, tyX8, rfl, (Nat.le_of_ble_eq_true rfl), wi_X8, tw_tb (List.mem_of_getElem? (i := 296) (by decide +kernel)) (by decide +kernel), tyX8_ok, nmX8, rfl, rfl, by decide +kernel⟩
theorem wo_X9 : Cond.methodLink RX9 3 Lib.objectInit ∈ tw := tw_tb (List.mem_of_getElem? (i := 265) (by decide +kernel)) (by decide +kernel)
theorem nn_X9_9 : jNw RX9 9 4 2 [.null, .int 0] := ⟨RX4, TX4, tyX4, rfl, wi_X4, tyX4_ok, tw_tb (List.mem_of_getElem? (i := 266) (by decide +kernel)) (by decide +kernel), tw_tb (List.mem_of_getElem? (i := 29) (by decide +kernel)) (by decide +kernel), tw_tb (List.mem_of_getElem? (i := 2) (by decide +kernel)) (by decide +kernel), by decide +kernel⟩
theorem mi_L_X9_11 : Cond.methodLink RX9 11 yX4_init ∈ tw := tw_tb (List.mem_of_getElem? (i := 267) (by decide +kernel)) (by decide +kernel)
theorem ff_X9_14 : jFF RX9 14 9 1 (.object "LampsListen$Row") := ⟨RX9, TX9, 6, tyX9, rfl, (Nat.le_of_ble_eq_true rfl), wi_X9, tw_tb (List.mem_of_getElem? (i := 269) (by decide +kernel)) (by decide +kernel), tyX9_ok, nmX9, rfl, rfl, by decide +kernel⟩
theorem ff_X9_20 : jFF RX9 20 9 2 (.array .int) := ⟨RX9, TX9, 6, tyX9, rfl, (Nat.le_of_ble_eq_true rfl), wi_X9, tw_tb (List.mem_of_getElem? (i := 270) (by decide +kernel)) (by decide +kernel), tyX9_ok, nmX9, rfl, rfl, by decide +kernel⟩
theorem ks_256 : (Int16.ofInt 256).toInt32 = 256 := by decide
theorem ff_X9_24 : jFF RX9 24 9 3 (.object "LampsListen$Row") := ⟨RX9, TX9, 6, tyX9, rfl, (Nat.le_of_ble_eq_true rfl), wi_X9, tw_tb (List.mem_of_getElem? (i := 271) (by decide +kernel)) (by decide +kernel), tyX9_ok, nmX9, rfl, rfl, by decide +kernel⟩
theorem ff_X9_27 : jFF RX9 27 9 4 (.array .int) := ⟨RX9, TX9, 6, tyX9, rfl, (Nat.le_of_ble_eq_true rfl), wi_X9, tw_tb (List.mem_of_getElem? (i := 272) (by decide +kernel)) (by decide +kernel), tyX9_ok, nmX9, rfl, rfl, by decide +kernel⟩
theorem ff_X9_30 : jFF RX9 30 9 5 (.array .int) := ⟨RX9, TX9, 6, tyX9, rfl, (Nat.le_of_ble_eq_true rfl), wi_X9, tw_tb (List.mem_of_getElem? (i := 273) (by decide +kernel)) (by decide +kernel), tyX9_ok, nmX9, rfl, rfl, by decide +kernel⟩
theorem ff_X9_33 : jFF RX9 33 9 0 (.object "LampsListen$Hearing") := ⟨RX9, TX9, 6, tyX9, rfl, (Nat.le_of_ble_eq_true rfl), wi_X9, tw_tb (List.mem_of_getElem? (i := 268) (by decide +kernel)) (by decide +kernel), tyX9_ok, nmX9, rfl, rfl, by decide +kernel⟩
theorem wo_X11 : Cond.methodLink RX11 1 Lib.objectInit ∈ tw := tw_tb (List.mem_of_getElem? (i := 1044) (by decide +kernel)) (by decide +kernel)
theorem ff_X11_7 : jFF RX11 7 11 1 (.array .int) := ⟨RX11, TX11, 52, tyX11, rfl, (Nat.le_of_ble_eq_true rfl), wi_X11, tw_tb (List.mem_of_getElem? (i := 1048) (by decide +kernel)) (by decide +kernel), tyX11_ok, nmX11, rfl, rfl, by decide +kernel⟩
theorem ff_X11_13 : jFF RX11 13 11 2 (.array .int) := ⟨RX11, TX11, 52, tyX11, rfl, (Nat.le_of_ble_eq_true rfl), wi_X11, tw_tb (List.mem_of_getElem? (i := 1049) (by decide +kernel)) (by decide +kernel), tyX11_ok, nmX11, rfl, rfl, by decide +kernel⟩
theorem ff_X11_16 : jFF RX11 16 11 3 (.array .int) := ⟨RX11, TX11, 52, tyX11, rfl, (Nat.le_of_ble_eq_true rfl), wi_X11, tw_tb (List.mem_of_getElem? (i := 1050) (by decide +kernel)) (by decide +kernel), tyX11_ok, nmX11, rfl, rfl, by decide +kernel⟩
theorem ff_X11_19 : jFF RX11 19 11 4 (.array .int) := ⟨RX11, TX11, 52, tyX11, rfl, (Nat.le_of_ble_eq_true rfl), wi_X11, tw_tb (List.mem_of_getElem? (i := 1051) (by decide +kernel)) (by decide +kernel), tyX11_ok, nmX11, rfl, rfl, by decide +kernel⟩
theorem ff_X11_32 : jFF RX11 32 11 9 (.array .int) := ⟨RX11, TX11, 52, tyX11, rfl, (Nat.le_of_ble_eq_true rfl), wi_X11, tw_tb (List.mem_of_getElem? (i := 1056) (by decide +kernel)) (by decide +kernel), tyX11_ok, nmX11, rfl, rfl, by decide +kernel⟩
theorem ff_X11_35 : jFF RX11 35 11 11 (.array .int) := ⟨RX11, TX11, 52, tyX11, rfl, (Nat.le_of_ble_eq_true rfl), wi_X11, tw_tb (List.mem_of_getElem? (i := 1058) (by decide +kernel)) (by decide +kernel), tyX11_ok, nmX11, rfl, rfl, by decide +kernel⟩
theorem ff_X11_38 : jFF RX11 38 11 13 (.array .int) := ⟨RX11, TX11, 52, tyX11, rfl, (Nat.le_of_ble_eq_true rfl), wi_X11, tw_tb (List.mem_of_getElem? (i := 1060) (by decide +kernel)) (by decide +kernel), tyX11_ok, nmX11, rfl, rfl, by decide +kernel⟩
theorem ff_X11_41 : jFF RX11 41 11 18 (.array .int) := ⟨RX11, TX11, 52, tyX11, rfl, (Nat.le_of_ble_eq_true rfl), wi_X11, tw_tb (List.mem_of_getElem? (i := 1065) (by decide +kernel)) (by decide +kernel), tyX11_ok, nmX11, rfl, rfl, by decide +kernel⟩
theorem ff_X11_47 : jFF RX11 47 11 27 (.array .int) := ⟨RX11, TX11, 52, tyX11, rfl, (Nat.le_of_ble_eq_true rfl), wi_X11, tw_tb (List.mem_of_getElem? (i := 1074) (by decide +kernel)) (by decide +kernel), tyX11_ok, nmX11, rfl, rfl, by decide +kernel⟩
theorem ff_X11_50 : jFF RX11 50 11 29 (.array .int) := ⟨RX11, TX11, 52, tyX11, rfl, (Nat.le_of_ble_eq_true rfl), wi_X11, tw_tb (List.mem_of_getElem? (i := 1076) (by decide +kernel)) (by decide +kernel), tyX11_ok, nmX11, rfl, rfl, by decide +kernel⟩
theorem ff_X11_53 : jFF RX11 53 11 30 (.array .int) := ⟨RX11, TX11, 52, tyX11, rfl, (Nat.le_of_ble_eq_true rfl), wi_X11, tw_tb (List.mem_of_getElem? (i := 1077) (by decide +kernel)) (by decide +kernel), tyX11_ok, nmX11, rfl, rfl, by decide +kernel⟩
theorem ff_X11_56 : jFF RX11 56 11 33 (.array .int) := ⟨RX11, TX11, 52, tyX11, rfl, (Nat.le_of_ble_eq_true rfl), wi_X11, tw_tb (List.mem_of_getElem? (i := 1080) (by decide +kernel)) (by decide +kernel), tyX11_ok, nmX11, rfl, rfl, by decide +kernel⟩
theorem wc_X11_59 : Cond.constant RX11 59 51200 ∈ tw := tw_tb (List.mem_of_getElem? (i := 1045) (by decide +kernel)) (by decide +kernel)
theorem ff_X11_60 : jFF RX11 60 11 34 (.array .int) := ⟨RX11, TX11, 52, tyX11, rfl, (Nat.le_of_ble_eq_true rfl), wi_X11, tw_tb (List.mem_of_getElem? (i := 1081) (by decide +kernel)) (by decide +kernel), tyX11_ok, nmX11, rfl, rfl, by decide +kernel⟩
theorem ff_X11_63 : jFF RX11 63 11 35 (.array .int) := ⟨RX11, TX11, 52, tyX11, rfl, (Nat.le_of_ble_eq_true rfl), wi_X11, tw_tb (List.mem_of_getElem? (i := 1082) (by decide +kernel)) (by decide +kernel), tyX11_ok, nmX11, rfl, rfl, by decide +kernel⟩
theorem ff_X11_66 : jFF RX11 66 11 39 (.array .int) := ⟨RX11, TX11, 52, tyX11, rfl, (Nat.le_of_ble_eq_true rfl), wi_X11, tw_tb (List.mem_of_getElem? (i := 1086) (by decide +kernel)) (by decide +kernel), tyX11_ok, nmX11, rfl, rfl, by decide +kernel⟩
theorem ff_X11_69 : jFF RX11 69 11 40 (.array .boolean) := ⟨RX11, TX11, 52, tyX11, rfl, (Nat.le_of_ble_eq_true rfl), wi_X11, tw_tb (List.mem_of_getElem? (i := 1087) (by decide +kernel)) (by decide +kernel), tyX11_ok, nmX11, rfl, rfl, by decide +kernel⟩
theorem ff_X11_73 : jFF RX11 73 11 41 (.array .int) := ⟨RX11, TX11, 52, tyX11, rfl, (Nat.le_of_ble_eq_true rfl), wi_X11, tw_tb (List.mem_of_getElem? (i := 1088) (by decide +kernel)) (by decide +kernel), tyX11_ok, nmX11, rfl, rfl, by decide +kernel⟩
theorem ff_X11_76 : jFF RX11 76 11 42 (.array .int) := ⟨RX11, TX11, 52, tyX11, rfl, (Nat.le_of_ble_eq_true rfl), wi_X11, tw_tb (List.mem_of_getElem? (i := 1089) (by decide +kernel)) (by decide +kernel), tyX11_ok, nmX11, rfl, rfl, by decide +kernel⟩
theorem wc_X11_79 : Cond.constant RX11 79 66560 ∈ tw := tw_tb (List.mem_of_getElem? (i := 1046) (by decide +kernel)) (by decide +kernel)
theorem ff_X11_80 : jFF RX11 80 11 43 (.array .int) := ⟨RX11, TX11, 52, tyX11, rfl, (Nat.le_of_ble_eq_true rfl), wi_X11, tw_tb (List.mem_of_getElem? (i := 1090) (by decide +kernel)) (by decide +kernel), tyX11_ok, nmX11, rfl, rfl, by decide +kernel⟩
theorem ff_X11_83 : jFF RX11 83 11 44 (.array .int) := ⟨RX11, TX11, 52, tyX11, rfl, (Nat.le_of_ble_eq_true rfl), wi_X11, tw_tb (List.mem_of_getElem? (i := 1091) (by decide +kernel)) (by decide +kernel), tyX11_ok, nmX11, rfl, rfl, by decide +kernel⟩
theorem ff_X11_86 : jFF RX11 86 11 45 (.array .int) := ⟨RX11, TX11, 52, tyX11, rfl, (Nat.le_of_ble_eq_true rfl), wi_X11, tw_tb (List.mem_of_getElem? (i := 1092) (by decide +kernel)) (by decide +kernel), tyX11_ok, nmX11, rfl, rfl, by decide +kernel⟩
theorem ff_X11_89 : jFF RX11 89 11 46 (.array .int) := ⟨RX11, TX11, 52, tyX11, rfl, (Nat.le_of_ble_eq_true rfl), wi_X11, tw_tb (List.mem_of_getElem? (i := 1093) (by decide +kernel)) (by decide +kernel), tyX11_ok, nmX11, rfl, rfl, by decide +kernel⟩
theorem ff_X11_92 : jFF RX11 92 11 48 (.array .int) := ⟨RX11, TX11, 52, tyX11, rfl, (Nat.le_of_ble_eq_true rfl), wi_X11, tw_tb (List.mem_of_getElem? (i := 1095) (by decide +kernel)) (by decide +kernel), tyX11_ok, nmX11, rfl, rfl, by decide +kernel⟩
theorem ff_X11_95 : jFF RX11 95 11 49 (.array .int) := ⟨RX11, TX11, 52, tyX11, rfl, (Nat.le_of_ble_eq_true rfl), wi_X11, tw_tb (List.mem_of_getElem? (i := 1096) (by decide +kernel)) (by decide +kernel), tyX11_ok, nmX11, rfl, rfl, by decide +kernel⟩
theorem ff_X11_98 : jFF RX11 98 11 50 (.array .int) := ⟨RX11, TX11, 52, tyX11, rfl, (Nat.le_of_ble_eq_true rfl), wi_X11, tw_tb (List.mem_of_getElem? (i := 1097) (by decide +kernel)) (by decide +kernel), tyX11_ok, nmX11, rfl, rfl, by decide +kernel⟩
theorem ff_X11_101 : jFF RX11 101 11 51 (.array .boolean) := ⟨RX11, TX11, 52, tyX11, rfl, (Nat.le_of_ble_eq_true rfl), wi_X11, tw_tb (List.mem_of_getElem? (i := 1098) (by decide +kernel)) (by decide +kernel), tyX11_ok, nmX11, rfl, rfl, by decide +kernel⟩
theorem wo_X10 : Cond.methodLink RX10 3 Lib.objectInit ∈ tw := tw_tb (List.mem_of_getElem? (i := 25) (by decide +kernel)) (by decide +kernel)
theorem nn_X10_9 : jNw RX10 9 4 2 [.null, .int 0] := ⟨RX4, TX4, tyX4, rfl, wi_X4, tyX4_ok, tw_tb (List.mem_of_getElem? (i := 28) (by decide +kernel)) (by decide +kernel), tw_tb (List.mem_of_getElem? (i := 29) (by decide +kernel)) (by decide +kernel), tw_tb (List.mem_of_getElem? (i := 2) (by decide +kernel)) (by decide +kernel), by decide +kernel⟩
theorem mi_L_X10_11 : Cond.methodLink RX10 11 yX4_init ∈ tw := tw_tb (List.mem_of_getElem? (i := 30) (by decide +kernel)) (by decide +kernel)
theorem ff_X10_14 : jFF RX10 14 10 0 (.object "LampsListen$Row") := ⟨RX10, TX10, 15, tyX10, rfl, (Nat.le_of_ble_eq_true rfl), wi_X10, tw_tb (List.mem_of_getElem? (i := 355) (by decide +kernel)) (by decide +kernel), tyX10_ok, nmX10, rfl, rfl, by decide +kernel⟩
theorem nn_X10_18 : jNw RX10 18 5 5 [.null, .null, .null, .null, .null] := ⟨RX5, TX5, tyX5, rfl, wi_X5, tyX5_ok, tw_tb (List.mem_of_getElem? (i := 45) (by decide +kernel)) (by decide +kernel), tw_tb (List.mem_of_getElem? (i := 46) (by decide +kernel)) (by decide +kernel), tw_tb (List.mem_of_getElem? (i := 4) (by decide +kernel)) (by decide +kernel), by decide +kernel⟩
theorem mi_L_X10_20 : Cond.methodLink RX10 20 yX5_init ∈ tw := tw_tb (List.mem_of_getElem? (i := 47) (by decide +kernel)) (by decide +kernel)
theorem ff_X10_23 : jFF RX10 23 10 1 (.object "LampsListen$Scribe") := ⟨RX10, TX10, 15, tyX10, rfl, (Nat.le_of_ble_eq_true rfl), wi_X10, tw_tb (List.mem_of_getElem? (i := 356) (by decide +kernel)) (by decide +kernel), tyX10_ok, nmX10, rfl, rfl, by decide +kernel⟩
theorem nn_X10_27 : jNw RX10 27 6 11 [.null, .null, .null, .null, .null, .null, .null, .null, .int 0, .int 0, .int 0] := ⟨RX6, TX6, tyX6, rfl, wi_X6, tyX6_ok, tw_tb (List.mem_of_getElem? (i := 197) (by decide +kernel)) (by decide +kernel), tw_tb (List.mem_of_getElem? (i := 52) (by decide +kernel)) (by decide +kernel), tw_tb (List.mem_of_getElem? (i := 5) (by decide +kernel)) (by decide +kernel), by decide +kernel⟩
theorem mn_X10_29 : (RX10, 29, yX6_init, "LampsListen") ∈ jw_nl := List.mem_of_getElem? (i := 2) rfl
theorem ff_X10_30 : jFF RX10 30 10 2 (.object "LampsListen$Site") := ⟨RX10, TX10, 15, tyX10, rfl, (Nat.le_of_ble_eq_true rfl), wi_X10, tw_tb (List.mem_of_getElem? (i := 357) (by decide +kernel)) (by decide +kernel), tyX10_ok, nmX10, rfl, rfl, by decide +kernel⟩
theorem nn_X10_34 : jNw RX10 34 7 3 [.null, .null, .null] := ⟨RX7, TX7, tyX7, rfl, wi_X7, tyX7_ok, tw_tb (List.mem_of_getElem? (i := 199) (by decide +kernel)) (by decide +kernel), tw_tb (List.mem_of_getElem? (i := 131) (by decide +kernel)) (by decide +kernel), tw_tb (List.mem_of_getElem? (i := 6) (by decide +kernel)) (by decide +kernel), by decide +kernel⟩
theorem mn_X10_36 : (RX10, 36, yX7_init, "LampsListen") ∈ jw_nl := List.mem_of_getElem? (i := 3) rfl
theorem ff_X10_37 : jFF RX10 37 10 3 (.object "LampsListen$Songs") := ⟨RX10, TX10, 15, tyX10, rfl, (Nat.le_of_ble_eq_true rfl), wi_X10, tw_tb (List.mem_of_getElem? (i := 358) (by decide +kernel)) (by decide +kernel), tyX10_ok, nmX10, rfl, rfl, by decide +kernel⟩
theorem ff_X10_41 : jFF RX10 41 10 4 (.object "LampsListen$Row") := ⟨RX10, TX10, 15, tyX10, rfl, (Nat.le_of_ble_eq_true rfl), wi_X10, tw_tb (List.mem_of_getElem? (i := 359) (by decide +kernel)) (by decide +kernel), tyX10_ok, nmX10, rfl, rfl, by decide +kernel⟩
theorem nn_X10_44 : jNw RX10 44 2 10 [.null, .null, .null, .null, .null, .int 0, .int 0, .int 0, .int 0, .int 0] := ⟨RX2, TX2, tyX2, rfl, wi_X2, tyX2_ok, tw_tb (List.mem_of_getElem? (i := 201) (by decide +kernel)) (by decide +kernel), tw_tb (List.mem_of_getElem? (i := 202) (by decide +kernel)) (by decide +kernel), tw_tb (List.mem_of_getElem? (i := 8) (by decide +kernel)) (by decide +kernel), by decide +kernel⟩
theorem mi_L_X10_46 : Cond.methodLink RX10 46 yX2_init ∈ tw := tw_tb (List.mem_of_getElem? (i := 203) (by decide +kernel)) (by decide +kernel)
theorem ff_X10_49 : jFF RX10 49 10 5 (.object "LampsListen$Moment") := ⟨RX10, TX10, 15, tyX10, rfl, (Nat.le_of_ble_eq_true rfl), wi_X10, tw_tb (List.mem_of_getElem? (i := 360) (by decide +kernel)) (by decide +kernel), tyX10_ok, nmX10, rfl, rfl, by decide +kernel⟩
theorem ff_X10_53 : jFF RX10 53 10 6 (.object "LampsListen$Moment") := ⟨RX10, TX10, 15, tyX10, rfl, (Nat.le_of_ble_eq_true rfl), wi_X10, tw_tb (List.mem_of_getElem? (i := 361) (by decide +kernel)) (by decide +kernel), tyX10_ok, nmX10, rfl, rfl, by decide +kernel⟩
theorem ff_X10_56 : jFF RX10 56 10 7 (.object "LampsListen$Moment") := ⟨RX10, TX10, 15, tyX10, rfl, (Nat.le_of_ble_eq_true rfl), wi_X10, tw_tb (List.mem_of_getElem? (i := 362) (by decide +kernel)) (by decide +kernel), tyX10_ok, nmX10, rfl, rfl, by decide +kernel⟩
theorem ff_X10_59 : jFF RX10 59 10 8 (.object "LampsListen$Moment") := ⟨RX10, TX10, 15, tyX10, rfl, (Nat.le_of_ble_eq_true rfl), wi_X10, tw_tb (List.mem_of_getElem? (i := 363) (by decide +kernel)) (by decide +kernel), tyX10_ok, nmX10, rfl, rfl, by decide +kernel⟩
theorem ff_X10_62 : jFF RX10 62 10 9 (.object "LampsListen$Row") := ⟨RX10, TX10, 15, tyX10, rfl, (Nat.le_of_ble_eq_true rfl), wi_X10, tw_tb (List.mem_of_getElem? (i := 364) (by decide +kernel)) (by decide +kernel), tyX10_ok, nmX10, rfl, rfl, by decide +kernel⟩
theorem ff_X10_65 : jFF RX10 65 10 10 (.object "LampsListen$Row") := ⟨RX10, TX10, 15, tyX10, rfl, (Nat.le_of_ble_eq_true rfl), wi_X10, tw_tb (List.mem_of_getElem? (i := 365) (by decide +kernel)) (by decide +kernel), tyX10_ok, nmX10, rfl, rfl, by decide +kernel⟩
theorem nn_X10_68 : jNw RX10 68 1 1 [.null] := ⟨RX1, TX1, tyX1, rfl, wi_X1, tyX1_ok, tw_tb (List.mem_of_getElem? (i := 250) (by decide +kernel)) (by decide +kernel), tw_tb (List.mem_of_getElem? (i := 251) (by decide +kernel)) (by decide +kernel), tw_tb (List.mem_of_getElem? (i := 9) (by decide +kernel)) (by decide +kernel), by decide +kernel⟩
theorem mn_X10_70 : (RX10, 70, yX1_init, "LampsListen") ∈ jw_nl := List.mem_of_getElem? (i := 4) rfl
theorem ff_X10_71 : jFF RX10 71 10 11 (.object "LampsListen$Hearing") := ⟨RX10, TX10, 15, tyX10, rfl, (Nat.le_of_ble_eq_true rfl), wi_X10, tw_tb (List.mem_of_getElem? (i := 366) (by decide +kernel)) (by decide +kernel), tyX10_ok, nmX10, rfl, rfl, by decide +kernel⟩
theorem nn_X10_75 : jNw RX10 75 9 6 [.null, .null, .null, .null, .null, .null] := ⟨RX9, TX9, tyX9, rfl, wi_X9, tyX9_ok, tw_tb (List.mem_of_getElem? (i := 260) (by decide +kernel)) (by decide +kernel), tw_tb (List.mem_of_getElem? (i := 261) (by decide +kernel)) (by decide +kernel), tw_tb (List.mem_of_getElem? (i := 10) (by decide +kernel)) (by decide +kernel), by decide +kernel⟩
theorem mi_L_X10_77 : Cond.methodLink RX10 77 yX9_init ∈ tw := tw_tb (List.mem_of_getElem? (i := 262) (by decide +kernel)) (by decide +kernel)
theorem ff_X10_80 : jFF RX10 80 10 12 (.object "LampsListen$Whistles") := ⟨RX10, TX10, 15, tyX10, rfl, (Nat.le_of_ble_eq_true rfl), wi_X10, tw_tb (List.mem_of_getElem? (i := 367) (by decide +kernel)) (by decide +kernel), tyX10_ok, nmX10, rfl, rfl, by decide +kernel⟩
theorem nn_X10_84 : jNw RX10 84 8 8 [.null, .null, .null, .null, .null, .int 0, .int 0, .int 0] := ⟨RX8, TX8, tyX8, rfl, wi_X8, tyX8_ok, tw_tb (List.mem_of_getElem? (i := 287) (by decide +kernel)) (by decide +kernel), tw_tb (List.mem_of_getElem? (i := 288) (by decide +kernel)) (by decide +kernel), tw_tb (List.mem_of_getElem? (i := 11) (by decide +kernel)) (by decide +kernel), by decide +kernel⟩
theorem mi_L_X10_86 : Cond.methodLink RX10 86 yX8_init ∈ tw := tw_tb (List.mem_of_getElem? (i := 289) (by decide +kernel)) (by decide +kernel)
theorem ff_X10_87 : jFF RX10 87 10 13 (.object "LampsListen$Tour") := ⟨RX10, TX10, 15, tyX10, rfl, (Nat.le_of_ble_eq_true rfl), wi_X10, tw_tb (List.mem_of_getElem? (i := 368) (by decide +kernel)) (by decide +kernel), tyX10_ok, nmX10, rfl, rfl, by decide +kernel⟩
theorem nn_X10_91 : jNw RX10 91 0 3 [.null, .null, .null] := ⟨RX0, TX0, tyX0, rfl, wi_X0, tyX0_ok, tw_tb (List.mem_of_getElem? (i := 322) (by decide +kernel)) (by decide +kernel), tw_tb (List.mem_of_getElem? (i := 323) (by decide +kernel)) (by decide +kernel), tw_tb (List.mem_of_getElem? (i := 12) (by decide +kernel)) (by decide +kernel), by decide +kernel⟩
theorem mi_L_X10_93 : Cond.methodLink RX10 93 yX0_init ∈ tw := tw_tb (List.mem_of_getElem? (i := 324) (by decide +kernel)) (by decide +kernel)
theorem ff_X10_96 : jFF RX10 96 10 14 (.object "LampsListen$Filing") := ⟨RX10, TX10, 15, tyX10, rfl, (Nat.le_of_ble_eq_true rfl), wi_X10, tw_tb (List.mem_of_getElem? (i := 369) (by decide +kernel)) (by decide +kernel), tyX10_ok, nmX10, rfl, rfl, by decide +kernel⟩
theorem mi_X40 : jMI (Y_i4 0) 1 := ⟨⟨tw_tb (List.mem_of_getElem? (i := 31) (by decide +kernel)) (by decide +kernel), tw_tb (List.mem_of_getElem? (i := 2) (by decide +kernel)) (by decide +kernel), tw_tb (List.mem_of_getElem? (i := 32) (by decide +kernel)) (by decide +kernel)⟩, rfl, rfl, by decide +kernel, by decide +kernel, by decide +kernel⟩
theorem mi_X4 (n : Nat) : jMI (Y_i4 n) 1 := mi_X40
theorem C_i4 {l : Launch} {G : jG} (A : va_W) (h0 : Nat) (v : Int32) (n : Nat) (hv : (imax v 0).toNatClampNeg = n) (hz : ¬ imax v 0 < 0) (hb : n * componentBytes .int ≤ 536870912) : nC l G (Y_i4 n) [.ref h0, .int v] (A ++ [(h0, .inr (4, [.null, .int 0]))]) (fun ws' => ∃ q : Nat → Nat, ws' = A ++ nw_X4 G.2.1 h0 n q) 1 n := by
  refine nw_met pn_X4 rfl rfl (Nat.le_of_ble_eq_true rfl) ?_
  intro X hX hM hI
  have hX : nB X l G cX4_init RX4 2 { frames := 1, cells := 1, slots := n, locals := 24 } := hX
  show NJ X 0 [(0, .ref h0), (1, .int v)] [] (A ++ [(h0, .inr (4, [.null, .int 0]))]) 0 0
  refine N_aload_n hX dX4_init_0 rfl ?_
  refine N_obj hX wo_X4 wk_oi wk_oc (Nat.le_of_ble_eq_true rfl) (Nat.le_of_ble_eq_true rfl) dX4_init_1 ?_
  refine N_aload_n hX dX4_init_4 rfl ?_
  refine N_iload_n hX dX4_init_5 rfl ?_
  refine N_iconst hX dX4_init_6 k_i0 ?_
  refine N_mmax hX mm_X4_9 (Nat.le_of_ble_eq_true rfl) (Nat.le_of_ble_eq_true rfl) (Nat.zero_le _) (Nat.zero_le _) dX4_init_7 ?_
  refine N_newa hX wk_aI hz hv hb (Nat.le_of_ble_eq_true rfl) (by show 0 + n ≤ n; omega) dX4_init_10 (fun q10 => ?_)
  refine N_as ?_
  refine N_putF hX hI ff_X4_15 rfl rfl (Nat.le_of_ble_eq_true rfl) dX4_init_12 ?_
  exact N_vret hX hM ⟨fun _ => q10, rfl⟩ (Nat.le_of_ble_eq_true rfl) (by omega) dX4_init_15
def nw_X1 (cI cZ : ClassId) (h0 : Nat) (q : Nat → Nat) : va_W := (h0, .inr (1, [.ref (q 0)])) :: (([] ++ [(q 0, .inl (cI, 3200, .inl (fun _ => 0)))]))
def Y_i1 : jY := (yX1_init, cX1_init, 1, none, { frames := 1, cells := 1, slots := 3200, locals := 13 })
theorem mi_X1 : jMI Y_i1 0 := ⟨⟨tw_tb (List.mem_of_getElem? (i := 253) (by decide +kernel)) (by decide +kernel), tw_tb (List.mem_of_getElem? (i := 9) (by decide +kernel)) (by decide +kernel), tw_tb (List.mem_of_getElem? (i := 254) (by decide +kernel)) (by decide +kernel)⟩, rfl, rfl, by decide +kernel, by decide +kernel, by decide +kernel⟩
set_option maxHeartbeats 20000000 in
theorem C_i1 {l : Launch} {G : jG} (A : va_W) (h0 : Nat) : nC l G Y_i1 [.ref h0] (A ++ [(h0, .inr (1, [.null]))]) (fun ws' => ∃ q : Nat → Nat, ws' = A ++ nw_X1 G.2.1 G.2.2.1 h0 q) 1 3200 := by
  refine nw_met pn_X1 rfl rfl (Nat.le_of_ble_eq_true rfl) ?_
  intro X hX hM hI
  have hX : nB X l G cX1_init RX1 1 { frames := 1, cells := 1, slots := 3200, locals := 13 } := hX
  show NJ X 0 [(0, .ref h0)] [] (A ++ [(h0, .inr (1, [.null]))]) 0 0
  refine N_aload_n hX dX1_init_0 rfl ?_
  refine N_obj hX wo_X1 wk_oi wk_oc (Nat.le_of_ble_eq_true rfl) (Nat.le_of_ble_eq_true rfl) dX1_init_1 ?_
  refine N_aload_n hX dX1_init_4 rfl ?_
  refine N_sipush hX dX1_init_5 ks_3200 ?_
  refine N_newa hX wk_aI (nI_pos (n := 3200) (Nat.le_of_ble_eq_true rfl)) (n' := 3200) (nI_clamp (n := 3200) (Nat.le_of_ble_eq_true rfl)) (Nat.le_of_ble_eq_true rfl) (Nat.le_of_ble_eq_true rfl) (Nat.le_of_ble_eq_true rfl) dX1_init_8 (fun q8 => ?_)
  refine N_as ?_
  refine N_putF2 hX hI ff_X1_9 rfl rfl (Nat.le_of_ble_eq_true rfl) dX1_init_10 (fs' := [.ref q8]) rfl ?_
  exact N_vret hX hM ⟨fun k => [q8].getD k 0, rfl⟩ (Nat.le_of_ble_eq_true rfl) (Nat.le_of_ble_eq_true rfl) dX1_init_13
def nw_X2 (cI cZ : ClassId) (h0 a1 : Nat) (q : Nat → Nat) : va_W := (h0, .inr (2, [.ref a1, .ref (q 0), .ref (q 1), .ref (q 2), .ref (q 3), .int 0, .int 0, .int 0, .int 0, .int 0])) :: ((((([] ++ [(q 0, .inl (cI, 10, .inl (fun _ => 0)))]) ++ [(q 1, .inl (cI, 10, .inl (fun _ => 0)))]) ++ [(q 2, .inl (cI, 10, .inl (fun _ => 0)))]) ++ [(q 3, .inl (cI, 10, .inl (fun _ => 0)))]))
def Y_i2 : jY := (yX2_init, cX2_init, 2, none, { frames := 1, cells := 4, slots := 40, locals := 13 })
theorem mi_X2 : jMI Y_i2 1 := ⟨⟨tw_tb (List.mem_of_getElem? (i := 204) (by decide +kernel)) (by decide +kernel), tw_tb (List.mem_of_getElem? (i := 8) (by decide +kernel)) (by decide +kernel), tw_tb (List.mem_of_getElem? (i := 205) (by decide +kernel)) (by decide +kernel)⟩, rfl, rfl, by decide +kernel, by decide +kernel, by decide +kernel⟩
set_option maxHeartbeats 20000000 in
theorem C_i2 {l : Launch} {G : jG} (A : va_W) (h0 a1 : Nat) : nC l G Y_i2 [.ref h0, .ref a1] (A ++ [(h0, .inr (2, [.null, .null, .null, .null, .null, .int 0, .int 0, .int 0, .int 0, .int 0]))]) (fun ws' => ∃ q : Nat → Nat, ws' = A ++ nw_X2 G.2.1 G.2.2.1 h0 a1 q) 4 40 := by
  refine nw_met pn_X2 rfl rfl (Nat.le_of_ble_eq_true rfl) ?_
  intro X hX hM hI
  have hX : nB X l G cX2_init RX2 2 { frames := 1, cells := 4, slots := 40, locals := 13 } := hX
  show NJ X 0 [(0, .ref h0), (1, .ref a1)] [] (A ++ [(h0, .inr (2, [.null, .null, .null, .null, .null, .int 0, .int 0, .int 0, .int 0, .int 0]))]) 0 0
  refine N_aload_n hX dX2_init_0 rfl ?_
  refine N_obj hX wo_X2 wk_oi wk_oc (Nat.le_of_ble_eq_true rfl) (Nat.le_of_ble_eq_true rfl) dX2_init_1 ?_
  refine N_aload_n hX dX2_init_4 rfl ?_
  refine N_bipush hX dX2_init_5 kb_10 ?_
  refine N_newa hX wk_aI (nI_pos (n := 10) (Nat.le_of_ble_eq_true rfl)) (n' := 10) (nI_clamp (n := 10) (Nat.le_of_ble_eq_true rfl)) (Nat.le_of_ble_eq_true rfl) (Nat.le_of_ble_eq_true rfl) (Nat.le_of_ble_eq_true rfl) dX2_init_7 (fun q7 => ?_)
  refine N_as ?_
  refine N_putF2 hX hI ff_X2_9 rfl rfl (Nat.le_of_ble_eq_true rfl) dX2_init_9 (fs' := [.null, .ref q7, .null, .null, .null, .int 0, .int 0, .int 0, .int 0, .int 0]) rfl ?_
  refine N_aload_n hX dX2_init_12 rfl ?_
  refine N_bipush hX dX2_init_13 kb_10 ?_
  refine N_newa hX wk_aI (nI_pos (n := 10) (Nat.le_of_ble_eq_true rfl)) (n' := 10) (nI_clamp (n := 10) (Nat.le_of_ble_eq_true rfl)) (Nat.le_of_ble_eq_true rfl) (Nat.le_of_ble_eq_true rfl) (Nat.le_of_ble_eq_true rfl) dX2_init_15 (fun q15 => ?_)
  refine N_as ?_
  refine N_putF2 hX hI ff_X2_15 rfl rfl (Nat.le_of_ble_eq_true rfl) dX2_init_17 (fs' := [.null, .ref q7, .ref q15, .null, .null, .int 0, .int 0, .int 0, .int 0, .int 0]) rfl ?_
  refine N_aload_n hX dX2_init_20 rfl ?_
  refine N_bipush hX dX2_init_21 kb_10 ?_
  refine N_newa hX wk_aI (nI_pos (n := 10) (Nat.le_of_ble_eq_true rfl)) (n' := 10) (nI_clamp (n := 10) (Nat.le_of_ble_eq_true rfl)) (Nat.le_of_ble_eq_true rfl) (Nat.le_of_ble_eq_true rfl) (Nat.le_of_ble_eq_true rfl) dX2_init_23 (fun q23 => ?_)
  refine N_as ?_
  refine N_putF2 hX hI ff_X2_18 rfl rfl (Nat.le_of_ble_eq_true rfl) dX2_init_25 (fs' := [.null, .ref q7, .ref q15, .ref q23, .null, .int 0, .int 0, .int 0, .int 0, .int 0]) rfl ?_
  refine N_aload_n hX dX2_init_28 rfl ?_
  refine N_bipush hX dX2_init_29 kb_10 ?_
  refine N_newa hX wk_aI (nI_pos (n := 10) (Nat.le_of_ble_eq_true rfl)) (n' := 10) (nI_clamp (n := 10) (Nat.le_of_ble_eq_true rfl)) (Nat.le_of_ble_eq_true rfl) (Nat.le_of_ble_eq_true rfl) (Nat.le_of_ble_eq_true rfl) dX2_init_31 (fun q31 => ?_)
  refine N_as ?_
  refine N_putF2 hX hI ff_X2_21 rfl rfl (Nat.le_of_ble_eq_true rfl) dX2_init_33 (fs' := [.null, .ref q7, .ref q15, .ref q23, .ref q31, .int 0, .int 0, .int 0, .int 0, .int 0]) rfl ?_
  refine N_aload_n hX dX2_init_36 rfl ?_
  refine N_aload_n hX dX2_init_37 rfl ?_
  refine N_putF2 hX hI ff_X2_24 rfl rfl (Nat.le_of_ble_eq_true rfl) dX2_init_38 (fs' := [.ref a1, .ref q7, .ref q15, .ref q23, .ref q31, .int 0, .int 0, .int 0, .int 0, .int 0]) rfl ?_
  exact N_vret hX hM ⟨fun k => [q7, q15, q23, q31].getD k 0, rfl⟩ (Nat.le_of_ble_eq_true rfl) (Nat.le_of_ble_eq_true rfl) dX2_init_41
def nw_X3 (cI cZ : ClassId) (h0 a1 : Nat) (q : Nat → Nat) : va_W := (h0, .inr (3, [.ref a1, .int 0, .int 0, .int 0, .int 0, .int (-1)])) :: ([])
def Y_i3 : jY := (yX3_init, cX3_init, 2, none, { frames := 1, cells := 0, slots := 0, locals := 13 })
theorem mi_X3 : jMI Y_i3 1 := ⟨⟨tw_tb (List.mem_of_getElem? (i := 157) (by decide +kernel)) (by decide +kernel), tw_tb (List.mem_of_getElem? (i := 7) (by decide +kernel)) (by decide +kernel), tw_tb (List.mem_of_getElem? (i := 158) (by decide +kernel)) (by decide +kernel)⟩, rfl, rfl, by decide +kernel, by decide +kernel, by decide +kernel⟩
set_option maxHeartbeats 20000000 in
theorem C_i3 {l : Launch} {G : jG} (A : va_W) (h0 a1 : Nat) : nC l G Y_i3 [.ref h0, .ref a1] (A ++ [(h0, .inr (3, [.null, .int 0, .int 0, .int 0, .int 0, .int 0]))]) (fun ws' => ∃ q : Nat → Nat, ws' = A ++ nw_X3 G.2.1 G.2.2.1 h0 a1 q) 0 0 := by
  refine nw_met pn_X3 rfl rfl (Nat.le_of_ble_eq_true rfl) ?_
  intro X hX hM hI
  have hX : nB X l G cX3_init RX3 2 { frames := 1, cells := 0, slots := 0, locals := 13 } := hX
  show NJ X 0 [(0, .ref h0), (1, .ref a1)] [] (A ++ [(h0, .inr (3, [.null, .int 0, .int 0, .int 0, .int 0, .int 0]))]) 0 0
  refine N_aload_n hX dX3_init_0 rfl ?_
  refine N_obj hX wo_X3 wk_oi wk_oc (Nat.le_of_ble_eq_true rfl) (Nat.le_of_ble_eq_true rfl) dX3_init_1 ?_
  refine N_aload_n hX dX3_init_4 rfl ?_
  refine N_iconst hX dX3_init_5 k_im1 ?_
  refine N_put2 hX fp_X3_9 (by decide +kernel) (by decide +kernel) (Nat.le_of_ble_eq_true rfl) dX3_init_6 (fs' := [.null, .int 0, .int 0, .int 0, .int 0, .int (-1)]) rfl ?_
  refine N_aload_n hX dX3_init_9 rfl ?_
  refine N_aload_n hX dX3_init_10 rfl ?_
  refine N_putF2 hX hI ff_X3_15 rfl rfl (Nat.le_of_ble_eq_true rfl) dX3_init_11 (fs' := [.ref a1, .int 0, .int 0, .int 0, .int 0, .int (-1)]) rfl ?_
  exact N_vret hX hM ⟨fun k => [].getD k 0, rfl⟩ (Nat.le_of_ble_eq_true rfl) (Nat.le_of_ble_eq_true rfl) dX3_init_14
def nw_X0 (cI cZ : ClassId) (h0 a1 : Nat) (q : Nat → Nat) : va_W := (h0, .inr (0, [.ref a1, .ref (q 0), .ref (q 1)])) :: ((([] ++ [(q 0, .inl (cI, 10, .inl (fun _ => 0)))]) ++ [(q 1, .inl (cI, 1024, .inl (fun _ => 0)))]))
def Y_i0 : jY := (yX0_init, cX0_init, 2, none, { frames := 1, cells := 2, slots := 1034, locals := 13 })
theorem mi_X0 : jMI Y_i0 1 := ⟨⟨tw_tb (List.mem_of_getElem? (i := 325) (by decide +kernel)) (by decide +kernel), tw_tb (List.mem_of_getElem? (i := 12) (by decide +kernel)) (by decide +kernel), tw_tb (List.mem_of_getElem? (i := 326) (by decide +kernel)) (by decide +kernel)⟩, rfl, rfl, by decide +kernel, by decide +kernel, by decide +kernel⟩
set_option maxHeartbeats 20000000 in
theorem C_i0 {l : Launch} {G : jG} (A : va_W) (h0 a1 : Nat) : nC l G Y_i0 [.ref h0, .ref a1] (A ++ [(h0, .inr (0, [.null, .null, .null]))]) (fun ws' => ∃ q : Nat → Nat, ws' = A ++ nw_X0 G.2.1 G.2.2.1 h0 a1 q) 2 1034 := by
  refine nw_met pn_X0 rfl rfl (Nat.le_of_ble_eq_true rfl) ?_
  intro X hX hM hI
  have hX : nB X l G cX0_init RX0 2 { frames := 1, cells := 2, slots := 1034, locals := 13 } := hX
  show NJ X 0 [(0, .ref h0), (1, .ref a1)] [] (A ++ [(h0, .inr (0, [.null, .null, .null]))]) 0 0
  refine N_aload_n hX dX0_init_0 rfl ?_
  refine N_obj hX wo_X0 wk_oi wk_oc (Nat.le_of_ble_eq_true rfl) (Nat.le_of_ble_eq_true rfl) dX0_init_1 ?_
  refine N_aload_n hX dX0_init_4 rfl ?_
  refine N_bipush hX dX0_init_5 kb_10 ?_
  refine N_newa hX wk_aI (nI_pos (n := 10) (Nat.le_of_ble_eq_true rfl)) (n' := 10) (nI_clamp (n := 10) (Nat.le_of_ble_eq_true rfl)) (Nat.le_of_ble_eq_true rfl) (Nat.le_of_ble_eq_true rfl) (Nat.le_of_ble_eq_true rfl) dX0_init_7 (fun q7 => ?_)
  refine N_as ?_
  refine N_putF2 hX hI ff_X0_9 rfl rfl (Nat.le_of_ble_eq_true rfl) dX0_init_9 (fs' := [.null, .ref q7, .null]) rfl ?_
  refine N_aload_n hX dX0_init_12 rfl ?_
  refine N_sipush hX dX0_init_13 ks_1024 ?_
  refine N_newa hX wk_aI (nI_pos (n := 1024) (Nat.le_of_ble_eq_true rfl)) (n' := 1024) (nI_clamp (n := 1024) (Nat.le_of_ble_eq_true rfl)) (Nat.le_of_ble_eq_true rfl) (Nat.le_of_ble_eq_true rfl) (Nat.le_of_ble_eq_true rfl) dX0_init_16 (fun q16 => ?_)
  refine N_as ?_
  refine N_putF2 hX hI ff_X0_15 rfl rfl (Nat.le_of_ble_eq_true rfl) dX0_init_18 (fs' := [.null, .ref q7, .ref q16]) rfl ?_
  refine N_aload_n hX dX0_init_21 rfl ?_
  refine N_aload_n hX dX0_init_22 rfl ?_
  refine N_putF2 hX hI ff_X0_18 rfl rfl (Nat.le_of_ble_eq_true rfl) dX0_init_23 (fs' := [.ref a1, .ref q7, .ref q16]) rfl ?_
  exact N_vret hX hM ⟨fun k => [q7, q16].getD k 0, rfl⟩ (Nat.le_of_ble_eq_true rfl) (Nat.le_of_ble_eq_true rfl) dX0_init_26
def nw_X6 (cI cZ : ClassId) (h0 : Nat) (q : Nat → Nat) : va_W := (h0, .inr (6, [.ref (q 0), .ref (q 2), .ref (q 4), .ref (q 6), .ref (q 8), .ref (q 10), .ref (q 12), .ref (q 14), .int 0, .int 0, .int 0])) :: ((((((((([] ++ nw_X4 cI (q 0) 10 (fun k => q (1 + k))) ++ nw_X4 cI (q 2) 10 (fun k => q (3 + k))) ++ nw_X4 cI (q 4) 10 (fun k => q (5 + k))) ++ nw_X4 cI (q 6) 10 (fun k => q (7 + k))) ++ nw_X4 cI (q 8) 8 (fun k => q (9 + k))) ++ nw_X4 cI (q 10) 8 (fun k => q (11 + k))) ++ nw_X4 cI (q 12) 8 (fun k => q (13 + k))) ++ nw_X4 cI (q 14) 8 (fun k => q (15 + k))))
def Y_i6 : jY := (yX6_init, cX6_init, 1, none, { frames := 2, cells := 16, slots := 88, locals := 45 })
theorem mi_X6 : jMI Y_i6 0 := ⟨⟨tw_tb (List.mem_of_getElem? (i := 54) (by decide +kernel)) (by decide +kernel), tw_tb (List.mem_of_getElem? (i := 5) (by decide +kernel)) (by decide +kernel), tw_tb (List.mem_of_getElem? (i := 55) (by decide +kernel)) (by decide +kernel)⟩, rfl, rfl, by decide +kernel, by decide +kernel, by decide +kernel⟩
set_option maxHeartbeats 20000000 in
theorem C_i6 {l : Launch} {G : jG} (A : va_W) (h0 : Nat) : nC l G Y_i6 [.ref h0] (A ++ [(h0, .inr (6, [.null, .null, .null, .null, .null, .null, .null, .null, .int 0, .int 0, .int 0]))]) (fun ws' => ∃ q : Nat → Nat, ws' = A ++ nw_X6 G.2.1 G.2.2.1 h0 q) 16 88 := by
  refine nw_met pn_X6 rfl rfl (Nat.le_of_ble_eq_true rfl) ?_
  intro X hX hM hI
  have hX : nB X l G cX6_init RX6 1 { frames := 2, cells := 16, slots := 88, locals := 45 } := hX
  show NJ X 0 [(0, .ref h0)] [] (A ++ [(h0, .inr (6, [.null, .null, .null, .null, .null, .null, .null, .null, .int 0, .int 0, .int 0]))]) 0 0
  refine N_aload_n hX dX6_init_0 rfl ?_
  refine N_obj hX wo_X6 wk_oi wk_oc (Nat.le_of_ble_eq_true rfl) (Nat.le_of_ble_eq_true rfl) dX6_init_1 ?_
  refine N_aload_n hX dX6_init_4 rfl ?_
  refine N_new hX nn_X6_9 (Nat.le_of_ble_eq_true rfl) (Nat.le_of_ble_eq_true rfl) dX6_init_5 (fun q5 => ?_)
  refine N_dup hX dX6_init_8 rfl ?_
  refine N_bipush hX dX6_init_9 kb_10 ?_
  refine N_callI hX (C_i4 _ _ 10 10 (by decide +kernel) (by decide) (Nat.le_of_ble_eq_true rfl)) (mi_X4 10) mi_L_X6_11 rfl rfl ⟨(Nat.le_of_ble_eq_true rfl), (Nat.le_of_ble_eq_true rfl)⟩ rfl rfl (Nat.le_of_ble_eq_true rfl) (Nat.le_of_ble_eq_true rfl) (Nat.le_of_ble_eq_true rfl) dX6_init_11 (fun ws' hp => ?_)
  obtain ⟨w11, rfl⟩ := hp
  refine N_as ?_
  refine N_putF2 hX hI ff_X6_14 rfl rfl (Nat.le_of_ble_eq_true rfl) dX6_init_14 (fs' := [.ref q5, .null, .null, .null, .null, .null, .null, .null, .int 0, .int 0, .int 0]) rfl ?_
  refine N_aload_n hX dX6_init_17 rfl ?_
  refine N_new hX nn_X6_9 (Nat.le_of_ble_eq_true rfl) (Nat.le_of_ble_eq_true rfl) dX6_init_18 (fun q18 => ?_)
  refine N_dup hX dX6_init_21 rfl ?_
  refine N_bipush hX dX6_init_22 kb_10 ?_
  refine N_callI hX (C_i4 _ _ 10 10 (by decide +kernel) (by decide) (Nat.le_of_ble_eq_true rfl)) (mi_X4 10) mi_L_X6_11 rfl rfl ⟨(Nat.le_of_ble_eq_true rfl), (Nat.le_of_ble_eq_true rfl)⟩ rfl rfl (Nat.le_of_ble_eq_true rfl) (Nat.le_of_ble_eq_true rfl) (Nat.le_of_ble_eq_true rfl) dX6_init_24 (fun ws' hp => ?_)
  obtain ⟨w24, rfl⟩ := hp
  refine N_as ?_
  refine N_putF2 hX hI ff_X6_20 rfl rfl (Nat.le_of_ble_eq_true rfl) dX6_init_27 (fs' := [.ref q5, .ref q18, .null, .null, .null, .null, .null, .null, .int 0, .int 0, .int 0]) rfl ?_
  refine N_aload_n hX dX6_init_30 rfl ?_
  refine N_new hX nn_X6_9 (Nat.le_of_ble_eq_true rfl) (Nat.le_of_ble_eq_true rfl) dX6_init_31 (fun q31 => ?_)
  refine N_dup hX dX6_init_34 rfl ?_
  refine N_bipush hX dX6_init_35 kb_10 ?_
  refine N_callI hX (C_i4 _ _ 10 10 (by decide +kernel) (by decide) (Nat.le_of_ble_eq_true rfl)) (mi_X4 10) mi_L_X6_11 rfl rfl ⟨(Nat.le_of_ble_eq_true rfl), (Nat.le_of_ble_eq_true rfl)⟩ rfl rfl (Nat.le_of_ble_eq_true rfl) (Nat.le_of_ble_eq_true rfl) (Nat.le_of_ble_eq_true rfl) dX6_init_37 (fun ws' hp => ?_)
  obtain ⟨w37, rfl⟩ := hp
  refine N_as ?_
  refine N_putF2 hX hI ff_X6_23 rfl rfl (Nat.le_of_ble_eq_true rfl) dX6_init_40 (fs' := [.ref q5, .ref q18, .ref q31, .null, .null, .null, .null, .null, .int 0, .int 0, .int 0]) rfl ?_
  refine N_aload_n hX dX6_init_43 rfl ?_
  refine N_new hX nn_X6_9 (Nat.le_of_ble_eq_true rfl) (Nat.le_of_ble_eq_true rfl) dX6_init_44 (fun q44 => ?_)
  refine N_dup hX dX6_init_47 rfl ?_
  refine N_bipush hX dX6_init_48 kb_10 ?_
  refine N_callI hX (C_i4 _ _ 10 10 (by decide +kernel) (by decide) (Nat.le_of_ble_eq_true rfl)) (mi_X4 10) mi_L_X6_11 rfl rfl ⟨(Nat.le_of_ble_eq_true rfl), (Nat.le_of_ble_eq_true rfl)⟩ rfl rfl (Nat.le_of_ble_eq_true rfl) (Nat.le_of_ble_eq_true rfl) (Nat.le_of_ble_eq_true rfl) dX6_init_50 (fun ws' hp => ?_)
  obtain ⟨w50, rfl⟩ := hp
  refine N_as ?_
  refine N_putF2 hX hI ff_X6_26 rfl rfl (Nat.le_of_ble_eq_true rfl) dX6_init_53 (fs' := [.ref q5, .ref q18, .ref q31, .ref q44, .null, .null, .null, .null, .int 0, .int 0, .int 0]) rfl ?_
  refine N_aload_n hX dX6_init_56 rfl ?_
  refine N_new hX nn_X6_9 (Nat.le_of_ble_eq_true rfl) (Nat.le_of_ble_eq_true rfl) dX6_init_57 (fun q57 => ?_)
  refine N_dup hX dX6_init_60 rfl ?_
  refine N_bipush hX dX6_init_61 kb_8 ?_
  refine N_callI hX (C_i4 _ _ 8 8 (by decide +kernel) (by decide) (Nat.le_of_ble_eq_true rfl)) (mi_X4 8) mi_L_X6_11 rfl rfl ⟨(Nat.le_of_ble_eq_true rfl), (Nat.le_of_ble_eq_true rfl)⟩ rfl rfl (Nat.le_of_ble_eq_true rfl) (Nat.le_of_ble_eq_true rfl) (Nat.le_of_ble_eq_true rfl) dX6_init_63 (fun ws' hp => ?_)
  obtain ⟨w63, rfl⟩ := hp
  refine N_as ?_
  refine N_putF2 hX hI ff_X6_29 rfl rfl (Nat.le_of_ble_eq_true rfl) dX6_init_66 (fs' := [.ref q5, .ref q18, .ref q31, .ref q44, .ref q57, .null, .null, .null, .int 0, .int 0, .int 0]) rfl ?_
  refine N_aload_n hX dX6_init_69 rfl ?_
  refine N_new hX nn_X6_9 (Nat.le_of_ble_eq_true rfl) (Nat.le_of_ble_eq_true rfl) dX6_init_70 (fun q70 => ?_)
  refine N_dup hX dX6_init_73 rfl ?_
  refine N_bipush hX dX6_init_74 kb_8 ?_
  refine N_callI hX (C_i4 _ _ 8 8 (by decide +kernel) (by decide) (Nat.le_of_ble_eq_true rfl)) (mi_X4 8) mi_L_X6_11 rfl rfl ⟨(Nat.le_of_ble_eq_true rfl), (Nat.le_of_ble_eq_true rfl)⟩ rfl rfl (Nat.le_of_ble_eq_true rfl) (Nat.le_of_ble_eq_true rfl) (Nat.le_of_ble_eq_true rfl) dX6_init_76 (fun ws' hp => ?_)
  obtain ⟨w76, rfl⟩ := hp
  refine N_as ?_
  refine N_putF2 hX hI ff_X6_32 rfl rfl (Nat.le_of_ble_eq_true rfl) dX6_init_79 (fs' := [.ref q5, .ref q18, .ref q31, .ref q44, .ref q57, .ref q70, .null, .null, .int 0, .int 0, .int 0]) rfl ?_
  refine N_aload_n hX dX6_init_82 rfl ?_
  refine N_new hX nn_X6_9 (Nat.le_of_ble_eq_true rfl) (Nat.le_of_ble_eq_true rfl) dX6_init_83 (fun q83 => ?_)
  refine N_dup hX dX6_init_86 rfl ?_
  refine N_bipush hX dX6_init_87 kb_8 ?_
  refine N_callI hX (C_i4 _ _ 8 8 (by decide +kernel) (by decide) (Nat.le_of_ble_eq_true rfl)) (mi_X4 8) mi_L_X6_11 rfl rfl ⟨(Nat.le_of_ble_eq_true rfl), (Nat.le_of_ble_eq_true rfl)⟩ rfl rfl (Nat.le_of_ble_eq_true rfl) (Nat.le_of_ble_eq_true rfl) (Nat.le_of_ble_eq_true rfl) dX6_init_89 (fun ws' hp => ?_)
  obtain ⟨w89, rfl⟩ := hp
  refine N_as ?_
  refine N_putF2 hX hI ff_X6_35 rfl rfl (Nat.le_of_ble_eq_true rfl) dX6_init_92 (fs' := [.ref q5, .ref q18, .ref q31, .ref q44, .ref q57, .ref q70, .ref q83, .null, .int 0, .int 0, .int 0]) rfl ?_
  refine N_aload_n hX dX6_init_95 rfl ?_
  refine N_new hX nn_X6_9 (Nat.le_of_ble_eq_true rfl) (Nat.le_of_ble_eq_true rfl) dX6_init_96 (fun q96 => ?_)
  refine N_dup hX dX6_init_99 rfl ?_
  refine N_bipush hX dX6_init_100 kb_8 ?_
  refine N_callI hX (C_i4 _ _ 8 8 (by decide +kernel) (by decide) (Nat.le_of_ble_eq_true rfl)) (mi_X4 8) mi_L_X6_11 rfl rfl ⟨(Nat.le_of_ble_eq_true rfl), (Nat.le_of_ble_eq_true rfl)⟩ rfl rfl (Nat.le_of_ble_eq_true rfl) (Nat.le_of_ble_eq_true rfl) (Nat.le_of_ble_eq_true rfl) dX6_init_102 (fun ws' hp => ?_)
  obtain ⟨w102, rfl⟩ := hp
  refine N_as ?_
  refine N_putF2 hX hI ff_X6_38 rfl rfl (Nat.le_of_ble_eq_true rfl) dX6_init_105 (fs' := [.ref q5, .ref q18, .ref q31, .ref q44, .ref q57, .ref q70, .ref q83, .ref q96, .int 0, .int 0, .int 0]) rfl ?_
  exact N_vret hX hM ⟨fun k => [q5, w11 0, q18, w24 0, q31, w37 0, q44, w50 0, q57, w63 0, q70, w76 0, q83, w89 0, q96, w102 0].getD k 0, rfl⟩ (Nat.le_of_ble_eq_true rfl) (Nat.le_of_ble_eq_true rfl) dX6_init_108
def nw_X7 (cI cZ : ClassId) (h0 : Nat) (q : Nat → Nat) : va_W := (h0, .inr (7, [.ref (q 0), .ref (q 2), .ref (q 4)])) :: (((([] ++ nw_X4 cI (q 0) 30 (fun k => q (1 + k))) ++ nw_X4 cI (q 2) 30 (fun k => q (3 + k))) ++ nw_X4 cI (q 4) 30 (fun k => q (5 + k))))
def Y_i7 : jY := (yX7_init, cX7_init, 1, none, { frames := 2, cells := 6, slots := 96, locals := 45 })
theorem mi_X7 : jMI Y_i7 0 := ⟨⟨tw_tb (List.mem_of_getElem? (i := 133) (by decide +kernel)) (by decide +kernel), tw_tb (List.mem_of_getElem? (i := 6) (by decide +kernel)) (by decide +kernel), tw_tb (List.mem_of_getElem? (i := 134) (by decide +kernel)) (by decide +kernel)⟩, rfl, rfl, by decide +kernel, by decide +kernel, by decide +kernel⟩
set_option maxHeartbeats 20000000 in
theorem C_i7 {l : Launch} {G : jG} (A : va_W) (h0 : Nat) : nC l G Y_i7 [.ref h0] (A ++ [(h0, .inr (7, [.null, .null, .null]))]) (fun ws' => ∃ q : Nat → Nat, ws' = A ++ nw_X7 G.2.1 G.2.2.1 h0 q) 6 96 := by
  refine nw_met pn_X7 rfl rfl (Nat.le_of_ble_eq_true rfl) ?_
  intro X hX hM hI
  have hX : nB X l G cX7_init RX7 1 { frames := 2, cells := 6, slots := 96, locals := 45 } := hX
  show NJ X 0 [(0, .ref h0)] [] (A ++ [(h0, .inr (7, [.null, .null, .null]))]) 0 0
  refine N_aload_n hX dX7_init_0 rfl ?_
  refine N_obj hX wo_X7 wk_oi wk_oc (Nat.le_of_ble_eq_true rfl) (Nat.le_of_ble_eq_true rfl) dX7_init_1 ?_
  refine N_aload_n hX dX7_init_4 rfl ?_
  refine N_new hX nn_X7_9 (Nat.le_of_ble_eq_true rfl) (Nat.le_of_ble_eq_true rfl) dX7_init_5 (fun q5 => ?_)
  refine N_dup hX dX7_init_8 rfl ?_
  refine N_bipush hX dX7_init_9 kb_30 ?_
  refine N_callI hX (C_i4 _ _ 30 30 (by decide +kernel) (by decide) (Nat.le_of_ble_eq_true rfl)) (mi_X4 30) mi_L_X7_11 rfl rfl ⟨(Nat.le_of_ble_eq_true rfl), (Nat.le_of_ble_eq_true rfl)⟩ rfl rfl (Nat.le_of_ble_eq_true rfl) (Nat.le_of_ble_eq_true rfl) (Nat.le_of_ble_eq_true rfl) dX7_init_11 (fun ws' hp => ?_)
  obtain ⟨w11, rfl⟩ := hp
  refine N_as ?_
  refine N_putF2 hX hI ff_X7_14 rfl rfl (Nat.le_of_ble_eq_true rfl) dX7_init_14 (fs' := [.ref q5, .null, .null]) rfl ?_
  refine N_aload_n hX dX7_init_17 rfl ?_
  refine N_new hX nn_X7_9 (Nat.le_of_ble_eq_true rfl) (Nat.le_of_ble_eq_true rfl) dX7_init_18 (fun q18 => ?_)
  refine N_dup hX dX7_init_21 rfl ?_
  refine N_bipush hX dX7_init_22 kb_30 ?_
  refine N_callI hX (C_i4 _ _ 30 30 (by decide +kernel) (by decide) (Nat.le_of_ble_eq_true rfl)) (mi_X4 30) mi_L_X7_11 rfl rfl ⟨(Nat.le_of_ble_eq_true rfl), (Nat.le_of_ble_eq_true rfl)⟩ rfl rfl (Nat.le_of_ble_eq_true rfl) (Nat.le_of_ble_eq_true rfl) (Nat.le_of_ble_eq_true rfl) dX7_init_24 (fun ws' hp => ?_)
  obtain ⟨w24, rfl⟩ := hp
  refine N_as ?_
  refine N_putF2 hX hI ff_X7_20 rfl rfl (Nat.le_of_ble_eq_true rfl) dX7_init_27 (fs' := [.ref q5, .ref q18, .null]) rfl ?_
  refine N_aload_n hX dX7_init_30 rfl ?_
  refine N_new hX nn_X7_9 (Nat.le_of_ble_eq_true rfl) (Nat.le_of_ble_eq_true rfl) dX7_init_31 (fun q31 => ?_)
  refine N_dup hX dX7_init_34 rfl ?_
  refine N_bipush hX dX7_init_35 kb_30 ?_
  refine N_callI hX (C_i4 _ _ 30 30 (by decide +kernel) (by decide) (Nat.le_of_ble_eq_true rfl)) (mi_X4 30) mi_L_X7_11 rfl rfl ⟨(Nat.le_of_ble_eq_true rfl), (Nat.le_of_ble_eq_true rfl)⟩ rfl rfl (Nat.le_of_ble_eq_true rfl) (Nat.le_of_ble_eq_true rfl) (Nat.le_of_ble_eq_true rfl) dX7_init_37 (fun ws' hp => ?_)
  obtain ⟨w37, rfl⟩ := hp
  refine N_as ?_
  refine N_putF2 hX hI ff_X7_23 rfl rfl (Nat.le_of_ble_eq_true rfl) dX7_init_40 (fs' := [.ref q5, .ref q18, .ref q31]) rfl ?_
  exact N_vret hX hM ⟨fun k => [q5, w11 0, q18, w24 0, q31, w37 0].getD k 0, rfl⟩ (Nat.le_of_ble_eq_true rfl) (Nat.le_of_ble_eq_true rfl) dX7_init_43
def nw_X5 (cI cZ : ClassId) (h0 a1 : Nat) (q : Nat → Nat) : va_W := (h0, .inr (5, [.ref a1, .ref (q 26), .ref (q 0), .ref (q 17), .ref (q 24)])) :: ((((([] ++ nw_X6 cI cZ (q 0) (fun k => q (1 + k))) ++ nw_X7 cI cZ (q 17) (fun k => q (18 + k))) ++ nw_X4 cI (q 24) 30 (fun k => q (25 + k))) ++ nw_X3 cI cZ (q 26) a1 (fun k => q (27 + k))))
def Y_i5 : jY := (yX5_init, cX5_init, 2, none, { frames := 3, cells := 27, slots := 236, locals := 65 })
theorem mi_X5 : jMI Y_i5 1 := ⟨⟨tw_tb (List.mem_of_getElem? (i := 48) (by decide +kernel)) (by decide +kernel), tw_tb (List.mem_of_getElem? (i := 4) (by decide +kernel)) (by decide +kernel), tw_tb (List.mem_of_getElem? (i := 49) (by decide +kernel)) (by decide +kernel)⟩, rfl, rfl, by decide +kernel, by decide +kernel, by decide +kernel⟩
set_option maxHeartbeats 20000000 in
theorem C_i5 {l : Launch} {G : jG} (A : va_W) (h0 a1 : Nat) : nC l G Y_i5 [.ref h0, .ref a1] (A ++ [(h0, .inr (5, [.null, .null, .null, .null, .null]))]) (fun ws' => ∃ q : Nat → Nat, ws' = A ++ nw_X5 G.2.1 G.2.2.1 h0 a1 q) 27 236 := by
  refine nw_met pn_X5 rfl rfl (Nat.le_of_ble_eq_true rfl) ?_
  intro X hX hM hI
  have hX : nB X l G cX5_init RX5 2 { frames := 3, cells := 27, slots := 236, locals := 65 } := hX
  show NJ X 0 [(0, .ref h0), (1, .ref a1)] [] (A ++ [(h0, .inr (5, [.null, .null, .null, .null, .null]))]) 0 0
  refine N_aload_n hX dX5_init_0 rfl ?_
  refine N_obj hX wo_X5 wk_oi wk_oc (Nat.le_of_ble_eq_true rfl) (Nat.le_of_ble_eq_true rfl) dX5_init_1 ?_
  refine N_aload_n hX dX5_init_4 rfl ?_
  refine N_new hX nn_X5_9 (Nat.le_of_ble_eq_true rfl) (Nat.le_of_ble_eq_true rfl) dX5_init_5 (fun q5 => ?_)
  refine N_dup hX dX5_init_8 rfl ?_
  refine N_callIN (host := "LampsListen") hX (C_i6 _ _) mi_X6 mn_X5_11 rfl rfl ⟨(Nat.le_of_ble_eq_true rfl), (Nat.le_of_ble_eq_true rfl)⟩ rfl rfl (Nat.le_of_ble_eq_true rfl) (Nat.le_of_ble_eq_true rfl) (Nat.le_of_ble_eq_true rfl) dX5_init_9 (fun ws' hp => ?_)
  obtain ⟨w9, rfl⟩ := hp
  refine N_as ?_
  refine N_putF2 hX hI ff_X5_12 rfl rfl (Nat.le_of_ble_eq_true rfl) dX5_init_12 (fs' := [.null, .null, .ref q5, .null, .null]) rfl ?_
  refine N_aload_n hX dX5_init_15 rfl ?_
  refine N_new hX nn_X5_18 (Nat.le_of_ble_eq_true rfl) (Nat.le_of_ble_eq_true rfl) dX5_init_16 (fun q16 => ?_)
  refine N_dup hX dX5_init_19 rfl ?_
  refine N_callIN (host := "LampsListen") hX (C_i7 _ _) mi_X7 mn_X5_20 rfl rfl ⟨(Nat.le_of_ble_eq_true rfl), (Nat.le_of_ble_eq_true rfl)⟩ rfl rfl (Nat.le_of_ble_eq_true rfl) (Nat.le_of_ble_eq_true rfl) (Nat.le_of_ble_eq_true rfl) dX5_init_20 (fun ws' hp => ?_)
  obtain ⟨w20, rfl⟩ := hp
  refine N_as ?_
  refine N_putF2 hX hI ff_X5_21 rfl rfl (Nat.le_of_ble_eq_true rfl) dX5_init_23 (fs' := [.null, .null, .ref q5, .ref q16, .null]) rfl ?_
  refine N_aload_n hX dX5_init_26 rfl ?_
  refine N_new hX nn_X5_25 (Nat.le_of_ble_eq_true rfl) (Nat.le_of_ble_eq_true rfl) dX5_init_27 (fun q27 => ?_)
  refine N_dup hX dX5_init_30 rfl ?_
  refine N_bipush hX dX5_init_31 kb_30 ?_
  refine N_callI hX (C_i4 _ _ 30 30 (by decide +kernel) (by decide) (Nat.le_of_ble_eq_true rfl)) (mi_X4 30) mi_L_X5_27 rfl rfl ⟨(Nat.le_of_ble_eq_true rfl), (Nat.le_of_ble_eq_true rfl)⟩ rfl rfl (Nat.le_of_ble_eq_true rfl) (Nat.le_of_ble_eq_true rfl) (Nat.le_of_ble_eq_true rfl) dX5_init_33 (fun ws' hp => ?_)
  obtain ⟨w33, rfl⟩ := hp
  refine N_as ?_
  refine N_putF2 hX hI ff_X5_30 rfl rfl (Nat.le_of_ble_eq_true rfl) dX5_init_36 (fs' := [.null, .null, .ref q5, .ref q16, .ref q27]) rfl ?_
  refine N_aload_n hX dX5_init_39 rfl ?_
  refine N_aload_n hX dX5_init_40 rfl ?_
  refine N_putF2 hX hI ff_X5_34 rfl rfl (Nat.le_of_ble_eq_true rfl) dX5_init_41 (fs' := [.ref a1, .null, .ref q5, .ref q16, .ref q27]) rfl ?_
  refine N_aload_n hX dX5_init_44 rfl ?_
  refine N_new hX nn_X5_37 (Nat.le_of_ble_eq_true rfl) (Nat.le_of_ble_eq_true rfl) dX5_init_45 (fun q45 => ?_)
  refine N_dup hX dX5_init_48 rfl ?_
  refine N_aload_n hX dX5_init_49 rfl ?_
  refine N_callI hX (C_i3 _ _ a1) mi_X3 mi_L_X5_39 rfl rfl ⟨(Nat.le_of_ble_eq_true rfl), (Nat.le_of_ble_eq_true rfl)⟩ rfl rfl (Nat.le_of_ble_eq_true rfl) (Nat.le_of_ble_eq_true rfl) (Nat.le_of_ble_eq_true rfl) dX5_init_50 (fun ws' hp => ?_)
  obtain ⟨w50, rfl⟩ := hp
  refine N_as ?_
  refine N_putF2 hX hI ff_X5_42 rfl rfl (Nat.le_of_ble_eq_true rfl) dX5_init_53 (fs' := [.ref a1, .ref q45, .ref q5, .ref q16, .ref q27]) rfl ?_
  exact N_vret hX hM ⟨fun k => [q5, w9 0, w9 1, w9 2, w9 3, w9 4, w9 5, w9 6, w9 7, w9 8, w9 9, w9 10, w9 11, w9 12, w9 13, w9 14, w9 15, q16, w20 0, w20 1, w20 2, w20 3, w20 4, w20 5, q27, w33 0, q45].getD k 0, rfl⟩ (Nat.le_of_ble_eq_true rfl) (Nat.le_of_ble_eq_true rfl) dX5_init_56
def nw_X8 (cI cZ : ClassId) (h0 a1 : Nat) (q : Nat → Nat) : va_W := (h0, .inr (8, [.ref a1, .ref (q 0), .ref (q 1), .ref (q 2), .ref (q 4), .int 0, .int 0, .int 0])) :: ((((([] ++ [(q 0, .inl (cI, 51200, .inl (fun _ => 0)))]) ++ [(q 1, .inl (cI, 50, .inl (fun _ => 0)))]) ++ nw_X4 cI (q 2) 64 (fun k => q (3 + k))) ++ nw_X4 cI (q 4) 59 (fun k => q (5 + k))))
def Y_i8 : jY := (yX8_init, cX8_init, 2, none, { frames := 2, cells := 6, slots := 51377, locals := 45 })
theorem mi_X8 : jMI Y_i8 1 := ⟨⟨tw_tb (List.mem_of_getElem? (i := 290) (by decide +kernel)) (by decide +kernel), tw_tb (List.mem_of_getElem? (i := 11) (by decide +kernel)) (by decide +kernel), tw_tb (List.mem_of_getElem? (i := 291) (by decide +kernel)) (by decide +kernel)⟩, rfl, rfl, by decide +kernel, by decide +kernel, by decide +kernel⟩
set_option maxHeartbeats 20000000 in
theorem C_i8 {l : Launch} {G : jG} (A : va_W) (h0 a1 : Nat) : nC l G Y_i8 [.ref h0, .ref a1] (A ++ [(h0, .inr (8, [.null, .null, .null, .null, .null, .int 0, .int 0, .int 0]))]) (fun ws' => ∃ q : Nat → Nat, ws' = A ++ nw_X8 G.2.1 G.2.2.1 h0 a1 q) 6 51377 := by
  refine nw_met pn_X8 rfl rfl (Nat.le_of_ble_eq_true rfl) ?_
  intro X hX hM hI
  have hX : nB X l G cX8_init RX8 2 { frames := 2, cells := 6, slots := 51377, locals := 45 } := hX
  show NJ X 0 [(0, .ref h0), (1, .ref a1)] [] (A ++ [(h0, .inr (8, [.null, .null, .null, .null, .null, .int 0, .int 0, .int 0]))]) 0 0
  refine N_aload_n hX dX8_init_0 rfl ?_
  refine N_obj hX wo_X8 wk_oi wk_oc (Nat.le_of_ble_eq_true rfl) (Nat.le_of_ble_eq_true rfl) dX8_init_1 ?_
  refine N_aload_n hX dX8_init_4 rfl ?_
  refine N_ldc hX wc_X8_9 dX8_init_5 ?_
  refine N_newa hX wk_aI (nI_pos (n := 51200) (Nat.le_of_ble_eq_true rfl)) (n' := 51200) (nI_clamp (n := 51200) (Nat.le_of_ble_eq_true rfl)) (Nat.le_of_ble_eq_true rfl) (Nat.le_of_ble_eq_true rfl) (Nat.le_of_ble_eq_true rfl) dX8_init_7 (fun q7 => ?_)
  refine N_as ?_
  refine N_putF2 hX hI ff_X8_10 rfl rfl (Nat.le_of_ble_eq_true rfl) dX8_init_9 (fs' := [.null, .ref q7, .null, .null, .null, .int 0, .int 0, .int 0]) rfl ?_
  refine N_aload_n hX dX8_init_12 rfl ?_
  refine N_bipush hX dX8_init_13 kb_50 ?_
  refine N_newa hX wk_aI (nI_pos (n := 50) (Nat.le_of_ble_eq_true rfl)) (n' := 50) (nI_clamp (n := 50) (Nat.le_of_ble_eq_true rfl)) (Nat.le_of_ble_eq_true rfl) (Nat.le_of_ble_eq_true rfl) (Nat.le_of_ble_eq_true rfl) dX8_init_15 (fun q15 => ?_)
  refine N_as ?_
  refine N_putF2 hX hI ff_X8_16 rfl rfl (Nat.le_of_ble_eq_true rfl) dX8_init_17 (fs' := [.null, .ref q7, .ref q15, .null, .null, .int 0, .int 0, .int 0]) rfl ?_
  refine N_aload_n hX dX8_init_20 rfl ?_
  refine N_new hX nn_X8_19 (Nat.le_of_ble_eq_true rfl) (Nat.le_of_ble_eq_true rfl) dX8_init_21 (fun q21 => ?_)
  refine N_dup hX dX8_init_24 rfl ?_
  refine N_bipush hX dX8_init_25 kb_64 ?_
  refine N_callI hX (C_i4 _ _ 64 64 (by decide +kernel) (by decide) (Nat.le_of_ble_eq_true rfl)) (mi_X4 64) mi_L_X8_21 rfl rfl ⟨(Nat.le_of_ble_eq_true rfl), (Nat.le_of_ble_eq_true rfl)⟩ rfl rfl (Nat.le_of_ble_eq_true rfl) (Nat.le_of_ble_eq_true rfl) (Nat.le_of_ble_eq_true rfl) dX8_init_27 (fun ws' hp => ?_)
  obtain ⟨w27, rfl⟩ := hp
  refine N_as ?_
  refine N_putF2 hX hI ff_X8_24 rfl rfl (Nat.le_of_ble_eq_true rfl) dX8_init_30 (fs' := [.null, .ref q7, .ref q15, .ref q21, .null, .int 0, .int 0, .int 0]) rfl ?_
  refine N_aload_n hX dX8_init_33 rfl ?_
  refine N_new hX nn_X8_19 (Nat.le_of_ble_eq_true rfl) (Nat.le_of_ble_eq_true rfl) dX8_init_34 (fun q34 => ?_)
  refine N_dup hX dX8_init_37 rfl ?_
  refine N_bipush hX dX8_init_38 kb_59 ?_
  refine N_callI hX (C_i4 _ _ 59 59 (by decide +kernel) (by decide) (Nat.le_of_ble_eq_true rfl)) (mi_X4 59) mi_L_X8_21 rfl rfl ⟨(Nat.le_of_ble_eq_true rfl), (Nat.le_of_ble_eq_true rfl)⟩ rfl rfl (Nat.le_of_ble_eq_true rfl) (Nat.le_of_ble_eq_true rfl) (Nat.le_of_ble_eq_true rfl) dX8_init_40 (fun ws' hp => ?_)
  obtain ⟨w40, rfl⟩ := hp
  refine N_as ?_
  refine N_putF2 hX hI ff_X8_28 rfl rfl (Nat.le_of_ble_eq_true rfl) dX8_init_43 (fs' := [.null, .ref q7, .ref q15, .ref q21, .ref q34, .int 0, .int 0, .int 0]) rfl ?_
  refine N_aload_n hX dX8_init_46 rfl ?_
  refine N_aload_n hX dX8_init_47 rfl ?_
  refine N_putF2 hX hI ff_X8_31 rfl rfl (Nat.le_of_ble_eq_true rfl) dX8_init_48 (fs' := [.ref a1, .ref q7, .ref q15, .ref q21, .ref q34, .int 0, .int 0, .int 0]) rfl ?_
  exact N_vret hX hM ⟨fun k => [q7, q15, q21, w27 0, q34, w40 0].getD k 0, rfl⟩ (Nat.le_of_ble_eq_true rfl) (Nat.le_of_ble_eq_true rfl) dX8_init_51
def nw_X9 (cI cZ : ClassId) (h0 a1 : Nat) (q : Nat → Nat) : va_W := (h0, .inr (9, [.ref a1, .ref (q 0), .ref (q 2), .ref (q 3), .ref (q 5), .ref (q 6)])) :: (((((([] ++ nw_X4 cI (q 0) 1024 (fun k => q (1 + k))) ++ [(q 2, .inl (cI, 1024, .inl (fun _ => 0)))]) ++ nw_X4 cI (q 3) 256 (fun k => q (4 + k))) ++ [(q 5, .inl (cI, 1024, .inl (fun _ => 0)))]) ++ [(q 6, .inl (cI, 64, .inl (fun _ => 0)))]))
def Y_i9 : jY := (yX9_init, cX9_init, 2, none, { frames := 2, cells := 7, slots := 3396, locals := 45 })
theorem mi_X9 : jMI Y_i9 1 := ⟨⟨tw_tb (List.mem_of_getElem? (i := 263) (by decide +kernel)) (by decide +kernel), tw_tb (List.mem_of_getElem? (i := 10) (by decide +kernel)) (by decide +kernel), tw_tb (List.mem_of_getElem? (i := 264) (by decide +kernel)) (by decide +kernel)⟩, rfl, rfl, by decide +kernel, by decide +kernel, by decide +kernel⟩
set_option maxHeartbeats 20000000 in
theorem C_i9 {l : Launch} {G : jG} (A : va_W) (h0 a1 : Nat) : nC l G Y_i9 [.ref h0, .ref a1] (A ++ [(h0, .inr (9, [.null, .null, .null, .null, .null, .null]))]) (fun ws' => ∃ q : Nat → Nat, ws' = A ++ nw_X9 G.2.1 G.2.2.1 h0 a1 q) 7 3396 := by
  refine nw_met pn_X9 rfl rfl (Nat.le_of_ble_eq_true rfl) ?_
  intro X hX hM hI
  have hX : nB X l G cX9_init RX9 2 { frames := 2, cells := 7, slots := 3396, locals := 45 } := hX
  show NJ X 0 [(0, .ref h0), (1, .ref a1)] [] (A ++ [(h0, .inr (9, [.null, .null, .null, .null, .null, .null]))]) 0 0
  refine N_aload_n hX dX9_init_0 rfl ?_
  refine N_obj hX wo_X9 wk_oi wk_oc (Nat.le_of_ble_eq_true rfl) (Nat.le_of_ble_eq_true rfl) dX9_init_1 ?_
  refine N_aload_n hX dX9_init_4 rfl ?_
  refine N_new hX nn_X9_9 (Nat.le_of_ble_eq_true rfl) (Nat.le_of_ble_eq_true rfl) dX9_init_5 (fun q5 => ?_)
  refine N_dup hX dX9_init_8 rfl ?_
  refine N_sipush hX dX9_init_9 ks_1024 ?_
  refine N_callI hX (C_i4 _ _ 1024 1024 (by decide +kernel) (by decide) (Nat.le_of_ble_eq_true rfl)) (mi_X4 1024) mi_L_X9_11 rfl rfl ⟨(Nat.le_of_ble_eq_true rfl), (Nat.le_of_ble_eq_true rfl)⟩ rfl rfl (Nat.le_of_ble_eq_true rfl) (Nat.le_of_ble_eq_true rfl) (Nat.le_of_ble_eq_true rfl) dX9_init_12 (fun ws' hp => ?_)
  obtain ⟨w12, rfl⟩ := hp
  refine N_as ?_
  refine N_putF2 hX hI ff_X9_14 rfl rfl (Nat.le_of_ble_eq_true rfl) dX9_init_15 (fs' := [.null, .ref q5, .null, .null, .null, .null]) rfl ?_
  refine N_aload_n hX dX9_init_18 rfl ?_
  refine N_sipush hX dX9_init_19 ks_1024 ?_
  refine N_newa hX wk_aI (nI_pos (n := 1024) (Nat.le_of_ble_eq_true rfl)) (n' := 1024) (nI_clamp (n := 1024) (Nat.le_of_ble_eq_true rfl)) (Nat.le_of_ble_eq_true rfl) (Nat.le_of_ble_eq_true rfl) (Nat.le_of_ble_eq_true rfl) dX9_init_22 (fun q22 => ?_)
  refine N_as ?_
  refine N_putF2 hX hI ff_X9_20 rfl rfl (Nat.le_of_ble_eq_true rfl) dX9_init_24 (fs' := [.null, .ref q5, .ref q22, .null, .null, .null]) rfl ?_
  refine N_aload_n hX dX9_init_27 rfl ?_
  refine N_new hX nn_X9_9 (Nat.le_of_ble_eq_true rfl) (Nat.le_of_ble_eq_true rfl) dX9_init_28 (fun q28 => ?_)
  refine N_dup hX dX9_init_31 rfl ?_
  refine N_sipush hX dX9_init_32 ks_256 ?_
  refine N_callI hX (C_i4 _ _ 256 256 (by decide +kernel) (by decide) (Nat.le_of_ble_eq_true rfl)) (mi_X4 256) mi_L_X9_11 rfl rfl ⟨(Nat.le_of_ble_eq_true rfl), (Nat.le_of_ble_eq_true rfl)⟩ rfl rfl (Nat.le_of_ble_eq_true rfl) (Nat.le_of_ble_eq_true rfl) (Nat.le_of_ble_eq_true rfl) dX9_init_35 (fun ws' hp => ?_)
  obtain ⟨w35, rfl⟩ := hp
  refine N_as ?_
  refine N_putF2 hX hI ff_X9_24 rfl rfl (Nat.le_of_ble_eq_true rfl) dX9_init_38 (fs' := [.null, .ref q5, .ref q22, .ref q28, .null, .null]) rfl ?_
  refine N_aload_n hX dX9_init_41 rfl ?_
  refine N_sipush hX dX9_init_42 ks_1024 ?_
  refine N_newa hX wk_aI (nI_pos (n := 1024) (Nat.le_of_ble_eq_true rfl)) (n' := 1024) (nI_clamp (n := 1024) (Nat.le_of_ble_eq_true rfl)) (Nat.le_of_ble_eq_true rfl) (Nat.le_of_ble_eq_true rfl) (Nat.le_of_ble_eq_true rfl) dX9_init_45 (fun q45 => ?_)
  refine N_as ?_
  refine N_putF2 hX hI ff_X9_27 rfl rfl (Nat.le_of_ble_eq_true rfl) dX9_init_47 (fs' := [.null, .ref q5, .ref q22, .ref q28, .ref q45, .null]) rfl ?_
  refine N_aload_n hX dX9_init_50 rfl ?_
  refine N_bipush hX dX9_init_51 kb_64 ?_
  refine N_newa hX wk_aI (nI_pos (n := 64) (Nat.le_of_ble_eq_true rfl)) (n' := 64) (nI_clamp (n := 64) (Nat.le_of_ble_eq_true rfl)) (Nat.le_of_ble_eq_true rfl) (Nat.le_of_ble_eq_true rfl) (Nat.le_of_ble_eq_true rfl) dX9_init_53 (fun q53 => ?_)
  refine N_as ?_
  refine N_putF2 hX hI ff_X9_30 rfl rfl (Nat.le_of_ble_eq_true rfl) dX9_init_55 (fs' := [.null, .ref q5, .ref q22, .ref q28, .ref q45, .ref q53]) rfl ?_
  refine N_aload_n hX dX9_init_58 rfl ?_
  refine N_aload_n hX dX9_init_59 rfl ?_
  refine N_putF2 hX hI ff_X9_33 rfl rfl (Nat.le_of_ble_eq_true rfl) dX9_init_60 (fs' := [.ref a1, .ref q5, .ref q22, .ref q28, .ref q45, .ref q53]) rfl ?_
  exact N_vret hX hM ⟨fun k => [q5, w12 0, q22, q28, w35 0, q45, q53].getD k 0, rfl⟩ (Nat.le_of_ble_eq_true rfl) (Nat.le_of_ble_eq_true rfl) dX9_init_63
