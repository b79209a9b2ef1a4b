def nw_X11 (cI cZ : ClassId) (h0 : Nat) (q : Nat → Nat) : va_W := (h0, .inr (11, [.int 0, .ref (q 0), .ref (q 1), .ref (q 2), .ref (q 3), .int 20, .int 30, .int 5, .int 0, .ref (q 4), .int 0, .ref (q 5), .int 0, .ref (q 6), .int 0, .int 0, .int 0, .int 0, .ref (q 7), .int 0, .int (-1), .int 0, .long 0, .int 0, .int 0, .int 0, .int 0, .ref (q 8), .int 0, .ref (q 9), .ref (q 10), .int 0, .int 0, .ref (q 11), .ref (q 12), .ref (q 13), .int 0, .int 0, .int 0, .ref (q 14), .ref (q 15), .ref (q 16), .ref (q 17), .ref (q 18), .ref (q 19), .ref (q 20), .ref (q 21), .int 0, .ref (q 22), .ref (q 23), .ref (q 24), .ref (q 25)])) :: ((((((((((((((((((((((((((([] ++ [(q 0, .inl (cI, 40, .inl (fun _ => 0)))]) ++ [(q 1, .inl (cI, 10, .inl (fun _ => 0)))]) ++ [(q 2, .inl (cI, 10, .inl (fun _ => 0)))]) ++ [(q 3, .inl (cI, 10, .inl (fun _ => 0)))]) ++ [(q 4, .inl (cI, 32, .inl (fun _ => 0)))]) ++ [(q 5, .inl (cI, 90, .inl (fun _ => 0)))]) ++ [(q 6, .inl (cI, 30, .inl (fun _ => 0)))]) ++ [(q 7, .inl (cI, 400, .inl (fun _ => 0)))]) ++ [(q 8, .inl (cI, 40, .inl (fun _ => 0)))]) ++ [(q 9, .inl (cI, 32, .inl (fun _ => 0)))]) ++ [(q 10, .inl (cI, 3, .inl (fun _ => 0)))]) ++ [(q 11, .inl (cI, 90, .inl (fun _ => 0)))]) ++ [(q 12, .inl (cI, 51200, .inl (fun _ => 0)))]) ++ [(q 13, .inl (cI, 3200, .inl (fun _ => 0)))]) ++ [(q 14, .inl (cI, 8, .inl (fun _ => 0)))]) ++ [(q 15, .inl (cZ, 1024, .inl (fun _ => 0)))]) ++ [(q 16, .inl (cI, 1024, .inl (fun _ => 0)))]) ++ [(q 17, .inl (cI, 64, .inl (fun _ => 0)))]) ++ [(q 18, .inl (cI, 66560, .inl (fun _ => 0)))]) ++ [(q 19, .inl (cI, 10, .inl (fun _ => 0)))]) ++ [(q 20, .inl (cI, 10, .inl (fun _ => 0)))]) ++ [(q 21, .inl (cI, 1024, .inl (fun _ => 0)))]) ++ [(q 22, .inl (cI, 40, .inl (fun _ => 0)))]) ++ [(q 23, .inl (cI, 32, .inl (fun _ => 0)))]) ++ [(q 24, .inl (cI, 100, .inl (fun _ => 0)))]) ++ [(q 25, .inl (cZ, 2, .inl (fun _ => 0)))]))
def Y_i11 : jY := (yX11_init, cX11_init, 1, none, { frames := 1, cells := 26, slots := 125085, locals := 13 })
theorem mi_X11 : jMI Y_i11 0 := ⟨⟨tw_tb (List.mem_of_getElem? (i := 1042) (by decide +kernel)) (by decide +kernel), tw_tb (List.mem_of_getElem? (i := 13) (by decide +kernel)) (by decide +kernel), tw_tb (List.mem_of_getElem? (i := 1043) (by decide +kernel)) (by decide +kernel)⟩, rfl, rfl, by decide +kernel, by decide +kernel, by decide +kernel⟩
set_option maxHeartbeats 20000000 in
theorem C_i11 {l : Launch} {G : jG} (A : va_W) (h0 : Nat) : nC l G Y_i11 [.ref h0] (A ++ [(h0, .inr (11, [.int 0, .null, .null, .null, .null, .int 0, .int 0, .int 0, .int 0, .null, .int 0, .null, .int 0, .null, .int 0, .int 0, .int 0, .int 0, .null, .int 0, .int 0, .int 0, .long 0, .int 0, .int 0, .int 0, .int 0, .null, .int 0, .null, .null, .int 0, .int 0, .null, .null, .null, .int 0, .int 0, .int 0, .null, .null, .null, .null, .null, .null, .null, .null, .int 0, .null, .null, .null, .null]))]) (fun ws' => ∃ q : Nat → Nat, ws' = A ++ nw_X11 G.2.1 G.2.2.1 h0 q) 26 125085 := by
  refine nw_met pn_X11 rfl rfl (Nat.le_of_ble_eq_true rfl) ?_
  intro X hX hM hI
  have hX : nB X l G cX11_init RX11 1 { frames := 1, cells := 26, slots := 125085, locals := 13 } := hX
  show NJ X 0 [(0, .ref h0)] [] (A ++ [(h0, .inr (11, [.int 0, .null, .null, .null, .null, .int 0, .int 0, .int 0, .int 0, .null, .int 0, .null, .int 0, .null, .int 0, .int 0, .int 0, .int 0, .null, .int 0, .int 0, .int 0, .long 0, .int 0, .int 0, .int 0, .int 0, .null, .int 0, .null, .null, .int 0, .int 0, .null, .null, .null, .int 0, .int 0, .int 0, .null, .null, .null, .null, .null, .null, .null, .null, .int 0, .null, .null, .null, .null]))]) 0 0
  refine N_aload_n hX dX11_init_0 rfl ?_
  refine N_obj hX wo_X11 wk_oi wk_oc (Nat.le_of_ble_eq_true rfl) (Nat.le_of_ble_eq_true rfl) dX11_init_1 ?_
  refine N_aload_n hX dX11_init_4 rfl ?_
  refine N_bipush hX dX11_init_5 kb_40 ?_
  refine N_newa hX wk_aI (nI_pos (n := 40) (Nat.le_of_ble_eq_true rfl)) (n' := 40) (nI_clamp (n := 40) (Nat.le_of_ble_eq_true rfl)) (Nat.le_of_ble_eq_true rfl) (Nat.le_of_ble_eq_true rfl) (Nat.le_of_ble_eq_true rfl) dX11_init_7 (fun q7 => ?_)
  refine N_as ?_
  refine N_putF2 hX hI ff_X11_7 rfl rfl (Nat.le_of_ble_eq_true rfl) dX11_init_9 (fs' := [.int 0, .ref q7, .null, .null, .null, .int 0, .int 0, .int 0, .int 0, .null, .int 0, .null, .int 0, .null, .int 0, .int 0, .int 0, .int 0, .null, .int 0, .int 0, .int 0, .long 0, .int 0, .int 0, .int 0, .int 0, .null, .int 0, .null, .null, .int 0, .int 0, .null, .null, .null, .int 0, .int 0, .int 0, .null, .null, .null, .null, .null, .null, .null, .null, .int 0, .null, .null, .null, .null]) rfl ?_
  refine N_aload_n hX dX11_init_12 rfl ?_
  refine N_bipush hX dX11_init_13 kb_10 ?_
  refine N_newa hX wk_aI (nI_pos (n := 10) (Nat.le_of_ble_eq_true rfl)) (n' := 10) (nI_clamp (n := 10) (Nat.le_of_ble_eq_true rfl)) (Nat.le_of_ble_eq_true rfl) (Nat.le_of_ble_eq_true rfl) (Nat.le_of_ble_eq_true rfl) dX11_init_15 (fun q15 => ?_)
  refine N_as ?_
  refine N_putF2 hX hI ff_X11_13 rfl rfl (Nat.le_of_ble_eq_true rfl) dX11_init_17 (fs' := [.int 0, .ref q7, .ref q15, .null, .null, .int 0, .int 0, .int 0, .int 0, .null, .int 0, .null, .int 0, .null, .int 0, .int 0, .int 0, .int 0, .null, .int 0, .int 0, .int 0, .long 0, .int 0, .int 0, .int 0, .int 0, .null, .int 0, .null, .null, .int 0, .int 0, .null, .null, .null, .int 0, .int 0, .int 0, .null, .null, .null, .null, .null, .null, .null, .null, .int 0, .null, .null, .null, .null]) rfl ?_
  refine N_aload_n hX dX11_init_20 rfl ?_
  refine N_bipush hX dX11_init_21 kb_10 ?_
  refine N_newa hX wk_aI (nI_pos (n := 10) (Nat.le_of_ble_eq_true rfl)) (n' := 10) (nI_clamp (n := 10) (Nat.le_of_ble_eq_true rfl)) (Nat.le_of_ble_eq_true rfl) (Nat.le_of_ble_eq_true rfl) (Nat.le_of_ble_eq_true rfl) dX11_init_23 (fun q23 => ?_)
  refine N_as ?_
  refine N_putF2 hX hI ff_X11_16 rfl rfl (Nat.le_of_ble_eq_true rfl) dX11_init_25 (fs' := [.int 0, .ref q7, .ref q15, .ref q23, .null, .int 0, .int 0, .int 0, .int 0, .null, .int 0, .null, .int 0, .null, .int 0, .int 0, .int 0, .int 0, .null, .int 0, .int 0, .int 0, .long 0, .int 0, .int 0, .int 0, .int 0, .null, .int 0, .null, .null, .int 0, .int 0, .null, .null, .null, .int 0, .int 0, .int 0, .null, .null, .null, .null, .null, .null, .null, .null, .int 0, .null, .null, .null, .null]) rfl ?_
  refine N_aload_n hX dX11_init_28 rfl ?_
  refine N_bipush hX dX11_init_29 kb_10 ?_
  refine N_newa hX wk_aI (nI_pos (n := 10) (Nat.le_of_ble_eq_true rfl)) (n' := 10) (nI_clamp (n := 10) (Nat.le_of_ble_eq_true rfl)) (Nat.le_of_ble_eq_true rfl) (Nat.le_of_ble_eq_true rfl) (Nat.le_of_ble_eq_true rfl) dX11_init_31 (fun q31 => ?_)
  refine N_as ?_
  refine N_putF2 hX hI ff_X11_19 rfl rfl (Nat.le_of_ble_eq_true rfl) dX11_init_33 (fs' := [.int 0, .ref q7, .ref q15, .ref q23, .ref q31, .int 0, .int 0, .int 0, .int 0, .null, .int 0, .null, .int 0, .null, .int 0, .int 0, .int 0, .int 0, .null, .int 0, .int 0, .int 0, .long 0, .int 0, .int 0, .int 0, .int 0, .null, .int 0, .null, .null, .int 0, .int 0, .null, .null, .null, .int 0, .int 0, .int 0, .null, .null, .null, .null, .null, .null, .null, .null, .int 0, .null, .null, .null, .null]) rfl ?_
  refine N_aload_n hX dX11_init_36 rfl ?_
  refine N_bipush hX dX11_init_37 kb_20 ?_
  refine N_put2 hX fp_X11_22 (by decide +kernel) (by decide +kernel) (Nat.le_of_ble_eq_true rfl) dX11_init_39 (fs' := [.int 0, .ref q7, .ref q15, .ref q23, .ref q31, .int 20, .int 0, .int 0, .int 0, .null, .int 0, .null, .int 0, .null, .int 0, .int 0, .int 0, .int 0, .null, .int 0, .int 0, .int 0, .long 0, .int 0, .int 0, .int 0, .int 0, .null, .int 0, .null, .null, .int 0, .int 0, .null, .null, .null, .int 0, .int 0, .int 0, .null, .null, .null, .null, .null, .null, .null, .null, .int 0, .null, .null, .null, .null]) rfl ?_
  refine N_aload_n hX dX11_init_42 rfl ?_
  refine N_bipush hX dX11_init_43 kb_30 ?_
  refine N_put2 hX fp_X11_26 (by decide +kernel) (by decide +kernel) (Nat.le_of_ble_eq_true rfl) dX11_init_45 (fs' := [.int 0, .ref q7, .ref q15, .ref q23, .ref q31, .int 20, .int 30, .int 0, .int 0, .null, .int 0, .null, .int 0, .null, .int 0, .int 0, .int 0, .int 0, .null, .int 0, .int 0, .int 0, .long 0, .int 0, .int 0, .int 0, .int 0, .null, .int 0, .null, .null, .int 0, .int 0, .null, .null, .null, .int 0, .int 0, .int 0, .null, .null, .null, .null, .null, .null, .null, .null, .int 0, .null, .null, .null, .null]) rfl ?_
  refine N_aload_n hX dX11_init_48 rfl ?_
  refine N_iconst hX dX11_init_49 k_i5 ?_
  refine N_put2 hX fp_X11_29 (by decide +kernel) (by decide +kernel) (Nat.le_of_ble_eq_true rfl) dX11_init_50 (fs' := [.int 0, .ref q7, .ref q15, .ref q23, .ref q31, .int 20, .int 30, .int 5, .int 0, .null, .int 0, .null, .int 0, .null, .int 0, .int 0, .int 0, .int 0, .null, .int 0, .int 0, .int 0, .long 0, .int 0, .int 0, .int 0, .int 0, .null, .int 0, .null, .null, .int 0, .int 0, .null, .null, .null, .int 0, .int 0, .int 0, .null, .null, .null, .null, .null, .null, .null, .null, .int 0, .null, .null, .null, .null]) rfl ?_
  refine N_aload_n hX dX11_init_53 rfl ?_
  refine N_bipush hX dX11_init_54 kb_32 ?_
  refine N_newa hX wk_aI (nI_pos (n := 32) (Nat.le_of_ble_eq_true rfl)) (n' := 32) (nI_clamp (n := 32) (Nat.le_of_ble_eq_true rfl)) (Nat.le_of_ble_eq_true rfl) (Nat.le_of_ble_eq_true rfl) (Nat.le_of_ble_eq_true rfl) dX11_init_56 (fun q56 => ?_)
  refine N_as ?_
  refine N_putF2 hX hI ff_X11_32 rfl rfl (Nat.le_of_ble_eq_true rfl) dX11_init_58 (fs' := [.int 0, .ref q7, .ref q15, .ref q23, .ref q31, .int 20, .int 30, .int 5, .int 0, .ref q56, .int 0, .null, .int 0, .null, .int 0, .int 0, .int 0, .int 0, .null, .int 0, .int 0, .int 0, .long 0, .int 0, .int 0, .int 0, .int 0, .null, .int 0, .null, .null, .int 0, .int 0, .null, .null, .null, .int 0, .int 0, .int 0, .null, .null, .null, .null, .null, .null, .null, .null, .int 0, .null, .null, .null, .null]) rfl ?_
  refine N_aload_n hX dX11_init_61 rfl ?_
  refine N_bipush hX dX11_init_62 kb_90 ?_
  refine N_newa hX wk_aI (nI_pos (n := 90) (Nat.le_of_ble_eq_true rfl)) (n' := 90) (nI_clamp (n := 90) (Nat.le_of_ble_eq_true rfl)) (Nat.le_of_ble_eq_true rfl) (Nat.le_of_ble_eq_true rfl) (Nat.le_of_ble_eq_true rfl) dX11_init_64 (fun q64 => ?_)
  refine N_as ?_
  refine N_putF2 hX hI ff_X11_35 rfl rfl (Nat.le_of_ble_eq_true rfl) dX11_init_66 (fs' := [.int 0, .ref q7, .ref q15, .ref q23, .ref q31, .int 20, .int 30, .int 5, .int 0, .ref q56, .int 0, .ref q64, .int 0, .null, .int 0, .int 0, .int 0, .int 0, .null, .int 0, .int 0, .int 0, .long 0, .int 0, .int 0, .int 0, .int 0, .null, .int 0, .null, .null, .int 0, .int 0, .null, .null, .null, .int 0, .int 0, .int 0, .null, .null, .null, .null, .null, .null, .null, .null, .int 0, .null, .null, .null, .null]) rfl ?_
  refine N_aload_n hX dX11_init_69 rfl ?_
  refine N_bipush hX dX11_init_70 kb_30 ?_
  refine N_newa hX wk_aI (nI_pos (n := 30) (Nat.le_of_ble_eq_true rfl)) (n' := 30) (nI_clamp (n := 30) (Nat.le_of_ble_eq_true rfl)) (Nat.le_of_ble_eq_true rfl) (Nat.le_of_ble_eq_true rfl) (Nat.le_of_ble_eq_true rfl) dX11_init_72 (fun q72 => ?_)
  refine N_as ?_
  refine N_putF2 hX hI ff_X11_38 rfl rfl (Nat.le_of_ble_eq_true rfl) dX11_init_74 (fs' := [.int 0, .ref q7, .ref q15, .ref q23, .ref q31, .int 20, .int 30, .int 5, .int 0, .ref q56, .int 0, .ref q64, .int 0, .ref q72, .int 0, .int 0, .int 0, .int 0, .null, .int 0, .int 0, .int 0, .long 0, .int 0, .int 0, .int 0, .int 0, .null, .int 0, .null, .null, .int 0, .int 0, .null, .null, .null, .int 0, .int 0, .int 0, .null, .null, .null, .null, .null, .null, .null, .null, .int 0, .null, .null, .null, .null]) rfl ?_
  refine N_aload_n hX dX11_init_77 rfl ?_
  refine N_sipush hX dX11_init_78 ks_400 ?_
  refine N_newa hX wk_aI (nI_pos (n := 400) (Nat.le_of_ble_eq_true rfl)) (n' := 400) (nI_clamp (n := 400) (Nat.le_of_ble_eq_true rfl)) (Nat.le_of_ble_eq_true rfl) (Nat.le_of_ble_eq_true rfl) (Nat.le_of_ble_eq_true rfl) dX11_init_81 (fun q81 => ?_)
  refine N_as ?_
  refine N_putF2 hX hI ff_X11_41 rfl rfl (Nat.le_of_ble_eq_true rfl) dX11_init_83 (fs' := [.int 0, .ref q7, .ref q15, .ref q23, .ref q31, .int 20, .int 30, .int 5, .int 0, .ref q56, .int 0, .ref q64, .int 0, .ref q72, .int 0, .int 0, .int 0, .int 0, .ref q81, .int 0, .int 0, .int 0, .long 0, .int 0, .int 0, .int 0, .int 0, .null, .int 0, .null, .null, .int 0, .int 0, .null, .null, .null, .int 0, .int 0, .int 0, .null, .null, .null, .null, .null, .null, .null, .null, .int 0, .null, .null, .null, .null]) rfl ?_
  refine N_aload_n hX dX11_init_86 rfl ?_
  refine N_iconst hX dX11_init_87 k_im1 ?_
  refine N_put2 hX fp_X11_44 (by decide +kernel) (by decide +kernel) (Nat.le_of_ble_eq_true rfl) dX11_init_88 (fs' := [.int 0, .ref q7, .ref q15, .ref q23, .ref q31, .int 20, .int 30, .int 5, .int 0, .ref q56, .int 0, .ref q64, .int 0, .ref q72, .int 0, .int 0, .int 0, .int 0, .ref q81, .int 0, .int (-1), .int 0, .long 0, .int 0, .int 0, .int 0, .int 0, .null, .int 0, .null, .null, .int 0, .int 0, .null, .null, .null, .int 0, .int 0, .int 0, .null, .null, .null, .null, .null, .null, .null, .null, .int 0, .null, .null, .null, .null]) rfl ?_
  refine N_aload_n hX dX11_init_91 rfl ?_
  refine N_bipush hX dX11_init_92 kb_40 ?_
  refine N_newa hX wk_aI (nI_pos (n := 40) (Nat.le_of_ble_eq_true rfl)) (n' := 40) (nI_clamp (n := 40) (Nat.le_of_ble_eq_true rfl)) (Nat.le_of_ble_eq_true rfl) (Nat.le_of_ble_eq_true rfl) (Nat.le_of_ble_eq_true rfl) dX11_init_94 (fun q94 => ?_)
  refine N_as ?_
  refine N_putF2 hX hI ff_X11_47 rfl rfl (Nat.le_of_ble_eq_true rfl) dX11_init_96 (fs' := [.int 0, .ref q7, .ref q15, .ref q23, .ref q31, .int 20, .int 30, .int 5, .int 0, .ref q56, .int 0, .ref q64, .int 0, .ref q72, .int 0, .int 0, .int 0, .int 0, .ref q81, .int 0, .int (-1), .int 0, .long 0, .int 0, .int 0, .int 0, .int 0, .ref q94, .int 0, .null, .null, .int 0, .int 0, .null, .null, .null, .int 0, .int 0, .int 0, .null, .null, .null, .null, .null, .null, .null, .null, .int 0, .null, .null, .null, .null]) rfl ?_
  refine N_aload_n hX dX11_init_99 rfl ?_
  refine N_bipush hX dX11_init_100 kb_32 ?_
  refine N_newa hX wk_aI (nI_pos (n := 32) (Nat.le_of_ble_eq_true rfl)) (n' := 32) (nI_clamp (n := 32) (Nat.le_of_ble_eq_true rfl)) (Nat.le_of_ble_eq_true rfl) (Nat.le_of_ble_eq_true rfl) (Nat.le_of_ble_eq_true rfl) dX11_init_102 (fun q102 => ?_)
  refine N_as ?_
  refine N_putF2 hX hI ff_X11_50 rfl rfl (Nat.le_of_ble_eq_true rfl) dX11_init_104 (fs' := [.int 0, .ref q7, .ref q15, .ref q23, .ref q31, .int 20, .int 30, .int 5, .int 0, .ref q56, .int 0, .ref q64, .int 0, .ref q72, .int 0, .int 0, .int 0, .int 0, .ref q81, .int 0, .int (-1), .int 0, .long 0, .int 0, .int 0, .int 0, .int 0, .ref q94, .int 0, .ref q102, .null, .int 0, .int 0, .null, .null, .null, .int 0, .int 0, .int 0, .null, .null, .null, .null, .null, .null, .null, .null, .int 0, .null, .null, .null, .null]) rfl ?_
  refine N_aload_n hX dX11_init_107 rfl ?_
  refine N_iconst hX dX11_init_108 k_i3 ?_
  refine N_newa hX wk_aI (nI_pos (n := 3) (Nat.le_of_ble_eq_true rfl)) (n' := 3) (nI_clamp (n := 3) (Nat.le_of_ble_eq_true rfl)) (Nat.le_of_ble_eq_true rfl) (Nat.le_of_ble_eq_true rfl) (Nat.le_of_ble_eq_true rfl) dX11_init_109 (fun q109 => ?_)
  refine N_as ?_
  refine N_putF2 hX hI ff_X11_53 rfl rfl (Nat.le_of_ble_eq_true rfl) dX11_init_111 (fs' := [.int 0, .ref q7, .ref q15, .ref q23, .ref q31, .int 20, .int 30, .int 5, .int 0, .ref q56, .int 0, .ref q64, .int 0, .ref q72, .int 0, .int 0, .int 0, .int 0, .ref q81, .int 0, .int (-1), .int 0, .long 0, .int 0, .int 0, .int 0, .int 0, .ref q94, .int 0, .ref q102, .ref q109, .int 0, .int 0, .null, .null, .null, .int 0, .int 0, .int 0, .null, .null, .null, .null, .null, .null, .null, .null, .int 0, .null, .null, .null, .null]) rfl ?_
  refine N_aload_n hX dX11_init_114 rfl ?_
  refine N_bipush hX dX11_init_115 kb_90 ?_
  refine N_newa hX wk_aI (nI_pos (n := 90) (Nat.le_of_ble_eq_true rfl)) (n' := 90) (nI_clamp (n := 90) (Nat.le_of_ble_eq_true rfl)) (Nat.le_of_ble_eq_true rfl) (Nat.le_of_ble_eq_true rfl) (Nat.le_of_ble_eq_true rfl) dX11_init_117 (fun q117 => ?_)
  refine N_as ?_
  refine N_putF2 hX hI ff_X11_56 rfl rfl (Nat.le_of_ble_eq_true rfl) dX11_init_119 (fs' := [.int 0, .ref q7, .ref q15, .ref q23, .ref q31, .int 20, .int 30, .int 5, .int 0, .ref q56, .int 0, .ref q64, .int 0, .ref q72, .int 0, .int 0, .int 0, .int 0, .ref q81, .int 0, .int (-1), .int 0, .long 0, .int 0, .int 0, .int 0, .int 0, .ref q94, .int 0, .ref q102, .ref q109, .int 0, .int 0, .ref q117, .null, .null, .int 0, .int 0, .int 0, .null, .null, .null, .null, .null, .null, .null, .null, .int 0, .null, .null, .null, .null]) rfl ?_
  refine N_aload_n hX dX11_init_122 rfl ?_
  refine N_ldc hX wc_X11_59 dX11_init_123 ?_
  refine N_newa hX wk_aI (nI_pos (n := 51200) (Nat.le_of_ble_eq_true rfl)) (n' := 51200) (nI_clamp (n := 51200) (Nat.le_of_ble_eq_true rfl)) (Nat.le_of_ble_eq_true rfl) (Nat.le_of_ble_eq_true rfl) (Nat.le_of_ble_eq_true rfl) dX11_init_125 (fun q125 => ?_)
  refine N_as ?_
  refine N_putF2 hX hI ff_X11_60 rfl rfl (Nat.le_of_ble_eq_true rfl) dX11_init_127 (fs' := [.int 0, .ref q7, .ref q15, .ref q23, .ref q31, .int 20, .int 30, .int 5, .int 0, .ref q56, .int 0, .ref q64, .int 0, .ref q72, .int 0, .int 0, .int 0, .int 0, .ref q81, .int 0, .int (-1), .int 0, .long 0, .int 0, .int 0, .int 0, .int 0, .ref q94, .int 0, .ref q102, .ref q109, .int 0, .int 0, .ref q117, .ref q125, .null, .int 0, .int 0, .int 0, .null, .null, .null, .null, .null, .null, .null, .null, .int 0, .null, .null, .null, .null]) rfl ?_
  refine N_aload_n hX dX11_init_130 rfl ?_
  refine N_sipush hX dX11_init_131 ks_3200 ?_
  refine N_newa hX wk_aI (nI_pos (n := 3200) (Nat.le_of_ble_eq_true rfl)) (n' := 3200) (nI_clamp (n := 3200) (Nat.le_of_ble_eq_true rfl)) (Nat.le_of_ble_eq_true rfl) (Nat.le_of_ble_eq_true rfl) (Nat.le_of_ble_eq_true rfl) dX11_init_134 (fun q134 => ?_)
  refine N_as ?_
  refine N_putF2 hX hI ff_X11_63 rfl rfl (Nat.le_of_ble_eq_true rfl) dX11_init_136 (fs' := [.int 0, .ref q7, .ref q15, .ref q23, .ref q31, .int 20, .int 30, .int 5, .int 0, .ref q56, .int 0, .ref q64, .int 0, .ref q72, .int 0, .int 0, .int 0, .int 0, .ref q81, .int 0, .int (-1), .int 0, .long 0, .int 0, .int 0, .int 0, .int 0, .ref q94, .int 0, .ref q102, .ref q109, .int 0, .int 0, .ref q117, .ref q125, .ref q134, .int 0, .int 0, .int 0, .null, .null, .null, .null, .null, .null, .null, .null, .int 0, .null, .null, .null, .null]) rfl ?_
  refine N_aload_n hX dX11_init_139 rfl ?_
  refine N_bipush hX dX11_init_140 kb_8 ?_
  refine N_newa hX wk_aI (nI_pos (n := 8) (Nat.le_of_ble_eq_true rfl)) (n' := 8) (nI_clamp (n := 8) (Nat.le_of_ble_eq_true rfl)) (Nat.le_of_ble_eq_true rfl) (Nat.le_of_ble_eq_true rfl) (Nat.le_of_ble_eq_true rfl) dX11_init_142 (fun q142 => ?_)
  refine N_as ?_
  refine N_putF2 hX hI ff_X11_66 rfl rfl (Nat.le_of_ble_eq_true rfl) dX11_init_144 (fs' := [.int 0, .ref q7, .ref q15, .ref q23, .ref q31, .int 20, .int 30, .int 5, .int 0, .ref q56, .int 0, .ref q64, .int 0, .ref q72, .int 0, .int 0, .int 0, .int 0, .ref q81, .int 0, .int (-1), .int 0, .long 0, .int 0, .int 0, .int 0, .int 0, .ref q94, .int 0, .ref q102, .ref q109, .int 0, .int 0, .ref q117, .ref q125, .ref q134, .int 0, .int 0, .int 0, .ref q142, .null, .null, .null, .null, .null, .null, .null, .int 0, .null, .null, .null, .null]) rfl ?_
  refine N_aload_n hX dX11_init_147 rfl ?_
  refine N_sipush hX dX11_init_148 ks_1024 ?_
  refine N_newz hX wk_aZ (nI_pos (n := 1024) (Nat.le_of_ble_eq_true rfl)) (n' := 1024) (nI_clamp (n := 1024) (Nat.le_of_ble_eq_true rfl)) (Nat.le_of_ble_eq_true rfl) (Nat.le_of_ble_eq_true rfl) (Nat.le_of_ble_eq_true rfl) dX11_init_151 (fun q151 => ?_)
  refine N_as ?_
  refine N_putF2 hX hI ff_X11_69 rfl rfl (Nat.le_of_ble_eq_true rfl) dX11_init_153 (fs' := [.int 0, .ref q7, .ref q15, .ref q23, .ref q31, .int 20, .int 30, .int 5, .int 0, .ref q56, .int 0, .ref q64, .int 0, .ref q72, .int 0, .int 0, .int 0, .int 0, .ref q81, .int 0, .int (-1), .int 0, .long 0, .int 0, .int 0, .int 0, .int 0, .ref q94, .int 0, .ref q102, .ref q109, .int 0, .int 0, .ref q117, .ref q125, .ref q134, .int 0, .int 0, .int 0, .ref q142, .ref q151, .null, .null, .null, .null, .null, .null, .int 0, .null, .null, .null, .null]) rfl ?_
  refine N_aload_n hX dX11_init_156 rfl ?_
  refine N_sipush hX dX11_init_157 ks_1024 ?_
  refine N_newa hX wk_aI (nI_pos (n := 1024) (Nat.le_of_ble_eq_true rfl)) (n' := 1024) (nI_clamp (n := 1024) (Nat.le_of_ble_eq_true rfl)) (Nat.le_of_ble_eq_true rfl) (Nat.le_of_ble_eq_true rfl) (Nat.le_of_ble_eq_true rfl) dX11_init_160 (fun q160 => ?_)
  refine N_as ?_
  refine N_putF2 hX hI ff_X11_73 rfl rfl (Nat.le_of_ble_eq_true rfl) dX11_init_162 (fs' := [.int 0, .ref q7, .ref q15, .ref q23, .ref q31, .int 20, .int 30, .int 5, .int 0, .ref q56, .int 0, .ref q64, .int 0, .ref q72, .int 0, .int 0, .int 0, .int 0, .ref q81, .int 0, .int (-1), .int 0, .long 0, .int 0, .int 0, .int 0, .int 0, .ref q94, .int 0, .ref q102, .ref q109, .int 0, .int 0, .ref q117, .ref q125, .ref q134, .int 0, .int 0, .int 0, .ref q142, .ref q151, .ref q160, .null, .null, .null, .null, .null, .int 0, .null, .null, .null, .null]) rfl ?_
  refine N_aload_n hX dX11_init_165 rfl ?_
  refine N_bipush hX dX11_init_166 kb_64 ?_
  refine N_newa hX wk_aI (nI_pos (n := 64) (Nat.le_of_ble_eq_true rfl)) (n' := 64) (nI_clamp (n := 64) (Nat.le_of_ble_eq_true rfl)) (Nat.le_of_ble_eq_true rfl) (Nat.le_of_ble_eq_true rfl) (Nat.le_of_ble_eq_true rfl) dX11_init_168 (fun q168 => ?_)
  refine N_as ?_
  refine N_putF2 hX hI ff_X11_76 rfl rfl (Nat.le_of_ble_eq_true rfl) dX11_init_170 (fs' := [.int 0, .ref q7, .ref q15, .ref q23, .ref q31, .int 20, .int 30, .int 5, .int 0, .ref q56, .int 0, .ref q64, .int 0, .ref q72, .int 0, .int 0, .int 0, .int 0, .ref q81, .int 0, .int (-1), .int 0, .long 0, .int 0, .int 0, .int 0, .int 0, .ref q94, .int 0, .ref q102, .ref q109, .int 0, .int 0, .ref q117, .ref q125, .ref q134, .int 0, .int 0, .int 0, .ref q142, .ref q151, .ref q160, .ref q168, .null, .null, .null, .null, .int 0, .null, .null, .null, .null]) rfl ?_
  refine N_aload_n hX dX11_init_173 rfl ?_
  refine N_ldc hX wc_X11_79 dX11_init_174 ?_
  refine N_newa hX wk_aI (nI_pos (n := 66560) (Nat.le_of_ble_eq_true rfl)) (n' := 66560) (nI_clamp (n := 66560) (Nat.le_of_ble_eq_true rfl)) (Nat.le_of_ble_eq_true rfl) (Nat.le_of_ble_eq_true rfl) (Nat.le_of_ble_eq_true rfl) dX11_init_176 (fun q176 => ?_)
  refine N_as ?_
  refine N_putF2 hX hI ff_X11_80 rfl rfl (Nat.le_of_ble_eq_true rfl) dX11_init_178 (fs' := [.int 0, .ref q7, .ref q15, .ref q23, .ref q31, .int 20, .int 30, .int 5, .int 0, .ref q56, .int 0, .ref q64, .int 0, .ref q72, .int 0, .int 0, .int 0, .int 0, .ref q81, .int 0, .int (-1), .int 0, .long 0, .int 0, .int 0, .int 0, .int 0, .ref q94, .int 0, .ref q102, .ref q109, .int 0, .int 0, .ref q117, .ref q125, .ref q134, .int 0, .int 0, .int 0, .ref q142, .ref q151, .ref q160, .ref q168, .ref q176, .null, .null, .null, .int 0, .null, .null, .null, .null]) rfl ?_
  refine N_aload_n hX dX11_init_181 rfl ?_
  refine N_bipush hX dX11_init_182 kb_10 ?_
  refine N_newa hX wk_aI (nI_pos (n := 10) (Nat.le_of_ble_eq_true rfl)) (n' := 10) (nI_clamp (n := 10) (Nat.le_of_ble_eq_true rfl)) (Nat.le_of_ble_eq_true rfl) (Nat.le_of_ble_eq_true rfl) (Nat.le_of_ble_eq_true rfl) dX11_init_184 (fun q184 => ?_)
  refine N_as ?_
  refine N_putF2 hX hI ff_X11_83 rfl rfl (Nat.le_of_ble_eq_true rfl) dX11_init_186 (fs' := [.int 0, .ref q7, .ref q15, .ref q23, .ref q31, .int 20, .int 30, .int 5, .int 0, .ref q56, .int 0, .ref q64, .int 0, .ref q72, .int 0, .int 0, .int 0, .int 0, .ref q81, .int 0, .int (-1), .int 0, .long 0, .int 0, .int 0, .int 0, .int 0, .ref q94, .int 0, .ref q102, .ref q109, .int 0, .int 0, .ref q117, .ref q125, .ref q134, .int 0, .int 0, .int 0, .ref q142, .ref q151, .ref q160, .ref q168, .ref q176, .ref q184, .null, .null, .int 0, .null, .null, .null, .null]) rfl ?_
  refine N_aload_n hX dX11_init_189 rfl ?_
  refine N_bipush hX dX11_init_190 kb_10 ?_
  refine N_newa hX wk_aI (nI_pos (n := 10) (Nat.le_of_ble_eq_true rfl)) (n' := 10) (nI_clamp (n := 10) (Nat.le_of_ble_eq_true rfl)) (Nat.le_of_ble_eq_true rfl) (Nat.le_of_ble_eq_true rfl) (Nat.le_of_ble_eq_true rfl) dX11_init_192 (fun q192 => ?_)
  refine N_as ?_
  refine N_putF2 hX hI ff_X11_86 rfl rfl (Nat.le_of_ble_eq_true rfl) dX11_init_194 (fs' := [.int 0, .ref q7, .ref q15, .ref q23, .ref q31, .int 20, .int 30, .int 5, .int 0, .ref q56, .int 0, .ref q64, .int 0, .ref q72, .int 0, .int 0, .int 0, .int 0, .ref q81, .int 0, .int (-1), .int 0, .long 0, .int 0, .int 0, .int 0, .int 0, .ref q94, .int 0, .ref q102, .ref q109, .int 0, .int 0, .ref q117, .ref q125, .ref q134, .int 0, .int 0, .int 0, .ref q142, .ref q151, .ref q160, .ref q168, .ref q176, .ref q184, .ref q192, .null, .int 0, .null, .null, .null, .null]) rfl ?_
  refine N_aload_n hX dX11_init_197 rfl ?_
  refine N_sipush hX dX11_init_198 ks_1024 ?_
  refine N_newa hX wk_aI (nI_pos (n := 1024) (Nat.le_of_ble_eq_true rfl)) (n' := 1024) (nI_clamp (n := 1024) (Nat.le_of_ble_eq_true rfl)) (Nat.le_of_ble_eq_true rfl) (Nat.le_of_ble_eq_true rfl) (Nat.le_of_ble_eq_true rfl) dX11_init_201 (fun q201 => ?_)
  refine N_as ?_
  refine N_putF2 hX hI ff_X11_89 rfl rfl (Nat.le_of_ble_eq_true rfl) dX11_init_203 (fs' := [.int 0, .ref q7, .ref q15, .ref q23, .ref q31, .int 20, .int 30, .int 5, .int 0, .ref q56, .int 0, .ref q64, .int 0, .ref q72, .int 0, .int 0, .int 0, .int 0, .ref q81, .int 0, .int (-1), .int 0, .long 0, .int 0, .int 0, .int 0, .int 0, .ref q94, .int 0, .ref q102, .ref q109, .int 0, .int 0, .ref q117, .ref q125, .ref q134, .int 0, .int 0, .int 0, .ref q142, .ref q151, .ref q160, .ref q168, .ref q176, .ref q184, .ref q192, .ref q201, .int 0, .null, .null, .null, .null]) rfl ?_
  refine N_aload_n hX dX11_init_206 rfl ?_
  refine N_bipush hX dX11_init_207 kb_40 ?_
  refine N_newa hX wk_aI (nI_pos (n := 40) (Nat.le_of_ble_eq_true rfl)) (n' := 40) (nI_clamp (n := 40) (Nat.le_of_ble_eq_true rfl)) (Nat.le_of_ble_eq_true rfl) (Nat.le_of_ble_eq_true rfl) (Nat.le_of_ble_eq_true rfl) dX11_init_209 (fun q209 => ?_)
  refine N_as ?_
  refine N_putF2 hX hI ff_X11_92 rfl rfl (Nat.le_of_ble_eq_true rfl) dX11_init_211 (fs' := [.int 0, .ref q7, .ref q15, .ref q23, .ref q31, .int 20, .int 30, .int 5, .int 0, .ref q56, .int 0, .ref q64, .int 0, .ref q72, .int 0, .int 0, .int 0, .int 0, .ref q81, .int 0, .int (-1), .int 0, .long 0, .int 0, .int 0, .int 0, .int 0, .ref q94, .int 0, .ref q102, .ref q109, .int 0, .int 0, .ref q117, .ref q125, .ref q134, .int 0, .int 0, .int 0, .ref q142, .ref q151, .ref q160, .ref q168, .ref q176, .ref q184, .ref q192, .ref q201, .int 0, .ref q209, .null, .null, .null]) rfl ?_
  refine N_aload_n hX dX11_init_214 rfl ?_
  refine N_bipush hX dX11_init_215 kb_32 ?_
  refine N_newa hX wk_aI (nI_pos (n := 32) (Nat.le_of_ble_eq_true rfl)) (n' := 32) (nI_clamp (n := 32) (Nat.le_of_ble_eq_true rfl)) (Nat.le_of_ble_eq_true rfl) (Nat.le_of_ble_eq_true rfl) (Nat.le_of_ble_eq_true rfl) dX11_init_217 (fun q217 => ?_)
  refine N_as ?_
  refine N_putF2 hX hI ff_X11_95 rfl rfl (Nat.le_of_ble_eq_true rfl) dX11_init_219 (fs' := [.int 0, .ref q7, .ref q15, .ref q23, .ref q31, .int 20, .int 30, .int 5, .int 0, .ref q56, .int 0, .ref q64, .int 0, .ref q72, .int 0, .int 0, .int 0, .int 0, .ref q81, .int 0, .int (-1), .int 0, .long 0, .int 0, .int 0, .int 0, .int 0, .ref q94, .int 0, .ref q102, .ref q109, .int 0, .int 0, .ref q117, .ref q125, .ref q134, .int 0, .int 0, .int 0, .ref q142, .ref q151, .ref q160, .ref q168, .ref q176, .ref q184, .ref q192, .ref q201, .int 0, .ref q209, .ref q217, .null, .null]) rfl ?_
  refine N_aload_n hX dX11_init_222 rfl ?_
  refine N_bipush hX dX11_init_223 kb_100 ?_
  refine N_newa hX wk_aI (nI_pos (n := 100) (Nat.le_of_ble_eq_true rfl)) (n' := 100) (nI_clamp (n := 100) (Nat.le_of_ble_eq_true rfl)) (Nat.le_of_ble_eq_true rfl) (Nat.le_of_ble_eq_true rfl) (Nat.le_of_ble_eq_true rfl) dX11_init_225 (fun q225 => ?_)
  refine N_as ?_
  refine N_putF2 hX hI ff_X11_98 rfl rfl (Nat.le_of_ble_eq_true rfl) dX11_init_227 (fs' := [.int 0, .ref q7, .ref q15, .ref q23, .ref q31, .int 20, .int 30, .int 5, .int 0, .ref q56, .int 0, .ref q64, .int 0, .ref q72, .int 0, .int 0, .int 0, .int 0, .ref q81, .int 0, .int (-1), .int 0, .long 0, .int 0, .int 0, .int 0, .int 0, .ref q94, .int 0, .ref q102, .ref q109, .int 0, .int 0, .ref q117, .ref q125, .ref q134, .int 0, .int 0, .int 0, .ref q142, .ref q151, .ref q160, .ref q168, .ref q176, .ref q184, .ref q192, .ref q201, .int 0, .ref q209, .ref q217, .ref q225, .null]) rfl ?_
  refine N_aload_n hX dX11_init_230 rfl ?_
  refine N_iconst hX dX11_init_231 k_i2 ?_
  refine N_newz hX wk_aZ (nI_pos (n := 2) (Nat.le_of_ble_eq_true rfl)) (n' := 2) (nI_clamp (n := 2) (Nat.le_of_ble_eq_true rfl)) (Nat.le_of_ble_eq_true rfl) (Nat.le_of_ble_eq_true rfl) (Nat.le_of_ble_eq_true rfl) dX11_init_232 (fun q232 => ?_)
  refine N_as ?_
  refine N_putF2 hX hI ff_X11_101 rfl rfl (Nat.le_of_ble_eq_true rfl) dX11_init_234 (fs' := [.int 0, .ref q7, .ref q15, .ref q23, .ref q31, .int 20, .int 30, .int 5, .int 0, .ref q56, .int 0, .ref q64, .int 0, .ref q72, .int 0, .int 0, .int 0, .int 0, .ref q81, .int 0, .int (-1), .int 0, .long 0, .int 0, .int 0, .int 0, .int 0, .ref q94, .int 0, .ref q102, .ref q109, .int 0, .int 0, .ref q117, .ref q125, .ref q134, .int 0, .int 0, .int 0, .ref q142, .ref q151, .ref q160, .ref q168, .ref q176, .ref q184, .ref q192, .ref q201, .int 0, .ref q209, .ref q217, .ref q225, .ref q232]) rfl ?_
  refine N_aload_n hX dX11_init_237 rfl ?_
  refine N_iconst hX dX11_init_238 k_i0 ?_
  refine N_put2 hX fp_X11_104 (by decide +kernel) (by decide +kernel) (Nat.le_of_ble_eq_true rfl) dX11_init_239 (fs' := [.int 0, .ref q7, .ref q15, .ref q23, .ref q31, .int 20, .int 30, .int 5, .int 0, .ref q56, .int 0, .ref q64, .int 0, .ref q72, .int 0, .int 0, .int 0, .int 0, .ref q81, .int 0, .int (-1), .int 0, .long 0, .int 0, .int 0, .int 0, .int 0, .ref q94, .int 0, .ref q102, .ref q109, .int 0, .int 0, .ref q117, .ref q125, .ref q134, .int 0, .int 0, .int 0, .ref q142, .ref q151, .ref q160, .ref q168, .ref q176, .ref q184, .ref q192, .ref q201, .int 0, .ref q209, .ref q217, .ref q225, .ref q232]) rfl ?_
  exact N_vret hX hM ⟨fun k => [q7, q15, q23, q31, q56, q64, q72, q81, q94, q102, q109, q117, q125, q134, q142, q151, q160, q168, q176, q184, q192, q201, q209, q217, q225, q232].getD k 0, rfl⟩ (Nat.le_of_ble_eq_true rfl) (Nat.le_of_ble_eq_true rfl) dX11_init_242
