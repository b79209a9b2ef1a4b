-- J6_bitCount_0f7a4
noncomputable def f_J6_bitCount_0f7a4 (v0 : Int32) : Option Int32 :=
  bd (v0 - (((v0.toUInt32 >>> ((1 : Int32).toUInt32 &&& Int32.toUInt32 31)).toInt32) &&& 1431655765)) (fun x1 =>
    bd ((x1 &&& 858993459) + (((x1.toUInt32 >>> ((2 : Int32).toUInt32 &&& Int32.toUInt32 31)).toInt32) &&& 858993459)) (fun x2 =>
      bd ((x2 + ((x2.toUInt32 >>> ((4 : Int32).toUInt32 &&& Int32.toUInt32 31)).toInt32)) &&& 252645135) (fun x3 =>
        bd (x3 + ((x3.toUInt32 >>> ((8 : Int32).toUInt32 &&& Int32.toUInt32 31)).toInt32)) (fun x4 =>
          bd (x4 + ((x4.toUInt32 >>> ((16 : Int32).toUInt32 &&& Int32.toUInt32 31)).toInt32)) (fun x5 =>
            some (x5 &&& 63))))))
abbrev Y_J6_bitCount_0f7a4 : jY := (yJ6_bitCount_0f7a4, cJ6_bitCount_0f7a4, 1, some .int, { frames := 0, cells := 0, slots := 0, locals := 0 })
theorem C_J6_bitCount_0f7a4 {l : Launch} {G : jG} (hG : jWL G) (v0 : Int32) (σ : jS) : jC (r_P σ) l G Y_J6_bitCount_0f7a4 [.int v0] σ (f_J6_bitCount_0f7a4 v0) := by
  refine jw_met hG pn_J6 (Nat.le_of_ble_eq_true rfl) ⟨rfl, rfl⟩ ?_
  intro X hX hM
  have hX : jB X l G cJ6_bitCount_0f7a4 RJ6 1 { frames := 0, cells := 0, slots := 0, locals := 0 } := hX
  have hM : jM X (some .int) := hM
  show J X 0 [(0, .int v0)] [] σ (f_J6_bitCount_0f7a4 v0) (jk (r_P σ) X)
  unfold f_J6_bitCount_0f7a4
  refine J_iload_n hX dJ6_bitCount_0f7a4_0 rfl ?_
  refine J_iload_n hX dJ6_bitCount_0f7a4_1 rfl ?_
  refine J_iconst hX dJ6_bitCount_0f7a4_2 k_i1 ?_
  refine J_iushr hX dJ6_bitCount_0f7a4_3 ?_
  refine J_ldcw hX wc_J6_265 dJ6_bitCount_0f7a4_4 ?_
  refine J_iand hX dJ6_bitCount_0f7a4_7 ?_
  refine J_isub hX dJ6_bitCount_0f7a4_8 ?_
  refine J_bdI (fun x6 => ?_)
  refine J_istore_n hX dJ6_bitCount_0f7a4_9 (Nat.le_of_ble_eq_true rfl) (lv' := [(0, .int x6)]) rfl ?_
  refine J_iload_n hX dJ6_bitCount_0f7a4_10 rfl ?_
  refine J_ldcw hX wc_J6_266 dJ6_bitCount_0f7a4_11 ?_
  refine J_iand hX dJ6_bitCount_0f7a4_14 ?_
  refine J_iload_n hX dJ6_bitCount_0f7a4_15 rfl ?_
  refine J_iconst hX dJ6_bitCount_0f7a4_16 k_i2 ?_
  refine J_iushr hX dJ6_bitCount_0f7a4_17 ?_
  refine J_ldcw hX wc_J6_266 dJ6_bitCount_0f7a4_18 ?_
  refine J_iand hX dJ6_bitCount_0f7a4_21 ?_
  refine J_iadd hX dJ6_bitCount_0f7a4_22 ?_
  refine J_bdI (fun x7 => ?_)
  refine J_istore_n hX dJ6_bitCount_0f7a4_23 (Nat.le_of_ble_eq_true rfl) (lv' := [(0, .int x7)]) rfl ?_
  refine J_iload_n hX dJ6_bitCount_0f7a4_24 rfl ?_
  refine J_iload_n hX dJ6_bitCount_0f7a4_25 rfl ?_
  refine J_iconst hX dJ6_bitCount_0f7a4_26 k_i4 ?_
  refine J_iushr hX dJ6_bitCount_0f7a4_27 ?_
  refine J_iadd hX dJ6_bitCount_0f7a4_28 ?_
  refine J_ldcw hX wc_J6_267 dJ6_bitCount_0f7a4_29 ?_
  refine J_iand hX dJ6_bitCount_0f7a4_32 ?_
  refine J_bdI (fun x8 => ?_)
  refine J_istore_n hX dJ6_bitCount_0f7a4_33 (Nat.le_of_ble_eq_true rfl) (lv' := [(0, .int x8)]) rfl ?_
  refine J_iload_n hX dJ6_bitCount_0f7a4_34 rfl ?_
  refine J_iload_n hX dJ6_bitCount_0f7a4_35 rfl ?_
  refine J_bipush hX dJ6_bitCount_0f7a4_36 kb_8 ?_
  refine J_iushr hX dJ6_bitCount_0f7a4_38 ?_
  refine J_iadd hX dJ6_bitCount_0f7a4_39 ?_
  refine J_bdI (fun x9 => ?_)
  refine J_istore_n hX dJ6_bitCount_0f7a4_40 (Nat.le_of_ble_eq_true rfl) (lv' := [(0, .int x9)]) rfl ?_
  refine J_iload_n hX dJ6_bitCount_0f7a4_41 rfl ?_
  refine J_iload_n hX dJ6_bitCount_0f7a4_42 rfl ?_
  refine J_bipush hX dJ6_bitCount_0f7a4_43 kb_16 ?_
  refine J_iushr hX dJ6_bitCount_0f7a4_45 ?_
  refine J_iadd hX dJ6_bitCount_0f7a4_46 ?_
  refine J_bdI (fun x10 => ?_)
  refine J_istore_n hX dJ6_bitCount_0f7a4_47 (Nat.le_of_ble_eq_true rfl) (lv' := [(0, .int x10)]) rfl ?_
  refine J_iload_n hX dJ6_bitCount_0f7a4_48 rfl ?_
  refine J_bipush hX dJ6_bitCount_0f7a4_49 kb_63 ?_
  refine J_iand hX dJ6_bitCount_0f7a4_51 ?_
  exact J_iretP hX hM dJ6_bitCount_0f7a4_52
theorem mw_J6_bitCount_0f7a4 : jMS Y_J6_bitCount_0f7a4 1 := ⟨⟨tw_tb (List.mem_of_getElem? (i := 972) (by decide +kernel)) (by decide +kernel), tw_tb (List.mem_of_getElem? (i := 19) (by decide +kernel)) (by decide +kernel), tw_tb (List.mem_of_getElem? (i := 973) (by decide +kernel)) (by decide +kernel)⟩, ⟨rfl, rfl⟩, by decide +kernel, by decide +kernel, by decide +kernel⟩
-- J7_fill_53178
noncomputable def f_J7_fill_53178_L5 (nm : Nat → Nat) (n0 : Nat) (v1 : Int32) (v3 : Int32) (s : (Int32 × jS)) : Option ((Int32 × jS) ⊕ jS) :=
  match s with
  | (v2, σ) =>
    if v3 ≤ v2 then
      some (.inr σ)
    else
      gd (vp_in v2 n0) (bd (s_i σ (nm 0) v2.toNatClampNeg v1) (fun s2 =>
        some (.inl (v2 + 1, s2))))
noncomputable def f_J7_fill_53178 (nm : Nat → Nat) (n0 : Nat) (v1 : Int32) (σ : jS) : Option jS :=
  bd (nI n0) (fun x1 =>
    (lp (f_J7_fill_53178_L5 nm n0 v1 x1) fu (0, σ)).bind (fun s3 =>
      some s3))
abbrev Y_J7_fill_53178 : jY := (yJ7_fill_53178, cJ7_fill_53178, 4, none, { frames := 0, cells := 0, slots := 0, locals := 0 })
theorem C_J7_fill_53178 {l : Launch} {G : jG} {nm : Nat → Nat} {n0 : Nat} (hG : jWL G) (hE : jE G nm (LS_A n0)) (v1 : Int32) (σ : jS) : jC r_V l G Y_J7_fill_53178 [.ref (jad G (nm 0)), .int v1] σ (f_J7_fill_53178 nm n0 v1 σ) := by
  refine jw_met hG pn_J7 (Nat.le_of_ble_eq_true rfl) ⟨rfl, rfl⟩ ?_
  intro X hX hM
  have hX : jB X l G cJ7_fill_53178 RJ7 4 { frames := 0, cells := 0, slots := 0, locals := 0 } := hX
  have hM : jM X (none) := hM
  show J X 0 [(0, .ref (jad G (nm 0))), (1, .int v1)] [] σ (f_J7_fill_53178 nm n0 v1 σ) (jk r_V X)
  unfold f_J7_fill_53178
  refine J_iconst hX dJ7_fill_53178_0 k_i0 ?_
  refine J_istore_n hX dJ7_fill_53178_1 (Nat.le_of_ble_eq_true rfl) (lv' := [(0, .ref (jad G (nm 0))), (1, .int v1), (2, .int 0)]) rfl ?_
  refine J_aload_n hX dJ7_fill_53178_2 rfl ?_
  refine J_alen hX hE 0 rfl dJ7_fill_53178_3 ?_
  refine J_bdI (fun x4 => ?_)
  refine J_istore_n hX dJ7_fill_53178_4 (Nat.le_of_ble_eq_true rfl) (lv' := [(0, .ref (jad G (nm 0))), (1, .int v1), (2, .int 0), (3, .int x4)]) rfl ?_
  refine J_keep [0, 1, 2, 3] (lv' := [(0, .ref (jad G (nm 0))), (1, .int v1), (2, .int 0), (3, .int x4)]) rfl ?_
  refine J_lp (pc := 5) (s0 := (0, σ)) (fun (s : (Int32 × jS)) => [(0, .ref (jad G (nm 0))), (1, .int v1), (2, .int (s.1)), (3, .int x4)]) (fun (s : (Int32 × jS)) => s.2) ?_
  intro KK5 hN5 hQ5 z5
  obtain ⟨v2_5, σ_5⟩ := z5
  show J X 5 [(0, .ref (jad G (nm 0))), (1, .int v1), (2, .int v2_5), (3, .int x4)] [] σ_5 (f_J7_fill_53178_L5 nm n0 v1 x4 (v2_5, σ_5)) KK5
  unfold f_J7_fill_53178_L5
  refine J_iload_n hX dJ7_fill_53178_5 rfl ?_
  refine J_iload_n hX dJ7_fill_53178_6 rfl ?_
  refine J_icmp_ge hX dJ7_fill_53178_7 (tgt := 20) rfl (fun _ => ?_) (fun _ => ?_)
  · refine hQ5 _ _ _ _ _ ?_
    exact J_vret hX hM dJ7_fill_53178_20
  · refine J_aload_n hX dJ7_fill_53178_10 rfl ?_
    refine J_iload_n hX dJ7_fill_53178_11 rfl ?_
    refine J_iload_n hX dJ7_fill_53178_12 rfl ?_
    refine J_iast hX hE 0 rfl dJ7_fill_53178_13 (fun _ => ?_)
    refine J_bdS (fun s5 => ?_)
    refine J_iinc hX dJ7_fill_53178_14 rfl (congrArg (_ + ·) k_i1) (Nat.le_of_ble_eq_true rfl) (lv' := [(0, .ref (jad G (nm 0))), (1, .int v1), (2, .int (v2_5 + 1)), (3, .int x4)]) rfl ?_
    refine J_goto hX dJ7_fill_53178_17 (tgt := 5) rfl ?_
    exact J_keep [0, 1, 2, 3] rfl (hN5 (v2_5 + 1, s5))
theorem mw_J7_fill_53178 : jMS Y_J7_fill_53178 2 := ⟨⟨tw_tb (List.mem_of_getElem? (i := 750) (by decide +kernel)) (by decide +kernel), tw_tb (List.mem_of_getElem? (i := 18) (by decide +kernel)) (by decide +kernel), tw_tb (List.mem_of_getElem? (i := 751) (by decide +kernel)) (by decide +kernel)⟩, ⟨rfl, rfl⟩, by decide +kernel, by decide +kernel, by decide +kernel⟩
-- X4_size
noncomputable def f_X4_size (nm : Nat → Nat) (n0 : Nat) (σ : jS) : Option Int32 :=
  some (g_i σ (nm 0) 1)
abbrev Y_X4_size : jY := (yX4_size, cX4_size, 1, some .int, { frames := 0, cells := 0, slots := 0, locals := 0 })
theorem C_X4_size {l : Launch} {G : jG} {nm : Nat → Nat} {n0 : Nat} (hG : jWL G) (hE : jE G nm (LS_X4 n0)) (σ : jS) : jC (r_P σ) l G Y_X4_size [.ref (jad G (nm 0))] σ (f_X4_size nm n0 σ) := by
  refine jw_met hG pn_X4 (Nat.le_of_ble_eq_true rfl) ⟨rfl, rfl⟩ ?_
  intro X hX hM
  have hX : jB X l G cX4_size RX4 1 { frames := 0, cells := 0, slots := 0, locals := 0 } := hX
  have hM : jM X (some .int) := hM
  show J X 0 [(0, .ref (jad G (nm 0)))] [] σ (f_X4_size nm n0 σ) (jk (r_P σ) X)
  unfold f_X4_size
  refine J_aload_n hX dX4_size_0 rfl ?_
  refine J_geti hX hE 0 1 rfl rfl fl_X4_21 dX4_size_1 ?_
  exact J_iretP hX hM dX4_size_4
theorem mw_X4_size : jMV Y_X4_size 0 := ⟨⟨tw_tb (List.mem_of_getElem? (i := 406) (by decide +kernel)) (by decide +kernel), tw_tb (List.mem_of_getElem? (i := 407) (by decide +kernel)) (by decide +kernel), tw_tb (List.mem_of_getElem? (i := 2) (by decide +kernel)) (by decide +kernel), tw_tb (List.mem_of_getElem? (i := 408) (by decide +kernel)) (by decide +kernel)⟩, ⟨rfl, rfl⟩, by decide +kernel, by decide +kernel, by decide +kernel⟩
-- X6_lamps
noncomputable def f_X6_lamps (nm : Nat → Nat) (σ : jS) : Option Int32 :=
  (f_X4_size (jn nm [1, 2]) 10 σ).bind (fun q1 =>
    some q1)
abbrev Y_X6_lamps : jY := (yX6_lamps, cX6_lamps, 1, some .int, { frames := 1, cells := 0, slots := 0, locals := 20 })
theorem C_X6_lamps {l : Launch} {G : jG} {nm : Nat → Nat} (hG : jWL G) (hE : jE G nm LS_X6) (σ : jS) : jC (r_P σ) l G Y_X6_lamps [.ref (jad G (nm 0))] σ (f_X6_lamps nm σ) := by
  refine jw_met hG pn_X6 (Nat.le_of_ble_eq_true rfl) ⟨rfl, rfl⟩ ?_
  intro X hX hM
  have hX : jB X l G cX6_lamps RX6 1 { frames := 1, cells := 0, slots := 0, locals := 20 } := hX
  have hM : jM X (some .int) := hM
  show J X 0 [(0, .ref (jad G (nm 0)))] [] σ (f_X6_lamps nm σ) (jk (r_P σ) X)
  unfold f_X6_lamps
  refine J_aload_n hX dX6_lamps_0 rfl ?_
  refine J_getr hX hE 0 0 rfl rfl fl_X6_14 dX6_lamps_1 ?_
  refine J_cVP hX hE 1 (C_X4_size hG (hE.sb [1, 2] sb_0) σ) mw_X4_size ml_X6_41 rfl rfl rfl ⟨Nat.le_of_ble_eq_true rfl, Nat.le_of_ble_eq_true rfl⟩ rfl rfl (Nat.le_of_ble_eq_true rfl) dX6_lamps_4 (fun q2 => ?_)
  exact J_iretP hX hM dX6_lamps_7
theorem mw_X6_lamps : jMV Y_X6_lamps 0 := ⟨⟨tw_tb (List.mem_of_getElem? (i := 565) (by decide +kernel)) (by decide +kernel), tw_tb (List.mem_of_getElem? (i := 566) (by decide +kernel)) (by decide +kernel), tw_tb (List.mem_of_getElem? (i := 5) (by decide +kernel)) (by decide +kernel), tw_tb (List.mem_of_getElem? (i := 567) (by decide +kernel)) (by decide +kernel)⟩, ⟨rfl, rfl⟩, by decide +kernel, by decide +kernel, by decide +kernel⟩
-- X2_noteOf
noncomputable def f_X2_noteOf (nm : Nat → Nat) (v1 : Int32) (σ : jS) : Option Int32 :=
  if v1 < 0 then
    some 0
  else
    if 10 ≤ v1 then
      some 0
    else
      gd (vp_in v1 10) (
        some (g_i σ (nm 18) v1.toNatClampNeg))
abbrev Y_X2_noteOf : jY := (yX2_noteOf, cX2_noteOf, 2, some .int, { frames := 0, cells := 0, slots := 0, locals := 0 })
theorem C_X2_noteOf {l : Launch} {G : jG} {nm : Nat → Nat} (hG : jWL G) (hE : jE G nm LS_X2) (v1 : Int32) (σ : jS) : jC (r_P σ) l G Y_X2_noteOf [.ref (jad G (nm 0)), .int v1] σ (f_X2_noteOf nm v1 σ) := by
  refine jw_met hG pn_X2 (Nat.le_of_ble_eq_true rfl) ⟨rfl, rfl⟩ ?_
  intro X hX hM
  have hX : jB X l G cX2_noteOf RX2 2 { frames := 0, cells := 0, slots := 0, locals := 0 } := hX
  have hM : jM X (some .int) := hM
  show J X 0 [(0, .ref (jad G (nm 0))), (1, .int v1)] [] σ (f_X2_noteOf nm v1 σ) (jk (r_P σ) X)
  unfold f_X2_noteOf
  refine J_iload_n hX dX2_noteOf_0 rfl ?_
  refine J_if_lt hX dX2_noteOf_1 (tgt := 19) rfl (fun _ => ?_) (fun _ => ?_)
  · refine J_iconst hX dX2_noteOf_19 k_i0 ?_
    exact J_iretP hX hM dX2_noteOf_20
  · refine J_iload_n hX dX2_noteOf_4 rfl ?_
    refine J_bipush hX dX2_noteOf_5 kb_10 ?_
    refine J_icmp_ge hX dX2_noteOf_7 (tgt := 19) rfl (fun _ => ?_) (fun _ => ?_)
    · refine J_iconst hX dX2_noteOf_19 k_i0 ?_
      exact J_iretP hX hM dX2_noteOf_20
    · refine J_aload_n hX dX2_noteOf_10 rfl ?_
      refine J_getr hX hE 0 1 rfl rfl fl_X2_9 dX2_noteOf_11 ?_
      refine J_iload_n hX dX2_noteOf_14 rfl ?_
      refine J_iald hX hE 18 rfl dX2_noteOf_15 (fun _ => ?_)
      refine J_goto hX dX2_noteOf_16 (tgt := 20) rfl ?_
      exact J_iretP hX hM dX2_noteOf_20
theorem mw_X2_noteOf : jMV Y_X2_noteOf 1 := ⟨⟨tw_tb (List.mem_of_getElem? (i := 655) (by decide +kernel)) (by decide +kernel), tw_tb (List.mem_of_getElem? (i := 656) (by decide +kernel)) (by decide +kernel), tw_tb (List.mem_of_getElem? (i := 8) (by decide +kernel)) (by decide +kernel), tw_tb (List.mem_of_getElem? (i := 657) (by decide +kernel)) (by decide +kernel)⟩, ⟨rfl, rfl⟩, by decide +kernel, by decide +kernel, by decide +kernel⟩
-- X0_restWith
noncomputable def f_X0_restWith (nm : Nat → Nat) (v1 : Int32) (v2 : Int32) (v3 : Int32) (σ : jS) : Option Int32 :=
  bd (v1 ||| (1 <<< (v2 &&& 31))) (fun x1 =>
    if x1 = v1 then
      some 100000
    else
      if 1024 ≤ x1 then
        some 100000
      else
        (f_X2_noteOf (jn nm [18, 1, 2, 3, 4, 5, 6, 7, 8, 9, 10, 11, 12, 13, 14, 15, 16, 17, 19, 20, 21, 22]) v2 σ).bind (fun q2 =>
          if q2 ≤ v3 then
            (f_X2_noteOf (jn nm [18, 1, 2, 3, 4, 5, 6, 7, 8, 9, 10, 11, 12, 13, 14, 15, 16, 17, 19, 20, 21, 22]) v2 σ).bind (fun q3 =>
              gd (vp_in x1 1024) (
                some ((v3 - q3) + (g_i σ (nm 24) x1.toNatClampNeg))))
          else
            some 100000))
abbrev Y_X0_restWith : jY := (yX0_restWith, cX0_restWith, 5, some .int, { frames := 1, cells := 0, slots := 0, locals := 21 })
theorem C_X0_restWith {l : Launch} {G : jG} {nm : Nat → Nat} (hG : jWL G) (hE : jE G nm LS_X0) (v1 : Int32) (v2 : Int32) (v3 : Int32) (σ : jS) : jC (r_P σ) l G Y_X0_restWith [.ref (jad G (nm 0)), .int v1, .int v2, .int v3] σ (f_X0_restWith nm v1 v2 v3 σ) := by
  refine jw_met hG pn_X0 (Nat.le_of_ble_eq_true rfl) ⟨rfl, rfl⟩ ?_
  intro X hX hM
  have hX : jB X l G cX0_restWith RX0 5 { frames := 1, cells := 0, slots := 0, locals := 21 } := hX
  have hM : jM X (some .int) := hM
  show J X 0 [(0, .ref (jad G (nm 0))), (1, .int v1), (2, .int v2), (3, .int v3)] [] σ (f_X0_restWith nm v1 v2 v3 σ) (jk (r_P σ) X)
  unfold f_X0_restWith
  refine J_iload_n hX dX0_restWith_0 rfl ?_
  refine J_iconst hX dX0_restWith_1 k_i1 ?_
  refine J_iload_n hX dX0_restWith_2 rfl ?_
  refine J_ishl hX dX0_restWith_3 ?_
  refine J_ior hX dX0_restWith_4 ?_
  refine J_bdI (fun x4 => ?_)
  refine J_istore hX dX0_restWith_5 (Nat.le_of_ble_eq_true rfl) (lv' := [(0, .ref (jad G (nm 0))), (1, .int v1), (2, .int v2), (3, .int v3), (4, .int x4)]) rfl ?_
  refine J_iload hX dX0_restWith_7 rfl ?_
  refine J_iload_n hX dX0_restWith_9 rfl ?_
  refine J_icmp_eq hX dX0_restWith_10 (tgt := 33) rfl (fun _ => ?_) (fun _ => ?_)
  · refine J_ldc hX wc_X0_97 dX0_restWith_33 ?_
    exact J_iretP hX hM dX0_restWith_35
  · refine J_iload hX dX0_restWith_13 rfl ?_
    refine J_sipush hX dX0_restWith_15 ks_1024 ?_
    refine J_icmp_ge hX dX0_restWith_18 (tgt := 33) rfl (fun _ => ?_) (fun _ => ?_)
    · refine J_ldc hX wc_X0_97 dX0_restWith_33 ?_
      exact J_iretP hX hM dX0_restWith_35
    · refine J_aload_n hX dX0_restWith_21 rfl ?_
      refine J_getr hX hE 0 0 rfl rfl fl_X0_18 dX0_restWith_22 ?_
      refine J_iload_n hX dX0_restWith_25 rfl ?_
      refine J_cVP hX hE 18 (C_X2_noteOf hG (hE.sb [18, 1, 2, 3, 4, 5, 6, 7, 8, 9, 10, 11, 12, 13, 14, 15, 16, 17, 19, 20, 21, 22] sb_1) v2 σ) mw_X2_noteOf ml_X0_38 rfl rfl rfl ⟨Nat.le_of_ble_eq_true rfl, Nat.le_of_ble_eq_true rfl⟩ rfl rfl (Nat.le_of_ble_eq_true rfl) dX0_restWith_26 (fun q5 => ?_)
      refine J_iload_n hX dX0_restWith_29 rfl ?_
      refine J_icmp_le hX dX0_restWith_30 (tgt := 36) rfl (fun _ => ?_) (fun _ => ?_)
      · refine J_iload_n hX dX0_restWith_36 rfl ?_
        refine J_aload_n hX dX0_restWith_37 rfl ?_
        refine J_getr hX hE 0 0 rfl rfl fl_X0_18 dX0_restWith_38 ?_
        refine J_iload_n hX dX0_restWith_41 rfl ?_
        refine J_cVP hX hE 18 (C_X2_noteOf hG (hE.sb [18, 1, 2, 3, 4, 5, 6, 7, 8, 9, 10, 11, 12, 13, 14, 15, 16, 17, 19, 20, 21, 22] sb_1) v2 σ) mw_X2_noteOf ml_X0_38 rfl rfl rfl ⟨Nat.le_of_ble_eq_true rfl, Nat.le_of_ble_eq_true rfl⟩ rfl rfl (Nat.le_of_ble_eq_true rfl) dX0_restWith_42 (fun q6 => ?_)
        refine J_isub hX dX0_restWith_45 ?_
        refine J_aload_n hX dX0_restWith_46 rfl ?_
        refine J_getr hX hE 0 2 rfl rfl fl_X0_15 dX0_restWith_47 ?_
        refine J_iload hX dX0_restWith_50 rfl ?_
        refine J_iald hX hE 24 rfl dX0_restWith_52 (fun _ => ?_)
        refine J_iadd hX dX0_restWith_53 ?_
        exact J_iretP hX hM dX0_restWith_54
      · refine J_ldc hX wc_X0_97 dX0_restWith_33 ?_
        exact J_iretP hX hM dX0_restWith_35
theorem mw_X0_restWith : jMV Y_X0_restWith 3 := ⟨⟨tw_tb (List.mem_of_getElem? (i := 984) (by decide +kernel)) (by decide +kernel), tw_pv (List.mem_of_getElem? (i := 31) (by decide +kernel)) (by decide +kernel), tw_tb (List.mem_of_getElem? (i := 12) (by decide +kernel)) (by decide +kernel), tw_tb (List.mem_of_getElem? (i := 985) (by decide +kernel)) (by decide +kernel)⟩, ⟨rfl, rfl⟩, by decide +kernel, by decide +kernel, by decide +kernel⟩
-- X0_firstKeepingSum
noncomputable def f_X0_firstKeepingSum_L2 (nm : Nat → Nat) (v1 : Int32) (v2 : Int32) (σ : jS) (v3 : Int32) : Option (Int32 ⊕ (Unit ⊕ Int32)) :=
  (f_X6_lamps (jn nm [1, 2, 3, 4, 5, 6, 7, 8, 9, 10, 11, 12, 13, 14, 15, 16, 17]) σ).bind (fun q1 =>
    if q1 ≤ v3 then
      some (.inr (.inl ()))
    else
      if 1024 ≤ v1 then
        some (.inl (v3 + 1))
      else
        (f_X0_restWith nm v1 v3 v2 σ).bind (fun q2 =>
          gd (vp_in v1 1024) (
            if q2 = (g_i σ (nm 24) v1.toNatClampNeg) then
              some (.inr (.inr v3))
            else
              some (.inl (v3 + 1)))))
noncomputable def f_X0_firstKeepingSum (nm : Nat → Nat) (v1 : Int32) (v2 : Int32) (σ : jS) : Option Int32 :=
  (lp (f_X0_firstKeepingSum_L2 nm v1 v2 σ) fu 0).bind (fun x => match x with
  | .inl _ =>
    some (-1)
  | .inr a => some a)
abbrev Y_X0_firstKeepingSum : jY := (yX0_firstKeepingSum, cX0_firstKeepingSum, 4, some .int, { frames := 2, cells := 0, slots := 0, locals := 45 })
theorem C_X0_firstKeepingSum {l : Launch} {G : jG} {nm : Nat → Nat} (hG : jWL G) (hE : jE G nm LS_X0) (v1 : Int32) (v2 : Int32) (σ : jS) : jC (r_P σ) l G Y_X0_firstKeepingSum [.ref (jad G (nm 0)), .int v1, .int v2] σ (f_X0_firstKeepingSum nm v1 v2 σ) := by
  refine jw_met hG pn_X0 (Nat.le_of_ble_eq_true rfl) ⟨rfl, rfl⟩ ?_
  intro X hX hM
  have hX : jB X l G cX0_firstKeepingSum RX0 4 { frames := 2, cells := 0, slots := 0, locals := 45 } := hX
  have hM : jM X (some .int) := hM
  show J X 0 [(0, .ref (jad G (nm 0))), (1, .int v1), (2, .int v2)] [] σ (f_X0_firstKeepingSum nm v1 v2 σ) (jk (r_P σ) X)
  unfold f_X0_firstKeepingSum
  refine J_iconst hX dX0_firstKeepingSum_0 k_i0 ?_
  refine J_istore_n hX dX0_firstKeepingSum_1 (Nat.le_of_ble_eq_true rfl) (lv' := [(0, .ref (jad G (nm 0))), (1, .int v1), (2, .int v2), (3, .int 0)]) rfl ?_
  refine J_keep [0, 1, 2, 3] (lv' := [(0, .ref (jad G (nm 0))), (1, .int v1), (2, .int v2), (3, .int 0)]) rfl ?_
  refine J_lp (pc := 2) (s0 := 0) (fun (s : Int32) => [(0, .ref (jad G (nm 0))), (1, .int v1), (2, .int v2), (3, .int s)]) (fun (s : Int32) => σ) ?_
  intro KK2 hN2 hQ2 z2
  obtain ⟨v3_2, rfl⟩ : ∃ y, y = z2 := ⟨_, rfl⟩
  show J X 2 [(0, .ref (jad G (nm 0))), (1, .int v1), (2, .int v2), (3, .int v3_2)] [] σ (f_X0_firstKeepingSum_L2 nm v1 v2 σ v3_2) KK2
  unfold f_X0_firstKeepingSum_L2
  refine J_iload_n hX dX0_firstKeepingSum_2 rfl ?_
  refine J_aload_n hX dX0_firstKeepingSum_3 rfl ?_
  refine J_getr hX hE 0 0 rfl rfl fl_X0_18 dX0_firstKeepingSum_4 ?_
  refine J_getr hX hE 18 0 rfl rfl fl_X0_22 dX0_firstKeepingSum_7 ?_
  refine J_cVP hX hE 1 (C_X6_lamps hG (hE.sb [1, 2, 3, 4, 5, 6, 7, 8, 9, 10, 11, 12, 13, 14, 15, 16, 17] sb_2) σ) mw_X6_lamps ml_X0_28 rfl rfl rfl ⟨Nat.le_of_ble_eq_true rfl, Nat.le_of_ble_eq_true rfl⟩ rfl rfl (Nat.le_of_ble_eq_true rfl) dX0_firstKeepingSum_10 (fun q3 => ?_)
  refine J_icmp_ge hX dX0_firstKeepingSum_13 (tgt := 47) rfl (fun _ => ?_) (fun _ => ?_)
  · refine hQ2 _ _ _ _ _ ?_
    refine J_iconst hX dX0_firstKeepingSum_47 k_im1 ?_
    exact J_iretP hX hM dX0_firstKeepingSum_48
  · refine J_iload_n hX dX0_firstKeepingSum_16 rfl ?_
    refine J_sipush hX dX0_firstKeepingSum_17 ks_1024 ?_
    refine J_icmp_ge hX dX0_firstKeepingSum_20 (tgt := 41) rfl (fun _ => ?_) (fun _ => ?_)
    · refine J_iinc hX dX0_firstKeepingSum_41 rfl (congrArg (_ + ·) k_i1) (Nat.le_of_ble_eq_true rfl) (lv' := [(0, .ref (jad G (nm 0))), (1, .int v1), (2, .int v2), (3, .int (v3_2 + 1))]) rfl ?_
      refine J_goto hX dX0_firstKeepingSum_44 (tgt := 2) rfl ?_
      exact J_keep [0, 1, 2, 3] rfl (hN2 (v3_2 + 1))
    · refine J_aload_n hX dX0_firstKeepingSum_23 rfl ?_
      refine J_iload_n hX dX0_firstKeepingSum_24 rfl ?_
      refine J_iload_n hX dX0_firstKeepingSum_25 rfl ?_
      refine J_iload_n hX dX0_firstKeepingSum_26 rfl ?_
      refine J_cVP hX hE 0 (C_X0_restWith hG hE v1 v3_2 v2 σ) mw_X0_restWith ml_X0_98 rfl rfl rfl ⟨Nat.le_of_ble_eq_true rfl, Nat.le_of_ble_eq_true rfl⟩ rfl rfl (Nat.le_of_ble_eq_true rfl) dX0_firstKeepingSum_27 (fun q4 => ?_)
      refine J_aload_n hX dX0_firstKeepingSum_30 rfl ?_
      refine J_getr hX hE 0 2 rfl rfl fl_X0_15 dX0_firstKeepingSum_31 ?_
      refine J_iload_n hX dX0_firstKeepingSum_34 rfl ?_
      refine J_iald hX hE 24 rfl dX0_firstKeepingSum_35 (fun _ => ?_)
      refine J_icmp_ne hX dX0_firstKeepingSum_36 (tgt := 41) rfl (fun _ => ?_) (fun _ => ?_)
      · refine J_iinc hX dX0_firstKeepingSum_41 rfl (congrArg (_ + ·) k_i1) (Nat.le_of_ble_eq_true rfl) (lv' := [(0, .ref (jad G (nm 0))), (1, .int v1), (2, .int v2), (3, .int (v3_2 + 1))]) rfl ?_
        refine J_goto hX dX0_firstKeepingSum_44 (tgt := 2) rfl ?_
        exact J_keep [0, 1, 2, 3] rfl (hN2 (v3_2 + 1))
      · refine J_iload_n hX dX0_firstKeepingSum_39 rfl ?_
        refine hQ2 _ _ _ _ _ ?_
        exact J_iretP hX hM dX0_firstKeepingSum_40
theorem mw_X0_firstKeepingSum : jMV Y_X0_firstKeepingSum 2 := ⟨⟨tw_tb (List.mem_of_getElem? (i := 992) (by decide +kernel)) (by decide +kernel), tw_pv (List.mem_of_getElem? (i := 32) (by decide +kernel)) (by decide +kernel), tw_tb (List.mem_of_getElem? (i := 12) (by decide +kernel)) (by decide +kernel), tw_tb (List.mem_of_getElem? (i := 993) (by decide +kernel)) (by decide +kernel)⟩, ⟨rfl, rfl⟩, by decide +kernel, by decide +kernel, by decide +kernel⟩
-- X4_at
noncomputable def f_X4_at (nm : Nat → Nat) (n0 : Nat) (v1 : Int32) (σ : jS) : Option Int32 :=
  if v1 < 0 then
    some 0
  else
    if (g_i σ (nm 0) 1) ≤ v1 then
      some 0
    else
      gd (vp_in v1 n0) (
        some (g_i σ (nm 1) v1.toNatClampNeg))
abbrev Y_X4_at : jY := (yX4_at, cX4_at, 2, some .int, { frames := 0, cells := 0, slots := 0, locals := 0 })
theorem C_X4_at {l : Launch} {G : jG} {nm : Nat → Nat} {n0 : Nat} (hG : jWL G) (hE : jE G nm (LS_X4 n0)) (v1 : Int32) (σ : jS) : jC (r_P σ) l G Y_X4_at [.ref (jad G (nm 0)), .int v1] σ (f_X4_at nm n0 v1 σ) := by
  refine jw_met hG pn_X4 (Nat.le_of_ble_eq_true rfl) ⟨rfl, rfl⟩ ?_
  intro X hX hM
  have hX : jB X l G cX4_at RX4 2 { frames := 0, cells := 0, slots := 0, locals := 0 } := hX
  have hM : jM X (some .int) := hM
  show J X 0 [(0, .ref (jad G (nm 0))), (1, .int v1)] [] σ (f_X4_at nm n0 v1 σ) (jk (r_P σ) X)
  unfold f_X4_at
  refine J_iload_n hX dX4_at_0 rfl ?_
  refine J_if_lt hX dX4_at_1 (tgt := 21) rfl (fun _ => ?_) (fun _ => ?_)
  · refine J_iconst hX dX4_at_21 k_i0 ?_
    exact J_iretP hX hM dX4_at_22
  · refine J_iload_n hX dX4_at_4 rfl ?_
    refine J_aload_n hX dX4_at_5 rfl ?_
    refine J_geti hX hE 0 1 rfl rfl fl_X4_21 dX4_at_6 ?_
    refine J_icmp_ge hX dX4_at_9 (tgt := 21) rfl (fun _ => ?_) (fun _ => ?_)
    · refine J_iconst hX dX4_at_21 k_i0 ?_
      exact J_iretP hX hM dX4_at_22
    · refine J_aload_n hX dX4_at_12 rfl ?_
      refine J_getr hX hE 0 0 rfl rfl fl_X4_15 dX4_at_13 ?_
      refine J_iload_n hX dX4_at_16 rfl ?_
      refine J_iald hX hE 1 rfl dX4_at_17 (fun _ => ?_)
      refine J_goto hX dX4_at_18 (tgt := 22) rfl ?_
      exact J_iretP hX hM dX4_at_22
theorem mw_X4_at : jMV Y_X4_at 1 := ⟨⟨tw_tb (List.mem_of_getElem? (i := 348) (by decide +kernel)) (by decide +kernel), tw_tb (List.mem_of_getElem? (i := 349) (by decide +kernel)) (by decide +kernel), tw_tb (List.mem_of_getElem? (i := 2) (by decide +kernel)) (by decide +kernel), tw_tb (List.mem_of_getElem? (i := 350) (by decide +kernel)) (by decide +kernel)⟩, ⟨rfl, rfl⟩, by decide +kernel, by decide +kernel, by decide +kernel⟩
-- X0_isWokenWith
noncomputable def f_X0_isWokenWith_J64 (nm : Nat → Nat) (v1 : Int32) (v2 : Int32) (v3 : Int32) (σ : jS) : Option Int32 :=
  some 0
noncomputable def f_X0_isWokenWith_J65 (nm : Nat → Nat) (v1 : Int32) (v2 : Int32) (v3 : Int32) (t0 : Int32) (σ : jS) : Option Int32 :=
  (f_X4_at (jn nm [8, 9]) 10 v1 σ).bind (fun q4 =>
    bd (v2 - (q4 * (g_i σ (nm 18) 6))) (fun x5 =>
      (f_X4_at (jn nm [8, 9]) 10 v3 σ).bind (fun q6 =>
        bd (t0 - (q6 * (g_i σ (nm 18) 6))) (fun x7 =>
          (f_X4_at (jn nm [6, 7]) 10 v1 σ).bind (fun q8 =>
            (f_X4_at (jn nm [6, 7]) 10 v3 σ).bind (fun q9 =>
              bd (imax (x5 - q8) (x7 - q9)) (fun x10 =>
                (f_X4_at (jn nm [6, 7]) 10 v1 σ).bind (fun q11 =>
                  (f_X4_at (jn nm [6, 7]) 10 v3 σ).bind (fun q12 =>
                    bd (imin (x5 + q11) (x7 + q12)) (fun x13 =>
                      if (imin x13 63) < (imax x10 0) then
                        some 0
                      else
                        some 1))))))))))
noncomputable def f_X0_isWokenWith (nm : Nat → Nat) (v1 : Int32) (v2 : Int32) (v3 : Int32) (σ : jS) : Option Int32 :=
  (f_X4_at (jn nm [2, 3]) 10 v1 σ).bind (fun q1 =>
    (f_X4_at (jn nm [2, 3]) 10 v3 σ).bind (fun q2 =>
      if (iabs (q1 - q2)) ≤ (2 * ((g_i σ (nm 1) 10) - 1)) then
        (if v3 < 0 then
          f_X0_isWokenWith_J64 nm v1 v2 v3 σ
        else
          if 10 ≤ v3 then
            f_X0_isWokenWith_J64 nm v1 v2 v3 σ
          else
            gd (vp_in v3 10) (
              some (g_i σ (nm 23) v3.toNatClampNeg))).bind (fun y3 =>
          f_X0_isWokenWith_J65 nm v1 v2 v3 y3 σ)
      else
        some 0))
abbrev Y_X0_isWokenWith : jY := (yX0_isWokenWith, cX0_isWokenWith, 10, some .boolean, { frames := 1, cells := 0, slots := 0, locals := 21 })
theorem C_X0_isWokenWith {l : Launch} {G : jG} {nm : Nat → Nat} (hG : jWL G) (hE : jE G nm LS_X0) (v1 : Int32) (v2 : Int32) (v3 : Int32) (σ : jS) : jC (r_P σ) l G Y_X0_isWokenWith [.ref (jad G (nm 0)), .int v1, .int v2, .int v3] σ (f_X0_isWokenWith nm v1 v2 v3 σ) := by
  refine jw_met hG pn_X0 (Nat.le_of_ble_eq_true rfl) ⟨rfl, rfl⟩ ?_
  intro X hX hM
  have hX : jB X l G cX0_isWokenWith RX0 10 { frames := 1, cells := 0, slots := 0, locals := 21 } := hX
  have hM : jM X (some .boolean) := hM
  show J X 0 [(0, .ref (jad G (nm 0))), (1, .int v1), (2, .int v2), (3, .int v3)] [] σ (f_X0_isWokenWith nm v1 v2 v3 σ) (jk (r_P σ) X)
  have hJ65 : ∀ (v1 : Int32) (v2 : Int32) (v3 : Int32) (t0 : Int32), J X 65 [(0, .ref (jad G (nm 0))), (1, .int v1), (2, .int v2), (3, .int v3), (4, .ref (jad G (nm 1)))] [.int t0] σ (f_X0_isWokenWith_J65 nm v1 v2 v3 t0 σ) (jk (r_P σ) X) := by
    intro v1 v2 v3 t0
    unfold f_X0_isWokenWith_J65
    refine J_istore hX dX0_isWokenWith_65 (Nat.le_of_ble_eq_true rfl) (lv' := [(0, .ref (jad G (nm 0))), (1, .int v1), (2, .int v2), (3, .int v3), (4, .ref (jad G (nm 1))), (5, .int t0)]) rfl ?_
    refine J_iload_n hX dX0_isWokenWith_67 rfl ?_
    refine J_aload hX dX0_isWokenWith_68 rfl ?_
    refine J_getr hX hE 1 3 rfl rfl fl_X0_74 dX0_isWokenWith_70 ?_
    refine J_iload_n hX dX0_isWokenWith_73 rfl ?_
    refine J_cVP hX hE 8 (C_X4_at hG (hE.sb [8, 9] sb_4) v1 σ) mw_X4_at ml_X0_62 rfl rfl rfl ⟨Nat.le_of_ble_eq_true rfl, Nat.le_of_ble_eq_true rfl⟩ rfl rfl (Nat.le_of_ble_eq_true rfl) dX0_isWokenWith_74 (fun q14 => ?_)
    refine J_aload_n hX dX0_isWokenWith_77 rfl ?_
    refine J_getr hX hE 0 0 rfl rfl fl_X0_18 dX0_isWokenWith_78 ?_
    refine J_geti hX hE 18 6 rfl rfl fl_X0_77 dX0_isWokenWith_81 ?_
    refine J_imul hX dX0_isWokenWith_84 ?_
    refine J_isub hX dX0_isWokenWith_85 ?_
    refine J_bdI (fun x15 => ?_)
    refine J_istore hX dX0_isWokenWith_86 (Nat.le_of_ble_eq_true rfl) (lv' := [(0, .ref (jad G (nm 0))), (1, .int v1), (2, .int v2), (3, .int v3), (4, .ref (jad G (nm 1))), (5, .int t0), (6, .int x15)]) rfl ?_
    refine J_iload hX dX0_isWokenWith_88 rfl ?_
    refine J_aload hX dX0_isWokenWith_90 rfl ?_
    refine J_getr hX hE 1 3 rfl rfl fl_X0_74 dX0_isWokenWith_92 ?_
    refine J_iload_n hX dX0_isWokenWith_95 rfl ?_
    refine J_cVP hX hE 8 (C_X4_at hG (hE.sb [8, 9] sb_4) v3 σ) mw_X4_at ml_X0_62 rfl rfl rfl ⟨Nat.le_of_ble_eq_true rfl, Nat.le_of_ble_eq_true rfl⟩ rfl rfl (Nat.le_of_ble_eq_true rfl) dX0_isWokenWith_96 (fun q16 => ?_)
    refine J_aload_n hX dX0_isWokenWith_99 rfl ?_
    refine J_getr hX hE 0 0 rfl rfl fl_X0_18 dX0_isWokenWith_100 ?_
    refine J_geti hX hE 18 6 rfl rfl fl_X0_77 dX0_isWokenWith_103 ?_
    refine J_imul hX dX0_isWokenWith_106 ?_
    refine J_isub hX dX0_isWokenWith_107 ?_
    refine J_bdI (fun x17 => ?_)
    refine J_istore hX dX0_isWokenWith_108 (Nat.le_of_ble_eq_true rfl) (lv' := [(0, .ref (jad G (nm 0))), (1, .int v1), (2, .int v2), (3, .int v3), (4, .ref (jad G (nm 1))), (5, .int t0), (6, .int x15), (7, .int x17)]) rfl ?_
    refine J_iload hX dX0_isWokenWith_110 rfl ?_
    refine J_aload hX dX0_isWokenWith_112 rfl ?_
    refine J_getr hX hE 1 2 rfl rfl fl_X0_80 dX0_isWokenWith_114 ?_
    refine J_iload_n hX dX0_isWokenWith_117 rfl ?_
    refine J_cVP hX hE 6 (C_X4_at hG (hE.sb [6, 7] sb_5) v1 σ) mw_X4_at ml_X0_62 rfl rfl rfl ⟨Nat.le_of_ble_eq_true rfl, Nat.le_of_ble_eq_true rfl⟩ rfl rfl (Nat.le_of_ble_eq_true rfl) dX0_isWokenWith_118 (fun q18 => ?_)
    refine J_isub hX dX0_isWokenWith_121 ?_
    refine J_iload hX dX0_isWokenWith_122 rfl ?_
    refine J_aload hX dX0_isWokenWith_124 rfl ?_
    refine J_getr hX hE 1 2 rfl rfl fl_X0_80 dX0_isWokenWith_126 ?_
    refine J_iload_n hX dX0_isWokenWith_129 rfl ?_
    refine J_cVP hX hE 6 (C_X4_at hG (hE.sb [6, 7] sb_5) v3 σ) mw_X4_at ml_X0_62 rfl rfl rfl ⟨Nat.le_of_ble_eq_true rfl, Nat.le_of_ble_eq_true rfl⟩ rfl rfl (Nat.le_of_ble_eq_true rfl) dX0_isWokenWith_130 (fun q19 => ?_)
    refine J_isub hX dX0_isWokenWith_133 ?_
    refine J_mmax2 hX mm_X0_41 (Nat.le_of_ble_eq_true rfl) (Nat.le_of_ble_eq_true rfl) dX0_isWokenWith_134 ?_
    refine J_bdI (fun x20 => ?_)
    refine J_istore hX dX0_isWokenWith_137 (Nat.le_of_ble_eq_true rfl) (lv' := [(0, .ref (jad G (nm 0))), (1, .int v1), (2, .int v2), (3, .int v3), (4, .ref (jad G (nm 1))), (5, .int t0), (6, .int x15), (7, .int x17), (8, .int x20)]) rfl ?_
    refine J_iload hX dX0_isWokenWith_139 rfl ?_
    refine J_aload hX dX0_isWokenWith_141 rfl ?_
    refine J_getr hX hE 1 2 rfl rfl fl_X0_80 dX0_isWokenWith_143 ?_
    refine J_iload_n hX dX0_isWokenWith_146 rfl ?_
    refine J_cVP hX hE 6 (C_X4_at hG (hE.sb [6, 7] sb_5) v1 σ) mw_X4_at ml_X0_62 rfl rfl rfl ⟨Nat.le_of_ble_eq_true rfl, Nat.le_of_ble_eq_true rfl⟩ rfl rfl (Nat.le_of_ble_eq_true rfl) dX0_isWokenWith_147 (fun q21 => ?_)
    refine J_iadd hX dX0_isWokenWith_150 ?_
    refine J_iload hX dX0_isWokenWith_151 rfl ?_
    refine J_aload hX dX0_isWokenWith_153 rfl ?_
    refine J_getr hX hE 1 2 rfl rfl fl_X0_80 dX0_isWokenWith_155 ?_
    refine J_iload_n hX dX0_isWokenWith_158 rfl ?_
    refine J_cVP hX hE 6 (C_X4_at hG (hE.sb [6, 7] sb_5) v3 σ) mw_X4_at ml_X0_62 rfl rfl rfl ⟨Nat.le_of_ble_eq_true rfl, Nat.le_of_ble_eq_true rfl⟩ rfl rfl (Nat.le_of_ble_eq_true rfl) dX0_isWokenWith_159 (fun q22 => ?_)
    refine J_iadd hX dX0_isWokenWith_162 ?_
    refine J_mmin2 hX mm_X0_83 (Nat.le_of_ble_eq_true rfl) (Nat.le_of_ble_eq_true rfl) dX0_isWokenWith_163 ?_
    refine J_bdI (fun x23 => ?_)
    refine J_istore hX dX0_isWokenWith_166 (Nat.le_of_ble_eq_true rfl) (lv' := [(0, .ref (jad G (nm 0))), (1, .int v1), (2, .int v2), (3, .int v3), (4, .ref (jad G (nm 1))), (5, .int t0), (6, .int x15), (7, .int x17), (8, .int x20), (9, .int x23)]) rfl ?_
    refine J_iload hX dX0_isWokenWith_168 rfl ?_
    refine J_iconst hX dX0_isWokenWith_170 k_i0 ?_
    refine J_mmax2 hX mm_X0_41 (Nat.le_of_ble_eq_true rfl) (Nat.le_of_ble_eq_true rfl) dX0_isWokenWith_171 ?_
    refine J_iload hX dX0_isWokenWith_174 rfl ?_
    refine J_bipush hX dX0_isWokenWith_176 kb_63 ?_
    refine J_mmin2 hX mm_X0_83 (Nat.le_of_ble_eq_true rfl) (Nat.le_of_ble_eq_true rfl) dX0_isWokenWith_178 ?_
    refine J_icmp_gt hX dX0_isWokenWith_181 (tgt := 188) rfl (fun _ => ?_) (fun _ => ?_)
    · refine J_iconst hX dX0_isWokenWith_188 k_i0 ?_
      exact J_zretP hX hM jn_0 dX0_isWokenWith_189
    · refine J_iconst hX dX0_isWokenWith_184 k_i1 ?_
      refine J_goto hX dX0_isWokenWith_185 (tgt := 189) rfl ?_
      exact J_zretP hX hM jn_1 dX0_isWokenWith_189
  unfold f_X0_isWokenWith
  refine J_aload_n hX dX0_isWokenWith_0 rfl ?_
  refine J_getr hX hE 0 0 rfl rfl fl_X0_18 dX0_isWokenWith_1 ?_
  refine J_getr hX hE 18 0 rfl rfl fl_X0_22 dX0_isWokenWith_4 ?_
  refine J_astore hX dX0_isWokenWith_7 (Nat.le_of_ble_eq_true rfl) (lv' := [(0, .ref (jad G (nm 0))), (1, .int v1), (2, .int v2), (3, .int v3), (4, .ref (jad G (nm 1)))]) rfl ?_
  refine J_aload hX dX0_isWokenWith_9 rfl ?_
  refine J_getr hX hE 1 0 rfl rfl fl_X0_58 dX0_isWokenWith_11 ?_
  refine J_iload_n hX dX0_isWokenWith_14 rfl ?_
  refine J_cVP hX hE 2 (C_X4_at hG (hE.sb [2, 3] sb_3) v1 σ) mw_X4_at ml_X0_62 rfl rfl rfl ⟨Nat.le_of_ble_eq_true rfl, Nat.le_of_ble_eq_true rfl⟩ rfl rfl (Nat.le_of_ble_eq_true rfl) dX0_isWokenWith_15 (fun q24 => ?_)
  refine J_aload hX dX0_isWokenWith_18 rfl ?_
  refine J_getr hX hE 1 0 rfl rfl fl_X0_58 dX0_isWokenWith_20 ?_
  refine J_iload_n hX dX0_isWokenWith_23 rfl ?_
  refine J_cVP hX hE 2 (C_X4_at hG (hE.sb [2, 3] sb_3) v3 σ) mw_X4_at ml_X0_62 rfl rfl rfl ⟨Nat.le_of_ble_eq_true rfl, Nat.le_of_ble_eq_true rfl⟩ rfl rfl (Nat.le_of_ble_eq_true rfl) dX0_isWokenWith_24 (fun q25 => ?_)
  refine J_isub hX dX0_isWokenWith_27 ?_
  refine J_mabs2 hX mm_X0_67 (Nat.le_of_ble_eq_true rfl) (Nat.le_of_ble_eq_true rfl) dX0_isWokenWith_28 ?_
  refine J_iconst hX dX0_isWokenWith_31 k_i2 ?_
  refine J_aload hX dX0_isWokenWith_32 rfl ?_
  refine J_geti hX hE 1 10 rfl rfl fl_X0_70 dX0_isWokenWith_34 ?_
  refine J_iconst hX dX0_isWokenWith_37 k_i1 ?_
  refine J_isub hX dX0_isWokenWith_38 ?_
  refine J_imul hX dX0_isWokenWith_39 ?_
  refine J_icmp_le hX dX0_isWokenWith_40 (tgt := 45) rfl (fun _ => ?_) (fun _ => ?_)
  · refine J_iload_n hX dX0_isWokenWith_45 rfl ?_
    refine J_blk ?_
    intro KB46 hB46
    have hJ64 : J X 64 [(0, .ref (jad G (nm 0))), (1, .int v1), (2, .int v2), (3, .int v3), (4, .ref (jad G (nm 1)))] [] σ (f_X0_isWokenWith_J64 nm v1 v2 v3 σ) KB46 := by
      unfold f_X0_isWokenWith_J64
      refine J_iconst hX dX0_isWokenWith_64 k_i0 ?_
      refine hB46 _ _ _ _ _ ?_
      exact J_keep [0, 1, 2, 3, 4] rfl (hJ65 v1 v2 v3 0)
    refine J_if_lt hX dX0_isWokenWith_46 (tgt := 64) rfl (fun _ => ?_) (fun _ => ?_)
    · exact J_keep [0, 1, 2, 3, 4] rfl (hJ64 )
    · refine J_iload_n hX dX0_isWokenWith_49 rfl ?_
      refine J_bipush hX dX0_isWokenWith_50 kb_10 ?_
      refine J_icmp_ge hX dX0_isWokenWith_52 (tgt := 64) rfl (fun _ => ?_) (fun _ => ?_)
      · exact J_keep [0, 1, 2, 3, 4] rfl (hJ64 )
      · refine J_aload_n hX dX0_isWokenWith_55 rfl ?_
        refine J_getr hX hE 0 1 rfl rfl fl_X0_9 dX0_isWokenWith_56 ?_
        refine J_iload_n hX dX0_isWokenWith_59 rfl ?_
        refine J_iald hX hE 23 rfl dX0_isWokenWith_60 (fun _ => ?_)
        refine J_goto hX dX0_isWokenWith_61 (tgt := 65) rfl ?_
        refine hB46 _ _ _ _ _ ?_
        exact J_keep [0, 1, 2, 3, 4] rfl (hJ65 v1 v2 v3 (g_i σ (nm 23) v3.toNatClampNeg))
  · refine J_iconst hX dX0_isWokenWith_43 k_i0 ?_
    exact J_zretP hX hM jn_0 dX0_isWokenWith_44
theorem mw_X0_isWokenWith : jMV Y_X0_isWokenWith 3 := ⟨⟨tw_tb (List.mem_of_getElem? (i := 957) (by decide +kernel)) (by decide +kernel), tw_pv (List.mem_of_getElem? (i := 29) (by decide +kernel)) (by decide +kernel), tw_tb (List.mem_of_getElem? (i := 12) (by decide +kernel)) (by decide +kernel), tw_tb (List.mem_of_getElem? (i := 958) (by decide +kernel)) (by decide +kernel)⟩, ⟨rfl, rfl⟩, by decide +kernel, by decide +kernel, by decide +kernel⟩
-- X0_isWokenWithOne
noncomputable def f_X0_isWokenWithOne_L3 (nm : Nat → Nat) (v1 : Int32) (v2 : Int32) (v3 : Int32) (σ : jS) (v4 : Int32) : Option (Int32 ⊕ (Unit ⊕ Int32)) :=
  if 10 ≤ v4 then
    some (.inr (.inl ()))
  else
    if ((v3 >>> (v4 &&& 31)) &&& 1) = 0 then
      some (.inl (v4 + 1))
    else
      (f_X0_isWokenWith nm v1 v2 v4 σ).bind (fun q1 =>
        if q1 = 0 then
          some (.inl (v4 + 1))
        else
          some (.inr (.inr 1)))
noncomputable def f_X0_isWokenWithOne (nm : Nat → Nat) (v1 : Int32) (v2 : Int32) (v3 : Int32) (σ : jS) : Option Int32 :=
  (lp (f_X0_isWokenWithOne_L3 nm v1 v2 v3 σ) fu 0).bind (fun x => match x with
  | .inl _ =>
    some 0
  | .inr a => some a)
abbrev Y_X0_isWokenWithOne : jY := (yX0_isWokenWithOne, cX0_isWokenWithOne, 5, some .boolean, { frames := 2, cells := 0, slots := 0, locals := 50 })
theorem C_X0_isWokenWithOne {l : Launch} {G : jG} {nm : Nat → Nat} (hG : jWL G) (hE : jE G nm LS_X0) (v1 : Int32) (v2 : Int32) (v3 : Int32) (σ : jS) : jC (r_P σ) l G Y_X0_isWokenWithOne [.ref (jad G (nm 0)), .int v1, .int v2, .int v3] σ (f_X0_isWokenWithOne nm v1 v2 v3 σ) := by
  refine jw_met hG pn_X0 (Nat.le_of_ble_eq_true rfl) ⟨rfl, rfl⟩ ?_
  intro X hX hM
  have hX : jB X l G cX0_isWokenWithOne RX0 5 { frames := 2, cells := 0, slots := 0, locals := 50 } := hX
  have hM : jM X (some .boolean) := hM
  show J X 0 [(0, .ref (jad G (nm 0))), (1, .int v1), (2, .int v2), (3, .int v3)] [] σ (f_X0_isWokenWithOne nm v1 v2 v3 σ) (jk (r_P σ) X)
  unfold f_X0_isWokenWithOne
  refine J_iconst hX dX0_isWokenWithOne_0 k_i0 ?_
  refine J_istore hX dX0_isWokenWithOne_1 (Nat.le_of_ble_eq_true rfl) (lv' := [(0, .ref (jad G (nm 0))), (1, .int v1), (2, .int v2), (3, .int v3), (4, .int 0)]) rfl ?_
  refine J_keep [0, 1, 2, 3, 4] (lv' := [(0, .ref (jad G (nm 0))), (1, .int v1), (2, .int v2), (3, .int v3), (4, .int 0)]) rfl ?_
  refine J_lp (pc := 3) (s0 := 0) (fun (s : Int32) => [(0, .ref (jad G (nm 0))), (1, .int v1), (2, .int v2), (3, .int v3), (4, .int s)]) (fun (s : Int32) => σ) ?_
  intro KK3 hN3 hQ3 z3
  obtain ⟨v4_3, rfl⟩ : ∃ y, y = z3 := ⟨_, rfl⟩
  show J X 3 [(0, .ref (jad G (nm 0))), (1, .int v1), (2, .int v2), (3, .int v3), (4, .int v4_3)] [] σ (f_X0_isWokenWithOne_L3 nm v1 v2 v3 σ v4_3) KK3
  unfold f_X0_isWokenWithOne_L3
  refine J_iload hX dX0_isWokenWithOne_3 rfl ?_
  refine J_bipush hX dX0_isWokenWithOne_5 kb_10 ?_
  refine J_icmp_ge hX dX0_isWokenWithOne_7 (tgt := 38) rfl (fun _ => ?_) (fun _ => ?_)
  · refine hQ3 _ _ _ _ _ ?_
    refine J_iconst hX dX0_isWokenWithOne_38 k_i0 ?_
    exact J_zretP hX hM jn_0 dX0_isWokenWithOne_39
  · refine J_iload_n hX dX0_isWokenWithOne_10 rfl ?_
    refine J_iload hX dX0_isWokenWithOne_11 rfl ?_
    refine J_ishr hX dX0_isWokenWithOne_13 ?_
    refine J_iconst hX dX0_isWokenWithOne_14 k_i1 ?_
    refine J_iand hX dX0_isWokenWithOne_15 ?_
    refine J_if_eq hX dX0_isWokenWithOne_16 (tgt := 32) rfl (fun _ => ?_) (fun _ => ?_)
    · refine J_iinc hX dX0_isWokenWithOne_32 rfl (congrArg (_ + ·) k_i1) (Nat.le_of_ble_eq_true rfl) (lv' := [(0, .ref (jad G (nm 0))), (1, .int v1), (2, .int v2), (3, .int v3), (4, .int (v4_3 + 1))]) rfl ?_
      refine J_goto hX dX0_isWokenWithOne_35 (tgt := 3) rfl ?_
      exact J_keep [0, 1, 2, 3, 4] rfl (hN3 (v4_3 + 1))
    · refine J_aload_n hX dX0_isWokenWithOne_19 rfl ?_
      refine J_iload_n hX dX0_isWokenWithOne_20 rfl ?_
      refine J_iload_n hX dX0_isWokenWithOne_21 rfl ?_
      refine J_iload hX dX0_isWokenWithOne_22 rfl ?_
      refine J_cVP hX hE 0 (C_X0_isWokenWith hG hE v1 v2 v4_3 σ) mw_X0_isWokenWith ml_X0_55 rfl rfl rfl ⟨Nat.le_of_ble_eq_true rfl, Nat.le_of_ble_eq_true rfl⟩ rfl rfl (Nat.le_of_ble_eq_true rfl) dX0_isWokenWithOne_24 (fun q2 => ?_)
      refine J_if_eq hX dX0_isWokenWithOne_27 (tgt := 32) rfl (fun _ => ?_) (fun _ => ?_)
      · refine J_iinc hX dX0_isWokenWithOne_32 rfl (congrArg (_ + ·) k_i1) (Nat.le_of_ble_eq_true rfl) (lv' := [(0, .ref (jad G (nm 0))), (1, .int v1), (2, .int v2), (3, .int v3), (4, .int (v4_3 + 1))]) rfl ?_
        refine J_goto hX dX0_isWokenWithOne_35 (tgt := 3) rfl ?_
        exact J_keep [0, 1, 2, 3, 4] rfl (hN3 (v4_3 + 1))
      · refine J_iconst hX dX0_isWokenWithOne_30 k_i1 ?_
        refine hQ3 _ _ _ _ _ ?_
        exact J_zretP hX hM jn_1 dX0_isWokenWithOne_31
theorem mw_X0_isWokenWithOne : jMV Y_X0_isWokenWithOne 3 := ⟨⟨tw_tb (List.mem_of_getElem? (i := 953) (by decide +kernel)) (by decide +kernel), tw_pv (List.mem_of_getElem? (i := 28) (by decide +kernel)) (by decide +kernel), tw_tb (List.mem_of_getElem? (i := 12) (by decide +kernel)) (by decide +kernel), tw_tb (List.mem_of_getElem? (i := 954) (by decide +kernel)) (by decide +kernel)⟩, ⟨rfl, rfl⟩, by decide +kernel, by decide +kernel, by decide +kernel⟩
-- X0_lampOfTuned
noncomputable def f_X0_lampOfTuned_L9 (nm : Nat → Nat) (v1 : Int32) (v2 : Int32) (v3 : Int32) (σ : jS) (s : (Int32 × Int32 × Int32)) : Option ((Int32 × Int32 × Int32) ⊕ (Int32 ⊕ Int32)) :=
  match s with
  | (v4, v5, v6) =>
    if v3 < v6 then
      some (.inr (.inl v5))
    else
      (f_X0_firstKeepingSum nm v4 (v1 + (v6 * v2)) σ).bind (fun q1 =>
        if q1 = (-1) then
          some (.inr (.inr (-1)))
        else
          bd (v4 ||| (1 <<< (q1 &&& 31))) (fun x2 =>
            some (.inl (x2, q1, v6 + 1))))
noncomputable def f_X0_lampOfTuned (nm : Nat → Nat) (v1 : Int32) (v2 : Int32) (v3 : Int32) (σ : jS) : Option Int32 :=
  (lp (f_X0_lampOfTuned_L9 nm v1 v2 v3 σ) fu (0, (-1), 0)).bind (fun x => match x with
  | .inl e3 =>
    some e3
  | .inr a => some a)
abbrev Y_X0_lampOfTuned : jY := (yX0_lampOfTuned, cX0_lampOfTuned, 7, some .int, { frames := 3, cells := 0, slots := 0, locals := 68 })
theorem C_X0_lampOfTuned {l : Launch} {G : jG} {nm : Nat → Nat} (hG : jWL G) (hE : jE G nm LS_X0) (v1 : Int32) (v2 : Int32) (v3 : Int32) (σ : jS) : jC (r_P σ) l G Y_X0_lampOfTuned [.ref (jad G (nm 0)), .int v1, .int v2, .int v3] σ (f_X0_lampOfTuned nm v1 v2 v3 σ) := by
  refine jw_met hG pn_X0 (Nat.le_of_ble_eq_true rfl) ⟨rfl, rfl⟩ ?_
  intro X hX hM
  have hX : jB X l G cX0_lampOfTuned RX0 7 { frames := 3, cells := 0, slots := 0, locals := 68 } := hX
  have hM : jM X (some .int) := hM
  show J X 0 [(0, .ref (jad G (nm 0))), (1, .int v1), (2, .int v2), (3, .int v3)] [] σ (f_X0_lampOfTuned nm v1 v2 v3 σ) (jk (r_P σ) X)
  unfold f_X0_lampOfTuned
  refine J_iconst hX dX0_lampOfTuned_0 k_i0 ?_
  refine J_istore hX dX0_lampOfTuned_1 (Nat.le_of_ble_eq_true rfl) (lv' := [(0, .ref (jad G (nm 0))), (1, .int v1), (2, .int v2), (3, .int v3), (4, .int 0)]) rfl ?_
  refine J_iconst hX dX0_lampOfTuned_3 k_im1 ?_
  refine J_istore hX dX0_lampOfTuned_4 (Nat.le_of_ble_eq_true rfl) (lv' := [(0, .ref (jad G (nm 0))), (1, .int v1), (2, .int v2), (3, .int v3), (4, .int 0), (5, .int (-1))]) rfl ?_
  refine J_iconst hX dX0_lampOfTuned_6 k_i0 ?_
  refine J_istore hX dX0_lampOfTuned_7 (Nat.le_of_ble_eq_true rfl) (lv' := [(0, .ref (jad G (nm 0))), (1, .int v1), (2, .int v2), (3, .int v3), (4, .int 0), (5, .int (-1)), (6, .int 0)]) rfl ?_
  refine J_keep [0, 1, 2, 3, 4, 5, 6] (lv' := [(0, .ref (jad G (nm 0))), (1, .int v1), (2, .int v2), (3, .int v3), (4, .int 0), (5, .int (-1)), (6, .int 0)]) rfl ?_
  refine J_lp (pc := 9) (s0 := (0, (-1), 0)) (fun (s : (Int32 × Int32 × Int32)) => [(0, .ref (jad G (nm 0))), (1, .int v1), (2, .int v2), (3, .int v3), (4, .int (s.1)), (5, .int (s.2.1)), (6, .int (s.2.2))]) (fun (s : (Int32 × Int32 × Int32)) => σ) ?_
  intro KK9 hN9 hQ9 z9
  obtain ⟨v4_9, v5_9, v6_9⟩ := z9
  show J X 9 [(0, .ref (jad G (nm 0))), (1, .int v1), (2, .int v2), (3, .int v3), (4, .int v4_9), (5, .int v5_9), (6, .int v6_9)] [] σ (f_X0_lampOfTuned_L9 nm v1 v2 v3 σ (v4_9, v5_9, v6_9)) KK9
  unfold f_X0_lampOfTuned_L9
  refine J_iload hX dX0_lampOfTuned_9 rfl ?_
  refine J_iload_n hX dX0_lampOfTuned_11 rfl ?_
  refine J_icmp_gt hX dX0_lampOfTuned_12 (tgt := 52) rfl (fun _ => ?_) (fun _ => ?_)
  · refine hQ9 _ _ _ _ _ ?_
    refine J_iload hX dX0_lampOfTuned_52 rfl ?_
    exact J_iretP hX hM dX0_lampOfTuned_54
  · refine J_aload_n hX dX0_lampOfTuned_15 rfl ?_
    refine J_iload hX dX0_lampOfTuned_16 rfl ?_
    refine J_iload_n hX dX0_lampOfTuned_18 rfl ?_
    refine J_iload hX dX0_lampOfTuned_19 rfl ?_
    refine J_iload_n hX dX0_lampOfTuned_21 rfl ?_
    refine J_imul hX dX0_lampOfTuned_22 ?_
    refine J_iadd hX dX0_lampOfTuned_23 ?_
    refine J_cVP hX hE 0 (C_X0_firstKeepingSum hG hE v4_9 (v1 + (v6_9 * v2)) σ) mw_X0_firstKeepingSum ml_X0_101 rfl rfl rfl ⟨Nat.le_of_ble_eq_true rfl, Nat.le_of_ble_eq_true rfl⟩ rfl rfl (Nat.le_of_ble_eq_true rfl) dX0_lampOfTuned_24 (fun q4 => ?_)
    refine J_istore hX dX0_lampOfTuned_27 (Nat.le_of_ble_eq_true rfl) (lv' := [(0, .ref (jad G (nm 0))), (1, .int v1), (2, .int v2), (3, .int v3), (4, .int v4_9), (5, .int q4), (6, .int v6_9)]) rfl ?_
    refine J_iload hX dX0_lampOfTuned_29 rfl ?_
    refine J_iconst hX dX0_lampOfTuned_31 k_im1 ?_
    refine J_icmp_ne hX dX0_lampOfTuned_32 (tgt := 37) rfl (fun _ => ?_) (fun _ => ?_)
    · refine J_iload hX dX0_lampOfTuned_37 rfl ?_
      refine J_iconst hX dX0_lampOfTuned_39 k_i1 ?_
      refine J_iload hX dX0_lampOfTuned_40 rfl ?_
      refine J_ishl hX dX0_lampOfTuned_42 ?_
      refine J_ior hX dX0_lampOfTuned_43 ?_
      refine J_bdI (fun x5 => ?_)
      refine J_istore hX dX0_lampOfTuned_44 (Nat.le_of_ble_eq_true rfl) (lv' := [(0, .ref (jad G (nm 0))), (1, .int v1), (2, .int v2), (3, .int v3), (4, .int x5), (5, .int q4), (6, .int v6_9)]) rfl ?_
      refine J_iinc hX dX0_lampOfTuned_46 rfl (congrArg (_ + ·) k_i1) (Nat.le_of_ble_eq_true rfl) (lv' := [(0, .ref (jad G (nm 0))), (1, .int v1), (2, .int v2), (3, .int v3), (4, .int x5), (5, .int q4), (6, .int (v6_9 + 1))]) rfl ?_
      refine J_goto hX dX0_lampOfTuned_49 (tgt := 9) rfl ?_
      exact J_keep [0, 1, 2, 3, 4, 5, 6] rfl (hN9 (x5, q4, v6_9 + 1))
    · refine J_iconst hX dX0_lampOfTuned_35 k_im1 ?_
      refine hQ9 _ _ _ _ _ ?_
      exact J_iretP hX hM dX0_lampOfTuned_36
theorem mw_X0_lampOfTuned : jMV Y_X0_lampOfTuned 3 := ⟨⟨tw_tb (List.mem_of_getElem? (i := 987) (by decide +kernel)) (by decide +kernel), tw_tb (List.mem_of_getElem? (i := 988) (by decide +kernel)) (by decide +kernel), tw_tb (List.mem_of_getElem? (i := 12) (by decide +kernel)) (by decide +kernel), tw_tb (List.mem_of_getElem? (i := 989) (by decide +kernel)) (by decide +kernel)⟩, ⟨rfl, rfl⟩, by decide +kernel, by decide +kernel, by decide +kernel⟩
-- X0_leastFree
noncomputable def f_X0_leastFree_L3 (nm : Nat → Nat) (v1 : Int32) (v3 : Int32) (σ : jS) (v4 : Int32) : Option (Int32 ⊕ (Unit ⊕ Int32)) :=
  if 64 ≤ v4 then
    some (.inr (.inl ()))
  else
    (f_X0_isWokenWithOne nm v1 v4 v3 σ).bind (fun q1 =>
      if q1 = 0 then
        some (.inr (.inr v4))
      else
        some (.inl (v4 + 1)))
noncomputable def f_X0_leastFree (nm : Nat → Nat) (v1 : Int32) (v2 : Int32) (v3 : Int32) (σ : jS) : Option Int32 :=
  (lp (f_X0_leastFree_L3 nm v1 v3 σ) fu v2).bind (fun x => match x with
  | .inl _ =>
    some (-1)
  | .inr a => some a)
abbrev Y_X0_leastFree : jY := (yX0_leastFree, cX0_leastFree, 5, some .int, { frames := 3, cells := 0, slots := 0, locals := 74 })
theorem C_X0_leastFree {l : Launch} {G : jG} {nm : Nat → Nat} (hG : jWL G) (hE : jE G nm LS_X0) (v1 : Int32) (v2 : Int32) (v3 : Int32) (σ : jS) : jC (r_P σ) l G Y_X0_leastFree [.ref (jad G (nm 0)), .int v1, .int v2, .int v3] σ (f_X0_leastFree nm v1 v2 v3 σ) := by
  refine jw_met hG pn_X0 (Nat.le_of_ble_eq_true rfl) ⟨rfl, rfl⟩ ?_
  intro X hX hM
  have hX : jB X l G cX0_leastFree RX0 5 { frames := 3, cells := 0, slots := 0, locals := 74 } := hX
  have hM : jM X (some .int) := hM
  show J X 0 [(0, .ref (jad G (nm 0))), (1, .int v1), (2, .int v2), (3, .int v3)] [] σ (f_X0_leastFree nm v1 v2 v3 σ) (jk (r_P σ) X)
  unfold f_X0_leastFree
  refine J_iload_n hX dX0_leastFree_0 rfl ?_
  refine J_istore hX dX0_leastFree_1 (Nat.le_of_ble_eq_true rfl) (lv' := [(0, .ref (jad G (nm 0))), (1, .int v1), (2, .int v2), (3, .int v3), (4, .int v2)]) rfl ?_
  refine J_keep [0, 1, 3, 4] (lv' := [(0, .ref (jad G (nm 0))), (1, .int v1), (3, .int v3), (4, .int v2)]) rfl ?_
  refine J_lp (pc := 3) (s0 := v2) (fun (s : Int32) => [(0, .ref (jad G (nm 0))), (1, .int v1), (3, .int v3), (4, .int s)]) (fun (s : Int32) => σ) ?_
  intro KK3 hN3 hQ3 z3
  obtain ⟨v4_3, rfl⟩ : ∃ y, y = z3 := ⟨_, rfl⟩
  show J X 3 [(0, .ref (jad G (nm 0))), (1, .int v1), (3, .int v3), (4, .int v4_3)] [] σ (f_X0_leastFree_L3 nm v1 v3 σ v4_3) KK3
  unfold f_X0_leastFree_L3
  refine J_iload hX dX0_leastFree_3 rfl ?_
  refine J_bipush hX dX0_leastFree_5 kb_64 ?_
  refine J_icmp_ge hX dX0_leastFree_7 (tgt := 30) rfl (fun _ => ?_) (fun _ => ?_)
  · refine hQ3 _ _ _ _ _ ?_
    refine J_iconst hX dX0_leastFree_30 k_im1 ?_
    exact J_iretP hX hM dX0_leastFree_31
  · refine J_aload_n hX dX0_leastFree_10 rfl ?_
    refine J_iload_n hX dX0_leastFree_11 rfl ?_
    refine J_iload hX dX0_leastFree_12 rfl ?_
    refine J_iload_n hX dX0_leastFree_14 rfl ?_
    refine J_cVP hX hE 0 (C_X0_isWokenWithOne hG hE v1 v4_3 v3 σ) mw_X0_isWokenWithOne ml_X0_51 rfl rfl rfl ⟨Nat.le_of_ble_eq_true rfl, Nat.le_of_ble_eq_true rfl⟩ rfl rfl (Nat.le_of_ble_eq_true rfl) dX0_leastFree_15 (fun q2 => ?_)
    refine J_if_ne hX dX0_leastFree_18 (tgt := 24) rfl (fun _ => ?_) (fun _ => ?_)
    · refine J_iinc hX dX0_leastFree_24 rfl (congrArg (_ + ·) k_i1) (Nat.le_of_ble_eq_true rfl) (lv' := [(0, .ref (jad G (nm 0))), (1, .int v1), (3, .int v3), (4, .int (v4_3 + 1))]) rfl ?_
      refine J_goto hX dX0_leastFree_27 (tgt := 3) rfl ?_
      exact J_keep [0, 1, 2, 3] rfl (hN3 (v4_3 + 1))
    · refine J_iload hX dX0_leastFree_21 rfl ?_
      refine hQ3 _ _ _ _ _ ?_
      exact J_iretP hX hM dX0_leastFree_23
theorem mw_X0_leastFree : jMV Y_X0_leastFree 3 := ⟨⟨tw_tb (List.mem_of_getElem? (i := 949) (by decide +kernel)) (by decide +kernel), tw_pv (List.mem_of_getElem? (i := 27) (by decide +kernel)) (by decide +kernel), tw_tb (List.mem_of_getElem? (i := 12) (by decide +kernel)) (by decide +kernel), tw_tb (List.mem_of_getElem? (i := 950) (by decide +kernel)) (by decide +kernel)⟩, ⟨rfl, rfl⟩, by decide +kernel, by decide +kernel, by decide +kernel⟩
-- X0_leastRest
noncomputable def f_X0_leastRest_L6 (nm : Nat → Nat) (v1 : Int32) (v2 : Int32) (σ : jS) (s : (Int32 × Int32)) : Option ((Int32 × Int32) ⊕ Int32) :=
  match s with
  | (v3, v4) =>
    (f_X6_lamps (jn nm [1, 2, 3, 4, 5, 6, 7, 8, 9, 10, 11, 12, 13, 14, 15, 16, 17]) σ).bind (fun q1 =>
      if q1 ≤ v4 then
        some (.inr v3)
      else
        (f_X0_restWith nm v1 v4 v2 σ).bind (fun q2 =>
          bd (imin v3 q2) (fun x3 =>
            some (.inl (x3, v4 + 1)))))
noncomputable def f_X0_leastRest (nm : Nat → Nat) (v1 : Int32) (v2 : Int32) (σ : jS) : Option Int32 :=
  (lp (f_X0_leastRest_L6 nm v1 v2 σ) fu (100000, 0)).bind (fun e4 =>
    some e4)
abbrev Y_X0_leastRest : jY := (yX0_leastRest, cX0_leastRest, 5, some .int, { frames := 2, cells := 0, slots := 0, locals := 45 })
theorem C_X0_leastRest {l : Launch} {G : jG} {nm : Nat → Nat} (hG : jWL G) (hE : jE G nm LS_X0) (v1 : Int32) (v2 : Int32) (σ : jS) : jC (r_P σ) l G Y_X0_leastRest [.ref (jad G (nm 0)), .int v1, .int v2] σ (f_X0_leastRest nm v1 v2 σ) := by
  refine jw_met hG pn_X0 (Nat.le_of_ble_eq_true rfl) ⟨rfl, rfl⟩ ?_
  intro X hX hM
  have hX : jB X l G cX0_leastRest RX0 5 { frames := 2, cells := 0, slots := 0, locals := 45 } := hX
  have hM : jM X (some .int) := hM
  show J X 0 [(0, .ref (jad G (nm 0))), (1, .int v1), (2, .int v2)] [] σ (f_X0_leastRest nm v1 v2 σ) (jk (r_P σ) X)
  unfold f_X0_leastRest
  refine J_ldc hX wc_X0_97 dX0_leastRest_0 ?_
  refine J_istore_n hX dX0_leastRest_2 (Nat.le_of_ble_eq_true rfl) (lv' := [(0, .ref (jad G (nm 0))), (1, .int v1), (2, .int v2), (3, .int 100000)]) rfl ?_
  refine J_iconst hX dX0_leastRest_3 k_i0 ?_
  refine J_istore hX dX0_leastRest_4 (Nat.le_of_ble_eq_true rfl) (lv' := [(0, .ref (jad G (nm 0))), (1, .int v1), (2, .int v2), (3, .int 100000), (4, .int 0)]) rfl ?_
  refine J_keep [0, 1, 2, 3, 4] (lv' := [(0, .ref (jad G (nm 0))), (1, .int v1), (2, .int v2), (3, .int 100000), (4, .int 0)]) rfl ?_
  refine J_lp (pc := 6) (s0 := (100000, 0)) (fun (s : (Int32 × Int32)) => [(0, .ref (jad G (nm 0))), (1, .int v1), (2, .int v2), (3, .int (s.1)), (4, .int (s.2))]) (fun (s : (Int32 × Int32)) => σ) ?_
  intro KK6 hN6 hQ6 z6
  obtain ⟨v3_6, v4_6⟩ := z6
  show J X 6 [(0, .ref (jad G (nm 0))), (1, .int v1), (2, .int v2), (3, .int v3_6), (4, .int v4_6)] [] σ (f_X0_leastRest_L6 nm v1 v2 σ (v3_6, v4_6)) KK6
  unfold f_X0_leastRest_L6
  refine J_iload hX dX0_leastRest_6 rfl ?_
  refine J_aload_n hX dX0_leastRest_8 rfl ?_
  refine J_getr hX hE 0 0 rfl rfl fl_X0_18 dX0_leastRest_9 ?_
  refine J_getr hX hE 18 0 rfl rfl fl_X0_22 dX0_leastRest_12 ?_
  refine J_cVP hX hE 1 (C_X6_lamps hG (hE.sb [1, 2, 3, 4, 5, 6, 7, 8, 9, 10, 11, 12, 13, 14, 15, 16, 17] sb_2) σ) mw_X6_lamps ml_X0_28 rfl rfl rfl ⟨Nat.le_of_ble_eq_true rfl, Nat.le_of_ble_eq_true rfl⟩ rfl rfl (Nat.le_of_ble_eq_true rfl) dX0_leastRest_15 (fun q5 => ?_)
  refine J_icmp_ge hX dX0_leastRest_18 (tgt := 40) rfl (fun _ => ?_) (fun _ => ?_)
  · refine hQ6 _ _ _ _ _ ?_
    refine J_iload_n hX dX0_leastRest_40 rfl ?_
    exact J_iretP hX hM dX0_leastRest_41
  · refine J_iload_n hX dX0_leastRest_21 rfl ?_
    refine J_aload_n hX dX0_leastRest_22 rfl ?_
    refine J_iload_n hX dX0_leastRest_23 rfl ?_
    refine J_iload hX dX0_leastRest_24 rfl ?_
    refine J_iload_n hX dX0_leastRest_26 rfl ?_
    refine J_cVP hX hE 0 (C_X0_restWith hG hE v1 v4_6 v2 σ) mw_X0_restWith ml_X0_98 rfl rfl rfl ⟨Nat.le_of_ble_eq_true rfl, Nat.le_of_ble_eq_true rfl⟩ rfl rfl (Nat.le_of_ble_eq_true rfl) dX0_leastRest_27 (fun q6 => ?_)
    refine J_mmin2 hX mm_X0_83 (Nat.le_of_ble_eq_true rfl) (Nat.le_of_ble_eq_true rfl) dX0_leastRest_30 ?_
    refine J_bdI (fun x7 => ?_)
    refine J_istore_n hX dX0_leastRest_33 (Nat.le_of_ble_eq_true rfl) (lv' := [(0, .ref (jad G (nm 0))), (1, .int v1), (2, .int v2), (3, .int x7), (4, .int v4_6)]) rfl ?_
    refine J_iinc hX dX0_leastRest_34 rfl (congrArg (_ + ·) k_i1) (Nat.le_of_ble_eq_true rfl) (lv' := [(0, .ref (jad G (nm 0))), (1, .int v1), (2, .int v2), (3, .int x7), (4, .int (v4_6 + 1))]) rfl ?_
    refine J_goto hX dX0_leastRest_37 (tgt := 6) rfl ?_
    exact J_keep [0, 1, 2, 3, 4] rfl (hN6 (x7, v4_6 + 1))
theorem mw_X0_leastRest : jMV Y_X0_leastRest 2 := ⟨⟨tw_tb (List.mem_of_getElem? (i := 979) (by decide +kernel)) (by decide +kernel), tw_pv (List.mem_of_getElem? (i := 30) (by decide +kernel)) (by decide +kernel), tw_tb (List.mem_of_getElem? (i := 12) (by decide +kernel)) (by decide +kernel), tw_tb (List.mem_of_getElem? (i := 980) (by decide +kernel)) (by decide +kernel)⟩, ⟨rfl, rfl⟩, by decide +kernel, by decide +kernel, by decide +kernel⟩
-- X6_allLamps
noncomputable def f_X6_allLamps (nm : Nat → Nat) (σ : jS) : Option Int32 :=
  (f_X4_size (jn nm [1, 2]) 10 σ).bind (fun q1 =>
    some ((1 <<< (q1 &&& 31)) - 1))
abbrev Y_X6_allLamps : jY := (yX6_allLamps, cX6_allLamps, 1, some .int, { frames := 1, cells := 0, slots := 0, locals := 20 })
theorem C_X6_allLamps {l : Launch} {G : jG} {nm : Nat → Nat} (hG : jWL G) (hE : jE G nm LS_X6) (σ : jS) : jC (r_P σ) l G Y_X6_allLamps [.ref (jad G (nm 0))] σ (f_X6_allLamps nm σ) := by
  refine jw_met hG pn_X6 (Nat.le_of_ble_eq_true rfl) ⟨rfl, rfl⟩ ?_
  intro X hX hM
  have hX : jB X l G cX6_allLamps RX6 1 { frames := 1, cells := 0, slots := 0, locals := 20 } := hX
  have hM : jM X (some .int) := hM
  show J X 0 [(0, .ref (jad G (nm 0)))] [] σ (f_X6_allLamps nm σ) (jk (r_P σ) X)
  unfold f_X6_allLamps
  refine J_iconst hX dX6_allLamps_0 k_i1 ?_
  refine J_aload_n hX dX6_allLamps_1 rfl ?_
  refine J_getr hX hE 0 0 rfl rfl fl_X6_14 dX6_allLamps_2 ?_
  refine J_cVP hX hE 1 (C_X4_size hG (hE.sb [1, 2] sb_0) σ) mw_X4_size ml_X6_41 rfl rfl rfl ⟨Nat.le_of_ble_eq_true rfl, Nat.le_of_ble_eq_true rfl⟩ rfl rfl (Nat.le_of_ble_eq_true rfl) dX6_allLamps_5 (fun q2 => ?_)
  refine J_ishl hX dX6_allLamps_8 ?_
  refine J_iconst hX dX6_allLamps_9 k_i1 ?_
  refine J_isub hX dX6_allLamps_10 ?_
  exact J_iretP hX hM dX6_allLamps_11
theorem mw_X6_allLamps : jMV Y_X6_allLamps 0 := ⟨⟨tw_tb (List.mem_of_getElem? (i := 791) (by decide +kernel)) (by decide +kernel), tw_tb (List.mem_of_getElem? (i := 792) (by decide +kernel)) (by decide +kernel), tw_tb (List.mem_of_getElem? (i := 5) (by decide +kernel)) (by decide +kernel), tw_tb (List.mem_of_getElem? (i := 793) (by decide +kernel)) (by decide +kernel)⟩, ⟨rfl, rfl⟩, by decide +kernel, by decide +kernel, by decide +kernel⟩
-- X0_leastSum
noncomputable def f_X0_leastSum_J70 (nm : Nat → Nat) (v1 : Int32) (v2 : Int32) (v3 : Int32) (v5 : Int32) (t1 : Int32) (t2 : Int32) (σ : jS) : Option ((Int32 × jS) ⊕ jS) :=
  gd (vp_in t1 1024) (bd (s_i σ (nm 24) t1.toNatClampNeg t2) (fun s5 =>
    some (.inl (v5 + (-1), s5))))
noncomputable def f_X0_leastSum_L16 (nm : Nat → Nat) (v1 : Int32) (v2 : Int32) (v3 : Int32) (s : (Int32 × jS)) : Option ((Int32 × jS) ⊕ jS) :=
  match s with
  | (v5, σ) =>
    if v5 < 0 then
      some (.inr σ)
    else
      (f_J6_bitCount_0f7a4 v5).bind (fun q2 =>
        if 1024 ≤ v5 then
          some (.inl (v5 + (-1), σ))
        else
          if v3 < q2 then
            some (.inl (v5 + (-1), σ))
          else
            (if q2 = v3 then
              some 0
            else
              (f_X0_leastRest nm v5 (v1 + (q2 * v2)) σ).bind (fun q3 =>
                some q3)).bind (fun y4 =>
              f_X0_leastSum_J70 nm v1 v2 v3 v5 v5 y4 σ))
noncomputable def f_X0_leastSum (nm : Nat → Nat) (v1 : Int32) (v2 : Int32) (v3 : Int32) (σ : jS) : Option (Int32 × jS) :=
  (f_X6_allLamps (jn nm [1, 2, 3, 4, 5, 6, 7, 8, 9, 10, 11, 12, 13, 14, 15, 16, 17]) σ).bind (fun q1 =>
    (lp (f_X0_leastSum_L16 nm v1 v2 v3) fu (q1, σ)).bind (fun s6 =>
      gd (vp_in 0 1024) (
        if 100000 ≤ (g_i s6 (nm 24) (0 : Int32).toNatClampNeg) then
          some ((-1), s6)
        else
          gd (vp_in 0 1024) (
            some (g_i s6 (nm 24) (0 : Int32).toNatClampNeg, s6)))))
abbrev Y_X0_leastSum : jY := (yX0_leastSum, cX0_leastSum, 7, some .int, { frames := 3, cells := 0, slots := 0, locals := 69 })
theorem C_X0_leastSum {l : Launch} {G : jG} {nm : Nat → Nat} (hG : jWL G) (hE : jE G nm LS_X0) (v1 : Int32) (v2 : Int32) (v3 : Int32) (σ : jS) : jC r_I l G Y_X0_leastSum [.ref (jad G (nm 0)), .int v1, .int v2, .int v3] σ (f_X0_leastSum nm v1 v2 v3 σ) := by
  refine jw_met hG pn_X0 (Nat.le_of_ble_eq_true rfl) ⟨rfl, rfl⟩ ?_
  intro X hX hM
  have hX : jB X l G cX0_leastSum RX0 7 { frames := 3, cells := 0, slots := 0, locals := 69 } := hX
  have hM : jM X (some .int) := hM
  show J X 0 [(0, .ref (jad G (nm 0))), (1, .int v1), (2, .int v2), (3, .int v3)] [] σ (f_X0_leastSum nm v1 v2 v3 σ) (jk r_I X)
  unfold f_X0_leastSum
  refine J_aload_n hX dX0_leastSum_0 rfl ?_
  refine J_getr hX hE 0 0 rfl rfl fl_X0_18 dX0_leastSum_1 ?_
  refine J_getr hX hE 18 0 rfl rfl fl_X0_22 dX0_leastSum_4 ?_
  refine J_cVP hX hE 1 (C_X6_allLamps hG (hE.sb [1, 2, 3, 4, 5, 6, 7, 8, 9, 10, 11, 12, 13, 14, 15, 16, 17] sb_2) σ) mw_X6_allLamps ml_X0_86 rfl rfl rfl ⟨Nat.le_of_ble_eq_true rfl, Nat.le_of_ble_eq_true rfl⟩ rfl rfl (Nat.le_of_ble_eq_true rfl) dX0_leastSum_7 (fun q7 => ?_)
  refine J_istore hX dX0_leastSum_10 (Nat.le_of_ble_eq_true rfl) (lv' := [(0, .ref (jad G (nm 0))), (1, .int v1), (2, .int v2), (3, .int v3), (4, .int q7)]) rfl ?_
  refine J_iload hX dX0_leastSum_12 rfl ?_
  refine J_istore hX dX0_leastSum_14 (Nat.le_of_ble_eq_true rfl) (lv' := [(0, .ref (jad G (nm 0))), (1, .int v1), (2, .int v2), (3, .int v3), (4, .int q7), (5, .int q7)]) rfl ?_
  refine J_keep [0, 1, 2, 3, 5] (lv' := [(0, .ref (jad G (nm 0))), (1, .int v1), (2, .int v2), (3, .int v3), (5, .int q7)]) rfl ?_
  refine J_lp (pc := 16) (s0 := (q7, σ)) (fun (s : (Int32 × jS)) => [(0, .ref (jad G (nm 0))), (1, .int v1), (2, .int v2), (3, .int v3), (5, .int (s.1))]) (fun (s : (Int32 × jS)) => s.2) ?_
  intro KK16 hN16 hQ16 z16
  obtain ⟨v5_16, σ_16⟩ := z16
  show J X 16 [(0, .ref (jad G (nm 0))), (1, .int v1), (2, .int v2), (3, .int v3), (5, .int v5_16)] [] σ_16 (f_X0_leastSum_L16 nm v1 v2 v3 (v5_16, σ_16)) KK16
  have hJ70 : ∀ (v5_j70 : Int32) (t1_j70 : Int32) (t2_j70 : Int32) (σ_j70 : jS), J X 70 [(0, .ref (jad G (nm 0))), (1, .int v1), (2, .int v2), (3, .int v3), (5, .int v5_j70)] [.int t2_j70, .int t1_j70, .ref (jad G (nm 24))] σ_j70 (f_X0_leastSum_J70 nm v1 v2 v3 v5_j70 t1_j70 t2_j70 σ_j70) KK16 := by
    intro v5_j70 t1_j70 t2_j70 σ_j70
    unfold f_X0_leastSum_J70
    refine J_iast hX hE 24 rfl dX0_leastSum_70 (fun _ => ?_)
    refine J_bdS (fun s8 => ?_)
    refine J_iinc hX dX0_leastSum_71 rfl (congrArg (_ + ·) k_im1) (Nat.le_of_ble_eq_true rfl) (lv' := [(0, .ref (jad G (nm 0))), (1, .int v1), (2, .int v2), (3, .int v3), (5, .int (v5_j70 + (-1)))]) rfl ?_
    refine J_goto hX dX0_leastSum_74 (tgt := 16) rfl ?_
    exact J_keep [0, 1, 2, 3, 4] rfl (hN16 (v5_j70 + (-1), s8))
  unfold f_X0_leastSum_L16
  refine J_iload hX dX0_leastSum_16 rfl ?_
  refine J_if_lt hX dX0_leastSum_18 (tgt := 77) rfl (fun _ => ?_) (fun _ => ?_)
  · refine hQ16 _ _ _ _ _ ?_
    refine J_aload_n hX dX0_leastSum_77 rfl ?_
    refine J_getr hX hE 0 2 rfl rfl fl_X0_15 dX0_leastSum_78 ?_
    refine J_iconst hX dX0_leastSum_81 k_i0 ?_
    refine J_iald hX hE 24 rfl dX0_leastSum_82 (fun _ => ?_)
    refine J_ldc hX wc_X0_97 dX0_leastSum_83 ?_
    refine J_icmp_ge hX dX0_leastSum_85 (tgt := 97) rfl (fun _ => ?_) (fun _ => ?_)
    · refine J_iconst hX dX0_leastSum_97 k_im1 ?_
      exact J_iret hX hM dX0_leastSum_98
    · refine J_aload_n hX dX0_leastSum_88 rfl ?_
      refine J_getr hX hE 0 2 rfl rfl fl_X0_15 dX0_leastSum_89 ?_
      refine J_iconst hX dX0_leastSum_92 k_i0 ?_
      refine J_iald hX hE 24 rfl dX0_leastSum_93 (fun _ => ?_)
      refine J_goto hX dX0_leastSum_94 (tgt := 98) rfl ?_
      exact J_iret hX hM dX0_leastSum_98
  · refine J_iload hX dX0_leastSum_21 rfl ?_
    refine J_cSP hX (C_J6_bitCount_0f7a4 hG v5_16 σ_16) mw_J6_bitCount_0f7a4 ml_X0_89 ⟨Nat.le_of_ble_eq_true rfl, Nat.le_of_ble_eq_true rfl⟩ rfl rfl (Nat.le_of_ble_eq_true rfl) dX0_leastSum_23 (fun q9 => ?_)
    refine J_istore hX dX0_leastSum_26 (Nat.le_of_ble_eq_true rfl) (lv' := [(0, .ref (jad G (nm 0))), (1, .int v1), (2, .int v2), (3, .int v3), (5, .int v5_16), (6, .int q9)]) rfl ?_
    refine J_iload hX dX0_leastSum_28 rfl ?_
    refine J_sipush hX dX0_leastSum_30 ks_1024 ?_
    refine J_icmp_ge hX dX0_leastSum_33 (tgt := 71) rfl (fun _ => ?_) (fun _ => ?_)
    · refine J_iinc hX dX0_leastSum_71 rfl (congrArg (_ + ·) k_im1) (Nat.le_of_ble_eq_true rfl) (lv' := [(0, .ref (jad G (nm 0))), (1, .int v1), (2, .int v2), (3, .int v3), (5, .int (v5_16 + (-1))), (6, .int q9)]) rfl ?_
      refine J_goto hX dX0_leastSum_74 (tgt := 16) rfl ?_
      exact J_keep [0, 1, 2, 3, 4] rfl (hN16 (v5_16 + (-1), σ_16))
    · refine J_iload hX dX0_leastSum_36 rfl ?_
      refine J_iload_n hX dX0_leastSum_38 rfl ?_
      refine J_icmp_gt hX dX0_leastSum_39 (tgt := 71) rfl (fun _ => ?_) (fun _ => ?_)
      · refine J_iinc hX dX0_leastSum_71 rfl (congrArg (_ + ·) k_im1) (Nat.le_of_ble_eq_true rfl) (lv' := [(0, .ref (jad G (nm 0))), (1, .int v1), (2, .int v2), (3, .int v3), (5, .int (v5_16 + (-1))), (6, .int q9)]) rfl ?_
        refine J_goto hX dX0_leastSum_74 (tgt := 16) rfl ?_
        exact J_keep [0, 1, 2, 3, 4] rfl (hN16 (v5_16 + (-1), σ_16))
      · refine J_aload_n hX dX0_leastSum_42 rfl ?_
        refine J_getr hX hE 0 2 rfl rfl fl_X0_15 dX0_leastSum_43 ?_
        refine J_iload hX dX0_leastSum_46 rfl ?_
        refine J_iload hX dX0_leastSum_48 rfl ?_
        refine J_iload_n hX dX0_leastSum_50 rfl ?_
        refine J_blk ?_
        intro KB51 hB51
        refine J_icmp_ne hX dX0_leastSum_51 (tgt := 58) rfl (fun _ => ?_) (fun _ => ?_)
        · refine J_aload_n hX dX0_leastSum_58 rfl ?_
          refine J_iload hX dX0_leastSum_59 rfl ?_
          refine J_iload_n hX dX0_leastSum_61 rfl ?_
          refine J_iload hX dX0_leastSum_62 rfl ?_
          refine J_iload_n hX dX0_leastSum_64 rfl ?_
          refine J_imul hX dX0_leastSum_65 ?_
          refine J_iadd hX dX0_leastSum_66 ?_
          refine J_cVP hX hE 0 (C_X0_leastRest hG hE v5_16 (v1 + (q9 * v2)) σ_16) mw_X0_leastRest ml_X0_94 rfl rfl rfl ⟨Nat.le_of_ble_eq_true rfl, Nat.le_of_ble_eq_true rfl⟩ rfl rfl (Nat.le_of_ble_eq_true rfl) dX0_leastSum_67 (fun q10 => ?_)
          refine hB51 _ _ _ _ _ ?_
          exact J_keep [0, 1, 2, 3, 4] rfl (hJ70 v5_16 v5_16 q10 σ_16)
        · refine J_iconst hX dX0_leastSum_54 k_i0 ?_
          refine J_goto hX dX0_leastSum_55 (tgt := 70) rfl ?_
          refine hB51 _ _ _ _ _ ?_
          exact J_keep [0, 1, 2, 3, 4] rfl (hJ70 v5_16 v5_16 0 σ_16)
theorem mw_X0_leastSum : jMV Y_X0_leastSum 3 := ⟨⟨tw_tb (List.mem_of_getElem? (i := 967) (by decide +kernel)) (by decide +kernel), tw_tb (List.mem_of_getElem? (i := 968) (by decide +kernel)) (by decide +kernel), tw_tb (List.mem_of_getElem? (i := 12) (by decide +kernel)) (by decide +kernel), tw_tb (List.mem_of_getElem? (i := 969) (by decide +kernel)) (by decide +kernel)⟩, ⟨rfl, rfl⟩, by decide +kernel, by decide +kernel, by decide +kernel⟩
-- X0_lowestBut
noncomputable def f_X0_lowestBut_L4 (nm : Nat → Nat) (v1 : Int32) (σ : jS) (s : (Int32 × Int32)) : Option ((Int32 × Int32) ⊕ Int32) :=
  match s with
  | (v2, v3) =>
    (f_X6_lamps (jn nm [1, 2, 3, 4, 5, 6, 7, 8, 9, 10, 11, 12, 13, 14, 15, 16, 17]) σ).bind (fun q1 =>
      if q1 ≤ v3 then
        some (.inr v2)
      else
        if ((v1 >>> (v3 &&& 31)) &&& 1) = 0 then
          if v2 = (-1) then
            some (.inl (v3, v3 + 1))
          else
            (f_X2_noteOf (jn nm [18, 1, 2, 3, 4, 5, 6, 7, 8, 9, 10, 11, 12, 13, 14, 15, 16, 17, 19, 20, 21, 22]) v3 σ).bind (fun q2 =>
              (f_X2_noteOf (jn nm [18, 1, 2, 3, 4, 5, 6, 7, 8, 9, 10, 11, 12, 13, 14, 15, 16, 17, 19, 20, 21, 22]) v2 σ).bind (fun q3 =>
                if q3 ≤ q2 then
                  some (.inl (v2, v3 + 1))
                else
                  some (.inl (v3, v3 + 1))))
        else
          some (.inl (v2, v3 + 1)))
noncomputable def f_X0_lowestBut (nm : Nat → Nat) (v1 : Int32) (σ : jS) : Option Int32 :=
  (lp (f_X0_lowestBut_L4 nm v1 σ) fu ((-1), 0)).bind (fun e4 =>
    some e4)
abbrev Y_X0_lowestBut : jY := (yX0_lowestBut, cX0_lowestBut, 4, some .int, { frames := 2, cells := 0, slots := 0, locals := 40 })
theorem C_X0_lowestBut {l : Launch} {G : jG} {nm : Nat → Nat} (hG : jWL G) (hE : jE G nm LS_X0) (v1 : Int32) (σ : jS) : jC (r_P σ) l G Y_X0_lowestBut [.ref (jad G (nm 0)), .int v1] σ (f_X0_lowestBut nm v1 σ) := by
  refine jw_met hG pn_X0 (Nat.le_of_ble_eq_true rfl) ⟨rfl, rfl⟩ ?_
  intro X hX hM
  have hX : jB X l G cX0_lowestBut RX0 4 { frames := 2, cells := 0, slots := 0, locals := 40 } := hX
  have hM : jM X (some .int) := hM
  show J X 0 [(0, .ref (jad G (nm 0))), (1, .int v1)] [] σ (f_X0_lowestBut nm v1 σ) (jk (r_P σ) X)
  unfold f_X0_lowestBut
  refine J_iconst hX dX0_lowestBut_0 k_im1 ?_
  refine J_istore_n hX dX0_lowestBut_1 (Nat.le_of_ble_eq_true rfl) (lv' := [(0, .ref (jad G (nm 0))), (1, .int v1), (2, .int (-1))]) rfl ?_
  refine J_iconst hX dX0_lowestBut_2 k_i0 ?_
  refine J_istore_n hX dX0_lowestBut_3 (Nat.le_of_ble_eq_true rfl) (lv' := [(0, .ref (jad G (nm 0))), (1, .int v1), (2, .int (-1)), (3, .int 0)]) rfl ?_
  refine J_keep [0, 1, 2, 3] (lv' := [(0, .ref (jad G (nm 0))), (1, .int v1), (2, .int (-1)), (3, .int 0)]) rfl ?_
  refine J_lp (pc := 4) (s0 := ((-1), 0)) (fun (s : (Int32 × Int32)) => [(0, .ref (jad G (nm 0))), (1, .int v1), (2, .int (s.1)), (3, .int (s.2))]) (fun (s : (Int32 × Int32)) => σ) ?_
  intro KK4 hN4 hQ4 z4
  obtain ⟨v2_4, v3_4⟩ := z4
  show J X 4 [(0, .ref (jad G (nm 0))), (1, .int v1), (2, .int v2_4), (3, .int v3_4)] [] σ (f_X0_lowestBut_L4 nm v1 σ (v2_4, v3_4)) KK4
  unfold f_X0_lowestBut_L4
  refine J_iload_n hX dX0_lowestBut_4 rfl ?_
  refine J_aload_n hX dX0_lowestBut_5 rfl ?_
  refine J_getr hX hE 0 0 rfl rfl fl_X0_18 dX0_lowestBut_6 ?_
  refine J_getr hX hE 18 0 rfl rfl fl_X0_22 dX0_lowestBut_9 ?_
  refine J_cVP hX hE 1 (C_X6_lamps hG (hE.sb [1, 2, 3, 4, 5, 6, 7, 8, 9, 10, 11, 12, 13, 14, 15, 16, 17] sb_2) σ) mw_X6_lamps ml_X0_28 rfl rfl rfl ⟨Nat.le_of_ble_eq_true rfl, Nat.le_of_ble_eq_true rfl⟩ rfl rfl (Nat.le_of_ble_eq_true rfl) dX0_lowestBut_12 (fun q5 => ?_)
  refine J_icmp_ge hX dX0_lowestBut_15 (tgt := 58) rfl (fun _ => ?_) (fun _ => ?_)
  · refine hQ4 _ _ _ _ _ ?_
    refine J_iload_n hX dX0_lowestBut_58 rfl ?_
    exact J_iretP hX hM dX0_lowestBut_59
  · refine J_iload_n hX dX0_lowestBut_18 rfl ?_
    refine J_iload_n hX dX0_lowestBut_19 rfl ?_
    refine J_ishr hX dX0_lowestBut_20 ?_
    refine J_iconst hX dX0_lowestBut_21 k_i1 ?_
    refine J_iand hX dX0_lowestBut_22 ?_
    refine J_if_ne hX dX0_lowestBut_23 (tgt := 52) rfl (fun _ => ?_) (fun _ => ?_)
    · refine J_iinc hX dX0_lowestBut_52 rfl (congrArg (_ + ·) k_i1) (Nat.le_of_ble_eq_true rfl) (lv' := [(0, .ref (jad G (nm 0))), (1, .int v1), (2, .int v2_4), (3, .int (v3_4 + 1))]) rfl ?_
      refine J_goto hX dX0_lowestBut_55 (tgt := 4) rfl ?_
      exact J_keep [0, 1, 2, 3] rfl (hN4 (v2_4, v3_4 + 1))
    · refine J_iload_n hX dX0_lowestBut_26 rfl ?_
      refine J_iconst hX dX0_lowestBut_27 k_im1 ?_
      refine J_icmp_eq hX dX0_lowestBut_28 (tgt := 50) rfl (fun _ => ?_) (fun _ => ?_)
      · refine J_iload_n hX dX0_lowestBut_50 rfl ?_
        refine J_istore_n hX dX0_lowestBut_51 (Nat.le_of_ble_eq_true rfl) (lv' := [(0, .ref (jad G (nm 0))), (1, .int v1), (2, .int v3_4), (3, .int v3_4)]) rfl ?_
        refine J_iinc hX dX0_lowestBut_52 rfl (congrArg (_ + ·) k_i1) (Nat.le_of_ble_eq_true rfl) (lv' := [(0, .ref (jad G (nm 0))), (1, .int v1), (2, .int v3_4), (3, .int (v3_4 + 1))]) rfl ?_
        refine J_goto hX dX0_lowestBut_55 (tgt := 4) rfl ?_
        exact J_keep [0, 1, 2, 3] rfl (hN4 (v3_4, v3_4 + 1))
      · refine J_aload_n hX dX0_lowestBut_31 rfl ?_
        refine J_getr hX hE 0 0 rfl rfl fl_X0_18 dX0_lowestBut_32 ?_
        refine J_iload_n hX dX0_lowestBut_35 rfl ?_
        refine J_cVP hX hE 18 (C_X2_noteOf hG (hE.sb [18, 1, 2, 3, 4, 5, 6, 7, 8, 9, 10, 11, 12, 13, 14, 15, 16, 17, 19, 20, 21, 22] sb_1) v3_4 σ) mw_X2_noteOf ml_X0_38 rfl rfl rfl ⟨Nat.le_of_ble_eq_true rfl, Nat.le_of_ble_eq_true rfl⟩ rfl rfl (Nat.le_of_ble_eq_true rfl) dX0_lowestBut_36 (fun q6 => ?_)
        refine J_aload_n hX dX0_lowestBut_39 rfl ?_
        refine J_getr hX hE 0 0 rfl rfl fl_X0_18 dX0_lowestBut_40 ?_
        refine J_iload_n hX dX0_lowestBut_43 rfl ?_
        refine J_cVP hX hE 18 (C_X2_noteOf hG (hE.sb [18, 1, 2, 3, 4, 5, 6, 7, 8, 9, 10, 11, 12, 13, 14, 15, 16, 17, 19, 20, 21, 22] sb_1) v2_4 σ) mw_X2_noteOf ml_X0_38 rfl rfl rfl ⟨Nat.le_of_ble_eq_true rfl, Nat.le_of_ble_eq_true rfl⟩ rfl rfl (Nat.le_of_ble_eq_true rfl) dX0_lowestBut_44 (fun q7 => ?_)
        refine J_icmp_ge hX dX0_lowestBut_47 (tgt := 52) rfl (fun _ => ?_) (fun _ => ?_)
        · refine J_iinc hX dX0_lowestBut_52 rfl (congrArg (_ + ·) k_i1) (Nat.le_of_ble_eq_true rfl) (lv' := [(0, .ref (jad G (nm 0))), (1, .int v1), (2, .int v2_4), (3, .int (v3_4 + 1))]) rfl ?_
          refine J_goto hX dX0_lowestBut_55 (tgt := 4) rfl ?_
          exact J_keep [0, 1, 2, 3] rfl (hN4 (v2_4, v3_4 + 1))
        · refine J_iload_n hX dX0_lowestBut_50 rfl ?_
          refine J_istore_n hX dX0_lowestBut_51 (Nat.le_of_ble_eq_true rfl) (lv' := [(0, .ref (jad G (nm 0))), (1, .int v1), (2, .int v3_4), (3, .int v3_4)]) rfl ?_
          refine J_iinc hX dX0_lowestBut_52 rfl (congrArg (_ + ·) k_i1) (Nat.le_of_ble_eq_true rfl) (lv' := [(0, .ref (jad G (nm 0))), (1, .int v1), (2, .int v3_4), (3, .int (v3_4 + 1))]) rfl ?_
          refine J_goto hX dX0_lowestBut_55 (tgt := 4) rfl ?_
          exact J_keep [0, 1, 2, 3] rfl (hN4 (v3_4, v3_4 + 1))
theorem mw_X0_lowestBut : jMV Y_X0_lowestBut 1 := ⟨⟨tw_tb (List.mem_of_getElem? (i := 943) (by decide +kernel)) (by decide +kernel), tw_pv (List.mem_of_getElem? (i := 26) (by decide +kernel)) (by decide +kernel), tw_tb (List.mem_of_getElem? (i := 12) (by decide +kernel)) (by decide +kernel), tw_tb (List.mem_of_getElem? (i := 944) (by decide +kernel)) (by decide +kernel)⟩, ⟨rfl, rfl⟩, by decide +kernel, by decide +kernel, by decide +kernel⟩
-- X0_partAll
noncomputable def f_X0_partAll_L9 (nm : Nat → Nat) (s : (Int32 × Int32 × Int32 × Int32 × jS)) : Option ((Int32 × Int32 × Int32 × Int32 × jS) ⊕ ((Int32 × jS) ⊕ (Int32 × jS))) :=
  match s with
  | (v1, v2, v3, v4, σ) =>
    (f_X6_lamps (jn nm [1, 2, 3, 4, 5, 6, 7, 8, 9, 10, 11, 12, 13, 14, 15, 16, 17]) σ).bind (fun q1 =>
      if q1 ≤ v4 then
        some (.inr (.inl (v1, σ)))
      else
        (f_X0_lowestBut nm v2 σ).bind (fun q2 =>
          (f_X2_noteOf (jn nm [18, 1, 2, 3, 4, 5, 6, 7, 8, 9, 10, 11, 12, 13, 14, 15, 16, 17, 19, 20, 21, 22]) q2 σ).bind (fun q3 =>
            (f_X0_leastFree nm q2 (imax q3 v3) v2 σ).bind (fun q4 =>
              if q4 = (-1) then
                some (.inr (.inr ((-1), σ)))
              else
                if q2 < 0 then
                  some (.inr (.inr ((-1), σ)))
                else
                  if q2 < 10 then
                    gd (vp_in q2 10) (bd (s_i σ (nm 23) q2.toNatClampNeg q4) (fun s5 =>
                      bd (v1 + (q4 - q3)) (fun x6 =>
                        bd (v2 ||| (1 <<< (q2 &&& 31))) (fun x7 =>
                          some (.inl (x6, x7, q4, v4 + 1, s5))))))
                  else
                    some (.inr (.inr ((-1), σ)))))))
noncomputable def f_X0_partAll (nm : Nat → Nat) (σ : jS) : Option (Int32 × jS) :=
  (lp (f_X0_partAll_L9 nm) fu (0, 0, 0, 0, σ)).bind (fun x => match x with
  | .inl (e8, s9) =>
    some (e8, s9)
  | .inr a => some a)
abbrev Y_X0_partAll : jY := (yX0_partAll, cX0_partAll, 8, some .int, { frames := 4, cells := 0, slots := 0, locals := 98 })
theorem C_X0_partAll {l : Launch} {G : jG} {nm : Nat → Nat} (hG : jWL G) (hE : jE G nm LS_X0) (σ : jS) : jC r_I l G Y_X0_partAll [.ref (jad G (nm 0))] σ (f_X0_partAll nm σ) := by
  refine jw_met hG pn_X0 (Nat.le_of_ble_eq_true rfl) ⟨rfl, rfl⟩ ?_
  intro X hX hM
  have hX : jB X l G cX0_partAll RX0 8 { frames := 4, cells := 0, slots := 0, locals := 98 } := hX
  have hM : jM X (some .int) := hM
  show J X 0 [(0, .ref (jad G (nm 0)))] [] σ (f_X0_partAll nm σ) (jk r_I X)
  unfold f_X0_partAll
  refine J_iconst hX dX0_partAll_0 k_i0 ?_
  refine J_istore_n hX dX0_partAll_1 (Nat.le_of_ble_eq_true rfl) (lv' := [(0, .ref (jad G (nm 0))), (1, .int 0)]) rfl ?_
  refine J_iconst hX dX0_partAll_2 k_i0 ?_
  refine J_istore_n hX dX0_partAll_3 (Nat.le_of_ble_eq_true rfl) (lv' := [(0, .ref (jad G (nm 0))), (1, .int 0), (2, .int 0)]) rfl ?_
  refine J_iconst hX dX0_partAll_4 k_i0 ?_
  refine J_istore_n hX dX0_partAll_5 (Nat.le_of_ble_eq_true rfl) (lv' := [(0, .ref (jad G (nm 0))), (1, .int 0), (2, .int 0), (3, .int 0)]) rfl ?_
  refine J_iconst hX dX0_partAll_6 k_i0 ?_
  refine J_istore hX dX0_partAll_7 (Nat.le_of_ble_eq_true rfl) (lv' := [(0, .ref (jad G (nm 0))), (1, .int 0), (2, .int 0), (3, .int 0), (4, .int 0)]) rfl ?_
  refine J_keep [0, 1, 2, 3, 4] (lv' := [(0, .ref (jad G (nm 0))), (1, .int 0), (2, .int 0), (3, .int 0), (4, .int 0)]) rfl ?_
  refine J_lp (pc := 9) (s0 := (0, 0, 0, 0, σ)) (fun (s : (Int32 × Int32 × Int32 × Int32 × jS)) => [(0, .ref (jad G (nm 0))), (1, .int (s.1)), (2, .int (s.2.1)), (3, .int (s.2.2.1)), (4, .int (s.2.2.2.1))]) (fun (s : (Int32 × Int32 × Int32 × Int32 × jS)) => s.2.2.2.2) ?_
  intro KK9 hN9 hQ9 z9
  obtain ⟨v1_9, v2_9, v3_9, v4_9, σ_9⟩ := z9
  show J X 9 [(0, .ref (jad G (nm 0))), (1, .int v1_9), (2, .int v2_9), (3, .int v3_9), (4, .int v4_9)] [] σ_9 (f_X0_partAll_L9 nm (v1_9, v2_9, v3_9, v4_9, σ_9)) KK9
  unfold f_X0_partAll_L9
  refine J_iload hX dX0_partAll_9 rfl ?_
  refine J_aload_n hX dX0_partAll_11 rfl ?_
  refine J_getr hX hE 0 0 rfl rfl fl_X0_18 dX0_partAll_12 ?_
  refine J_getr hX hE 18 0 rfl rfl fl_X0_22 dX0_partAll_15 ?_
  refine J_cVP hX hE 1 (C_X6_lamps hG (hE.sb [1, 2, 3, 4, 5, 6, 7, 8, 9, 10, 11, 12, 13, 14, 15, 16, 17] sb_2) σ_9) mw_X6_lamps ml_X0_28 rfl rfl rfl ⟨Nat.le_of_ble_eq_true rfl, Nat.le_of_ble_eq_true rfl⟩ rfl rfl (Nat.le_of_ble_eq_true rfl) dX0_partAll_18 (fun q10 => ?_)
  refine J_icmp_ge hX dX0_partAll_21 (tgt := 110) rfl (fun _ => ?_) (fun _ => ?_)
  · refine hQ9 _ _ _ _ _ ?_
    refine J_iload_n hX dX0_partAll_110 rfl ?_
    exact J_iret hX hM dX0_partAll_111
  · refine J_aload_n hX dX0_partAll_24 rfl ?_
    refine J_iload_n hX dX0_partAll_25 rfl ?_
    refine J_cVP hX hE 0 (C_X0_lowestBut hG hE v2_9 σ_9) mw_X0_lowestBut ml_X0_34 rfl rfl rfl ⟨Nat.le_of_ble_eq_true rfl, Nat.le_of_ble_eq_true rfl⟩ rfl rfl (Nat.le_of_ble_eq_true rfl) dX0_partAll_26 (fun q11 => ?_)
    refine J_istore hX dX0_partAll_29 (Nat.le_of_ble_eq_true rfl) (lv' := [(0, .ref (jad G (nm 0))), (1, .int v1_9), (2, .int v2_9), (3, .int v3_9), (4, .int v4_9), (5, .int q11)]) rfl ?_
    refine J_aload_n hX dX0_partAll_31 rfl ?_
    refine J_getr hX hE 0 0 rfl rfl fl_X0_18 dX0_partAll_32 ?_
    refine J_iload hX dX0_partAll_35 rfl ?_
    refine J_cVP hX hE 18 (C_X2_noteOf hG (hE.sb [18, 1, 2, 3, 4, 5, 6, 7, 8, 9, 10, 11, 12, 13, 14, 15, 16, 17, 19, 20, 21, 22] sb_1) q11 σ_9) mw_X2_noteOf ml_X0_38 rfl rfl rfl ⟨Nat.le_of_ble_eq_true rfl, Nat.le_of_ble_eq_true rfl⟩ rfl rfl (Nat.le_of_ble_eq_true rfl) dX0_partAll_37 (fun q12 => ?_)
    refine J_istore hX dX0_partAll_40 (Nat.le_of_ble_eq_true rfl) (lv' := [(0, .ref (jad G (nm 0))), (1, .int v1_9), (2, .int v2_9), (3, .int v3_9), (4, .int v4_9), (5, .int q11), (6, .int q12)]) rfl ?_
    refine J_aload_n hX dX0_partAll_42 rfl ?_
    refine J_iload hX dX0_partAll_43 rfl ?_
    refine J_iload hX dX0_partAll_45 rfl ?_
    refine J_iload_n hX dX0_partAll_47 rfl ?_
    refine J_mmax2 hX mm_X0_41 (Nat.le_of_ble_eq_true rfl) (Nat.le_of_ble_eq_true rfl) dX0_partAll_48 ?_
    refine J_iload_n hX dX0_partAll_51 rfl ?_
    refine J_cVP hX hE 0 (C_X0_leastFree hG hE q11 (imax q12 v3_9) v2_9 σ_9) mw_X0_leastFree ml_X0_47 rfl rfl rfl ⟨Nat.le_of_ble_eq_true rfl, Nat.le_of_ble_eq_true rfl⟩ rfl rfl (Nat.le_of_ble_eq_true rfl) dX0_partAll_52 (fun q13 => ?_)
    refine J_istore hX dX0_partAll_55 (Nat.le_of_ble_eq_true rfl) (lv' := [(0, .ref (jad G (nm 0))), (1, .int v1_9), (2, .int v2_9), (3, .int v3_9), (4, .int v4_9), (5, .int q11), (6, .int q12), (7, .int q13)]) rfl ?_
    refine J_iload hX dX0_partAll_57 rfl ?_
    refine J_iconst hX dX0_partAll_59 k_im1 ?_
    refine J_icmp_eq hX dX0_partAll_60 (tgt := 75) rfl (fun _ => ?_) (fun _ => ?_)
    · refine J_iconst hX dX0_partAll_75 k_im1 ?_
      refine hQ9 _ _ _ _ _ ?_
      exact J_iret hX hM dX0_partAll_76
    · refine J_iload hX dX0_partAll_63 rfl ?_
      refine J_if_lt hX dX0_partAll_65 (tgt := 75) rfl (fun _ => ?_) (fun _ => ?_)
      · refine J_iconst hX dX0_partAll_75 k_im1 ?_
        refine hQ9 _ _ _ _ _ ?_
        exact J_iret hX hM dX0_partAll_76
      · refine J_iload hX dX0_partAll_68 rfl ?_
        refine J_bipush hX dX0_partAll_70 kb_10 ?_
        refine J_icmp_lt hX dX0_partAll_72 (tgt := 77) rfl (fun _ => ?_) (fun _ => ?_)
        · refine J_aload_n hX dX0_partAll_77 rfl ?_
          refine J_getr hX hE 0 1 rfl rfl fl_X0_9 dX0_partAll_78 ?_
          refine J_iload hX dX0_partAll_81 rfl ?_
          refine J_iload hX dX0_partAll_83 rfl ?_
          refine J_iast hX hE 23 rfl dX0_partAll_85 (fun _ => ?_)
          refine J_bdS (fun s14 => ?_)
          refine J_iload_n hX dX0_partAll_86 rfl ?_
          refine J_iload hX dX0_partAll_87 rfl ?_
          refine J_iload hX dX0_partAll_89 rfl ?_
          refine J_isub hX dX0_partAll_91 ?_
          refine J_iadd hX dX0_partAll_92 ?_
          refine J_bdI (fun x15 => ?_)
          refine J_istore_n hX dX0_partAll_93 (Nat.le_of_ble_eq_true rfl) (lv' := [(0, .ref (jad G (nm 0))), (1, .int x15), (2, .int v2_9), (3, .int v3_9), (4, .int v4_9), (5, .int q11), (6, .int q12), (7, .int q13)]) rfl ?_
          refine J_iload_n hX dX0_partAll_94 rfl ?_
          refine J_iconst hX dX0_partAll_95 k_i1 ?_
          refine J_iload hX dX0_partAll_96 rfl ?_
          refine J_ishl hX dX0_partAll_98 ?_
          refine J_ior hX dX0_partAll_99 ?_
          refine J_bdI (fun x16 => ?_)
          refine J_istore_n hX dX0_partAll_100 (Nat.le_of_ble_eq_true rfl) (lv' := [(0, .ref (jad G (nm 0))), (1, .int x15), (2, .int x16), (3, .int v3_9), (4, .int v4_9), (5, .int q11), (6, .int q12), (7, .int q13)]) rfl ?_
          refine J_iload hX dX0_partAll_101 rfl ?_
          refine J_istore_n hX dX0_partAll_103 (Nat.le_of_ble_eq_true rfl) (lv' := [(0, .ref (jad G (nm 0))), (1, .int x15), (2, .int x16), (3, .int q13), (4, .int v4_9), (5, .int q11), (6, .int q12), (7, .int q13)]) rfl ?_
          refine J_iinc hX dX0_partAll_104 rfl (congrArg (_ + ·) k_i1) (Nat.le_of_ble_eq_true rfl) (lv' := [(0, .ref (jad G (nm 0))), (1, .int x15), (2, .int x16), (3, .int q13), (4, .int (v4_9 + 1)), (5, .int q11), (6, .int q12), (7, .int q13)]) rfl ?_
          refine J_goto hX dX0_partAll_107 (tgt := 9) rfl ?_
          exact J_keep [0, 1, 2, 3, 4] rfl (hN9 (x15, x16, q13, v4_9 + 1, s14))
        · refine J_iconst hX dX0_partAll_75 k_im1 ?_
          refine hQ9 _ _ _ _ _ ?_
          exact J_iret hX hM dX0_partAll_76
theorem mw_X0_partAll : jMV Y_X0_partAll 0 := ⟨⟨tw_tb (List.mem_of_getElem? (i := 937) (by decide +kernel)) (by decide +kernel), tw_tb (List.mem_of_getElem? (i := 938) (by decide +kernel)) (by decide +kernel), tw_tb (List.mem_of_getElem? (i := 12) (by decide +kernel)) (by decide +kernel), tw_tb (List.mem_of_getElem? (i := 939) (by decide +kernel)) (by decide +kernel)⟩, ⟨rfl, rfl⟩, by decide +kernel, by decide +kernel, by decide +kernel⟩
-- X10_isLamp
noncomputable def f_X10_isLamp (nm : Nat → Nat) (v1 : Int32) (σ : jS) : Option Int32 :=
  if v1 < 0 then
    some 0
  else
    (f_X6_lamps (jn nm [31, 32, 33, 34, 35, 36, 37, 38, 39, 40, 41, 42, 43, 44, 45, 46, 47]) σ).bind (fun q1 =>
      if q1 ≤ v1 then
        some 0
      else
        some 1)
abbrev Y_X10_isLamp : jY := (yX10_isLamp, cX10_isLamp, 2, some .boolean, { frames := 2, cells := 0, slots := 0, locals := 40 })
theorem C_X10_isLamp {l : Launch} {G : jG} {nm : Nat → Nat} (hG : jWL G) (hE : jE G nm LS_X10) (v1 : Int32) (σ : jS) : jC (r_P σ) l G Y_X10_isLamp [.ref (jad G (nm 0)), .int v1] σ (f_X10_isLamp nm v1 σ) := by
  refine jw_met hG pn_X10 (Nat.le_of_ble_eq_true rfl) ⟨rfl, rfl⟩ ?_
  intro X hX hM
  have hX : jB X l G cX10_isLamp RX10 2 { frames := 2, cells := 0, slots := 0, locals := 40 } := hX
  have hM : jM X (some .boolean) := hM
  show J X 0 [(0, .ref (jad G (nm 0))), (1, .int v1)] [] σ (f_X10_isLamp nm v1 σ) (jk (r_P σ) X)
  unfold f_X10_isLamp
  refine J_iload_n hX dX10_isLamp_0 rfl ?_
  refine J_if_lt hX dX10_isLamp_1 (tgt := 19) rfl (fun _ => ?_) (fun _ => ?_)
  · refine J_iconst hX dX10_isLamp_19 k_i0 ?_
    exact J_zretP hX hM jn_0 dX10_isLamp_20
  · refine J_iload_n hX dX10_isLamp_4 rfl ?_
    refine J_aload_n hX dX10_isLamp_5 rfl ?_
    refine J_getr hX hE 0 2 rfl rfl fl_X10_30 dX10_isLamp_6 ?_
    refine J_cVP hX hE 31 (C_X6_lamps hG (hE.sb [31, 32, 33, 34, 35, 36, 37, 38, 39, 40, 41, 42, 43, 44, 45, 46, 47] sb_6) σ) mw_X6_lamps ml_X10_139 rfl rfl rfl ⟨Nat.le_of_ble_eq_true rfl, Nat.le_of_ble_eq_true rfl⟩ rfl rfl (Nat.le_of_ble_eq_true rfl) dX10_isLamp_9 (fun q2 => ?_)
    refine J_icmp_ge hX dX10_isLamp_12 (tgt := 19) rfl (fun _ => ?_) (fun _ => ?_)
    · refine J_iconst hX dX10_isLamp_19 k_i0 ?_
      exact J_zretP hX hM jn_0 dX10_isLamp_20
    · refine J_iconst hX dX10_isLamp_15 k_i1 ?_
      refine J_goto hX dX10_isLamp_16 (tgt := 20) rfl ?_
      exact J_zretP hX hM jn_1 dX10_isLamp_20
theorem mw_X10_isLamp : jMV Y_X10_isLamp 1 := ⟨⟨tw_tb (List.mem_of_getElem? (i := 647) (by decide +kernel)) (by decide +kernel), tw_pv (List.mem_of_getElem? (i := 8) (by decide +kernel)) (by decide +kernel), tw_tb (List.mem_of_getElem? (i := 1) (by decide +kernel)) (by decide +kernel), tw_tb (List.mem_of_getElem? (i := 648) (by decide +kernel)) (by decide +kernel)⟩, ⟨rfl, rfl⟩, by decide +kernel, by decide +kernel, by decide +kernel⟩
-- X10_alone
noncomputable def f_X10_alone_J17 (nm : Nat → Nat) (v1 : Int32) (σ : jS) : Option (Int32 × jS) :=
  (f_X0_partAll (jn nm [98, 31, 32, 33, 34, 35, 36, 37, 38, 39, 40, 41, 42, 43, 44, 45, 46, 47, 57, 58, 59, 60, 61, 99, 100]) σ).bind (fun x => match x with
  | (q1, s2) =>
    if v1 = (-1) then
      some (q1, s2)
    else
      if q1 = (-1) then
        some (q1, s2)
      else
        gd (vp_in v1 10) (
          some (g_i s2 (nm 99) v1.toNatClampNeg, s2)))
noncomputable def f_X10_alone (nm : Nat → Nat) (v1 : Int32) (σ : jS) : Option (Int32 × jS) :=
  if v1 = (-1) then
    f_X10_alone_J17 nm v1 σ
  else
    (f_X10_isLamp nm v1 σ).bind (fun q3 =>
      if q3 = 0 then
        some ((-1001), σ)
      else
        f_X10_alone_J17 nm v1 σ)
abbrev Y_X10_alone : jY := (yX10_alone, cX10_alone, 3, some .int, { frames := 5, cells := 0, slots := 0, locals := 125 })
theorem C_X10_alone {l : Launch} {G : jG} {nm : Nat → Nat} (hG : jWL G) (hE : jE G nm LS_X10) (v1 : Int32) (σ : jS) : jC r_I l G Y_X10_alone [.ref (jad G (nm 0)), .int v1] σ (f_X10_alone nm v1 σ) := by
  refine jw_met hG pn_X10 (Nat.le_of_ble_eq_true rfl) ⟨rfl, rfl⟩ ?_
  intro X hX hM
  have hX : jB X l G cX10_alone RX10 3 { frames := 5, cells := 0, slots := 0, locals := 125 } := hX
  have hM : jM X (some .int) := hM
  show J X 0 [(0, .ref (jad G (nm 0))), (1, .int v1)] [] σ (f_X10_alone nm v1 σ) (jk r_I X)
  have hJ17 : ∀ (v1 : Int32) (σ : jS), J X 17 [(0, .ref (jad G (nm 0))), (1, .int v1)] [] σ (f_X10_alone_J17 nm v1 σ) (jk r_I X) := by
    intro v1 σ
    unfold f_X10_alone_J17
    refine J_aload_n hX dX10_alone_17 rfl ?_
    refine J_getr hX hE 0 14 rfl rfl fl_X10_96 dX10_alone_18 ?_
    refine J_cVI hX hE 98 (C_X0_partAll hG (hE.sb [98, 31, 32, 33, 34, 35, 36, 37, 38, 39, 40, 41, 42, 43, 44, 45, 46, 47, 57, 58, 59, 60, 61, 99, 100] sb_7) σ) mw_X0_partAll ml_X10_289 rfl rfl rfl ⟨Nat.le_of_ble_eq_true rfl, Nat.le_of_ble_eq_true rfl⟩ rfl rfl (Nat.le_of_ble_eq_true rfl) dX10_alone_21 (fun q4 s5 => ?_)
    refine J_istore_n hX dX10_alone_24 (Nat.le_of_ble_eq_true rfl) (lv' := [(0, .ref (jad G (nm 0))), (1, .int v1), (2, .int q4)]) rfl ?_
    refine J_iload_n hX dX10_alone_25 rfl ?_
    refine J_iconst hX dX10_alone_26 k_im1 ?_
    refine J_icmp_eq hX dX10_alone_27 (tgt := 35) rfl (fun _ => ?_) (fun _ => ?_)
    · refine J_iload_n hX dX10_alone_35 rfl ?_
      exact J_iret hX hM dX10_alone_36
    · refine J_iload_n hX dX10_alone_30 rfl ?_
      refine J_iconst hX dX10_alone_31 k_im1 ?_
      refine J_icmp_ne hX dX10_alone_32 (tgt := 37) rfl (fun _ => ?_) (fun _ => ?_)
      · refine J_aload_n hX dX10_alone_37 rfl ?_
        refine J_getr hX hE 0 14 rfl rfl fl_X10_96 dX10_alone_38 ?_
        refine J_getr hX hE 98 1 rfl rfl fl_X10_292 dX10_alone_41 ?_
        refine J_iload_n hX dX10_alone_44 rfl ?_
        refine J_iald hX hE 99 rfl dX10_alone_45 (fun _ => ?_)
        exact J_iret hX hM dX10_alone_46
      · refine J_iload_n hX dX10_alone_35 rfl ?_
        exact J_iret hX hM dX10_alone_36
  unfold f_X10_alone
  refine J_iload_n hX dX10_alone_0 rfl ?_
  refine J_iconst hX dX10_alone_1 k_im1 ?_
  refine J_icmp_eq hX dX10_alone_2 (tgt := 17) rfl (fun _ => ?_) (fun _ => ?_)
  · exact J_keep [0, 1] rfl (hJ17 v1 σ)
  · refine J_aload_n hX dX10_alone_5 rfl ?_
    refine J_iload_n hX dX10_alone_6 rfl ?_
    refine J_cVP hX hE 0 (C_X10_isLamp hG hE v1 σ) mw_X10_isLamp ml_X10_167 rfl rfl rfl ⟨Nat.le_of_ble_eq_true rfl, Nat.le_of_ble_eq_true rfl⟩ rfl rfl (Nat.le_of_ble_eq_true rfl) dX10_alone_7 (fun q6 => ?_)
    refine J_if_ne hX dX10_alone_10 (tgt := 17) rfl (fun _ => ?_) (fun _ => ?_)
    · exact J_keep [0, 1] rfl (hJ17 v1 σ)
    · refine J_sipush hX dX10_alone_13 ks_m1001 ?_
      exact J_iret hX hM dX10_alone_16
theorem mw_X10_alone : jMV Y_X10_alone 1 := ⟨⟨tw_tb (List.mem_of_getElem? (i := 933) (by decide +kernel)) (by decide +kernel), tw_tb (List.mem_of_getElem? (i := 934) (by decide +kernel)) (by decide +kernel), tw_tb (List.mem_of_getElem? (i := 1) (by decide +kernel)) (by decide +kernel), tw_tb (List.mem_of_getElem? (i := 935) (by decide +kernel)) (by decide +kernel)⟩, ⟨rfl, rfl⟩, by decide +kernel, by decide +kernel, by decide +kernel⟩
-- X10_isWithin
noncomputable def f_X10_isWithin (v0 : Int32) (v1 : Int32) (v2 : Int32) : Option Int32 :=
  if v0 < v1 then
    some 0
  else
    if v2 < v0 then
      some 0
    else
      some 1
abbrev Y_X10_isWithin : jY := (yX10_isWithin, cX10_isWithin, 3, some .boolean, { frames := 0, cells := 0, slots := 0, locals := 0 })
theorem C_X10_isWithin {l : Launch} {G : jG} (hG : jWL G) (v0 : Int32) (v1 : Int32) (v2 : Int32) (σ : jS) : jC (r_P σ) l G Y_X10_isWithin [.int v0, .int v1, .int v2] σ (f_X10_isWithin v0 v1 v2) := by
  refine jw_met hG pn_X10 (Nat.le_of_ble_eq_true rfl) ⟨rfl, rfl⟩ ?_
  intro X hX hM
  have hX : jB X l G cX10_isWithin RX10 3 { frames := 0, cells := 0, slots := 0, locals := 0 } := hX
  have hM : jM X (some .boolean) := hM
  show J X 0 [(0, .int v0), (1, .int v1), (2, .int v2)] [] σ (f_X10_isWithin v0 v1 v2) (jk (r_P σ) X)
  unfold f_X10_isWithin
  refine J_iload_n hX dX10_isWithin_0 rfl ?_
  refine J_iload_n hX dX10_isWithin_1 rfl ?_
  refine J_icmp_lt hX dX10_isWithin_2 (tgt := 14) rfl (fun _ => ?_) (fun _ => ?_)
  · refine J_iconst hX dX10_isWithin_14 k_i0 ?_
    exact J_zretP hX hM jn_0 dX10_isWithin_15
  · refine J_iload_n hX dX10_isWithin_5 rfl ?_
    refine J_iload_n hX dX10_isWithin_6 rfl ?_
    refine J_icmp_gt hX dX10_isWithin_7 (tgt := 14) rfl (fun _ => ?_) (fun _ => ?_)
    · refine J_iconst hX dX10_isWithin_14 k_i0 ?_
      exact J_zretP hX hM jn_0 dX10_isWithin_15
    · refine J_iconst hX dX10_isWithin_10 k_i1 ?_
      refine J_goto hX dX10_isWithin_11 (tgt := 15) rfl ?_
      exact J_zretP hX hM jn_1 dX10_isWithin_15
theorem mw_X10_isWithin : jMS Y_X10_isWithin 3 := ⟨⟨tw_tb (List.mem_of_getElem? (i := 456) (by decide +kernel)) (by decide +kernel), tw_tb (List.mem_of_getElem? (i := 1) (by decide +kernel)) (by decide +kernel), tw_tb (List.mem_of_getElem? (i := 457) (by decide +kernel)) (by decide +kernel)⟩, ⟨rfl, rfl⟩, by decide +kernel, by decide +kernel, by decide +kernel⟩
-- X10_isLoud
noncomputable def f_X10_isLoud (v0 : Int32) : Option Int32 :=
  (f_X10_isWithin v0 1 50).bind (fun q1 =>
    gd (jz q1) (some q1))
abbrev Y_X10_isLoud : jY := (yX10_isLoud, cX10_isLoud, 1, some .boolean, { frames := 1, cells := 0, slots := 0, locals := 22 })
theorem C_X10_isLoud {l : Launch} {G : jG} (hG : jWL G) (v0 : Int32) (σ : jS) : jC (r_P σ) l G Y_X10_isLoud [.int v0] σ (f_X10_isLoud v0) := by
  refine jw_met hG pn_X10 (Nat.le_of_ble_eq_true rfl) ⟨rfl, rfl⟩ ?_
  intro X hX hM
  have hX : jB X l G cX10_isLoud RX10 1 { frames := 1, cells := 0, slots := 0, locals := 22 } := hX
  have hM : jM X (some .boolean) := hM
  show J X 0 [(0, .int v0)] [] σ (f_X10_isLoud v0) (jk (r_P σ) X)
  unfold f_X10_isLoud
  refine J_iload_n hX dX10_isLoud_0 rfl ?_
  refine J_iconst hX dX10_isLoud_1 k_i1 ?_
  refine J_bipush hX dX10_isLoud_2 kb_50 ?_
  refine J_cSP hX (C_X10_isWithin hG v0 1 50 σ) mw_X10_isWithin ml_X10_211 ⟨Nat.le_of_ble_eq_true rfl, Nat.le_of_ble_eq_true rfl⟩ rfl rfl (Nat.le_of_ble_eq_true rfl) dX10_isLoud_4 (fun q2 => ?_)
  refine J_gd (fun hz => ?_)
  exact J_zretP hX hM (jz_nar hz) dX10_isLoud_7
theorem mw_X10_isLoud : jMS Y_X10_isLoud 1 := ⟨⟨tw_tb (List.mem_of_getElem? (i := 675) (by decide +kernel)) (by decide +kernel), tw_tb (List.mem_of_getElem? (i := 1) (by decide +kernel)) (by decide +kernel), tw_tb (List.mem_of_getElem? (i := 676) (by decide +kernel)) (by decide +kernel)⟩, ⟨rfl, rfl⟩, by decide +kernel, by decide +kernel, by decide +kernel⟩
-- X2_ear
noncomputable def f_X2_ear (nm : Nat → Nat) (v1 : Int32) (σ : jS) : Option Int32 :=
  (f_X2_noteOf nm v1 σ).bind (fun q1 =>
    (f_X4_at (jn nm [8, 9]) 10 v1 σ).bind (fun q2 =>
      some (q1 - (q2 * (g_i σ (nm 0) 6)))))
abbrev Y_X2_ear : jY := (yX2_ear, cX2_ear, 2, some .int, { frames := 1, cells := 0, slots := 0, locals := 21 })
theorem C_X2_ear {l : Launch} {G : jG} {nm : Nat → Nat} (hG : jWL G) (hE : jE G nm LS_X2) (v1 : Int32) (σ : jS) : jC (r_P σ) l G Y_X2_ear [.ref (jad G (nm 0)), .int v1] σ (f_X2_ear nm v1 σ) := by
  refine jw_met hG pn_X2 (Nat.le_of_ble_eq_true rfl) ⟨rfl, rfl⟩ ?_
  intro X hX hM
  have hX : jB X l G cX2_ear RX2 2 { frames := 1, cells := 0, slots := 0, locals := 21 } := hX
  have hM : jM X (some .int) := hM
  show J X 0 [(0, .ref (jad G (nm 0))), (1, .int v1)] [] σ (f_X2_ear nm v1 σ) (jk (r_P σ) X)
  unfold f_X2_ear
  refine J_aload_n hX dX2_ear_0 rfl ?_
  refine J_iload_n hX dX2_ear_1 rfl ?_
  refine J_cVP hX hE 0 (C_X2_noteOf hG hE v1 σ) mw_X2_noteOf ml_X2_56 rfl rfl rfl ⟨Nat.le_of_ble_eq_true rfl, Nat.le_of_ble_eq_true rfl⟩ rfl rfl (Nat.le_of_ble_eq_true rfl) dX2_ear_2 (fun q3 => ?_)
  refine J_aload_n hX dX2_ear_5 rfl ?_
  refine J_getr hX hE 0 0 rfl rfl fl_X2_24 dX2_ear_6 ?_
  refine J_getr hX hE 1 3 rfl rfl fl_X2_59 dX2_ear_9 ?_
  refine J_iload_n hX dX2_ear_12 rfl ?_
  refine J_cVP hX hE 8 (C_X4_at hG (hE.sb [8, 9] sb_8) v1 σ) mw_X4_at ml_X2_34 rfl rfl rfl ⟨Nat.le_of_ble_eq_true rfl, Nat.le_of_ble_eq_true rfl⟩ rfl rfl (Nat.le_of_ble_eq_true rfl) dX2_ear_13 (fun q4 => ?_)
  refine J_aload_n hX dX2_ear_16 rfl ?_
  refine J_geti hX hE 0 6 rfl rfl fl_X2_40 dX2_ear_17 ?_
  refine J_imul hX dX2_ear_20 ?_
  refine J_isub hX dX2_ear_21 ?_
  exact J_iretP hX hM dX2_ear_22
theorem mw_X2_ear : jMV Y_X2_ear 1 := ⟨⟨tw_tb (List.mem_of_getElem? (i := 651) (by decide +kernel)) (by decide +kernel), tw_tb (List.mem_of_getElem? (i := 652) (by decide +kernel)) (by decide +kernel), tw_tb (List.mem_of_getElem? (i := 8) (by decide +kernel)) (by decide +kernel), tw_tb (List.mem_of_getElem? (i := 653) (by decide +kernel)) (by decide +kernel)⟩, ⟨rfl, rfl⟩, by decide +kernel, by decide +kernel, by decide +kernel⟩
-- X1_hearFrom
noncomputable def f_X1_hearFrom_L19 (nm : Nat → Nat) (v1 : Int32) (v4 : Int32) (v5 : Int32) (s : (Int32 × jS)) : Option ((Int32 × jS) ⊕ jS) :=
  match s with
  | (v6, σ) =>
    if v5 < v6 then
      some (.inr σ)
    else
      gd (vp_in ((v1 * 64) + v6) 3200) (
        gd (vp_in ((v1 * 64) + v6) 3200) (bd (s_i σ (nm 1) ((v1 * 64) + v6).toNatClampNeg ((g_i σ (nm 1) ((v1 * 64) + v6).toNatClampNeg) ||| v4)) (fun s3 =>
          some (.inl (v6 + 1, s3)))))
noncomputable def f_X1_hearFrom (nm : Nat → Nat) (v1 : Int32) (v2 : Int32) (v3 : Int32) (v4 : Int32) (σ : jS) : Option jS :=
  bd (imin (v2 + v3) 63) (fun x1 =>
    bd (imax (v2 - v3) 0) (fun x2 =>
      (lp (f_X1_hearFrom_L19 nm v1 v4 x1) fu (x2, σ)).bind (fun s4 =>
        some s4)))
abbrev Y_X1_hearFrom : jY := (yX1_hearFrom, cX1_hearFrom, 7, none, { frames := 1, cells := 0, slots := 0, locals := 21 })
theorem C_X1_hearFrom {l : Launch} {G : jG} {nm : Nat → Nat} (hG : jWL G) (hE : jE G nm LS_X1) (v1 : Int32) (v2 : Int32) (v3 : Int32) (v4 : Int32) (σ : jS) : jC r_V l G Y_X1_hearFrom [.ref (jad G (nm 0)), .int v1, .int v2, .int v3, .int v4] σ (f_X1_hearFrom nm v1 v2 v3 v4 σ) := by
  refine jw_met hG pn_X1 (Nat.le_of_ble_eq_true rfl) ⟨rfl, rfl⟩ ?_
  intro X hX hM
  have hX : jB X l G cX1_hearFrom RX1 7 { frames := 1, cells := 0, slots := 0, locals := 21 } := hX
  have hM : jM X (none) := hM
  show J X 0 [(0, .ref (jad G (nm 0))), (1, .int v1), (2, .int v2), (3, .int v3), (4, .int v4)] [] σ (f_X1_hearFrom nm v1 v2 v3 v4 σ) (jk r_V X)
  unfold f_X1_hearFrom
  refine J_iload_n hX dX1_hearFrom_0 rfl ?_
  refine J_iload_n hX dX1_hearFrom_1 rfl ?_
  refine J_iadd hX dX1_hearFrom_2 ?_
  refine J_bipush hX dX1_hearFrom_3 kb_63 ?_
  refine J_mmin2 hX mm_X1_43 (Nat.le_of_ble_eq_true rfl) (Nat.le_of_ble_eq_true rfl) dX1_hearFrom_5 ?_
  refine J_bdI (fun x5 => ?_)
  refine J_istore hX dX1_hearFrom_8 (Nat.le_of_ble_eq_true rfl) (lv' := [(0, .ref (jad G (nm 0))), (1, .int v1), (2, .int v2), (3, .int v3), (4, .int v4), (5, .int x5)]) rfl ?_
  refine J_iload_n hX dX1_hearFrom_10 rfl ?_
  refine J_iload_n hX dX1_hearFrom_11 rfl ?_
  refine J_isub hX dX1_hearFrom_12 ?_
  refine J_iconst hX dX1_hearFrom_13 k_i0 ?_
  refine J_mmax2 hX mm_X1_49 (Nat.le_of_ble_eq_true rfl) (Nat.le_of_ble_eq_true rfl) dX1_hearFrom_14 ?_
  refine J_bdI (fun x6 => ?_)
  refine J_istore hX dX1_hearFrom_17 (Nat.le_of_ble_eq_true rfl) (lv' := [(0, .ref (jad G (nm 0))), (1, .int v1), (2, .int v2), (3, .int v3), (4, .int v4), (5, .int x5), (6, .int x6)]) rfl ?_
  refine J_keep [0, 1, 4, 5, 6] (lv' := [(0, .ref (jad G (nm 0))), (1, .int v1), (4, .int v4), (5, .int x5), (6, .int x6)]) rfl ?_
  refine J_lp (pc := 19) (s0 := (x6, σ)) (fun (s : (Int32 × jS)) => [(0, .ref (jad G (nm 0))), (1, .int v1), (4, .int v4), (5, .int x5), (6, .int (s.1))]) (fun (s : (Int32 × jS)) => s.2) ?_
  intro KK19 hN19 hQ19 z19
  obtain ⟨v6_19, σ_19⟩ := z19
  show J X 19 [(0, .ref (jad G (nm 0))), (1, .int v1), (4, .int v4), (5, .int x5), (6, .int v6_19)] [] σ_19 (f_X1_hearFrom_L19 nm v1 v4 x5 (v6_19, σ_19)) KK19
  unfold f_X1_hearFrom_L19
  refine J_iload hX dX1_hearFrom_19 rfl ?_
  refine J_iload hX dX1_hearFrom_21 rfl ?_
  refine J_icmp_gt hX dX1_hearFrom_23 (tgt := 49) rfl (fun _ => ?_) (fun _ => ?_)
  · refine hQ19 _ _ _ _ _ ?_
    exact J_vret hX hM dX1_hearFrom_49
  · refine J_aload_n hX dX1_hearFrom_26 rfl ?_
    refine J_getr hX hE 0 0 rfl rfl fl_X1_9 dX1_hearFrom_27 ?_
    refine J_iload_n hX dX1_hearFrom_30 rfl ?_
    refine J_bipush hX dX1_hearFrom_31 kb_64 ?_
    refine J_imul hX dX1_hearFrom_33 ?_
    refine J_iload hX dX1_hearFrom_34 rfl ?_
    refine J_iadd hX dX1_hearFrom_36 ?_
    refine J_dup2 hX dX1_hearFrom_37 rfl rfl ?_
    refine J_iald hX hE 1 rfl dX1_hearFrom_38 (fun _ => ?_)
    refine J_iload hX dX1_hearFrom_39 rfl ?_
    refine J_ior hX dX1_hearFrom_41 ?_
    refine J_iast hX hE 1 rfl dX1_hearFrom_42 (fun _ => ?_)
    refine J_bdS (fun s7 => ?_)
    refine J_iinc hX dX1_hearFrom_43 rfl (congrArg (_ + ·) k_i1) (Nat.le_of_ble_eq_true rfl) (lv' := [(0, .ref (jad G (nm 0))), (1, .int v1), (4, .int v4), (5, .int x5), (6, .int (v6_19 + 1))]) rfl ?_
    refine J_goto hX dX1_hearFrom_46 (tgt := 19) rfl ?_
    exact J_keep [0, 1, 2, 3, 4] rfl (hN19 (v6_19 + 1, s7))
theorem mw_X1_hearFrom : jMV Y_X1_hearFrom 4 := ⟨⟨tw_tb (List.mem_of_getElem? (i := 761) (by decide +kernel)) (by decide +kernel), tw_pv (List.mem_of_getElem? (i := 11) (by decide +kernel)) (by decide +kernel), tw_tb (List.mem_of_getElem? (i := 9) (by decide +kernel)) (by decide +kernel), tw_tb (List.mem_of_getElem? (i := 762) (by decide +kernel)) (by decide +kernel)⟩, ⟨rfl, rfl⟩, by decide +kernel, by decide +kernel, by decide +kernel⟩
-- X1_listen
noncomputable def f_X1_listen_L59 (nm : Nat → Nat) (v2 : Int32) (v3 : Int32) (v5 : Int32) (s : (Int32 × jS)) : Option ((Int32 × jS) ⊕ jS) :=
  match s with
  | (v6, σ) =>
    if v5 < v6 then
      some (.inr σ)
    else
      (f_X2_ear (jn nm [2, 3, 4, 5, 6, 7, 8, 9, 10, 11, 12, 13, 14, 15, 16, 17, 18, 19, 20, 21, 22, 23]) v3 σ).bind (fun q6 =>
        (f_X4_at (jn nm [8, 9]) 10 v3 σ).bind (fun q7 =>
          (f_X1_hearFrom (jn nm [0, 1]) v6 q6 q7 (1 <<< (v3 &&& 31)) σ).bind (fun s8 =>
            some (.inl (v6 + 1, s8)))))
noncomputable def f_X1_listen_L10 (nm : Nat → Nat) (v2 : Int32) (s : (Int32 × jS)) : Option ((Int32 × jS) ⊕ jS) :=
  match s with
  | (v3, σ) =>
    (f_X6_lamps (jn nm [3, 4, 5, 6, 7, 8, 9, 10, 11, 12, 13, 14, 15, 16, 17, 18, 19]) σ).bind (fun q2 =>
      if q2 ≤ v3 then
        some (.inr σ)
      else
        (f_X4_at (jn nm [4, 5]) 10 v3 σ).bind (fun q3 =>
          bd (imin ((q3 + v2) - 1) 49) (fun x4 =>
            bd (imax ((q3 - v2) + 1) 0) (fun x5 =>
              (lp (f_X1_listen_L59 nm v2 v3 x4) fu (x5, σ)).bind (fun s9 =>
                some (.inl (v3 + 1, s9)))))))
noncomputable def f_X1_listen (nm : Nat → Nat) (v2 : Int32) (σ : jS) : Option jS :=
  (f_J7_fill_53178 (jn nm [1]) 3200 0 σ).bind (fun s1 =>
    (lp (f_X1_listen_L10 nm v2) fu (0, s1)).bind (fun s10 =>
      some s10))
abbrev Y_X1_listen : jY := (yX1_listen, cX1_listen, 7, none, { frames := 2, cells := 0, slots := 0, locals := 47 })
theorem C_X1_listen {l : Launch} {G : jG} {nm : Nat → Nat} (hG : jWL G) (hE : jE G nm LS_X1_X2) (v2 : Int32) (σ : jS) : jC r_V l G Y_X1_listen [.ref (jad G (nm 0)), .ref (jad G (nm 2)), .int v2] σ (f_X1_listen nm v2 σ) := by
  refine jw_met hG pn_X1 (Nat.le_of_ble_eq_true rfl) ⟨rfl, rfl⟩ ?_
  intro X hX hM
  have hX : jB X l G cX1_listen RX1 7 { frames := 2, cells := 0, slots := 0, locals := 47 } := hX
  have hM : jM X (none) := hM
  show J X 0 [(0, .ref (jad G (nm 0))), (1, .ref (jad G (nm 2))), (2, .int v2)] [] σ (f_X1_listen nm v2 σ) (jk r_V X)
  unfold f_X1_listen
  refine J_aload_n hX dX1_listen_0 rfl ?_
  refine J_getr hX hE 0 0 rfl rfl fl_X1_9 dX1_listen_1 ?_
  refine J_iconst hX dX1_listen_4 k_i0 ?_
  refine J_cSV hX (C_J7_fill_53178 hG (hE.sb [1] sb_9) 0 σ) mw_J7_fill_53178 ml_X1_15 ⟨Nat.le_of_ble_eq_true rfl, Nat.le_of_ble_eq_true rfl⟩ rfl rfl (Nat.le_of_ble_eq_true rfl) dX1_listen_5 (fun s11 => ?_)
  refine J_iconst hX dX1_listen_8 k_i0 ?_
  refine J_istore_n hX dX1_listen_9 (Nat.le_of_ble_eq_true rfl) (lv' := [(0, .ref (jad G (nm 0))), (1, .ref (jad G (nm 2))), (2, .int v2), (3, .int 0)]) rfl ?_
  refine J_keep [0, 1, 2, 3] (lv' := [(0, .ref (jad G (nm 0))), (1, .ref (jad G (nm 2))), (2, .int v2), (3, .int 0)]) rfl ?_
  refine J_lp (pc := 10) (s0 := (0, s11)) (fun (s : (Int32 × jS)) => [(0, .ref (jad G (nm 0))), (1, .ref (jad G (nm 2))), (2, .int v2), (3, .int (s.1))]) (fun (s : (Int32 × jS)) => s.2) ?_
  intro KK10 hN10 hQ10 z10
  obtain ⟨v3_10, σ_10⟩ := z10
  show J X 10 [(0, .ref (jad G (nm 0))), (1, .ref (jad G (nm 2))), (2, .int v2), (3, .int v3_10)] [] σ_10 (f_X1_listen_L10 nm v2 (v3_10, σ_10)) KK10
  unfold f_X1_listen_L10
  refine J_iload_n hX dX1_listen_10 rfl ?_
  refine J_aload_n hX dX1_listen_11 rfl ?_
  refine J_getr hX hE 2 0 rfl rfl fl_X1_21 dX1_listen_12 ?_
  refine J_cVP hX hE 3 (C_X6_lamps hG (hE.sb [3, 4, 5, 6, 7, 8, 9, 10, 11, 12, 13, 14, 15, 16, 17, 18, 19] sb_10) σ_10) mw_X6_lamps ml_X1_27 rfl rfl rfl ⟨Nat.le_of_ble_eq_true rfl, Nat.le_of_ble_eq_true rfl⟩ rfl rfl (Nat.le_of_ble_eq_true rfl) dX1_listen_15 (fun q12 => ?_)
  refine J_icmp_ge hX dX1_listen_18 (tgt := 103) rfl (fun _ => ?_) (fun _ => ?_)
  · refine hQ10 _ _ _ _ _ ?_
    exact J_vret hX hM dX1_listen_103
  · refine J_aload_n hX dX1_listen_21 rfl ?_
    refine J_getr hX hE 2 0 rfl rfl fl_X1_21 dX1_listen_22 ?_
    refine J_getr hX hE 3 0 rfl rfl fl_X1_33 dX1_listen_25 ?_
    refine J_iload_n hX dX1_listen_28 rfl ?_
    refine J_cVP hX hE 4 (C_X4_at hG (hE.sb [4, 5] sb_11) v3_10 σ_10) mw_X4_at ml_X1_37 rfl rfl rfl ⟨Nat.le_of_ble_eq_true rfl, Nat.le_of_ble_eq_true rfl⟩ rfl rfl (Nat.le_of_ble_eq_true rfl) dX1_listen_29 (fun q13 => ?_)
    refine J_istore hX dX1_listen_32 (Nat.le_of_ble_eq_true rfl) (lv' := [(0, .ref (jad G (nm 0))), (1, .ref (jad G (nm 2))), (2, .int v2), (3, .int v3_10), (4, .int q13)]) rfl ?_
    refine J_iload hX dX1_listen_34 rfl ?_
    refine J_iload_n hX dX1_listen_36 rfl ?_
    refine J_iadd hX dX1_listen_37 ?_
    refine J_iconst hX dX1_listen_38 k_i1 ?_
    refine J_isub hX dX1_listen_39 ?_
    refine J_bipush hX dX1_listen_40 kb_49 ?_
    refine J_mmin2 hX mm_X1_43 (Nat.le_of_ble_eq_true rfl) (Nat.le_of_ble_eq_true rfl) dX1_listen_42 ?_
    refine J_bdI (fun x14 => ?_)
    refine J_istore hX dX1_listen_45 (Nat.le_of_ble_eq_true rfl) (lv' := [(0, .ref (jad G (nm 0))), (1, .ref (jad G (nm 2))), (2, .int v2), (3, .int v3_10), (4, .int q13), (5, .int x14)]) rfl ?_
    refine J_iload hX dX1_listen_47 rfl ?_
    refine J_iload_n hX dX1_listen_49 rfl ?_
    refine J_isub hX dX1_listen_50 ?_
    refine J_iconst hX dX1_listen_51 k_i1 ?_
    refine J_iadd hX dX1_listen_52 ?_
    refine J_iconst hX dX1_listen_53 k_i0 ?_
    refine J_mmax2 hX mm_X1_49 (Nat.le_of_ble_eq_true rfl) (Nat.le_of_ble_eq_true rfl) dX1_listen_54 ?_
    refine J_bdI (fun x15 => ?_)
    refine J_istore hX dX1_listen_57 (Nat.le_of_ble_eq_true rfl) (lv' := [(0, .ref (jad G (nm 0))), (1, .ref (jad G (nm 2))), (2, .int v2), (3, .int v3_10), (4, .int q13), (5, .int x14), (6, .int x15)]) rfl ?_
    refine J_keep [0, 1, 2, 3, 5, 6] (lv' := [(0, .ref (jad G (nm 0))), (1, .ref (jad G (nm 2))), (2, .int v2), (3, .int v3_10), (5, .int x14), (6, .int x15)]) rfl ?_
    refine J_lp (pc := 59) (s0 := (x15, σ_10)) (fun (s : (Int32 × jS)) => [(0, .ref (jad G (nm 0))), (1, .ref (jad G (nm 2))), (2, .int v2), (3, .int v3_10), (5, .int x14), (6, .int (s.1))]) (fun (s : (Int32 × jS)) => s.2) ?_
    intro KK59 hN59 hQ59 z59
    obtain ⟨v6_59, σ_59⟩ := z59
    show J X 59 [(0, .ref (jad G (nm 0))), (1, .ref (jad G (nm 2))), (2, .int v2), (3, .int v3_10), (5, .int x14), (6, .int v6_59)] [] σ_59 (f_X1_listen_L59 nm v2 v3_10 x14 (v6_59, σ_59)) KK59
    unfold f_X1_listen_L59
    refine J_iload hX dX1_listen_59 rfl ?_
    refine J_iload hX dX1_listen_61 rfl ?_
    refine J_icmp_gt hX dX1_listen_63 (tgt := 97) rfl (fun _ => ?_) (fun _ => ?_)
    · refine hQ59 _ _ _ _ _ ?_
      refine J_iinc hX dX1_listen_97 rfl (congrArg (_ + ·) k_i1) (Nat.le_of_ble_eq_true rfl) (lv' := [(0, .ref (jad G (nm 0))), (1, .ref (jad G (nm 2))), (2, .int v2), (3, .int (v3_10 + 1)), (5, .int x14), (6, .int v6_59)]) rfl ?_
      refine J_goto hX dX1_listen_100 (tgt := 10) rfl ?_
      exact J_keep [0, 1, 2, 3] rfl (hN10 (v3_10 + 1, σ_59))
    · refine J_aload_n hX dX1_listen_66 rfl ?_
      refine J_iload hX dX1_listen_67 rfl ?_
      refine J_aload_n hX dX1_listen_69 rfl ?_
      refine J_iload_n hX dX1_listen_70 rfl ?_
      refine J_cVP hX hE 2 (C_X2_ear hG (hE.sb [2, 3, 4, 5, 6, 7, 8, 9, 10, 11, 12, 13, 14, 15, 16, 17, 18, 19, 20, 21, 22, 23] sb_12) v3_10 σ_59) mw_X2_ear ml_X1_52 rfl rfl rfl ⟨Nat.le_of_ble_eq_true rfl, Nat.le_of_ble_eq_true rfl⟩ rfl rfl (Nat.le_of_ble_eq_true rfl) dX1_listen_71 (fun q16 => ?_)
      refine J_aload_n hX dX1_listen_74 rfl ?_
      refine J_getr hX hE 2 0 rfl rfl fl_X1_21 dX1_listen_75 ?_
      refine J_getr hX hE 3 2 rfl rfl fl_X1_55 dX1_listen_78 ?_
      refine J_iload_n hX dX1_listen_81 rfl ?_
      refine J_cVP hX hE 8 (C_X4_at hG (hE.sb [8, 9] sb_13) v3_10 σ_59) mw_X4_at ml_X1_37 rfl rfl rfl ⟨Nat.le_of_ble_eq_true rfl, Nat.le_of_ble_eq_true rfl⟩ rfl rfl (Nat.le_of_ble_eq_true rfl) dX1_listen_82 (fun q17 => ?_)
      refine J_iconst hX dX1_listen_85 k_i1 ?_
      refine J_iload_n hX dX1_listen_86 rfl ?_
      refine J_ishl hX dX1_listen_87 ?_
      refine J_cVV hX hE 0 (C_X1_hearFrom hG (hE.sb [0, 1] sb_14) v6_59 q16 q17 (1 <<< (v3_10 &&& 31)) σ_59) mw_X1_hearFrom ml_X1_58 rfl rfl rfl ⟨Nat.le_of_ble_eq_true rfl, Nat.le_of_ble_eq_true rfl⟩ rfl rfl (Nat.le_of_ble_eq_true rfl) dX1_listen_88 (fun s18 => ?_)
      refine J_iinc hX dX1_listen_91 rfl (congrArg (_ + ·) k_i1) (Nat.le_of_ble_eq_true rfl) (lv' := [(0, .ref (jad G (nm 0))), (1, .ref (jad G (nm 2))), (2, .int v2), (3, .int v3_10), (5, .int x14), (6, .int (v6_59 + 1))]) rfl ?_
      refine J_goto hX dX1_listen_94 (tgt := 59) rfl ?_
      exact J_keep [0, 1, 2, 3, 4, 5] rfl (hN59 (v6_59 + 1, s18))
theorem mw_X1_listen : jMV Y_X1_listen 2 := ⟨⟨tw_tb (List.mem_of_getElem? (i := 746) (by decide +kernel)) (by decide +kernel), tw_tb (List.mem_of_getElem? (i := 747) (by decide +kernel)) (by decide +kernel), tw_tb (List.mem_of_getElem? (i := 9) (by decide +kernel)) (by decide +kernel), tw_tb (List.mem_of_getElem? (i := 748) (by decide +kernel)) (by decide +kernel)⟩, ⟨rfl, rfl⟩, by decide +kernel, by decide +kernel, by decide +kernel⟩
-- X4_empty
noncomputable def f_X4_empty (nm : Nat → Nat) (n0 : Nat) (σ : jS) : Option jS :=
  bd (s_i σ (nm 0) 1 0) (fun s1 =>
    some s1)
abbrev Y_X4_empty : jY := (yX4_empty, cX4_empty, 1, none, { frames := 0, cells := 0, slots := 0, locals := 0 })
theorem C_X4_empty {l : Launch} {G : jG} {nm : Nat → Nat} {n0 : Nat} (hG : jWL G) (hE : jE G nm (LS_X4 n0)) (σ : jS) : jC r_V l G Y_X4_empty [.ref (jad G (nm 0))] σ (f_X4_empty nm n0 σ) := by
  refine jw_met hG pn_X4 (Nat.le_of_ble_eq_true rfl) ⟨rfl, rfl⟩ ?_
  intro X hX hM
  have hX : jB X l G cX4_empty RX4 1 { frames := 0, cells := 0, slots := 0, locals := 0 } := hX
  have hM : jM X (none) := hM
  show J X 0 [(0, .ref (jad G (nm 0)))] [] σ (f_X4_empty nm n0 σ) (jk r_V X)
  unfold f_X4_empty
  refine J_aload_n hX dX4_empty_0 rfl ?_
  refine J_iconst hX dX4_empty_1 k_i0 ?_
  refine J_puti hX hE 0 1 rfl rfl fp_X4_21 dX4_empty_2 ?_
  refine J_bdS (fun s2 => ?_)
  exact J_vret hX hM dX4_empty_5
theorem mw_X4_empty : jMV Y_X4_empty 0 := ⟨⟨tw_tb (List.mem_of_getElem? (i := 426) (by decide +kernel)) (by decide +kernel), tw_tb (List.mem_of_getElem? (i := 427) (by decide +kernel)) (by decide +kernel), tw_tb (List.mem_of_getElem? (i := 2) (by decide +kernel)) (by decide +kernel), tw_tb (List.mem_of_getElem? (i := 428) (by decide +kernel)) (by decide +kernel)⟩, ⟨rfl, rfl⟩, by decide +kernel, by decide +kernel, by decide +kernel⟩
-- X1_at
noncomputable def f_X1_at_J24 (nm : Nat → Nat) (v1 : Int32) (v2 : Int32) (σ : jS) : Option Int32 :=
  some 0
noncomputable def f_X1_at_J25 (nm : Nat → Nat) (v1 : Int32) (v2 : Int32) (t0 : Int32) (σ : jS) : Option Int32 :=
  if t0 = 0 then
    some 0
  else
    gd (vp_in ((v1 * 64) + v2) 3200) (
      some (g_i σ (nm 1) ((v1 * 64) + v2).toNatClampNeg))
noncomputable def f_X1_at (nm : Nat → Nat) (v1 : Int32) (v2 : Int32) (σ : jS) : Option Int32 :=
  (f_X10_isWithin v1 0 49).bind (fun q1 =>
    (if q1 = 0 then
      f_X1_at_J24 nm v1 v2 σ
    else
      (f_X10_isWithin v2 0 63).bind (fun q2 =>
        if q2 = 0 then
          f_X1_at_J24 nm v1 v2 σ
        else
          some 1)).bind (fun y3 =>
      f_X1_at_J25 nm v1 v2 y3 σ))
abbrev Y_X1_at : jY := (yX1_at, cX1_at, 4, some .int, { frames := 1, cells := 0, slots := 0, locals := 22 })
theorem C_X1_at {l : Launch} {G : jG} {nm : Nat → Nat} (hG : jWL G) (hE : jE G nm LS_X1) (v1 : Int32) (v2 : Int32) (σ : jS) : jC (r_P σ) l G Y_X1_at [.ref (jad G (nm 0)), .int v1, .int v2] σ (f_X1_at nm v1 v2 σ) := by
  refine jw_met hG pn_X1 (Nat.le_of_ble_eq_true rfl) ⟨rfl, rfl⟩ ?_
  intro X hX hM
  have hX : jB X l G cX1_at RX1 4 { frames := 1, cells := 0, slots := 0, locals := 22 } := hX
  have hM : jM X (some .int) := hM
  show J X 0 [(0, .ref (jad G (nm 0))), (1, .int v1), (2, .int v2)] [] σ (f_X1_at nm v1 v2 σ) (jk (r_P σ) X)
  have hJ25 : ∀ (v1 : Int32) (v2 : Int32) (t0 : Int32), J X 25 [(0, .ref (jad G (nm 0))), (1, .int v1), (2, .int v2)] [.int t0] σ (f_X1_at_J25 nm v1 v2 t0 σ) (jk (r_P σ) X) := by
    intro v1 v2 t0
    unfold f_X1_at_J25
    refine J_istore_n hX dX1_at_25 (Nat.le_of_ble_eq_true rfl) (lv' := [(0, .ref (jad G (nm 0))), (1, .int v1), (2, .int v2), (3, .int t0)]) rfl ?_
    refine J_iload_n hX dX1_at_26 rfl ?_
    refine J_if_eq hX dX1_at_27 (tgt := 44) rfl (fun _ => ?_) (fun _ => ?_)
    · refine J_iconst hX dX1_at_44 k_i0 ?_
      exact J_iretP hX hM dX1_at_45
    · refine J_aload_n hX dX1_at_30 rfl ?_
      refine J_getr hX hE 0 0 rfl rfl fl_X1_9 dX1_at_31 ?_
      refine J_iload_n hX dX1_at_34 rfl ?_
      refine J_bipush hX dX1_at_35 kb_64 ?_
      refine J_imul hX dX1_at_37 ?_
      refine J_iload_n hX dX1_at_38 rfl ?_
      refine J_iadd hX dX1_at_39 ?_
      refine J_iald hX hE 1 rfl dX1_at_40 (fun _ => ?_)
      refine J_goto hX dX1_at_41 (tgt := 45) rfl ?_
      exact J_iretP hX hM dX1_at_45
  unfold f_X1_at
  refine J_iload_n hX dX1_at_0 rfl ?_
  refine J_iconst hX dX1_at_1 k_i0 ?_
  refine J_bipush hX dX1_at_2 kb_49 ?_
  refine J_cNP hX (C_X10_isWithin hG v1 0 49 σ) mw_X10_isWithin (host := "LampsListen") mn_X1_62 ⟨Nat.le_of_ble_eq_true rfl, Nat.le_of_ble_eq_true rfl⟩ rfl rfl (Nat.le_of_ble_eq_true rfl) dX1_at_4 (fun q4 => ?_)
  refine J_blk ?_
  intro KB7 hB7
  have hJ24 : J X 24 [(0, .ref (jad G (nm 0))), (1, .int v1), (2, .int v2)] [] σ (f_X1_at_J24 nm v1 v2 σ) KB7 := by
    unfold f_X1_at_J24
    refine J_iconst hX dX1_at_24 k_i0 ?_
    refine hB7 _ _ _ _ _ ?_
    exact J_keep [0, 1, 2] rfl (hJ25 v1 v2 0)
  refine J_if_eq hX dX1_at_7 (tgt := 24) rfl (fun _ => ?_) (fun _ => ?_)
  · exact J_keep [0, 1, 2] rfl (hJ24 )
  · refine J_iload_n hX dX1_at_10 rfl ?_
    refine J_iconst hX dX1_at_11 k_i0 ?_
    refine J_bipush hX dX1_at_12 kb_63 ?_
    refine J_cNP hX (C_X10_isWithin hG v2 0 63 σ) mw_X10_isWithin (host := "LampsListen") mn_X1_62 ⟨Nat.le_of_ble_eq_true rfl, Nat.le_of_ble_eq_true rfl⟩ rfl rfl (Nat.le_of_ble_eq_true rfl) dX1_at_14 (fun q5 => ?_)
    refine J_if_eq hX dX1_at_17 (tgt := 24) rfl (fun _ => ?_) (fun _ => ?_)
    · exact J_keep [0, 1, 2] rfl (hJ24 )
    · refine J_iconst hX dX1_at_20 k_i1 ?_
      refine J_goto hX dX1_at_21 (tgt := 25) rfl ?_
      refine hB7 _ _ _ _ _ ?_
      exact J_keep [0, 1, 2] rfl (hJ25 v1 v2 1)
theorem mw_X1_at : jMV Y_X1_at 2 := ⟨⟨tw_tb (List.mem_of_getElem? (i := 778) (by decide +kernel)) (by decide +kernel), tw_tb (List.mem_of_getElem? (i := 779) (by decide +kernel)) (by decide +kernel), tw_tb (List.mem_of_getElem? (i := 9) (by decide +kernel)) (by decide +kernel), tw_tb (List.mem_of_getElem? (i := 780) (by decide +kernel)) (by decide +kernel)⟩, ⟨rfl, rfl⟩, by decide +kernel, by decide +kernel, by decide +kernel⟩
-- X4_put
noncomputable def f_X4_put (nm : Nat → Nat) (n0 : Nat) (v1 : Int32) (σ : jS) : Option jS :=
  if (nI n0) ≤ (g_i σ (nm 0) 1) then
    some σ
  else
    gd (vp_in (g_i σ (nm 0) 1) n0) (bd (s_i σ (nm 1) (g_i σ (nm 0) 1).toNatClampNeg v1) (fun s1 =>
      bd (s_i s1 (nm 0) 1 ((g_i s1 (nm 0) 1) + 1)) (fun s2 =>
        some s2)))
abbrev Y_X4_put : jY := (yX4_put, cX4_put, 2, none, { frames := 0, cells := 0, slots := 0, locals := 0 })
theorem C_X4_put {l : Launch} {G : jG} {nm : Nat → Nat} {n0 : Nat} (hG : jWL G) (hE : jE G nm (LS_X4 n0)) (v1 : Int32) (σ : jS) : jC r_V l G Y_X4_put [.ref (jad G (nm 0)), .int v1] σ (f_X4_put nm n0 v1 σ) := by
  refine jw_met hG pn_X4 (Nat.le_of_ble_eq_true rfl) ⟨rfl, rfl⟩ ?_
  intro X hX hM
  have hX : jB X l G cX4_put RX4 2 { frames := 0, cells := 0, slots := 0, locals := 0 } := hX
  have hM : jM X (none) := hM
  show J X 0 [(0, .ref (jad G (nm 0))), (1, .int v1)] [] σ (f_X4_put nm n0 v1 σ) (jk r_V X)
  unfold f_X4_put
  refine J_aload_n hX dX4_put_0 rfl ?_
  refine J_geti hX hE 0 1 rfl rfl fl_X4_21 dX4_put_1 ?_
  refine J_aload_n hX dX4_put_4 rfl ?_
  refine J_getr hX hE 0 0 rfl rfl fl_X4_15 dX4_put_5 ?_
  refine J_alen hX hE 1 rfl dX4_put_8 ?_
  refine J_icmp_ge hX dX4_put_9 (tgt := 32) rfl (fun _ => ?_) (fun _ => ?_)
  · exact J_vret hX hM dX4_put_32
  · refine J_aload_n hX dX4_put_12 rfl ?_
    refine J_getr hX hE 0 0 rfl rfl fl_X4_15 dX4_put_13 ?_
    refine J_aload_n hX dX4_put_16 rfl ?_
    refine J_geti hX hE 0 1 rfl rfl fl_X4_21 dX4_put_17 ?_
    refine J_iload_n hX dX4_put_20 rfl ?_
    refine J_iast hX hE 1 rfl dX4_put_21 (fun _ => ?_)
    refine J_bdS (fun s3 => ?_)
    refine J_aload_n hX dX4_put_22 rfl ?_
    refine J_dup hX dX4_put_23 rfl ?_
    refine J_geti hX hE 0 1 rfl rfl fl_X4_21 dX4_put_24 ?_
    refine J_iconst hX dX4_put_27 k_i1 ?_
    refine J_iadd hX dX4_put_28 ?_
    refine J_puti hX hE 0 1 rfl rfl fp_X4_21 dX4_put_29 ?_
    refine J_bdS (fun s4 => ?_)
    exact J_vret hX hM dX4_put_32
theorem mw_X4_put : jMV Y_X4_put 1 := ⟨⟨tw_tb (List.mem_of_getElem? (i := 410) (by decide +kernel)) (by decide +kernel), tw_tb (List.mem_of_getElem? (i := 411) (by decide +kernel)) (by decide +kernel), tw_tb (List.mem_of_getElem? (i := 2) (by decide +kernel)) (by decide +kernel), tw_tb (List.mem_of_getElem? (i := 412) (by decide +kernel)) (by decide +kernel)⟩, ⟨rfl, rfl⟩, by decide +kernel, by decide +kernel, by decide +kernel⟩
-- X9_gather
noncomputable def f_X9_gather_L26 (nm : Nat → Nat) (v1 : Int64) (v3 : Int32) (s : (Int32 × jS)) : Option ((Int32 × jS) ⊕ jS) :=
  match s with
  | (v4, σ) =>
    if 64 ≤ v4 then
      some (.inr σ)
    else
      (f_X1_at (jn nm [1, 2]) v3 v4 σ).bind (fun q3 =>
        if (lg_cmp (((v1.toUInt64 >>> (v4.toInt64.toUInt64 &&& Int64.toUInt64 63)).toInt64) &&& 1) 0) = 0 then
          some (.inl (v4 + 1, σ))
        else
          if q3 < 0 then
            some (.inl (v4 + 1, σ))
          else
            if 1024 ≤ q3 then
              some (.inl (v4 + 1, σ))
            else
              gd (vp_in q3 1024) (
                if (g_i σ (nm 5) q3.toNatClampNeg) = 0 then
                  gd (vp_in q3 1024) (bd (s_i σ (nm 5) q3.toNatClampNeg 1) (fun s4 =>
                    (f_X4_put (jn nm [3, 4]) 1024 q3 s4).bind (fun s5 =>
                      some (.inl (v4 + 1, s5)))))
                else
                  some (.inl (v4 + 1, σ))))
noncomputable def f_X9_gather_L17 (nm : Nat → Nat) (v1 : Int64) (s : (Int32 × jS)) : Option ((Int32 × jS) ⊕ jS) :=
  match s with
  | (v3, σ) =>
    if 50 ≤ v3 then
      some (.inr σ)
    else
      (lp (f_X9_gather_L26 nm v1 v3) fu (0, σ)).bind (fun s6 =>
        some (.inl (v3 + 1, s6)))
noncomputable def f_X9_gather (nm : Nat → Nat) (v1 : Int64) (σ : jS) : Option jS :=
  (f_X4_empty (jn nm [3, 4]) 1024 σ).bind (fun s1 =>
    (f_J7_fill_53178 (jn nm [5]) 1024 0 s1).bind (fun s2 =>
      (lp (f_X9_gather_L17 nm v1) fu (0, s2)).bind (fun s7 =>
        some s7)))
abbrev Y_X9_gather : jY := (yX9_gather, cX9_gather, 6, none, { frames := 2, cells := 0, slots := 0, locals := 45 })
theorem C_X9_gather {l : Launch} {G : jG} {nm : Nat → Nat} (hG : jWL G) (hE : jE G nm LS_X9) (v1 : Int64) (σ : jS) : jC r_V l G Y_X9_gather [.ref (jad G (nm 0)), .long v1] σ (f_X9_gather nm v1 σ) := by
  refine jw_met hG pn_X9 (Nat.le_of_ble_eq_true rfl) ⟨rfl, rfl⟩ ?_
  intro X hX hM
  have hX : jB X l G cX9_gather RX9 6 { frames := 2, cells := 0, slots := 0, locals := 45 } := hX
  have hM : jM X (none) := hM
  show J X 0 [(0, .ref (jad G (nm 0))), (1, .long v1)] [] σ (f_X9_gather nm v1 σ) (jk r_V X)
  unfold f_X9_gather
  refine J_aload_n hX dX9_gather_0 rfl ?_
  refine J_getr hX hE 0 1 rfl rfl fl_X9_14 dX9_gather_1 ?_
  refine J_cVV hX hE 3 (C_X4_empty hG (hE.sb [3, 4] sb_15) σ) mw_X4_empty ml_X9_37 rfl rfl rfl ⟨Nat.le_of_ble_eq_true rfl, Nat.le_of_ble_eq_true rfl⟩ rfl rfl (Nat.le_of_ble_eq_true rfl) dX9_gather_4 (fun s8 => ?_)
  refine J_aload_n hX dX9_gather_7 rfl ?_
  refine J_getr hX hE 0 2 rfl rfl fl_X9_20 dX9_gather_8 ?_
  refine J_iconst hX dX9_gather_11 k_i0 ?_
  refine J_cSV hX (C_J7_fill_53178 hG (hE.sb [5] sb_16) 0 s8) mw_J7_fill_53178 ml_X9_40 ⟨Nat.le_of_ble_eq_true rfl, Nat.le_of_ble_eq_true rfl⟩ rfl rfl (Nat.le_of_ble_eq_true rfl) dX9_gather_12 (fun s9 => ?_)
  refine J_iconst hX dX9_gather_15 k_i0 ?_
  refine J_istore_n hX dX9_gather_16 (Nat.le_of_ble_eq_true rfl) (lv' := [(0, .ref (jad G (nm 0))), (1, .long v1), (3, .int 0)]) rfl ?_
  refine J_keep [0, 1, 2] (lv' := [(0, .ref (jad G (nm 0))), (1, .long v1), (3, .int 0)]) rfl ?_
  refine J_lp (pc := 17) (s0 := (0, s9)) (fun (s : (Int32 × jS)) => [(0, .ref (jad G (nm 0))), (1, .long v1), (3, .int (s.1))]) (fun (s : (Int32 × jS)) => s.2) ?_
  intro KK17 hN17 hQ17 z17
  obtain ⟨v3_17, σ_17⟩ := z17
  show J X 17 [(0, .ref (jad G (nm 0))), (1, .long v1), (3, .int v3_17)] [] σ_17 (f_X9_gather_L17 nm v1 (v3_17, σ_17)) KK17
  unfold f_X9_gather_L17
  refine J_iload_n hX dX9_gather_17 rfl ?_
  refine J_bipush hX dX9_gather_18 kb_50 ?_
  refine J_icmp_ge hX dX9_gather_20 (tgt := 108) rfl (fun _ => ?_) (fun _ => ?_)
  · refine hQ17 _ _ _ _ _ ?_
    exact J_vret hX hM dX9_gather_108
  · refine J_iconst hX dX9_gather_23 k_i0 ?_
    refine J_istore hX dX9_gather_24 (Nat.le_of_ble_eq_true rfl) (lv' := [(0, .ref (jad G (nm 0))), (1, .long v1), (3, .int v3_17), (4, .int 0)]) rfl ?_
    refine J_keep [0, 1, 2, 3] (lv' := [(0, .ref (jad G (nm 0))), (1, .long v1), (3, .int v3_17), (4, .int 0)]) rfl ?_
    refine J_lp (pc := 26) (s0 := (0, σ_17)) (fun (s : (Int32 × jS)) => [(0, .ref (jad G (nm 0))), (1, .long v1), (3, .int v3_17), (4, .int (s.1))]) (fun (s : (Int32 × jS)) => s.2) ?_
    intro KK26 hN26 hQ26 z26
    obtain ⟨v4_26, σ_26⟩ := z26
    show J X 26 [(0, .ref (jad G (nm 0))), (1, .long v1), (3, .int v3_17), (4, .int v4_26)] [] σ_26 (f_X9_gather_L26 nm v1 v3_17 (v4_26, σ_26)) KK26
    unfold f_X9_gather_L26
    refine J_iload hX dX9_gather_26 rfl ?_
    refine J_bipush hX dX9_gather_28 kb_64 ?_
    refine J_icmp_ge hX dX9_gather_30 (tgt := 102) rfl (fun _ => ?_) (fun _ => ?_)
    · refine hQ26 _ _ _ _ _ ?_
      refine J_iinc hX dX9_gather_102 rfl (congrArg (_ + ·) k_i1) (Nat.le_of_ble_eq_true rfl) (lv' := [(0, .ref (jad G (nm 0))), (1, .long v1), (3, .int (v3_17 + 1)), (4, .int v4_26)]) rfl ?_
      refine J_goto hX dX9_gather_105 (tgt := 17) rfl ?_
      exact J_keep [0, 1, 2] rfl (hN17 (v3_17 + 1, σ_26))
    · refine J_aload_n hX dX9_gather_33 rfl ?_
      refine J_getr hX hE 0 0 rfl rfl fl_X9_33 dX9_gather_34 ?_
      refine J_iload_n hX dX9_gather_37 rfl ?_
      refine J_iload hX dX9_gather_38 rfl ?_
      refine J_cVP hX hE 1 (C_X1_at hG (hE.sb [1, 2] sb_17) v3_17 v4_26 σ_26) mw_X1_at ml_X9_46 rfl rfl rfl ⟨Nat.le_of_ble_eq_true rfl, Nat.le_of_ble_eq_true rfl⟩ rfl rfl (Nat.le_of_ble_eq_true rfl) dX9_gather_40 (fun q10 => ?_)
      refine J_istore hX dX9_gather_43 (Nat.le_of_ble_eq_true rfl) (lv' := [(0, .ref (jad G (nm 0))), (1, .long v1), (3, .int v3_17), (4, .int v4_26), (5, .int q10)]) rfl ?_
      refine J_lload_n hX dX9_gather_45 rfl ?_
      refine J_iload hX dX9_gather_46 rfl ?_
      refine J_lushr hX dX9_gather_48 ?_
      refine J_lconst hX dX9_gather_49 k_l1 ?_
      refine J_land hX dX9_gather_50 ?_
      refine J_lconst hX dX9_gather_51 k_l0 ?_
      refine J_lcmp hX dX9_gather_52 ?_
      refine J_if_eq hX dX9_gather_53 (tgt := 96) rfl (fun _ => ?_) (fun _ => ?_)
      · refine J_iinc hX dX9_gather_96 rfl (congrArg (_ + ·) k_i1) (Nat.le_of_ble_eq_true rfl) (lv' := [(0, .ref (jad G (nm 0))), (1, .long v1), (3, .int v3_17), (4, .int (v4_26 + 1)), (5, .int q10)]) rfl ?_
        refine J_goto hX dX9_gather_99 (tgt := 26) rfl ?_
        exact J_keep [0, 1, 2, 3] rfl (hN26 (v4_26 + 1, σ_26))
      · refine J_iload hX dX9_gather_56 rfl ?_
        refine J_if_lt hX dX9_gather_58 (tgt := 96) rfl (fun _ => ?_) (fun _ => ?_)
        · refine J_iinc hX dX9_gather_96 rfl (congrArg (_ + ·) k_i1) (Nat.le_of_ble_eq_true rfl) (lv' := [(0, .ref (jad G (nm 0))), (1, .long v1), (3, .int v3_17), (4, .int (v4_26 + 1)), (5, .int q10)]) rfl ?_
          refine J_goto hX dX9_gather_99 (tgt := 26) rfl ?_
          exact J_keep [0, 1, 2, 3] rfl (hN26 (v4_26 + 1, σ_26))
        · refine J_iload hX dX9_gather_61 rfl ?_
          refine J_sipush hX dX9_gather_63 ks_1024 ?_
          refine J_icmp_ge hX dX9_gather_66 (tgt := 96) rfl (fun _ => ?_) (fun _ => ?_)
          · refine J_iinc hX dX9_gather_96 rfl (congrArg (_ + ·) k_i1) (Nat.le_of_ble_eq_true rfl) (lv' := [(0, .ref (jad G (nm 0))), (1, .long v1), (3, .int v3_17), (4, .int (v4_26 + 1)), (5, .int q10)]) rfl ?_
            refine J_goto hX dX9_gather_99 (tgt := 26) rfl ?_
            exact J_keep [0, 1, 2, 3] rfl (hN26 (v4_26 + 1, σ_26))
          · refine J_aload_n hX dX9_gather_69 rfl ?_
            refine J_getr hX hE 0 2 rfl rfl fl_X9_20 dX9_gather_70 ?_
            refine J_iload hX dX9_gather_73 rfl ?_
            refine J_iald hX hE 5 rfl dX9_gather_75 (fun _ => ?_)
            refine J_if_ne hX dX9_gather_76 (tgt := 96) rfl (fun _ => ?_) (fun _ => ?_)
            · refine J_iinc hX dX9_gather_96 rfl (congrArg (_ + ·) k_i1) (Nat.le_of_ble_eq_true rfl) (lv' := [(0, .ref (jad G (nm 0))), (1, .long v1), (3, .int v3_17), (4, .int (v4_26 + 1)), (5, .int q10)]) rfl ?_
              refine J_goto hX dX9_gather_99 (tgt := 26) rfl ?_
              exact J_keep [0, 1, 2, 3] rfl (hN26 (v4_26 + 1, σ_26))
            · refine J_aload_n hX dX9_gather_79 rfl ?_
              refine J_getr hX hE 0 2 rfl rfl fl_X9_20 dX9_gather_80 ?_
              refine J_iload hX dX9_gather_83 rfl ?_
              refine J_iconst hX dX9_gather_85 k_i1 ?_
              refine J_iast hX hE 5 rfl dX9_gather_86 (fun _ => ?_)
              refine J_bdS (fun s11 => ?_)
              refine J_aload_n hX dX9_gather_87 rfl ?_
              refine J_getr hX hE 0 1 rfl rfl fl_X9_14 dX9_gather_88 ?_
              refine J_iload hX dX9_gather_91 rfl ?_
              refine J_cVV hX hE 3 (C_X4_put hG (hE.sb [3, 4] sb_15) q10 s11) mw_X4_put ml_X9_52 rfl rfl rfl ⟨Nat.le_of_ble_eq_true rfl, Nat.le_of_ble_eq_true rfl⟩ rfl rfl (Nat.le_of_ble_eq_true rfl) dX9_gather_93 (fun s12 => ?_)
              refine J_iinc hX dX9_gather_96 rfl (congrArg (_ + ·) k_i1) (Nat.le_of_ble_eq_true rfl) (lv' := [(0, .ref (jad G (nm 0))), (1, .long v1), (3, .int v3_17), (4, .int (v4_26 + 1)), (5, .int q10)]) rfl ?_
              refine J_goto hX dX9_gather_99 (tgt := 26) rfl ?_
              exact J_keep [0, 1, 2, 3] rfl (hN26 (v4_26 + 1, s12))
theorem mw_X9_gather : jMV Y_X9_gather 1 := ⟨⟨tw_tb (List.mem_of_getElem? (i := 855) (by decide +kernel)) (by decide +kernel), tw_tb (List.mem_of_getElem? (i := 856) (by decide +kernel)) (by decide +kernel), tw_tb (List.mem_of_getElem? (i := 10) (by decide +kernel)) (by decide +kernel), tw_tb (List.mem_of_getElem? (i := 857) (by decide +kernel)) (by decide +kernel)⟩, ⟨rfl, rfl⟩, by decide +kernel, by decide +kernel, by decide +kernel⟩
-- X4_putIfLargest
noncomputable def f_X4_putIfLargest_L2 (nm : Nat → Nat) (n0 : Nat) (v1 : Int32) (σ : jS) (v2 : Int32) : Option (Int32 ⊕ (Unit ⊕ jS)) :=
  if (g_i σ (nm 0) 1) ≤ v2 then
    some (.inr (.inl ()))
  else
    gd (vp_in v2 n0) (
      if (v1 &&& ((g_i σ (nm 1) v2.toNatClampNeg) ^^^ (-1))) = 0 then
        some (.inr (.inr σ))
      else
        some (.inl (v2 + 1)))
noncomputable def f_X4_putIfLargest_L34 (nm : Nat → Nat) (n0 : Nat) (v1 : Int32) (s : (Int32 × Int32 × jS)) : Option ((Int32 × Int32 × jS) ⊕ (Int32 × jS)) :=
  match s with
  | (v2, v3, σ) =>
    if (g_i σ (nm 0) 1) ≤ v3 then
      some (.inr (v2, σ))
    else
      gd (vp_in v3 n0) (
        if ((g_i σ (nm 1) v3.toNatClampNeg) &&& (v1 ^^^ (-1))) = 0 then
          some (.inl (v2, v3 + 1, σ))
        else
          gd (vp_in v3 n0) (
            gd (vp_in v2 n0) (bd (s_i σ (nm 1) v2.toNatClampNeg (g_i σ (nm 1) v3.toNatClampNeg)) (fun s1 =>
              some (.inl (v2 + 1, v3 + 1, s1))))))
noncomputable def f_X4_putIfLargest (nm : Nat → Nat) (n0 : Nat) (v1 : Int32) (σ : jS) : Option jS :=
  (lp (f_X4_putIfLargest_L2 nm n0 v1 σ) fu 0).bind (fun x => match x with
  | .inl _ =>
    (lp (f_X4_putIfLargest_L34 nm n0 v1) fu (0, 0, σ)).bind (fun x => match x with
    | (e2, s3) =>
      bd (s_i s3 (nm 0) 1 e2) (fun s4 =>
        (f_X4_put nm n0 v1 s4).bind (fun s5 =>
          some s5)))
  | .inr a => some a)
abbrev Y_X4_putIfLargest : jY := (yX4_putIfLargest, cX4_putIfLargest, 4, none, { frames := 1, cells := 0, slots := 0, locals := 21 })
theorem C_X4_putIfLargest {l : Launch} {G : jG} {nm : Nat → Nat} {n0 : Nat} (hG : jWL G) (hE : jE G nm (LS_X4 n0)) (v1 : Int32) (σ : jS) : jC r_V l G Y_X4_putIfLargest [.ref (jad G (nm 0)), .int v1] σ (f_X4_putIfLargest nm n0 v1 σ) := by
  refine jw_met hG pn_X4 (Nat.le_of_ble_eq_true rfl) ⟨rfl, rfl⟩ ?_
  intro X hX hM
  have hX : jB X l G cX4_putIfLargest RX4 4 { frames := 1, cells := 0, slots := 0, locals := 21 } := hX
  have hM : jM X (none) := hM
  show J X 0 [(0, .ref (jad G (nm 0))), (1, .int v1)] [] σ (f_X4_putIfLargest nm n0 v1 σ) (jk r_V X)
  unfold f_X4_putIfLargest
  refine J_iconst hX dX4_putIfLargest_0 k_i0 ?_
  refine J_istore_n hX dX4_putIfLargest_1 (Nat.le_of_ble_eq_true rfl) (lv' := [(0, .ref (jad G (nm 0))), (1, .int v1), (2, .int 0)]) rfl ?_
  refine J_keep [0, 1, 2] (lv' := [(0, .ref (jad G (nm 0))), (1, .int v1), (2, .int 0)]) rfl ?_
  refine J_lp (pc := 2) (s0 := 0) (fun (s : Int32) => [(0, .ref (jad G (nm 0))), (1, .int v1), (2, .int s)]) (fun (s : Int32) => σ) ?_
  intro KK2 hN2 hQ2 z2
  obtain ⟨v2_2, rfl⟩ : ∃ y, y = z2 := ⟨_, rfl⟩
  show J X 2 [(0, .ref (jad G (nm 0))), (1, .int v1), (2, .int v2_2)] [] σ (f_X4_putIfLargest_L2 nm n0 v1 σ v2_2) KK2
  unfold f_X4_putIfLargest_L2
  refine J_iload_n hX dX4_putIfLargest_2 rfl ?_
  refine J_aload_n hX dX4_putIfLargest_3 rfl ?_
  refine J_geti hX hE 0 1 rfl rfl fl_X4_21 dX4_putIfLargest_4 ?_
  refine J_icmp_ge hX dX4_putIfLargest_7 (tgt := 30) rfl (fun _ => ?_) (fun _ => ?_)
  · refine hQ2 _ _ _ _ _ ?_
    refine J_iconst hX dX4_putIfLargest_30 k_i0 ?_
    refine J_istore_n hX dX4_putIfLargest_31 (Nat.le_of_ble_eq_true rfl) (lv' := [(0, .ref (jad G (nm 0))), (1, .int v1), (2, .int 0)]) rfl ?_
    refine J_iconst hX dX4_putIfLargest_32 k_i0 ?_
    refine J_istore_n hX dX4_putIfLargest_33 (Nat.le_of_ble_eq_true rfl) (lv' := [(0, .ref (jad G (nm 0))), (1, .int v1), (2, .int 0), (3, .int 0)]) rfl ?_
    refine J_keep [0, 1, 2, 3] (lv' := [(0, .ref (jad G (nm 0))), (1, .int v1), (2, .int 0), (3, .int 0)]) rfl ?_
    refine J_lp (pc := 34) (s0 := (0, 0, σ)) (fun (s : (Int32 × Int32 × jS)) => [(0, .ref (jad G (nm 0))), (1, .int v1), (2, .int (s.1)), (3, .int (s.2.1))]) (fun (s : (Int32 × Int32 × jS)) => s.2.2) ?_
    intro KK34 hN34 hQ34 z34
    obtain ⟨v2_34, v3_34, σ_34⟩ := z34
    show J X 34 [(0, .ref (jad G (nm 0))), (1, .int v1), (2, .int v2_34), (3, .int v3_34)] [] σ_34 (f_X4_putIfLargest_L34 nm n0 v1 (v2_34, v3_34, σ_34)) KK34
    unfold f_X4_putIfLargest_L34
    refine J_iload_n hX dX4_putIfLargest_34 rfl ?_
    refine J_aload_n hX dX4_putIfLargest_35 rfl ?_
    refine J_geti hX hE 0 1 rfl rfl fl_X4_21 dX4_putIfLargest_36 ?_
    refine J_icmp_ge hX dX4_putIfLargest_39 (tgt := 76) rfl (fun _ => ?_) (fun _ => ?_)
    · refine hQ34 _ _ _ _ _ ?_
      refine J_aload_n hX dX4_putIfLargest_76 rfl ?_
      refine J_iload_n hX dX4_putIfLargest_77 rfl ?_
      refine J_puti hX hE 0 1 rfl rfl fp_X4_21 dX4_putIfLargest_78 ?_
      refine J_bdS (fun s6 => ?_)
      refine J_aload_n hX dX4_putIfLargest_81 rfl ?_
      refine J_iload_n hX dX4_putIfLargest_82 rfl ?_
      refine J_cVV hX hE 0 (C_X4_put hG hE v1 s6) mw_X4_put ml_X4_25 rfl rfl rfl ⟨Nat.le_of_ble_eq_true rfl, Nat.le_of_ble_eq_true rfl⟩ rfl rfl (Nat.le_of_ble_eq_true rfl) dX4_putIfLargest_83 (fun s7 => ?_)
      exact J_vret hX hM dX4_putIfLargest_86
    · refine J_aload_n hX dX4_putIfLargest_42 rfl ?_
      refine J_getr hX hE 0 0 rfl rfl fl_X4_15 dX4_putIfLargest_43 ?_
      refine J_iload_n hX dX4_putIfLargest_46 rfl ?_
      refine J_iald hX hE 1 rfl dX4_putIfLargest_47 (fun _ => ?_)
      refine J_iload_n hX dX4_putIfLargest_48 rfl ?_
      refine J_iconst hX dX4_putIfLargest_49 k_im1 ?_
      refine J_ixor hX dX4_putIfLargest_50 ?_
      refine J_iand hX dX4_putIfLargest_51 ?_
      refine J_if_eq hX dX4_putIfLargest_52 (tgt := 70) rfl (fun _ => ?_) (fun _ => ?_)
      · refine J_iinc hX dX4_putIfLargest_70 rfl (congrArg (_ + ·) k_i1) (Nat.le_of_ble_eq_true rfl) (lv' := [(0, .ref (jad G (nm 0))), (1, .int v1), (2, .int v2_34), (3, .int (v3_34 + 1))]) rfl ?_
        refine J_goto hX dX4_putIfLargest_73 (tgt := 34) rfl ?_
        exact J_keep [0, 1, 2, 3] rfl (hN34 (v2_34, v3_34 + 1, σ_34))
      · refine J_aload_n hX dX4_putIfLargest_55 rfl ?_
        refine J_getr hX hE 0 0 rfl rfl fl_X4_15 dX4_putIfLargest_56 ?_
        refine J_iload_n hX dX4_putIfLargest_59 rfl ?_
        refine J_aload_n hX dX4_putIfLargest_60 rfl ?_
        refine J_getr hX hE 0 0 rfl rfl fl_X4_15 dX4_putIfLargest_61 ?_
        refine J_iload_n hX dX4_putIfLargest_64 rfl ?_
        refine J_iald hX hE 1 rfl dX4_putIfLargest_65 (fun _ => ?_)
        refine J_iast hX hE 1 rfl dX4_putIfLargest_66 (fun _ => ?_)
        refine J_bdS (fun s8 => ?_)
        refine J_iinc hX dX4_putIfLargest_67 rfl (congrArg (_ + ·) k_i1) (Nat.le_of_ble_eq_true rfl) (lv' := [(0, .ref (jad G (nm 0))), (1, .int v1), (2, .int (v2_34 + 1)), (3, .int v3_34)]) rfl ?_
        refine J_iinc hX dX4_putIfLargest_70 rfl (congrArg (_ + ·) k_i1) (Nat.le_of_ble_eq_true rfl) (lv' := [(0, .ref (jad G (nm 0))), (1, .int v1), (2, .int (v2_34 + 1)), (3, .int (v3_34 + 1))]) rfl ?_
        refine J_goto hX dX4_putIfLargest_73 (tgt := 34) rfl ?_
        exact J_keep [0, 1, 2, 3] rfl (hN34 (v2_34 + 1, v3_34 + 1, s8))
  · refine J_iload_n hX dX4_putIfLargest_10 rfl ?_
    refine J_aload_n hX dX4_putIfLargest_11 rfl ?_
    refine J_getr hX hE 0 0 rfl rfl fl_X4_15 dX4_putIfLargest_12 ?_
    refine J_iload_n hX dX4_putIfLargest_15 rfl ?_
    refine J_iald hX hE 1 rfl dX4_putIfLargest_16 (fun _ => ?_)
    refine J_iconst hX dX4_putIfLargest_17 k_im1 ?_
    refine J_ixor hX dX4_putIfLargest_18 ?_
    refine J_iand hX dX4_putIfLargest_19 ?_
    refine J_if_ne hX dX4_putIfLargest_20 (tgt := 24) rfl (fun _ => ?_) (fun _ => ?_)
    · refine J_iinc hX dX4_putIfLargest_24 rfl (congrArg (_ + ·) k_i1) (Nat.le_of_ble_eq_true rfl) (lv' := [(0, .ref (jad G (nm 0))), (1, .int v1), (2, .int (v2_2 + 1))]) rfl ?_
      refine J_goto hX dX4_putIfLargest_27 (tgt := 2) rfl ?_
      exact J_keep [0, 1, 2] rfl (hN2 (v2_2 + 1))
    · refine hQ2 _ _ _ _ _ ?_
      exact J_vret hX hM dX4_putIfLargest_23
theorem mw_X4_putIfLargest : jMV Y_X4_putIfLargest 1 := ⟨⟨tw_tb (List.mem_of_getElem? (i := 783) (by decide +kernel)) (by decide +kernel), tw_tb (List.mem_of_getElem? (i := 784) (by decide +kernel)) (by decide +kernel), tw_tb (List.mem_of_getElem? (i := 2) (by decide +kernel)) (by decide +kernel), tw_tb (List.mem_of_getElem? (i := 785) (by decide +kernel)) (by decide +kernel)⟩, ⟨rfl, rfl⟩, by decide +kernel, by decide +kernel, by decide +kernel⟩
-- X9_leastFor
noncomputable def f_X9_leastFor (nm : Nat → Nat) (v1 : Int32) (σ : jS) : Option Int32 :=
  if v1 < 0 then
    some 100000
  else
    if 1024 ≤ v1 then
      some 100000
    else
      gd (vp_in v1 1024) (
        some (g_i σ (nm 8) v1.toNatClampNeg))
abbrev Y_X9_leastFor : jY := (yX9_leastFor, cX9_leastFor, 2, some .int, { frames := 0, cells := 0, slots := 0, locals := 0 })
theorem C_X9_leastFor {l : Launch} {G : jG} {nm : Nat → Nat} (hG : jWL G) (hE : jE G nm LS_X9) (v1 : Int32) (σ : jS) : jC (r_P σ) l G Y_X9_leastFor [.ref (jad G (nm 0)), .int v1] σ (f_X9_leastFor nm v1 σ) := by
  refine jw_met hG pn_X9 (Nat.le_of_ble_eq_true rfl) ⟨rfl, rfl⟩ ?_
  intro X hX hM
  have hX : jB X l G cX9_leastFor RX9 2 { frames := 0, cells := 0, slots := 0, locals := 0 } := hX
  have hM : jM X (some .int) := hM
  show J X 0 [(0, .ref (jad G (nm 0))), (1, .int v1)] [] σ (f_X9_leastFor nm v1 σ) (jk (r_P σ) X)
  unfold f_X9_leastFor
  refine J_iload_n hX dX9_leastFor_0 rfl ?_
  refine J_if_lt hX dX9_leastFor_1 (tgt := 20) rfl (fun _ => ?_) (fun _ => ?_)
  · refine J_ldc hX wc_X9_77 dX9_leastFor_20 ?_
    exact J_iretP hX hM dX9_leastFor_22
  · refine J_iload_n hX dX9_leastFor_4 rfl ?_
    refine J_sipush hX dX9_leastFor_5 ks_1024 ?_
    refine J_icmp_ge hX dX9_leastFor_8 (tgt := 20) rfl (fun _ => ?_) (fun _ => ?_)
    · refine J_ldc hX wc_X9_77 dX9_leastFor_20 ?_
      exact J_iretP hX hM dX9_leastFor_22
    · refine J_aload_n hX dX9_leastFor_11 rfl ?_
      refine J_getr hX hE 0 4 rfl rfl fl_X9_27 dX9_leastFor_12 ?_
      refine J_iload_n hX dX9_leastFor_15 rfl ?_
      refine J_iald hX hE 8 rfl dX9_leastFor_16 (fun _ => ?_)
      refine J_goto hX dX9_leastFor_17 (tgt := 22) rfl ?_
      exact J_iretP hX hM dX9_leastFor_22
theorem mw_X9_leastFor : jMV Y_X9_leastFor 1 := ⟨⟨tw_tb (List.mem_of_getElem? (i := 880) (by decide +kernel)) (by decide +kernel), tw_pv (List.mem_of_getElem? (i := 21) (by decide +kernel)) (by decide +kernel), tw_tb (List.mem_of_getElem? (i := 10) (by decide +kernel)) (by decide +kernel), tw_tb (List.mem_of_getElem? (i := 881) (by decide +kernel)) (by decide +kernel)⟩, ⟨rfl, rfl⟩, by decide +kernel, by decide +kernel, by decide +kernel⟩
-- X9_leastByLowest
noncomputable def f_X9_leastByLowest_L11 (nm : Nat → Nat) (v1 : Int32) (v2 : Int32) (σ : jS) (s : (Int32 × Int32)) : Option ((Int32 × Int32) ⊕ Int32) :=
  match s with
  | (v3, v4) =>
    (f_X4_size (jn nm [6, 7]) 256 σ).bind (fun q2 =>
      if q2 ≤ v4 then
        some (.inr v3)
      else
        (f_X4_at (jn nm [6, 7]) 256 v4 σ).bind (fun q3 =>
          if (q3 &&& v2) = 0 then
            some (.inl (v3, v4 + 1))
          else
            (f_X9_leastFor nm (v1 &&& (q3 ^^^ (-1))) σ).bind (fun q4 =>
              bd (imin v3 (q4 + 1)) (fun x5 =>
                some (.inl (x5, v4 + 1))))))
noncomputable def f_X9_leastByLowest (nm : Nat → Nat) (v1 : Int32) (σ : jS) : Option Int32 :=
  bd (v1 &&& (-v1)) (fun x1 =>
    (lp (f_X9_leastByLowest_L11 nm v1 x1 σ) fu (100000, 0)).bind (fun e6 =>
      some e6))
abbrev Y_X9_leastByLowest : jY := (yX9_leastByLowest, cX9_leastByLowest, 6, some .int, { frames := 1, cells := 0, slots := 0, locals := 21 })
theorem C_X9_leastByLowest {l : Launch} {G : jG} {nm : Nat → Nat} (hG : jWL G) (hE : jE G nm LS_X9) (v1 : Int32) (σ : jS) : jC (r_P σ) l G Y_X9_leastByLowest [.ref (jad G (nm 0)), .int v1] σ (f_X9_leastByLowest nm v1 σ) := by
  refine jw_met hG pn_X9 (Nat.le_of_ble_eq_true rfl) ⟨rfl, rfl⟩ ?_
  intro X hX hM
  have hX : jB X l G cX9_leastByLowest RX9 6 { frames := 1, cells := 0, slots := 0, locals := 21 } := hX
  have hM : jM X (some .int) := hM
  show J X 0 [(0, .ref (jad G (nm 0))), (1, .int v1)] [] σ (f_X9_leastByLowest nm v1 σ) (jk (r_P σ) X)
  unfold f_X9_leastByLowest
  refine J_iload_n hX dX9_leastByLowest_0 rfl ?_
  refine J_iload_n hX dX9_leastByLowest_1 rfl ?_
  refine J_ineg hX dX9_leastByLowest_2 ?_
  refine J_iand hX dX9_leastByLowest_3 ?_
  refine J_bdI (fun x7 => ?_)
  refine J_istore_n hX dX9_leastByLowest_4 (Nat.le_of_ble_eq_true rfl) (lv' := [(0, .ref (jad G (nm 0))), (1, .int v1), (2, .int x7)]) rfl ?_
  refine J_ldc hX wc_X9_77 dX9_leastByLowest_5 ?_
  refine J_istore_n hX dX9_leastByLowest_7 (Nat.le_of_ble_eq_true rfl) (lv' := [(0, .ref (jad G (nm 0))), (1, .int v1), (2, .int x7), (3, .int 100000)]) rfl ?_
  refine J_iconst hX dX9_leastByLowest_8 k_i0 ?_
  refine J_istore hX dX9_leastByLowest_9 (Nat.le_of_ble_eq_true rfl) (lv' := [(0, .ref (jad G (nm 0))), (1, .int v1), (2, .int x7), (3, .int 100000), (4, .int 0)]) rfl ?_
  refine J_keep [0, 1, 2, 3, 4] (lv' := [(0, .ref (jad G (nm 0))), (1, .int v1), (2, .int x7), (3, .int 100000), (4, .int 0)]) rfl ?_
  refine J_lp (pc := 11) (s0 := (100000, 0)) (fun (s : (Int32 × Int32)) => [(0, .ref (jad G (nm 0))), (1, .int v1), (2, .int x7), (3, .int (s.1)), (4, .int (s.2))]) (fun (s : (Int32 × Int32)) => σ) ?_
  intro KK11 hN11 hQ11 z11
  obtain ⟨v3_11, v4_11⟩ := z11
  show J X 11 [(0, .ref (jad G (nm 0))), (1, .int v1), (2, .int x7), (3, .int v3_11), (4, .int v4_11)] [] σ (f_X9_leastByLowest_L11 nm v1 x7 σ (v3_11, v4_11)) KK11
  unfold f_X9_leastByLowest_L11
  refine J_iload hX dX9_leastByLowest_11 rfl ?_
  refine J_aload_n hX dX9_leastByLowest_13 rfl ?_
  refine J_getr hX hE 0 3 rfl rfl fl_X9_24 dX9_leastByLowest_14 ?_
  refine J_cVP hX hE 6 (C_X4_size hG (hE.sb [6, 7] sb_18) σ) mw_X4_size ml_X9_55 rfl rfl rfl ⟨Nat.le_of_ble_eq_true rfl, Nat.le_of_ble_eq_true rfl⟩ rfl rfl (Nat.le_of_ble_eq_true rfl) dX9_leastByLowest_17 (fun q8 => ?_)
  refine J_icmp_ge hX dX9_leastByLowest_20 (tgt := 64) rfl (fun _ => ?_) (fun _ => ?_)
  · refine hQ11 _ _ _ _ _ ?_
    refine J_iload_n hX dX9_leastByLowest_64 rfl ?_
    exact J_iretP hX hM dX9_leastByLowest_65
  · refine J_aload_n hX dX9_leastByLowest_23 rfl ?_
    refine J_getr hX hE 0 3 rfl rfl fl_X9_24 dX9_leastByLowest_24 ?_
    refine J_iload hX dX9_leastByLowest_27 rfl ?_
    refine J_cVP hX hE 6 (C_X4_at hG (hE.sb [6, 7] sb_18) v4_11 σ) mw_X4_at ml_X9_59 rfl rfl rfl ⟨Nat.le_of_ble_eq_true rfl, Nat.le_of_ble_eq_true rfl⟩ rfl rfl (Nat.le_of_ble_eq_true rfl) dX9_leastByLowest_29 (fun q9 => ?_)
    refine J_istore hX dX9_leastByLowest_32 (Nat.le_of_ble_eq_true rfl) (lv' := [(0, .ref (jad G (nm 0))), (1, .int v1), (2, .int x7), (3, .int v3_11), (4, .int v4_11), (5, .int q9)]) rfl ?_
    refine J_iload hX dX9_leastByLowest_34 rfl ?_
    refine J_iload_n hX dX9_leastByLowest_36 rfl ?_
    refine J_iand hX dX9_leastByLowest_37 ?_
    refine J_if_eq hX dX9_leastByLowest_38 (tgt := 58) rfl (fun _ => ?_) (fun _ => ?_)
    · refine J_iinc hX dX9_leastByLowest_58 rfl (congrArg (_ + ·) k_i1) (Nat.le_of_ble_eq_true rfl) (lv' := [(0, .ref (jad G (nm 0))), (1, .int v1), (2, .int x7), (3, .int v3_11), (4, .int (v4_11 + 1)), (5, .int q9)]) rfl ?_
      refine J_goto hX dX9_leastByLowest_61 (tgt := 11) rfl ?_
      exact J_keep [0, 1, 2, 3, 4] rfl (hN11 (v3_11, v4_11 + 1))
    · refine J_iload_n hX dX9_leastByLowest_41 rfl ?_
      refine J_aload_n hX dX9_leastByLowest_42 rfl ?_
      refine J_iload_n hX dX9_leastByLowest_43 rfl ?_
      refine J_iload hX dX9_leastByLowest_44 rfl ?_
      refine J_iconst hX dX9_leastByLowest_46 k_im1 ?_
      refine J_ixor hX dX9_leastByLowest_47 ?_
      refine J_iand hX dX9_leastByLowest_48 ?_
      refine J_cVP hX hE 0 (C_X9_leastFor hG hE (v1 &&& (q9 ^^^ (-1))) σ) mw_X9_leastFor ml_X9_74 rfl rfl rfl ⟨Nat.le_of_ble_eq_true rfl, Nat.le_of_ble_eq_true rfl⟩ rfl rfl (Nat.le_of_ble_eq_true rfl) dX9_leastByLowest_49 (fun q10 => ?_)
      refine J_iconst hX dX9_leastByLowest_52 k_i1 ?_
      refine J_iadd hX dX9_leastByLowest_53 ?_
      refine J_mmin2 hX mm_X9_81 (Nat.le_of_ble_eq_true rfl) (Nat.le_of_ble_eq_true rfl) dX9_leastByLowest_54 ?_
      refine J_bdI (fun x11 => ?_)
      refine J_istore_n hX dX9_leastByLowest_57 (Nat.le_of_ble_eq_true rfl) (lv' := [(0, .ref (jad G (nm 0))), (1, .int v1), (2, .int x7), (3, .int x11), (4, .int v4_11), (5, .int q9)]) rfl ?_
      refine J_iinc hX dX9_leastByLowest_58 rfl (congrArg (_ + ·) k_i1) (Nat.le_of_ble_eq_true rfl) (lv' := [(0, .ref (jad G (nm 0))), (1, .int v1), (2, .int x7), (3, .int x11), (4, .int (v4_11 + 1)), (5, .int q9)]) rfl ?_
      refine J_goto hX dX9_leastByLowest_61 (tgt := 11) rfl ?_
      exact J_keep [0, 1, 2, 3, 4] rfl (hN11 (x11, v4_11 + 1))
theorem mw_X9_leastByLowest : jMV Y_X9_leastByLowest 1 := ⟨⟨tw_tb (List.mem_of_getElem? (i := 875) (by decide +kernel)) (by decide +kernel), tw_pv (List.mem_of_getElem? (i := 20) (by decide +kernel)) (by decide +kernel), tw_tb (List.mem_of_getElem? (i := 10) (by decide +kernel)) (by decide +kernel), tw_tb (List.mem_of_getElem? (i := 876) (by decide +kernel)) (by decide +kernel)⟩, ⟨rfl, rfl⟩, by decide +kernel, by decide +kernel, by decide +kernel⟩
-- X9_fewestThatHold
noncomputable def f_X9_fewestThatHold_L9 (nm : Nat → Nat) (v1 : Int32) (s : (Int32 × jS)) : Option ((Int32 × jS) ⊕ jS) :=
  match s with
  | (v2, σ) =>
    if v1 < v2 then
      some (.inr σ)
    else
      if 1024 ≤ v2 then
        some (.inr σ)
      else
        if (v2 &&& (v1 ^^^ (-1))) = 0 then
          (f_X9_leastByLowest nm v2 σ).bind (fun q2 =>
            gd (vp_in v2 1024) (bd (s_i σ (nm 8) v2.toNatClampNeg q2) (fun s3 =>
              some (.inl (v2 + 1, s3)))))
        else
          some (.inl (v2 + 1, σ))
noncomputable def f_X9_fewestThatHold_J46 (nm : Nat → Nat) (v1 : Int32) (σ : jS) : Option (Int32 × jS) :=
  (f_X9_leastFor nm v1 σ).bind (fun q5 =>
    if 100000 ≤ q5 then
      some ((-1), σ)
    else
      some (q5, σ))
noncomputable def f_X9_fewestThatHold (nm : Nat → Nat) (v1 : Int32) (σ : jS) : Option (Int32 × jS) :=
  gd (vp_in 0 1024) (bd (s_i σ (nm 8) (0 : Int32).toNatClampNeg 0) (fun s1 =>
    (lp (f_X9_fewestThatHold_L9 nm v1) fu (1, s1)).bind (fun s4 =>
      f_X9_fewestThatHold_J46 nm v1 s4)))
abbrev Y_X9_fewestThatHold : jY := (yX9_fewestThatHold, cX9_fewestThatHold, 3, some .int, { frames := 2, cells := 0, slots := 0, locals := 46 })
theorem C_X9_fewestThatHold {l : Launch} {G : jG} {nm : Nat → Nat} (hG : jWL G) (hE : jE G nm LS_X9) (v1 : Int32) (σ : jS) : jC r_I l G Y_X9_fewestThatHold [.ref (jad G (nm 0)), .int v1] σ (f_X9_fewestThatHold nm v1 σ) := by
  refine jw_met hG pn_X9 (Nat.le_of_ble_eq_true rfl) ⟨rfl, rfl⟩ ?_
  intro X hX hM
  have hX : jB X l G cX9_fewestThatHold RX9 3 { frames := 2, cells := 0, slots := 0, locals := 46 } := hX
  have hM : jM X (some .int) := hM
  show J X 0 [(0, .ref (jad G (nm 0))), (1, .int v1)] [] σ (f_X9_fewestThatHold nm v1 σ) (jk r_I X)
  have hJ46 : ∀ (v1 : Int32) (σ : jS), J X 46 [(0, .ref (jad G (nm 0))), (1, .int v1)] [] σ (f_X9_fewestThatHold_J46 nm v1 σ) (jk r_I X) := by
    intro v1 σ
    unfold f_X9_fewestThatHold_J46
    refine J_aload_n hX dX9_fewestThatHold_46 rfl ?_
    refine J_iload_n hX dX9_fewestThatHold_47 rfl ?_
    refine J_cVP hX hE 0 (C_X9_leastFor hG hE v1 σ) mw_X9_leastFor ml_X9_74 rfl rfl rfl ⟨Nat.le_of_ble_eq_true rfl, Nat.le_of_ble_eq_true rfl⟩ rfl rfl (Nat.le_of_ble_eq_true rfl) dX9_fewestThatHold_48 (fun q6 => ?_)
    refine J_istore_n hX dX9_fewestThatHold_51 (Nat.le_of_ble_eq_true rfl) (lv' := [(0, .ref (jad G (nm 0))), (1, .int v1), (2, .int q6)]) rfl ?_
    refine J_iload_n hX dX9_fewestThatHold_52 rfl ?_
    refine J_ldc hX wc_X9_77 dX9_fewestThatHold_53 ?_
    refine J_icmp_ge hX dX9_fewestThatHold_55 (tgt := 62) rfl (fun _ => ?_) (fun _ => ?_)
    · refine J_iconst hX dX9_fewestThatHold_62 k_im1 ?_
      exact J_iret hX hM dX9_fewestThatHold_63
    · refine J_iload_n hX dX9_fewestThatHold_58 rfl ?_
      refine J_goto hX dX9_fewestThatHold_59 (tgt := 63) rfl ?_
      exact J_iret hX hM dX9_fewestThatHold_63
  unfold f_X9_fewestThatHold
  refine J_aload_n hX dX9_fewestThatHold_0 rfl ?_
  refine J_getr hX hE 0 4 rfl rfl fl_X9_27 dX9_fewestThatHold_1 ?_
  refine J_iconst hX dX9_fewestThatHold_4 k_i0 ?_
  refine J_iconst hX dX9_fewestThatHold_5 k_i0 ?_
  refine J_iast hX hE 8 rfl dX9_fewestThatHold_6 (fun _ => ?_)
  refine J_bdS (fun s7 => ?_)
  refine J_iconst hX dX9_fewestThatHold_7 k_i1 ?_
  refine J_istore_n hX dX9_fewestThatHold_8 (Nat.le_of_ble_eq_true rfl) (lv' := [(0, .ref (jad G (nm 0))), (1, .int v1), (2, .int 1)]) rfl ?_
  refine J_keep [0, 1, 2] (lv' := [(0, .ref (jad G (nm 0))), (1, .int v1), (2, .int 1)]) rfl ?_
  refine J_lp (pc := 9) (s0 := (1, s7)) (fun (s : (Int32 × jS)) => [(0, .ref (jad G (nm 0))), (1, .int v1), (2, .int (s.1))]) (fun (s : (Int32 × jS)) => s.2) ?_
  intro KK9 hN9 hQ9 z9
  obtain ⟨v2_9, σ_9⟩ := z9
  show J X 9 [(0, .ref (jad G (nm 0))), (1, .int v1), (2, .int v2_9)] [] σ_9 (f_X9_fewestThatHold_L9 nm v1 (v2_9, σ_9)) KK9
  unfold f_X9_fewestThatHold_L9
  refine J_iload_n hX dX9_fewestThatHold_9 rfl ?_
  refine J_iload_n hX dX9_fewestThatHold_10 rfl ?_
  refine J_icmp_gt hX dX9_fewestThatHold_11 (tgt := 46) rfl (fun _ => ?_) (fun _ => ?_)
  · refine hQ9 _ _ _ _ _ ?_
    exact J_keep [0, 1] rfl (hJ46 v1 σ_9)
  · refine J_iload_n hX dX9_fewestThatHold_14 rfl ?_
    refine J_sipush hX dX9_fewestThatHold_15 ks_1024 ?_
    refine J_icmp_ge hX dX9_fewestThatHold_18 (tgt := 46) rfl (fun _ => ?_) (fun _ => ?_)
    · refine hQ9 _ _ _ _ _ ?_
      exact J_keep [0, 1] rfl (hJ46 v1 σ_9)
    · refine J_iload_n hX dX9_fewestThatHold_21 rfl ?_
      refine J_iload_n hX dX9_fewestThatHold_22 rfl ?_
      refine J_iconst hX dX9_fewestThatHold_23 k_im1 ?_
      refine J_ixor hX dX9_fewestThatHold_24 ?_
      refine J_iand hX dX9_fewestThatHold_25 ?_
      refine J_if_ne hX dX9_fewestThatHold_26 (tgt := 40) rfl (fun _ => ?_) (fun _ => ?_)
      · refine J_iinc hX dX9_fewestThatHold_40 rfl (congrArg (_ + ·) k_i1) (Nat.le_of_ble_eq_true rfl) (lv' := [(0, .ref (jad G (nm 0))), (1, .int v1), (2, .int (v2_9 + 1))]) rfl ?_
        refine J_goto hX dX9_fewestThatHold_43 (tgt := 9) rfl ?_
        exact J_keep [0, 1, 2] rfl (hN9 (v2_9 + 1, σ_9))
      · refine J_aload_n hX dX9_fewestThatHold_29 rfl ?_
        refine J_getr hX hE 0 4 rfl rfl fl_X9_27 dX9_fewestThatHold_30 ?_
        refine J_iload_n hX dX9_fewestThatHold_33 rfl ?_
        refine J_aload_n hX dX9_fewestThatHold_34 rfl ?_
        refine J_iload_n hX dX9_fewestThatHold_35 rfl ?_
        refine J_cVP hX hE 0 (C_X9_leastByLowest hG hE v2_9 σ_9) mw_X9_leastByLowest ml_X9_78 rfl rfl rfl ⟨Nat.le_of_ble_eq_true rfl, Nat.le_of_ble_eq_true rfl⟩ rfl rfl (Nat.le_of_ble_eq_true rfl) dX9_fewestThatHold_36 (fun q8 => ?_)
        refine J_iast hX hE 8 rfl dX9_fewestThatHold_39 (fun _ => ?_)
        refine J_bdS (fun s9 => ?_)
        refine J_iinc hX dX9_fewestThatHold_40 rfl (congrArg (_ + ·) k_i1) (Nat.le_of_ble_eq_true rfl) (lv' := [(0, .ref (jad G (nm 0))), (1, .int v1), (2, .int (v2_9 + 1))]) rfl ?_
        refine J_goto hX dX9_fewestThatHold_43 (tgt := 9) rfl ?_
        exact J_keep [0, 1, 2] rfl (hN9 (v2_9 + 1, s9))
theorem mw_X9_fewestThatHold : jMV Y_X9_fewestThatHold 1 := ⟨⟨tw_tb (List.mem_of_getElem? (i := 871) (by decide +kernel)) (by decide +kernel), tw_pv (List.mem_of_getElem? (i := 19) (by decide +kernel)) (by decide +kernel), tw_tb (List.mem_of_getElem? (i := 10) (by decide +kernel)) (by decide +kernel), tw_tb (List.mem_of_getElem? (i := 872) (by decide +kernel)) (by decide +kernel)⟩, ⟨rfl, rfl⟩, by decide +kernel, by decide +kernel, by decide +kernel⟩
