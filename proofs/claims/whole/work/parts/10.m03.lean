-- X3_endClause
noncomputable def f_X3_endClause_J47 (nm : Nat → Nat) (σ : jS) : Option jS :=
  (f_X3_fail nm 1 (g_i σ (nm 0) 1) σ).bind (fun s3 =>
    some s3)
noncomputable def f_X3_endClause (nm : Nat → Nat) (σ : jS) : Option jS :=
  (f_X3_skipBlanks nm σ).bind (fun s1 =>
    (f_X4_size (jn nm [1, 2]) 400 s1).bind (fun q2 =>
      if q2 ≤ (g_i s1 (nm 0) 1) then
        f_X3_endClause_J47 nm s1
      else
        (f_X4_at (jn nm [1, 2]) 400 (g_i s1 (nm 0) 1) s1).bind (fun q4 =>
          if q4 = 59 then
            bd (s_i s1 (nm 0) 1 ((g_i s1 (nm 0) 1) + 1)) (fun s5 =>
              some s5)
          else
            f_X3_endClause_J47 nm s1)))
abbrev Y_X3_endClause : jY := (yX3_endClause, cX3_endClause, 1, none, { frames := 2, cells := 0, slots := 0, locals := 41 })
theorem C_X3_endClause {l : Launch} {G : jG} {nm : Nat → Nat} (hG : jWL G) (hE : jE G nm LS_X3) (σ : jS) : jC r_V l G Y_X3_endClause [.ref (jad G (nm 0))] σ (f_X3_endClause nm σ) := by
  refine jw_met hG pn_X3 (Nat.le_of_ble_eq_true rfl) ⟨rfl, rfl⟩ ?_
  intro X hX hM
  have hX : jB X l G cX3_endClause RX3 1 { frames := 2, cells := 0, slots := 0, locals := 41 } := hX
  have hM : jM X (none) := hM
  show J X 0 [(0, .ref (jad G (nm 0)))] [] σ (f_X3_endClause nm σ) (jk r_V X)
  have hJ47 : ∀ (σ : jS), J X 47 [(0, .ref (jad G (nm 0)))] [] σ (f_X3_endClause_J47 nm σ) (jk r_V X) := by
    intro σ
    unfold f_X3_endClause_J47
    refine J_aload_n hX dX3_endClause_47 rfl ?_
    refine J_iconst hX dX3_endClause_48 k_i1 ?_
    refine J_aload_n hX dX3_endClause_49 rfl ?_
    refine J_geti hX hE 0 1 rfl rfl fl_X3_19 dX3_endClause_50 ?_
    refine J_cVV hX hE 0 (C_X3_fail hG hE 1 (g_i σ (nm 0) 1) σ) mw_X3_fail ml_X3_28 rfl rfl rfl ⟨Nat.le_of_ble_eq_true rfl, Nat.le_of_ble_eq_true rfl⟩ rfl rfl (Nat.le_of_ble_eq_true rfl) dX3_endClause_53 (fun s6 => ?_)
    exact J_vret hX hM dX3_endClause_56
  unfold f_X3_endClause
  refine J_aload_n hX dX3_endClause_0 rfl ?_
  refine J_cVV hX hE 0 (C_X3_skipBlanks hG hE σ) mw_X3_skipBlanks ml_X3_35 rfl rfl rfl ⟨Nat.le_of_ble_eq_true rfl, Nat.le_of_ble_eq_true rfl⟩ rfl rfl (Nat.le_of_ble_eq_true rfl) dX3_endClause_1 (fun s7 => ?_)
  refine J_aload_n hX dX3_endClause_4 rfl ?_
  refine J_geti hX hE 0 1 rfl rfl fl_X3_19 dX3_endClause_5 ?_
  refine J_aload_n hX dX3_endClause_8 rfl ?_
  refine J_getr hX hE 0 0 rfl rfl fl_X3_15 dX3_endClause_9 ?_
  refine J_cVP hX hE 1 (C_X4_size hG (hE.sb [1, 2] sb_59) s7) mw_X4_size ml_X3_42 rfl rfl rfl ⟨Nat.le_of_ble_eq_true rfl, Nat.le_of_ble_eq_true rfl⟩ rfl rfl (Nat.le_of_ble_eq_true rfl) dX3_endClause_12 (fun q8 => ?_)
  refine J_icmp_ge hX dX3_endClause_15 (tgt := 47) rfl (fun _ => ?_) (fun _ => ?_)
  · exact J_keep [0] rfl (hJ47 s7)
  · refine J_aload_n hX dX3_endClause_18 rfl ?_
    refine J_getr hX hE 0 0 rfl rfl fl_X3_15 dX3_endClause_19 ?_
    refine J_aload_n hX dX3_endClause_22 rfl ?_
    refine J_geti hX hE 0 1 rfl rfl fl_X3_19 dX3_endClause_23 ?_
    refine J_cVP hX hE 1 (C_X4_at hG (hE.sb [1, 2] sb_59) (g_i s7 (nm 0) 1) s7) mw_X4_at ml_X3_48 rfl rfl rfl ⟨Nat.le_of_ble_eq_true rfl, Nat.le_of_ble_eq_true rfl⟩ rfl rfl (Nat.le_of_ble_eq_true rfl) dX3_endClause_26 (fun q9 => ?_)
    refine J_bipush hX dX3_endClause_29 kb_59 ?_
    refine J_icmp_ne hX dX3_endClause_31 (tgt := 47) rfl (fun _ => ?_) (fun _ => ?_)
    · exact J_keep [0] rfl (hJ47 s7)
    · refine J_aload_n hX dX3_endClause_34 rfl ?_
      refine J_dup hX dX3_endClause_35 rfl ?_
      refine J_geti hX hE 0 1 rfl rfl fl_X3_19 dX3_endClause_36 ?_
      refine J_iconst hX dX3_endClause_39 k_i1 ?_
      refine J_iadd hX dX3_endClause_40 ?_
      refine J_puti hX hE 0 1 rfl rfl fp_X3_19 dX3_endClause_41 ?_
      refine J_bdS (fun s10 => ?_)
      refine J_goto hX dX3_endClause_44 (tgt := 56) rfl ?_
      exact J_vret hX hM dX3_endClause_56
theorem mw_X3_endClause : jMV Y_X3_endClause 0 := ⟨⟨tw_tb (List.mem_of_getElem? (i := 537) (by decide +kernel)) (by decide +kernel), tw_tb (List.mem_of_getElem? (i := 538) (by decide +kernel)) (by decide +kernel), tw_tb (List.mem_of_getElem? (i := 7) (by decide +kernel)) (by decide +kernel), tw_tb (List.mem_of_getElem? (i := 539) (by decide +kernel)) (by decide +kernel)⟩, ⟨rfl, rfl⟩, by decide +kernel, by decide +kernel, by decide +kernel⟩
-- X4_copy
noncomputable def f_X4_copy_L7 (nm : Nat → Nat) (n0 : Nat) (n1 : Nat) (s : (Int32 × jS)) : Option ((Int32 × jS) ⊕ jS) :=
  match s with
  | (v2, σ) =>
    if (g_i σ (nm 2) 1) ≤ v2 then
      some (.inr σ)
    else
      gd (vp_in v2 n1) (
        (f_X4_put (jn nm [0, 1]) n0 (g_i σ (nm 3) v2.toNatClampNeg) σ).bind (fun s2 =>
          some (.inl (v2 + 1, s2))))
noncomputable def f_X4_copy (nm : Nat → Nat) (n0 : Nat) (n1 : Nat) (σ : jS) : Option jS :=
  bd (s_i σ (nm 0) 1 0) (fun s1 =>
    (lp (f_X4_copy_L7 nm n0 n1) fu (0, s1)).bind (fun s3 =>
      some s3))
abbrev Y_X4_copy : jY := (yX4_copy, cX4_copy, 3, none, { frames := 1, cells := 0, slots := 0, locals := 21 })
theorem C_X4_copy {l : Launch} {G : jG} {nm : Nat → Nat} {n0 : Nat} {n1 : Nat} (hG : jWL G) (hE : jE G nm (LS_X4_X4 n0 n1)) (σ : jS) : jC r_V l G Y_X4_copy [.ref (jad G (nm 0)), .ref (jad G (nm 2))] σ (f_X4_copy nm n0 n1 σ) := by
  refine jw_met hG pn_X4 (Nat.le_of_ble_eq_true rfl) ⟨rfl, rfl⟩ ?_
  intro X hX hM
  have hX : jB X l G cX4_copy RX4 3 { frames := 1, cells := 0, slots := 0, locals := 21 } := hX
  have hM : jM X (none) := hM
  show J X 0 [(0, .ref (jad G (nm 0))), (1, .ref (jad G (nm 2)))] [] σ (f_X4_copy nm n0 n1 σ) (jk r_V X)
  unfold f_X4_copy
  refine J_aload_n hX dX4_copy_0 rfl ?_
  refine J_iconst hX dX4_copy_1 k_i0 ?_
  refine J_puti hX hE 0 1 rfl rfl fp_X4_21 dX4_copy_2 ?_
  refine J_bdS (fun s4 => ?_)
  refine J_iconst hX dX4_copy_5 k_i0 ?_
  refine J_istore_n hX dX4_copy_6 (Nat.le_of_ble_eq_true rfl) (lv' := [(0, .ref (jad G (nm 0))), (1, .ref (jad G (nm 2))), (2, .int 0)]) rfl ?_
  refine J_keep [0, 1, 2] (lv' := [(0, .ref (jad G (nm 0))), (1, .ref (jad G (nm 2))), (2, .int 0)]) rfl ?_
  refine J_lp (pc := 7) (s0 := (0, s4)) (fun (s : (Int32 × jS)) => [(0, .ref (jad G (nm 0))), (1, .ref (jad G (nm 2))), (2, .int (s.1))]) (fun (s : (Int32 × jS)) => s.2) ?_
  intro KK7 hN7 hQ7 z7
  obtain ⟨v2_7, σ_7⟩ := z7
  show J X 7 [(0, .ref (jad G (nm 0))), (1, .ref (jad G (nm 2))), (2, .int v2_7)] [] σ_7 (f_X4_copy_L7 nm n0 n1 (v2_7, σ_7)) KK7
  unfold f_X4_copy_L7
  refine J_iload_n hX dX4_copy_7 rfl ?_
  refine J_aload_n hX dX4_copy_8 rfl ?_
  refine J_geti hX hE 2 1 rfl rfl fl_X4_21 dX4_copy_9 ?_
  refine J_icmp_ge hX dX4_copy_12 (tgt := 31) rfl (fun _ => ?_) (fun _ => ?_)
  · refine hQ7 _ _ _ _ _ ?_
    exact J_vret hX hM dX4_copy_31
  · refine J_aload_n hX dX4_copy_15 rfl ?_
    refine J_aload_n hX dX4_copy_16 rfl ?_
    refine J_getr hX hE 2 0 rfl rfl fl_X4_15 dX4_copy_17 ?_
    refine J_iload_n hX dX4_copy_20 rfl ?_
    refine J_iald hX hE 3 rfl dX4_copy_21 (fun _ => ?_)
    refine J_cVV hX hE 0 (C_X4_put hG (hE.sb [0, 1] (sb_62 n0 n1)) (g_i σ_7 (nm 3) v2_7.toNatClampNeg) σ_7) mw_X4_put ml_X4_25 rfl rfl rfl ⟨Nat.le_of_ble_eq_true rfl, Nat.le_of_ble_eq_true rfl⟩ rfl rfl (Nat.le_of_ble_eq_true rfl) dX4_copy_22 (fun s5 => ?_)
    refine J_iinc hX dX4_copy_25 rfl (congrArg (_ + ·) k_i1) (Nat.le_of_ble_eq_true rfl) (lv' := [(0, .ref (jad G (nm 0))), (1, .ref (jad G (nm 2))), (2, .int (v2_7 + 1))]) rfl ?_
    refine J_goto hX dX4_copy_28 (tgt := 7) rfl ?_
    exact J_keep [0, 1, 2] rfl (hN7 (v2_7 + 1, s5))
theorem mw_X4_copy : jMV Y_X4_copy 1 := ⟨⟨tw_tb (List.mem_of_getElem? (i := 560) (by decide +kernel)) (by decide +kernel), tw_tb (List.mem_of_getElem? (i := 561) (by decide +kernel)) (by decide +kernel), tw_tb (List.mem_of_getElem? (i := 2) (by decide +kernel)) (by decide +kernel), tw_tb (List.mem_of_getElem? (i := 562) (by decide +kernel)) (by decide +kernel)⟩, ⟨rfl, rfl⟩, by decide +kernel, by decide +kernel, by decide +kernel⟩
-- X5_readMonth
noncomputable def f_X5_readMonth_L16 (nm : Nat → Nat) (n0 : Nat) (s : (Int32 × jS)) : Option ((Int32 × jS) ⊕ jS) :=
  match s with
  | (v2, σ) =>
    if 400 ≤ v2 then
      some (.inr σ)
    else
      (f_X3_hasMore (jn nm [29, 1, 2]) σ).bind (fun x => match x with
      | (q3, s4) =>
        if q3 = 0 then
          some (.inr s4)
        else
          (f_X5_readOnlyWord (jn nm [0, 1, 2, 3, 4, 5, 6, 7, 8, 9, 10, 11, 12, 13, 14, 15, 16, 17, 18, 19, 20, 21, 22, 23, 24, 25, 26, 27, 28, 29, 27, 28]) 30 6 s4).bind (fun s5 =>
            (f_X3_readNumber (jn nm [29, 1, 2]) 0 9 s5).bind (fun x => match x with
            | (q6, s7) =>
              (f_X4_put (jn nm [27, 28]) 30 q6 s7).bind (fun s8 =>
                (f_X3_endClause (jn nm [29, 1, 2]) s8).bind (fun s9 =>
                  some (.inl (v2 + 1, s9)))))))
noncomputable def f_X5_readMonth_J73 (nm : Nat → Nat) (n0 : Nat) (σ : jS) : Option (Int32 × jS) :=
  (f_X4_empty (jn nm [1, 2]) 400 σ).bind (fun s11 =>
    (f_X3_hasFault (jn nm [29, 1, 2]) s11).bind (fun q12 =>
      if q12 = 0 then
        (f_X4_copy (jn nm [30, 31, 27, 28]) n0 30 s11).bind (fun s13 =>
          (f_X4_size (jn nm [30, 31]) n0 s13).bind (fun q14 =>
            some (q14, s13)))
      else
        some ((-10) - (g_i s11 (nm 29) 4), s11)))
noncomputable def f_X5_readMonth (nm : Nat → Nat) (n0 : Nat) (σ : jS) : Option (Int32 × jS) :=
  (f_X4_empty (jn nm [27, 28]) 30 σ).bind (fun s1 =>
    (f_X3_start (jn nm [29, 1, 2]) s1).bind (fun s2 =>
      (lp (f_X5_readMonth_L16 nm n0) fu (0, s2)).bind (fun s10 =>
        f_X5_readMonth_J73 nm n0 s10)))
abbrev Y_X5_readMonth : jY := (yX5_readMonth, cX5_readMonth, 3, some .int, { frames := 6, cells := 0, slots := 0, locals := 129 })
theorem C_X5_readMonth {l : Launch} {G : jG} {nm : Nat → Nat} {n0 : Nat} (hG : jWL G) (hE : jE G nm (LS_X5_X4 n0)) (σ : jS) : jC r_I l G Y_X5_readMonth [.ref (jad G (nm 0)), .ref (jad G (nm 30))] σ (f_X5_readMonth nm n0 σ) := by
  refine jw_met hG pn_X5 (Nat.le_of_ble_eq_true rfl) ⟨rfl, rfl⟩ ?_
  intro X hX hM
  have hX : jB X l G cX5_readMonth RX5 3 { frames := 6, cells := 0, slots := 0, locals := 129 } := hX
  have hM : jM X (some .int) := hM
  show J X 0 [(0, .ref (jad G (nm 0))), (1, .ref (jad G (nm 30)))] [] σ (f_X5_readMonth nm n0 σ) (jk r_I X)
  have hJ73 : ∀ (σ : jS), J X 73 [(0, .ref (jad G (nm 0))), (1, .ref (jad G (nm 30)))] [] σ (f_X5_readMonth_J73 nm n0 σ) (jk r_I X) := by
    intro σ
    unfold f_X5_readMonth_J73
    refine J_aload_n hX dX5_readMonth_73 rfl ?_
    refine J_getr hX hE 0 0 rfl rfl fl_X5_34 dX5_readMonth_74 ?_
    refine J_cVV hX hE 1 (C_X4_empty hG (hE.sb [1, 2] (sb_65 n0)) σ) mw_X4_empty ml_X5_63 rfl rfl rfl ⟨Nat.le_of_ble_eq_true rfl, Nat.le_of_ble_eq_true rfl⟩ rfl rfl (Nat.le_of_ble_eq_true rfl) dX5_readMonth_77 (fun s15 => ?_)
    refine J_aload_n hX dX5_readMonth_80 rfl ?_
    refine J_getr hX hE 0 1 rfl rfl fl_X5_42 dX5_readMonth_81 ?_
    refine J_cVP hX hE 29 (C_X3_hasFault hG (hE.sb [29, 1, 2] (sb_60 n0)) s15) mw_X3_hasFault ml_X5_64 rfl rfl rfl ⟨Nat.le_of_ble_eq_true rfl, Nat.le_of_ble_eq_true rfl⟩ rfl rfl (Nat.le_of_ble_eq_true rfl) dX5_readMonth_84 (fun q16 => ?_)
    refine J_if_eq hX dX5_readMonth_87 (tgt := 101) rfl (fun _ => ?_) (fun _ => ?_)
    · refine J_aload_n hX dX5_readMonth_101 rfl ?_
      refine J_aload_n hX dX5_readMonth_102 rfl ?_
      refine J_getr hX hE 0 4 rfl rfl fl_X5_30 dX5_readMonth_103 ?_
      refine J_cVV hX hE 30 (C_X4_copy hG (hE.sb [30, 31, 27, 28] (sb_66 n0)) s15) mw_X4_copy ml_X5_187 rfl rfl rfl ⟨Nat.le_of_ble_eq_true rfl, Nat.le_of_ble_eq_true rfl⟩ rfl rfl (Nat.le_of_ble_eq_true rfl) dX5_readMonth_106 (fun s17 => ?_)
      refine J_aload_n hX dX5_readMonth_109 rfl ?_
      refine J_cVP hX hE 30 (C_X4_size hG (hE.sb [30, 31] (sb_61 n0)) s17) mw_X4_size ml_X5_189 rfl rfl rfl ⟨Nat.le_of_ble_eq_true rfl, Nat.le_of_ble_eq_true rfl⟩ rfl rfl (Nat.le_of_ble_eq_true rfl) dX5_readMonth_110 (fun q18 => ?_)
      exact J_iret hX hM dX5_readMonth_113
    · refine J_bipush hX dX5_readMonth_90 kb_m10 ?_
      refine J_aload_n hX dX5_readMonth_92 rfl ?_
      refine J_getr hX hE 0 1 rfl rfl fl_X5_42 dX5_readMonth_93 ?_
      refine J_geti hX hE 29 4 rfl rfl fl_X5_67 dX5_readMonth_96 ?_
      refine J_isub hX dX5_readMonth_99 ?_
      exact J_iret hX hM dX5_readMonth_100
  unfold f_X5_readMonth
  refine J_aload_n hX dX5_readMonth_0 rfl ?_
  refine J_getr hX hE 0 4 rfl rfl fl_X5_30 dX5_readMonth_1 ?_
  refine J_cVV hX hE 27 (C_X4_empty hG (hE.sb [27, 28] (sb_63 n0)) σ) mw_X4_empty ml_X5_63 rfl rfl rfl ⟨Nat.le_of_ble_eq_true rfl, Nat.le_of_ble_eq_true rfl⟩ rfl rfl (Nat.le_of_ble_eq_true rfl) dX5_readMonth_4 (fun s19 => ?_)
  refine J_aload_n hX dX5_readMonth_7 rfl ?_
  refine J_getr hX hE 0 1 rfl rfl fl_X5_42 dX5_readMonth_8 ?_
  refine J_cVV hX hE 29 (C_X3_start hG (hE.sb [29, 1, 2] (sb_60 n0)) s19) mw_X3_start ml_X5_53 rfl rfl rfl ⟨Nat.le_of_ble_eq_true rfl, Nat.le_of_ble_eq_true rfl⟩ rfl rfl (Nat.le_of_ble_eq_true rfl) dX5_readMonth_11 (fun s20 => ?_)
  refine J_iconst hX dX5_readMonth_14 k_i0 ?_
  refine J_istore_n hX dX5_readMonth_15 (Nat.le_of_ble_eq_true rfl) (lv' := [(0, .ref (jad G (nm 0))), (1, .ref (jad G (nm 30))), (2, .int 0)]) rfl ?_
  refine J_keep [0, 1, 2] (lv' := [(0, .ref (jad G (nm 0))), (1, .ref (jad G (nm 30))), (2, .int 0)]) rfl ?_
  refine J_lp (pc := 16) (s0 := (0, s20)) (fun (s : (Int32 × jS)) => [(0, .ref (jad G (nm 0))), (1, .ref (jad G (nm 30))), (2, .int (s.1))]) (fun (s : (Int32 × jS)) => s.2) ?_
  intro KK16 hN16 hQ16 z16
  obtain ⟨v2_16, σ_16⟩ := z16
  show J X 16 [(0, .ref (jad G (nm 0))), (1, .ref (jad G (nm 30))), (2, .int v2_16)] [] σ_16 (f_X5_readMonth_L16 nm n0 (v2_16, σ_16)) KK16
  unfold f_X5_readMonth_L16
  refine J_iload_n hX dX5_readMonth_16 rfl ?_
  refine J_sipush hX dX5_readMonth_17 ks_400 ?_
  refine J_icmp_ge hX dX5_readMonth_20 (tgt := 73) rfl (fun _ => ?_) (fun _ => ?_)
  · refine hQ16 _ _ _ _ _ ?_
    exact J_keep [0, 1] rfl (hJ73 σ_16)
  · refine J_aload_n hX dX5_readMonth_23 rfl ?_
    refine J_getr hX hE 0 1 rfl rfl fl_X5_42 dX5_readMonth_24 ?_
    refine J_cVI hX hE 29 (C_X3_hasMore hG (hE.sb [29, 1, 2] (sb_60 n0)) σ_16) mw_X3_hasMore ml_X5_56 rfl rfl rfl ⟨Nat.le_of_ble_eq_true rfl, Nat.le_of_ble_eq_true rfl⟩ rfl rfl (Nat.le_of_ble_eq_true rfl) dX5_readMonth_27 (fun q21 s22 => ?_)
    refine J_if_eq hX dX5_readMonth_30 (tgt := 73) rfl (fun _ => ?_) (fun _ => ?_)
    · refine hQ16 _ _ _ _ _ ?_
      exact J_keep [0, 1] rfl (hJ73 s22)
    · refine J_aload_n hX dX5_readMonth_33 rfl ?_
      refine J_ldcS hX 6 rfl dX5_readMonth_34 ?_
      refine J_aload_n hX dX5_readMonth_36 rfl ?_
      refine J_getr hX hE 0 4 rfl rfl fl_X5_30 dX5_readMonth_37 ?_
      refine J_cVV hX hE 0 (C_X5_readOnlyWord hG (hE.sb [0, 1, 2, 3, 4, 5, 6, 7, 8, 9, 10, 11, 12, 13, 14, 15, 16, 17, 18, 19, 20, 21, 22, 23, 24, 25, 26, 27, 28, 29, 27, 28] (sb_64 n0)) 6 s22) mw_X5_readOnlyWord ml_X5_168 rfl rfl rfl ⟨Nat.le_of_ble_eq_true rfl, Nat.le_of_ble_eq_true rfl⟩ rfl rfl (Nat.le_of_ble_eq_true rfl) dX5_readMonth_40 (fun s23 => ?_)
      refine J_aload_n hX dX5_readMonth_43 rfl ?_
      refine J_getr hX hE 0 4 rfl rfl fl_X5_30 dX5_readMonth_44 ?_
      refine J_aload_n hX dX5_readMonth_47 rfl ?_
      refine J_getr hX hE 0 1 rfl rfl fl_X5_42 dX5_readMonth_48 ?_
      refine J_iconst hX dX5_readMonth_51 k_i0 ?_
      refine J_bipush hX dX5_readMonth_52 kb_9 ?_
      refine J_cVI hX hE 29 (C_X3_readNumber hG (hE.sb [29, 1, 2] (sb_60 n0)) 0 9 s23) mw_X3_readNumber ml_X5_123 rfl rfl rfl ⟨Nat.le_of_ble_eq_true rfl, Nat.le_of_ble_eq_true rfl⟩ rfl rfl (Nat.le_of_ble_eq_true rfl) dX5_readMonth_54 (fun q24 s25 => ?_)
      refine J_cVV hX hE 27 (C_X4_put hG (hE.sb [27, 28] (sb_63 n0)) q24 s25) mw_X4_put ml_X5_126 rfl rfl rfl ⟨Nat.le_of_ble_eq_true rfl, Nat.le_of_ble_eq_true rfl⟩ rfl rfl (Nat.le_of_ble_eq_true rfl) dX5_readMonth_57 (fun s26 => ?_)
      refine J_aload_n hX dX5_readMonth_60 rfl ?_
      refine J_getr hX hE 0 1 rfl rfl fl_X5_42 dX5_readMonth_61 ?_
      refine J_cVV hX hE 29 (C_X3_endClause hG (hE.sb [29, 1, 2] (sb_60 n0)) s26) mw_X3_endClause ml_X5_138 rfl rfl rfl ⟨Nat.le_of_ble_eq_true rfl, Nat.le_of_ble_eq_true rfl⟩ rfl rfl (Nat.le_of_ble_eq_true rfl) dX5_readMonth_64 (fun s27 => ?_)
      refine J_iinc hX dX5_readMonth_67 rfl (congrArg (_ + ·) k_i1) (Nat.le_of_ble_eq_true rfl) (lv' := [(0, .ref (jad G (nm 0))), (1, .ref (jad G (nm 30))), (2, .int (v2_16 + 1))]) rfl ?_
      refine J_goto hX dX5_readMonth_70 (tgt := 16) rfl ?_
      exact J_keep [0, 1, 2] rfl (hN16 (v2_16 + 1, s27))
theorem mw_X5_readMonth : jMV Y_X5_readMonth 1 := ⟨⟨tw_tb (List.mem_of_getElem? (i := 620) (by decide +kernel)) (by decide +kernel), tw_tb (List.mem_of_getElem? (i := 621) (by decide +kernel)) (by decide +kernel), tw_tb (List.mem_of_getElem? (i := 4) (by decide +kernel)) (by decide +kernel), tw_tb (List.mem_of_getElem? (i := 622) (by decide +kernel)) (by decide +kernel)⟩, ⟨rfl, rfl⟩, by decide +kernel, by decide +kernel, by decide +kernel⟩
-- X10_month
noncomputable def f_X10_month (nm : Nat → Nat) (σ : jS) : Option (Int32 × jS) :=
  (f_X4_size (jn nm [1, 2]) 400 σ).bind (fun q1 =>
    if q1 ≤ 200 then
      (f_X5_readMonth (jn nm [3, 1, 2, 4, 5, 6, 7, 8, 9, 10, 11, 12, 13, 14, 15, 16, 17, 18, 19, 20, 21, 22, 23, 24, 25, 26, 27, 28, 29, 30, 55, 56]) 30 σ).bind (fun x => match x with
      | (q2, s3) =>
        some (q2, s3))
    else
      some ((-1003), σ))
abbrev Y_X10_month : jY := (yX10_month, cX10_month, 1, some .int, { frames := 7, cells := 0, slots := 0, locals := 151 })
theorem C_X10_month {l : Launch} {G : jG} {nm : Nat → Nat} (hG : jWL G) (hE : jE G nm LS_X10) (σ : jS) : jC r_I l G Y_X10_month [.ref (jad G (nm 0))] σ (f_X10_month nm σ) := by
  refine jw_met hG pn_X10 (Nat.le_of_ble_eq_true rfl) ⟨rfl, rfl⟩ ?_
  intro X hX hM
  have hX : jB X l G cX10_month RX10 1 { frames := 7, cells := 0, slots := 0, locals := 151 } := hX
  have hM : jM X (some .int) := hM
  show J X 0 [(0, .ref (jad G (nm 0)))] [] σ (f_X10_month nm σ) (jk r_I X)
  unfold f_X10_month
  refine J_aload_n hX dX10_month_0 rfl ?_
  refine J_getr hX hE 0 0 rfl rfl fl_X10_14 dX10_month_1 ?_
  refine J_cVP hX hE 1 (C_X4_size hG (hE.sb [1, 2] sb_32) σ) mw_X4_size ml_X10_106 rfl rfl rfl ⟨Nat.le_of_ble_eq_true rfl, Nat.le_of_ble_eq_true rfl⟩ rfl rfl (Nat.le_of_ble_eq_true rfl) dX10_month_4 (fun q4 => ?_)
  refine J_sipush hX dX10_month_7 ks_200 ?_
  refine J_icmp_le hX dX10_month_10 (tgt := 17) rfl (fun _ => ?_) (fun _ => ?_)
  · refine J_aload_n hX dX10_month_17 rfl ?_
    refine J_getr hX hE 0 1 rfl rfl fl_X10_23 dX10_month_18 ?_
    refine J_aload_n hX dX10_month_21 rfl ?_
    refine J_getr hX hE 0 4 rfl rfl fl_X10_41 dX10_month_22 ?_
    refine J_cVI hX hE 3 (C_X5_readMonth hG (hE.sb [3, 1, 2, 4, 5, 6, 7, 8, 9, 10, 11, 12, 13, 14, 15, 16, 17, 18, 19, 20, 21, 22, 23, 24, 25, 26, 27, 28, 29, 30, 55, 56] sb_67) σ) mw_X5_readMonth ml_X10_132 rfl rfl rfl ⟨Nat.le_of_ble_eq_true rfl, Nat.le_of_ble_eq_true rfl⟩ rfl rfl (Nat.le_of_ble_eq_true rfl) dX10_month_25 (fun q5 s6 => ?_)
    exact J_iret hX hM dX10_month_28
  · refine J_sipush hX dX10_month_13 ks_m1003 ?_
    exact J_iret hX hM dX10_month_16
theorem mw_X10_month : jMV Y_X10_month 0 := ⟨⟨tw_tb (List.mem_of_getElem? (i := 616) (by decide +kernel)) (by decide +kernel), tw_tb (List.mem_of_getElem? (i := 617) (by decide +kernel)) (by decide +kernel), tw_tb (List.mem_of_getElem? (i := 1) (by decide +kernel)) (by decide +kernel), tw_tb (List.mem_of_getElem? (i := 618) (by decide +kernel)) (by decide +kernel)⟩, ⟨rfl, rfl⟩, by decide +kernel, by decide +kernel, by decide +kernel⟩
-- X7_empty
noncomputable def f_X7_empty (nm : Nat → Nat) (σ : jS) : Option jS :=
  (f_X4_empty (jn nm [1, 2]) 30 σ).bind (fun s1 =>
    (f_X4_empty (jn nm [3, 4]) 30 s1).bind (fun s2 =>
      (f_X4_empty (jn nm [5, 6]) 30 s2).bind (fun s3 =>
        some s3)))
abbrev Y_X7_empty : jY := (yX7_empty, cX7_empty, 1, none, { frames := 1, cells := 0, slots := 0, locals := 20 })
theorem C_X7_empty {l : Launch} {G : jG} {nm : Nat → Nat} (hG : jWL G) (hE : jE G nm LS_X7) (σ : jS) : jC r_V l G Y_X7_empty [.ref (jad G (nm 0))] σ (f_X7_empty nm σ) := by
  refine jw_met hG pn_X7 (Nat.le_of_ble_eq_true rfl) ⟨rfl, rfl⟩ ?_
  intro X hX hM
  have hX : jB X l G cX7_empty RX7 1 { frames := 1, cells := 0, slots := 0, locals := 20 } := hX
  have hM : jM X (none) := hM
  show J X 0 [(0, .ref (jad G (nm 0)))] [] σ (f_X7_empty nm σ) (jk r_V X)
  unfold f_X7_empty
  refine J_aload_n hX dX7_empty_0 rfl ?_
  refine J_getr hX hE 0 0 rfl rfl fl_X7_14 dX7_empty_1 ?_
  refine J_cVV hX hE 1 (C_X4_empty hG (hE.sb [1, 2] sb_44) σ) mw_X4_empty ml_X7_33 rfl rfl rfl ⟨Nat.le_of_ble_eq_true rfl, Nat.le_of_ble_eq_true rfl⟩ rfl rfl (Nat.le_of_ble_eq_true rfl) dX7_empty_4 (fun s4 => ?_)
  refine J_aload_n hX dX7_empty_7 rfl ?_
  refine J_getr hX hE 0 1 rfl rfl fl_X7_20 dX7_empty_8 ?_
  refine J_cVV hX hE 3 (C_X4_empty hG (hE.sb [3, 4] sb_68) s4) mw_X4_empty ml_X7_33 rfl rfl rfl ⟨Nat.le_of_ble_eq_true rfl, Nat.le_of_ble_eq_true rfl⟩ rfl rfl (Nat.le_of_ble_eq_true rfl) dX7_empty_11 (fun s5 => ?_)
  refine J_aload_n hX dX7_empty_14 rfl ?_
  refine J_getr hX hE 0 2 rfl rfl fl_X7_23 dX7_empty_15 ?_
  refine J_cVV hX hE 5 (C_X4_empty hG (hE.sb [5, 6] sb_69) s5) mw_X4_empty ml_X7_33 rfl rfl rfl ⟨Nat.le_of_ble_eq_true rfl, Nat.le_of_ble_eq_true rfl⟩ rfl rfl (Nat.le_of_ble_eq_true rfl) dX7_empty_18 (fun s6 => ?_)
  exact J_vret hX hM dX7_empty_21
theorem mw_X7_empty : jMV Y_X7_empty 0 := ⟨⟨tw_tb (List.mem_of_getElem? (i := 570) (by decide +kernel)) (by decide +kernel), tw_tb (List.mem_of_getElem? (i := 571) (by decide +kernel)) (by decide +kernel), tw_tb (List.mem_of_getElem? (i := 6) (by decide +kernel)) (by decide +kernel), tw_tb (List.mem_of_getElem? (i := 572) (by decide +kernel)) (by decide +kernel)⟩, ⟨rfl, rfl⟩, by decide +kernel, by decide +kernel, by decide +kernel⟩
-- X6_singers
noncomputable def f_X6_singers (nm : Nat → Nat) (σ : jS) : Option Int32 :=
  (f_X4_size (jn nm [9, 10]) 8 σ).bind (fun q1 =>
    some q1)
abbrev Y_X6_singers : jY := (yX6_singers, cX6_singers, 1, some .int, { frames := 1, cells := 0, slots := 0, locals := 20 })
theorem C_X6_singers {l : Launch} {G : jG} {nm : Nat → Nat} (hG : jWL G) (hE : jE G nm LS_X6) (σ : jS) : jC (r_P σ) l G Y_X6_singers [.ref (jad G (nm 0))] σ (f_X6_singers nm σ) := by
  refine jw_met hG pn_X6 (Nat.le_of_ble_eq_true rfl) ⟨rfl, rfl⟩ ?_
  intro X hX hM
  have hX : jB X l G cX6_singers RX6 1 { frames := 1, cells := 0, slots := 0, locals := 20 } := hX
  have hM : jM X (some .int) := hM
  show J X 0 [(0, .ref (jad G (nm 0)))] [] σ (f_X6_singers nm σ) (jk (r_P σ) X)
  unfold f_X6_singers
  refine J_aload_n hX dX6_singers_0 rfl ?_
  refine J_getr hX hE 0 4 rfl rfl fl_X6_29 dX6_singers_1 ?_
  refine J_cVP hX hE 9 (C_X4_size hG (hE.sb [9, 10] sb_70) σ) mw_X4_size ml_X6_41 rfl rfl rfl ⟨Nat.le_of_ble_eq_true rfl, Nat.le_of_ble_eq_true rfl⟩ rfl rfl (Nat.le_of_ble_eq_true rfl) dX6_singers_4 (fun q2 => ?_)
  exact J_iretP hX hM dX6_singers_7
theorem mw_X6_singers : jMV Y_X6_singers 0 := ⟨⟨tw_tb (List.mem_of_getElem? (i := 602) (by decide +kernel)) (by decide +kernel), tw_tb (List.mem_of_getElem? (i := 603) (by decide +kernel)) (by decide +kernel), tw_tb (List.mem_of_getElem? (i := 5) (by decide +kernel)) (by decide +kernel), tw_tb (List.mem_of_getElem? (i := 604) (by decide +kernel)) (by decide +kernel)⟩, ⟨rfl, rfl⟩, by decide +kernel, by decide +kernel, by decide +kernel⟩
-- X7_put
noncomputable def f_X7_put (nm : Nat → Nat) (v1 : Int32) (v2 : Int32) (v3 : Int32) (σ : jS) : Option jS :=
  (f_X4_put (jn nm [1, 2]) 30 v1 σ).bind (fun s1 =>
    (f_X4_put (jn nm [3, 4]) 30 v2 s1).bind (fun s2 =>
      (f_X4_put (jn nm [5, 6]) 30 v3 s2).bind (fun s3 =>
        some s3)))
abbrev Y_X7_put : jY := (yX7_put, cX7_put, 4, none, { frames := 1, cells := 0, slots := 0, locals := 21 })
theorem C_X7_put {l : Launch} {G : jG} {nm : Nat → Nat} (hG : jWL G) (hE : jE G nm LS_X7) (v1 : Int32) (v2 : Int32) (v3 : Int32) (σ : jS) : jC r_V l G Y_X7_put [.ref (jad G (nm 0)), .int v1, .int v2, .int v3] σ (f_X7_put nm v1 v2 v3 σ) := by
  refine jw_met hG pn_X7 (Nat.le_of_ble_eq_true rfl) ⟨rfl, rfl⟩ ?_
  intro X hX hM
  have hX : jB X l G cX7_put RX7 4 { frames := 1, cells := 0, slots := 0, locals := 21 } := hX
  have hM : jM X (none) := hM
  show J X 0 [(0, .ref (jad G (nm 0))), (1, .int v1), (2, .int v2), (3, .int v3)] [] σ (f_X7_put nm v1 v2 v3 σ) (jk r_V X)
  unfold f_X7_put
  refine J_aload_n hX dX7_put_0 rfl ?_
  refine J_getr hX hE 0 0 rfl rfl fl_X7_14 dX7_put_1 ?_
  refine J_iload_n hX dX7_put_4 rfl ?_
  refine J_cVV hX hE 1 (C_X4_put hG (hE.sb [1, 2] sb_44) v1 σ) mw_X4_put ml_X7_30 rfl rfl rfl ⟨Nat.le_of_ble_eq_true rfl, Nat.le_of_ble_eq_true rfl⟩ rfl rfl (Nat.le_of_ble_eq_true rfl) dX7_put_5 (fun s4 => ?_)
  refine J_aload_n hX dX7_put_8 rfl ?_
  refine J_getr hX hE 0 1 rfl rfl fl_X7_20 dX7_put_9 ?_
  refine J_iload_n hX dX7_put_12 rfl ?_
  refine J_cVV hX hE 3 (C_X4_put hG (hE.sb [3, 4] sb_68) v2 s4) mw_X4_put ml_X7_30 rfl rfl rfl ⟨Nat.le_of_ble_eq_true rfl, Nat.le_of_ble_eq_true rfl⟩ rfl rfl (Nat.le_of_ble_eq_true rfl) dX7_put_13 (fun s5 => ?_)
  refine J_aload_n hX dX7_put_16 rfl ?_
  refine J_getr hX hE 0 2 rfl rfl fl_X7_23 dX7_put_17 ?_
  refine J_iload_n hX dX7_put_20 rfl ?_
  refine J_cVV hX hE 5 (C_X4_put hG (hE.sb [5, 6] sb_69) v3 s5) mw_X4_put ml_X7_30 rfl rfl rfl ⟨Nat.le_of_ble_eq_true rfl, Nat.le_of_ble_eq_true rfl⟩ rfl rfl (Nat.le_of_ble_eq_true rfl) dX7_put_21 (fun s6 => ?_)
  exact J_vret hX hM dX7_put_24
theorem mw_X7_put : jMV Y_X7_put 3 := ⟨⟨tw_tb (List.mem_of_getElem? (i := 606) (by decide +kernel)) (by decide +kernel), tw_tb (List.mem_of_getElem? (i := 607) (by decide +kernel)) (by decide +kernel), tw_tb (List.mem_of_getElem? (i := 6) (by decide +kernel)) (by decide +kernel), tw_tb (List.mem_of_getElem? (i := 608) (by decide +kernel)) (by decide +kernel)⟩, ⟨rfl, rfl⟩, by decide +kernel, by decide +kernel, by decide +kernel⟩
-- X5_readSong
noncomputable def f_X5_readSong_J58 (nm : Nat → Nat) (v3 : Int32) (σ : jS) : Option jS :=
  (f_X6_singers (jn nm [30, 31, 32, 33, 34, 35, 36, 37, 38, 39, 40, 41, 42, 43, 44, 45, 46]) σ).bind (fun q8 =>
    (f_X3_readNumber (jn nm [29, 1, 2]) 0 (q8 - 1) σ).bind (fun x => match x with
    | (q9, s10) =>
      (f_X4_at (jn nm [43, 44]) 8 q9 s10).bind (fun q11 =>
        (f_X4_at (jn nm [45, 46]) 8 q9 s10).bind (fun q12 =>
          (f_X3_readNumber (jn nm [29, 1, 2]) q11 q12 s10).bind (fun x => match x with
          | (q13, s14) =>
            (f_X3_endClause (jn nm [29, 1, 2]) s14).bind (fun s15 =>
              (f_X7_put (jn nm [20, 21, 22, 23, 24, 25, 26]) v3 q9 q13 s15).bind (fun s16 =>
                some s16)))))))
noncomputable def f_X5_readSong (nm : Nat → Nat) (σ : jS) : Option jS :=
  (f_X5_readOnlyWord (jn nm [0, 1, 2, 3, 4, 5, 6, 7, 8, 9, 10, 11, 12, 13, 14, 15, 16, 17, 18, 19, 20, 21, 22, 23, 24, 25, 26, 27, 28, 29, 21, 22]) 30 5 σ).bind (fun s1 =>
    (f_X7_count (jn nm [20, 21, 22, 23, 24, 25, 26]) s1).bind (fun q2 =>
      (f_X4_at (jn nm [21, 22]) 30 (q2 - 1) s1).bind (fun q3 =>
        (f_X3_readNumber (jn nm [29, 1, 2]) 0 599 s1).bind (fun x => match x with
        | (q4, s5) =>
          (if q3 ≤ q4 then
            some s5
          else
            (f_X3_failAtNumber (jn nm [29, 1, 2]) 4 s5).bind (fun s6 =>
              some s6)).bind (fun s7 =>
            f_X5_readSong_J58 nm q4 s7)))))
abbrev Y_X5_readSong : jY := (yX5_readSong, cX5_readSong, 6, none, { frames := 6, cells := 0, slots := 0, locals := 129 })
theorem C_X5_readSong {l : Launch} {G : jG} {nm : Nat → Nat} (hG : jWL G) (hE : jE G nm LS_X5_X6) (σ : jS) : jC r_V l G Y_X5_readSong [.ref (jad G (nm 0)), .ref (jad G (nm 30))] σ (f_X5_readSong nm σ) := by
  refine jw_met hG pn_X5 (Nat.le_of_ble_eq_true rfl) ⟨rfl, rfl⟩ ?_
  intro X hX hM
  have hX : jB X l G cX5_readSong RX5 6 { frames := 6, cells := 0, slots := 0, locals := 129 } := hX
  have hM : jM X (none) := hM
  show J X 0 [(0, .ref (jad G (nm 0))), (1, .ref (jad G (nm 30)))] [] σ (f_X5_readSong nm σ) (jk r_V X)
  have hJ58 : ∀ (v3 : Int32) (σ : jS), J X 58 [(0, .ref (jad G (nm 0))), (1, .ref (jad G (nm 30))), (3, .int v3)] [] σ (f_X5_readSong_J58 nm v3 σ) (jk r_V X) := by
    intro v3 σ
    unfold f_X5_readSong_J58
    refine J_aload_n hX dX5_readSong_58 rfl ?_
    refine J_getr hX hE 0 1 rfl rfl fl_X5_42 dX5_readSong_59 ?_
    refine J_iconst hX dX5_readSong_62 k_i0 ?_
    refine J_aload_n hX dX5_readSong_63 rfl ?_
    refine J_cVP hX hE 30 (C_X6_singers hG (hE.sb [30, 31, 32, 33, 34, 35, 36, 37, 38, 39, 40, 41, 42, 43, 44, 45, 46] sb_75) σ) mw_X6_singers ml_X5_179 rfl rfl rfl ⟨Nat.le_of_ble_eq_true rfl, Nat.le_of_ble_eq_true rfl⟩ rfl rfl (Nat.le_of_ble_eq_true rfl) dX5_readSong_64 (fun q17 => ?_)
    refine J_iconst hX dX5_readSong_67 k_i1 ?_
    refine J_isub hX dX5_readSong_68 ?_
    refine J_cVI hX hE 29 (C_X3_readNumber hG (hE.sb [29, 1, 2] sb_74) 0 (q17 - 1) σ) mw_X3_readNumber ml_X5_123 rfl rfl rfl ⟨Nat.le_of_ble_eq_true rfl, Nat.le_of_ble_eq_true rfl⟩ rfl rfl (Nat.le_of_ble_eq_true rfl) dX5_readSong_69 (fun q18 s19 => ?_)
    refine J_istore hX dX5_readSong_72 (Nat.le_of_ble_eq_true rfl) (lv' := [(0, .ref (jad G (nm 0))), (1, .ref (jad G (nm 30))), (3, .int v3), (4, .int q18)]) rfl ?_
    refine J_aload_n hX dX5_readSong_74 rfl ?_
    refine J_getr hX hE 0 1 rfl rfl fl_X5_42 dX5_readSong_75 ?_
    refine J_aload_n hX dX5_readSong_78 rfl ?_
    refine J_getr hX hE 30 6 rfl rfl fl_X5_147 dX5_readSong_79 ?_
    refine J_iload hX dX5_readSong_82 rfl ?_
    refine J_cVP hX hE 43 (C_X4_at hG (hE.sb [43, 44] sb_76) q18 s19) mw_X4_at ml_X5_172 rfl rfl rfl ⟨Nat.le_of_ble_eq_true rfl, Nat.le_of_ble_eq_true rfl⟩ rfl rfl (Nat.le_of_ble_eq_true rfl) dX5_readSong_84 (fun q20 => ?_)
    refine J_aload_n hX dX5_readSong_87 rfl ?_
    refine J_getr hX hE 30 7 rfl rfl fl_X5_150 dX5_readSong_88 ?_
    refine J_iload hX dX5_readSong_91 rfl ?_
    refine J_cVP hX hE 45 (C_X4_at hG (hE.sb [45, 46] sb_77) q18 s19) mw_X4_at ml_X5_172 rfl rfl rfl ⟨Nat.le_of_ble_eq_true rfl, Nat.le_of_ble_eq_true rfl⟩ rfl rfl (Nat.le_of_ble_eq_true rfl) dX5_readSong_93 (fun q21 => ?_)
    refine J_cVI hX hE 29 (C_X3_readNumber hG (hE.sb [29, 1, 2] sb_74) q20 q21 s19) mw_X3_readNumber ml_X5_123 rfl rfl rfl ⟨Nat.le_of_ble_eq_true rfl, Nat.le_of_ble_eq_true rfl⟩ rfl rfl (Nat.le_of_ble_eq_true rfl) dX5_readSong_96 (fun q22 s23 => ?_)
    refine J_istore hX dX5_readSong_99 (Nat.le_of_ble_eq_true rfl) (lv' := [(0, .ref (jad G (nm 0))), (1, .ref (jad G (nm 30))), (3, .int v3), (4, .int q18), (5, .int q22)]) rfl ?_
    refine J_aload_n hX dX5_readSong_101 rfl ?_
    refine J_getr hX hE 0 1 rfl rfl fl_X5_42 dX5_readSong_102 ?_
    refine J_cVV hX hE 29 (C_X3_endClause hG (hE.sb [29, 1, 2] sb_74) s23) mw_X3_endClause ml_X5_138 rfl rfl rfl ⟨Nat.le_of_ble_eq_true rfl, Nat.le_of_ble_eq_true rfl⟩ rfl rfl (Nat.le_of_ble_eq_true rfl) dX5_readSong_105 (fun s24 => ?_)
    refine J_aload_n hX dX5_readSong_108 rfl ?_
    refine J_getr hX hE 0 3 rfl rfl fl_X5_21 dX5_readSong_109 ?_
    refine J_iload_n hX dX5_readSong_112 rfl ?_
    refine J_iload hX dX5_readSong_113 rfl ?_
    refine J_iload hX dX5_readSong_115 rfl ?_
    refine J_cVV hX hE 20 (C_X7_put hG (hE.sb [20, 21, 22, 23, 24, 25, 26] sb_72) v3 q18 q22 s24) mw_X7_put ml_X5_182 rfl rfl rfl ⟨Nat.le_of_ble_eq_true rfl, Nat.le_of_ble_eq_true rfl⟩ rfl rfl (Nat.le_of_ble_eq_true rfl) dX5_readSong_117 (fun s25 => ?_)
    exact J_vret hX hM dX5_readSong_120
  unfold f_X5_readSong
  refine J_aload_n hX dX5_readSong_0 rfl ?_
  refine J_ldcS hX 5 rfl dX5_readSong_1 ?_
  refine J_aload_n hX dX5_readSong_3 rfl ?_
  refine J_getr hX hE 0 3 rfl rfl fl_X5_21 dX5_readSong_4 ?_
  refine J_getr hX hE 20 0 rfl rfl fl_X5_165 dX5_readSong_7 ?_
  refine J_cVV hX hE 0 (C_X5_readOnlyWord hG (hE.sb [0, 1, 2, 3, 4, 5, 6, 7, 8, 9, 10, 11, 12, 13, 14, 15, 16, 17, 18, 19, 20, 21, 22, 23, 24, 25, 26, 27, 28, 29, 21, 22] sb_71) 5 σ) mw_X5_readOnlyWord ml_X5_168 rfl rfl rfl ⟨Nat.le_of_ble_eq_true rfl, Nat.le_of_ble_eq_true rfl⟩ rfl rfl (Nat.le_of_ble_eq_true rfl) dX5_readSong_10 (fun s26 => ?_)
  refine J_aload_n hX dX5_readSong_13 rfl ?_
  refine J_getr hX hE 0 3 rfl rfl fl_X5_21 dX5_readSong_14 ?_
  refine J_getr hX hE 20 0 rfl rfl fl_X5_165 dX5_readSong_17 ?_
  refine J_aload_n hX dX5_readSong_20 rfl ?_
  refine J_getr hX hE 0 3 rfl rfl fl_X5_21 dX5_readSong_21 ?_
  refine J_cVP hX hE 20 (C_X7_count hG (hE.sb [20, 21, 22, 23, 24, 25, 26] sb_72) s26) mw_X7_count ml_X5_160 rfl rfl rfl ⟨Nat.le_of_ble_eq_true rfl, Nat.le_of_ble_eq_true rfl⟩ rfl rfl (Nat.le_of_ble_eq_true rfl) dX5_readSong_24 (fun q27 => ?_)
  refine J_iconst hX dX5_readSong_27 k_i1 ?_
  refine J_isub hX dX5_readSong_28 ?_
  refine J_cVP hX hE 21 (C_X4_at hG (hE.sb [21, 22] sb_73) (q27 - 1) s26) mw_X4_at ml_X5_172 rfl rfl rfl ⟨Nat.le_of_ble_eq_true rfl, Nat.le_of_ble_eq_true rfl⟩ rfl rfl (Nat.le_of_ble_eq_true rfl) dX5_readSong_29 (fun q28 => ?_)
  refine J_istore_n hX dX5_readSong_32 (Nat.le_of_ble_eq_true rfl) (lv' := [(0, .ref (jad G (nm 0))), (1, .ref (jad G (nm 30))), (2, .int q28)]) rfl ?_
  refine J_aload_n hX dX5_readSong_33 rfl ?_
  refine J_getr hX hE 0 1 rfl rfl fl_X5_42 dX5_readSong_34 ?_
  refine J_iconst hX dX5_readSong_37 k_i0 ?_
  refine J_sipush hX dX5_readSong_38 ks_599 ?_
  refine J_cVI hX hE 29 (C_X3_readNumber hG (hE.sb [29, 1, 2] sb_74) 0 599 s26) mw_X3_readNumber ml_X5_123 rfl rfl rfl ⟨Nat.le_of_ble_eq_true rfl, Nat.le_of_ble_eq_true rfl⟩ rfl rfl (Nat.le_of_ble_eq_true rfl) dX5_readSong_41 (fun q29 s30 => ?_)
  refine J_istore_n hX dX5_readSong_44 (Nat.le_of_ble_eq_true rfl) (lv' := [(0, .ref (jad G (nm 0))), (1, .ref (jad G (nm 30))), (2, .int q28), (3, .int q29)]) rfl ?_
  refine J_iload_n hX dX5_readSong_45 rfl ?_
  refine J_iload_n hX dX5_readSong_46 rfl ?_
  refine J_blk ?_
  intro KB47 hB47
  refine J_icmp_ge hX dX5_readSong_47 (tgt := 58) rfl (fun _ => ?_) (fun _ => ?_)
  · refine hB47 _ _ _ _ _ ?_
    exact J_keep [0, 1, 3] rfl (hJ58 q29 s30)
  · refine J_aload_n hX dX5_readSong_50 rfl ?_
    refine J_getr hX hE 0 1 rfl rfl fl_X5_42 dX5_readSong_51 ?_
    refine J_iconst hX dX5_readSong_54 k_i4 ?_
    refine J_cVV hX hE 29 (C_X3_failAtNumber hG (hE.sb [29, 1, 2] sb_74) 4 s30) mw_X3_failAtNumber ml_X5_176 rfl rfl rfl ⟨Nat.le_of_ble_eq_true rfl, Nat.le_of_ble_eq_true rfl⟩ rfl rfl (Nat.le_of_ble_eq_true rfl) dX5_readSong_55 (fun s31 => ?_)
    refine hB47 _ _ _ _ _ ?_
    exact J_keep [0, 1, 3] rfl (hJ58 q29 s31)
theorem mw_X5_readSong : jMV Y_X5_readSong 1 := ⟨⟨tw_tb (List.mem_of_getElem? (i := 587) (by decide +kernel)) (by decide +kernel), tw_pv (List.mem_of_getElem? (i := 6) (by decide +kernel)) (by decide +kernel), tw_tb (List.mem_of_getElem? (i := 4) (by decide +kernel)) (by decide +kernel), tw_tb (List.mem_of_getElem? (i := 588) (by decide +kernel)) (by decide +kernel)⟩, ⟨rfl, rfl⟩, by decide +kernel, by decide +kernel, by decide +kernel⟩
-- X7_copy
noncomputable def f_X7_copy (nm : Nat → Nat) (σ : jS) : Option jS :=
  (f_X4_copy (jn nm [1, 2, 8, 9]) 30 30 σ).bind (fun s1 =>
    (f_X4_copy (jn nm [3, 4, 10, 11]) 30 30 s1).bind (fun s2 =>
      (f_X4_copy (jn nm [5, 6, 12, 13]) 30 30 s2).bind (fun s3 =>
        some s3)))
abbrev Y_X7_copy : jY := (yX7_copy, cX7_copy, 2, none, { frames := 2, cells := 0, slots := 0, locals := 43 })
theorem C_X7_copy {l : Launch} {G : jG} {nm : Nat → Nat} (hG : jWL G) (hE : jE G nm LS_X7_X7) (σ : jS) : jC r_V l G Y_X7_copy [.ref (jad G (nm 0)), .ref (jad G (nm 7))] σ (f_X7_copy nm σ) := by
  refine jw_met hG pn_X7 (Nat.le_of_ble_eq_true rfl) ⟨rfl, rfl⟩ ?_
  intro X hX hM
  have hX : jB X l G cX7_copy RX7 2 { frames := 2, cells := 0, slots := 0, locals := 43 } := hX
  have hM : jM X (none) := hM
  show J X 0 [(0, .ref (jad G (nm 0))), (1, .ref (jad G (nm 7)))] [] σ (f_X7_copy nm σ) (jk r_V X)
  unfold f_X7_copy
  refine J_aload_n hX dX7_copy_0 rfl ?_
  refine J_getr hX hE 0 0 rfl rfl fl_X7_14 dX7_copy_1 ?_
  refine J_aload_n hX dX7_copy_4 rfl ?_
  refine J_getr hX hE 7 0 rfl rfl fl_X7_14 dX7_copy_5 ?_
  refine J_cVV hX hE 1 (C_X4_copy hG (hE.sb [1, 2, 8, 9] sb_78) σ) mw_X4_copy ml_X7_36 rfl rfl rfl ⟨Nat.le_of_ble_eq_true rfl, Nat.le_of_ble_eq_true rfl⟩ rfl rfl (Nat.le_of_ble_eq_true rfl) dX7_copy_8 (fun s4 => ?_)
  refine J_aload_n hX dX7_copy_11 rfl ?_
  refine J_getr hX hE 0 1 rfl rfl fl_X7_20 dX7_copy_12 ?_
  refine J_aload_n hX dX7_copy_15 rfl ?_
  refine J_getr hX hE 7 1 rfl rfl fl_X7_20 dX7_copy_16 ?_
  refine J_cVV hX hE 3 (C_X4_copy hG (hE.sb [3, 4, 10, 11] sb_79) s4) mw_X4_copy ml_X7_36 rfl rfl rfl ⟨Nat.le_of_ble_eq_true rfl, Nat.le_of_ble_eq_true rfl⟩ rfl rfl (Nat.le_of_ble_eq_true rfl) dX7_copy_19 (fun s5 => ?_)
  refine J_aload_n hX dX7_copy_22 rfl ?_
  refine J_getr hX hE 0 2 rfl rfl fl_X7_23 dX7_copy_23 ?_
  refine J_aload_n hX dX7_copy_26 rfl ?_
  refine J_getr hX hE 7 2 rfl rfl fl_X7_23 dX7_copy_27 ?_
  refine J_cVV hX hE 5 (C_X4_copy hG (hE.sb [5, 6, 12, 13] sb_80) s5) mw_X4_copy ml_X7_36 rfl rfl rfl ⟨Nat.le_of_ble_eq_true rfl, Nat.le_of_ble_eq_true rfl⟩ rfl rfl (Nat.le_of_ble_eq_true rfl) dX7_copy_30 (fun s6 => ?_)
  exact J_vret hX hM dX7_copy_33
theorem mw_X7_copy : jMV Y_X7_copy 1 := ⟨⟨tw_tb (List.mem_of_getElem? (i := 611) (by decide +kernel)) (by decide +kernel), tw_tb (List.mem_of_getElem? (i := 612) (by decide +kernel)) (by decide +kernel), tw_tb (List.mem_of_getElem? (i := 6) (by decide +kernel)) (by decide +kernel), tw_tb (List.mem_of_getElem? (i := 613) (by decide +kernel)) (by decide +kernel)⟩, ⟨rfl, rfl⟩, by decide +kernel, by decide +kernel, by decide +kernel⟩
-- X5_readNight
noncomputable def f_X5_readNight_L16 (nm : Nat → Nat) (s : (Int32 × jS)) : Option ((Int32 × jS) ⊕ jS) :=
  match s with
  | (v3, σ) =>
    if 400 ≤ v3 then
      some (.inr σ)
    else
      (f_X3_hasMore (jn nm [29, 1, 2]) σ).bind (fun x => match x with
      | (q3, s4) =>
        if q3 = 0 then
          some (.inr s4)
        else
          (f_X5_readSong (jn nm [0, 1, 2, 3, 4, 5, 6, 7, 8, 9, 10, 11, 12, 13, 14, 15, 16, 17, 18, 19, 20, 21, 22, 23, 24, 25, 26, 27, 28, 29, 37, 38, 39, 40, 41, 42, 43, 44, 45, 46, 47, 48, 49, 50, 51, 52, 53]) s4).bind (fun s5 =>
            some (.inl (v3 + 1, s5))))
noncomputable def f_X5_readNight_J44 (nm : Nat → Nat) (σ : jS) : Option (Int32 × jS) :=
  (f_X4_empty (jn nm [1, 2]) 400 σ).bind (fun s7 =>
    (f_X3_hasFault (jn nm [29, 1, 2]) s7).bind (fun q8 =>
      if q8 = 0 then
        (f_X7_copy (jn nm [30, 31, 32, 33, 34, 35, 36, 20, 21, 22, 23, 24, 25, 26]) s7).bind (fun s9 =>
          (f_X7_count (jn nm [30, 31, 32, 33, 34, 35, 36]) s9).bind (fun q10 =>
            some (q10, s9)))
      else
        some ((-10) - (g_i s7 (nm 29) 4), s7)))
noncomputable def f_X5_readNight (nm : Nat → Nat) (σ : jS) : Option (Int32 × jS) :=
  (f_X7_empty (jn nm [20, 21, 22, 23, 24, 25, 26]) σ).bind (fun s1 =>
    (f_X3_start (jn nm [29, 1, 2]) s1).bind (fun s2 =>
      (lp (f_X5_readNight_L16 nm) fu (0, s2)).bind (fun s6 =>
        f_X5_readNight_J44 nm s6)))
abbrev Y_X5_readNight : jY := (yX5_readNight, cX5_readNight, 4, some .int, { frames := 7, cells := 0, slots := 0, locals := 154 })
theorem C_X5_readNight {l : Launch} {G : jG} {nm : Nat → Nat} (hG : jWL G) (hE : jE G nm LS_X5_X7_X6) (σ : jS) : jC r_I l G Y_X5_readNight [.ref (jad G (nm 0)), .ref (jad G (nm 30)), .ref (jad G (nm 37))] σ (f_X5_readNight nm σ) := by
  refine jw_met hG pn_X5 (Nat.le_of_ble_eq_true rfl) ⟨rfl, rfl⟩ ?_
  intro X hX hM
  have hX : jB X l G cX5_readNight RX5 4 { frames := 7, cells := 0, slots := 0, locals := 154 } := hX
  have hM : jM X (some .int) := hM
  show J X 0 [(0, .ref (jad G (nm 0))), (1, .ref (jad G (nm 30))), (2, .ref (jad G (nm 37)))] [] σ (f_X5_readNight nm σ) (jk r_I X)
  have hJ44 : ∀ (σ : jS), J X 44 [(0, .ref (jad G (nm 0))), (1, .ref (jad G (nm 30)))] [] σ (f_X5_readNight_J44 nm σ) (jk r_I X) := by
    intro σ
    unfold f_X5_readNight_J44
    refine J_aload_n hX dX5_readNight_44 rfl ?_
    refine J_getr hX hE 0 0 rfl rfl fl_X5_34 dX5_readNight_45 ?_
    refine J_cVV hX hE 1 (C_X4_empty hG (hE.sb [1, 2] sb_84) σ) mw_X4_empty ml_X5_63 rfl rfl rfl ⟨Nat.le_of_ble_eq_true rfl, Nat.le_of_ble_eq_true rfl⟩ rfl rfl (Nat.le_of_ble_eq_true rfl) dX5_readNight_48 (fun s11 => ?_)
    refine J_aload_n hX dX5_readNight_51 rfl ?_
    refine J_getr hX hE 0 1 rfl rfl fl_X5_42 dX5_readNight_52 ?_
    refine J_cVP hX hE 29 (C_X3_hasFault hG (hE.sb [29, 1, 2] sb_82) s11) mw_X3_hasFault ml_X5_64 rfl rfl rfl ⟨Nat.le_of_ble_eq_true rfl, Nat.le_of_ble_eq_true rfl⟩ rfl rfl (Nat.le_of_ble_eq_true rfl) dX5_readNight_55 (fun q12 => ?_)
    refine J_if_eq hX dX5_readNight_58 (tgt := 72) rfl (fun _ => ?_) (fun _ => ?_)
    · refine J_aload_n hX dX5_readNight_72 rfl ?_
      refine J_aload_n hX dX5_readNight_73 rfl ?_
      refine J_getr hX hE 0 3 rfl rfl fl_X5_21 dX5_readNight_74 ?_
      refine J_cVV hX hE 30 (C_X7_copy hG (hE.sb [30, 31, 32, 33, 34, 35, 36, 20, 21, 22, 23, 24, 25, 26] sb_85) s11) mw_X7_copy ml_X5_157 rfl rfl rfl ⟨Nat.le_of_ble_eq_true rfl, Nat.le_of_ble_eq_true rfl⟩ rfl rfl (Nat.le_of_ble_eq_true rfl) dX5_readNight_77 (fun s13 => ?_)
      refine J_aload_n hX dX5_readNight_80 rfl ?_
      refine J_cVP hX hE 30 (C_X7_count hG (hE.sb [30, 31, 32, 33, 34, 35, 36] sb_86) s13) mw_X7_count ml_X5_160 rfl rfl rfl ⟨Nat.le_of_ble_eq_true rfl, Nat.le_of_ble_eq_true rfl⟩ rfl rfl (Nat.le_of_ble_eq_true rfl) dX5_readNight_81 (fun q14 => ?_)
      exact J_iret hX hM dX5_readNight_84
    · refine J_bipush hX dX5_readNight_61 kb_m10 ?_
      refine J_aload_n hX dX5_readNight_63 rfl ?_
      refine J_getr hX hE 0 1 rfl rfl fl_X5_42 dX5_readNight_64 ?_
      refine J_geti hX hE 29 4 rfl rfl fl_X5_67 dX5_readNight_67 ?_
      refine J_isub hX dX5_readNight_70 ?_
      exact J_iret hX hM dX5_readNight_71
  unfold f_X5_readNight
  refine J_aload_n hX dX5_readNight_0 rfl ?_
  refine J_getr hX hE 0 3 rfl rfl fl_X5_21 dX5_readNight_1 ?_
  refine J_cVV hX hE 20 (C_X7_empty hG (hE.sb [20, 21, 22, 23, 24, 25, 26] sb_81) σ) mw_X7_empty ml_X5_153 rfl rfl rfl ⟨Nat.le_of_ble_eq_true rfl, Nat.le_of_ble_eq_true rfl⟩ rfl rfl (Nat.le_of_ble_eq_true rfl) dX5_readNight_4 (fun s15 => ?_)
  refine J_aload_n hX dX5_readNight_7 rfl ?_
  refine J_getr hX hE 0 1 rfl rfl fl_X5_42 dX5_readNight_8 ?_
  refine J_cVV hX hE 29 (C_X3_start hG (hE.sb [29, 1, 2] sb_82) s15) mw_X3_start ml_X5_53 rfl rfl rfl ⟨Nat.le_of_ble_eq_true rfl, Nat.le_of_ble_eq_true rfl⟩ rfl rfl (Nat.le_of_ble_eq_true rfl) dX5_readNight_11 (fun s16 => ?_)
  refine J_iconst hX dX5_readNight_14 k_i0 ?_
  refine J_istore_n hX dX5_readNight_15 (Nat.le_of_ble_eq_true rfl) (lv' := [(0, .ref (jad G (nm 0))), (1, .ref (jad G (nm 30))), (2, .ref (jad G (nm 37))), (3, .int 0)]) rfl ?_
  refine J_keep [0, 1, 2, 3] (lv' := [(0, .ref (jad G (nm 0))), (1, .ref (jad G (nm 30))), (2, .ref (jad G (nm 37))), (3, .int 0)]) rfl ?_
  refine J_lp (pc := 16) (s0 := (0, s16)) (fun (s : (Int32 × jS)) => [(0, .ref (jad G (nm 0))), (1, .ref (jad G (nm 30))), (2, .ref (jad G (nm 37))), (3, .int (s.1))]) (fun (s : (Int32 × jS)) => s.2) ?_
  intro KK16 hN16 hQ16 z16
  obtain ⟨v3_16, σ_16⟩ := z16
  show J X 16 [(0, .ref (jad G (nm 0))), (1, .ref (jad G (nm 30))), (2, .ref (jad G (nm 37))), (3, .int v3_16)] [] σ_16 (f_X5_readNight_L16 nm (v3_16, σ_16)) KK16
  unfold f_X5_readNight_L16
  refine J_iload_n hX dX5_readNight_16 rfl ?_
  refine J_sipush hX dX5_readNight_17 ks_400 ?_
  refine J_icmp_ge hX dX5_readNight_20 (tgt := 44) rfl (fun _ => ?_) (fun _ => ?_)
  · refine hQ16 _ _ _ _ _ ?_
    exact J_keep [0, 1] rfl (hJ44 σ_16)
  · refine J_aload_n hX dX5_readNight_23 rfl ?_
    refine J_getr hX hE 0 1 rfl rfl fl_X5_42 dX5_readNight_24 ?_
    refine J_cVI hX hE 29 (C_X3_hasMore hG (hE.sb [29, 1, 2] sb_82) σ_16) mw_X3_hasMore ml_X5_56 rfl rfl rfl ⟨Nat.le_of_ble_eq_true rfl, Nat.le_of_ble_eq_true rfl⟩ rfl rfl (Nat.le_of_ble_eq_true rfl) dX5_readNight_27 (fun q17 s18 => ?_)
    refine J_if_eq hX dX5_readNight_30 (tgt := 44) rfl (fun _ => ?_) (fun _ => ?_)
    · refine hQ16 _ _ _ _ _ ?_
      exact J_keep [0, 1] rfl (hJ44 s18)
    · refine J_aload_n hX dX5_readNight_33 rfl ?_
      refine J_aload_n hX dX5_readNight_34 rfl ?_
      refine J_cVV hX hE 0 (C_X5_readSong hG (hE.sb [0, 1, 2, 3, 4, 5, 6, 7, 8, 9, 10, 11, 12, 13, 14, 15, 16, 17, 18, 19, 20, 21, 22, 23, 24, 25, 26, 27, 28, 29, 37, 38, 39, 40, 41, 42, 43, 44, 45, 46, 47, 48, 49, 50, 51, 52, 53] sb_83) s18) mw_X5_readSong ml_X5_154 rfl rfl rfl ⟨Nat.le_of_ble_eq_true rfl, Nat.le_of_ble_eq_true rfl⟩ rfl rfl (Nat.le_of_ble_eq_true rfl) dX5_readNight_35 (fun s19 => ?_)
      refine J_iinc hX dX5_readNight_38 rfl (congrArg (_ + ·) k_i1) (Nat.le_of_ble_eq_true rfl) (lv' := [(0, .ref (jad G (nm 0))), (1, .ref (jad G (nm 30))), (2, .ref (jad G (nm 37))), (3, .int (v3_16 + 1))]) rfl ?_
      refine J_goto hX dX5_readNight_41 (tgt := 16) rfl ?_
      exact J_keep [0, 1, 2, 3] rfl (hN16 (v3_16 + 1, s19))
theorem mw_X5_readNight : jMV Y_X5_readNight 2 := ⟨⟨tw_tb (List.mem_of_getElem? (i := 581) (by decide +kernel)) (by decide +kernel), tw_tb (List.mem_of_getElem? (i := 582) (by decide +kernel)) (by decide +kernel), tw_tb (List.mem_of_getElem? (i := 4) (by decide +kernel)) (by decide +kernel), tw_tb (List.mem_of_getElem? (i := 583) (by decide +kernel)) (by decide +kernel)⟩, ⟨rfl, rfl⟩, by decide +kernel, by decide +kernel, by decide +kernel⟩
-- X10_night
noncomputable def f_X10_night (nm : Nat → Nat) (σ : jS) : Option (Int32 × jS) :=
  (f_X5_readNight (jn nm [3, 1, 2, 4, 5, 6, 7, 8, 9, 10, 11, 12, 13, 14, 15, 16, 17, 18, 19, 20, 21, 22, 23, 24, 25, 26, 27, 28, 29, 30, 48, 49, 50, 51, 52, 53, 54, 31, 32, 33, 34, 35, 36, 37, 38, 39, 40, 41, 42, 43, 44, 45, 46, 47]) σ).bind (fun x => match x with
  | (q1, s2) =>
    some (q1, s2))
abbrev Y_X10_night : jY := (yX10_night, cX10_night, 1, some .int, { frames := 8, cells := 0, slots := 0, locals := 177 })
theorem C_X10_night {l : Launch} {G : jG} {nm : Nat → Nat} (hG : jWL G) (hE : jE G nm LS_X10) (σ : jS) : jC r_I l G Y_X10_night [.ref (jad G (nm 0))] σ (f_X10_night nm σ) := by
  refine jw_met hG pn_X10 (Nat.le_of_ble_eq_true rfl) ⟨rfl, rfl⟩ ?_
  intro X hX hM
  have hX : jB X l G cX10_night RX10 1 { frames := 8, cells := 0, slots := 0, locals := 177 } := hX
  have hM : jM X (some .int) := hM
  show J X 0 [(0, .ref (jad G (nm 0)))] [] σ (f_X10_night nm σ) (jk r_I X)
  unfold f_X10_night
  refine J_aload_n hX dX10_night_0 rfl ?_
  refine J_getr hX hE 0 1 rfl rfl fl_X10_23 dX10_night_1 ?_
  refine J_aload_n hX dX10_night_4 rfl ?_
  refine J_getr hX hE 0 3 rfl rfl fl_X10_37 dX10_night_5 ?_
  refine J_aload_n hX dX10_night_8 rfl ?_
  refine J_getr hX hE 0 2 rfl rfl fl_X10_30 dX10_night_9 ?_
  refine J_cVI hX hE 3 (C_X5_readNight hG (hE.sb [3, 1, 2, 4, 5, 6, 7, 8, 9, 10, 11, 12, 13, 14, 15, 16, 17, 18, 19, 20, 21, 22, 23, 24, 25, 26, 27, 28, 29, 30, 48, 49, 50, 51, 52, 53, 54, 31, 32, 33, 34, 35, 36, 37, 38, 39, 40, 41, 42, 43, 44, 45, 46, 47] sb_87) σ) mw_X5_readNight ml_X10_128 rfl rfl rfl ⟨Nat.le_of_ble_eq_true rfl, Nat.le_of_ble_eq_true rfl⟩ rfl rfl (Nat.le_of_ble_eq_true rfl) dX10_night_12 (fun q3 s4 => ?_)
  exact J_iret hX hM dX10_night_15
theorem mw_X10_night : jMV Y_X10_night 0 := ⟨⟨tw_tb (List.mem_of_getElem? (i := 577) (by decide +kernel)) (by decide +kernel), tw_tb (List.mem_of_getElem? (i := 578) (by decide +kernel)) (by decide +kernel), tw_tb (List.mem_of_getElem? (i := 1) (by decide +kernel)) (by decide +kernel), tw_tb (List.mem_of_getElem? (i := 579) (by decide +kernel)) (by decide +kernel)⟩, ⟨rfl, rfl⟩, by decide +kernel, by decide +kernel, by decide +kernel⟩
-- X6_empty
noncomputable def f_X6_empty (nm : Nat → Nat) (σ : jS) : Option jS :=
  (f_X4_empty (jn nm [1, 2]) 10 σ).bind (fun s1 =>
    (f_X4_empty (jn nm [3, 4]) 10 s1).bind (fun s2 =>
      (f_X4_empty (jn nm [5, 6]) 10 s2).bind (fun s3 =>
        (f_X4_empty (jn nm [7, 8]) 10 s3).bind (fun s4 =>
          (f_X4_empty (jn nm [9, 10]) 8 s4).bind (fun s5 =>
            (f_X4_empty (jn nm [11, 12]) 8 s5).bind (fun s6 =>
              (f_X4_empty (jn nm [13, 14]) 8 s6).bind (fun s7 =>
                (f_X4_empty (jn nm [15, 16]) 8 s7).bind (fun s8 =>
                  bd (s_i s8 (nm 0) 8 0) (fun s9 =>
                    bd (s_i s9 (nm 0) 9 0) (fun s10 =>
                      bd (s_i s10 (nm 0) 10 0) (fun s11 =>
                        some s11)))))))))))
abbrev Y_X6_empty : jY := (yX6_empty, cX6_empty, 1, none, { frames := 1, cells := 0, slots := 0, locals := 20 })
theorem C_X6_empty {l : Launch} {G : jG} {nm : Nat → Nat} (hG : jWL G) (hE : jE G nm LS_X6) (σ : jS) : jC r_V l G Y_X6_empty [.ref (jad G (nm 0))] σ (f_X6_empty nm σ) := by
  refine jw_met hG pn_X6 (Nat.le_of_ble_eq_true rfl) ⟨rfl, rfl⟩ ?_
  intro X hX hM
  have hX : jB X l G cX6_empty RX6 1 { frames := 1, cells := 0, slots := 0, locals := 20 } := hX
  have hM : jM X (none) := hM
  show J X 0 [(0, .ref (jad G (nm 0)))] [] σ (f_X6_empty nm σ) (jk r_V X)
  unfold f_X6_empty
  refine J_aload_n hX dX6_empty_0 rfl ?_
  refine J_getr hX hE 0 0 rfl rfl fl_X6_14 dX6_empty_1 ?_
  refine J_cVV hX hE 1 (C_X4_empty hG (hE.sb [1, 2] sb_0) σ) mw_X4_empty ml_X6_45 rfl rfl rfl ⟨Nat.le_of_ble_eq_true rfl, Nat.le_of_ble_eq_true rfl⟩ rfl rfl (Nat.le_of_ble_eq_true rfl) dX6_empty_4 (fun s12 => ?_)
  refine J_aload_n hX dX6_empty_7 rfl ?_
  refine J_getr hX hE 0 1 rfl rfl fl_X6_20 dX6_empty_8 ?_
  refine J_cVV hX hE 3 (C_X4_empty hG (hE.sb [3, 4] sb_88) s12) mw_X4_empty ml_X6_45 rfl rfl rfl ⟨Nat.le_of_ble_eq_true rfl, Nat.le_of_ble_eq_true rfl⟩ rfl rfl (Nat.le_of_ble_eq_true rfl) dX6_empty_11 (fun s13 => ?_)
  refine J_aload_n hX dX6_empty_14 rfl ?_
  refine J_getr hX hE 0 2 rfl rfl fl_X6_23 dX6_empty_15 ?_
  refine J_cVV hX hE 5 (C_X4_empty hG (hE.sb [5, 6] sb_89) s13) mw_X4_empty ml_X6_45 rfl rfl rfl ⟨Nat.le_of_ble_eq_true rfl, Nat.le_of_ble_eq_true rfl⟩ rfl rfl (Nat.le_of_ble_eq_true rfl) dX6_empty_18 (fun s14 => ?_)
  refine J_aload_n hX dX6_empty_21 rfl ?_
  refine J_getr hX hE 0 3 rfl rfl fl_X6_26 dX6_empty_22 ?_
  refine J_cVV hX hE 7 (C_X4_empty hG (hE.sb [7, 8] sb_90) s14) mw_X4_empty ml_X6_45 rfl rfl rfl ⟨Nat.le_of_ble_eq_true rfl, Nat.le_of_ble_eq_true rfl⟩ rfl rfl (Nat.le_of_ble_eq_true rfl) dX6_empty_25 (fun s15 => ?_)
  refine J_aload_n hX dX6_empty_28 rfl ?_
  refine J_getr hX hE 0 4 rfl rfl fl_X6_29 dX6_empty_29 ?_
  refine J_cVV hX hE 9 (C_X4_empty hG (hE.sb [9, 10] sb_70) s15) mw_X4_empty ml_X6_45 rfl rfl rfl ⟨Nat.le_of_ble_eq_true rfl, Nat.le_of_ble_eq_true rfl⟩ rfl rfl (Nat.le_of_ble_eq_true rfl) dX6_empty_32 (fun s16 => ?_)
  refine J_aload_n hX dX6_empty_35 rfl ?_
  refine J_getr hX hE 0 5 rfl rfl fl_X6_32 dX6_empty_36 ?_
  refine J_cVV hX hE 11 (C_X4_empty hG (hE.sb [11, 12] sb_91) s16) mw_X4_empty ml_X6_45 rfl rfl rfl ⟨Nat.le_of_ble_eq_true rfl, Nat.le_of_ble_eq_true rfl⟩ rfl rfl (Nat.le_of_ble_eq_true rfl) dX6_empty_39 (fun s17 => ?_)
  refine J_aload_n hX dX6_empty_42 rfl ?_
  refine J_getr hX hE 0 6 rfl rfl fl_X6_35 dX6_empty_43 ?_
  refine J_cVV hX hE 13 (C_X4_empty hG (hE.sb [13, 14] sb_92) s17) mw_X4_empty ml_X6_45 rfl rfl rfl ⟨Nat.le_of_ble_eq_true rfl, Nat.le_of_ble_eq_true rfl⟩ rfl rfl (Nat.le_of_ble_eq_true rfl) dX6_empty_46 (fun s18 => ?_)
  refine J_aload_n hX dX6_empty_49 rfl ?_
  refine J_getr hX hE 0 7 rfl rfl fl_X6_38 dX6_empty_50 ?_
  refine J_cVV hX hE 15 (C_X4_empty hG (hE.sb [15, 16] sb_93) s18) mw_X4_empty ml_X6_45 rfl rfl rfl ⟨Nat.le_of_ble_eq_true rfl, Nat.le_of_ble_eq_true rfl⟩ rfl rfl (Nat.le_of_ble_eq_true rfl) dX6_empty_53 (fun s19 => ?_)
  refine J_aload_n hX dX6_empty_56 rfl ?_
  refine J_iconst hX dX6_empty_57 k_i0 ?_
  refine J_puti hX hE 0 8 rfl rfl fp_X6_48 dX6_empty_58 ?_
  refine J_bdS (fun s20 => ?_)
  refine J_aload_n hX dX6_empty_61 rfl ?_
  refine J_iconst hX dX6_empty_62 k_i0 ?_
  refine J_puti hX hE 0 9 rfl rfl fp_X6_52 dX6_empty_63 ?_
  refine J_bdS (fun s21 => ?_)
  refine J_aload_n hX dX6_empty_66 rfl ?_
  refine J_iconst hX dX6_empty_67 k_i0 ?_
  refine J_puti hX hE 0 10 rfl rfl fp_X6_55 dX6_empty_68 ?_
  refine J_bdS (fun s22 => ?_)
  exact J_vret hX hM dX6_empty_71
theorem mw_X6_empty : jMV Y_X6_empty 0 := ⟨⟨tw_tb (List.mem_of_getElem? (i := 422) (by decide +kernel)) (by decide +kernel), tw_tb (List.mem_of_getElem? (i := 423) (by decide +kernel)) (by decide +kernel), tw_tb (List.mem_of_getElem? (i := 5) (by decide +kernel)) (by decide +kernel), tw_tb (List.mem_of_getElem? (i := 424) (by decide +kernel)) (by decide +kernel)⟩, ⟨rfl, rfl⟩, by decide +kernel, by decide +kernel, by decide +kernel⟩
-- X5_readLamp
noncomputable def f_X5_readLamp_J21 (nm : Nat → Nat) (σ : jS) : Option jS :=
  (f_X3_readNumber (jn nm [29, 1, 2]) 0 49 σ).bind (fun x => match x with
  | (q4, s5) =>
    (f_X4_put (jn nm [4, 5]) 10 q4 s5).bind (fun s6 =>
      (f_X3_readNumber (jn nm [29, 1, 2]) 0 63 s6).bind (fun x => match x with
      | (q7, s8) =>
        (f_X4_put (jn nm [6, 7]) 10 q7 s8).bind (fun s9 =>
          (f_X3_readNumber (jn nm [29, 1, 2]) 0 9 s9).bind (fun x => match x with
          | (q10, s11) =>
            (f_X4_put (jn nm [8, 9]) 10 q10 s11).bind (fun s12 =>
              (f_X3_readNumber (jn nm [29, 1, 2]) 0 5 s12).bind (fun x => match x with
              | (q13, s14) =>
                (f_X4_put (jn nm [10, 11]) 10 q13 s14).bind (fun s15 =>
                  (f_X3_endClause (jn nm [29, 1, 2]) s15).bind (fun s16 =>
                    some s16)))))))))
noncomputable def f_X5_readLamp (nm : Nat → Nat) (σ : jS) : Option jS :=
  (f_X4_isFull (jn nm [4, 5]) 10 σ).bind (fun q1 =>
    (if q1 = 0 then
      some σ
    else
      (f_X3_failAtWord (jn nm [29, 1, 2]) 3 σ).bind (fun s2 =>
        some s2)).bind (fun s3 =>
      f_X5_readLamp_J21 nm s3))
abbrev Y_X5_readLamp : jY := (yX5_readLamp, cX5_readLamp, 1, none, { frames := 3, cells := 0, slots := 0, locals := 67 })
theorem C_X5_readLamp {l : Launch} {G : jG} {nm : Nat → Nat} (hG : jWL G) (hE : jE G nm LS_X5) (σ : jS) : jC r_V l G Y_X5_readLamp [.ref (jad G (nm 0))] σ (f_X5_readLamp nm σ) := by
  refine jw_met hG pn_X5 (Nat.le_of_ble_eq_true rfl) ⟨rfl, rfl⟩ ?_
  intro X hX hM
  have hX : jB X l G cX5_readLamp RX5 1 { frames := 3, cells := 0, slots := 0, locals := 67 } := hX
  have hM : jM X (none) := hM
  show J X 0 [(0, .ref (jad G (nm 0)))] [] σ (f_X5_readLamp nm σ) (jk r_V X)
  have hJ21 : ∀ (σ : jS), J X 21 [(0, .ref (jad G (nm 0)))] [] σ (f_X5_readLamp_J21 nm σ) (jk r_V X) := by
    intro σ
    unfold f_X5_readLamp_J21
    refine J_aload_n hX dX5_readLamp_21 rfl ?_
    refine J_getr hX hE 0 2 rfl rfl fl_X5_12 dX5_readLamp_22 ?_
    refine J_getr hX hE 3 0 rfl rfl fl_X5_117 dX5_readLamp_25 ?_
    refine J_aload_n hX dX5_readLamp_28 rfl ?_
    refine J_getr hX hE 0 1 rfl rfl fl_X5_42 dX5_readLamp_29 ?_
    refine J_iconst hX dX5_readLamp_32 k_i0 ?_
    refine J_bipush hX dX5_readLamp_33 kb_49 ?_
    refine J_cVI hX hE 29 (C_X3_readNumber hG (hE.sb [29, 1, 2] sb_95) 0 49 σ) mw_X3_readNumber ml_X5_123 rfl rfl rfl ⟨Nat.le_of_ble_eq_true rfl, Nat.le_of_ble_eq_true rfl⟩ rfl rfl (Nat.le_of_ble_eq_true rfl) dX5_readLamp_35 (fun q17 s18 => ?_)
    refine J_cVV hX hE 4 (C_X4_put hG (hE.sb [4, 5] sb_94) q17 s18) mw_X4_put ml_X5_126 rfl rfl rfl ⟨Nat.le_of_ble_eq_true rfl, Nat.le_of_ble_eq_true rfl⟩ rfl rfl (Nat.le_of_ble_eq_true rfl) dX5_readLamp_38 (fun s19 => ?_)
    refine J_aload_n hX dX5_readLamp_41 rfl ?_
    refine J_getr hX hE 0 2 rfl rfl fl_X5_12 dX5_readLamp_42 ?_
    refine J_getr hX hE 3 1 rfl rfl fl_X5_129 dX5_readLamp_45 ?_
    refine J_aload_n hX dX5_readLamp_48 rfl ?_
    refine J_getr hX hE 0 1 rfl rfl fl_X5_42 dX5_readLamp_49 ?_
    refine J_iconst hX dX5_readLamp_52 k_i0 ?_
    refine J_bipush hX dX5_readLamp_53 kb_63 ?_
    refine J_cVI hX hE 29 (C_X3_readNumber hG (hE.sb [29, 1, 2] sb_95) 0 63 s19) mw_X3_readNumber ml_X5_123 rfl rfl rfl ⟨Nat.le_of_ble_eq_true rfl, Nat.le_of_ble_eq_true rfl⟩ rfl rfl (Nat.le_of_ble_eq_true rfl) dX5_readLamp_55 (fun q20 s21 => ?_)
    refine J_cVV hX hE 6 (C_X4_put hG (hE.sb [6, 7] sb_96) q20 s21) mw_X4_put ml_X5_126 rfl rfl rfl ⟨Nat.le_of_ble_eq_true rfl, Nat.le_of_ble_eq_true rfl⟩ rfl rfl (Nat.le_of_ble_eq_true rfl) dX5_readLamp_58 (fun s22 => ?_)
    refine J_aload_n hX dX5_readLamp_61 rfl ?_
    refine J_getr hX hE 0 2 rfl rfl fl_X5_12 dX5_readLamp_62 ?_
    refine J_getr hX hE 3 2 rfl rfl fl_X5_132 dX5_readLamp_65 ?_
    refine J_aload_n hX dX5_readLamp_68 rfl ?_
    refine J_getr hX hE 0 1 rfl rfl fl_X5_42 dX5_readLamp_69 ?_
    refine J_iconst hX dX5_readLamp_72 k_i0 ?_
    refine J_bipush hX dX5_readLamp_73 kb_9 ?_
    refine J_cVI hX hE 29 (C_X3_readNumber hG (hE.sb [29, 1, 2] sb_95) 0 9 s22) mw_X3_readNumber ml_X5_123 rfl rfl rfl ⟨Nat.le_of_ble_eq_true rfl, Nat.le_of_ble_eq_true rfl⟩ rfl rfl (Nat.le_of_ble_eq_true rfl) dX5_readLamp_75 (fun q23 s24 => ?_)
    refine J_cVV hX hE 8 (C_X4_put hG (hE.sb [8, 9] sb_97) q23 s24) mw_X4_put ml_X5_126 rfl rfl rfl ⟨Nat.le_of_ble_eq_true rfl, Nat.le_of_ble_eq_true rfl⟩ rfl rfl (Nat.le_of_ble_eq_true rfl) dX5_readLamp_78 (fun s25 => ?_)
    refine J_aload_n hX dX5_readLamp_81 rfl ?_
    refine J_getr hX hE 0 2 rfl rfl fl_X5_12 dX5_readLamp_82 ?_
    refine J_getr hX hE 3 3 rfl rfl fl_X5_135 dX5_readLamp_85 ?_
    refine J_aload_n hX dX5_readLamp_88 rfl ?_
    refine J_getr hX hE 0 1 rfl rfl fl_X5_42 dX5_readLamp_89 ?_
    refine J_iconst hX dX5_readLamp_92 k_i0 ?_
    refine J_iconst hX dX5_readLamp_93 k_i5 ?_
    refine J_cVI hX hE 29 (C_X3_readNumber hG (hE.sb [29, 1, 2] sb_95) 0 5 s25) mw_X3_readNumber ml_X5_123 rfl rfl rfl ⟨Nat.le_of_ble_eq_true rfl, Nat.le_of_ble_eq_true rfl⟩ rfl rfl (Nat.le_of_ble_eq_true rfl) dX5_readLamp_94 (fun q26 s27 => ?_)
    refine J_cVV hX hE 10 (C_X4_put hG (hE.sb [10, 11] sb_98) q26 s27) mw_X4_put ml_X5_126 rfl rfl rfl ⟨Nat.le_of_ble_eq_true rfl, Nat.le_of_ble_eq_true rfl⟩ rfl rfl (Nat.le_of_ble_eq_true rfl) dX5_readLamp_97 (fun s28 => ?_)
    refine J_aload_n hX dX5_readLamp_100 rfl ?_
    refine J_getr hX hE 0 1 rfl rfl fl_X5_42 dX5_readLamp_101 ?_
    refine J_cVV hX hE 29 (C_X3_endClause hG (hE.sb [29, 1, 2] sb_95) s28) mw_X3_endClause ml_X5_138 rfl rfl rfl ⟨Nat.le_of_ble_eq_true rfl, Nat.le_of_ble_eq_true rfl⟩ rfl rfl (Nat.le_of_ble_eq_true rfl) dX5_readLamp_104 (fun s29 => ?_)
    exact J_vret hX hM dX5_readLamp_107
  unfold f_X5_readLamp
  refine J_aload_n hX dX5_readLamp_0 rfl ?_
  refine J_getr hX hE 0 2 rfl rfl fl_X5_12 dX5_readLamp_1 ?_
  refine J_getr hX hE 3 0 rfl rfl fl_X5_117 dX5_readLamp_4 ?_
  refine J_cVP hX hE 4 (C_X4_isFull hG (hE.sb [4, 5] sb_94) σ) mw_X4_isFull ml_X5_120 rfl rfl rfl ⟨Nat.le_of_ble_eq_true rfl, Nat.le_of_ble_eq_true rfl⟩ rfl rfl (Nat.le_of_ble_eq_true rfl) dX5_readLamp_7 (fun q30 => ?_)
  refine J_blk ?_
  intro KB10 hB10
  refine J_if_eq hX dX5_readLamp_10 (tgt := 21) rfl (fun _ => ?_) (fun _ => ?_)
  · refine hB10 _ _ _ _ _ ?_
    exact J_keep [0] rfl (hJ21 σ)
  · refine J_aload_n hX dX5_readLamp_13 rfl ?_
    refine J_getr hX hE 0 1 rfl rfl fl_X5_42 dX5_readLamp_14 ?_
    refine J_iconst hX dX5_readLamp_17 k_i3 ?_
    refine J_cVV hX hE 29 (C_X3_failAtWord hG (hE.sb [29, 1, 2] sb_95) 3 σ) mw_X3_failAtWord ml_X5_114 rfl rfl rfl ⟨Nat.le_of_ble_eq_true rfl, Nat.le_of_ble_eq_true rfl⟩ rfl rfl (Nat.le_of_ble_eq_true rfl) dX5_readLamp_18 (fun s31 => ?_)
    refine hB10 _ _ _ _ _ ?_
    exact J_keep [0] rfl (hJ21 s31)
theorem mw_X5_readLamp : jMV Y_X5_readLamp 0 := ⟨⟨tw_tb (List.mem_of_getElem? (i := 513) (by decide +kernel)) (by decide +kernel), tw_pv (List.mem_of_getElem? (i := 2) (by decide +kernel)) (by decide +kernel), tw_tb (List.mem_of_getElem? (i := 4) (by decide +kernel)) (by decide +kernel), tw_tb (List.mem_of_getElem? (i := 514) (by decide +kernel)) (by decide +kernel)⟩, ⟨rfl, rfl⟩, by decide +kernel, by decide +kernel, by decide +kernel⟩
-- X5_readSinger
noncomputable def f_X5_readSinger_J21 (nm : Nat → Nat) (σ : jS) : Option jS :=
  (f_X3_readNumber (jn nm [29, 1, 2]) 0 49 σ).bind (fun x => match x with
  | (q4, s5) =>
    (f_X4_put (jn nm [12, 13]) 8 q4 s5).bind (fun s6 =>
      (f_X3_readNumber (jn nm [29, 1, 2]) 1 50 s6).bind (fun x => match x with
      | (q7, s8) =>
        (f_X4_put (jn nm [14, 15]) 8 q7 s8).bind (fun s9 =>
          (f_X3_readNumber (jn nm [29, 1, 2]) 0 63 s9).bind (fun x => match x with
          | (q10, s11) =>
            (f_X4_put (jn nm [16, 17]) 8 q10 s11).bind (fun s12 =>
              (f_X3_readNumber (jn nm [29, 1, 2]) q10 63 s12).bind (fun x => match x with
              | (q13, s14) =>
                (f_X4_put (jn nm [18, 19]) 8 q13 s14).bind (fun s15 =>
                  (f_X3_endClause (jn nm [29, 1, 2]) s15).bind (fun s16 =>
                    some s16)))))))))
noncomputable def f_X5_readSinger (nm : Nat → Nat) (σ : jS) : Option jS :=
  (f_X4_isFull (jn nm [12, 13]) 8 σ).bind (fun q1 =>
    (if q1 = 0 then
      some σ
    else
      (f_X3_failAtWord (jn nm [29, 1, 2]) 3 σ).bind (fun s2 =>
        some s2)).bind (fun s3 =>
      f_X5_readSinger_J21 nm s3))
abbrev Y_X5_readSinger : jY := (yX5_readSinger, cX5_readSinger, 2, none, { frames := 3, cells := 0, slots := 0, locals := 67 })
theorem C_X5_readSinger {l : Launch} {G : jG} {nm : Nat → Nat} (hG : jWL G) (hE : jE G nm LS_X5) (σ : jS) : jC r_V l G Y_X5_readSinger [.ref (jad G (nm 0))] σ (f_X5_readSinger nm σ) := by
  refine jw_met hG pn_X5 (Nat.le_of_ble_eq_true rfl) ⟨rfl, rfl⟩ ?_
  intro X hX hM
  have hX : jB X l G cX5_readSinger RX5 2 { frames := 3, cells := 0, slots := 0, locals := 67 } := hX
  have hM : jM X (none) := hM
  show J X 0 [(0, .ref (jad G (nm 0)))] [] σ (f_X5_readSinger nm σ) (jk r_V X)
  have hJ21 : ∀ (σ : jS), J X 21 [(0, .ref (jad G (nm 0)))] [] σ (f_X5_readSinger_J21 nm σ) (jk r_V X) := by
    intro σ
    unfold f_X5_readSinger_J21
    refine J_aload_n hX dX5_readSinger_21 rfl ?_
    refine J_getr hX hE 0 2 rfl rfl fl_X5_12 dX5_readSinger_22 ?_
    refine J_getr hX hE 3 4 rfl rfl fl_X5_141 dX5_readSinger_25 ?_
    refine J_aload_n hX dX5_readSinger_28 rfl ?_
    refine J_getr hX hE 0 1 rfl rfl fl_X5_42 dX5_readSinger_29 ?_
    refine J_iconst hX dX5_readSinger_32 k_i0 ?_
    refine J_bipush hX dX5_readSinger_33 kb_49 ?_
    refine J_cVI hX hE 29 (C_X3_readNumber hG (hE.sb [29, 1, 2] sb_95) 0 49 σ) mw_X3_readNumber ml_X5_123 rfl rfl rfl ⟨Nat.le_of_ble_eq_true rfl, Nat.le_of_ble_eq_true rfl⟩ rfl rfl (Nat.le_of_ble_eq_true rfl) dX5_readSinger_35 (fun q17 s18 => ?_)
    refine J_cVV hX hE 12 (C_X4_put hG (hE.sb [12, 13] sb_99) q17 s18) mw_X4_put ml_X5_126 rfl rfl rfl ⟨Nat.le_of_ble_eq_true rfl, Nat.le_of_ble_eq_true rfl⟩ rfl rfl (Nat.le_of_ble_eq_true rfl) dX5_readSinger_38 (fun s19 => ?_)
    refine J_aload_n hX dX5_readSinger_41 rfl ?_
    refine J_getr hX hE 0 2 rfl rfl fl_X5_12 dX5_readSinger_42 ?_
    refine J_getr hX hE 3 5 rfl rfl fl_X5_144 dX5_readSinger_45 ?_
    refine J_aload_n hX dX5_readSinger_48 rfl ?_
    refine J_getr hX hE 0 1 rfl rfl fl_X5_42 dX5_readSinger_49 ?_
    refine J_iconst hX dX5_readSinger_52 k_i1 ?_
    refine J_bipush hX dX5_readSinger_53 kb_50 ?_
    refine J_cVI hX hE 29 (C_X3_readNumber hG (hE.sb [29, 1, 2] sb_95) 1 50 s19) mw_X3_readNumber ml_X5_123 rfl rfl rfl ⟨Nat.le_of_ble_eq_true rfl, Nat.le_of_ble_eq_true rfl⟩ rfl rfl (Nat.le_of_ble_eq_true rfl) dX5_readSinger_55 (fun q20 s21 => ?_)
    refine J_cVV hX hE 14 (C_X4_put hG (hE.sb [14, 15] sb_100) q20 s21) mw_X4_put ml_X5_126 rfl rfl rfl ⟨Nat.le_of_ble_eq_true rfl, Nat.le_of_ble_eq_true rfl⟩ rfl rfl (Nat.le_of_ble_eq_true rfl) dX5_readSinger_58 (fun s22 => ?_)
    refine J_aload_n hX dX5_readSinger_61 rfl ?_
    refine J_getr hX hE 0 1 rfl rfl fl_X5_42 dX5_readSinger_62 ?_
    refine J_iconst hX dX5_readSinger_65 k_i0 ?_
    refine J_bipush hX dX5_readSinger_66 kb_63 ?_
    refine J_cVI hX hE 29 (C_X3_readNumber hG (hE.sb [29, 1, 2] sb_95) 0 63 s22) mw_X3_readNumber ml_X5_123 rfl rfl rfl ⟨Nat.le_of_ble_eq_true rfl, Nat.le_of_ble_eq_true rfl⟩ rfl rfl (Nat.le_of_ble_eq_true rfl) dX5_readSinger_68 (fun q23 s24 => ?_)
    refine J_istore_n hX dX5_readSinger_71 (Nat.le_of_ble_eq_true rfl) (lv' := [(0, .ref (jad G (nm 0))), (1, .int q23)]) rfl ?_
    refine J_aload_n hX dX5_readSinger_72 rfl ?_
    refine J_getr hX hE 0 2 rfl rfl fl_X5_12 dX5_readSinger_73 ?_
    refine J_getr hX hE 3 6 rfl rfl fl_X5_147 dX5_readSinger_76 ?_
    refine J_iload_n hX dX5_readSinger_79 rfl ?_
    refine J_cVV hX hE 16 (C_X4_put hG (hE.sb [16, 17] sb_101) q23 s24) mw_X4_put ml_X5_126 rfl rfl rfl ⟨Nat.le_of_ble_eq_true rfl, Nat.le_of_ble_eq_true rfl⟩ rfl rfl (Nat.le_of_ble_eq_true rfl) dX5_readSinger_80 (fun s25 => ?_)
    refine J_aload_n hX dX5_readSinger_83 rfl ?_
    refine J_getr hX hE 0 2 rfl rfl fl_X5_12 dX5_readSinger_84 ?_
    refine J_getr hX hE 3 7 rfl rfl fl_X5_150 dX5_readSinger_87 ?_
    refine J_aload_n hX dX5_readSinger_90 rfl ?_
    refine J_getr hX hE 0 1 rfl rfl fl_X5_42 dX5_readSinger_91 ?_
    refine J_iload_n hX dX5_readSinger_94 rfl ?_
    refine J_bipush hX dX5_readSinger_95 kb_63 ?_
    refine J_cVI hX hE 29 (C_X3_readNumber hG (hE.sb [29, 1, 2] sb_95) q23 63 s25) mw_X3_readNumber ml_X5_123 rfl rfl rfl ⟨Nat.le_of_ble_eq_true rfl, Nat.le_of_ble_eq_true rfl⟩ rfl rfl (Nat.le_of_ble_eq_true rfl) dX5_readSinger_97 (fun q26 s27 => ?_)
    refine J_cVV hX hE 18 (C_X4_put hG (hE.sb [18, 19] sb_102) q26 s27) mw_X4_put ml_X5_126 rfl rfl rfl ⟨Nat.le_of_ble_eq_true rfl, Nat.le_of_ble_eq_true rfl⟩ rfl rfl (Nat.le_of_ble_eq_true rfl) dX5_readSinger_100 (fun s28 => ?_)
    refine J_aload_n hX dX5_readSinger_103 rfl ?_
    refine J_getr hX hE 0 1 rfl rfl fl_X5_42 dX5_readSinger_104 ?_
    refine J_cVV hX hE 29 (C_X3_endClause hG (hE.sb [29, 1, 2] sb_95) s28) mw_X3_endClause ml_X5_138 rfl rfl rfl ⟨Nat.le_of_ble_eq_true rfl, Nat.le_of_ble_eq_true rfl⟩ rfl rfl (Nat.le_of_ble_eq_true rfl) dX5_readSinger_107 (fun s29 => ?_)
    exact J_vret hX hM dX5_readSinger_110
  unfold f_X5_readSinger
  refine J_aload_n hX dX5_readSinger_0 rfl ?_
  refine J_getr hX hE 0 2 rfl rfl fl_X5_12 dX5_readSinger_1 ?_
  refine J_getr hX hE 3 4 rfl rfl fl_X5_141 dX5_readSinger_4 ?_
  refine J_cVP hX hE 12 (C_X4_isFull hG (hE.sb [12, 13] sb_99) σ) mw_X4_isFull ml_X5_120 rfl rfl rfl ⟨Nat.le_of_ble_eq_true rfl, Nat.le_of_ble_eq_true rfl⟩ rfl rfl (Nat.le_of_ble_eq_true rfl) dX5_readSinger_7 (fun q30 => ?_)
  refine J_blk ?_
  intro KB10 hB10
  refine J_if_eq hX dX5_readSinger_10 (tgt := 21) rfl (fun _ => ?_) (fun _ => ?_)
  · refine hB10 _ _ _ _ _ ?_
    exact J_keep [0] rfl (hJ21 σ)
  · refine J_aload_n hX dX5_readSinger_13 rfl ?_
    refine J_getr hX hE 0 1 rfl rfl fl_X5_42 dX5_readSinger_14 ?_
    refine J_iconst hX dX5_readSinger_17 k_i3 ?_
    refine J_cVV hX hE 29 (C_X3_failAtWord hG (hE.sb [29, 1, 2] sb_95) 3 σ) mw_X3_failAtWord ml_X5_114 rfl rfl rfl ⟨Nat.le_of_ble_eq_true rfl, Nat.le_of_ble_eq_true rfl⟩ rfl rfl (Nat.le_of_ble_eq_true rfl) dX5_readSinger_18 (fun s31 => ?_)
    refine hB10 _ _ _ _ _ ?_
    exact J_keep [0] rfl (hJ21 s31)
theorem mw_X5_readSinger : jMV Y_X5_readSinger 0 := ⟨⟨tw_tb (List.mem_of_getElem? (i := 543) (by decide +kernel)) (by decide +kernel), tw_pv (List.mem_of_getElem? (i := 4) (by decide +kernel)) (by decide +kernel), tw_tb (List.mem_of_getElem? (i := 4) (by decide +kernel)) (by decide +kernel), tw_tb (List.mem_of_getElem? (i := 544) (by decide +kernel)) (by decide +kernel)⟩, ⟨rfl, rfl⟩, by decide +kernel, by decide +kernel, by decide +kernel⟩
-- X5_readOnce
noncomputable def f_X5_readOnce_J12 (nm : Nat → Nat) (v2 : Int32) (σ : jS) : Option (Int32 × jS) :=
  (f_X3_readNumber (jn nm [29, 1, 2]) 1 v2 σ).bind (fun x => match x with
  | (q3, s4) =>
    (f_X3_endClause (jn nm [29, 1, 2]) s4).bind (fun s5 =>
      some (q3, s5)))
noncomputable def f_X5_readOnce (nm : Nat → Nat) (v1 : Int32) (v2 : Int32) (σ : jS) : Option (Int32 × jS) :=
  (if v1 = 0 then
    some σ
  else
    (f_X3_failAtWord (jn nm [29, 1, 2]) 3 σ).bind (fun s1 =>
      some s1)).bind (fun s2 =>
    f_X5_readOnce_J12 nm v2 s2)
abbrev Y_X5_readOnce : jY := (yX5_readOnce, cX5_readOnce, 4, some .int, { frames := 3, cells := 0, slots := 0, locals := 67 })
theorem C_X5_readOnce {l : Launch} {G : jG} {nm : Nat → Nat} (hG : jWL G) (hE : jE G nm LS_X5) (v1 : Int32) (v2 : Int32) (σ : jS) : jC r_I l G Y_X5_readOnce [.ref (jad G (nm 0)), .int v1, .int v2] σ (f_X5_readOnce nm v1 v2 σ) := by
  refine jw_met hG pn_X5 (Nat.le_of_ble_eq_true rfl) ⟨rfl, rfl⟩ ?_
  intro X hX hM
  have hX : jB X l G cX5_readOnce RX5 4 { frames := 3, cells := 0, slots := 0, locals := 67 } := hX
  have hM : jM X (some .int) := hM
  show J X 0 [(0, .ref (jad G (nm 0))), (1, .int v1), (2, .int v2)] [] σ (f_X5_readOnce nm v1 v2 σ) (jk r_I X)
  have hJ12 : ∀ (v2 : Int32) (σ : jS), J X 12 [(0, .ref (jad G (nm 0))), (2, .int v2)] [] σ (f_X5_readOnce_J12 nm v2 σ) (jk r_I X) := by
    intro v2 σ
    unfold f_X5_readOnce_J12
    refine J_aload_n hX dX5_readOnce_12 rfl ?_
    refine J_getr hX hE 0 1 rfl rfl fl_X5_42 dX5_readOnce_13 ?_
    refine J_iconst hX dX5_readOnce_16 k_i1 ?_
    refine J_iload_n hX dX5_readOnce_17 rfl ?_
    refine J_cVI hX hE 29 (C_X3_readNumber hG (hE.sb [29, 1, 2] sb_95) 1 v2 σ) mw_X3_readNumber ml_X5_123 rfl rfl rfl ⟨Nat.le_of_ble_eq_true rfl, Nat.le_of_ble_eq_true rfl⟩ rfl rfl (Nat.le_of_ble_eq_true rfl) dX5_readOnce_18 (fun q6 s7 => ?_)
    refine J_istore_n hX dX5_readOnce_21 (Nat.le_of_ble_eq_true rfl) (lv' := [(0, .ref (jad G (nm 0))), (2, .int v2), (3, .int q6)]) rfl ?_
    refine J_aload_n hX dX5_readOnce_22 rfl ?_
    refine J_getr hX hE 0 1 rfl rfl fl_X5_42 dX5_readOnce_23 ?_
    refine J_cVV hX hE 29 (C_X3_endClause hG (hE.sb [29, 1, 2] sb_95) s7) mw_X3_endClause ml_X5_138 rfl rfl rfl ⟨Nat.le_of_ble_eq_true rfl, Nat.le_of_ble_eq_true rfl⟩ rfl rfl (Nat.le_of_ble_eq_true rfl) dX5_readOnce_26 (fun s8 => ?_)
    refine J_iload_n hX dX5_readOnce_29 rfl ?_
    exact J_iret hX hM dX5_readOnce_30
  unfold f_X5_readOnce
  refine J_iload_n hX dX5_readOnce_0 rfl ?_
  refine J_blk ?_
  intro KB1 hB1
  refine J_if_eq hX dX5_readOnce_1 (tgt := 12) rfl (fun _ => ?_) (fun _ => ?_)
  · refine hB1 _ _ _ _ _ ?_
    exact J_keep [0, 2] rfl (hJ12 v2 σ)
  · refine J_aload_n hX dX5_readOnce_4 rfl ?_
    refine J_getr hX hE 0 1 rfl rfl fl_X5_42 dX5_readOnce_5 ?_
    refine J_iconst hX dX5_readOnce_8 k_i3 ?_
    refine J_cVV hX hE 29 (C_X3_failAtWord hG (hE.sb [29, 1, 2] sb_95) 3 σ) mw_X3_failAtWord ml_X5_114 rfl rfl rfl ⟨Nat.le_of_ble_eq_true rfl, Nat.le_of_ble_eq_true rfl⟩ rfl rfl (Nat.le_of_ble_eq_true rfl) dX5_readOnce_9 (fun s9 => ?_)
    refine hB1 _ _ _ _ _ ?_
    exact J_keep [0, 2] rfl (hJ12 v2 s9)
theorem mw_X5_readOnce : jMV Y_X5_readOnce 2 := ⟨⟨tw_tb (List.mem_of_getElem? (i := 548) (by decide +kernel)) (by decide +kernel), tw_pv (List.mem_of_getElem? (i := 5) (by decide +kernel)) (by decide +kernel), tw_tb (List.mem_of_getElem? (i := 4) (by decide +kernel)) (by decide +kernel), tw_tb (List.mem_of_getElem? (i := 549) (by decide +kernel)) (by decide +kernel)⟩, ⟨rfl, rfl⟩, by decide +kernel, by decide +kernel, by decide +kernel⟩
-- X5_readQuayClause
noncomputable def f_X5_readQuayClause (nm : Nat → Nat) (σ : jS) : Option jS :=
  (f_X3_readWord (jn nm [29, 1, 2]) σ).bind (fun s1 =>
    (f_X3_wordIs (jn nm [29, 1, 2]) 0 s1).bind (fun q2 =>
      if q2 = 0 then
        (f_X3_wordIs (jn nm [29, 1, 2]) 1 s1).bind (fun q3 =>
          if q3 = 0 then
            (f_X3_wordIs (jn nm [29, 1, 2]) 2 s1).bind (fun q4 =>
              if q4 = 0 then
                (f_X3_wordIs (jn nm [29, 1, 2]) 3 s1).bind (fun q5 =>
                  if q5 = 0 then
                    (f_X3_wordIs (jn nm [29, 1, 2]) 4 s1).bind (fun q6 =>
                      if q6 = 0 then
                        (f_X3_failAtWord (jn nm [29, 1, 2]) 1 s1).bind (fun s7 =>
                          some s7)
                      else
                        (f_X5_readOnce nm (g_i s1 (nm 3) 10) 50 s1).bind (fun x => match x with
                        | (q8, s9) =>
                          bd (s_i s9 (nm 3) 10 q8) (fun s10 =>
                            some s10)))
                  else
                    (f_X5_readOnce nm (g_i s1 (nm 3) 9) 99 s1).bind (fun x => match x with
                    | (q11, s12) =>
                      bd (s_i s12 (nm 3) 9 q11) (fun s13 =>
                        some s13)))
              else
                (f_X5_readOnce nm (g_i s1 (nm 3) 8) 99 s1).bind (fun x => match x with
                | (q14, s15) =>
                  bd (s_i s15 (nm 3) 8 q14) (fun s16 =>
                    some s16)))
          else
            (f_X5_readSinger nm s1).bind (fun s17 =>
              some s17))
      else
        (f_X5_readLamp nm s1).bind (fun s18 =>
          some s18)))
abbrev Y_X5_readQuayClause : jY := (yX5_readQuayClause, cX5_readQuayClause, 1, none, { frames := 5, cells := 0, slots := 0, locals := 107 })
theorem C_X5_readQuayClause {l : Launch} {G : jG} {nm : Nat → Nat} (hG : jWL G) (hE : jE G nm LS_X5) (σ : jS) : jC r_V l G Y_X5_readQuayClause [.ref (jad G (nm 0))] σ (f_X5_readQuayClause nm σ) := by
  refine jw_met hG pn_X5 (Nat.le_of_ble_eq_true rfl) ⟨rfl, rfl⟩ ?_
  intro X hX hM
  have hX : jB X l G cX5_readQuayClause RX5 1 { frames := 5, cells := 0, slots := 0, locals := 107 } := hX
  have hM : jM X (none) := hM
  show J X 0 [(0, .ref (jad G (nm 0)))] [] σ (f_X5_readQuayClause nm σ) (jk r_V X)
  unfold f_X5_readQuayClause
  refine J_aload_n hX dX5_readQuayClause_0 rfl ?_
  refine J_getr hX hE 0 1 rfl rfl fl_X5_42 dX5_readQuayClause_1 ?_
  refine J_cVV hX hE 29 (C_X3_readWord hG (hE.sb [29, 1, 2] sb_95) σ) mw_X3_readWord ml_X5_81 rfl rfl rfl ⟨Nat.le_of_ble_eq_true rfl, Nat.le_of_ble_eq_true rfl⟩ rfl rfl (Nat.le_of_ble_eq_true rfl) dX5_readQuayClause_4 (fun s19 => ?_)
  refine J_aload_n hX dX5_readQuayClause_7 rfl ?_
  refine J_getr hX hE 0 1 rfl rfl fl_X5_42 dX5_readQuayClause_8 ?_
  refine J_ldcS hX 0 rfl dX5_readQuayClause_11 ?_
  refine J_cVP hX hE 29 (C_X3_wordIs hG (hE.sb [29, 1, 2] sb_95) 0 s19) mw_X3_wordIs ml_X5_86 rfl rfl rfl ⟨Nat.le_of_ble_eq_true rfl, Nat.le_of_ble_eq_true rfl⟩ rfl rfl (Nat.le_of_ble_eq_true rfl) dX5_readQuayClause_13 (fun q20 => ?_)
  refine J_if_eq hX dX5_readQuayClause_16 (tgt := 26) rfl (fun _ => ?_) (fun _ => ?_)
  · refine J_aload_n hX dX5_readQuayClause_26 rfl ?_
    refine J_getr hX hE 0 1 rfl rfl fl_X5_42 dX5_readQuayClause_27 ?_
    refine J_ldcS hX 1 rfl dX5_readQuayClause_30 ?_
    refine J_cVP hX hE 29 (C_X3_wordIs hG (hE.sb [29, 1, 2] sb_95) 1 s19) mw_X3_wordIs ml_X5_86 rfl rfl rfl ⟨Nat.le_of_ble_eq_true rfl, Nat.le_of_ble_eq_true rfl⟩ rfl rfl (Nat.le_of_ble_eq_true rfl) dX5_readQuayClause_32 (fun q21 => ?_)
    refine J_if_eq hX dX5_readQuayClause_35 (tgt := 45) rfl (fun _ => ?_) (fun _ => ?_)
    · refine J_aload_n hX dX5_readQuayClause_45 rfl ?_
      refine J_getr hX hE 0 1 rfl rfl fl_X5_42 dX5_readQuayClause_46 ?_
      refine J_ldcS hX 2 rfl dX5_readQuayClause_49 ?_
      refine J_cVP hX hE 29 (C_X3_wordIs hG (hE.sb [29, 1, 2] sb_95) 2 s19) mw_X3_wordIs ml_X5_86 rfl rfl rfl ⟨Nat.le_of_ble_eq_true rfl, Nat.le_of_ble_eq_true rfl⟩ rfl rfl (Nat.le_of_ble_eq_true rfl) dX5_readQuayClause_51 (fun q22 => ?_)
      refine J_if_eq hX dX5_readQuayClause_54 (tgt := 80) rfl (fun _ => ?_) (fun _ => ?_)
      · refine J_aload_n hX dX5_readQuayClause_80 rfl ?_
        refine J_getr hX hE 0 1 rfl rfl fl_X5_42 dX5_readQuayClause_81 ?_
        refine J_ldcS hX 3 rfl dX5_readQuayClause_84 ?_
        refine J_cVP hX hE 29 (C_X3_wordIs hG (hE.sb [29, 1, 2] sb_95) 3 s19) mw_X3_wordIs ml_X5_86 rfl rfl rfl ⟨Nat.le_of_ble_eq_true rfl, Nat.le_of_ble_eq_true rfl⟩ rfl rfl (Nat.le_of_ble_eq_true rfl) dX5_readQuayClause_86 (fun q23 => ?_)
        refine J_if_eq hX dX5_readQuayClause_89 (tgt := 115) rfl (fun _ => ?_) (fun _ => ?_)
        · refine J_aload_n hX dX5_readQuayClause_115 rfl ?_
          refine J_getr hX hE 0 1 rfl rfl fl_X5_42 dX5_readQuayClause_116 ?_
          refine J_ldcS hX 4 rfl dX5_readQuayClause_119 ?_
          refine J_cVP hX hE 29 (C_X3_wordIs hG (hE.sb [29, 1, 2] sb_95) 4 s19) mw_X3_wordIs ml_X5_86 rfl rfl rfl ⟨Nat.le_of_ble_eq_true rfl, Nat.le_of_ble_eq_true rfl⟩ rfl rfl (Nat.le_of_ble_eq_true rfl) dX5_readQuayClause_121 (fun q24 => ?_)
          refine J_if_eq hX dX5_readQuayClause_124 (tgt := 150) rfl (fun _ => ?_) (fun _ => ?_)
          · refine J_aload_n hX dX5_readQuayClause_150 rfl ?_
            refine J_getr hX hE 0 1 rfl rfl fl_X5_42 dX5_readQuayClause_151 ?_
            refine J_iconst hX dX5_readQuayClause_154 k_i1 ?_
            refine J_cVV hX hE 29 (C_X3_failAtWord hG (hE.sb [29, 1, 2] sb_95) 1 s19) mw_X3_failAtWord ml_X5_114 rfl rfl rfl ⟨Nat.le_of_ble_eq_true rfl, Nat.le_of_ble_eq_true rfl⟩ rfl rfl (Nat.le_of_ble_eq_true rfl) dX5_readQuayClause_155 (fun s25 => ?_)
            exact J_vret hX hM dX5_readQuayClause_158
          · refine J_aload_n hX dX5_readQuayClause_127 rfl ?_
            refine J_getr hX hE 0 2 rfl rfl fl_X5_12 dX5_readQuayClause_128 ?_
            refine J_aload_n hX dX5_readQuayClause_131 rfl ?_
            refine J_aload_n hX dX5_readQuayClause_132 rfl ?_
            refine J_getr hX hE 0 2 rfl rfl fl_X5_12 dX5_readQuayClause_133 ?_
            refine J_geti hX hE 3 10 rfl rfl fl_X5_112 dX5_readQuayClause_136 ?_
            refine J_bipush hX dX5_readQuayClause_139 kb_50 ?_
            refine J_cVI hX hE 0 (C_X5_readOnce hG hE (g_i s19 (nm 3) 10) 50 s19) mw_X5_readOnce ml_X5_102 rfl rfl rfl ⟨Nat.le_of_ble_eq_true rfl, Nat.le_of_ble_eq_true rfl⟩ rfl rfl (Nat.le_of_ble_eq_true rfl) dX5_readQuayClause_141 (fun q26 s27 => ?_)
            refine J_puti hX hE 3 10 rfl rfl fp_X5_112 dX5_readQuayClause_144 ?_
            refine J_bdS (fun s28 => ?_)
            refine J_goto hX dX5_readQuayClause_147 (tgt := 158) rfl ?_
            exact J_vret hX hM dX5_readQuayClause_158
        · refine J_aload_n hX dX5_readQuayClause_92 rfl ?_
          refine J_getr hX hE 0 2 rfl rfl fl_X5_12 dX5_readQuayClause_93 ?_
          refine J_aload_n hX dX5_readQuayClause_96 rfl ?_
          refine J_aload_n hX dX5_readQuayClause_97 rfl ?_
          refine J_getr hX hE 0 2 rfl rfl fl_X5_12 dX5_readQuayClause_98 ?_
          refine J_geti hX hE 3 9 rfl rfl fl_X5_108 dX5_readQuayClause_101 ?_
          refine J_bipush hX dX5_readQuayClause_104 kb_99 ?_
          refine J_cVI hX hE 0 (C_X5_readOnce hG hE (g_i s19 (nm 3) 9) 99 s19) mw_X5_readOnce ml_X5_102 rfl rfl rfl ⟨Nat.le_of_ble_eq_true rfl, Nat.le_of_ble_eq_true rfl⟩ rfl rfl (Nat.le_of_ble_eq_true rfl) dX5_readQuayClause_106 (fun q29 s30 => ?_)
          refine J_puti hX hE 3 9 rfl rfl fp_X5_108 dX5_readQuayClause_109 ?_
          refine J_bdS (fun s31 => ?_)
          refine J_goto hX dX5_readQuayClause_112 (tgt := 158) rfl ?_
          exact J_vret hX hM dX5_readQuayClause_158
      · refine J_aload_n hX dX5_readQuayClause_57 rfl ?_
        refine J_getr hX hE 0 2 rfl rfl fl_X5_12 dX5_readQuayClause_58 ?_
        refine J_aload_n hX dX5_readQuayClause_61 rfl ?_
        refine J_aload_n hX dX5_readQuayClause_62 rfl ?_
        refine J_getr hX hE 0 2 rfl rfl fl_X5_12 dX5_readQuayClause_63 ?_
        refine J_geti hX hE 3 8 rfl rfl fl_X5_100 dX5_readQuayClause_66 ?_
        refine J_bipush hX dX5_readQuayClause_69 kb_99 ?_
        refine J_cVI hX hE 0 (C_X5_readOnce hG hE (g_i s19 (nm 3) 8) 99 s19) mw_X5_readOnce ml_X5_102 rfl rfl rfl ⟨Nat.le_of_ble_eq_true rfl, Nat.le_of_ble_eq_true rfl⟩ rfl rfl (Nat.le_of_ble_eq_true rfl) dX5_readQuayClause_71 (fun q32 s33 => ?_)
        refine J_puti hX hE 3 8 rfl rfl fp_X5_100 dX5_readQuayClause_74 ?_
        refine J_bdS (fun s34 => ?_)
        refine J_goto hX dX5_readQuayClause_77 (tgt := 158) rfl ?_
        exact J_vret hX hM dX5_readQuayClause_158
    · refine J_aload_n hX dX5_readQuayClause_38 rfl ?_
      refine J_cVV hX hE 0 (C_X5_readSinger hG hE s19) mw_X5_readSinger ml_X5_95 rfl rfl rfl ⟨Nat.le_of_ble_eq_true rfl, Nat.le_of_ble_eq_true rfl⟩ rfl rfl (Nat.le_of_ble_eq_true rfl) dX5_readQuayClause_39 (fun s35 => ?_)
      refine J_goto hX dX5_readQuayClause_42 (tgt := 158) rfl ?_
      exact J_vret hX hM dX5_readQuayClause_158
  · refine J_aload_n hX dX5_readQuayClause_19 rfl ?_
    refine J_cVV hX hE 0 (C_X5_readLamp hG hE s19) mw_X5_readLamp ml_X5_90 rfl rfl rfl ⟨Nat.le_of_ble_eq_true rfl, Nat.le_of_ble_eq_true rfl⟩ rfl rfl (Nat.le_of_ble_eq_true rfl) dX5_readQuayClause_20 (fun s36 => ?_)
    refine J_goto hX dX5_readQuayClause_23 (tgt := 158) rfl ?_
    exact J_vret hX hM dX5_readQuayClause_158
theorem mw_X5_readQuayClause : jMV Y_X5_readQuayClause 0 := ⟨⟨tw_tb (List.mem_of_getElem? (i := 449) (by decide +kernel)) (by decide +kernel), tw_pv (List.mem_of_getElem? (i := 1) (by decide +kernel)) (by decide +kernel), tw_tb (List.mem_of_getElem? (i := 4) (by decide +kernel)) (by decide +kernel), tw_tb (List.mem_of_getElem? (i := 450) (by decide +kernel)) (by decide +kernel)⟩, ⟨rfl, rfl⟩, by decide +kernel, by decide +kernel, by decide +kernel⟩
-- X6_fillUntold
noncomputable def f_X6_fillUntold_J56 (nm : Nat → Nat) (t1 : Int32) (σ : jS) : Option jS :=
  bd (s_i σ (nm 0) 10 t1) (fun s6 =>
    some s6)
noncomputable def f_X6_fillUntold_J37 (nm : Nat → Nat) (t1 : Int32) (σ : jS) : Option jS :=
  bd (s_i σ (nm 0) 9 t1) (fun s4 =>
    (if (g_i s4 (nm 0) 10) = 0 then
      some 5
    else
      some (g_i s4 (nm 0) 10)).bind (fun y5 =>
      f_X6_fillUntold_J56 nm y5 s4))
noncomputable def f_X6_fillUntold_J17 (nm : Nat → Nat) (t1 : Int32) (σ : jS) : Option jS :=
  bd (s_i σ (nm 0) 8 t1) (fun s2 =>
    (if (g_i s2 (nm 0) 9) = 0 then
      some 30
    else
      some (g_i s2 (nm 0) 9)).bind (fun y3 =>
      f_X6_fillUntold_J37 nm y3 s2))
noncomputable def f_X6_fillUntold (nm : Nat → Nat) (σ : jS) : Option jS :=
  (if (g_i σ (nm 0) 8) = 0 then
    some 20
  else
    some (g_i σ (nm 0) 8)).bind (fun y1 =>
    f_X6_fillUntold_J17 nm y1 σ)
abbrev Y_X6_fillUntold : jY := (yX6_fillUntold, cX6_fillUntold, 1, none, { frames := 0, cells := 0, slots := 0, locals := 0 })
theorem C_X6_fillUntold {l : Launch} {G : jG} {nm : Nat → Nat} (hG : jWL G) (hE : jE G nm LS_X6) (σ : jS) : jC r_V l G Y_X6_fillUntold [.ref (jad G (nm 0))] σ (f_X6_fillUntold nm σ) := by
  refine jw_met hG pn_X6 (Nat.le_of_ble_eq_true rfl) ⟨rfl, rfl⟩ ?_
  intro X hX hM
  have hX : jB X l G cX6_fillUntold RX6 1 { frames := 0, cells := 0, slots := 0, locals := 0 } := hX
  have hM : jM X (none) := hM
  show J X 0 [(0, .ref (jad G (nm 0)))] [] σ (f_X6_fillUntold nm σ) (jk r_V X)
  have hJ56 : ∀ (t1 : Int32) (σ : jS), J X 56 [] [.int t1, .ref (jad G (nm 0))] σ (f_X6_fillUntold_J56 nm t1 σ) (jk r_V X) := by
    intro t1 σ
    unfold f_X6_fillUntold_J56
    refine J_puti hX hE 0 10 rfl rfl fp_X6_55 dX6_fillUntold_56 ?_
    refine J_bdS (fun s7 => ?_)
    exact J_vret hX hM dX6_fillUntold_59
  have hJ37 : ∀ (t1 : Int32) (σ : jS), J X 37 [(0, .ref (jad G (nm 0)))] [.int t1, .ref (jad G (nm 0))] σ (f_X6_fillUntold_J37 nm t1 σ) (jk r_V X) := by
    intro t1 σ
    unfold f_X6_fillUntold_J37
    refine J_puti hX hE 0 9 rfl rfl fp_X6_52 dX6_fillUntold_37 ?_
    refine J_bdS (fun s8 => ?_)
    refine J_aload_n hX dX6_fillUntold_40 rfl ?_
    refine J_aload_n hX dX6_fillUntold_41 rfl ?_
    refine J_geti hX hE 0 10 rfl rfl fl_X6_55 dX6_fillUntold_42 ?_
    refine J_blk ?_
    intro KB45 hB45
    refine J_if_ne hX dX6_fillUntold_45 (tgt := 52) rfl (fun _ => ?_) (fun _ => ?_)
    · refine J_aload_n hX dX6_fillUntold_52 rfl ?_
      refine J_geti hX hE 0 10 rfl rfl fl_X6_55 dX6_fillUntold_53 ?_
      refine hB45 _ _ _ _ _ ?_
      exact J_keep [] rfl (hJ56 (g_i s8 (nm 0) 10) s8)
    · refine J_iconst hX dX6_fillUntold_48 k_i5 ?_
      refine J_goto hX dX6_fillUntold_49 (tgt := 56) rfl ?_
      refine hB45 _ _ _ _ _ ?_
      exact J_keep [] rfl (hJ56 5 s8)
  have hJ17 : ∀ (t1 : Int32) (σ : jS), J X 17 [(0, .ref (jad G (nm 0)))] [.int t1, .ref (jad G (nm 0))] σ (f_X6_fillUntold_J17 nm t1 σ) (jk r_V X) := by
    intro t1 σ
    unfold f_X6_fillUntold_J17
    refine J_puti hX hE 0 8 rfl rfl fp_X6_48 dX6_fillUntold_17 ?_
    refine J_bdS (fun s9 => ?_)
    refine J_aload_n hX dX6_fillUntold_20 rfl ?_
    refine J_aload_n hX dX6_fillUntold_21 rfl ?_
    refine J_geti hX hE 0 9 rfl rfl fl_X6_52 dX6_fillUntold_22 ?_
    refine J_blk ?_
    intro KB25 hB25
    refine J_if_ne hX dX6_fillUntold_25 (tgt := 33) rfl (fun _ => ?_) (fun _ => ?_)
    · refine J_aload_n hX dX6_fillUntold_33 rfl ?_
      refine J_geti hX hE 0 9 rfl rfl fl_X6_52 dX6_fillUntold_34 ?_
      refine hB25 _ _ _ _ _ ?_
      exact J_keep [0] rfl (hJ37 (g_i s9 (nm 0) 9) s9)
    · refine J_bipush hX dX6_fillUntold_28 kb_30 ?_
      refine J_goto hX dX6_fillUntold_30 (tgt := 37) rfl ?_
      refine hB25 _ _ _ _ _ ?_
      exact J_keep [0] rfl (hJ37 30 s9)
  unfold f_X6_fillUntold
  refine J_aload_n hX dX6_fillUntold_0 rfl ?_
  refine J_aload_n hX dX6_fillUntold_1 rfl ?_
  refine J_geti hX hE 0 8 rfl rfl fl_X6_48 dX6_fillUntold_2 ?_
  refine J_blk ?_
  intro KB5 hB5
  refine J_if_ne hX dX6_fillUntold_5 (tgt := 13) rfl (fun _ => ?_) (fun _ => ?_)
  · refine J_aload_n hX dX6_fillUntold_13 rfl ?_
    refine J_geti hX hE 0 8 rfl rfl fl_X6_48 dX6_fillUntold_14 ?_
    refine hB5 _ _ _ _ _ ?_
    exact J_keep [0] rfl (hJ17 (g_i σ (nm 0) 8) σ)
  · refine J_bipush hX dX6_fillUntold_8 kb_20 ?_
    refine J_goto hX dX6_fillUntold_10 (tgt := 17) rfl ?_
    refine hB5 _ _ _ _ _ ?_
    exact J_keep [0] rfl (hJ17 20 σ)
theorem mw_X6_fillUntold : jMV Y_X6_fillUntold 0 := ⟨⟨tw_tb (List.mem_of_getElem? (i := 340) (by decide +kernel)) (by decide +kernel), tw_tb (List.mem_of_getElem? (i := 341) (by decide +kernel)) (by decide +kernel), tw_tb (List.mem_of_getElem? (i := 5) (by decide +kernel)) (by decide +kernel), tw_tb (List.mem_of_getElem? (i := 342) (by decide +kernel)) (by decide +kernel)⟩, ⟨rfl, rfl⟩, by decide +kernel, by decide +kernel, by decide +kernel⟩
-- X6_copy
noncomputable def f_X6_copy (nm : Nat → Nat) (σ : jS) : Option jS :=
  (f_X4_copy (jn nm [1, 2, 18, 19]) 10 10 σ).bind (fun s1 =>
    (f_X4_copy (jn nm [3, 4, 20, 21]) 10 10 s1).bind (fun s2 =>
      (f_X4_copy (jn nm [5, 6, 22, 23]) 10 10 s2).bind (fun s3 =>
        (f_X4_copy (jn nm [7, 8, 24, 25]) 10 10 s3).bind (fun s4 =>
          (f_X4_copy (jn nm [9, 10, 26, 27]) 8 8 s4).bind (fun s5 =>
            (f_X4_copy (jn nm [11, 12, 28, 29]) 8 8 s5).bind (fun s6 =>
              (f_X4_copy (jn nm [13, 14, 30, 31]) 8 8 s6).bind (fun s7 =>
                (f_X4_copy (jn nm [15, 16, 32, 33]) 8 8 s7).bind (fun s8 =>
                  bd (s_i s8 (nm 0) 8 (g_i s8 (nm 17) 8)) (fun s9 =>
                    bd (s_i s9 (nm 0) 9 (g_i s9 (nm 17) 9)) (fun s10 =>
                      bd (s_i s10 (nm 0) 10 (g_i s10 (nm 17) 10)) (fun s11 =>
                        some s11)))))))))))
abbrev Y_X6_copy : jY := (yX6_copy, cX6_copy, 2, none, { frames := 2, cells := 0, slots := 0, locals := 43 })
theorem C_X6_copy {l : Launch} {G : jG} {nm : Nat → Nat} (hG : jWL G) (hE : jE G nm LS_X6_X6) (σ : jS) : jC r_V l G Y_X6_copy [.ref (jad G (nm 0)), .ref (jad G (nm 17))] σ (f_X6_copy nm σ) := by
  refine jw_met hG pn_X6 (Nat.le_of_ble_eq_true rfl) ⟨rfl, rfl⟩ ?_
  intro X hX hM
  have hX : jB X l G cX6_copy RX6 2 { frames := 2, cells := 0, slots := 0, locals := 43 } := hX
  have hM : jM X (none) := hM
  show J X 0 [(0, .ref (jad G (nm 0))), (1, .ref (jad G (nm 17)))] [] σ (f_X6_copy nm σ) (jk r_V X)
  unfold f_X6_copy
  refine J_aload_n hX dX6_copy_0 rfl ?_
  refine J_getr hX hE 0 0 rfl rfl fl_X6_14 dX6_copy_1 ?_
  refine J_aload_n hX dX6_copy_4 rfl ?_
  refine J_getr hX hE 17 0 rfl rfl fl_X6_14 dX6_copy_5 ?_
  refine J_cVV hX hE 1 (C_X4_copy hG (hE.sb [1, 2, 18, 19] sb_103) σ) mw_X4_copy ml_X6_58 rfl rfl rfl ⟨Nat.le_of_ble_eq_true rfl, Nat.le_of_ble_eq_true rfl⟩ rfl rfl (Nat.le_of_ble_eq_true rfl) dX6_copy_8 (fun s12 => ?_)
  refine J_aload_n hX dX6_copy_11 rfl ?_
  refine J_getr hX hE 0 1 rfl rfl fl_X6_20 dX6_copy_12 ?_
  refine J_aload_n hX dX6_copy_15 rfl ?_
  refine J_getr hX hE 17 1 rfl rfl fl_X6_20 dX6_copy_16 ?_
  refine J_cVV hX hE 3 (C_X4_copy hG (hE.sb [3, 4, 20, 21] sb_104) s12) mw_X4_copy ml_X6_58 rfl rfl rfl ⟨Nat.le_of_ble_eq_true rfl, Nat.le_of_ble_eq_true rfl⟩ rfl rfl (Nat.le_of_ble_eq_true rfl) dX6_copy_19 (fun s13 => ?_)
  refine J_aload_n hX dX6_copy_22 rfl ?_
  refine J_getr hX hE 0 2 rfl rfl fl_X6_23 dX6_copy_23 ?_
  refine J_aload_n hX dX6_copy_26 rfl ?_
  refine J_getr hX hE 17 2 rfl rfl fl_X6_23 dX6_copy_27 ?_
  refine J_cVV hX hE 5 (C_X4_copy hG (hE.sb [5, 6, 22, 23] sb_105) s13) mw_X4_copy ml_X6_58 rfl rfl rfl ⟨Nat.le_of_ble_eq_true rfl, Nat.le_of_ble_eq_true rfl⟩ rfl rfl (Nat.le_of_ble_eq_true rfl) dX6_copy_30 (fun s14 => ?_)
  refine J_aload_n hX dX6_copy_33 rfl ?_
  refine J_getr hX hE 0 3 rfl rfl fl_X6_26 dX6_copy_34 ?_
  refine J_aload_n hX dX6_copy_37 rfl ?_
  refine J_getr hX hE 17 3 rfl rfl fl_X6_26 dX6_copy_38 ?_
  refine J_cVV hX hE 7 (C_X4_copy hG (hE.sb [7, 8, 24, 25] sb_106) s14) mw_X4_copy ml_X6_58 rfl rfl rfl ⟨Nat.le_of_ble_eq_true rfl, Nat.le_of_ble_eq_true rfl⟩ rfl rfl (Nat.le_of_ble_eq_true rfl) dX6_copy_41 (fun s15 => ?_)
  refine J_aload_n hX dX6_copy_44 rfl ?_
  refine J_getr hX hE 0 4 rfl rfl fl_X6_29 dX6_copy_45 ?_
  refine J_aload_n hX dX6_copy_48 rfl ?_
  refine J_getr hX hE 17 4 rfl rfl fl_X6_29 dX6_copy_49 ?_
  refine J_cVV hX hE 9 (C_X4_copy hG (hE.sb [9, 10, 26, 27] sb_107) s15) mw_X4_copy ml_X6_58 rfl rfl rfl ⟨Nat.le_of_ble_eq_true rfl, Nat.le_of_ble_eq_true rfl⟩ rfl rfl (Nat.le_of_ble_eq_true rfl) dX6_copy_52 (fun s16 => ?_)
  refine J_aload_n hX dX6_copy_55 rfl ?_
  refine J_getr hX hE 0 5 rfl rfl fl_X6_32 dX6_copy_56 ?_
  refine J_aload_n hX dX6_copy_59 rfl ?_
  refine J_getr hX hE 17 5 rfl rfl fl_X6_32 dX6_copy_60 ?_
  refine J_cVV hX hE 11 (C_X4_copy hG (hE.sb [11, 12, 28, 29] sb_108) s16) mw_X4_copy ml_X6_58 rfl rfl rfl ⟨Nat.le_of_ble_eq_true rfl, Nat.le_of_ble_eq_true rfl⟩ rfl rfl (Nat.le_of_ble_eq_true rfl) dX6_copy_63 (fun s17 => ?_)
  refine J_aload_n hX dX6_copy_66 rfl ?_
  refine J_getr hX hE 0 6 rfl rfl fl_X6_35 dX6_copy_67 ?_
  refine J_aload_n hX dX6_copy_70 rfl ?_
  refine J_getr hX hE 17 6 rfl rfl fl_X6_35 dX6_copy_71 ?_
  refine J_cVV hX hE 13 (C_X4_copy hG (hE.sb [13, 14, 30, 31] sb_109) s17) mw_X4_copy ml_X6_58 rfl rfl rfl ⟨Nat.le_of_ble_eq_true rfl, Nat.le_of_ble_eq_true rfl⟩ rfl rfl (Nat.le_of_ble_eq_true rfl) dX6_copy_74 (fun s18 => ?_)
  refine J_aload_n hX dX6_copy_77 rfl ?_
  refine J_getr hX hE 0 7 rfl rfl fl_X6_38 dX6_copy_78 ?_
  refine J_aload_n hX dX6_copy_81 rfl ?_
  refine J_getr hX hE 17 7 rfl rfl fl_X6_38 dX6_copy_82 ?_
  refine J_cVV hX hE 15 (C_X4_copy hG (hE.sb [15, 16, 32, 33] sb_110) s18) mw_X4_copy ml_X6_58 rfl rfl rfl ⟨Nat.le_of_ble_eq_true rfl, Nat.le_of_ble_eq_true rfl⟩ rfl rfl (Nat.le_of_ble_eq_true rfl) dX6_copy_85 (fun s19 => ?_)
  refine J_aload_n hX dX6_copy_88 rfl ?_
  refine J_aload_n hX dX6_copy_89 rfl ?_
  refine J_geti hX hE 17 8 rfl rfl fl_X6_48 dX6_copy_90 ?_
  refine J_puti hX hE 0 8 rfl rfl fp_X6_48 dX6_copy_93 ?_
  refine J_bdS (fun s20 => ?_)
  refine J_aload_n hX dX6_copy_96 rfl ?_
  refine J_aload_n hX dX6_copy_97 rfl ?_
  refine J_geti hX hE 17 9 rfl rfl fl_X6_52 dX6_copy_98 ?_
  refine J_puti hX hE 0 9 rfl rfl fp_X6_52 dX6_copy_101 ?_
  refine J_bdS (fun s21 => ?_)
  refine J_aload_n hX dX6_copy_104 rfl ?_
  refine J_aload_n hX dX6_copy_105 rfl ?_
  refine J_geti hX hE 17 10 rfl rfl fl_X6_55 dX6_copy_106 ?_
  refine J_puti hX hE 0 10 rfl rfl fp_X6_55 dX6_copy_109 ?_
  refine J_bdS (fun s22 => ?_)
  exact J_vret hX hM dX6_copy_112
theorem mw_X6_copy : jMV Y_X6_copy 1 := ⟨⟨tw_tb (List.mem_of_getElem? (i := 556) (by decide +kernel)) (by decide +kernel), tw_tb (List.mem_of_getElem? (i := 557) (by decide +kernel)) (by decide +kernel), tw_tb (List.mem_of_getElem? (i := 5) (by decide +kernel)) (by decide +kernel), tw_tb (List.mem_of_getElem? (i := 558) (by decide +kernel)) (by decide +kernel)⟩, ⟨rfl, rfl⟩, by decide +kernel, by decide +kernel, by decide +kernel⟩
-- X5_readQuay
noncomputable def f_X5_readQuay_L16 (nm : Nat → Nat) (s : (Int32 × jS)) : Option ((Int32 × jS) ⊕ jS) :=
  match s with
  | (v2, σ) =>
    if 400 ≤ v2 then
      some (.inr σ)
    else
      (f_X3_hasMore (jn nm [29, 1, 2]) σ).bind (fun x => match x with
      | (q3, s4) =>
        if q3 = 0 then
          some (.inr s4)
        else
          (f_X5_readQuayClause (jn nm [0, 1, 2, 3, 4, 5, 6, 7, 8, 9, 10, 11, 12, 13, 14, 15, 16, 17, 18, 19, 20, 21, 22, 23, 24, 25, 26, 27, 28, 29]) s4).bind (fun s5 =>
            some (.inl (v2 + 1, s5))))
noncomputable def f_X5_readQuay_J43 (nm : Nat → Nat) (σ : jS) : Option (Int32 × jS) :=
  (f_X4_empty (jn nm [1, 2]) 400 σ).bind (fun s7 =>
    (f_X3_hasFault (jn nm [29, 1, 2]) s7).bind (fun q8 =>
      if q8 = 0 then
        (f_X6_fillUntold (jn nm [3, 4, 5, 6, 7, 8, 9, 10, 11, 12, 13, 14, 15, 16, 17, 18, 19]) s7).bind (fun s9 =>
          (f_X6_copy (jn nm [30, 31, 32, 33, 34, 35, 36, 37, 38, 39, 40, 41, 42, 43, 44, 45, 46, 3, 4, 5, 6, 7, 8, 9, 10, 11, 12, 13, 14, 15, 16, 17, 18, 19]) s9).bind (fun s10 =>
            (f_X6_lamps (jn nm [30, 31, 32, 33, 34, 35, 36, 37, 38, 39, 40, 41, 42, 43, 44, 45, 46]) s10).bind (fun q11 =>
              some (q11, s10))))
      else
        some ((-10) - (g_i s7 (nm 29) 4), s7)))
noncomputable def f_X5_readQuay (nm : Nat → Nat) (σ : jS) : Option (Int32 × jS) :=
  (f_X6_empty (jn nm [3, 4, 5, 6, 7, 8, 9, 10, 11, 12, 13, 14, 15, 16, 17, 18, 19]) σ).bind (fun s1 =>
    (f_X3_start (jn nm [29, 1, 2]) s1).bind (fun s2 =>
      (lp (f_X5_readQuay_L16 nm) fu (0, s2)).bind (fun s6 =>
        f_X5_readQuay_J43 nm s6)))
abbrev Y_X5_readQuay : jY := (yX5_readQuay, cX5_readQuay, 3, some .int, { frames := 6, cells := 0, slots := 0, locals := 127 })
theorem C_X5_readQuay {l : Launch} {G : jG} {nm : Nat → Nat} (hG : jWL G) (hE : jE G nm LS_X5_X6) (σ : jS) : jC r_I l G Y_X5_readQuay [.ref (jad G (nm 0)), .ref (jad G (nm 30))] σ (f_X5_readQuay nm σ) := by
  refine jw_met hG pn_X5 (Nat.le_of_ble_eq_true rfl) ⟨rfl, rfl⟩ ?_
  intro X hX hM
  have hX : jB X l G cX5_readQuay RX5 3 { frames := 6, cells := 0, slots := 0, locals := 127 } := hX
  have hM : jM X (some .int) := hM
  show J X 0 [(0, .ref (jad G (nm 0))), (1, .ref (jad G (nm 30)))] [] σ (f_X5_readQuay nm σ) (jk r_I X)
  have hJ43 : ∀ (σ : jS), J X 43 [(0, .ref (jad G (nm 0))), (1, .ref (jad G (nm 30)))] [] σ (f_X5_readQuay_J43 nm σ) (jk r_I X) := by
    intro σ
    unfold f_X5_readQuay_J43
    refine J_aload_n hX dX5_readQuay_43 rfl ?_
    refine J_getr hX hE 0 0 rfl rfl fl_X5_34 dX5_readQuay_44 ?_
    refine J_cVV hX hE 1 (C_X4_empty hG (hE.sb [1, 2] sb_113) σ) mw_X4_empty ml_X5_63 rfl rfl rfl ⟨Nat.le_of_ble_eq_true rfl, Nat.le_of_ble_eq_true rfl⟩ rfl rfl (Nat.le_of_ble_eq_true rfl) dX5_readQuay_47 (fun s12 => ?_)
    refine J_aload_n hX dX5_readQuay_50 rfl ?_
    refine J_getr hX hE 0 1 rfl rfl fl_X5_42 dX5_readQuay_51 ?_
    refine J_cVP hX hE 29 (C_X3_hasFault hG (hE.sb [29, 1, 2] sb_74) s12) mw_X3_hasFault ml_X5_64 rfl rfl rfl ⟨Nat.le_of_ble_eq_true rfl, Nat.le_of_ble_eq_true rfl⟩ rfl rfl (Nat.le_of_ble_eq_true rfl) dX5_readQuay_54 (fun q13 => ?_)
    refine J_if_eq hX dX5_readQuay_57 (tgt := 71) rfl (fun _ => ?_) (fun _ => ?_)
    · refine J_aload_n hX dX5_readQuay_71 rfl ?_
      refine J_getr hX hE 0 2 rfl rfl fl_X5_12 dX5_readQuay_72 ?_
      refine J_cVV hX hE 3 (C_X6_fillUntold hG (hE.sb [3, 4, 5, 6, 7, 8, 9, 10, 11, 12, 13, 14, 15, 16, 17, 18, 19] sb_111) s12) mw_X6_fillUntold ml_X5_70 rfl rfl rfl ⟨Nat.le_of_ble_eq_true rfl, Nat.le_of_ble_eq_true rfl⟩ rfl rfl (Nat.le_of_ble_eq_true rfl) dX5_readQuay_75 (fun s14 => ?_)
      refine J_aload_n hX dX5_readQuay_78 rfl ?_
      refine J_aload_n hX dX5_readQuay_79 rfl ?_
      refine J_getr hX hE 0 2 rfl rfl fl_X5_12 dX5_readQuay_80 ?_
      refine J_cVV hX hE 30 (C_X6_copy hG (hE.sb [30, 31, 32, 33, 34, 35, 36, 37, 38, 39, 40, 41, 42, 43, 44, 45, 46, 3, 4, 5, 6, 7, 8, 9, 10, 11, 12, 13, 14, 15, 16, 17, 18, 19] sb_114) s14) mw_X6_copy ml_X5_73 rfl rfl rfl ⟨Nat.le_of_ble_eq_true rfl, Nat.le_of_ble_eq_true rfl⟩ rfl rfl (Nat.le_of_ble_eq_true rfl) dX5_readQuay_83 (fun s15 => ?_)
      refine J_aload_n hX dX5_readQuay_86 rfl ?_
      refine J_cVP hX hE 30 (C_X6_lamps hG (hE.sb [30, 31, 32, 33, 34, 35, 36, 37, 38, 39, 40, 41, 42, 43, 44, 45, 46] sb_75) s15) mw_X6_lamps ml_X5_77 rfl rfl rfl ⟨Nat.le_of_ble_eq_true rfl, Nat.le_of_ble_eq_true rfl⟩ rfl rfl (Nat.le_of_ble_eq_true rfl) dX5_readQuay_87 (fun q16 => ?_)
      exact J_iret hX hM dX5_readQuay_90
    · refine J_bipush hX dX5_readQuay_60 kb_m10 ?_
      refine J_aload_n hX dX5_readQuay_62 rfl ?_
      refine J_getr hX hE 0 1 rfl rfl fl_X5_42 dX5_readQuay_63 ?_
      refine J_geti hX hE 29 4 rfl rfl fl_X5_67 dX5_readQuay_66 ?_
      refine J_isub hX dX5_readQuay_69 ?_
      exact J_iret hX hM dX5_readQuay_70
  unfold f_X5_readQuay
  refine J_aload_n hX dX5_readQuay_0 rfl ?_
  refine J_getr hX hE 0 2 rfl rfl fl_X5_12 dX5_readQuay_1 ?_
  refine J_cVV hX hE 3 (C_X6_empty hG (hE.sb [3, 4, 5, 6, 7, 8, 9, 10, 11, 12, 13, 14, 15, 16, 17, 18, 19] sb_111) σ) mw_X6_empty ml_X5_50 rfl rfl rfl ⟨Nat.le_of_ble_eq_true rfl, Nat.le_of_ble_eq_true rfl⟩ rfl rfl (Nat.le_of_ble_eq_true rfl) dX5_readQuay_4 (fun s17 => ?_)
  refine J_aload_n hX dX5_readQuay_7 rfl ?_
  refine J_getr hX hE 0 1 rfl rfl fl_X5_42 dX5_readQuay_8 ?_
  refine J_cVV hX hE 29 (C_X3_start hG (hE.sb [29, 1, 2] sb_74) s17) mw_X3_start ml_X5_53 rfl rfl rfl ⟨Nat.le_of_ble_eq_true rfl, Nat.le_of_ble_eq_true rfl⟩ rfl rfl (Nat.le_of_ble_eq_true rfl) dX5_readQuay_11 (fun s18 => ?_)
  refine J_iconst hX dX5_readQuay_14 k_i0 ?_
  refine J_istore_n hX dX5_readQuay_15 (Nat.le_of_ble_eq_true rfl) (lv' := [(0, .ref (jad G (nm 0))), (1, .ref (jad G (nm 30))), (2, .int 0)]) rfl ?_
  refine J_keep [0, 1, 2] (lv' := [(0, .ref (jad G (nm 0))), (1, .ref (jad G (nm 30))), (2, .int 0)]) rfl ?_
  refine J_lp (pc := 16) (s0 := (0, s18)) (fun (s : (Int32 × jS)) => [(0, .ref (jad G (nm 0))), (1, .ref (jad G (nm 30))), (2, .int (s.1))]) (fun (s : (Int32 × jS)) => s.2) ?_
  intro KK16 hN16 hQ16 z16
  obtain ⟨v2_16, σ_16⟩ := z16
  show J X 16 [(0, .ref (jad G (nm 0))), (1, .ref (jad G (nm 30))), (2, .int v2_16)] [] σ_16 (f_X5_readQuay_L16 nm (v2_16, σ_16)) KK16
  unfold f_X5_readQuay_L16
  refine J_iload_n hX dX5_readQuay_16 rfl ?_
  refine J_sipush hX dX5_readQuay_17 ks_400 ?_
  refine J_icmp_ge hX dX5_readQuay_20 (tgt := 43) rfl (fun _ => ?_) (fun _ => ?_)
  · refine hQ16 _ _ _ _ _ ?_
    exact J_keep [0, 1] rfl (hJ43 σ_16)
  · refine J_aload_n hX dX5_readQuay_23 rfl ?_
    refine J_getr hX hE 0 1 rfl rfl fl_X5_42 dX5_readQuay_24 ?_
    refine J_cVI hX hE 29 (C_X3_hasMore hG (hE.sb [29, 1, 2] sb_74) σ_16) mw_X3_hasMore ml_X5_56 rfl rfl rfl ⟨Nat.le_of_ble_eq_true rfl, Nat.le_of_ble_eq_true rfl⟩ rfl rfl (Nat.le_of_ble_eq_true rfl) dX5_readQuay_27 (fun q19 s20 => ?_)
    refine J_if_eq hX dX5_readQuay_30 (tgt := 43) rfl (fun _ => ?_) (fun _ => ?_)
    · refine hQ16 _ _ _ _ _ ?_
      exact J_keep [0, 1] rfl (hJ43 s20)
    · refine J_aload_n hX dX5_readQuay_33 rfl ?_
      refine J_cVV hX hE 0 (C_X5_readQuayClause hG (hE.sb [0, 1, 2, 3, 4, 5, 6, 7, 8, 9, 10, 11, 12, 13, 14, 15, 16, 17, 18, 19, 20, 21, 22, 23, 24, 25, 26, 27, 28, 29] sb_112) s20) mw_X5_readQuayClause ml_X5_60 rfl rfl rfl ⟨Nat.le_of_ble_eq_true rfl, Nat.le_of_ble_eq_true rfl⟩ rfl rfl (Nat.le_of_ble_eq_true rfl) dX5_readQuay_34 (fun s21 => ?_)
      refine J_iinc hX dX5_readQuay_37 rfl (congrArg (_ + ·) k_i1) (Nat.le_of_ble_eq_true rfl) (lv' := [(0, .ref (jad G (nm 0))), (1, .ref (jad G (nm 30))), (2, .int (v2_16 + 1))]) rfl ?_
      refine J_goto hX dX5_readQuay_40 (tgt := 16) rfl ?_
      exact J_keep [0, 1, 2] rfl (hN16 (v2_16 + 1, s21))
theorem mw_X5_readQuay : jMV Y_X5_readQuay 1 := ⟨⟨tw_tb (List.mem_of_getElem? (i := 418) (by decide +kernel)) (by decide +kernel), tw_tb (List.mem_of_getElem? (i := 419) (by decide +kernel)) (by decide +kernel), tw_tb (List.mem_of_getElem? (i := 4) (by decide +kernel)) (by decide +kernel), tw_tb (List.mem_of_getElem? (i := 420) (by decide +kernel)) (by decide +kernel)⟩, ⟨rfl, rfl⟩, by decide +kernel, by decide +kernel, by decide +kernel⟩
-- X2_startOn
noncomputable def f_X2_startOn_L2 (nm : Nat → Nat) (s : (Int32 × jS)) : Option ((Int32 × jS) ⊕ jS) :=
  match s with
  | (v1, σ) =>
    if 10 ≤ v1 then
      some (.inr σ)
    else
      (f_X4_at (jn nm [4, 5]) 10 v1 σ).bind (fun q1 =>
        gd (vp_in v1 10) (bd (s_i σ (nm 18) v1.toNatClampNeg q1) (fun s2 =>
          some (.inl (v1 + 1, s2)))))
noncomputable def f_X2_startOn (nm : Nat → Nat) (σ : jS) : Option jS :=
  (lp (f_X2_startOn_L2 nm) fu (0, σ)).bind (fun s3 =>
    bd (s_i s3 (nm 0) 6 0) (fun s4 =>
      bd (s_i s4 (nm 0) 7 0) (fun s5 =>
        (f_X2_darken nm s5).bind (fun s6 =>
          some s6))))
abbrev Y_X2_startOn : jY := (yX2_startOn, cX2_startOn, 2, none, { frames := 1, cells := 0, slots := 0, locals := 21 })
theorem C_X2_startOn {l : Launch} {G : jG} {nm : Nat → Nat} (hG : jWL G) (hE : jE G nm LS_X2) (σ : jS) : jC r_V l G Y_X2_startOn [.ref (jad G (nm 0))] σ (f_X2_startOn nm σ) := by
  refine jw_met hG pn_X2 (Nat.le_of_ble_eq_true rfl) ⟨rfl, rfl⟩ ?_
  intro X hX hM
  have hX : jB X l G cX2_startOn RX2 2 { frames := 1, cells := 0, slots := 0, locals := 21 } := hX
  have hM : jM X (none) := hM
  show J X 0 [(0, .ref (jad G (nm 0)))] [] σ (f_X2_startOn nm σ) (jk r_V X)
  unfold f_X2_startOn
  refine J_iconst hX dX2_startOn_0 k_i0 ?_
  refine J_istore_n hX dX2_startOn_1 (Nat.le_of_ble_eq_true rfl) (lv' := [(0, .ref (jad G (nm 0))), (1, .int 0)]) rfl ?_
  refine J_keep [0, 1] (lv' := [(0, .ref (jad G (nm 0))), (1, .int 0)]) rfl ?_
  refine J_lp (pc := 2) (s0 := (0, σ)) (fun (s : (Int32 × jS)) => [(0, .ref (jad G (nm 0))), (1, .int (s.1))]) (fun (s : (Int32 × jS)) => s.2) ?_
  intro KK2 hN2 hQ2 z2
  obtain ⟨v1_2, σ_2⟩ := z2
  show J X 2 [(0, .ref (jad G (nm 0))), (1, .int v1_2)] [] σ_2 (f_X2_startOn_L2 nm (v1_2, σ_2)) KK2
  unfold f_X2_startOn_L2
  refine J_iload_n hX dX2_startOn_2 rfl ?_
  refine J_bipush hX dX2_startOn_3 kb_10 ?_
  refine J_icmp_ge hX dX2_startOn_5 (tgt := 31) rfl (fun _ => ?_) (fun _ => ?_)
  · refine hQ2 _ _ _ _ _ ?_
    refine J_aload_n hX dX2_startOn_31 rfl ?_
    refine J_iconst hX dX2_startOn_32 k_i0 ?_
    refine J_puti hX hE 0 6 rfl rfl fp_X2_40 dX2_startOn_33 ?_
    refine J_bdS (fun s7 => ?_)
    refine J_aload_n hX dX2_startOn_36 rfl ?_
    refine J_iconst hX dX2_startOn_37 k_i0 ?_
    refine J_puti hX hE 0 7 rfl rfl fp_X2_44 dX2_startOn_38 ?_
    refine J_bdS (fun s8 => ?_)
    refine J_aload_n hX dX2_startOn_41 rfl ?_
    refine J_cVV hX hE 0 (C_X2_darken hG hE s8) mw_X2_darken ml_X2_47 rfl rfl rfl ⟨Nat.le_of_ble_eq_true rfl, Nat.le_of_ble_eq_true rfl⟩ rfl rfl (Nat.le_of_ble_eq_true rfl) dX2_startOn_42 (fun s9 => ?_)
    exact J_vret hX hM dX2_startOn_45
  · refine J_aload_n hX dX2_startOn_8 rfl ?_
    refine J_getr hX hE 0 1 rfl rfl fl_X2_9 dX2_startOn_9 ?_
    refine J_iload_n hX dX2_startOn_12 rfl ?_
    refine J_aload_n hX dX2_startOn_13 rfl ?_
    refine J_getr hX hE 0 0 rfl rfl fl_X2_24 dX2_startOn_14 ?_
    refine J_getr hX hE 1 1 rfl rfl fl_X2_28 dX2_startOn_17 ?_
    refine J_iload_n hX dX2_startOn_20 rfl ?_
    refine J_cVP hX hE 4 (C_X4_at hG (hE.sb [4, 5] sb_115) v1_2 σ_2) mw_X4_at ml_X2_34 rfl rfl rfl ⟨Nat.le_of_ble_eq_true rfl, Nat.le_of_ble_eq_true rfl⟩ rfl rfl (Nat.le_of_ble_eq_true rfl) dX2_startOn_21 (fun q10 => ?_)
    refine J_iast hX hE 18 rfl dX2_startOn_24 (fun _ => ?_)
    refine J_bdS (fun s11 => ?_)
    refine J_iinc hX dX2_startOn_25 rfl (congrArg (_ + ·) k_i1) (Nat.le_of_ble_eq_true rfl) (lv' := [(0, .ref (jad G (nm 0))), (1, .int (v1_2 + 1))]) rfl ?_
    refine J_goto hX dX2_startOn_28 (tgt := 2) rfl ?_
    exact J_keep [0, 1] rfl (hN2 (v1_2 + 1, s11))
theorem mw_X2_startOn : jMV Y_X2_startOn 0 := ⟨⟨tw_tb (List.mem_of_getElem? (i := 344) (by decide +kernel)) (by decide +kernel), tw_tb (List.mem_of_getElem? (i := 345) (by decide +kernel)) (by decide +kernel), tw_tb (List.mem_of_getElem? (i := 8) (by decide +kernel)) (by decide +kernel), tw_tb (List.mem_of_getElem? (i := 346) (by decide +kernel)) (by decide +kernel)⟩, ⟨rfl, rfl⟩, by decide +kernel, by decide +kernel, by decide +kernel⟩
-- X10_quay
noncomputable def f_X10_quay (nm : Nat → Nat) (σ : jS) : Option (Int32 × jS) :=
  (f_X5_readQuay (jn nm [3, 1, 2, 4, 5, 6, 7, 8, 9, 10, 11, 12, 13, 14, 15, 16, 17, 18, 19, 20, 21, 22, 23, 24, 25, 26, 27, 28, 29, 30, 31, 32, 33, 34, 35, 36, 37, 38, 39, 40, 41, 42, 43, 44, 45, 46, 47]) σ).bind (fun x => match x with
  | (q1, s2) =>
    if 0 ≤ q1 then
      (f_X2_startOn (jn nm [57, 31, 32, 33, 34, 35, 36, 37, 38, 39, 40, 41, 42, 43, 44, 45, 46, 47, 58, 59, 60, 61]) s2).bind (fun s3 =>
        (f_X7_empty (jn nm [48, 49, 50, 51, 52, 53, 54]) s3).bind (fun s4 =>
          (f_X4_empty (jn nm [77, 78]) 8 s4).bind (fun s5 =>
            (f_X4_empty (jn nm [79, 80]) 40 s5).bind (fun s6 =>
              bd (s_i s6 (nm 67) 9 0) (fun s7 =>
                bd (s_i s7 (nm 72) 9 0) (fun s8 =>
                  bd (s_i s8 (nm 91) 7 0) (fun s9 =>
                    some (q1, s9))))))))
    else
      some (q1, s2))
abbrev Y_X10_quay : jY := (yX10_quay, cX10_quay, 2, some .int, { frames := 7, cells := 0, slots := 0, locals := 149 })
theorem C_X10_quay {l : Launch} {G : jG} {nm : Nat → Nat} (hG : jWL G) (hE : jE G nm LS_X10) (σ : jS) : jC r_I l G Y_X10_quay [.ref (jad G (nm 0))] σ (f_X10_quay nm σ) := by
  refine jw_met hG pn_X10 (Nat.le_of_ble_eq_true rfl) ⟨rfl, rfl⟩ ?_
  intro X hX hM
  have hX : jB X l G cX10_quay RX10 2 { frames := 7, cells := 0, slots := 0, locals := 149 } := hX
  have hM : jM X (some .int) := hM
  show J X 0 [(0, .ref (jad G (nm 0)))] [] σ (f_X10_quay nm σ) (jk r_I X)
  unfold f_X10_quay
  refine J_aload_n hX dX10_quay_0 rfl ?_
  refine J_getr hX hE 0 1 rfl rfl fl_X10_23 dX10_quay_1 ?_
  refine J_aload_n hX dX10_quay_4 rfl ?_
  refine J_getr hX hE 0 2 rfl rfl fl_X10_30 dX10_quay_5 ?_
  refine J_cVI hX hE 3 (C_X5_readQuay hG (hE.sb [3, 1, 2, 4, 5, 6, 7, 8, 9, 10, 11, 12, 13, 14, 15, 16, 17, 18, 19, 20, 21, 22, 23, 24, 25, 26, 27, 28, 29, 30, 31, 32, 33, 34, 35, 36, 37, 38, 39, 40, 41, 42, 43, 44, 45, 46, 47] sb_116) σ) mw_X5_readQuay ml_X10_113 rfl rfl rfl ⟨Nat.le_of_ble_eq_true rfl, Nat.le_of_ble_eq_true rfl⟩ rfl rfl (Nat.le_of_ble_eq_true rfl) dX10_quay_8 (fun q10 s11 => ?_)
  refine J_istore_n hX dX10_quay_11 (Nat.le_of_ble_eq_true rfl) (lv' := [(0, .ref (jad G (nm 0))), (1, .int q10)]) rfl ?_
  refine J_iload_n hX dX10_quay_12 rfl ?_
  refine J_if_ge hX dX10_quay_13 (tgt := 18) rfl (fun _ => ?_) (fun _ => ?_)
  · refine J_aload_n hX dX10_quay_18 rfl ?_
    refine J_getr hX hE 0 5 rfl rfl fl_X10_49 dX10_quay_19 ?_
    refine J_cVV hX hE 57 (C_X2_startOn hG (hE.sb [57, 31, 32, 33, 34, 35, 36, 37, 38, 39, 40, 41, 42, 43, 44, 45, 46, 47, 58, 59, 60, 61] sb_23) s11) mw_X2_startOn ml_X10_103 rfl rfl rfl ⟨Nat.le_of_ble_eq_true rfl, Nat.le_of_ble_eq_true rfl⟩ rfl rfl (Nat.le_of_ble_eq_true rfl) dX10_quay_22 (fun s12 => ?_)
    refine J_aload_n hX dX10_quay_25 rfl ?_
    refine J_getr hX hE 0 3 rfl rfl fl_X10_37 dX10_quay_26 ?_
    refine J_cVV hX hE 48 (C_X7_empty hG (hE.sb [48, 49, 50, 51, 52, 53, 54] sb_117) s12) mw_X7_empty ml_X10_117 rfl rfl rfl ⟨Nat.le_of_ble_eq_true rfl, Nat.le_of_ble_eq_true rfl⟩ rfl rfl (Nat.le_of_ble_eq_true rfl) dX10_quay_29 (fun s13 => ?_)
    refine J_aload_n hX dX10_quay_32 rfl ?_
    refine J_getr hX hE 0 9 rfl rfl fl_X10_62 dX10_quay_33 ?_
    refine J_cVV hX hE 77 (C_X4_empty hG (hE.sb [77, 78] sb_19) s13) mw_X4_empty ml_X10_120 rfl rfl rfl ⟨Nat.le_of_ble_eq_true rfl, Nat.le_of_ble_eq_true rfl⟩ rfl rfl (Nat.le_of_ble_eq_true rfl) dX10_quay_36 (fun s14 => ?_)
    refine J_aload_n hX dX10_quay_39 rfl ?_
    refine J_getr hX hE 0 10 rfl rfl fl_X10_65 dX10_quay_40 ?_
    refine J_cVV hX hE 79 (C_X4_empty hG (hE.sb [79, 80] sb_22) s14) mw_X4_empty ml_X10_120 rfl rfl rfl ⟨Nat.le_of_ble_eq_true rfl, Nat.le_of_ble_eq_true rfl⟩ rfl rfl (Nat.le_of_ble_eq_true rfl) dX10_quay_43 (fun s15 => ?_)
    refine J_aload_n hX dX10_quay_46 rfl ?_
    refine J_getr hX hE 0 7 rfl rfl fl_X10_56 dX10_quay_47 ?_
    refine J_iconst hX dX10_quay_50 k_i0 ?_
    refine J_putz hX hE 67 9 jn_0 jf_0 rfl rfl fp_X10_121 dX10_quay_51 ?_
    refine J_bdS (fun s16 => ?_)
    refine J_aload_n hX dX10_quay_54 rfl ?_
    refine J_getr hX hE 0 8 rfl rfl fl_X10_59 dX10_quay_55 ?_
    refine J_iconst hX dX10_quay_58 k_i0 ?_
    refine J_putz hX hE 72 9 jn_0 jf_0 rfl rfl fp_X10_121 dX10_quay_59 ?_
    refine J_bdS (fun s17 => ?_)
    refine J_aload_n hX dX10_quay_62 rfl ?_
    refine J_getr hX hE 0 13 rfl rfl fl_X10_87 dX10_quay_63 ?_
    refine J_iconst hX dX10_quay_66 k_i0 ?_
    refine J_putz hX hE 91 7 jn_0 jf_0 rfl rfl fp_X10_125 dX10_quay_67 ?_
    refine J_bdS (fun s18 => ?_)
    refine J_iload_n hX dX10_quay_70 rfl ?_
    exact J_iret hX hM dX10_quay_71
  · refine J_iload_n hX dX10_quay_16 rfl ?_
    exact J_iret hX hM dX10_quay_17
theorem mw_X10_quay : jMV Y_X10_quay 0 := ⟨⟨tw_tb (List.mem_of_getElem? (i := 414) (by decide +kernel)) (by decide +kernel), tw_tb (List.mem_of_getElem? (i := 415) (by decide +kernel)) (by decide +kernel), tw_tb (List.mem_of_getElem? (i := 1) (by decide +kernel)) (by decide +kernel), tw_tb (List.mem_of_getElem? (i := 416) (by decide +kernel)) (by decide +kernel)⟩, ⟨rfl, rfl⟩, by decide +kernel, by decide +kernel, by decide +kernel⟩
-- X8_step
noncomputable def f_X8_step (nm : Nat → Nat) (v1 : Int32) (σ : jS) : Option Int32 :=
  if (g_i σ (nm 0) 6) = 0 then
    some (-1)
  else
    if v1 < 0 then
      some (-1)
    else
      (f_X4_size (jn nm [7, 8]) 59 σ).bind (fun q1 =>
        if q1 ≤ v1 then
          some (-1)
        else
          (f_X4_at (jn nm [7, 8]) 59 v1 σ).bind (fun q2 =>
            some q2))
abbrev Y_X8_step : jY := (yX8_step, cX8_step, 2, some .int, { frames := 1, cells := 0, slots := 0, locals := 21 })
theorem C_X8_step {l : Launch} {G : jG} {nm : Nat → Nat} (hG : jWL G) (hE : jE G nm LS_X8) (v1 : Int32) (σ : jS) : jC (r_P σ) l G Y_X8_step [.ref (jad G (nm 0)), .int v1] σ (f_X8_step nm v1 σ) := by
  refine jw_met hG pn_X8 (Nat.le_of_ble_eq_true rfl) ⟨rfl, rfl⟩ ?_
  intro X hX hM
  have hX : jB X l G cX8_step RX8 2 { frames := 1, cells := 0, slots := 0, locals := 21 } := hX
  have hM : jM X (some .int) := hM
  show J X 0 [(0, .ref (jad G (nm 0))), (1, .int v1)] [] σ (f_X8_step nm v1 σ) (jk (r_P σ) X)
  unfold f_X8_step
  refine J_aload_n hX dX8_step_0 rfl ?_
  refine J_geti hX hE 0 6 rfl rfl fl_X8_35 dX8_step_1 ?_
  refine J_if_eq hX dX8_step_4 (tgt := 33) rfl (fun _ => ?_) (fun _ => ?_)
  · refine J_iconst hX dX8_step_33 k_im1 ?_
    exact J_iretP hX hM dX8_step_34
  · refine J_iload_n hX dX8_step_7 rfl ?_
    refine J_if_lt hX dX8_step_8 (tgt := 33) rfl (fun _ => ?_) (fun _ => ?_)
    · refine J_iconst hX dX8_step_33 k_im1 ?_
      exact J_iretP hX hM dX8_step_34
    · refine J_iload_n hX dX8_step_11 rfl ?_
      refine J_aload_n hX dX8_step_12 rfl ?_
      refine J_getr hX hE 0 4 rfl rfl fl_X8_28 dX8_step_13 ?_
      refine J_cVP hX hE 7 (C_X4_size hG (hE.sb [7, 8] sb_35) σ) mw_X4_size ml_X8_39 rfl rfl rfl ⟨Nat.le_of_ble_eq_true rfl, Nat.le_of_ble_eq_true rfl⟩ rfl rfl (Nat.le_of_ble_eq_true rfl) dX8_step_16 (fun q3 => ?_)
      refine J_icmp_ge hX dX8_step_19 (tgt := 33) rfl (fun _ => ?_) (fun _ => ?_)
      · refine J_iconst hX dX8_step_33 k_im1 ?_
        exact J_iretP hX hM dX8_step_34
      · refine J_aload_n hX dX8_step_22 rfl ?_
        refine J_getr hX hE 0 4 rfl rfl fl_X8_28 dX8_step_23 ?_
        refine J_iload_n hX dX8_step_26 rfl ?_
        refine J_cVP hX hE 7 (C_X4_at hG (hE.sb [7, 8] sb_35) v1 σ) mw_X4_at ml_X8_43 rfl rfl rfl ⟨Nat.le_of_ble_eq_true rfl, Nat.le_of_ble_eq_true rfl⟩ rfl rfl (Nat.le_of_ble_eq_true rfl) dX8_step_27 (fun q4 => ?_)
        refine J_goto hX dX8_step_30 (tgt := 34) rfl ?_
        exact J_iretP hX hM dX8_step_34
theorem mw_X8_step : jMV Y_X8_step 1 := ⟨⟨tw_tb (List.mem_of_getElem? (i := 824) (by decide +kernel)) (by decide +kernel), tw_tb (List.mem_of_getElem? (i := 825) (by decide +kernel)) (by decide +kernel), tw_tb (List.mem_of_getElem? (i := 11) (by decide +kernel)) (by decide +kernel), tw_tb (List.mem_of_getElem? (i := 826) (by decide +kernel)) (by decide +kernel)⟩, ⟨rfl, rfl⟩, by decide +kernel, by decide +kernel, by decide +kernel⟩
-- X10_round
noncomputable def f_X10_round (nm : Nat → Nat) (v1 : Int32) (σ : jS) : Option (Int32 × jS) :=
  (f_X8_find (jn nm [91, 81, 82, 92, 93, 94, 95, 96, 97, 57, 31, 32, 33, 34, 35, 36, 37, 38, 39, 40, 41, 42, 43, 44, 45, 46, 47, 58, 59, 60, 61]) σ).bind (fun s1 =>
    if v1 = (-1) then
      (f_X8_minutes (jn nm [91, 81, 82, 92, 93, 94, 95, 96, 97]) s1).bind (fun q3 =>
        some (q3, s1))
    else
      (f_X8_step (jn nm [91, 81, 82, 92, 93, 94, 95, 96, 97]) v1 s1).bind (fun q2 =>
        some (q2, s1)))
abbrev Y_X10_round : jY := (yX10_round, cX10_round, 2, some .int, { frames := 5, cells := 0, slots := 0, locals := 118 })
theorem C_X10_round {l : Launch} {G : jG} {nm : Nat → Nat} (hG : jWL G) (hE : jE G nm LS_X10) (v1 : Int32) (σ : jS) : jC r_I l G Y_X10_round [.ref (jad G (nm 0)), .int v1] σ (f_X10_round nm v1 σ) := by
  refine jw_met hG pn_X10 (Nat.le_of_ble_eq_true rfl) ⟨rfl, rfl⟩ ?_
  intro X hX hM
  have hX : jB X l G cX10_round RX10 2 { frames := 5, cells := 0, slots := 0, locals := 118 } := hX
  have hM : jM X (some .int) := hM
  show J X 0 [(0, .ref (jad G (nm 0))), (1, .int v1)] [] σ (f_X10_round nm v1 σ) (jk r_I X)
  unfold f_X10_round
  refine J_aload_n hX dX10_round_0 rfl ?_
  refine J_getr hX hE 0 13 rfl rfl fl_X10_87 dX10_round_1 ?_
  refine J_aload_n hX dX10_round_4 rfl ?_
  refine J_getr hX hE 0 5 rfl rfl fl_X10_49 dX10_round_5 ?_
  refine J_cVV hX hE 91 (C_X8_find hG (hE.sb [91, 81, 82, 92, 93, 94, 95, 96, 97, 57, 31, 32, 33, 34, 35, 36, 37, 38, 39, 40, 41, 42, 43, 44, 45, 46, 47, 58, 59, 60, 61] sb_39) σ) mw_X8_find ml_X10_243 rfl rfl rfl ⟨Nat.le_of_ble_eq_true rfl, Nat.le_of_ble_eq_true rfl⟩ rfl rfl (Nat.le_of_ble_eq_true rfl) dX10_round_8 (fun s4 => ?_)
  refine J_iload_n hX dX10_round_11 rfl ?_
  refine J_iconst hX dX10_round_12 k_im1 ?_
  refine J_icmp_ne hX dX10_round_13 (tgt := 24) rfl (fun _ => ?_) (fun _ => ?_)
  · refine J_aload_n hX dX10_round_24 rfl ?_
    refine J_getr hX hE 0 13 rfl rfl fl_X10_87 dX10_round_25 ?_
    refine J_iload_n hX dX10_round_28 rfl ?_
    refine J_cVP hX hE 91 (C_X8_step hG (hE.sb [91, 81, 82, 92, 93, 94, 95, 96, 97] sb_40) v1 s4) mw_X8_step ml_X10_249 rfl rfl rfl ⟨Nat.le_of_ble_eq_true rfl, Nat.le_of_ble_eq_true rfl⟩ rfl rfl (Nat.le_of_ble_eq_true rfl) dX10_round_29 (fun q5 => ?_)
    exact J_iret hX hM dX10_round_32
  · refine J_aload_n hX dX10_round_16 rfl ?_
    refine J_getr hX hE 0 13 rfl rfl fl_X10_87 dX10_round_17 ?_
    refine J_cVP hX hE 91 (C_X8_minutes hG (hE.sb [91, 81, 82, 92, 93, 94, 95, 96, 97] sb_40) s4) mw_X8_minutes ml_X10_246 rfl rfl rfl ⟨Nat.le_of_ble_eq_true rfl, Nat.le_of_ble_eq_true rfl⟩ rfl rfl (Nat.le_of_ble_eq_true rfl) dX10_round_20 (fun q6 => ?_)
    exact J_iret hX hM dX10_round_23
theorem mw_X10_round : jMV Y_X10_round 1 := ⟨⟨tw_tb (List.mem_of_getElem? (i := 738) (by decide +kernel)) (by decide +kernel), tw_tb (List.mem_of_getElem? (i := 739) (by decide +kernel)) (by decide +kernel), tw_tb (List.mem_of_getElem? (i := 1) (by decide +kernel)) (by decide +kernel), tw_tb (List.mem_of_getElem? (i := 740) (by decide +kernel)) (by decide +kernel)⟩, ⟨rfl, rfl⟩, by decide +kernel, by decide +kernel, by decide +kernel⟩
-- X10_run
noncomputable def f_X10_run_L17 (nm : Nat → Nat) (v1 : Int32) (s : (Int32 × jS)) : Option ((Int32 × jS) ⊕ jS) :=
  match s with
  | (v2, σ) =>
    if v1 ≤ v2 then
      some (.inr σ)
    else
      (f_X2_passMinute (jn nm [57, 31, 32, 33, 34, 35, 36, 37, 38, 39, 40, 41, 42, 43, 44, 45, 46, 47, 58, 59, 60, 61, 48, 49, 50, 51, 52, 53, 54]) σ).bind (fun s2 =>
        some (.inl (v2 + 1, s2)))
noncomputable def f_X10_run (nm : Nat → Nat) (v1 : Int32) (σ : jS) : Option (Int32 × jS) :=
  (f_X10_isWithin v1 1 300).bind (fun q1 =>
    if q1 = 0 then
      some ((-1002), σ)
    else
      (lp (f_X10_run_L17 nm v1) fu (0, σ)).bind (fun s3 =>
        (f_X2_burning (jn nm [57, 31, 32, 33, 34, 35, 36, 37, 38, 39, 40, 41, 42, 43, 44, 45, 46, 47, 58, 59, 60, 61]) s3).bind (fun q4 =>
          some (q4, s3))))
abbrev Y_X10_run : jY := (yX10_run, cX10_run, 3, some .int, { frames := 4, cells := 0, slots := 0, locals := 91 })
theorem C_X10_run {l : Launch} {G : jG} {nm : Nat → Nat} (hG : jWL G) (hE : jE G nm LS_X10) (v1 : Int32) (σ : jS) : jC r_I l G Y_X10_run [.ref (jad G (nm 0)), .int v1] σ (f_X10_run nm v1 σ) := by
  refine jw_met hG pn_X10 (Nat.le_of_ble_eq_true rfl) ⟨rfl, rfl⟩ ?_
  intro X hX hM
  have hX : jB X l G cX10_run RX10 3 { frames := 4, cells := 0, slots := 0, locals := 91 } := hX
  have hM : jM X (some .int) := hM
  show J X 0 [(0, .ref (jad G (nm 0))), (1, .int v1)] [] σ (f_X10_run nm v1 σ) (jk r_I X)
  unfold f_X10_run
  refine J_iload_n hX dX10_run_0 rfl ?_
  refine J_iconst hX dX10_run_1 k_i1 ?_
  refine J_sipush hX dX10_run_2 ks_300 ?_
  refine J_cSP hX (C_X10_isWithin hG v1 1 300 σ) mw_X10_isWithin ml_X10_211 ⟨Nat.le_of_ble_eq_true rfl, Nat.le_of_ble_eq_true rfl⟩ rfl rfl (Nat.le_of_ble_eq_true rfl) dX10_run_5 (fun q5 => ?_)
  refine J_if_ne hX dX10_run_8 (tgt := 15) rfl (fun _ => ?_) (fun _ => ?_)
  · refine J_iconst hX dX10_run_15 k_i0 ?_
    refine J_istore_n hX dX10_run_16 (Nat.le_of_ble_eq_true rfl) (lv' := [(0, .ref (jad G (nm 0))), (1, .int v1), (2, .int 0)]) rfl ?_
    refine J_keep [0, 1, 2] (lv' := [(0, .ref (jad G (nm 0))), (1, .int v1), (2, .int 0)]) rfl ?_
    refine J_lp (pc := 17) (s0 := (0, σ)) (fun (s : (Int32 × jS)) => [(0, .ref (jad G (nm 0))), (1, .int v1), (2, .int (s.1))]) (fun (s : (Int32 × jS)) => s.2) ?_
    intro KK17 hN17 hQ17 z17
    obtain ⟨v2_17, σ_17⟩ := z17
    show J X 17 [(0, .ref (jad G (nm 0))), (1, .int v1), (2, .int v2_17)] [] σ_17 (f_X10_run_L17 nm v1 (v2_17, σ_17)) KK17
    unfold f_X10_run_L17
    refine J_iload_n hX dX10_run_17 rfl ?_
    refine J_iload_n hX dX10_run_18 rfl ?_
    refine J_icmp_ge hX dX10_run_19 (tgt := 39) rfl (fun _ => ?_) (fun _ => ?_)
    · refine hQ17 _ _ _ _ _ ?_
      refine J_aload_n hX dX10_run_39 rfl ?_
      refine J_getr hX hE 0 5 rfl rfl fl_X10_49 dX10_run_40 ?_
      refine J_cVP hX hE 57 (C_X2_burning hG (hE.sb [57, 31, 32, 33, 34, 35, 36, 37, 38, 39, 40, 41, 42, 43, 44, 45, 46, 47, 58, 59, 60, 61] sb_23) σ_17) mw_X2_burning ml_X10_234 rfl rfl rfl ⟨Nat.le_of_ble_eq_true rfl, Nat.le_of_ble_eq_true rfl⟩ rfl rfl (Nat.le_of_ble_eq_true rfl) dX10_run_43 (fun q6 => ?_)
      exact J_iret hX hM dX10_run_46
    · refine J_aload_n hX dX10_run_22 rfl ?_
      refine J_getr hX hE 0 5 rfl rfl fl_X10_49 dX10_run_23 ?_
      refine J_aload_n hX dX10_run_26 rfl ?_
      refine J_getr hX hE 0 3 rfl rfl fl_X10_37 dX10_run_27 ?_
      refine J_cVV hX hE 57 (C_X2_passMinute hG (hE.sb [57, 31, 32, 33, 34, 35, 36, 37, 38, 39, 40, 41, 42, 43, 44, 45, 46, 47, 58, 59, 60, 61, 48, 49, 50, 51, 52, 53, 54] sb_118) σ_17) mw_X2_passMinute ml_X10_230 rfl rfl rfl ⟨Nat.le_of_ble_eq_true rfl, Nat.le_of_ble_eq_true rfl⟩ rfl rfl (Nat.le_of_ble_eq_true rfl) dX10_run_30 (fun s7 => ?_)
      refine J_iinc hX dX10_run_33 rfl (congrArg (_ + ·) k_i1) (Nat.le_of_ble_eq_true rfl) (lv' := [(0, .ref (jad G (nm 0))), (1, .int v1), (2, .int (v2_17 + 1))]) rfl ?_
      refine J_goto hX dX10_run_36 (tgt := 17) rfl ?_
      exact J_keep [0, 1, 2] rfl (hN17 (v2_17 + 1, s7))
  · refine J_sipush hX dX10_run_11 ks_m1002 ?_
    exact J_iret hX hM dX10_run_14
theorem mw_X10_run : jMV Y_X10_run 1 := ⟨⟨tw_tb (List.mem_of_getElem? (i := 695) (by decide +kernel)) (by decide +kernel), tw_tb (List.mem_of_getElem? (i := 696) (by decide +kernel)) (by decide +kernel), tw_tb (List.mem_of_getElem? (i := 1) (by decide +kernel)) (by decide +kernel), tw_tb (List.mem_of_getElem? (i := 697) (by decide +kernel)) (by decide +kernel)⟩, ⟨rfl, rfl⟩, by decide +kernel, by decide +kernel, by decide +kernel⟩
-- X10_seed
noncomputable def f_X10_seed (nm : Nat → Nat) (v1 : Int32) (σ : jS) : Option (Int32 × jS) :=
  if 0 ≤ v1 then
    bd (g_i σ (nm 57) 8) (fun x1 =>
      bd (s_i σ (nm 57) 8 v1) (fun s2 =>
        some (x1, s2)))
  else
    some ((-1002), σ)
abbrev Y_X10_seed : jY := (yX10_seed, cX10_seed, 3, some .int, { frames := 0, cells := 0, slots := 0, locals := 0 })
theorem C_X10_seed {l : Launch} {G : jG} {nm : Nat → Nat} (hG : jWL G) (hE : jE G nm LS_X10) (v1 : Int32) (σ : jS) : jC r_I l G Y_X10_seed [.ref (jad G (nm 0)), .int v1] σ (f_X10_seed nm v1 σ) := by
  refine jw_met hG pn_X10 (Nat.le_of_ble_eq_true rfl) ⟨rfl, rfl⟩ ?_
  intro X hX hM
  have hX : jB X l G cX10_seed RX10 3 { frames := 0, cells := 0, slots := 0, locals := 0 } := hX
  have hM : jM X (some .int) := hM
  show J X 0 [(0, .ref (jad G (nm 0))), (1, .int v1)] [] σ (f_X10_seed nm v1 σ) (jk r_I X)
  unfold f_X10_seed
  refine J_iload_n hX dX10_seed_0 rfl ?_
  refine J_if_ge hX dX10_seed_1 (tgt := 8) rfl (fun _ => ?_) (fun _ => ?_)
  · refine J_aload_n hX dX10_seed_8 rfl ?_
    refine J_getr hX hE 0 5 rfl rfl fl_X10_49 dX10_seed_9 ?_
    refine J_geti hX hE 57 8 rfl rfl fl_X10_314 dX10_seed_12 ?_
    refine J_bdI (fun x3 => ?_)
    refine J_istore_n hX dX10_seed_15 (Nat.le_of_ble_eq_true rfl) (lv' := [(0, .ref (jad G (nm 0))), (1, .int v1), (2, .int x3)]) rfl ?_
    refine J_aload_n hX dX10_seed_16 rfl ?_
    refine J_getr hX hE 0 5 rfl rfl fl_X10_49 dX10_seed_17 ?_
    refine J_iload_n hX dX10_seed_20 rfl ?_
    refine J_puti hX hE 57 8 rfl rfl fp_X10_314 dX10_seed_21 ?_
    refine J_bdS (fun s4 => ?_)
    refine J_iload_n hX dX10_seed_24 rfl ?_
    exact J_iret hX hM dX10_seed_25
  · refine J_sipush hX dX10_seed_4 ks_m1002 ?_
    exact J_iret hX hM dX10_seed_7
theorem mw_X10_seed : jMV Y_X10_seed 1 := ⟨⟨tw_tb (List.mem_of_getElem? (i := 1024) (by decide +kernel)) (by decide +kernel), tw_tb (List.mem_of_getElem? (i := 1025) (by decide +kernel)) (by decide +kernel), tw_tb (List.mem_of_getElem? (i := 1) (by decide +kernel)) (by decide +kernel), tw_tb (List.mem_of_getElem? (i := 1026) (by decide +kernel)) (by decide +kernel)⟩, ⟨rfl, rfl⟩, by decide +kernel, by decide +kernel, by decide +kernel⟩
-- X4_indexOf
noncomputable def f_X4_indexOf_L2 (nm : Nat → Nat) (n0 : Nat) (v1 : Int32) (σ : jS) (v2 : Int32) : Option (Int32 ⊕ (Unit ⊕ Int32)) :=
  if (g_i σ (nm 0) 1) ≤ v2 then
    some (.inr (.inl ()))
  else
    gd (vp_in v2 n0) (
      if (g_i σ (nm 1) v2.toNatClampNeg) = v1 then
        some (.inr (.inr v2))
      else
        some (.inl (v2 + 1)))
noncomputable def f_X4_indexOf (nm : Nat → Nat) (n0 : Nat) (v1 : Int32) (σ : jS) : Option Int32 :=
  (lp (f_X4_indexOf_L2 nm n0 v1 σ) fu 0).bind (fun x => match x with
  | .inl _ =>
    some (-1)
  | .inr a => some a)
abbrev Y_X4_indexOf : jY := (yX4_indexOf, cX4_indexOf, 3, some .int, { frames := 0, cells := 0, slots := 0, locals := 0 })
theorem C_X4_indexOf {l : Launch} {G : jG} {nm : Nat → Nat} {n0 : Nat} (hG : jWL G) (hE : jE G nm (LS_X4 n0)) (v1 : Int32) (σ : jS) : jC (r_P σ) l G Y_X4_indexOf [.ref (jad G (nm 0)), .int v1] σ (f_X4_indexOf nm n0 v1 σ) := by
  refine jw_met hG pn_X4 (Nat.le_of_ble_eq_true rfl) ⟨rfl, rfl⟩ ?_
  intro X hX hM
  have hX : jB X l G cX4_indexOf RX4 3 { frames := 0, cells := 0, slots := 0, locals := 0 } := hX
  have hM : jM X (some .int) := hM
  show J X 0 [(0, .ref (jad G (nm 0))), (1, .int v1)] [] σ (f_X4_indexOf nm n0 v1 σ) (jk (r_P σ) X)
  unfold f_X4_indexOf
  refine J_iconst hX dX4_indexOf_0 k_i0 ?_
  refine J_istore_n hX dX4_indexOf_1 (Nat.le_of_ble_eq_true rfl) (lv' := [(0, .ref (jad G (nm 0))), (1, .int v1), (2, .int 0)]) rfl ?_
  refine J_keep [0, 1, 2] (lv' := [(0, .ref (jad G (nm 0))), (1, .int v1), (2, .int 0)]) rfl ?_
  refine J_lp (pc := 2) (s0 := 0) (fun (s : Int32) => [(0, .ref (jad G (nm 0))), (1, .int v1), (2, .int s)]) (fun (s : Int32) => σ) ?_
  intro KK2 hN2 hQ2 z2
  obtain ⟨v2_2, rfl⟩ : ∃ y, y = z2 := ⟨_, rfl⟩
  show J X 2 [(0, .ref (jad G (nm 0))), (1, .int v1), (2, .int v2_2)] [] σ (f_X4_indexOf_L2 nm n0 v1 σ v2_2) KK2
  unfold f_X4_indexOf_L2
  refine J_iload_n hX dX4_indexOf_2 rfl ?_
  refine J_aload_n hX dX4_indexOf_3 rfl ?_
  refine J_geti hX hE 0 1 rfl rfl fl_X4_21 dX4_indexOf_4 ?_
  refine J_icmp_ge hX dX4_indexOf_7 (tgt := 28) rfl (fun _ => ?_) (fun _ => ?_)
  · refine hQ2 _ _ _ _ _ ?_
    refine J_iconst hX dX4_indexOf_28 k_im1 ?_
    exact J_iretP hX hM dX4_indexOf_29
  · refine J_aload_n hX dX4_indexOf_10 rfl ?_
    refine J_getr hX hE 0 0 rfl rfl fl_X4_15 dX4_indexOf_11 ?_
    refine J_iload_n hX dX4_indexOf_14 rfl ?_
    refine J_iald hX hE 1 rfl dX4_indexOf_15 (fun _ => ?_)
    refine J_iload_n hX dX4_indexOf_16 rfl ?_
    refine J_icmp_ne hX dX4_indexOf_17 (tgt := 22) rfl (fun _ => ?_) (fun _ => ?_)
    · refine J_iinc hX dX4_indexOf_22 rfl (congrArg (_ + ·) k_i1) (Nat.le_of_ble_eq_true rfl) (lv' := [(0, .ref (jad G (nm 0))), (1, .int v1), (2, .int (v2_2 + 1))]) rfl ?_
      refine J_goto hX dX4_indexOf_25 (tgt := 2) rfl ?_
      exact J_keep [0, 1, 2] rfl (hN2 (v2_2 + 1))
    · refine J_iload_n hX dX4_indexOf_20 rfl ?_
      refine hQ2 _ _ _ _ _ ?_
      exact J_iretP hX hM dX4_indexOf_21
theorem mw_X4_indexOf : jMV Y_X4_indexOf 1 := ⟨⟨tw_tb (List.mem_of_getElem? (i := 837) (by decide +kernel)) (by decide +kernel), tw_tb (List.mem_of_getElem? (i := 838) (by decide +kernel)) (by decide +kernel), tw_tb (List.mem_of_getElem? (i := 2) (by decide +kernel)) (by decide +kernel), tw_tb (List.mem_of_getElem? (i := 839) (by decide +kernel)) (by decide +kernel)⟩, ⟨rfl, rfl⟩, by decide +kernel, by decide +kernel, by decide +kernel⟩
-- X10_shows
noncomputable def f_X10_shows (nm : Nat → Nat) (σ : jS) : Option Int32 :=
  (f_X2_seen (jn nm [57, 31, 32, 33, 34, 35, 36, 37, 38, 39, 40, 41, 42, 43, 44, 45, 46, 47, 58, 59, 60, 61]) σ).bind (fun q1 =>
    (f_X4_indexOf (jn nm [77, 78]) 8 q1 σ).bind (fun q2 =>
      some q2))
abbrev Y_X10_shows : jY := (yX10_shows, cX10_shows, 1, some .int, { frames := 1, cells := 0, slots := 0, locals := 22 })
theorem C_X10_shows {l : Launch} {G : jG} {nm : Nat → Nat} (hG : jWL G) (hE : jE G nm LS_X10) (σ : jS) : jC (r_P σ) l G Y_X10_shows [.ref (jad G (nm 0))] σ (f_X10_shows nm σ) := by
  refine jw_met hG pn_X10 (Nat.le_of_ble_eq_true rfl) ⟨rfl, rfl⟩ ?_
  intro X hX hM
  have hX : jB X l G cX10_shows RX10 1 { frames := 1, cells := 0, slots := 0, locals := 22 } := hX
  have hM : jM X (some .int) := hM
  show J X 0 [(0, .ref (jad G (nm 0)))] [] σ (f_X10_shows nm σ) (jk (r_P σ) X)
  unfold f_X10_shows
  refine J_aload_n hX dX10_shows_0 rfl ?_
  refine J_getr hX hE 0 9 rfl rfl fl_X10_62 dX10_shows_1 ?_
  refine J_aload_n hX dX10_shows_4 rfl ?_
  refine J_getr hX hE 0 5 rfl rfl fl_X10_49 dX10_shows_5 ?_
  refine J_cVP hX hE 57 (C_X2_seen hG (hE.sb [57, 31, 32, 33, 34, 35, 36, 37, 38, 39, 40, 41, 42, 43, 44, 45, 46, 47, 58, 59, 60, 61] sb_23) σ) mw_X2_seen ml_X10_237 rfl rfl rfl ⟨Nat.le_of_ble_eq_true rfl, Nat.le_of_ble_eq_true rfl⟩ rfl rfl (Nat.le_of_ble_eq_true rfl) dX10_shows_8 (fun q3 => ?_)
  refine J_cVP hX hE 77 (C_X4_indexOf hG (hE.sb [77, 78] sb_19) q3 σ) mw_X4_indexOf ml_X10_255 rfl rfl rfl ⟨Nat.le_of_ble_eq_true rfl, Nat.le_of_ble_eq_true rfl⟩ rfl rfl (Nat.le_of_ble_eq_true rfl) dX10_shows_11 (fun q4 => ?_)
  exact J_iretP hX hM dX10_shows_14
theorem mw_X10_shows : jMV Y_X10_shows 0 := ⟨⟨tw_tb (List.mem_of_getElem? (i := 846) (by decide +kernel)) (by decide +kernel), tw_tb (List.mem_of_getElem? (i := 847) (by decide +kernel)) (by decide +kernel), tw_tb (List.mem_of_getElem? (i := 1) (by decide +kernel)) (by decide +kernel), tw_tb (List.mem_of_getElem? (i := 848) (by decide +kernel)) (by decide +kernel)⟩, ⟨rfl, rfl⟩, by decide +kernel, by decide +kernel, by decide +kernel⟩
-- X10_signal
noncomputable def f_X10_signal (nm : Nat → Nat) (v1 : Int32) (σ : jS) : Option (Int32 × jS) :=
  (f_X10_isKnown nm v1 σ).bind (fun q1 =>
    if q1 = 0 then
      some ((-1001), σ)
    else
      (f_X4_indexOf (jn nm [77, 78]) 8 v1 σ).bind (fun q2 =>
        if q2 = (-1) then
          (f_X4_isFull (jn nm [77, 78]) 8 σ).bind (fun q3 =>
            if q3 = 0 then
              (f_X4_put (jn nm [77, 78]) 8 v1 σ).bind (fun s4 =>
                (f_X4_size (jn nm [77, 78]) 8 s4).bind (fun q5 =>
                  some (q5 - 1, s4)))
            else
              some ((-1004), σ))
        else
          some ((-1003), σ)))
abbrev Y_X10_signal : jY := (yX10_signal, cX10_signal, 2, some .int, { frames := 3, cells := 0, slots := 0, locals := 61 })
theorem C_X10_signal {l : Launch} {G : jG} {nm : Nat → Nat} (hG : jWL G) (hE : jE G nm LS_X10) (v1 : Int32) (σ : jS) : jC r_I l G Y_X10_signal [.ref (jad G (nm 0)), .int v1] σ (f_X10_signal nm v1 σ) := by
  refine jw_met hG pn_X10 (Nat.le_of_ble_eq_true rfl) ⟨rfl, rfl⟩ ?_
  intro X hX hM
  have hX : jB X l G cX10_signal RX10 2 { frames := 3, cells := 0, slots := 0, locals := 61 } := hX
  have hM : jM X (some .int) := hM
  show J X 0 [(0, .ref (jad G (nm 0))), (1, .int v1)] [] σ (f_X10_signal nm v1 σ) (jk r_I X)
  unfold f_X10_signal
  refine J_aload_n hX dX10_signal_0 rfl ?_
  refine J_iload_n hX dX10_signal_1 rfl ?_
  refine J_cVP hX hE 0 (C_X10_isKnown hG hE v1 σ) mw_X10_isKnown ml_X10_252 rfl rfl rfl ⟨Nat.le_of_ble_eq_true rfl, Nat.le_of_ble_eq_true rfl⟩ rfl rfl (Nat.le_of_ble_eq_true rfl) dX10_signal_2 (fun q6 => ?_)
  refine J_if_ne hX dX10_signal_5 (tgt := 12) rfl (fun _ => ?_) (fun _ => ?_)
  · refine J_aload_n hX dX10_signal_12 rfl ?_
    refine J_getr hX hE 0 9 rfl rfl fl_X10_62 dX10_signal_13 ?_
    refine J_iload_n hX dX10_signal_16 rfl ?_
    refine J_cVP hX hE 77 (C_X4_indexOf hG (hE.sb [77, 78] sb_19) v1 σ) mw_X4_indexOf ml_X10_255 rfl rfl rfl ⟨Nat.le_of_ble_eq_true rfl, Nat.le_of_ble_eq_true rfl⟩ rfl rfl (Nat.le_of_ble_eq_true rfl) dX10_signal_17 (fun q7 => ?_)
    refine J_iconst hX dX10_signal_20 k_im1 ?_
    refine J_icmp_eq hX dX10_signal_21 (tgt := 28) rfl (fun _ => ?_) (fun _ => ?_)
    · refine J_aload_n hX dX10_signal_28 rfl ?_
      refine J_getr hX hE 0 9 rfl rfl fl_X10_62 dX10_signal_29 ?_
      refine J_cVP hX hE 77 (C_X4_isFull hG (hE.sb [77, 78] sb_19) σ) mw_X4_isFull ml_X10_258 rfl rfl rfl ⟨Nat.le_of_ble_eq_true rfl, Nat.le_of_ble_eq_true rfl⟩ rfl rfl (Nat.le_of_ble_eq_true rfl) dX10_signal_32 (fun q8 => ?_)
      refine J_if_eq hX dX10_signal_35 (tgt := 42) rfl (fun _ => ?_) (fun _ => ?_)
      · refine J_aload_n hX dX10_signal_42 rfl ?_
        refine J_getr hX hE 0 9 rfl rfl fl_X10_62 dX10_signal_43 ?_
        refine J_iload_n hX dX10_signal_46 rfl ?_
        refine J_cVV hX hE 77 (C_X4_put hG (hE.sb [77, 78] sb_19) v1 σ) mw_X4_put ml_X10_110 rfl rfl rfl ⟨Nat.le_of_ble_eq_true rfl, Nat.le_of_ble_eq_true rfl⟩ rfl rfl (Nat.le_of_ble_eq_true rfl) dX10_signal_47 (fun s9 => ?_)
        refine J_aload_n hX dX10_signal_50 rfl ?_
        refine J_getr hX hE 0 9 rfl rfl fl_X10_62 dX10_signal_51 ?_
        refine J_cVP hX hE 77 (C_X4_size hG (hE.sb [77, 78] sb_19) s9) mw_X4_size ml_X10_106 rfl rfl rfl ⟨Nat.le_of_ble_eq_true rfl, Nat.le_of_ble_eq_true rfl⟩ rfl rfl (Nat.le_of_ble_eq_true rfl) dX10_signal_54 (fun q10 => ?_)
        refine J_iconst hX dX10_signal_57 k_i1 ?_
        refine J_isub hX dX10_signal_58 ?_
        exact J_iret hX hM dX10_signal_59
      · refine J_sipush hX dX10_signal_38 ks_m1004 ?_
        exact J_iret hX hM dX10_signal_41
    · refine J_sipush hX dX10_signal_24 ks_m1003 ?_
      exact J_iret hX hM dX10_signal_27
  · refine J_sipush hX dX10_signal_8 ks_m1001 ?_
    exact J_iret hX hM dX10_signal_11
theorem mw_X10_signal : jMV Y_X10_signal 1 := ⟨⟨tw_tb (List.mem_of_getElem? (i := 828) (by decide +kernel)) (by decide +kernel), tw_tb (List.mem_of_getElem? (i := 829) (by decide +kernel)) (by decide +kernel), tw_tb (List.mem_of_getElem? (i := 1) (by decide +kernel)) (by decide +kernel), tw_tb (List.mem_of_getElem? (i := 830) (by decide +kernel)) (by decide +kernel)⟩, ⟨rfl, rfl⟩, by decide +kernel, by decide +kernel, by decide +kernel⟩
-- X10_singer
noncomputable def f_X10_singer (nm : Nat → Nat) (v1 : Int32) (v2 : Int32) (σ : jS) : Option Int32 :=
  if v1 < 0 then
    some (-1001)
  else
    (f_X6_singers (jn nm [31, 32, 33, 34, 35, 36, 37, 38, 39, 40, 41, 42, 43, 44, 45, 46, 47]) σ).bind (fun q1 =>
      if v1 < q1 then
        if v2 = 0 then
          (f_X4_at (jn nm [40, 41]) 8 v1 σ).bind (fun q5 =>
            some q5)
        else
          if v2 = 1 then
            (f_X4_at (jn nm [42, 43]) 8 v1 σ).bind (fun q4 =>
              some q4)
          else
            if v2 = 2 then
              (f_X4_at (jn nm [44, 45]) 8 v1 σ).bind (fun q3 =>
                some q3)
            else
              if v2 = 3 then
                (f_X4_at (jn nm [46, 47]) 8 v1 σ).bind (fun q2 =>
                  some q2)
              else
                some (-1002)
      else
        some (-1001))
abbrev Y_X10_singer : jY := (yX10_singer, cX10_singer, 3, some .int, { frames := 2, cells := 0, slots := 0, locals := 40 })
theorem C_X10_singer {l : Launch} {G : jG} {nm : Nat → Nat} (hG : jWL G) (hE : jE G nm LS_X10) (v1 : Int32) (v2 : Int32) (σ : jS) : jC (r_P σ) l G Y_X10_singer [.ref (jad G (nm 0)), .int v1, .int v2] σ (f_X10_singer nm v1 v2 σ) := by
  refine jw_met hG pn_X10 (Nat.le_of_ble_eq_true rfl) ⟨rfl, rfl⟩ ?_
  intro X hX hM
  have hX : jB X l G cX10_singer RX10 3 { frames := 2, cells := 0, slots := 0, locals := 40 } := hX
  have hM : jM X (some .int) := hM
  show J X 0 [(0, .ref (jad G (nm 0))), (1, .int v1), (2, .int v2)] [] σ (f_X10_singer nm v1 v2 σ) (jk (r_P σ) X)
  unfold f_X10_singer
  refine J_iload_n hX dX10_singer_0 rfl ?_
  refine J_if_lt hX dX10_singer_1 (tgt := 15) rfl (fun _ => ?_) (fun _ => ?_)
  · refine J_sipush hX dX10_singer_15 ks_m1001 ?_
    exact J_iretP hX hM dX10_singer_18
  · refine J_iload_n hX dX10_singer_4 rfl ?_
    refine J_aload_n hX dX10_singer_5 rfl ?_
    refine J_getr hX hE 0 2 rfl rfl fl_X10_30 dX10_singer_6 ?_
    refine J_cVP hX hE 31 (C_X6_singers hG (hE.sb [31, 32, 33, 34, 35, 36, 37, 38, 39, 40, 41, 42, 43, 44, 45, 46, 47] sb_6) σ) mw_X6_singers ml_X10_142 rfl rfl rfl ⟨Nat.le_of_ble_eq_true rfl, Nat.le_of_ble_eq_true rfl⟩ rfl rfl (Nat.le_of_ble_eq_true rfl) dX10_singer_9 (fun q6 => ?_)
    refine J_icmp_lt hX dX10_singer_12 (tgt := 19) rfl (fun _ => ?_) (fun _ => ?_)
    · refine J_iload_n hX dX10_singer_19 rfl ?_
      refine J_case (fun _ => ?_) (fun h20_0 => ?_)
      · refine J_tin hX dX10_singer_20 (tgt := 52) (by decide) (by decide) (off := 32) rfl rfl ?_
        refine J_aload_n hX dX10_singer_52 rfl ?_
        refine J_getr hX hE 0 2 rfl rfl fl_X10_30 dX10_singer_53 ?_
        refine J_getr hX hE 31 4 rfl rfl fl_X10_199 dX10_singer_56 ?_
        refine J_iload_n hX dX10_singer_59 rfl ?_
        refine J_cVP hX hE 40 (C_X4_at hG (hE.sb [40, 41] sb_122) v1 σ) mw_X4_at ml_X10_174 rfl rfl rfl ⟨Nat.le_of_ble_eq_true rfl, Nat.le_of_ble_eq_true rfl⟩ rfl rfl (Nat.le_of_ble_eq_true rfl) dX10_singer_60 (fun q10 => ?_)
        exact J_iretP hX hM dX10_singer_63
      · refine J_case (fun _ => ?_) (fun h20_1 => ?_)
        · refine J_tin hX dX10_singer_20 (tgt := 64) (by decide) (by decide) (off := 44) rfl rfl ?_
          refine J_aload_n hX dX10_singer_64 rfl ?_
          refine J_getr hX hE 0 2 rfl rfl fl_X10_30 dX10_singer_65 ?_
          refine J_getr hX hE 31 5 rfl rfl fl_X10_202 dX10_singer_68 ?_
          refine J_iload_n hX dX10_singer_71 rfl ?_
          refine J_cVP hX hE 42 (C_X4_at hG (hE.sb [42, 43] sb_121) v1 σ) mw_X4_at ml_X10_174 rfl rfl rfl ⟨Nat.le_of_ble_eq_true rfl, Nat.le_of_ble_eq_true rfl⟩ rfl rfl (Nat.le_of_ble_eq_true rfl) dX10_singer_72 (fun q9 => ?_)
          exact J_iretP hX hM dX10_singer_75
        · refine J_case (fun _ => ?_) (fun h20_2 => ?_)
          · refine J_tin hX dX10_singer_20 (tgt := 76) (by decide) (by decide) (off := 56) rfl rfl ?_
            refine J_aload_n hX dX10_singer_76 rfl ?_
            refine J_getr hX hE 0 2 rfl rfl fl_X10_30 dX10_singer_77 ?_
            refine J_getr hX hE 31 6 rfl rfl fl_X10_205 dX10_singer_80 ?_
            refine J_iload_n hX dX10_singer_83 rfl ?_
            refine J_cVP hX hE 44 (C_X4_at hG (hE.sb [44, 45] sb_120) v1 σ) mw_X4_at ml_X10_174 rfl rfl rfl ⟨Nat.le_of_ble_eq_true rfl, Nat.le_of_ble_eq_true rfl⟩ rfl rfl (Nat.le_of_ble_eq_true rfl) dX10_singer_84 (fun q8 => ?_)
            exact J_iretP hX hM dX10_singer_87
          · refine J_case (fun _ => ?_) (fun h20_3 => ?_)
            · refine J_tin hX dX10_singer_20 (tgt := 88) (by decide) (by decide) (off := 68) rfl rfl ?_
              refine J_aload_n hX dX10_singer_88 rfl ?_
              refine J_getr hX hE 0 2 rfl rfl fl_X10_30 dX10_singer_89 ?_
              refine J_getr hX hE 31 7 rfl rfl fl_X10_208 dX10_singer_92 ?_
              refine J_iload_n hX dX10_singer_95 rfl ?_
              refine J_cVP hX hE 46 (C_X4_at hG (hE.sb [46, 47] sb_119) v1 σ) mw_X4_at ml_X10_174 rfl rfl rfl ⟨Nat.le_of_ble_eq_true rfl, Nat.le_of_ble_eq_true rfl⟩ rfl rfl (Nat.le_of_ble_eq_true rfl) dX10_singer_96 (fun q7 => ?_)
              exact J_iretP hX hM dX10_singer_99
            · refine J_tout hX dX10_singer_20 (tgt := 100) (jt_out4 h20_0 h20_1 h20_2 h20_3) rfl ?_
              refine J_sipush hX dX10_singer_100 ks_m1002 ?_
              exact J_iretP hX hM dX10_singer_103
    · refine J_sipush hX dX10_singer_15 ks_m1001 ?_
      exact J_iretP hX hM dX10_singer_18
theorem mw_X10_singer : jMV Y_X10_singer 2 := ⟨⟨tw_tb (List.mem_of_getElem? (i := 659) (by decide +kernel)) (by decide +kernel), tw_tb (List.mem_of_getElem? (i := 660) (by decide +kernel)) (by decide +kernel), tw_tb (List.mem_of_getElem? (i := 1) (by decide +kernel)) (by decide +kernel), tw_tb (List.mem_of_getElem? (i := 661) (by decide +kernel)) (by decide +kernel)⟩, ⟨rfl, rfl⟩, by decide +kernel, by decide +kernel, by decide +kernel⟩
-- X10_singerCouldWake
noncomputable def f_X10_singerCouldWake_L12 (nm : Nat → Nat) (v1 : Int32) (v2 : Int32) (σ : jS) (v3 : Int32) : Option (Int32 ⊕ (Unit ⊕ Int32)) :=
  (f_X4_at (jn nm [46, 47]) 8 v1 σ).bind (fun q2 =>
    if q2 < v3 then
      some (.inr (.inl ()))
    else
      (f_X4_at (jn nm [40, 41]) 8 v1 σ).bind (fun q3 =>
        (f_X4_at (jn nm [42, 43]) 8 v1 σ).bind (fun q4 =>
          (f_X2_woken (jn nm [57, 31, 32, 33, 34, 35, 36, 37, 38, 39, 40, 41, 42, 43, 44, 45, 46, 47, 58, 59, 60, 61]) q3 v3 q4 σ).bind (fun q5 =>
            if q5 = v2 then
              some (.inr (.inr 1))
            else
              some (.inl (v3 + 1))))))
noncomputable def f_X10_singerCouldWake (nm : Nat → Nat) (v1 : Int32) (v2 : Int32) (σ : jS) : Option Int32 :=
  (f_X4_at (jn nm [44, 45]) 8 v1 σ).bind (fun q1 =>
    (lp (f_X10_singerCouldWake_L12 nm v1 v2 σ) fu q1).bind (fun x => match x with
    | .inl _ =>
      some 0
    | .inr a => some a))
abbrev Y_X10_singerCouldWake : jY := (yX10_singerCouldWake, cX10_singerCouldWake, 4, some .boolean, { frames := 3, cells := 0, slots := 0, locals := 68 })
theorem C_X10_singerCouldWake {l : Launch} {G : jG} {nm : Nat → Nat} (hG : jWL G) (hE : jE G nm LS_X10) (v1 : Int32) (v2 : Int32) (σ : jS) : jC (r_P σ) l G Y_X10_singerCouldWake [.ref (jad G (nm 0)), .int v1, .int v2] σ (f_X10_singerCouldWake nm v1 v2 σ) := by
  refine jw_met hG pn_X10 (Nat.le_of_ble_eq_true rfl) ⟨rfl, rfl⟩ ?_
  intro X hX hM
  have hX : jB X l G cX10_singerCouldWake RX10 4 { frames := 3, cells := 0, slots := 0, locals := 68 } := hX
  have hM : jM X (some .boolean) := hM
  show J X 0 [(0, .ref (jad G (nm 0))), (1, .int v1), (2, .int v2)] [] σ (f_X10_singerCouldWake nm v1 v2 σ) (jk (r_P σ) X)
  unfold f_X10_singerCouldWake
  refine J_aload_n hX dX10_singerCouldWake_0 rfl ?_
  refine J_getr hX hE 0 2 rfl rfl fl_X10_30 dX10_singerCouldWake_1 ?_
  refine J_getr hX hE 31 6 rfl rfl fl_X10_205 dX10_singerCouldWake_4 ?_
  refine J_iload_n hX dX10_singerCouldWake_7 rfl ?_
  refine J_cVP hX hE 44 (C_X4_at hG (hE.sb [44, 45] sb_120) v1 σ) mw_X4_at ml_X10_174 rfl rfl rfl ⟨Nat.le_of_ble_eq_true rfl, Nat.le_of_ble_eq_true rfl⟩ rfl rfl (Nat.le_of_ble_eq_true rfl) dX10_singerCouldWake_8 (fun q6 => ?_)
  refine J_istore_n hX dX10_singerCouldWake_11 (Nat.le_of_ble_eq_true rfl) (lv' := [(0, .ref (jad G (nm 0))), (1, .int v1), (2, .int v2), (3, .int q6)]) rfl ?_
  refine J_keep [0, 1, 2, 3] (lv' := [(0, .ref (jad G (nm 0))), (1, .int v1), (2, .int v2), (3, .int q6)]) rfl ?_
  refine J_lp (pc := 12) (s0 := q6) (fun (s : Int32) => [(0, .ref (jad G (nm 0))), (1, .int v1), (2, .int v2), (3, .int s)]) (fun (s : Int32) => σ) ?_
  intro KK12 hN12 hQ12 z12
  obtain ⟨v3_12, rfl⟩ : ∃ y, y = z12 := ⟨_, rfl⟩
  show J X 12 [(0, .ref (jad G (nm 0))), (1, .int v1), (2, .int v2), (3, .int v3_12)] [] σ (f_X10_singerCouldWake_L12 nm v1 v2 σ v3_12) KK12
  unfold f_X10_singerCouldWake_L12
  refine J_iload_n hX dX10_singerCouldWake_12 rfl ?_
  refine J_aload_n hX dX10_singerCouldWake_13 rfl ?_
  refine J_getr hX hE 0 2 rfl rfl fl_X10_30 dX10_singerCouldWake_14 ?_
  refine J_getr hX hE 31 7 rfl rfl fl_X10_208 dX10_singerCouldWake_17 ?_
  refine J_iload_n hX dX10_singerCouldWake_20 rfl ?_
  refine J_cVP hX hE 46 (C_X4_at hG (hE.sb [46, 47] sb_119) v1 σ) mw_X4_at ml_X10_174 rfl rfl rfl ⟨Nat.le_of_ble_eq_true rfl, Nat.le_of_ble_eq_true rfl⟩ rfl rfl (Nat.le_of_ble_eq_true rfl) dX10_singerCouldWake_21 (fun q7 => ?_)
  refine J_icmp_gt hX dX10_singerCouldWake_24 (tgt := 69) rfl (fun _ => ?_) (fun _ => ?_)
  · refine hQ12 _ _ _ _ _ ?_
    refine J_iconst hX dX10_singerCouldWake_69 k_i0 ?_
    exact J_zretP hX hM jn_0 dX10_singerCouldWake_70
  · refine J_aload_n hX dX10_singerCouldWake_27 rfl ?_
    refine J_getr hX hE 0 5 rfl rfl fl_X10_49 dX10_singerCouldWake_28 ?_
    refine J_aload_n hX dX10_singerCouldWake_31 rfl ?_
    refine J_getr hX hE 0 2 rfl rfl fl_X10_30 dX10_singerCouldWake_32 ?_
    refine J_getr hX hE 31 4 rfl rfl fl_X10_199 dX10_singerCouldWake_35 ?_
    refine J_iload_n hX dX10_singerCouldWake_38 rfl ?_
    refine J_cVP hX hE 40 (C_X4_at hG (hE.sb [40, 41] sb_122) v1 σ) mw_X4_at ml_X10_174 rfl rfl rfl ⟨Nat.le_of_ble_eq_true rfl, Nat.le_of_ble_eq_true rfl⟩ rfl rfl (Nat.le_of_ble_eq_true rfl) dX10_singerCouldWake_39 (fun q8 => ?_)
    refine J_iload_n hX dX10_singerCouldWake_42 rfl ?_
    refine J_aload_n hX dX10_singerCouldWake_43 rfl ?_
    refine J_getr hX hE 0 2 rfl rfl fl_X10_30 dX10_singerCouldWake_44 ?_
    refine J_getr hX hE 31 5 rfl rfl fl_X10_202 dX10_singerCouldWake_47 ?_
    refine J_iload_n hX dX10_singerCouldWake_50 rfl ?_
    refine J_cVP hX hE 42 (C_X4_at hG (hE.sb [42, 43] sb_121) v1 σ) mw_X4_at ml_X10_174 rfl rfl rfl ⟨Nat.le_of_ble_eq_true rfl, Nat.le_of_ble_eq_true rfl⟩ rfl rfl (Nat.le_of_ble_eq_true rfl) dX10_singerCouldWake_51 (fun q9 => ?_)
    refine J_cVP hX hE 57 (C_X2_woken hG (hE.sb [57, 31, 32, 33, 34, 35, 36, 37, 38, 39, 40, 41, 42, 43, 44, 45, 46, 47, 58, 59, 60, 61] sb_23) q8 v3_12 q9 σ) mw_X2_woken ml_X10_222 rfl rfl rfl ⟨Nat.le_of_ble_eq_true rfl, Nat.le_of_ble_eq_true rfl⟩ rfl rfl (Nat.le_of_ble_eq_true rfl) dX10_singerCouldWake_54 (fun q10 => ?_)
    refine J_iload_n hX dX10_singerCouldWake_57 rfl ?_
    refine J_icmp_ne hX dX10_singerCouldWake_58 (tgt := 63) rfl (fun _ => ?_) (fun _ => ?_)
    · refine J_iinc hX dX10_singerCouldWake_63 rfl (congrArg (_ + ·) k_i1) (Nat.le_of_ble_eq_true rfl) (lv' := [(0, .ref (jad G (nm 0))), (1, .int v1), (2, .int v2), (3, .int (v3_12 + 1))]) rfl ?_
      refine J_goto hX dX10_singerCouldWake_66 (tgt := 12) rfl ?_
      exact J_keep [0, 1, 2, 3] rfl (hN12 (v3_12 + 1))
    · refine J_iconst hX dX10_singerCouldWake_61 k_i1 ?_
      refine hQ12 _ _ _ _ _ ?_
      exact J_zretP hX hM jn_1 dX10_singerCouldWake_62
theorem mw_X10_singerCouldWake : jMV Y_X10_singerCouldWake 2 := ⟨⟨tw_tb (List.mem_of_getElem? (i := 917) (by decide +kernel)) (by decide +kernel), tw_pv (List.mem_of_getElem? (i := 25) (by decide +kernel)) (by decide +kernel), tw_tb (List.mem_of_getElem? (i := 1) (by decide +kernel)) (by decide +kernel), tw_tb (List.mem_of_getElem? (i := 918) (by decide +kernel)) (by decide +kernel)⟩, ⟨rfl, rfl⟩, by decide +kernel, by decide +kernel, by decide +kernel⟩
