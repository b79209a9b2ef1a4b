-- X8_find
noncomputable def f_X8_find_L39 (nm : Nat → Nat) (s : (Int32 × jS)) : Option ((Int32 × jS) ⊕ jS) :=
  match s with
  | (v2, σ) =>
    if v2 < 0 then
      some (.inr σ)
    else
      if 50 ≤ v2 then
        some (.inr σ)
      else
        (f_X8_behindAt (jn nm [10, 11, 12, 13, 14, 15, 16, 17, 18, 19, 20, 21, 22, 23, 24, 25, 26]) v2 σ).bind (fun q5 =>
          gd (vp_in v2 50) (bd (s_i σ (nm 4) v2.toNatClampNeg q5) (fun s6 =>
            (f_X8_gatherLargest (jn nm [0, 1, 2, 3, 4, 5, 6, 7, 8]) v2 s6).bind (fun s7 =>
              (f_X8_nearTo (jn nm [10, 11, 12, 13, 14, 15, 16, 17, 18, 19, 20, 21, 22, 23, 24, 25, 26]) v2 s7).bind (fun q8 =>
                (f_X6_allLamps (jn nm [10, 11, 12, 13, 14, 15, 16, 17, 18, 19, 20, 21, 22, 23, 24, 25, 26]) s7).bind (fun q9 =>
                  (f_X8_countMinutesAt (jn nm [0, 1, 2, 3, 4, 5, 6, 7, 8]) v2 q8 q9 s7).bind (fun s10 =>
                    some (.inl (v2 + (-1), s10)))))))))
noncomputable def f_X8_find_J94 (nm : Nat → Nat) (σ : jS) : Option jS :=
  (f_X8_writeSteps (jn nm [0, 1, 2, 3, 4, 5, 6, 7, 8]) σ).bind (fun s12 =>
    bd (s_i s12 (nm 0) 7 1) (fun s13 =>
      some s13))
noncomputable def f_X8_find (nm : Nat → Nat) (σ : jS) : Option jS :=
  if (g_i σ (nm 0) 7) = 0 then
    (f_X1_listen (jn nm [1, 2, 9, 10, 11, 12, 13, 14, 15, 16, 17, 18, 19, 20, 21, 22, 23, 24, 25, 26, 27, 28, 29, 30]) (g_i σ (nm 10) 10) σ).bind (fun s1 =>
      (f_X8_lastUseful (jn nm [10, 11, 12, 13, 14, 15, 16, 17, 18, 19, 20, 21, 22, 23, 24, 25, 26]) s1).bind (fun q2 =>
        bd (s_i s1 (nm 0) 5 q2) (fun s3 =>
          bd (g_i s3 (nm 0) 5) (fun x4 =>
            (lp (f_X8_find_L39 nm) fu (x4, s3)).bind (fun s11 =>
              f_X8_find_J94 nm s11)))))
  else
    some σ
abbrev Y_X8_find : jY := (yX8_find, cX8_find, 3, none, { frames := 4, cells := 0, slots := 0, locals := 96 })
theorem C_X8_find {l : Launch} {G : jG} {nm : Nat → Nat} (hG : jWL G) (hE : jE G nm LS_X8_X2) (σ : jS) : jC r_V l G Y_X8_find [.ref (jad G (nm 0)), .ref (jad G (nm 9))] σ (f_X8_find nm σ) := by
  refine jw_met hG pn_X8 (Nat.le_of_ble_eq_true rfl) ⟨rfl, rfl⟩ ?_
  intro X hX hM
  have hX : jB X l G cX8_find RX8 3 { frames := 4, cells := 0, slots := 0, locals := 96 } := hX
  have hM : jM X (none) := hM
  show J X 0 [(0, .ref (jad G (nm 0))), (1, .ref (jad G (nm 9)))] [] σ (f_X8_find nm σ) (jk r_V X)
  have hJ94 : ∀ (σ : jS), J X 94 [(0, .ref (jad G (nm 0)))] [] σ (f_X8_find_J94 nm σ) (jk r_V X) := by
    intro σ
    unfold f_X8_find_J94
    refine J_aload_n hX dX8_find_94 rfl ?_
    refine J_cVV hX hE 0 (C_X8_writeSteps hG (hE.sb [0, 1, 2, 3, 4, 5, 6, 7, 8] sb_38) σ) mw_X8_writeSteps ml_X8_92 rfl rfl rfl ⟨Nat.le_of_ble_eq_true rfl, Nat.le_of_ble_eq_true rfl⟩ rfl rfl (Nat.le_of_ble_eq_true rfl) dX8_find_95 (fun s14 => ?_)
    refine J_aload_n hX dX8_find_98 rfl ?_
    refine J_iconst hX dX8_find_99 k_i1 ?_
    refine J_putz hX hE 0 7 jn_1 jf_1 rfl rfl fp_X8_47 dX8_find_100 ?_
    refine J_bdS (fun s15 => ?_)
    exact J_vret hX hM dX8_find_103
  unfold f_X8_find
  refine J_aload_n hX dX8_find_0 rfl ?_
  refine J_geti hX hE 0 7 rfl rfl fl_X8_47 dX8_find_1 ?_
  refine J_if_eq hX dX8_find_4 (tgt := 8) rfl (fun _ => ?_) (fun _ => ?_)
  · refine J_aload_n hX dX8_find_8 rfl ?_
    refine J_getr hX hE 0 0 rfl rfl fl_X8_31 dX8_find_9 ?_
    refine J_aload_n hX dX8_find_12 rfl ?_
    refine J_aload_n hX dX8_find_13 rfl ?_
    refine J_getr hX hE 9 0 rfl rfl fl_X8_50 dX8_find_14 ?_
    refine J_geti hX hE 10 10 rfl rfl fl_X8_56 dX8_find_17 ?_
    refine J_cVV hX hE 1 (C_X1_listen hG (hE.sb [1, 2, 9, 10, 11, 12, 13, 14, 15, 16, 17, 18, 19, 20, 21, 22, 23, 24, 25, 26, 27, 28, 29, 30] sb_36) (g_i σ (nm 10) 10) σ) mw_X1_listen ml_X8_62 rfl rfl rfl ⟨Nat.le_of_ble_eq_true rfl, Nat.le_of_ble_eq_true rfl⟩ rfl rfl (Nat.le_of_ble_eq_true rfl) dX8_find_20 (fun s16 => ?_)
    refine J_aload_n hX dX8_find_23 rfl ?_
    refine J_aload_n hX dX8_find_24 rfl ?_
    refine J_getr hX hE 9 0 rfl rfl fl_X8_50 dX8_find_25 ?_
    refine J_cSP hX (C_X8_lastUseful hG (hE.sb [10, 11, 12, 13, 14, 15, 16, 17, 18, 19, 20, 21, 22, 23, 24, 25, 26] sb_37) s16) mw_X8_lastUseful ml_X8_68 ⟨Nat.le_of_ble_eq_true rfl, Nat.le_of_ble_eq_true rfl⟩ rfl rfl (Nat.le_of_ble_eq_true rfl) dX8_find_28 (fun q17 => ?_)
    refine J_puti hX hE 0 5 rfl rfl fp_X8_72 dX8_find_31 ?_
    refine J_bdS (fun s18 => ?_)
    refine J_aload_n hX dX8_find_34 rfl ?_
    refine J_geti hX hE 0 5 rfl rfl fl_X8_72 dX8_find_35 ?_
    refine J_bdI (fun x19 => ?_)
    refine J_istore_n hX dX8_find_38 (Nat.le_of_ble_eq_true rfl) (lv' := [(0, .ref (jad G (nm 0))), (1, .ref (jad G (nm 9))), (2, .int x19)]) rfl ?_
    refine J_keep [0, 1, 2] (lv' := [(0, .ref (jad G (nm 0))), (1, .ref (jad G (nm 9))), (2, .int x19)]) rfl ?_
    refine J_lp (pc := 39) (s0 := (x19, s18)) (fun (s : (Int32 × jS)) => [(0, .ref (jad G (nm 0))), (1, .ref (jad G (nm 9))), (2, .int (s.1))]) (fun (s : (Int32 × jS)) => s.2) ?_
    intro KK39 hN39 hQ39 z39
    obtain ⟨v2_39, σ_39⟩ := z39
    show J X 39 [(0, .ref (jad G (nm 0))), (1, .ref (jad G (nm 9))), (2, .int v2_39)] [] σ_39 (f_X8_find_L39 nm (v2_39, σ_39)) KK39
    unfold f_X8_find_L39
    refine J_iload_n hX dX8_find_39 rfl ?_
    refine J_if_lt hX dX8_find_40 (tgt := 94) rfl (fun _ => ?_) (fun _ => ?_)
    · refine hQ39 _ _ _ _ _ ?_
      exact J_keep [0] rfl (hJ94 σ_39)
    · refine J_iload_n hX dX8_find_43 rfl ?_
      refine J_bipush hX dX8_find_44 kb_50 ?_
      refine J_icmp_ge hX dX8_find_46 (tgt := 94) rfl (fun _ => ?_) (fun _ => ?_)
      · refine hQ39 _ _ _ _ _ ?_
        exact J_keep [0] rfl (hJ94 σ_39)
      · refine J_aload_n hX dX8_find_49 rfl ?_
        refine J_getr hX hE 0 2 rfl rfl fl_X8_16 dX8_find_50 ?_
        refine J_iload_n hX dX8_find_53 rfl ?_
        refine J_aload_n hX dX8_find_54 rfl ?_
        refine J_getr hX hE 9 0 rfl rfl fl_X8_50 dX8_find_55 ?_
        refine J_iload_n hX dX8_find_58 rfl ?_
        refine J_cSP hX (C_X8_behindAt hG (hE.sb [10, 11, 12, 13, 14, 15, 16, 17, 18, 19, 20, 21, 22, 23, 24, 25, 26] sb_37) v2_39 σ_39) mw_X8_behindAt ml_X8_75 ⟨Nat.le_of_ble_eq_true rfl, Nat.le_of_ble_eq_true rfl⟩ rfl rfl (Nat.le_of_ble_eq_true rfl) dX8_find_59 (fun q20 => ?_)
        refine J_iast hX hE 4 rfl dX8_find_62 (fun _ => ?_)
        refine J_bdS (fun s21 => ?_)
        refine J_aload_n hX dX8_find_63 rfl ?_
        refine J_iload_n hX dX8_find_64 rfl ?_
        refine J_cVV hX hE 0 (C_X8_gatherLargest hG (hE.sb [0, 1, 2, 3, 4, 5, 6, 7, 8] sb_38) v2_39 s21) mw_X8_gatherLargest ml_X8_79 rfl rfl rfl ⟨Nat.le_of_ble_eq_true rfl, Nat.le_of_ble_eq_true rfl⟩ rfl rfl (Nat.le_of_ble_eq_true rfl) dX8_find_65 (fun s22 => ?_)
        refine J_aload_n hX dX8_find_68 rfl ?_
        refine J_iload_n hX dX8_find_69 rfl ?_
        refine J_aload_n hX dX8_find_70 rfl ?_
        refine J_getr hX hE 9 0 rfl rfl fl_X8_50 dX8_find_71 ?_
        refine J_iload_n hX dX8_find_74 rfl ?_
        refine J_cSP hX (C_X8_nearTo hG (hE.sb [10, 11, 12, 13, 14, 15, 16, 17, 18, 19, 20, 21, 22, 23, 24, 25, 26] sb_37) v2_39 s22) mw_X8_nearTo ml_X8_82 ⟨Nat.le_of_ble_eq_true rfl, Nat.le_of_ble_eq_true rfl⟩ rfl rfl (Nat.le_of_ble_eq_true rfl) dX8_find_75 (fun q23 => ?_)
        refine J_aload_n hX dX8_find_78 rfl ?_
        refine J_getr hX hE 9 0 rfl rfl fl_X8_50 dX8_find_79 ?_
        refine J_cVP hX hE 10 (C_X6_allLamps hG (hE.sb [10, 11, 12, 13, 14, 15, 16, 17, 18, 19, 20, 21, 22, 23, 24, 25, 26] sb_37) s22) mw_X6_allLamps ml_X8_85 rfl rfl rfl ⟨Nat.le_of_ble_eq_true rfl, Nat.le_of_ble_eq_true rfl⟩ rfl rfl (Nat.le_of_ble_eq_true rfl) dX8_find_82 (fun q24 => ?_)
        refine J_cVV hX hE 0 (C_X8_countMinutesAt hG (hE.sb [0, 1, 2, 3, 4, 5, 6, 7, 8] sb_38) v2_39 q23 q24 s22) mw_X8_countMinutesAt ml_X8_88 rfl rfl rfl ⟨Nat.le_of_ble_eq_true rfl, Nat.le_of_ble_eq_true rfl⟩ rfl rfl (Nat.le_of_ble_eq_true rfl) dX8_find_85 (fun s25 => ?_)
        refine J_iinc hX dX8_find_88 rfl (congrArg (_ + ·) k_im1) (Nat.le_of_ble_eq_true rfl) (lv' := [(0, .ref (jad G (nm 0))), (1, .ref (jad G (nm 9))), (2, .int (v2_39 + (-1)))]) rfl ?_
        refine J_goto hX dX8_find_91 (tgt := 39) rfl ?_
        exact J_keep [0, 1, 2] rfl (hN39 (v2_39 + (-1), s25))
  · exact J_vret hX hM dX8_find_7
theorem mw_X8_find : jMV Y_X8_find 1 := ⟨⟨tw_tb (List.mem_of_getElem? (i := 742) (by decide +kernel)) (by decide +kernel), tw_tb (List.mem_of_getElem? (i := 743) (by decide +kernel)) (by decide +kernel), tw_tb (List.mem_of_getElem? (i := 11) (by decide +kernel)) (by decide +kernel), tw_tb (List.mem_of_getElem? (i := 744) (by decide +kernel)) (by decide +kernel)⟩, ⟨rfl, rfl⟩, by decide +kernel, by decide +kernel, by decide +kernel⟩
-- X8_minutes
noncomputable def f_X8_minutes (nm : Nat → Nat) (σ : jS) : Option Int32 :=
  if (g_i σ (nm 0) 6) = 0 then
    some (-1)
  else
    (f_X4_size (jn nm [7, 8]) 59 σ).bind (fun q1 =>
      some q1)
abbrev Y_X8_minutes : jY := (yX8_minutes, cX8_minutes, 1, some .int, { frames := 1, cells := 0, slots := 0, locals := 20 })
theorem C_X8_minutes {l : Launch} {G : jG} {nm : Nat → Nat} (hG : jWL G) (hE : jE G nm LS_X8) (σ : jS) : jC (r_P σ) l G Y_X8_minutes [.ref (jad G (nm 0))] σ (f_X8_minutes nm σ) := by
  refine jw_met hG pn_X8 (Nat.le_of_ble_eq_true rfl) ⟨rfl, rfl⟩ ?_
  intro X hX hM
  have hX : jB X l G cX8_minutes RX8 1 { frames := 1, cells := 0, slots := 0, locals := 20 } := hX
  have hM : jM X (some .int) := hM
  show J X 0 [(0, .ref (jad G (nm 0)))] [] σ (f_X8_minutes nm σ) (jk (r_P σ) X)
  unfold f_X8_minutes
  refine J_aload_n hX dX8_minutes_0 rfl ?_
  refine J_geti hX hE 0 6 rfl rfl fl_X8_35 dX8_minutes_1 ?_
  refine J_if_eq hX dX8_minutes_4 (tgt := 17) rfl (fun _ => ?_) (fun _ => ?_)
  · refine J_iconst hX dX8_minutes_17 k_im1 ?_
    exact J_iretP hX hM dX8_minutes_18
  · refine J_aload_n hX dX8_minutes_7 rfl ?_
    refine J_getr hX hE 0 4 rfl rfl fl_X8_28 dX8_minutes_8 ?_
    refine J_cVP hX hE 7 (C_X4_size hG (hE.sb [7, 8] sb_35) σ) mw_X4_size ml_X8_39 rfl rfl rfl ⟨Nat.le_of_ble_eq_true rfl, Nat.le_of_ble_eq_true rfl⟩ rfl rfl (Nat.le_of_ble_eq_true rfl) dX8_minutes_11 (fun q2 => ?_)
    refine J_goto hX dX8_minutes_14 (tgt := 18) rfl ?_
    exact J_iretP hX hM dX8_minutes_18
theorem mw_X8_minutes : jMV Y_X8_minutes 0 := ⟨⟨tw_tb (List.mem_of_getElem? (i := 820) (by decide +kernel)) (by decide +kernel), tw_tb (List.mem_of_getElem? (i := 821) (by decide +kernel)) (by decide +kernel), tw_tb (List.mem_of_getElem? (i := 11) (by decide +kernel)) (by decide +kernel), tw_tb (List.mem_of_getElem? (i := 822) (by decide +kernel)) (by decide +kernel)⟩, ⟨rfl, rfl⟩, by decide +kernel, by decide +kernel, by decide +kernel⟩
-- X2_copy
noncomputable def f_X2_copy_L2 (nm : Nat → Nat) (s : (Int32 × jS)) : Option ((Int32 × jS) ⊕ jS) :=
  match s with
  | (v2, σ) =>
    if 10 ≤ v2 then
      some (.inr σ)
    else
      gd (vp_in v2 10) (
        gd (vp_in v2 10) (bd (s_i σ (nm 18) v2.toNatClampNeg (g_i σ (nm 40) v2.toNatClampNeg)) (fun s1 =>
          gd (vp_in v2 10) (
            gd (vp_in v2 10) (bd (s_i s1 (nm 19) v2.toNatClampNeg (g_i s1 (nm 41) v2.toNatClampNeg)) (fun s2 =>
              gd (vp_in v2 10) (
                gd (vp_in v2 10) (bd (s_i s2 (nm 20) v2.toNatClampNeg (g_i s2 (nm 42) v2.toNatClampNeg)) (fun s3 =>
                  gd (vp_in v2 10) (
                    gd (vp_in v2 10) (bd (s_i s3 (nm 21) v2.toNatClampNeg (g_i s3 (nm 43) v2.toNatClampNeg)) (fun s4 =>
                      some (.inl (v2 + 1, s4))))))))))))))
noncomputable def f_X2_copy (nm : Nat → Nat) (σ : jS) : Option jS :=
  (lp (f_X2_copy_L2 nm) fu (0, σ)).bind (fun s5 =>
    bd (s_i s5 (nm 0) 5 (g_i s5 (nm 22) 5)) (fun s6 =>
      bd (s_i s6 (nm 0) 6 (g_i s6 (nm 22) 6)) (fun s7 =>
        bd (s_i s7 (nm 0) 7 (g_i s7 (nm 22) 7)) (fun s8 =>
          bd (s_i s8 (nm 0) 8 (g_i s8 (nm 22) 8)) (fun s9 =>
            some s9)))))
abbrev Y_X2_copy : jY := (yX2_copy, cX2_copy, 3, none, { frames := 0, cells := 0, slots := 0, locals := 0 })
theorem C_X2_copy {l : Launch} {G : jG} {nm : Nat → Nat} (hG : jWL G) (hE : jE G nm LS_X2_X2) (σ : jS) : jC r_V l G Y_X2_copy [.ref (jad G (nm 0)), .ref (jad G (nm 22))] σ (f_X2_copy nm σ) := by
  refine jw_met hG pn_X2 (Nat.le_of_ble_eq_true rfl) ⟨rfl, rfl⟩ ?_
  intro X hX hM
  have hX : jB X l G cX2_copy RX2 3 { frames := 0, cells := 0, slots := 0, locals := 0 } := hX
  have hM : jM X (none) := hM
  show J X 0 [(0, .ref (jad G (nm 0))), (1, .ref (jad G (nm 22)))] [] σ (f_X2_copy nm σ) (jk r_V X)
  unfold f_X2_copy
  refine J_iconst hX dX2_copy_0 k_i0 ?_
  refine J_istore_n hX dX2_copy_1 (Nat.le_of_ble_eq_true rfl) (lv' := [(0, .ref (jad G (nm 0))), (1, .ref (jad G (nm 22))), (2, .int 0)]) rfl ?_
  refine J_keep [0, 1, 2] (lv' := [(0, .ref (jad G (nm 0))), (1, .ref (jad G (nm 22))), (2, .int 0)]) rfl ?_
  refine J_lp (pc := 2) (s0 := (0, σ)) (fun (s : (Int32 × jS)) => [(0, .ref (jad G (nm 0))), (1, .ref (jad G (nm 22))), (2, .int (s.1))]) (fun (s : (Int32 × jS)) => s.2) ?_
  intro KK2 hN2 hQ2 z2
  obtain ⟨v2_2, σ_2⟩ := z2
  show J X 2 [(0, .ref (jad G (nm 0))), (1, .ref (jad G (nm 22))), (2, .int v2_2)] [] σ_2 (f_X2_copy_L2 nm (v2_2, σ_2)) KK2
  unfold f_X2_copy_L2
  refine J_iload_n hX dX2_copy_2 rfl ?_
  refine J_bipush hX dX2_copy_3 kb_10 ?_
  refine J_icmp_ge hX dX2_copy_5 (tgt := 62) rfl (fun _ => ?_) (fun _ => ?_)
  · refine hQ2 _ _ _ _ _ ?_
    refine J_aload_n hX dX2_copy_62 rfl ?_
    refine J_aload_n hX dX2_copy_63 rfl ?_
    refine J_geti hX hE 22 5 rfl rfl fl_X2_50 dX2_copy_64 ?_
    refine J_puti hX hE 0 5 rfl rfl fp_X2_50 dX2_copy_67 ?_
    refine J_bdS (fun s10 => ?_)
    refine J_aload_n hX dX2_copy_70 rfl ?_
    refine J_aload_n hX dX2_copy_71 rfl ?_
    refine J_geti hX hE 22 6 rfl rfl fl_X2_40 dX2_copy_72 ?_
    refine J_puti hX hE 0 6 rfl rfl fp_X2_40 dX2_copy_75 ?_
    refine J_bdS (fun s11 => ?_)
    refine J_aload_n hX dX2_copy_78 rfl ?_
    refine J_aload_n hX dX2_copy_79 rfl ?_
    refine J_geti hX hE 22 7 rfl rfl fl_X2_44 dX2_copy_80 ?_
    refine J_puti hX hE 0 7 rfl rfl fp_X2_44 dX2_copy_83 ?_
    refine J_bdS (fun s12 => ?_)
    refine J_aload_n hX dX2_copy_86 rfl ?_
    refine J_aload_n hX dX2_copy_87 rfl ?_
    refine J_geti hX hE 22 8 rfl rfl fl_X2_53 dX2_copy_88 ?_
    refine J_puti hX hE 0 8 rfl rfl fp_X2_53 dX2_copy_91 ?_
    refine J_bdS (fun s13 => ?_)
    exact J_vret hX hM dX2_copy_94
  · refine J_aload_n hX dX2_copy_8 rfl ?_
    refine J_getr hX hE 0 1 rfl rfl fl_X2_9 dX2_copy_9 ?_
    refine J_iload_n hX dX2_copy_12 rfl ?_
    refine J_aload_n hX dX2_copy_13 rfl ?_
    refine J_getr hX hE 22 1 rfl rfl fl_X2_9 dX2_copy_14 ?_
    refine J_iload_n hX dX2_copy_17 rfl ?_
    refine J_iald hX hE 40 rfl dX2_copy_18 (fun _ => ?_)
    refine J_iast hX hE 18 rfl dX2_copy_19 (fun _ => ?_)
    refine J_bdS (fun s14 => ?_)
    refine J_aload_n hX dX2_copy_20 rfl ?_
    refine J_getr hX hE 0 2 rfl rfl fl_X2_15 dX2_copy_21 ?_
    refine J_iload_n hX dX2_copy_24 rfl ?_
    refine J_aload_n hX dX2_copy_25 rfl ?_
    refine J_getr hX hE 22 2 rfl rfl fl_X2_15 dX2_copy_26 ?_
    refine J_iload_n hX dX2_copy_29 rfl ?_
    refine J_iald hX hE 41 rfl dX2_copy_30 (fun _ => ?_)
    refine J_iast hX hE 19 rfl dX2_copy_31 (fun _ => ?_)
    refine J_bdS (fun s15 => ?_)
    refine J_aload_n hX dX2_copy_32 rfl ?_
    refine J_getr hX hE 0 3 rfl rfl fl_X2_18 dX2_copy_33 ?_
    refine J_iload_n hX dX2_copy_36 rfl ?_
    refine J_aload_n hX dX2_copy_37 rfl ?_
    refine J_getr hX hE 22 3 rfl rfl fl_X2_18 dX2_copy_38 ?_
    refine J_iload_n hX dX2_copy_41 rfl ?_
    refine J_iald hX hE 42 rfl dX2_copy_42 (fun _ => ?_)
    refine J_iast hX hE 20 rfl dX2_copy_43 (fun _ => ?_)
    refine J_bdS (fun s16 => ?_)
    refine J_aload_n hX dX2_copy_44 rfl ?_
    refine J_getr hX hE 0 4 rfl rfl fl_X2_21 dX2_copy_45 ?_
    refine J_iload_n hX dX2_copy_48 rfl ?_
    refine J_aload_n hX dX2_copy_49 rfl ?_
    refine J_getr hX hE 22 4 rfl rfl fl_X2_21 dX2_copy_50 ?_
    refine J_iload_n hX dX2_copy_53 rfl ?_
    refine J_iald hX hE 43 rfl dX2_copy_54 (fun _ => ?_)
    refine J_iast hX hE 21 rfl dX2_copy_55 (fun _ => ?_)
    refine J_bdS (fun s17 => ?_)
    refine J_iinc hX dX2_copy_56 rfl (congrArg (_ + ·) k_i1) (Nat.le_of_ble_eq_true rfl) (lv' := [(0, .ref (jad G (nm 0))), (1, .ref (jad G (nm 22))), (2, .int (v2_2 + 1))]) rfl ?_
    refine J_goto hX dX2_copy_59 (tgt := 2) rfl ?_
    exact J_keep [0, 1, 2] rfl (hN2 (v2_2 + 1, s17))
theorem mw_X2_copy : jMV Y_X2_copy 1 := ⟨⟨tw_tb (List.mem_of_getElem? (i := 999) (by decide +kernel)) (by decide +kernel), tw_tb (List.mem_of_getElem? (i := 1000) (by decide +kernel)) (by decide +kernel), tw_tb (List.mem_of_getElem? (i := 8) (by decide +kernel)) (by decide +kernel), tw_tb (List.mem_of_getElem? (i := 1001) (by decide +kernel)) (by decide +kernel)⟩, ⟨rfl, rfl⟩, by decide +kernel, by decide +kernel, by decide +kernel⟩
-- X10_flat
noncomputable def f_X10_flat_L83 (nm : Nat → Nat) (v1 : Int32) (s : (Int32 × Int32 × Int32 × jS)) : Option ((Int32 × Int32 × Int32 × jS) ⊕ (Int32 × Int32 × jS)) :=
  match s with
  | (v2, v3, v4, σ) =>
    (f_X4_size (jn nm [55, 56]) 30 σ).bind (fun q4 =>
      if q4 ≤ v4 then
        some (.inr (v2, v3, σ))
      else
        (f_X10_darkOnDay nm v4 σ).bind (fun x => match x with
        | (q5, s6) =>
          if q5 = 0 then
            some (.inl (v2, v3, v4 + 1, s6))
          else
            if v3 = 0 then
              some (.inl (v4, v3 + 1, v4 + 1, s6))
            else
              some (.inl (v2, v3 + 1, v4 + 1, s6))))
noncomputable def f_X10_flat_J26 (nm : Nat → Nat) (v1 : Int32) (σ : jS) : Option (Int32 × jS) :=
  (f_X8_find (jn nm [91, 81, 82, 92, 93, 94, 95, 96, 97, 57, 31, 32, 33, 34, 35, 36, 37, 38, 39, 40, 41, 42, 43, 44, 45, 46, 47, 58, 59, 60, 61]) σ).bind (fun s1 =>
    (f_X8_minutes (jn nm [91, 81, 82, 92, 93, 94, 95, 96, 97]) s1).bind (fun q2 =>
      if q2 = (-1) then
        some ((-1003), s1)
      else
        (f_X2_copy (jn nm [62, 31, 32, 33, 34, 35, 36, 37, 38, 39, 40, 41, 42, 43, 44, 45, 46, 47, 63, 64, 65, 66, 57, 31, 32, 33, 34, 35, 36, 37, 38, 39, 40, 41, 42, 43, 44, 45, 46, 47, 58, 59, 60, 61]) s1).bind (fun s3 =>
          if v1 ≤ 1 then
            (lp (f_X10_flat_L83 nm v1) fu ((-1), 0, 0, s3)).bind (fun x => match x with
            | (e7, e8, s9) =>
              if v1 = 0 then
                some (e7, s9)
              else
                some (e8, s9))
          else
            (f_X10_darkOnDay nm (v1 - 2) s3).bind (fun x => match x with
            | (q10, s11) =>
              some (q10, s11)))))
noncomputable def f_X10_flat (nm : Nat → Nat) (v1 : Int32) (σ : jS) : Option (Int32 × jS) :=
  if v1 < 0 then
    some ((-1002), σ)
  else
    if v1 ≤ 1 then
      f_X10_flat_J26 nm v1 σ
    else
      (f_X4_size (jn nm [55, 56]) 30 σ).bind (fun q12 =>
        if (v1 - 2) < q12 then
          f_X10_flat_J26 nm v1 σ
        else
          some ((-1002), σ))
abbrev Y_X10_flat : jY := (yX10_flat, cX10_flat, 5, some .int, { frames := 5, cells := 0, slots := 0, locals := 118 })
theorem C_X10_flat {l : Launch} {G : jG} {nm : Nat → Nat} (hG : jWL G) (hE : jE G nm LS_X10) (v1 : Int32) (σ : jS) : jC r_I l G Y_X10_flat [.ref (jad G (nm 0)), .int v1] σ (f_X10_flat nm v1 σ) := by
  refine jw_met hG pn_X10 (Nat.le_of_ble_eq_true rfl) ⟨rfl, rfl⟩ ?_
  intro X hX hM
  have hX : jB X l G cX10_flat RX10 5 { frames := 5, cells := 0, slots := 0, locals := 118 } := hX
  have hM : jM X (some .int) := hM
  show J X 0 [(0, .ref (jad G (nm 0))), (1, .int v1)] [] σ (f_X10_flat nm v1 σ) (jk r_I X)
  have hJ26 : ∀ (v1 : Int32) (σ : jS), J X 26 [(0, .ref (jad G (nm 0))), (1, .int v1)] [] σ (f_X10_flat_J26 nm v1 σ) (jk r_I X) := by
    intro v1 σ
    unfold f_X10_flat_J26
    refine J_aload_n hX dX10_flat_26 rfl ?_
    refine J_getr hX hE 0 13 rfl rfl fl_X10_87 dX10_flat_27 ?_
    refine J_aload_n hX dX10_flat_30 rfl ?_
    refine J_getr hX hE 0 5 rfl rfl fl_X10_49 dX10_flat_31 ?_
    refine J_cVV hX hE 91 (C_X8_find hG (hE.sb [91, 81, 82, 92, 93, 94, 95, 96, 97, 57, 31, 32, 33, 34, 35, 36, 37, 38, 39, 40, 41, 42, 43, 44, 45, 46, 47, 58, 59, 60, 61] sb_39) σ) mw_X8_find ml_X10_243 rfl rfl rfl ⟨Nat.le_of_ble_eq_true rfl, Nat.le_of_ble_eq_true rfl⟩ rfl rfl (Nat.le_of_ble_eq_true rfl) dX10_flat_34 (fun s13 => ?_)
    refine J_aload_n hX dX10_flat_37 rfl ?_
    refine J_getr hX hE 0 13 rfl rfl fl_X10_87 dX10_flat_38 ?_
    refine J_cVP hX hE 91 (C_X8_minutes hG (hE.sb [91, 81, 82, 92, 93, 94, 95, 96, 97] sb_40) s13) mw_X8_minutes ml_X10_246 rfl rfl rfl ⟨Nat.le_of_ble_eq_true rfl, Nat.le_of_ble_eq_true rfl⟩ rfl rfl (Nat.le_of_ble_eq_true rfl) dX10_flat_41 (fun q14 => ?_)
    refine J_iconst hX dX10_flat_44 k_im1 ?_
    refine J_icmp_ne hX dX10_flat_45 (tgt := 52) rfl (fun _ => ?_) (fun _ => ?_)
    · refine J_aload_n hX dX10_flat_52 rfl ?_
      refine J_getr hX hE 0 6 rfl rfl fl_X10_53 dX10_flat_53 ?_
      refine J_aload_n hX dX10_flat_56 rfl ?_
      refine J_getr hX hE 0 5 rfl rfl fl_X10_49 dX10_flat_57 ?_
      refine J_cVV hX hE 62 (C_X2_copy hG (hE.sb [62, 31, 32, 33, 34, 35, 36, 37, 38, 39, 40, 41, 42, 43, 44, 45, 46, 47, 63, 64, 65, 66, 57, 31, 32, 33, 34, 35, 36, 37, 38, 39, 40, 41, 42, 43, 44, 45, 46, 47, 58, 59, 60, 61] sb_41) s13) mw_X2_copy ml_X10_301 rfl rfl rfl ⟨Nat.le_of_ble_eq_true rfl, Nat.le_of_ble_eq_true rfl⟩ rfl rfl (Nat.le_of_ble_eq_true rfl) dX10_flat_60 (fun s15 => ?_)
      refine J_iload_n hX dX10_flat_63 rfl ?_
      refine J_iconst hX dX10_flat_64 k_i1 ?_
      refine J_icmp_le hX dX10_flat_65 (tgt := 76) rfl (fun _ => ?_) (fun _ => ?_)
      · refine J_iconst hX dX10_flat_76 k_im1 ?_
        refine J_istore_n hX dX10_flat_77 (Nat.le_of_ble_eq_true rfl) (lv' := [(0, .ref (jad G (nm 0))), (1, .int v1), (2, .int (-1))]) rfl ?_
        refine J_iconst hX dX10_flat_78 k_i0 ?_
        refine J_istore_n hX dX10_flat_79 (Nat.le_of_ble_eq_true rfl) (lv' := [(0, .ref (jad G (nm 0))), (1, .int v1), (2, .int (-1)), (3, .int 0)]) rfl ?_
        refine J_iconst hX dX10_flat_80 k_i0 ?_
        refine J_istore hX dX10_flat_81 (Nat.le_of_ble_eq_true rfl) (lv' := [(0, .ref (jad G (nm 0))), (1, .int v1), (2, .int (-1)), (3, .int 0), (4, .int 0)]) rfl ?_
        refine J_keep [0, 1, 2, 3, 4] (lv' := [(0, .ref (jad G (nm 0))), (1, .int v1), (2, .int (-1)), (3, .int 0), (4, .int 0)]) rfl ?_
        refine J_lp (pc := 83) (s0 := ((-1), 0, 0, s15)) (fun (s : (Int32 × Int32 × Int32 × jS)) => [(0, .ref (jad G (nm 0))), (1, .int v1), (2, .int (s.1)), (3, .int (s.2.1)), (4, .int (s.2.2.1))]) (fun (s : (Int32 × Int32 × Int32 × jS)) => s.2.2.2) ?_
        intro KK83 hN83 hQ83 z83
        obtain ⟨v2_83, v3_83, v4_83, σ_83⟩ := z83
        show J X 83 [(0, .ref (jad G (nm 0))), (1, .int v1), (2, .int v2_83), (3, .int v3_83), (4, .int v4_83)] [] σ_83 (f_X10_flat_L83 nm v1 (v2_83, v3_83, v4_83, σ_83)) KK83
        unfold f_X10_flat_L83
        refine J_iload hX dX10_flat_83 rfl ?_
        refine J_aload_n hX dX10_flat_85 rfl ?_
        refine J_getr hX hE 0 4 rfl rfl fl_X10_41 dX10_flat_86 ?_
        refine J_cVP hX hE 55 (C_X4_size hG (hE.sb [55, 56] sb_29) σ_83) mw_X4_size ml_X10_106 rfl rfl rfl ⟨Nat.le_of_ble_eq_true rfl, Nat.le_of_ble_eq_true rfl⟩ rfl rfl (Nat.le_of_ble_eq_true rfl) dX10_flat_89 (fun q16 => ?_)
        refine J_icmp_ge hX dX10_flat_92 (tgt := 124) rfl (fun _ => ?_) (fun _ => ?_)
        · refine hQ83 _ _ _ _ _ ?_
          refine J_iload_n hX dX10_flat_124 rfl ?_
          refine J_if_ne hX dX10_flat_125 (tgt := 132) rfl (fun _ => ?_) (fun _ => ?_)
          · refine J_iload_n hX dX10_flat_132 rfl ?_
            exact J_iret hX hM dX10_flat_133
          · refine J_iload_n hX dX10_flat_128 rfl ?_
            refine J_goto hX dX10_flat_129 (tgt := 133) rfl ?_
            exact J_iret hX hM dX10_flat_133
        · refine J_aload_n hX dX10_flat_95 rfl ?_
          refine J_iload hX dX10_flat_96 rfl ?_
          refine J_cVI hX hE 0 (C_X10_darkOnDay hG hE v4_83 σ_83) mw_X10_darkOnDay ml_X10_304 rfl rfl rfl ⟨Nat.le_of_ble_eq_true rfl, Nat.le_of_ble_eq_true rfl⟩ rfl rfl (Nat.le_of_ble_eq_true rfl) dX10_flat_98 (fun q17 s18 => ?_)
          refine J_if_eq hX dX10_flat_101 (tgt := 118) rfl (fun _ => ?_) (fun _ => ?_)
          · refine J_iinc hX dX10_flat_118 rfl (congrArg (_ + ·) k_i1) (Nat.le_of_ble_eq_true rfl) (lv' := [(0, .ref (jad G (nm 0))), (1, .int v1), (2, .int v2_83), (3, .int v3_83), (4, .int (v4_83 + 1))]) rfl ?_
            refine J_goto hX dX10_flat_121 (tgt := 83) rfl ?_
            exact J_keep [0, 1, 2, 3, 4] rfl (hN83 (v2_83, v3_83, v4_83 + 1, s18))
          · refine J_iload_n hX dX10_flat_104 rfl ?_
            refine J_if_ne hX dX10_flat_105 (tgt := 113) rfl (fun _ => ?_) (fun _ => ?_)
            · refine J_iload_n hX dX10_flat_113 rfl ?_
              refine J_istore_n hX dX10_flat_114 (Nat.le_of_ble_eq_true rfl) (lv' := [(0, .ref (jad G (nm 0))), (1, .int v1), (2, .int v2_83), (3, .int v3_83), (4, .int v4_83)]) rfl ?_
              refine J_iinc hX dX10_flat_115 rfl (congrArg (_ + ·) k_i1) (Nat.le_of_ble_eq_true rfl) (lv' := [(0, .ref (jad G (nm 0))), (1, .int v1), (2, .int v2_83), (3, .int (v3_83 + 1)), (4, .int v4_83)]) rfl ?_
              refine J_iinc hX dX10_flat_118 rfl (congrArg (_ + ·) k_i1) (Nat.le_of_ble_eq_true rfl) (lv' := [(0, .ref (jad G (nm 0))), (1, .int v1), (2, .int v2_83), (3, .int (v3_83 + 1)), (4, .int (v4_83 + 1))]) rfl ?_
              refine J_goto hX dX10_flat_121 (tgt := 83) rfl ?_
              exact J_keep [0, 1, 2, 3, 4] rfl (hN83 (v2_83, v3_83 + 1, v4_83 + 1, s18))
            · refine J_iload hX dX10_flat_108 rfl ?_
              refine J_goto hX dX10_flat_110 (tgt := 114) rfl ?_
              refine J_istore_n hX dX10_flat_114 (Nat.le_of_ble_eq_true rfl) (lv' := [(0, .ref (jad G (nm 0))), (1, .int v1), (2, .int v4_83), (3, .int v3_83), (4, .int v4_83)]) rfl ?_
              refine J_iinc hX dX10_flat_115 rfl (congrArg (_ + ·) k_i1) (Nat.le_of_ble_eq_true rfl) (lv' := [(0, .ref (jad G (nm 0))), (1, .int v1), (2, .int v4_83), (3, .int (v3_83 + 1)), (4, .int v4_83)]) rfl ?_
              refine J_iinc hX dX10_flat_118 rfl (congrArg (_ + ·) k_i1) (Nat.le_of_ble_eq_true rfl) (lv' := [(0, .ref (jad G (nm 0))), (1, .int v1), (2, .int v4_83), (3, .int (v3_83 + 1)), (4, .int (v4_83 + 1))]) rfl ?_
              refine J_goto hX dX10_flat_121 (tgt := 83) rfl ?_
              exact J_keep [0, 1, 2, 3, 4] rfl (hN83 (v4_83, v3_83 + 1, v4_83 + 1, s18))
      · refine J_aload_n hX dX10_flat_68 rfl ?_
        refine J_iload_n hX dX10_flat_69 rfl ?_
        refine J_iconst hX dX10_flat_70 k_i2 ?_
        refine J_isub hX dX10_flat_71 ?_
        refine J_cVI hX hE 0 (C_X10_darkOnDay hG hE (v1 - 2) s15) mw_X10_darkOnDay ml_X10_304 rfl rfl rfl ⟨Nat.le_of_ble_eq_true rfl, Nat.le_of_ble_eq_true rfl⟩ rfl rfl (Nat.le_of_ble_eq_true rfl) dX10_flat_72 (fun q19 s20 => ?_)
        exact J_iret hX hM dX10_flat_75
    · refine J_sipush hX dX10_flat_48 ks_m1003 ?_
      exact J_iret hX hM dX10_flat_51
  unfold f_X10_flat
  refine J_iload_n hX dX10_flat_0 rfl ?_
  refine J_if_lt hX dX10_flat_1 (tgt := 22) rfl (fun _ => ?_) (fun _ => ?_)
  · refine J_sipush hX dX10_flat_22 ks_m1002 ?_
    exact J_iret hX hM dX10_flat_25
  · refine J_iload_n hX dX10_flat_4 rfl ?_
    refine J_iconst hX dX10_flat_5 k_i1 ?_
    refine J_icmp_le hX dX10_flat_6 (tgt := 26) rfl (fun _ => ?_) (fun _ => ?_)
    · exact J_keep [0, 1] rfl (hJ26 v1 σ)
    · refine J_iload_n hX dX10_flat_9 rfl ?_
      refine J_iconst hX dX10_flat_10 k_i2 ?_
      refine J_isub hX dX10_flat_11 ?_
      refine J_aload_n hX dX10_flat_12 rfl ?_
      refine J_getr hX hE 0 4 rfl rfl fl_X10_41 dX10_flat_13 ?_
      refine J_cVP hX hE 55 (C_X4_size hG (hE.sb [55, 56] sb_29) σ) mw_X4_size ml_X10_106 rfl rfl rfl ⟨Nat.le_of_ble_eq_true rfl, Nat.le_of_ble_eq_true rfl⟩ rfl rfl (Nat.le_of_ble_eq_true rfl) dX10_flat_16 (fun q21 => ?_)
      refine J_icmp_lt hX dX10_flat_19 (tgt := 26) rfl (fun _ => ?_) (fun _ => ?_)
      · exact J_keep [0, 1] rfl (hJ26 v1 σ)
      · refine J_sipush hX dX10_flat_22 ks_m1002 ?_
        exact J_iret hX hM dX10_flat_25
theorem mw_X10_flat : jMV Y_X10_flat 1 := ⟨⟨tw_tb (List.mem_of_getElem? (i := 995) (by decide +kernel)) (by decide +kernel), tw_tb (List.mem_of_getElem? (i := 996) (by decide +kernel)) (by decide +kernel), tw_tb (List.mem_of_getElem? (i := 1) (by decide +kernel)) (by decide +kernel), tw_tb (List.mem_of_getElem? (i := 997) (by decide +kernel)) (by decide +kernel)⟩, ⟨rfl, rfl⟩, by decide +kernel, by decide +kernel, by decide +kernel⟩
-- X10_forget
noncomputable def f_X10_forget (nm : Nat → Nat) (σ : jS) : Option (Int32 × jS) :=
  (f_X4_size (jn nm [77, 78]) 8 σ).bind (fun q1 =>
    (f_X4_empty (jn nm [77, 78]) 8 σ).bind (fun s2 =>
      some (q1, s2)))
abbrev Y_X10_forget : jY := (yX10_forget, cX10_forget, 2, some .int, { frames := 1, cells := 0, slots := 0, locals := 20 })
theorem C_X10_forget {l : Launch} {G : jG} {nm : Nat → Nat} (hG : jWL G) (hE : jE G nm LS_X10) (σ : jS) : jC r_I l G Y_X10_forget [.ref (jad G (nm 0))] σ (f_X10_forget nm σ) := by
  refine jw_met hG pn_X10 (Nat.le_of_ble_eq_true rfl) ⟨rfl, rfl⟩ ?_
  intro X hX hM
  have hX : jB X l G cX10_forget RX10 2 { frames := 1, cells := 0, slots := 0, locals := 20 } := hX
  have hM : jM X (some .int) := hM
  show J X 0 [(0, .ref (jad G (nm 0)))] [] σ (f_X10_forget nm σ) (jk r_I X)
  unfold f_X10_forget
  refine J_aload_n hX dX10_forget_0 rfl ?_
  refine J_getr hX hE 0 9 rfl rfl fl_X10_62 dX10_forget_1 ?_
  refine J_cVP hX hE 77 (C_X4_size hG (hE.sb [77, 78] sb_19) σ) mw_X4_size ml_X10_106 rfl rfl rfl ⟨Nat.le_of_ble_eq_true rfl, Nat.le_of_ble_eq_true rfl⟩ rfl rfl (Nat.le_of_ble_eq_true rfl) dX10_forget_4 (fun q3 => ?_)
  refine J_istore_n hX dX10_forget_7 (Nat.le_of_ble_eq_true rfl) (lv' := [(0, .ref (jad G (nm 0))), (1, .int q3)]) rfl ?_
  refine J_aload_n hX dX10_forget_8 rfl ?_
  refine J_getr hX hE 0 9 rfl rfl fl_X10_62 dX10_forget_9 ?_
  refine J_cVV hX hE 77 (C_X4_empty hG (hE.sb [77, 78] sb_19) σ) mw_X4_empty ml_X10_120 rfl rfl rfl ⟨Nat.le_of_ble_eq_true rfl, Nat.le_of_ble_eq_true rfl⟩ rfl rfl (Nat.le_of_ble_eq_true rfl) dX10_forget_12 (fun s4 => ?_)
  refine J_iload_n hX dX10_forget_15 rfl ?_
  exact J_iret hX hM dX10_forget_16
theorem mw_X10_forget : jMV Y_X10_forget 0 := ⟨⟨tw_tb (List.mem_of_getElem? (i := 842) (by decide +kernel)) (by decide +kernel), tw_tb (List.mem_of_getElem? (i := 843) (by decide +kernel)) (by decide +kernel), tw_tb (List.mem_of_getElem? (i := 1) (by decide +kernel)) (by decide +kernel), tw_tb (List.mem_of_getElem? (i := 844) (by decide +kernel)) (by decide +kernel)⟩, ⟨rfl, rfl⟩, by decide +kernel, by decide +kernel, by decide +kernel⟩
-- X10_imageOf
noncomputable def f_X10_imageOf (nm : Nat → Nat) (v1 : Int32) (σ : jS) : Option (Option Nat) :=
  if v1 = 0 then
    some (some 67)
  else
    if v1 = 1 then
      some (some 72)
    else
      some none
abbrev Y_X10_imageOf : jY := (yX10_imageOf, cX10_imageOf, 2, some (.object "LampsListen$Moment"), { frames := 0, cells := 0, slots := 0, locals := 0 })
theorem C_X10_imageOf {l : Launch} {G : jG} {nm : Nat → Nat} (hG : jWL G) (hE : jE G nm LS_X10) (v1 : Int32) (σ : jS) : jC (r_PR G nm σ) l G Y_X10_imageOf [.ref (jad G (nm 0)), .int v1] σ (f_X10_imageOf nm v1 σ) := by
  refine jw_met hG pn_X10 (Nat.le_of_ble_eq_true rfl) ⟨rfl, rfl⟩ ?_
  intro X hX hM
  have hX : jB X l G cX10_imageOf RX10 2 { frames := 0, cells := 0, slots := 0, locals := 0 } := hX
  have hM : jM X (some (.object "LampsListen$Moment")) := hM
  show J X 0 [(0, .ref (jad G (nm 0))), (1, .int v1)] [] σ (f_X10_imageOf nm v1 σ) (jk (r_PR G nm σ) X)
  unfold f_X10_imageOf
  refine J_iload_n hX dX10_imageOf_0 rfl ?_
  refine J_if_ne hX dX10_imageOf_1 (tgt := 9) rfl (fun _ => ?_) (fun _ => ?_)
  · refine J_iload_n hX dX10_imageOf_9 rfl ?_
    refine J_iconst hX dX10_imageOf_10 k_i1 ?_
    refine J_icmp_ne hX dX10_imageOf_11 (tgt := 21) rfl (fun _ => ?_) (fun _ => ?_)
    · refine J_null hX dX10_imageOf_21 ?_
      exact J_aretN hX hM dX10_imageOf_22
    · refine J_aload_n hX dX10_imageOf_14 rfl ?_
      refine J_getr hX hE 0 8 rfl rfl fl_X10_59 dX10_imageOf_15 ?_
      refine J_goto hX dX10_imageOf_18 (tgt := 22) rfl ?_
      exact J_aretR hX hM 72 dX10_imageOf_22
  · refine J_aload_n hX dX10_imageOf_4 rfl ?_
    refine J_getr hX hE 0 7 rfl rfl fl_X10_56 dX10_imageOf_5 ?_
    exact J_aretR hX hM 67 dX10_imageOf_8
theorem mw_X10_imageOf : jMV Y_X10_imageOf 1 := ⟨⟨tw_tb (List.mem_of_getElem? (i := 1033) (by decide +kernel)) (by decide +kernel), tw_pv (List.mem_of_getElem? (i := 34) (by decide +kernel)) (by decide +kernel), tw_tb (List.mem_of_getElem? (i := 1) (by decide +kernel)) (by decide +kernel), tw_tb (List.mem_of_getElem? (i := 1034) (by decide +kernel)) (by decide +kernel)⟩, ⟨rfl, rfl⟩, by decide +kernel, by decide +kernel, by decide +kernel⟩
-- X10_goBack
noncomputable def f_X10_goBack (nm : Nat → Nat) (v1 : Int32) (σ : jS) : Option (Int32 × jS) :=
  (f_X10_imageOf nm v1 σ).bind (fun q1 =>
    if q1 = some 67 then
      if (g_i σ (nm 67) 9) = 0 then
        some ((-1003), σ)
      else
        (f_X2_copy (jn nm [57, 31, 32, 33, 34, 35, 36, 37, 38, 39, 40, 41, 42, 43, 44, 45, 46, 47, 58, 59, 60, 61, 67, 31, 32, 33, 34, 35, 36, 37, 38, 39, 40, 41, 42, 43, 44, 45, 46, 47, 68, 69, 70, 71]) σ).bind (fun s4 =>
          bd (s_i s4 (nm 91) 7 0) (fun s5 =>
            some (1, s5)))
    else
      if q1 = some 72 then
        if (g_i σ (nm 72) 9) = 0 then
          some ((-1003), σ)
        else
          (f_X2_copy (jn nm [57, 31, 32, 33, 34, 35, 36, 37, 38, 39, 40, 41, 42, 43, 44, 45, 46, 47, 58, 59, 60, 61, 72, 31, 32, 33, 34, 35, 36, 37, 38, 39, 40, 41, 42, 43, 44, 45, 46, 47, 73, 74, 75, 76]) σ).bind (fun s2 =>
            bd (s_i s2 (nm 91) 7 0) (fun s3 =>
              some (1, s3)))
      else
        if q1 = none then
          some ((-1001), σ)
        else none)
abbrev Y_X10_goBack : jY := (yX10_goBack, cX10_goBack, 3, some .int, { frames := 1, cells := 0, slots := 0, locals := 22 })
theorem C_X10_goBack {l : Launch} {G : jG} {nm : Nat → Nat} (hG : jWL G) (hE : jE G nm LS_X10) (v1 : Int32) (σ : jS) : jC r_I l G Y_X10_goBack [.ref (jad G (nm 0)), .int v1] σ (f_X10_goBack nm v1 σ) := by
  refine jw_met hG pn_X10 (Nat.le_of_ble_eq_true rfl) ⟨rfl, rfl⟩ ?_
  intro X hX hM
  have hX : jB X l G cX10_goBack RX10 3 { frames := 1, cells := 0, slots := 0, locals := 22 } := hX
  have hM : jM X (some .int) := hM
  show J X 0 [(0, .ref (jad G (nm 0))), (1, .int v1)] [] σ (f_X10_goBack nm v1 σ) (jk r_I X)
  unfold f_X10_goBack
  refine J_aload_n hX dX10_goBack_0 rfl ?_
  refine J_iload_n hX dX10_goBack_1 rfl ?_
  refine J_cVR hX hE 0 (C_X10_imageOf hG hE v1 σ) mw_X10_imageOf ml_X10_317 rfl rfl rfl ⟨Nat.le_of_ble_eq_true rfl, Nat.le_of_ble_eq_true rfl⟩ rfl rfl (Nat.le_of_ble_eq_true rfl) dX10_goBack_2 (fun q6 => ?_)
  refine J_ifR ?_ ?_
  · refine J_astore_n hX dX10_goBack_5 (Nat.le_of_ble_eq_true rfl) (lv' := [(0, .ref (jad G (nm 0))), (1, .int v1), (2, .ref (jad G (nm 67)))]) rfl ?_
    refine J_aload_n hX dX10_goBack_6 rfl ?_
    refine J_ifnonnull hX dX10_goBack_7 (tgt := 14) rfl ?_
    refine J_aload_n hX dX10_goBack_14 rfl ?_
    refine J_geti hX hE 67 9 rfl rfl fl_X10_121 dX10_goBack_15 ?_
    refine J_if_ne hX dX10_goBack_18 (tgt := 25) rfl (fun _ => ?_) (fun _ => ?_)
    · refine J_aload_n hX dX10_goBack_25 rfl ?_
      refine J_getr hX hE 0 5 rfl rfl fl_X10_49 dX10_goBack_26 ?_
      refine J_aload_n hX dX10_goBack_29 rfl ?_
      refine J_cVV hX hE 57 (C_X2_copy hG (hE.sb [57, 31, 32, 33, 34, 35, 36, 37, 38, 39, 40, 41, 42, 43, 44, 45, 46, 47, 58, 59, 60, 61, 67, 31, 32, 33, 34, 35, 36, 37, 38, 39, 40, 41, 42, 43, 44, 45, 46, 47, 68, 69, 70, 71] sb_43) σ) mw_X2_copy ml_X10_301 rfl rfl rfl ⟨Nat.le_of_ble_eq_true rfl, Nat.le_of_ble_eq_true rfl⟩ rfl rfl (Nat.le_of_ble_eq_true rfl) dX10_goBack_30 (fun s9 => ?_)
      refine J_aload_n hX dX10_goBack_33 rfl ?_
      refine J_getr hX hE 0 13 rfl rfl fl_X10_87 dX10_goBack_34 ?_
      refine J_iconst hX dX10_goBack_37 k_i0 ?_
      refine J_putz hX hE 91 7 jn_0 jf_0 rfl rfl fp_X10_125 dX10_goBack_38 ?_
      refine J_bdS (fun s10 => ?_)
      refine J_iconst hX dX10_goBack_41 k_i1 ?_
      exact J_iret hX hM dX10_goBack_42
    · refine J_sipush hX dX10_goBack_21 ks_m1003 ?_
      exact J_iret hX hM dX10_goBack_24
  · refine J_ifR ?_ ?_
    · refine J_astore_n hX dX10_goBack_5 (Nat.le_of_ble_eq_true rfl) (lv' := [(0, .ref (jad G (nm 0))), (1, .int v1), (2, .ref (jad G (nm 72)))]) rfl ?_
      refine J_aload_n hX dX10_goBack_6 rfl ?_
      refine J_ifnonnull hX dX10_goBack_7 (tgt := 14) rfl ?_
      refine J_aload_n hX dX10_goBack_14 rfl ?_
      refine J_geti hX hE 72 9 rfl rfl fl_X10_121 dX10_goBack_15 ?_
      refine J_if_ne hX dX10_goBack_18 (tgt := 25) rfl (fun _ => ?_) (fun _ => ?_)
      · refine J_aload_n hX dX10_goBack_25 rfl ?_
        refine J_getr hX hE 0 5 rfl rfl fl_X10_49 dX10_goBack_26 ?_
        refine J_aload_n hX dX10_goBack_29 rfl ?_
        refine J_cVV hX hE 57 (C_X2_copy hG (hE.sb [57, 31, 32, 33, 34, 35, 36, 37, 38, 39, 40, 41, 42, 43, 44, 45, 46, 47, 58, 59, 60, 61, 72, 31, 32, 33, 34, 35, 36, 37, 38, 39, 40, 41, 42, 43, 44, 45, 46, 47, 73, 74, 75, 76] sb_42) σ) mw_X2_copy ml_X10_301 rfl rfl rfl ⟨Nat.le_of_ble_eq_true rfl, Nat.le_of_ble_eq_true rfl⟩ rfl rfl (Nat.le_of_ble_eq_true rfl) dX10_goBack_30 (fun s7 => ?_)
        refine J_aload_n hX dX10_goBack_33 rfl ?_
        refine J_getr hX hE 0 13 rfl rfl fl_X10_87 dX10_goBack_34 ?_
        refine J_iconst hX dX10_goBack_37 k_i0 ?_
        refine J_putz hX hE 91 7 jn_0 jf_0 rfl rfl fp_X10_125 dX10_goBack_38 ?_
        refine J_bdS (fun s8 => ?_)
        refine J_iconst hX dX10_goBack_41 k_i1 ?_
        exact J_iret hX hM dX10_goBack_42
      · refine J_sipush hX dX10_goBack_21 ks_m1003 ?_
        exact J_iret hX hM dX10_goBack_24
    · refine J_ifN ?_
      refine J_astore_nN hX dX10_goBack_5 (Nat.le_of_ble_eq_true rfl) (lv' := [(0, .ref (jad G (nm 0))), (1, .int v1), (2, .null)]) rfl ?_
      refine J_aload_nN hX dX10_goBack_6 rfl ?_
      refine J_ifnonnullN hX dX10_goBack_7 ?_
      refine J_sipush hX dX10_goBack_10 ks_m1001 ?_
      exact J_iret hX hM dX10_goBack_13
theorem mw_X10_goBack : jMV Y_X10_goBack 1 := ⟨⟨tw_tb (List.mem_of_getElem? (i := 1036) (by decide +kernel)) (by decide +kernel), tw_tb (List.mem_of_getElem? (i := 1037) (by decide +kernel)) (by decide +kernel), tw_tb (List.mem_of_getElem? (i := 1) (by decide +kernel)) (by decide +kernel), tw_tb (List.mem_of_getElem? (i := 1038) (by decide +kernel)) (by decide +kernel)⟩, ⟨rfl, rfl⟩, by decide +kernel, by decide +kernel, by decide +kernel⟩
-- X10_isSpot
noncomputable def f_X10_isSpot (v0 : Int32) (v1 : Int32) : Option Int32 :=
  (f_X10_isWithin v0 0 49).bind (fun q1 =>
    if q1 = 0 then
      some 0
    else
      (f_X10_isWithin v1 0 63).bind (fun q2 =>
        if q2 = 0 then
          some 0
        else
          some 1))
abbrev Y_X10_isSpot : jY := (yX10_isSpot, cX10_isSpot, 2, some .boolean, { frames := 1, cells := 0, slots := 0, locals := 22 })
theorem C_X10_isSpot {l : Launch} {G : jG} (hG : jWL G) (v0 : Int32) (v1 : Int32) (σ : jS) : jC (r_P σ) l G Y_X10_isSpot [.int v0, .int v1] σ (f_X10_isSpot v0 v1) := by
  refine jw_met hG pn_X10 (Nat.le_of_ble_eq_true rfl) ⟨rfl, rfl⟩ ?_
  intro X hX hM
  have hX : jB X l G cX10_isSpot RX10 2 { frames := 1, cells := 0, slots := 0, locals := 22 } := hX
  have hM : jM X (some .boolean) := hM
  show J X 0 [(0, .int v0), (1, .int v1)] [] σ (f_X10_isSpot v0 v1) (jk (r_P σ) X)
  unfold f_X10_isSpot
  refine J_iload_n hX dX10_isSpot_0 rfl ?_
  refine J_iconst hX dX10_isSpot_1 k_i0 ?_
  refine J_bipush hX dX10_isSpot_2 kb_49 ?_
  refine J_cSP hX (C_X10_isWithin hG v0 0 49 σ) mw_X10_isWithin ml_X10_211 ⟨Nat.le_of_ble_eq_true rfl, Nat.le_of_ble_eq_true rfl⟩ rfl rfl (Nat.le_of_ble_eq_true rfl) dX10_isSpot_4 (fun q3 => ?_)
  refine J_if_eq hX dX10_isSpot_7 (tgt := 24) rfl (fun _ => ?_) (fun _ => ?_)
  · refine J_iconst hX dX10_isSpot_24 k_i0 ?_
    exact J_zretP hX hM jn_0 dX10_isSpot_25
  · refine J_iload_n hX dX10_isSpot_10 rfl ?_
    refine J_iconst hX dX10_isSpot_11 k_i0 ?_
    refine J_bipush hX dX10_isSpot_12 kb_63 ?_
    refine J_cSP hX (C_X10_isWithin hG v1 0 63 σ) mw_X10_isWithin ml_X10_211 ⟨Nat.le_of_ble_eq_true rfl, Nat.le_of_ble_eq_true rfl⟩ rfl rfl (Nat.le_of_ble_eq_true rfl) dX10_isSpot_14 (fun q4 => ?_)
    refine J_if_eq hX dX10_isSpot_17 (tgt := 24) rfl (fun _ => ?_) (fun _ => ?_)
    · refine J_iconst hX dX10_isSpot_24 k_i0 ?_
      exact J_zretP hX hM jn_0 dX10_isSpot_25
    · refine J_iconst hX dX10_isSpot_20 k_i1 ?_
      refine J_goto hX dX10_isSpot_21 (tgt := 25) rfl ?_
      exact J_zretP hX hM jn_1 dX10_isSpot_25
theorem mw_X10_isSpot : jMS Y_X10_isSpot 2 := ⟨⟨tw_tb (List.mem_of_getElem? (i := 672) (by decide +kernel)) (by decide +kernel), tw_tb (List.mem_of_getElem? (i := 1) (by decide +kernel)) (by decide +kernel), tw_tb (List.mem_of_getElem? (i := 673) (by decide +kernel)) (by decide +kernel)⟩, ⟨rfl, rfl⟩, by decide +kernel, by decide +kernel, by decide +kernel⟩
-- X2_light
noncomputable def f_X2_light_L2 (nm : Nat → Nat) (v1 : Int32) (v2 : Int32) (s : (Int32 × jS)) : Option ((Int32 × jS) ⊕ jS) :=
  match s with
  | (v3, σ) =>
    if 10 ≤ v3 then
      some (.inr σ)
    else
      if ((v1 >>> (v3 &&& 31)) &&& 1) = 0 then
        some (.inl (v3 + 1, σ))
      else
        gd (vp_in v3 10) (bd (s_i σ (nm 19) v3.toNatClampNeg (g_i σ (nm 1) 8)) (fun s1 =>
          gd (vp_in v3 10) (bd (s_i s1 (nm 21) v3.toNatClampNeg v2) (fun s2 =>
            some (.inl (v3 + 1, s2))))))
noncomputable def f_X2_light (nm : Nat → Nat) (v1 : Int32) (v2 : Int32) (σ : jS) : Option jS :=
  (lp (f_X2_light_L2 nm v1 v2) fu (0, σ)).bind (fun s3 =>
    some s3)
abbrev Y_X2_light : jY := (yX2_light, cX2_light, 4, none, { frames := 0, cells := 0, slots := 0, locals := 0 })
theorem C_X2_light {l : Launch} {G : jG} {nm : Nat → Nat} (hG : jWL G) (hE : jE G nm LS_X2) (v1 : Int32) (v2 : Int32) (σ : jS) : jC r_V l G Y_X2_light [.ref (jad G (nm 0)), .int v1, .int v2] σ (f_X2_light nm v1 v2 σ) := by
  refine jw_met hG pn_X2 (Nat.le_of_ble_eq_true rfl) ⟨rfl, rfl⟩ ?_
  intro X hX hM
  have hX : jB X l G cX2_light RX2 4 { frames := 0, cells := 0, slots := 0, locals := 0 } := hX
  have hM : jM X (none) := hM
  show J X 0 [(0, .ref (jad G (nm 0))), (1, .int v1), (2, .int v2)] [] σ (f_X2_light nm v1 v2 σ) (jk r_V X)
  unfold f_X2_light
  refine J_iconst hX dX2_light_0 k_i0 ?_
  refine J_istore_n hX dX2_light_1 (Nat.le_of_ble_eq_true rfl) (lv' := [(0, .ref (jad G (nm 0))), (1, .int v1), (2, .int v2), (3, .int 0)]) rfl ?_
  refine J_keep [0, 1, 2, 3] (lv' := [(0, .ref (jad G (nm 0))), (1, .int v1), (2, .int v2), (3, .int 0)]) rfl ?_
  refine J_lp (pc := 2) (s0 := (0, σ)) (fun (s : (Int32 × jS)) => [(0, .ref (jad G (nm 0))), (1, .int v1), (2, .int v2), (3, .int (s.1))]) (fun (s : (Int32 × jS)) => s.2) ?_
  intro KK2 hN2 hQ2 z2
  obtain ⟨v3_2, σ_2⟩ := z2
  show J X 2 [(0, .ref (jad G (nm 0))), (1, .int v1), (2, .int v2), (3, .int v3_2)] [] σ_2 (f_X2_light_L2 nm v1 v2 (v3_2, σ_2)) KK2
  unfold f_X2_light_L2
  refine J_iload_n hX dX2_light_2 rfl ?_
  refine J_bipush hX dX2_light_3 kb_10 ?_
  refine J_icmp_ge hX dX2_light_5 (tgt := 42) rfl (fun _ => ?_) (fun _ => ?_)
  · refine hQ2 _ _ _ _ _ ?_
    exact J_vret hX hM dX2_light_42
  · refine J_iload_n hX dX2_light_8 rfl ?_
    refine J_iload_n hX dX2_light_9 rfl ?_
    refine J_ishr hX dX2_light_10 ?_
    refine J_iconst hX dX2_light_11 k_i1 ?_
    refine J_iand hX dX2_light_12 ?_
    refine J_if_eq hX dX2_light_13 (tgt := 36) rfl (fun _ => ?_) (fun _ => ?_)
    · refine J_iinc hX dX2_light_36 rfl (congrArg (_ + ·) k_i1) (Nat.le_of_ble_eq_true rfl) (lv' := [(0, .ref (jad G (nm 0))), (1, .int v1), (2, .int v2), (3, .int (v3_2 + 1))]) rfl ?_
      refine J_goto hX dX2_light_39 (tgt := 2) rfl ?_
      exact J_keep [0, 1, 2, 3] rfl (hN2 (v3_2 + 1, σ_2))
    · refine J_aload_n hX dX2_light_16 rfl ?_
      refine J_getr hX hE 0 2 rfl rfl fl_X2_15 dX2_light_17 ?_
      refine J_iload_n hX dX2_light_20 rfl ?_
      refine J_aload_n hX dX2_light_21 rfl ?_
      refine J_getr hX hE 0 0 rfl rfl fl_X2_24 dX2_light_22 ?_
      refine J_geti hX hE 1 8 rfl rfl fl_X2_80 dX2_light_25 ?_
      refine J_iast hX hE 19 rfl dX2_light_28 (fun _ => ?_)
      refine J_bdS (fun s4 => ?_)
      refine J_aload_n hX dX2_light_29 rfl ?_
      refine J_getr hX hE 0 4 rfl rfl fl_X2_21 dX2_light_30 ?_
      refine J_iload_n hX dX2_light_33 rfl ?_
      refine J_iload_n hX dX2_light_34 rfl ?_
      refine J_iast hX hE 21 rfl dX2_light_35 (fun _ => ?_)
      refine J_bdS (fun s5 => ?_)
      refine J_iinc hX dX2_light_36 rfl (congrArg (_ + ·) k_i1) (Nat.le_of_ble_eq_true rfl) (lv' := [(0, .ref (jad G (nm 0))), (1, .int v1), (2, .int v2), (3, .int (v3_2 + 1))]) rfl ?_
      refine J_goto hX dX2_light_39 (tgt := 2) rfl ?_
      exact J_keep [0, 1, 2, 3] rfl (hN2 (v3_2 + 1, s5))
theorem mw_X2_light : jMV Y_X2_light 2 := ⟨⟨tw_tb (List.mem_of_getElem? (i := 691) (by decide +kernel)) (by decide +kernel), tw_tb (List.mem_of_getElem? (i := 692) (by decide +kernel)) (by decide +kernel), tw_tb (List.mem_of_getElem? (i := 8) (by decide +kernel)) (by decide +kernel), tw_tb (List.mem_of_getElem? (i := 693) (by decide +kernel)) (by decide +kernel)⟩, ⟨rfl, rfl⟩, by decide +kernel, by decide +kernel, by decide +kernel⟩
-- X10_hum
noncomputable def f_X10_hum (nm : Nat → Nat) (v1 : Int32) (v2 : Int32) (σ : jS) : Option (Int32 × jS) :=
  (f_X10_isSpot v1 v2).bind (fun q1 =>
    if q1 = 0 then
      some ((-1002), σ)
    else
      (f_X2_woken (jn nm [57, 31, 32, 33, 34, 35, 36, 37, 38, 39, 40, 41, 42, 43, 44, 45, 46, 47, 58, 59, 60, 61]) v1 v2 (g_i σ (nm 31) 10) σ).bind (fun q2 =>
        (f_X2_light (jn nm [57, 31, 32, 33, 34, 35, 36, 37, 38, 39, 40, 41, 42, 43, 44, 45, 46, 47, 58, 59, 60, 61]) q2 (-3) σ).bind (fun s3 =>
          some (q2, s3))))
abbrev Y_X10_hum : jY := (yX10_hum, cX10_hum, 4, some .int, { frames := 3, cells := 0, slots := 0, locals := 68 })
theorem C_X10_hum {l : Launch} {G : jG} {nm : Nat → Nat} (hG : jWL G) (hE : jE G nm LS_X10) (v1 : Int32) (v2 : Int32) (σ : jS) : jC r_I l G Y_X10_hum [.ref (jad G (nm 0)), .int v1, .int v2] σ (f_X10_hum nm v1 v2 σ) := by
  refine jw_met hG pn_X10 (Nat.le_of_ble_eq_true rfl) ⟨rfl, rfl⟩ ?_
  intro X hX hM
  have hX : jB X l G cX10_hum RX10 4 { frames := 3, cells := 0, slots := 0, locals := 68 } := hX
  have hM : jM X (some .int) := hM
  show J X 0 [(0, .ref (jad G (nm 0))), (1, .int v1), (2, .int v2)] [] σ (f_X10_hum nm v1 v2 σ) (jk r_I X)
  unfold f_X10_hum
  refine J_iload_n hX dX10_hum_0 rfl ?_
  refine J_iload_n hX dX10_hum_1 rfl ?_
  refine J_cSP hX (C_X10_isSpot hG v1 v2 σ) mw_X10_isSpot ml_X10_215 ⟨Nat.le_of_ble_eq_true rfl, Nat.le_of_ble_eq_true rfl⟩ rfl rfl (Nat.le_of_ble_eq_true rfl) dX10_hum_2 (fun q4 => ?_)
  refine J_if_ne hX dX10_hum_5 (tgt := 12) rfl (fun _ => ?_) (fun _ => ?_)
  · refine J_aload_n hX dX10_hum_12 rfl ?_
    refine J_getr hX hE 0 5 rfl rfl fl_X10_49 dX10_hum_13 ?_
    refine J_iload_n hX dX10_hum_16 rfl ?_
    refine J_iload_n hX dX10_hum_17 rfl ?_
    refine J_aload_n hX dX10_hum_18 rfl ?_
    refine J_getr hX hE 0 2 rfl rfl fl_X10_30 dX10_hum_19 ?_
    refine J_geti hX hE 31 10 rfl rfl fl_X10_155 dX10_hum_22 ?_
    refine J_cVP hX hE 57 (C_X2_woken hG (hE.sb [57, 31, 32, 33, 34, 35, 36, 37, 38, 39, 40, 41, 42, 43, 44, 45, 46, 47, 58, 59, 60, 61] sb_23) v1 v2 (g_i σ (nm 31) 10) σ) mw_X2_woken ml_X10_222 rfl rfl rfl ⟨Nat.le_of_ble_eq_true rfl, Nat.le_of_ble_eq_true rfl⟩ rfl rfl (Nat.le_of_ble_eq_true rfl) dX10_hum_25 (fun q5 => ?_)
    refine J_istore_n hX dX10_hum_28 (Nat.le_of_ble_eq_true rfl) (lv' := [(0, .ref (jad G (nm 0))), (1, .int v1), (2, .int v2), (3, .int q5)]) rfl ?_
    refine J_aload_n hX dX10_hum_29 rfl ?_
    refine J_getr hX hE 0 5 rfl rfl fl_X10_49 dX10_hum_30 ?_
    refine J_iload_n hX dX10_hum_33 rfl ?_
    refine J_bipush hX dX10_hum_34 kb_m3 ?_
    refine J_cVV hX hE 57 (C_X2_light hG (hE.sb [57, 31, 32, 33, 34, 35, 36, 37, 38, 39, 40, 41, 42, 43, 44, 45, 46, 47, 58, 59, 60, 61] sb_23) q5 (-3) σ) mw_X2_light ml_X10_226 rfl rfl rfl ⟨Nat.le_of_ble_eq_true rfl, Nat.le_of_ble_eq_true rfl⟩ rfl rfl (Nat.le_of_ble_eq_true rfl) dX10_hum_36 (fun s6 => ?_)
    refine J_iload_n hX dX10_hum_39 rfl ?_
    exact J_iret hX hM dX10_hum_40
  · refine J_sipush hX dX10_hum_8 ks_m1002 ?_
    exact J_iret hX hM dX10_hum_11
theorem mw_X10_hum : jMV Y_X10_hum 2 := ⟨⟨tw_tb (List.mem_of_getElem? (i := 687) (by decide +kernel)) (by decide +kernel), tw_tb (List.mem_of_getElem? (i := 688) (by decide +kernel)) (by decide +kernel), tw_tb (List.mem_of_getElem? (i := 1) (by decide +kernel)) (by decide +kernel), tw_tb (List.mem_of_getElem? (i := 689) (by decide +kernel)) (by decide +kernel)⟩, ⟨rfl, rfl⟩, by decide +kernel, by decide +kernel, by decide +kernel⟩
-- X7_count
noncomputable def f_X7_count (nm : Nat → Nat) (σ : jS) : Option Int32 :=
  (f_X4_size (jn nm [1, 2]) 30 σ).bind (fun q1 =>
    some q1)
abbrev Y_X7_count : jY := (yX7_count, cX7_count, 1, some .int, { frames := 1, cells := 0, slots := 0, locals := 20 })
theorem C_X7_count {l : Launch} {G : jG} {nm : Nat → Nat} (hG : jWL G) (hE : jE G nm LS_X7) (σ : jS) : jC (r_P σ) l G Y_X7_count [.ref (jad G (nm 0))] σ (f_X7_count nm σ) := by
  refine jw_met hG pn_X7 (Nat.le_of_ble_eq_true rfl) ⟨rfl, rfl⟩ ?_
  intro X hX hM
  have hX : jB X l G cX7_count RX7 1 { frames := 1, cells := 0, slots := 0, locals := 20 } := hX
  have hM : jM X (some .int) := hM
  show J X 0 [(0, .ref (jad G (nm 0)))] [] σ (f_X7_count nm σ) (jk (r_P σ) X)
  unfold f_X7_count
  refine J_aload_n hX dX7_count_0 rfl ?_
  refine J_getr hX hE 0 0 rfl rfl fl_X7_14 dX7_count_1 ?_
  refine J_cVP hX hE 1 (C_X4_size hG (hE.sb [1, 2] sb_44) σ) mw_X4_size ml_X7_26 rfl rfl rfl ⟨Nat.le_of_ble_eq_true rfl, Nat.le_of_ble_eq_true rfl⟩ rfl rfl (Nat.le_of_ble_eq_true rfl) dX7_count_4 (fun q2 => ?_)
  exact J_iretP hX hM dX7_count_7
theorem mw_X7_count : jMV Y_X7_count 0 := ⟨⟨tw_tb (List.mem_of_getElem? (i := 595) (by decide +kernel)) (by decide +kernel), tw_tb (List.mem_of_getElem? (i := 596) (by decide +kernel)) (by decide +kernel), tw_tb (List.mem_of_getElem? (i := 6) (by decide +kernel)) (by decide +kernel), tw_tb (List.mem_of_getElem? (i := 597) (by decide +kernel)) (by decide +kernel)⟩, ⟨rfl, rfl⟩, by decide +kernel, by decide +kernel, by decide +kernel⟩
-- X2_draw
noncomputable def f_X2_draw (nm : Nat → Nat) (v1 : Int32) (σ : jS) : Option (Int32 × jS) :=
  bd (s_i σ (nm 0) 8 ((((g_i σ (nm 0) 8) * 1103515245) + 12345) &&& 2147483647)) (fun s1 =>
    if v1 ≤ 0 then
      some (0, s1)
    else
      gd (¬ (65536 : Int32) = 0) (gd (¬ v1 = 0) (some (((g_i s1 (nm 0) 8) / 65536) - ((g_i s1 (nm 0) 8) / 65536) / v1 * v1, s1))))
abbrev Y_X2_draw : jY := (yX2_draw, cX2_draw, 2, some .int, { frames := 0, cells := 0, slots := 0, locals := 0 })
theorem C_X2_draw {l : Launch} {G : jG} {nm : Nat → Nat} (hG : jWL G) (hE : jE G nm LS_X2) (v1 : Int32) (σ : jS) : jC r_I l G Y_X2_draw [.ref (jad G (nm 0)), .int v1] σ (f_X2_draw nm v1 σ) := by
  refine jw_met hG pn_X2 (Nat.le_of_ble_eq_true rfl) ⟨rfl, rfl⟩ ?_
  intro X hX hM
  have hX : jB X l G cX2_draw RX2 2 { frames := 0, cells := 0, slots := 0, locals := 0 } := hX
  have hM : jM X (some .int) := hM
  show J X 0 [(0, .ref (jad G (nm 0))), (1, .int v1)] [] σ (f_X2_draw nm v1 σ) (jk r_I X)
  unfold f_X2_draw
  refine J_aload_n hX dX2_draw_0 rfl ?_
  refine J_aload_n hX dX2_draw_1 rfl ?_
  refine J_geti hX hE 0 8 rfl rfl fl_X2_53 dX2_draw_2 ?_
  refine J_ldc hX wc_X2_115 dX2_draw_5 ?_
  refine J_imul hX dX2_draw_7 ?_
  refine J_sipush hX dX2_draw_8 ks_12345 ?_
  refine J_iadd hX dX2_draw_11 ?_
  refine J_ldc hX wc_X2_116 dX2_draw_12 ?_
  refine J_iand hX dX2_draw_14 ?_
  refine J_puti hX hE 0 8 rfl rfl fp_X2_53 dX2_draw_15 ?_
  refine J_bdS (fun s2 => ?_)
  refine J_iload_n hX dX2_draw_18 rfl ?_
  refine J_if_le hX dX2_draw_19 (tgt := 34) rfl (fun _ => ?_) (fun _ => ?_)
  · refine J_iconst hX dX2_draw_34 k_i0 ?_
    exact J_iret hX hM dX2_draw_35
  · refine J_aload_n hX dX2_draw_22 rfl ?_
    refine J_geti hX hE 0 8 rfl rfl fl_X2_53 dX2_draw_23 ?_
    refine J_ldc hX wc_X2_117 dX2_draw_26 ?_
    refine J_idiv hX dX2_draw_28 (fun _ => ?_)
    refine J_iload_n hX dX2_draw_29 rfl ?_
    refine J_irem hX dX2_draw_30 (fun _ => ?_)
    refine J_goto hX dX2_draw_31 (tgt := 35) rfl ?_
    exact J_iret hX hM dX2_draw_35
theorem mw_X2_draw : jMV Y_X2_draw 1 := ⟨⟨tw_tb (List.mem_of_getElem? (i := 707) (by decide +kernel)) (by decide +kernel), tw_pv (List.mem_of_getElem? (i := 9) (by decide +kernel)) (by decide +kernel), tw_tb (List.mem_of_getElem? (i := 8) (by decide +kernel)) (by decide +kernel), tw_tb (List.mem_of_getElem? (i := 708) (by decide +kernel)) (by decide +kernel)⟩, ⟨rfl, rfl⟩, by decide +kernel, by decide +kernel, by decide +kernel⟩
-- X2_burnDown
noncomputable def f_X2_burnDown_J27 (nm : Nat → Nat) (v1 : Int32) (σ : jS) : Option ((Int32 × jS) ⊕ jS) :=
  gd (vp_in v1 10) (
    if (g_i σ (nm 19) v1.toNatClampNeg) ≤ 0 then
      some (.inl (v1 + 1, σ))
    else
      gd (vp_in v1 10) (
        if 99 ≤ (g_i σ (nm 20) v1.toNatClampNeg) then
          some (.inl (v1 + 1, σ))
        else
          gd (vp_in v1 10) (
            gd (vp_in v1 10) (bd (s_i σ (nm 20) v1.toNatClampNeg ((g_i σ (nm 20) v1.toNatClampNeg) + 1)) (fun s3 =>
              some (.inl (v1 + 1, s3)))))))
noncomputable def f_X2_burnDown_L2 (nm : Nat → Nat) (s : (Int32 × jS)) : Option ((Int32 × jS) ⊕ jS) :=
  match s with
  | (v1, σ) =>
    if 10 ≤ v1 then
      some (.inr σ)
    else
      gd (vp_in v1 10) (
        (if (g_i σ (nm 19) v1.toNatClampNeg) ≤ 0 then
          some σ
        else
          gd (vp_in v1 10) (
            gd (vp_in v1 10) (bd (s_i σ (nm 19) v1.toNatClampNeg ((g_i σ (nm 19) v1.toNatClampNeg) - 1)) (fun s1 =>
              some s1)))).bind (fun s2 =>
          f_X2_burnDown_J27 nm v1 s2))
noncomputable def f_X2_burnDown (nm : Nat → Nat) (σ : jS) : Option jS :=
  (lp (f_X2_burnDown_L2 nm) fu (0, σ)).bind (fun s4 =>
    some s4)
abbrev Y_X2_burnDown : jY := (yX2_burnDown, cX2_burnDown, 2, none, { frames := 0, cells := 0, slots := 0, locals := 0 })
theorem C_X2_burnDown {l : Launch} {G : jG} {nm : Nat → Nat} (hG : jWL G) (hE : jE G nm LS_X2) (σ : jS) : jC r_V l G Y_X2_burnDown [.ref (jad G (nm 0))] σ (f_X2_burnDown nm σ) := by
  refine jw_met hG pn_X2 (Nat.le_of_ble_eq_true rfl) ⟨rfl, rfl⟩ ?_
  intro X hX hM
  have hX : jB X l G cX2_burnDown RX2 2 { frames := 0, cells := 0, slots := 0, locals := 0 } := hX
  have hM : jM X (none) := hM
  show J X 0 [(0, .ref (jad G (nm 0)))] [] σ (f_X2_burnDown nm σ) (jk r_V X)
  unfold f_X2_burnDown
  refine J_iconst hX dX2_burnDown_0 k_i0 ?_
  refine J_istore_n hX dX2_burnDown_1 (Nat.le_of_ble_eq_true rfl) (lv' := [(0, .ref (jad G (nm 0))), (1, .int 0)]) rfl ?_
  refine J_keep [0, 1] (lv' := [(0, .ref (jad G (nm 0))), (1, .int 0)]) rfl ?_
  refine J_lp (pc := 2) (s0 := (0, σ)) (fun (s : (Int32 × jS)) => [(0, .ref (jad G (nm 0))), (1, .int (s.1))]) (fun (s : (Int32 × jS)) => s.2) ?_
  intro KK2 hN2 hQ2 z2
  obtain ⟨v1_2, σ_2⟩ := z2
  show J X 2 [(0, .ref (jad G (nm 0))), (1, .int v1_2)] [] σ_2 (f_X2_burnDown_L2 nm (v1_2, σ_2)) KK2
  have hJ27 : ∀ (v1_j27 : Int32) (σ_j27 : jS), J X 27 [(0, .ref (jad G (nm 0))), (1, .int v1_j27)] [] σ_j27 (f_X2_burnDown_J27 nm v1_j27 σ_j27) KK2 := by
    intro v1_j27 σ_j27
    unfold f_X2_burnDown_J27
    refine J_aload_n hX dX2_burnDown_27 rfl ?_
    refine J_getr hX hE 0 2 rfl rfl fl_X2_15 dX2_burnDown_28 ?_
    refine J_iload_n hX dX2_burnDown_31 rfl ?_
    refine J_iald hX hE 19 rfl dX2_burnDown_32 (fun _ => ?_)
    refine J_if_le hX dX2_burnDown_33 (tgt := 57) rfl (fun _ => ?_) (fun _ => ?_)
    · refine J_iinc hX dX2_burnDown_57 rfl (congrArg (_ + ·) k_i1) (Nat.le_of_ble_eq_true rfl) (lv' := [(0, .ref (jad G (nm 0))), (1, .int (v1_j27 + 1))]) rfl ?_
      refine J_goto hX dX2_burnDown_60 (tgt := 2) rfl ?_
      exact J_keep [0, 1] rfl (hN2 (v1_j27 + 1, σ_j27))
    · refine J_aload_n hX dX2_burnDown_36 rfl ?_
      refine J_getr hX hE 0 3 rfl rfl fl_X2_18 dX2_burnDown_37 ?_
      refine J_iload_n hX dX2_burnDown_40 rfl ?_
      refine J_iald hX hE 20 rfl dX2_burnDown_41 (fun _ => ?_)
      refine J_bipush hX dX2_burnDown_42 kb_99 ?_
      refine J_icmp_ge hX dX2_burnDown_44 (tgt := 57) rfl (fun _ => ?_) (fun _ => ?_)
      · refine J_iinc hX dX2_burnDown_57 rfl (congrArg (_ + ·) k_i1) (Nat.le_of_ble_eq_true rfl) (lv' := [(0, .ref (jad G (nm 0))), (1, .int (v1_j27 + 1))]) rfl ?_
        refine J_goto hX dX2_burnDown_60 (tgt := 2) rfl ?_
        exact J_keep [0, 1] rfl (hN2 (v1_j27 + 1, σ_j27))
      · refine J_aload_n hX dX2_burnDown_47 rfl ?_
        refine J_getr hX hE 0 3 rfl rfl fl_X2_18 dX2_burnDown_48 ?_
        refine J_iload_n hX dX2_burnDown_51 rfl ?_
        refine J_dup2 hX dX2_burnDown_52 rfl rfl ?_
        refine J_iald hX hE 20 rfl dX2_burnDown_53 (fun _ => ?_)
        refine J_iconst hX dX2_burnDown_54 k_i1 ?_
        refine J_iadd hX dX2_burnDown_55 ?_
        refine J_iast hX hE 20 rfl dX2_burnDown_56 (fun _ => ?_)
        refine J_bdS (fun s5 => ?_)
        refine J_iinc hX dX2_burnDown_57 rfl (congrArg (_ + ·) k_i1) (Nat.le_of_ble_eq_true rfl) (lv' := [(0, .ref (jad G (nm 0))), (1, .int (v1_j27 + 1))]) rfl ?_
        refine J_goto hX dX2_burnDown_60 (tgt := 2) rfl ?_
        exact J_keep [0, 1] rfl (hN2 (v1_j27 + 1, s5))
  unfold f_X2_burnDown_L2
  refine J_iload_n hX dX2_burnDown_2 rfl ?_
  refine J_bipush hX dX2_burnDown_3 kb_10 ?_
  refine J_icmp_ge hX dX2_burnDown_5 (tgt := 63) rfl (fun _ => ?_) (fun _ => ?_)
  · refine hQ2 _ _ _ _ _ ?_
    exact J_vret hX hM dX2_burnDown_63
  · refine J_aload_n hX dX2_burnDown_8 rfl ?_
    refine J_getr hX hE 0 2 rfl rfl fl_X2_15 dX2_burnDown_9 ?_
    refine J_iload_n hX dX2_burnDown_12 rfl ?_
    refine J_iald hX hE 19 rfl dX2_burnDown_13 (fun _ => ?_)
    refine J_blk ?_
    intro KB14 hB14
    refine J_if_le hX dX2_burnDown_14 (tgt := 27) rfl (fun _ => ?_) (fun _ => ?_)
    · refine hB14 _ _ _ _ _ ?_
      exact J_keep [0, 1] rfl (hJ27 v1_2 σ_2)
    · refine J_aload_n hX dX2_burnDown_17 rfl ?_
      refine J_getr hX hE 0 2 rfl rfl fl_X2_15 dX2_burnDown_18 ?_
      refine J_iload_n hX dX2_burnDown_21 rfl ?_
      refine J_dup2 hX dX2_burnDown_22 rfl rfl ?_
      refine J_iald hX hE 19 rfl dX2_burnDown_23 (fun _ => ?_)
      refine J_iconst hX dX2_burnDown_24 k_i1 ?_
      refine J_isub hX dX2_burnDown_25 ?_
      refine J_iast hX hE 19 rfl dX2_burnDown_26 (fun _ => ?_)
      refine J_bdS (fun s6 => ?_)
      refine hB14 _ _ _ _ _ ?_
      exact J_keep [0, 1] rfl (hJ27 v1_2 s6)
theorem mw_X2_burnDown : jMV Y_X2_burnDown 0 := ⟨⟨tw_tb (List.mem_of_getElem? (i := 714) (by decide +kernel)) (by decide +kernel), tw_pv (List.mem_of_getElem? (i := 10) (by decide +kernel)) (by decide +kernel), tw_tb (List.mem_of_getElem? (i := 8) (by decide +kernel)) (by decide +kernel), tw_tb (List.mem_of_getElem? (i := 715) (by decide +kernel)) (by decide +kernel)⟩, ⟨rfl, rfl⟩, by decide +kernel, by decide +kernel, by decide +kernel⟩
-- X2_passMinute
noncomputable def f_X2_passMinute_L2 (nm : Nat → Nat) (s : (Int32 × jS)) : Option ((Int32 × jS) ⊕ jS) :=
  match s with
  | (v2, σ) =>
    (f_X7_count (jn nm [22, 23, 24, 25, 26, 27, 28]) σ).bind (fun q1 =>
      if q1 ≤ v2 then
        some (.inr σ)
      else
        (f_X4_at (jn nm [23, 24]) 30 v2 σ).bind (fun q2 =>
          if q2 = (g_i σ (nm 0) 5) then
            (f_X4_at (jn nm [25, 26]) 30 v2 σ).bind (fun q3 =>
              (f_X4_at (jn nm [10, 11]) 8 q3 σ).bind (fun q4 =>
                (f_X4_at (jn nm [27, 28]) 30 v2 σ).bind (fun q5 =>
                  (f_X4_at (jn nm [12, 13]) 8 q3 σ).bind (fun q6 =>
                    (f_X2_woken (jn nm [0, 1, 2, 3, 4, 5, 6, 7, 8, 9, 10, 11, 12, 13, 14, 15, 16, 17, 18, 19, 20, 21]) q4 q5 q6 σ).bind (fun q7 =>
                      (f_X2_light (jn nm [0, 1, 2, 3, 4, 5, 6, 7, 8, 9, 10, 11, 12, 13, 14, 15, 16, 17, 18, 19, 20, 21]) q7 q3 σ).bind (fun s8 =>
                        some (.inl (v2 + 1, s8))))))))
          else
            some (.inl (v2 + 1, σ))))
noncomputable def f_X2_passMinute_J116 (nm : Nat → Nat) (σ : jS) : Option jS :=
  (f_X2_burnDown (jn nm [0, 1, 2, 3, 4, 5, 6, 7, 8, 9, 10, 11, 12, 13, 14, 15, 16, 17, 18, 19, 20, 21]) σ).bind (fun s17 =>
    bd (s_i s17 (nm 0) 5 ((g_i s17 (nm 0) 5) + 1)) (fun s18 =>
      some s18))
noncomputable def f_X2_passMinute (nm : Nat → Nat) (σ : jS) : Option jS :=
  (lp (f_X2_passMinute_L2 nm) fu (0, σ)).bind (fun s9 =>
    (if (g_i s9 (nm 0) 7) ≤ 0 then
      some s9
    else
      (f_X2_draw (jn nm [0, 1, 2, 3, 4, 5, 6, 7, 8, 9, 10, 11, 12, 13, 14, 15, 16, 17, 18, 19, 20, 21]) 50 s9).bind (fun x => match x with
      | (q10, s11) =>
        (f_X2_draw (jn nm [0, 1, 2, 3, 4, 5, 6, 7, 8, 9, 10, 11, 12, 13, 14, 15, 16, 17, 18, 19, 20, 21]) 64 s11).bind (fun x => match x with
        | (q12, s13) =>
          (f_X2_woken (jn nm [0, 1, 2, 3, 4, 5, 6, 7, 8, 9, 10, 11, 12, 13, 14, 15, 16, 17, 18, 19, 20, 21]) q10 q12 (g_i s13 (nm 0) 7) s13).bind (fun q14 =>
            (f_X2_light (jn nm [0, 1, 2, 3, 4, 5, 6, 7, 8, 9, 10, 11, 12, 13, 14, 15, 16, 17, 18, 19, 20, 21]) q14 (-2) s13).bind (fun s15 =>
              some s15))))).bind (fun s16 =>
      f_X2_passMinute_J116 nm s16))
abbrev Y_X2_passMinute : jY := (yX2_passMinute, cX2_passMinute, 4, none, { frames := 3, cells := 0, slots := 0, locals := 68 })
theorem C_X2_passMinute {l : Launch} {G : jG} {nm : Nat → Nat} (hG : jWL G) (hE : jE G nm LS_X2_X7) (σ : jS) : jC r_V l G Y_X2_passMinute [.ref (jad G (nm 0)), .ref (jad G (nm 22))] σ (f_X2_passMinute nm σ) := by
  refine jw_met hG pn_X2 (Nat.le_of_ble_eq_true rfl) ⟨rfl, rfl⟩ ?_
  intro X hX hM
  have hX : jB X l G cX2_passMinute RX2 4 { frames := 3, cells := 0, slots := 0, locals := 68 } := hX
  have hM : jM X (none) := hM
  show J X 0 [(0, .ref (jad G (nm 0))), (1, .ref (jad G (nm 22)))] [] σ (f_X2_passMinute nm σ) (jk r_V X)
  have hJ116 : ∀ (σ : jS), J X 116 [(0, .ref (jad G (nm 0)))] [] σ (f_X2_passMinute_J116 nm σ) (jk r_V X) := by
    intro σ
    unfold f_X2_passMinute_J116
    refine J_aload_n hX dX2_passMinute_116 rfl ?_
    refine J_cVV hX hE 0 (C_X2_burnDown hG (hE.sb [0, 1, 2, 3, 4, 5, 6, 7, 8, 9, 10, 11, 12, 13, 14, 15, 16, 17, 18, 19, 20, 21] sb_51) σ) mw_X2_burnDown ml_X2_112 rfl rfl rfl ⟨Nat.le_of_ble_eq_true rfl, Nat.le_of_ble_eq_true rfl⟩ rfl rfl (Nat.le_of_ble_eq_true rfl) dX2_passMinute_117 (fun s19 => ?_)
    refine J_aload_n hX dX2_passMinute_120 rfl ?_
    refine J_dup hX dX2_passMinute_121 rfl ?_
    refine J_geti hX hE 0 5 rfl rfl fl_X2_50 dX2_passMinute_122 ?_
    refine J_iconst hX dX2_passMinute_125 k_i1 ?_
    refine J_iadd hX dX2_passMinute_126 ?_
    refine J_puti hX hE 0 5 rfl rfl fp_X2_50 dX2_passMinute_127 ?_
    refine J_bdS (fun s20 => ?_)
    exact J_vret hX hM dX2_passMinute_130
  unfold f_X2_passMinute
  refine J_iconst hX dX2_passMinute_0 k_i0 ?_
  refine J_istore_n hX dX2_passMinute_1 (Nat.le_of_ble_eq_true rfl) (lv' := [(0, .ref (jad G (nm 0))), (1, .ref (jad G (nm 22))), (2, .int 0)]) rfl ?_
  refine J_keep [0, 1, 2] (lv' := [(0, .ref (jad G (nm 0))), (1, .ref (jad G (nm 22))), (2, .int 0)]) rfl ?_
  refine J_lp (pc := 2) (s0 := (0, σ)) (fun (s : (Int32 × jS)) => [(0, .ref (jad G (nm 0))), (1, .ref (jad G (nm 22))), (2, .int (s.1))]) (fun (s : (Int32 × jS)) => s.2) ?_
  intro KK2 hN2 hQ2 z2
  obtain ⟨v2_2, σ_2⟩ := z2
  show J X 2 [(0, .ref (jad G (nm 0))), (1, .ref (jad G (nm 22))), (2, .int v2_2)] [] σ_2 (f_X2_passMinute_L2 nm (v2_2, σ_2)) KK2
  unfold f_X2_passMinute_L2
  refine J_iload_n hX dX2_passMinute_2 rfl ?_
  refine J_aload_n hX dX2_passMinute_3 rfl ?_
  refine J_cVP hX hE 22 (C_X7_count hG (hE.sb [22, 23, 24, 25, 26, 27, 28] sb_45) σ_2) mw_X7_count ml_X2_83 rfl rfl rfl ⟨Nat.le_of_ble_eq_true rfl, Nat.le_of_ble_eq_true rfl⟩ rfl rfl (Nat.le_of_ble_eq_true rfl) dX2_passMinute_4 (fun q21 => ?_)
  refine J_icmp_ge hX dX2_passMinute_7 (tgt := 79) rfl (fun _ => ?_) (fun _ => ?_)
  · refine hQ2 _ _ _ _ _ ?_
    refine J_aload_n hX dX2_passMinute_79 rfl ?_
    refine J_geti hX hE 0 7 rfl rfl fl_X2_44 dX2_passMinute_80 ?_
    refine J_blk ?_
    intro KB83 hB83
    refine J_if_le hX dX2_passMinute_83 (tgt := 116) rfl (fun _ => ?_) (fun _ => ?_)
    · refine hB83 _ _ _ _ _ ?_
      exact J_keep [0] rfl (hJ116 σ_2)
    · refine J_aload_n hX dX2_passMinute_86 rfl ?_
      refine J_bipush hX dX2_passMinute_87 kb_50 ?_
      refine J_cVI hX hE 0 (C_X2_draw hG (hE.sb [0, 1, 2, 3, 4, 5, 6, 7, 8, 9, 10, 11, 12, 13, 14, 15, 16, 17, 18, 19, 20, 21] sb_51) 50 σ_2) mw_X2_draw ml_X2_109 rfl rfl rfl ⟨Nat.le_of_ble_eq_true rfl, Nat.le_of_ble_eq_true rfl⟩ rfl rfl (Nat.le_of_ble_eq_true rfl) dX2_passMinute_89 (fun q22 s23 => ?_)
      refine J_istore_n hX dX2_passMinute_92 (Nat.le_of_ble_eq_true rfl) (lv' := [(0, .ref (jad G (nm 0))), (1, .ref (jad G (nm 22))), (2, .int q22)]) rfl ?_
      refine J_aload_n hX dX2_passMinute_93 rfl ?_
      refine J_bipush hX dX2_passMinute_94 kb_64 ?_
      refine J_cVI hX hE 0 (C_X2_draw hG (hE.sb [0, 1, 2, 3, 4, 5, 6, 7, 8, 9, 10, 11, 12, 13, 14, 15, 16, 17, 18, 19, 20, 21] sb_51) 64 s23) mw_X2_draw ml_X2_109 rfl rfl rfl ⟨Nat.le_of_ble_eq_true rfl, Nat.le_of_ble_eq_true rfl⟩ rfl rfl (Nat.le_of_ble_eq_true rfl) dX2_passMinute_96 (fun q24 s25 => ?_)
      refine J_istore_n hX dX2_passMinute_99 (Nat.le_of_ble_eq_true rfl) (lv' := [(0, .ref (jad G (nm 0))), (1, .ref (jad G (nm 22))), (2, .int q22), (3, .int q24)]) rfl ?_
      refine J_aload_n hX dX2_passMinute_100 rfl ?_
      refine J_aload_n hX dX2_passMinute_101 rfl ?_
      refine J_iload_n hX dX2_passMinute_102 rfl ?_
      refine J_iload_n hX dX2_passMinute_103 rfl ?_
      refine J_aload_n hX dX2_passMinute_104 rfl ?_
      refine J_geti hX hE 0 7 rfl rfl fl_X2_44 dX2_passMinute_105 ?_
      refine J_cVP hX hE 0 (C_X2_woken hG (hE.sb [0, 1, 2, 3, 4, 5, 6, 7, 8, 9, 10, 11, 12, 13, 14, 15, 16, 17, 18, 19, 20, 21] sb_51) q22 q24 (g_i s25 (nm 0) 7) s25) mw_X2_woken ml_X2_101 rfl rfl rfl ⟨Nat.le_of_ble_eq_true rfl, Nat.le_of_ble_eq_true rfl⟩ rfl rfl (Nat.le_of_ble_eq_true rfl) dX2_passMinute_108 (fun q26 => ?_)
      refine J_bipush hX dX2_passMinute_111 kb_m2 ?_
      refine J_cVV hX hE 0 (C_X2_light hG (hE.sb [0, 1, 2, 3, 4, 5, 6, 7, 8, 9, 10, 11, 12, 13, 14, 15, 16, 17, 18, 19, 20, 21] sb_51) q26 (-2) s25) mw_X2_light ml_X2_105 rfl rfl rfl ⟨Nat.le_of_ble_eq_true rfl, Nat.le_of_ble_eq_true rfl⟩ rfl rfl (Nat.le_of_ble_eq_true rfl) dX2_passMinute_113 (fun s27 => ?_)
      refine hB83 _ _ _ _ _ ?_
      exact J_keep [0] rfl (hJ116 s27)
  · refine J_aload_n hX dX2_passMinute_10 rfl ?_
    refine J_getr hX hE 22 0 rfl rfl fl_X2_88 dX2_passMinute_11 ?_
    refine J_iload_n hX dX2_passMinute_14 rfl ?_
    refine J_cVP hX hE 23 (C_X4_at hG (hE.sb [23, 24] sb_46) v2_2 σ_2) mw_X4_at ml_X2_34 rfl rfl rfl ⟨Nat.le_of_ble_eq_true rfl, Nat.le_of_ble_eq_true rfl⟩ rfl rfl (Nat.le_of_ble_eq_true rfl) dX2_passMinute_15 (fun q28 => ?_)
    refine J_aload_n hX dX2_passMinute_18 rfl ?_
    refine J_geti hX hE 0 5 rfl rfl fl_X2_50 dX2_passMinute_19 ?_
    refine J_icmp_ne hX dX2_passMinute_22 (tgt := 73) rfl (fun _ => ?_) (fun _ => ?_)
    · refine J_iinc hX dX2_passMinute_73 rfl (congrArg (_ + ·) k_i1) (Nat.le_of_ble_eq_true rfl) (lv' := [(0, .ref (jad G (nm 0))), (1, .ref (jad G (nm 22))), (2, .int (v2_2 + 1))]) rfl ?_
      refine J_goto hX dX2_passMinute_76 (tgt := 2) rfl ?_
      exact J_keep [0, 1, 2] rfl (hN2 (v2_2 + 1, σ_2))
    · refine J_aload_n hX dX2_passMinute_25 rfl ?_
      refine J_getr hX hE 22 1 rfl rfl fl_X2_90 dX2_passMinute_26 ?_
      refine J_iload_n hX dX2_passMinute_29 rfl ?_
      refine J_cVP hX hE 25 (C_X4_at hG (hE.sb [25, 26] sb_47) v2_2 σ_2) mw_X4_at ml_X2_34 rfl rfl rfl ⟨Nat.le_of_ble_eq_true rfl, Nat.le_of_ble_eq_true rfl⟩ rfl rfl (Nat.le_of_ble_eq_true rfl) dX2_passMinute_30 (fun q29 => ?_)
      refine J_istore_n hX dX2_passMinute_33 (Nat.le_of_ble_eq_true rfl) (lv' := [(0, .ref (jad G (nm 0))), (1, .ref (jad G (nm 22))), (2, .int v2_2), (3, .int q29)]) rfl ?_
      refine J_aload_n hX dX2_passMinute_34 rfl ?_
      refine J_aload_n hX dX2_passMinute_35 rfl ?_
      refine J_aload_n hX dX2_passMinute_36 rfl ?_
      refine J_getr hX hE 0 0 rfl rfl fl_X2_24 dX2_passMinute_37 ?_
      refine J_getr hX hE 1 4 rfl rfl fl_X2_93 dX2_passMinute_40 ?_
      refine J_iload_n hX dX2_passMinute_43 rfl ?_
      refine J_cVP hX hE 10 (C_X4_at hG (hE.sb [10, 11] sb_48) q29 σ_2) mw_X4_at ml_X2_34 rfl rfl rfl ⟨Nat.le_of_ble_eq_true rfl, Nat.le_of_ble_eq_true rfl⟩ rfl rfl (Nat.le_of_ble_eq_true rfl) dX2_passMinute_44 (fun q30 => ?_)
      refine J_aload_n hX dX2_passMinute_47 rfl ?_
      refine J_getr hX hE 22 2 rfl rfl fl_X2_96 dX2_passMinute_48 ?_
      refine J_iload_n hX dX2_passMinute_51 rfl ?_
      refine J_cVP hX hE 27 (C_X4_at hG (hE.sb [27, 28] sb_49) v2_2 σ_2) mw_X4_at ml_X2_34 rfl rfl rfl ⟨Nat.le_of_ble_eq_true rfl, Nat.le_of_ble_eq_true rfl⟩ rfl rfl (Nat.le_of_ble_eq_true rfl) dX2_passMinute_52 (fun q31 => ?_)
      refine J_aload_n hX dX2_passMinute_55 rfl ?_
      refine J_getr hX hE 0 0 rfl rfl fl_X2_24 dX2_passMinute_56 ?_
      refine J_getr hX hE 1 5 rfl rfl fl_X2_98 dX2_passMinute_59 ?_
      refine J_iload_n hX dX2_passMinute_62 rfl ?_
      refine J_cVP hX hE 12 (C_X4_at hG (hE.sb [12, 13] sb_50) q29 σ_2) mw_X4_at ml_X2_34 rfl rfl rfl ⟨Nat.le_of_ble_eq_true rfl, Nat.le_of_ble_eq_true rfl⟩ rfl rfl (Nat.le_of_ble_eq_true rfl) dX2_passMinute_63 (fun q32 => ?_)
      refine J_cVP hX hE 0 (C_X2_woken hG (hE.sb [0, 1, 2, 3, 4, 5, 6, 7, 8, 9, 10, 11, 12, 13, 14, 15, 16, 17, 18, 19, 20, 21] sb_51) q30 q31 q32 σ_2) mw_X2_woken ml_X2_101 rfl rfl rfl ⟨Nat.le_of_ble_eq_true rfl, Nat.le_of_ble_eq_true rfl⟩ rfl rfl (Nat.le_of_ble_eq_true rfl) dX2_passMinute_66 (fun q33 => ?_)
      refine J_iload_n hX dX2_passMinute_69 rfl ?_
      refine J_cVV hX hE 0 (C_X2_light hG (hE.sb [0, 1, 2, 3, 4, 5, 6, 7, 8, 9, 10, 11, 12, 13, 14, 15, 16, 17, 18, 19, 20, 21] sb_51) q33 q29 σ_2) mw_X2_light ml_X2_105 rfl rfl rfl ⟨Nat.le_of_ble_eq_true rfl, Nat.le_of_ble_eq_true rfl⟩ rfl rfl (Nat.le_of_ble_eq_true rfl) dX2_passMinute_70 (fun s34 => ?_)
      refine J_iinc hX dX2_passMinute_73 rfl (congrArg (_ + ·) k_i1) (Nat.le_of_ble_eq_true rfl) (lv' := [(0, .ref (jad G (nm 0))), (1, .ref (jad G (nm 22))), (2, .int (v2_2 + 1)), (3, .int q29)]) rfl ?_
      refine J_goto hX dX2_passMinute_76 (tgt := 2) rfl ?_
      exact J_keep [0, 1, 2] rfl (hN2 (v2_2 + 1, s34))
theorem mw_X2_passMinute : jMV Y_X2_passMinute 1 := ⟨⟨tw_tb (List.mem_of_getElem? (i := 699) (by decide +kernel)) (by decide +kernel), tw_tb (List.mem_of_getElem? (i := 700) (by decide +kernel)) (by decide +kernel), tw_tb (List.mem_of_getElem? (i := 8) (by decide +kernel)) (by decide +kernel), tw_tb (List.mem_of_getElem? (i := 701) (by decide +kernel)) (by decide +kernel)⟩, ⟨rfl, rfl⟩, by decide +kernel, by decide +kernel, by decide +kernel⟩
-- X2_seen
noncomputable def f_X2_seen_L4 (nm : Nat → Nat) (σ : jS) (s : (Int32 × Int32)) : Option ((Int32 × Int32) ⊕ Int32) :=
  match s with
  | (v1, v2) =>
    if 10 ≤ v2 then
      some (.inr v1)
    else
      gd (vp_in v2 10) (
        if (g_i σ (nm 19) v2.toNatClampNeg) ≤ 0 then
          some (.inl (v1, v2 + 1))
        else
          gd (vp_in v2 10) (
            if (g_i σ (nm 1) 9) ≤ (g_i σ (nm 20) v2.toNatClampNeg) then
              some (.inl (v1, v2 + 1))
            else
              bd (v1 ||| (1 <<< (v2 &&& 31))) (fun x1 =>
                some (.inl (x1, v2 + 1)))))
noncomputable def f_X2_seen (nm : Nat → Nat) (σ : jS) : Option Int32 :=
  (lp (f_X2_seen_L4 nm σ) fu (0, 0)).bind (fun e2 =>
    some e2)
abbrev Y_X2_seen : jY := (yX2_seen, cX2_seen, 3, some .int, { frames := 0, cells := 0, slots := 0, locals := 0 })
theorem C_X2_seen {l : Launch} {G : jG} {nm : Nat → Nat} (hG : jWL G) (hE : jE G nm LS_X2) (σ : jS) : jC (r_P σ) l G Y_X2_seen [.ref (jad G (nm 0))] σ (f_X2_seen nm σ) := by
  refine jw_met hG pn_X2 (Nat.le_of_ble_eq_true rfl) ⟨rfl, rfl⟩ ?_
  intro X hX hM
  have hX : jB X l G cX2_seen RX2 3 { frames := 0, cells := 0, slots := 0, locals := 0 } := hX
  have hM : jM X (some .int) := hM
  show J X 0 [(0, .ref (jad G (nm 0)))] [] σ (f_X2_seen nm σ) (jk (r_P σ) X)
  unfold f_X2_seen
  refine J_iconst hX dX2_seen_0 k_i0 ?_
  refine J_istore_n hX dX2_seen_1 (Nat.le_of_ble_eq_true rfl) (lv' := [(0, .ref (jad G (nm 0))), (1, .int 0)]) rfl ?_
  refine J_iconst hX dX2_seen_2 k_i0 ?_
  refine J_istore_n hX dX2_seen_3 (Nat.le_of_ble_eq_true rfl) (lv' := [(0, .ref (jad G (nm 0))), (1, .int 0), (2, .int 0)]) rfl ?_
  refine J_keep [0, 1, 2] (lv' := [(0, .ref (jad G (nm 0))), (1, .int 0), (2, .int 0)]) rfl ?_
  refine J_lp (pc := 4) (s0 := (0, 0)) (fun (s : (Int32 × Int32)) => [(0, .ref (jad G (nm 0))), (1, .int (s.1)), (2, .int (s.2))]) (fun (s : (Int32 × Int32)) => σ) ?_
  intro KK4 hN4 hQ4 z4
  obtain ⟨v1_4, v2_4⟩ := z4
  show J X 4 [(0, .ref (jad G (nm 0))), (1, .int v1_4), (2, .int v2_4)] [] σ (f_X2_seen_L4 nm σ (v1_4, v2_4)) KK4
  unfold f_X2_seen_L4
  refine J_iload_n hX dX2_seen_4 rfl ?_
  refine J_bipush hX dX2_seen_5 kb_10 ?_
  refine J_icmp_ge hX dX2_seen_7 (tgt := 47) rfl (fun _ => ?_) (fun _ => ?_)
  · refine hQ4 _ _ _ _ _ ?_
    refine J_iload_n hX dX2_seen_47 rfl ?_
    exact J_iretP hX hM dX2_seen_48
  · refine J_aload_n hX dX2_seen_10 rfl ?_
    refine J_getr hX hE 0 2 rfl rfl fl_X2_15 dX2_seen_11 ?_
    refine J_iload_n hX dX2_seen_14 rfl ?_
    refine J_iald hX hE 19 rfl dX2_seen_15 (fun _ => ?_)
    refine J_if_le hX dX2_seen_16 (tgt := 41) rfl (fun _ => ?_) (fun _ => ?_)
    · refine J_iinc hX dX2_seen_41 rfl (congrArg (_ + ·) k_i1) (Nat.le_of_ble_eq_true rfl) (lv' := [(0, .ref (jad G (nm 0))), (1, .int v1_4), (2, .int (v2_4 + 1))]) rfl ?_
      refine J_goto hX dX2_seen_44 (tgt := 4) rfl ?_
      exact J_keep [0, 1, 2] rfl (hN4 (v1_4, v2_4 + 1))
    · refine J_aload_n hX dX2_seen_19 rfl ?_
      refine J_getr hX hE 0 3 rfl rfl fl_X2_18 dX2_seen_20 ?_
      refine J_iload_n hX dX2_seen_23 rfl ?_
      refine J_iald hX hE 20 rfl dX2_seen_24 (fun _ => ?_)
      refine J_aload_n hX dX2_seen_25 rfl ?_
      refine J_getr hX hE 0 0 rfl rfl fl_X2_24 dX2_seen_26 ?_
      refine J_geti hX hE 1 9 rfl rfl fl_X2_118 dX2_seen_29 ?_
      refine J_icmp_ge hX dX2_seen_32 (tgt := 41) rfl (fun _ => ?_) (fun _ => ?_)
      · refine J_iinc hX dX2_seen_41 rfl (congrArg (_ + ·) k_i1) (Nat.le_of_ble_eq_true rfl) (lv' := [(0, .ref (jad G (nm 0))), (1, .int v1_4), (2, .int (v2_4 + 1))]) rfl ?_
        refine J_goto hX dX2_seen_44 (tgt := 4) rfl ?_
        exact J_keep [0, 1, 2] rfl (hN4 (v1_4, v2_4 + 1))
      · refine J_iload_n hX dX2_seen_35 rfl ?_
        refine J_iconst hX dX2_seen_36 k_i1 ?_
        refine J_iload_n hX dX2_seen_37 rfl ?_
        refine J_ishl hX dX2_seen_38 ?_
        refine J_ior hX dX2_seen_39 ?_
        refine J_bdI (fun x3 => ?_)
        refine J_istore_n hX dX2_seen_40 (Nat.le_of_ble_eq_true rfl) (lv' := [(0, .ref (jad G (nm 0))), (1, .int x3), (2, .int v2_4)]) rfl ?_
        refine J_iinc hX dX2_seen_41 rfl (congrArg (_ + ·) k_i1) (Nat.le_of_ble_eq_true rfl) (lv' := [(0, .ref (jad G (nm 0))), (1, .int x3), (2, .int (v2_4 + 1))]) rfl ?_
        refine J_goto hX dX2_seen_44 (tgt := 4) rfl ?_
        exact J_keep [0, 1, 2] rfl (hN4 (x3, v2_4 + 1))
theorem mw_X2_seen : jMV Y_X2_seen 0 := ⟨⟨tw_tb (List.mem_of_getElem? (i := 725) (by decide +kernel)) (by decide +kernel), tw_tb (List.mem_of_getElem? (i := 726) (by decide +kernel)) (by decide +kernel), tw_tb (List.mem_of_getElem? (i := 8) (by decide +kernel)) (by decide +kernel), tw_tb (List.mem_of_getElem? (i := 727) (by decide +kernel)) (by decide +kernel)⟩, ⟨rfl, rfl⟩, by decide +kernel, by decide +kernel, by decide +kernel⟩
-- X10_judge
noncomputable def f_X10_judge_L13 (nm : Nat → Nat) (s : (Int32 × jS)) : Option ((Int32 × jS) ⊕ (jS ⊕ (Int32 × jS))) :=
  match s with
  | (v1, σ) =>
    (f_X4_size (jn nm [79, 80]) 40 σ).bind (fun q2 =>
      if q2 ≤ v1 then
        some (.inr (.inl σ))
      else
        (f_X2_passMinute (jn nm [62, 31, 32, 33, 34, 35, 36, 37, 38, 39, 40, 41, 42, 43, 44, 45, 46, 47, 63, 64, 65, 66, 48, 49, 50, 51, 52, 53, 54]) σ).bind (fun s3 =>
          (f_X2_seen (jn nm [62, 31, 32, 33, 34, 35, 36, 37, 38, 39, 40, 41, 42, 43, 44, 45, 46, 47, 63, 64, 65, 66]) s3).bind (fun q4 =>
            (f_X4_at (jn nm [79, 80]) 40 v1 s3).bind (fun q5 =>
              if q4 = q5 then
                some (.inl (v1 + 1, s3))
              else
                some (.inr (.inr (v1, s3)))))))
noncomputable def f_X10_judge (nm : Nat → Nat) (σ : jS) : Option (Int32 × jS) :=
  (f_X2_copy (jn nm [62, 31, 32, 33, 34, 35, 36, 37, 38, 39, 40, 41, 42, 43, 44, 45, 46, 47, 63, 64, 65, 66, 57, 31, 32, 33, 34, 35, 36, 37, 38, 39, 40, 41, 42, 43, 44, 45, 46, 47, 58, 59, 60, 61]) σ).bind (fun s1 =>
    (lp (f_X10_judge_L13 nm) fu (0, s1)).bind (fun x => match x with
    | .inl s6 =>
      some ((-1), s6)
    | .inr a => some a))
abbrev Y_X10_judge : jY := (yX10_judge, cX10_judge, 2, some .int, { frames := 4, cells := 0, slots := 0, locals := 91 })
theorem C_X10_judge {l : Launch} {G : jG} {nm : Nat → Nat} (hG : jWL G) (hE : jE G nm LS_X10) (σ : jS) : jC r_I l G Y_X10_judge [.ref (jad G (nm 0))] σ (f_X10_judge nm σ) := by
  refine jw_met hG pn_X10 (Nat.le_of_ble_eq_true rfl) ⟨rfl, rfl⟩ ?_
  intro X hX hM
  have hX : jB X l G cX10_judge RX10 2 { frames := 4, cells := 0, slots := 0, locals := 91 } := hX
  have hM : jM X (some .int) := hM
  show J X 0 [(0, .ref (jad G (nm 0)))] [] σ (f_X10_judge nm σ) (jk r_I X)
  unfold f_X10_judge
  refine J_aload_n hX dX10_judge_0 rfl ?_
  refine J_getr hX hE 0 6 rfl rfl fl_X10_53 dX10_judge_1 ?_
  refine J_aload_n hX dX10_judge_4 rfl ?_
  refine J_getr hX hE 0 5 rfl rfl fl_X10_49 dX10_judge_5 ?_
  refine J_cVV hX hE 62 (C_X2_copy hG (hE.sb [62, 31, 32, 33, 34, 35, 36, 37, 38, 39, 40, 41, 42, 43, 44, 45, 46, 47, 63, 64, 65, 66, 57, 31, 32, 33, 34, 35, 36, 37, 38, 39, 40, 41, 42, 43, 44, 45, 46, 47, 58, 59, 60, 61] sb_41) σ) mw_X2_copy ml_X10_301 rfl rfl rfl ⟨Nat.le_of_ble_eq_true rfl, Nat.le_of_ble_eq_true rfl⟩ rfl rfl (Nat.le_of_ble_eq_true rfl) dX10_judge_8 (fun s7 => ?_)
  refine J_iconst hX dX10_judge_11 k_i0 ?_
  refine J_istore_n hX dX10_judge_12 (Nat.le_of_ble_eq_true rfl) (lv' := [(0, .ref (jad G (nm 0))), (1, .int 0)]) rfl ?_
  refine J_keep [0, 1] (lv' := [(0, .ref (jad G (nm 0))), (1, .int 0)]) rfl ?_
  refine J_lp (pc := 13) (s0 := (0, s7)) (fun (s : (Int32 × jS)) => [(0, .ref (jad G (nm 0))), (1, .int (s.1))]) (fun (s : (Int32 × jS)) => s.2) ?_
  intro KK13 hN13 hQ13 z13
  obtain ⟨v1_13, σ_13⟩ := z13
  show J X 13 [(0, .ref (jad G (nm 0))), (1, .int v1_13)] [] σ_13 (f_X10_judge_L13 nm (v1_13, σ_13)) KK13
  unfold f_X10_judge_L13
  refine J_iload_n hX dX10_judge_13 rfl ?_
  refine J_aload_n hX dX10_judge_14 rfl ?_
  refine J_getr hX hE 0 10 rfl rfl fl_X10_65 dX10_judge_15 ?_
  refine J_cVP hX hE 79 (C_X4_size hG (hE.sb [79, 80] sb_22) σ_13) mw_X4_size ml_X10_106 rfl rfl rfl ⟨Nat.le_of_ble_eq_true rfl, Nat.le_of_ble_eq_true rfl⟩ rfl rfl (Nat.le_of_ble_eq_true rfl) dX10_judge_18 (fun q8 => ?_)
  refine J_icmp_ge hX dX10_judge_21 (tgt := 61) rfl (fun _ => ?_) (fun _ => ?_)
  · refine hQ13 _ _ _ _ _ ?_
    refine J_iconst hX dX10_judge_61 k_im1 ?_
    exact J_iret hX hM dX10_judge_62
  · refine J_aload_n hX dX10_judge_24 rfl ?_
    refine J_getr hX hE 0 6 rfl rfl fl_X10_53 dX10_judge_25 ?_
    refine J_aload_n hX dX10_judge_28 rfl ?_
    refine J_getr hX hE 0 3 rfl rfl fl_X10_37 dX10_judge_29 ?_
    refine J_cVV hX hE 62 (C_X2_passMinute hG (hE.sb [62, 31, 32, 33, 34, 35, 36, 37, 38, 39, 40, 41, 42, 43, 44, 45, 46, 47, 63, 64, 65, 66, 48, 49, 50, 51, 52, 53, 54] sb_52) σ_13) mw_X2_passMinute ml_X10_230 rfl rfl rfl ⟨Nat.le_of_ble_eq_true rfl, Nat.le_of_ble_eq_true rfl⟩ rfl rfl (Nat.le_of_ble_eq_true rfl) dX10_judge_32 (fun s9 => ?_)
    refine J_aload_n hX dX10_judge_35 rfl ?_
    refine J_getr hX hE 0 6 rfl rfl fl_X10_53 dX10_judge_36 ?_
    refine J_cVP hX hE 62 (C_X2_seen hG (hE.sb [62, 31, 32, 33, 34, 35, 36, 37, 38, 39, 40, 41, 42, 43, 44, 45, 46, 47, 63, 64, 65, 66] sb_53) s9) mw_X2_seen ml_X10_237 rfl rfl rfl ⟨Nat.le_of_ble_eq_true rfl, Nat.le_of_ble_eq_true rfl⟩ rfl rfl (Nat.le_of_ble_eq_true rfl) dX10_judge_39 (fun q10 => ?_)
    refine J_aload_n hX dX10_judge_42 rfl ?_
    refine J_getr hX hE 0 10 rfl rfl fl_X10_65 dX10_judge_43 ?_
    refine J_iload_n hX dX10_judge_46 rfl ?_
    refine J_cVP hX hE 79 (C_X4_at hG (hE.sb [79, 80] sb_22) v1_13 s9) mw_X4_at ml_X10_174 rfl rfl rfl ⟨Nat.le_of_ble_eq_true rfl, Nat.le_of_ble_eq_true rfl⟩ rfl rfl (Nat.le_of_ble_eq_true rfl) dX10_judge_47 (fun q11 => ?_)
    refine J_icmp_eq hX dX10_judge_50 (tgt := 55) rfl (fun _ => ?_) (fun _ => ?_)
    · refine J_iinc hX dX10_judge_55 rfl (congrArg (_ + ·) k_i1) (Nat.le_of_ble_eq_true rfl) (lv' := [(0, .ref (jad G (nm 0))), (1, .int (v1_13 + 1))]) rfl ?_
      refine J_goto hX dX10_judge_58 (tgt := 13) rfl ?_
      exact J_keep [0, 1] rfl (hN13 (v1_13 + 1, s9))
    · refine J_iload_n hX dX10_judge_53 rfl ?_
      refine hQ13 _ _ _ _ _ ?_
      exact J_iret hX hM dX10_judge_54
theorem mw_X10_judge : jMV Y_X10_judge 0 := ⟨⟨tw_tb (List.mem_of_getElem? (i := 1020) (by decide +kernel)) (by decide +kernel), tw_tb (List.mem_of_getElem? (i := 1021) (by decide +kernel)) (by decide +kernel), tw_tb (List.mem_of_getElem? (i := 1) (by decide +kernel)) (by decide +kernel), tw_tb (List.mem_of_getElem? (i := 1022) (by decide +kernel)) (by decide +kernel)⟩, ⟨rfl, rfl⟩, by decide +kernel, by decide +kernel, by decide +kernel⟩
-- X10_keep
noncomputable def f_X10_keep (nm : Nat → Nat) (v1 : Int32) (σ : jS) : Option (Int32 × jS) :=
  (f_X10_imageOf nm v1 σ).bind (fun q1 =>
    if q1 = some 67 then
      (f_X2_copy (jn nm [67, 31, 32, 33, 34, 35, 36, 37, 38, 39, 40, 41, 42, 43, 44, 45, 46, 47, 68, 69, 70, 71, 57, 31, 32, 33, 34, 35, 36, 37, 38, 39, 40, 41, 42, 43, 44, 45, 46, 47, 58, 59, 60, 61]) σ).bind (fun s4 =>
        bd (s_i s4 (nm 67) 9 1) (fun s5 =>
          some (1, s5)))
    else
      if q1 = some 72 then
        (f_X2_copy (jn nm [72, 31, 32, 33, 34, 35, 36, 37, 38, 39, 40, 41, 42, 43, 44, 45, 46, 47, 73, 74, 75, 76, 57, 31, 32, 33, 34, 35, 36, 37, 38, 39, 40, 41, 42, 43, 44, 45, 46, 47, 58, 59, 60, 61]) σ).bind (fun s2 =>
          bd (s_i s2 (nm 72) 9 1) (fun s3 =>
            some (1, s3)))
      else
        if q1 = none then
          some ((-1001), σ)
        else none)
abbrev Y_X10_keep : jY := (yX10_keep, cX10_keep, 3, some .int, { frames := 1, cells := 0, slots := 0, locals := 22 })
theorem C_X10_keep {l : Launch} {G : jG} {nm : Nat → Nat} (hG : jWL G) (hE : jE G nm LS_X10) (v1 : Int32) (σ : jS) : jC r_I l G Y_X10_keep [.ref (jad G (nm 0)), .int v1] σ (f_X10_keep nm v1 σ) := by
  refine jw_met hG pn_X10 (Nat.le_of_ble_eq_true rfl) ⟨rfl, rfl⟩ ?_
  intro X hX hM
  have hX : jB X l G cX10_keep RX10 3 { frames := 1, cells := 0, slots := 0, locals := 22 } := hX
  have hM : jM X (some .int) := hM
  show J X 0 [(0, .ref (jad G (nm 0))), (1, .int v1)] [] σ (f_X10_keep nm v1 σ) (jk r_I X)
  unfold f_X10_keep
  refine J_aload_n hX dX10_keep_0 rfl ?_
  refine J_iload_n hX dX10_keep_1 rfl ?_
  refine J_cVR hX hE 0 (C_X10_imageOf hG hE v1 σ) mw_X10_imageOf ml_X10_317 rfl rfl rfl ⟨Nat.le_of_ble_eq_true rfl, Nat.le_of_ble_eq_true rfl⟩ rfl rfl (Nat.le_of_ble_eq_true rfl) dX10_keep_2 (fun q6 => ?_)
  refine J_ifR ?_ ?_
  · refine J_astore_n hX dX10_keep_5 (Nat.le_of_ble_eq_true rfl) (lv' := [(0, .ref (jad G (nm 0))), (1, .int v1), (2, .ref (jad G (nm 67)))]) rfl ?_
    refine J_aload_n hX dX10_keep_6 rfl ?_
    refine J_ifnonnull hX dX10_keep_7 (tgt := 14) rfl ?_
    refine J_aload_n hX dX10_keep_14 rfl ?_
    refine J_aload_n hX dX10_keep_15 rfl ?_
    refine J_getr hX hE 0 5 rfl rfl fl_X10_49 dX10_keep_16 ?_
    refine J_cVV hX hE 67 (C_X2_copy hG (hE.sb [67, 31, 32, 33, 34, 35, 36, 37, 38, 39, 40, 41, 42, 43, 44, 45, 46, 47, 68, 69, 70, 71, 57, 31, 32, 33, 34, 35, 36, 37, 38, 39, 40, 41, 42, 43, 44, 45, 46, 47, 58, 59, 60, 61] sb_55) σ) mw_X2_copy ml_X10_301 rfl rfl rfl ⟨Nat.le_of_ble_eq_true rfl, Nat.le_of_ble_eq_true rfl⟩ rfl rfl (Nat.le_of_ble_eq_true rfl) dX10_keep_19 (fun s9 => ?_)
    refine J_aload_n hX dX10_keep_22 rfl ?_
    refine J_iconst hX dX10_keep_23 k_i1 ?_
    refine J_putz hX hE 67 9 jn_1 jf_1 rfl rfl fp_X10_121 dX10_keep_24 ?_
    refine J_bdS (fun s10 => ?_)
    refine J_iconst hX dX10_keep_27 k_i1 ?_
    exact J_iret hX hM dX10_keep_28
  · refine J_ifR ?_ ?_
    · refine J_astore_n hX dX10_keep_5 (Nat.le_of_ble_eq_true rfl) (lv' := [(0, .ref (jad G (nm 0))), (1, .int v1), (2, .ref (jad G (nm 72)))]) rfl ?_
      refine J_aload_n hX dX10_keep_6 rfl ?_
      refine J_ifnonnull hX dX10_keep_7 (tgt := 14) rfl ?_
      refine J_aload_n hX dX10_keep_14 rfl ?_
      refine J_aload_n hX dX10_keep_15 rfl ?_
      refine J_getr hX hE 0 5 rfl rfl fl_X10_49 dX10_keep_16 ?_
      refine J_cVV hX hE 72 (C_X2_copy hG (hE.sb [72, 31, 32, 33, 34, 35, 36, 37, 38, 39, 40, 41, 42, 43, 44, 45, 46, 47, 73, 74, 75, 76, 57, 31, 32, 33, 34, 35, 36, 37, 38, 39, 40, 41, 42, 43, 44, 45, 46, 47, 58, 59, 60, 61] sb_54) σ) mw_X2_copy ml_X10_301 rfl rfl rfl ⟨Nat.le_of_ble_eq_true rfl, Nat.le_of_ble_eq_true rfl⟩ rfl rfl (Nat.le_of_ble_eq_true rfl) dX10_keep_19 (fun s7 => ?_)
      refine J_aload_n hX dX10_keep_22 rfl ?_
      refine J_iconst hX dX10_keep_23 k_i1 ?_
      refine J_putz hX hE 72 9 jn_1 jf_1 rfl rfl fp_X10_121 dX10_keep_24 ?_
      refine J_bdS (fun s8 => ?_)
      refine J_iconst hX dX10_keep_27 k_i1 ?_
      exact J_iret hX hM dX10_keep_28
    · refine J_ifN ?_
      refine J_astore_nN hX dX10_keep_5 (Nat.le_of_ble_eq_true rfl) (lv' := [(0, .ref (jad G (nm 0))), (1, .int v1), (2, .null)]) rfl ?_
      refine J_aload_nN hX dX10_keep_6 rfl ?_
      refine J_ifnonnullN hX dX10_keep_7 ?_
      refine J_sipush hX dX10_keep_10 ks_m1001 ?_
      exact J_iret hX hM dX10_keep_13
theorem mw_X10_keep : jMV Y_X10_keep 1 := ⟨⟨tw_tb (List.mem_of_getElem? (i := 1028) (by decide +kernel)) (by decide +kernel), tw_tb (List.mem_of_getElem? (i := 1029) (by decide +kernel)) (by decide +kernel), tw_tb (List.mem_of_getElem? (i := 1) (by decide +kernel)) (by decide +kernel), tw_tb (List.mem_of_getElem? (i := 1030) (by decide +kernel)) (by decide +kernel)⟩, ⟨rfl, rfl⟩, by decide +kernel, by decide +kernel, by decide +kernel⟩
-- X10_lamp
noncomputable def f_X10_lamp (nm : Nat → Nat) (v1 : Int32) (v2 : Int32) (σ : jS) : Option Int32 :=
  (f_X10_isLamp nm v1 σ).bind (fun q1 =>
    if q1 = 0 then
      some (-1001)
    else
      if v2 = 0 then
        (f_X4_at (jn nm [32, 33]) 10 v1 σ).bind (fun q5 =>
          some q5)
      else
        if v2 = 1 then
          gd (vp_in v1 10) (
            some (g_i σ (nm 58) v1.toNatClampNeg))
        else
          if v2 = 2 then
            (f_X4_at (jn nm [36, 37]) 10 v1 σ).bind (fun q4 =>
              some q4)
          else
            if v2 = 3 then
              (f_X4_at (jn nm [38, 39]) 10 v1 σ).bind (fun q3 =>
                some q3)
            else
              if v2 = 4 then
                (f_X2_ear (jn nm [57, 31, 32, 33, 34, 35, 36, 37, 38, 39, 40, 41, 42, 43, 44, 45, 46, 47, 58, 59, 60, 61]) v1 σ).bind (fun q2 =>
                  some q2)
              else
                if v2 = 5 then
                  gd (vp_in v1 10) (
                    some (g_i σ (nm 59) v1.toNatClampNeg))
                else
                  if v2 = 6 then
                    gd (vp_in v1 10) (
                      some (g_i σ (nm 60) v1.toNatClampNeg))
                  else
                    if v2 = 7 then
                      gd (vp_in v1 10) (
                        some (g_i σ (nm 61) v1.toNatClampNeg))
                    else
                      some (-1002))
abbrev Y_X10_lamp : jY := (yX10_lamp, cX10_lamp, 3, some .int, { frames := 3, cells := 0, slots := 0, locals := 61 })
theorem C_X10_lamp {l : Launch} {G : jG} {nm : Nat → Nat} (hG : jWL G) (hE : jE G nm LS_X10) (v1 : Int32) (v2 : Int32) (σ : jS) : jC (r_P σ) l G Y_X10_lamp [.ref (jad G (nm 0)), .int v1, .int v2] σ (f_X10_lamp nm v1 v2 σ) := by
  refine jw_met hG pn_X10 (Nat.le_of_ble_eq_true rfl) ⟨rfl, rfl⟩ ?_
  intro X hX hM
  have hX : jB X l G cX10_lamp RX10 3 { frames := 3, cells := 0, slots := 0, locals := 61 } := hX
  have hM : jM X (some .int) := hM
  show J X 0 [(0, .ref (jad G (nm 0))), (1, .int v1), (2, .int v2)] [] σ (f_X10_lamp nm v1 v2 σ) (jk (r_P σ) X)
  unfold f_X10_lamp
  refine J_aload_n hX dX10_lamp_0 rfl ?_
  refine J_iload_n hX dX10_lamp_1 rfl ?_
  refine J_cVP hX hE 0 (C_X10_isLamp hG hE v1 σ) mw_X10_isLamp ml_X10_167 rfl rfl rfl ⟨Nat.le_of_ble_eq_true rfl, Nat.le_of_ble_eq_true rfl⟩ rfl rfl (Nat.le_of_ble_eq_true rfl) dX10_lamp_2 (fun q6 => ?_)
  refine J_if_ne hX dX10_lamp_5 (tgt := 12) rfl (fun _ => ?_) (fun _ => ?_)
  · refine J_iload_n hX dX10_lamp_12 rfl ?_
    refine J_case (fun _ => ?_) (fun h13_0 => ?_)
    · refine J_tin hX dX10_lamp_13 (tgt := 60) (by decide) (by decide) (off := 47) rfl rfl ?_
      refine J_aload_n hX dX10_lamp_60 rfl ?_
      refine J_getr hX hE 0 2 rfl rfl fl_X10_30 dX10_lamp_61 ?_
      refine J_getr hX hE 31 0 rfl rfl fl_X10_171 dX10_lamp_64 ?_
      refine J_iload_n hX dX10_lamp_67 rfl ?_
      refine J_cVP hX hE 32 (C_X4_at hG (hE.sb [32, 33] sb_58) v1 σ) mw_X4_at ml_X10_174 rfl rfl rfl ⟨Nat.le_of_ble_eq_true rfl, Nat.le_of_ble_eq_true rfl⟩ rfl rfl (Nat.le_of_ble_eq_true rfl) dX10_lamp_68 (fun q10 => ?_)
      exact J_iretP hX hM dX10_lamp_71
    · refine J_case (fun _ => ?_) (fun h13_1 => ?_)
      · refine J_tin hX dX10_lamp_13 (tgt := 72) (by decide) (by decide) (off := 59) rfl rfl ?_
        refine J_aload_n hX dX10_lamp_72 rfl ?_
        refine J_getr hX hE 0 5 rfl rfl fl_X10_49 dX10_lamp_73 ?_
        refine J_getr hX hE 57 1 rfl rfl fl_X10_178 dX10_lamp_76 ?_
        refine J_iload_n hX dX10_lamp_79 rfl ?_
        refine J_iald hX hE 58 rfl dX10_lamp_80 (fun _ => ?_)
        exact J_iretP hX hM dX10_lamp_81
      · refine J_case (fun _ => ?_) (fun h13_2 => ?_)
        · refine J_tin hX dX10_lamp_13 (tgt := 82) (by decide) (by decide) (off := 69) rfl rfl ?_
          refine J_aload_n hX dX10_lamp_82 rfl ?_
          refine J_getr hX hE 0 2 rfl rfl fl_X10_30 dX10_lamp_83 ?_
          refine J_getr hX hE 31 2 rfl rfl fl_X10_182 dX10_lamp_86 ?_
          refine J_iload_n hX dX10_lamp_89 rfl ?_
          refine J_cVP hX hE 36 (C_X4_at hG (hE.sb [36, 37] sb_57) v1 σ) mw_X4_at ml_X10_174 rfl rfl rfl ⟨Nat.le_of_ble_eq_true rfl, Nat.le_of_ble_eq_true rfl⟩ rfl rfl (Nat.le_of_ble_eq_true rfl) dX10_lamp_90 (fun q9 => ?_)
          exact J_iretP hX hM dX10_lamp_93
        · refine J_case (fun _ => ?_) (fun h13_3 => ?_)
          · refine J_tin hX dX10_lamp_13 (tgt := 94) (by decide) (by decide) (off := 81) rfl rfl ?_
            refine J_aload_n hX dX10_lamp_94 rfl ?_
            refine J_getr hX hE 0 2 rfl rfl fl_X10_30 dX10_lamp_95 ?_
            refine J_getr hX hE 31 3 rfl rfl fl_X10_185 dX10_lamp_98 ?_
            refine J_iload_n hX dX10_lamp_101 rfl ?_
            refine J_cVP hX hE 38 (C_X4_at hG (hE.sb [38, 39] sb_56) v1 σ) mw_X4_at ml_X10_174 rfl rfl rfl ⟨Nat.le_of_ble_eq_true rfl, Nat.le_of_ble_eq_true rfl⟩ rfl rfl (Nat.le_of_ble_eq_true rfl) dX10_lamp_102 (fun q8 => ?_)
            exact J_iretP hX hM dX10_lamp_105
          · refine J_case (fun _ => ?_) (fun h13_4 => ?_)
            · refine J_tin hX dX10_lamp_13 (tgt := 106) (by decide) (by decide) (off := 93) rfl rfl ?_
              refine J_aload_n hX dX10_lamp_106 rfl ?_
              refine J_getr hX hE 0 5 rfl rfl fl_X10_49 dX10_lamp_107 ?_
              refine J_iload_n hX dX10_lamp_110 rfl ?_
              refine J_cVP hX hE 57 (C_X2_ear hG (hE.sb [57, 31, 32, 33, 34, 35, 36, 37, 38, 39, 40, 41, 42, 43, 44, 45, 46, 47, 58, 59, 60, 61] sb_23) v1 σ) mw_X2_ear ml_X10_188 rfl rfl rfl ⟨Nat.le_of_ble_eq_true rfl, Nat.le_of_ble_eq_true rfl⟩ rfl rfl (Nat.le_of_ble_eq_true rfl) dX10_lamp_111 (fun q7 => ?_)
              exact J_iretP hX hM dX10_lamp_114
            · refine J_case (fun _ => ?_) (fun h13_5 => ?_)
              · refine J_tin hX dX10_lamp_13 (tgt := 115) (by decide) (by decide) (off := 102) rfl rfl ?_
                refine J_aload_n hX dX10_lamp_115 rfl ?_
                refine J_getr hX hE 0 5 rfl rfl fl_X10_49 dX10_lamp_116 ?_
                refine J_getr hX hE 57 2 rfl rfl fl_X10_191 dX10_lamp_119 ?_
                refine J_iload_n hX dX10_lamp_122 rfl ?_
                refine J_iald hX hE 59 rfl dX10_lamp_123 (fun _ => ?_)
                exact J_iretP hX hM dX10_lamp_124
              · refine J_case (fun _ => ?_) (fun h13_6 => ?_)
                · refine J_tin hX dX10_lamp_13 (tgt := 125) (by decide) (by decide) (off := 112) rfl rfl ?_
                  refine J_aload_n hX dX10_lamp_125 rfl ?_
                  refine J_getr hX hE 0 5 rfl rfl fl_X10_49 dX10_lamp_126 ?_
                  refine J_getr hX hE 57 3 rfl rfl fl_X10_194 dX10_lamp_129 ?_
                  refine J_iload_n hX dX10_lamp_132 rfl ?_
                  refine J_iald hX hE 60 rfl dX10_lamp_133 (fun _ => ?_)
                  exact J_iretP hX hM dX10_lamp_134
                · refine J_case (fun _ => ?_) (fun h13_7 => ?_)
                  · refine J_tin hX dX10_lamp_13 (tgt := 135) (by decide) (by decide) (off := 122) rfl rfl ?_
                    refine J_aload_n hX dX10_lamp_135 rfl ?_
                    refine J_getr hX hE 0 5 rfl rfl fl_X10_49 dX10_lamp_136 ?_
                    refine J_getr hX hE 57 4 rfl rfl fl_X10_196 dX10_lamp_139 ?_
                    refine J_iload_n hX dX10_lamp_142 rfl ?_
                    refine J_iald hX hE 61 rfl dX10_lamp_143 (fun _ => ?_)
                    exact J_iretP hX hM dX10_lamp_144
                  · refine J_tout hX dX10_lamp_13 (tgt := 145) (jt_out8 h13_0 h13_1 h13_2 h13_3 h13_4 h13_5 h13_6 h13_7) rfl ?_
                    refine J_sipush hX dX10_lamp_145 ks_m1002 ?_
                    exact J_iretP hX hM dX10_lamp_148
  · refine J_sipush hX dX10_lamp_8 ks_m1001 ?_
    exact J_iretP hX hM dX10_lamp_11
theorem mw_X10_lamp : jMV Y_X10_lamp 2 := ⟨⟨tw_tb (List.mem_of_getElem? (i := 642) (by decide +kernel)) (by decide +kernel), tw_tb (List.mem_of_getElem? (i := 643) (by decide +kernel)) (by decide +kernel), tw_tb (List.mem_of_getElem? (i := 1) (by decide +kernel)) (by decide +kernel), tw_tb (List.mem_of_getElem? (i := 644) (by decide +kernel)) (by decide +kernel)⟩, ⟨rfl, rfl⟩, by decide +kernel, by decide +kernel, by decide +kernel⟩
-- X2_burning
noncomputable def f_X2_burning_L4 (nm : Nat → Nat) (σ : jS) (s : (Int32 × Int32)) : Option ((Int32 × Int32) ⊕ Int32) :=
  match s with
  | (v1, v2) =>
    if 10 ≤ v2 then
      some (.inr v1)
    else
      gd (vp_in v2 10) (
        if (g_i σ (nm 19) v2.toNatClampNeg) ≤ 0 then
          some (.inl (v1, v2 + 1))
        else
          bd (v1 ||| (1 <<< (v2 &&& 31))) (fun x1 =>
            some (.inl (x1, v2 + 1))))
noncomputable def f_X2_burning (nm : Nat → Nat) (σ : jS) : Option Int32 :=
  (lp (f_X2_burning_L4 nm σ) fu (0, 0)).bind (fun e2 =>
    some e2)
abbrev Y_X2_burning : jY := (yX2_burning, cX2_burning, 3, some .int, { frames := 0, cells := 0, slots := 0, locals := 0 })
theorem C_X2_burning {l : Launch} {G : jG} {nm : Nat → Nat} (hG : jWL G) (hE : jE G nm LS_X2) (σ : jS) : jC (r_P σ) l G Y_X2_burning [.ref (jad G (nm 0))] σ (f_X2_burning nm σ) := by
  refine jw_met hG pn_X2 (Nat.le_of_ble_eq_true rfl) ⟨rfl, rfl⟩ ?_
  intro X hX hM
  have hX : jB X l G cX2_burning RX2 3 { frames := 0, cells := 0, slots := 0, locals := 0 } := hX
  have hM : jM X (some .int) := hM
  show J X 0 [(0, .ref (jad G (nm 0)))] [] σ (f_X2_burning nm σ) (jk (r_P σ) X)
  unfold f_X2_burning
  refine J_iconst hX dX2_burning_0 k_i0 ?_
  refine J_istore_n hX dX2_burning_1 (Nat.le_of_ble_eq_true rfl) (lv' := [(0, .ref (jad G (nm 0))), (1, .int 0)]) rfl ?_
  refine J_iconst hX dX2_burning_2 k_i0 ?_
  refine J_istore_n hX dX2_burning_3 (Nat.le_of_ble_eq_true rfl) (lv' := [(0, .ref (jad G (nm 0))), (1, .int 0), (2, .int 0)]) rfl ?_
  refine J_keep [0, 1, 2] (lv' := [(0, .ref (jad G (nm 0))), (1, .int 0), (2, .int 0)]) rfl ?_
  refine J_lp (pc := 4) (s0 := (0, 0)) (fun (s : (Int32 × Int32)) => [(0, .ref (jad G (nm 0))), (1, .int (s.1)), (2, .int (s.2))]) (fun (s : (Int32 × Int32)) => σ) ?_
  intro KK4 hN4 hQ4 z4
  obtain ⟨v1_4, v2_4⟩ := z4
  show J X 4 [(0, .ref (jad G (nm 0))), (1, .int v1_4), (2, .int v2_4)] [] σ (f_X2_burning_L4 nm σ (v1_4, v2_4)) KK4
  unfold f_X2_burning_L4
  refine J_iload_n hX dX2_burning_4 rfl ?_
  refine J_bipush hX dX2_burning_5 kb_10 ?_
  refine J_icmp_ge hX dX2_burning_7 (tgt := 31) rfl (fun _ => ?_) (fun _ => ?_)
  · refine hQ4 _ _ _ _ _ ?_
    refine J_iload_n hX dX2_burning_31 rfl ?_
    exact J_iretP hX hM dX2_burning_32
  · refine J_aload_n hX dX2_burning_10 rfl ?_
    refine J_getr hX hE 0 2 rfl rfl fl_X2_15 dX2_burning_11 ?_
    refine J_iload_n hX dX2_burning_14 rfl ?_
    refine J_iald hX hE 19 rfl dX2_burning_15 (fun _ => ?_)
    refine J_if_le hX dX2_burning_16 (tgt := 25) rfl (fun _ => ?_) (fun _ => ?_)
    · refine J_iinc hX dX2_burning_25 rfl (congrArg (_ + ·) k_i1) (Nat.le_of_ble_eq_true rfl) (lv' := [(0, .ref (jad G (nm 0))), (1, .int v1_4), (2, .int (v2_4 + 1))]) rfl ?_
      refine J_goto hX dX2_burning_28 (tgt := 4) rfl ?_
      exact J_keep [0, 1, 2] rfl (hN4 (v1_4, v2_4 + 1))
    · refine J_iload_n hX dX2_burning_19 rfl ?_
      refine J_iconst hX dX2_burning_20 k_i1 ?_
      refine J_iload_n hX dX2_burning_21 rfl ?_
      refine J_ishl hX dX2_burning_22 ?_
      refine J_ior hX dX2_burning_23 ?_
      refine J_bdI (fun x3 => ?_)
      refine J_istore_n hX dX2_burning_24 (Nat.le_of_ble_eq_true rfl) (lv' := [(0, .ref (jad G (nm 0))), (1, .int x3), (2, .int v2_4)]) rfl ?_
      refine J_iinc hX dX2_burning_25 rfl (congrArg (_ + ·) k_i1) (Nat.le_of_ble_eq_true rfl) (lv' := [(0, .ref (jad G (nm 0))), (1, .int x3), (2, .int (v2_4 + 1))]) rfl ?_
      refine J_goto hX dX2_burning_28 (tgt := 4) rfl ?_
      exact J_keep [0, 1, 2] rfl (hN4 (x3, v2_4 + 1))
theorem mw_X2_burning : jMV Y_X2_burning 0 := ⟨⟨tw_tb (List.mem_of_getElem? (i := 717) (by decide +kernel)) (by decide +kernel), tw_tb (List.mem_of_getElem? (i := 718) (by decide +kernel)) (by decide +kernel), tw_tb (List.mem_of_getElem? (i := 8) (by decide +kernel)) (by decide +kernel), tw_tb (List.mem_of_getElem? (i := 719) (by decide +kernel)) (by decide +kernel)⟩, ⟨rfl, rfl⟩, by decide +kernel, by decide +kernel, by decide +kernel⟩
-- X10_lit
noncomputable def f_X10_lit (nm : Nat → Nat) (v1 : Int32) (σ : jS) : Option Int32 :=
  if v1 = 0 then
    (f_X2_burning (jn nm [57, 31, 32, 33, 34, 35, 36, 37, 38, 39, 40, 41, 42, 43, 44, 45, 46, 47, 58, 59, 60, 61]) σ).bind (fun q2 =>
      some q2)
  else
    if v1 = 1 then
      (f_X2_seen (jn nm [57, 31, 32, 33, 34, 35, 36, 37, 38, 39, 40, 41, 42, 43, 44, 45, 46, 47, 58, 59, 60, 61]) σ).bind (fun q1 =>
        some q1)
    else
      some (-1002)
abbrev Y_X10_lit : jY := (yX10_lit, cX10_lit, 2, some .int, { frames := 1, cells := 0, slots := 0, locals := 22 })
theorem C_X10_lit {l : Launch} {G : jG} {nm : Nat → Nat} (hG : jWL G) (hE : jE G nm LS_X10) (v1 : Int32) (σ : jS) : jC (r_P σ) l G Y_X10_lit [.ref (jad G (nm 0)), .int v1] σ (f_X10_lit nm v1 σ) := by
  refine jw_met hG pn_X10 (Nat.le_of_ble_eq_true rfl) ⟨rfl, rfl⟩ ?_
  intro X hX hM
  have hX : jB X l G cX10_lit RX10 2 { frames := 1, cells := 0, slots := 0, locals := 22 } := hX
  have hM : jM X (some .int) := hM
  show J X 0 [(0, .ref (jad G (nm 0))), (1, .int v1)] [] σ (f_X10_lit nm v1 σ) (jk (r_P σ) X)
  unfold f_X10_lit
  refine J_iload_n hX dX10_lit_0 rfl ?_
  refine J_if_ne hX dX10_lit_1 (tgt := 12) rfl (fun _ => ?_) (fun _ => ?_)
  · refine J_iload_n hX dX10_lit_12 rfl ?_
    refine J_iconst hX dX10_lit_13 k_i1 ?_
    refine J_icmp_ne hX dX10_lit_14 (tgt := 27) rfl (fun _ => ?_) (fun _ => ?_)
    · refine J_sipush hX dX10_lit_27 ks_m1002 ?_
      exact J_iretP hX hM dX10_lit_30
    · refine J_aload_n hX dX10_lit_17 rfl ?_
      refine J_getr hX hE 0 5 rfl rfl fl_X10_49 dX10_lit_18 ?_
      refine J_cVP hX hE 57 (C_X2_seen hG (hE.sb [57, 31, 32, 33, 34, 35, 36, 37, 38, 39, 40, 41, 42, 43, 44, 45, 46, 47, 58, 59, 60, 61] sb_23) σ) mw_X2_seen ml_X10_237 rfl rfl rfl ⟨Nat.le_of_ble_eq_true rfl, Nat.le_of_ble_eq_true rfl⟩ rfl rfl (Nat.le_of_ble_eq_true rfl) dX10_lit_21 (fun q3 => ?_)
      refine J_goto hX dX10_lit_24 (tgt := 30) rfl ?_
      exact J_iretP hX hM dX10_lit_30
  · refine J_aload_n hX dX10_lit_4 rfl ?_
    refine J_getr hX hE 0 5 rfl rfl fl_X10_49 dX10_lit_5 ?_
    refine J_cVP hX hE 57 (C_X2_burning hG (hE.sb [57, 31, 32, 33, 34, 35, 36, 37, 38, 39, 40, 41, 42, 43, 44, 45, 46, 47, 58, 59, 60, 61] sb_23) σ) mw_X2_burning ml_X10_234 rfl rfl rfl ⟨Nat.le_of_ble_eq_true rfl, Nat.le_of_ble_eq_true rfl⟩ rfl rfl (Nat.le_of_ble_eq_true rfl) dX10_lit_8 (fun q4 => ?_)
    exact J_iretP hX hM dX10_lit_11
theorem mw_X10_lit : jMV Y_X10_lit 1 := ⟨⟨tw_tb (List.mem_of_getElem? (i := 721) (by decide +kernel)) (by decide +kernel), tw_tb (List.mem_of_getElem? (i := 722) (by decide +kernel)) (by decide +kernel), tw_tb (List.mem_of_getElem? (i := 1) (by decide +kernel)) (by decide +kernel), tw_tb (List.mem_of_getElem? (i := 723) (by decide +kernel)) (by decide +kernel)⟩, ⟨rfl, rfl⟩, by decide +kernel, by decide +kernel, by decide +kernel⟩
-- X4_isFull
noncomputable def f_X4_isFull (nm : Nat → Nat) (n0 : Nat) (σ : jS) : Option Int32 :=
  if (g_i σ (nm 0) 1) < (nI n0) then
    some 0
  else
    some 1
abbrev Y_X4_isFull : jY := (yX4_isFull, cX4_isFull, 1, some .boolean, { frames := 0, cells := 0, slots := 0, locals := 0 })
theorem C_X4_isFull {l : Launch} {G : jG} {nm : Nat → Nat} {n0 : Nat} (hG : jWL G) (hE : jE G nm (LS_X4 n0)) (σ : jS) : jC (r_P σ) l G Y_X4_isFull [.ref (jad G (nm 0))] σ (f_X4_isFull nm n0 σ) := by
  refine jw_met hG pn_X4 (Nat.le_of_ble_eq_true rfl) ⟨rfl, rfl⟩ ?_
  intro X hX hM
  have hX : jB X l G cX4_isFull RX4 1 { frames := 0, cells := 0, slots := 0, locals := 0 } := hX
  have hM : jM X (some .boolean) := hM
  show J X 0 [(0, .ref (jad G (nm 0)))] [] σ (f_X4_isFull nm n0 σ) (jk (r_P σ) X)
  unfold f_X4_isFull
  refine J_aload_n hX dX4_isFull_0 rfl ?_
  refine J_geti hX hE 0 1 rfl rfl fl_X4_21 dX4_isFull_1 ?_
  refine J_aload_n hX dX4_isFull_4 rfl ?_
  refine J_getr hX hE 0 0 rfl rfl fl_X4_15 dX4_isFull_5 ?_
  refine J_alen hX hE 1 rfl dX4_isFull_8 ?_
  refine J_icmp_lt hX dX4_isFull_9 (tgt := 16) rfl (fun _ => ?_) (fun _ => ?_)
  · refine J_iconst hX dX4_isFull_16 k_i0 ?_
    exact J_zretP hX hM jn_0 dX4_isFull_17
  · refine J_iconst hX dX4_isFull_12 k_i1 ?_
    refine J_goto hX dX4_isFull_13 (tgt := 17) rfl ?_
    exact J_zretP hX hM jn_1 dX4_isFull_17
theorem mw_X4_isFull : jMV Y_X4_isFull 0 := ⟨⟨tw_tb (List.mem_of_getElem? (i := 516) (by decide +kernel)) (by decide +kernel), tw_tb (List.mem_of_getElem? (i := 517) (by decide +kernel)) (by decide +kernel), tw_tb (List.mem_of_getElem? (i := 2) (by decide +kernel)) (by decide +kernel), tw_tb (List.mem_of_getElem? (i := 518) (by decide +kernel)) (by decide +kernel)⟩, ⟨rfl, rfl⟩, by decide +kernel, by decide +kernel, by decide +kernel⟩
-- X10_log
noncomputable def f_X10_log (nm : Nat → Nat) (v1 : Int32) (σ : jS) : Option (Int32 × jS) :=
  (f_X10_isKnown nm v1 σ).bind (fun q1 =>
    if q1 = 0 then
      some ((-1001), σ)
    else
      (f_X4_isFull (jn nm [79, 80]) 40 σ).bind (fun q2 =>
        if q2 = 0 then
          (f_X4_put (jn nm [79, 80]) 40 v1 σ).bind (fun s3 =>
            (f_X4_size (jn nm [79, 80]) 40 s3).bind (fun q4 =>
              some (q4, s3)))
        else
          some ((-1004), σ)))
abbrev Y_X10_log : jY := (yX10_log, cX10_log, 2, some .int, { frames := 3, cells := 0, slots := 0, locals := 61 })
theorem C_X10_log {l : Launch} {G : jG} {nm : Nat → Nat} (hG : jWL G) (hE : jE G nm LS_X10) (v1 : Int32) (σ : jS) : jC r_I l G Y_X10_log [.ref (jad G (nm 0)), .int v1] σ (f_X10_log nm v1 σ) := by
  refine jw_met hG pn_X10 (Nat.le_of_ble_eq_true rfl) ⟨rfl, rfl⟩ ?_
  intro X hX hM
  have hX : jB X l G cX10_log RX10 2 { frames := 3, cells := 0, slots := 0, locals := 61 } := hX
  have hM : jM X (some .int) := hM
  show J X 0 [(0, .ref (jad G (nm 0))), (1, .int v1)] [] σ (f_X10_log nm v1 σ) (jk r_I X)
  unfold f_X10_log
  refine J_aload_n hX dX10_log_0 rfl ?_
  refine J_iload_n hX dX10_log_1 rfl ?_
  refine J_cVP hX hE 0 (C_X10_isKnown hG hE v1 σ) mw_X10_isKnown ml_X10_252 rfl rfl rfl ⟨Nat.le_of_ble_eq_true rfl, Nat.le_of_ble_eq_true rfl⟩ rfl rfl (Nat.le_of_ble_eq_true rfl) dX10_log_2 (fun q5 => ?_)
  refine J_if_ne hX dX10_log_5 (tgt := 12) rfl (fun _ => ?_) (fun _ => ?_)
  · refine J_aload_n hX dX10_log_12 rfl ?_
    refine J_getr hX hE 0 10 rfl rfl fl_X10_65 dX10_log_13 ?_
    refine J_cVP hX hE 79 (C_X4_isFull hG (hE.sb [79, 80] sb_22) σ) mw_X4_isFull ml_X10_258 rfl rfl rfl ⟨Nat.le_of_ble_eq_true rfl, Nat.le_of_ble_eq_true rfl⟩ rfl rfl (Nat.le_of_ble_eq_true rfl) dX10_log_16 (fun q6 => ?_)
    refine J_if_eq hX dX10_log_19 (tgt := 26) rfl (fun _ => ?_) (fun _ => ?_)
    · refine J_aload_n hX dX10_log_26 rfl ?_
      refine J_getr hX hE 0 10 rfl rfl fl_X10_65 dX10_log_27 ?_
      refine J_iload_n hX dX10_log_30 rfl ?_
      refine J_cVV hX hE 79 (C_X4_put hG (hE.sb [79, 80] sb_22) v1 σ) mw_X4_put ml_X10_110 rfl rfl rfl ⟨Nat.le_of_ble_eq_true rfl, Nat.le_of_ble_eq_true rfl⟩ rfl rfl (Nat.le_of_ble_eq_true rfl) dX10_log_31 (fun s7 => ?_)
      refine J_aload_n hX dX10_log_34 rfl ?_
      refine J_getr hX hE 0 10 rfl rfl fl_X10_65 dX10_log_35 ?_
      refine J_cVP hX hE 79 (C_X4_size hG (hE.sb [79, 80] sb_22) s7) mw_X4_size ml_X10_106 rfl rfl rfl ⟨Nat.le_of_ble_eq_true rfl, Nat.le_of_ble_eq_true rfl⟩ rfl rfl (Nat.le_of_ble_eq_true rfl) dX10_log_38 (fun q8 => ?_)
      exact J_iret hX hM dX10_log_41
    · refine J_sipush hX dX10_log_22 ks_m1004 ?_
      exact J_iret hX hM dX10_log_25
  · refine J_sipush hX dX10_log_8 ks_m1001 ?_
    exact J_iret hX hM dX10_log_11
theorem mw_X10_log : jMV Y_X10_log 1 := ⟨⟨tw_tb (List.mem_of_getElem? (i := 1012) (by decide +kernel)) (by decide +kernel), tw_tb (List.mem_of_getElem? (i := 1013) (by decide +kernel)) (by decide +kernel), tw_tb (List.mem_of_getElem? (i := 1) (by decide +kernel)) (by decide +kernel), tw_tb (List.mem_of_getElem? (i := 1014) (by decide +kernel)) (by decide +kernel)⟩, ⟨rfl, rfl⟩, by decide +kernel, by decide +kernel, by decide +kernel⟩
-- X10_lured
noncomputable def f_X10_lured (nm : Nat → Nat) (v1 : Int32) (v2 : Int32) (v3 : Int64) (v5 : Int32) (σ : jS) : Option (Int32 × jS) :=
  (f_X10_isKnown nm v1 σ).bind (fun q1 =>
    if q1 = 0 then
      some ((-1001), σ)
    else
      (f_X10_isKnown nm v2 σ).bind (fun q2 =>
        if q2 = 0 then
          some ((-1001), σ)
        else
          (f_X10_isLoud v5).bind (fun q3 =>
            if q3 = 0 then
              some ((-1002), σ)
            else
              (f_X1_listen (jn nm [81, 82, 57, 31, 32, 33, 34, 35, 36, 37, 38, 39, 40, 41, 42, 43, 44, 45, 46, 47, 58, 59, 60, 61]) v5 σ).bind (fun s4 =>
                (f_X9_gather (jn nm [83, 81, 82, 84, 85, 86, 87, 88, 89, 90]) v3 s4).bind (fun s5 =>
                  (f_X9_fewestSounds (jn nm [83, 81, 82, 84, 85, 86, 87, 88, 89, 90]) v1 v2 s5).bind (fun x => match x with
                  | (q6, s7) =>
                    some (q6, s7)))))))
abbrev Y_X10_lured : jY := (yX10_lured, cX10_lured, 6, some .int, { frames := 4, cells := 0, slots := 0, locals := 93 })
theorem C_X10_lured {l : Launch} {G : jG} {nm : Nat → Nat} (hG : jWL G) (hE : jE G nm LS_X10) (v1 : Int32) (v2 : Int32) (v3 : Int64) (v5 : Int32) (σ : jS) : jC r_I l G Y_X10_lured [.ref (jad G (nm 0)), .int v1, .int v2, .long v3, .int v5] σ (f_X10_lured nm v1 v2 v3 v5 σ) := by
  refine jw_met hG pn_X10 (Nat.le_of_ble_eq_true rfl) ⟨rfl, rfl⟩ ?_
  intro X hX hM
  have hX : jB X l G cX10_lured RX10 6 { frames := 4, cells := 0, slots := 0, locals := 93 } := hX
  have hM : jM X (some .int) := hM
  show J X 0 [(0, .ref (jad G (nm 0))), (1, .int v1), (2, .int v2), (3, .long v3), (5, .int v5)] [] σ (f_X10_lured nm v1 v2 v3 v5 σ) (jk r_I X)
  unfold f_X10_lured
  refine J_aload_n hX dX10_lured_0 rfl ?_
  refine J_iload_n hX dX10_lured_1 rfl ?_
  refine J_cVP hX hE 0 (C_X10_isKnown hG hE v1 σ) mw_X10_isKnown ml_X10_252 rfl rfl rfl ⟨Nat.le_of_ble_eq_true rfl, Nat.le_of_ble_eq_true rfl⟩ rfl rfl (Nat.le_of_ble_eq_true rfl) dX10_lured_2 (fun q8 => ?_)
  refine J_if_eq hX dX10_lured_5 (tgt := 16) rfl (fun _ => ?_) (fun _ => ?_)
  · refine J_sipush hX dX10_lured_16 ks_m1001 ?_
    exact J_iret hX hM dX10_lured_19
  · refine J_aload_n hX dX10_lured_8 rfl ?_
    refine J_iload_n hX dX10_lured_9 rfl ?_
    refine J_cVP hX hE 0 (C_X10_isKnown hG hE v2 σ) mw_X10_isKnown ml_X10_252 rfl rfl rfl ⟨Nat.le_of_ble_eq_true rfl, Nat.le_of_ble_eq_true rfl⟩ rfl rfl (Nat.le_of_ble_eq_true rfl) dX10_lured_10 (fun q9 => ?_)
    refine J_if_ne hX dX10_lured_13 (tgt := 20) rfl (fun _ => ?_) (fun _ => ?_)
    · refine J_iload hX dX10_lured_20 rfl ?_
      refine J_cSP hX (C_X10_isLoud hG v5 σ) mw_X10_isLoud ml_X10_219 ⟨Nat.le_of_ble_eq_true rfl, Nat.le_of_ble_eq_true rfl⟩ rfl rfl (Nat.le_of_ble_eq_true rfl) dX10_lured_22 (fun q10 => ?_)
      refine J_if_ne hX dX10_lured_25 (tgt := 32) rfl (fun _ => ?_) (fun _ => ?_)
      · refine J_aload_n hX dX10_lured_32 rfl ?_
        refine J_getr hX hE 0 11 rfl rfl fl_X10_71 dX10_lured_33 ?_
        refine J_aload_n hX dX10_lured_36 rfl ?_
        refine J_getr hX hE 0 5 rfl rfl fl_X10_49 dX10_lured_37 ?_
        refine J_iload hX dX10_lured_40 rfl ?_
        refine J_cVV hX hE 81 (C_X1_listen hG (hE.sb [81, 82, 57, 31, 32, 33, 34, 35, 36, 37, 38, 39, 40, 41, 42, 43, 44, 45, 46, 47, 58, 59, 60, 61] sb_21) v5 σ) mw_X1_listen ml_X10_262 rfl rfl rfl ⟨Nat.le_of_ble_eq_true rfl, Nat.le_of_ble_eq_true rfl⟩ rfl rfl (Nat.le_of_ble_eq_true rfl) dX10_lured_42 (fun s11 => ?_)
        refine J_aload_n hX dX10_lured_45 rfl ?_
        refine J_getr hX hE 0 12 rfl rfl fl_X10_80 dX10_lured_46 ?_
        refine J_lload_n hX dX10_lured_49 rfl ?_
        refine J_cVV hX hE 83 (C_X9_gather hG (hE.sb [83, 81, 82, 84, 85, 86, 87, 88, 89, 90] sb_20) v3 s11) mw_X9_gather ml_X10_266 rfl rfl rfl ⟨Nat.le_of_ble_eq_true rfl, Nat.le_of_ble_eq_true rfl⟩ rfl rfl (Nat.le_of_ble_eq_true rfl) dX10_lured_50 (fun s12 => ?_)
        refine J_aload_n hX dX10_lured_53 rfl ?_
        refine J_getr hX hE 0 12 rfl rfl fl_X10_80 dX10_lured_54 ?_
        refine J_iload_n hX dX10_lured_57 rfl ?_
        refine J_iload_n hX dX10_lured_58 rfl ?_
        refine J_cVI hX hE 83 (C_X9_fewestSounds hG (hE.sb [83, 81, 82, 84, 85, 86, 87, 88, 89, 90] sb_20) v1 v2 s12) mw_X9_fewestSounds ml_X10_270 rfl rfl rfl ⟨Nat.le_of_ble_eq_true rfl, Nat.le_of_ble_eq_true rfl⟩ rfl rfl (Nat.le_of_ble_eq_true rfl) dX10_lured_59 (fun q13 s14 => ?_)
        exact J_iret hX hM dX10_lured_62
      · refine J_sipush hX dX10_lured_28 ks_m1002 ?_
        exact J_iret hX hM dX10_lured_31
    · refine J_sipush hX dX10_lured_16 ks_m1001 ?_
      exact J_iret hX hM dX10_lured_19
theorem mw_X10_lured : jMV Y_X10_lured 4 := ⟨⟨tw_tb (List.mem_of_getElem? (i := 850) (by decide +kernel)) (by decide +kernel), tw_tb (List.mem_of_getElem? (i := 851) (by decide +kernel)) (by decide +kernel), tw_tb (List.mem_of_getElem? (i := 1) (by decide +kernel)) (by decide +kernel), tw_tb (List.mem_of_getElem? (i := 852) (by decide +kernel)) (by decide +kernel)⟩, ⟨rfl, rfl⟩, by decide +kernel, by decide +kernel, by decide +kernel⟩
-- X3_start
noncomputable def f_X3_start (nm : Nat → Nat) (σ : jS) : Option jS :=
  bd (s_i σ (nm 0) 1 0) (fun s1 =>
    bd (s_i s1 (nm 0) 4 0) (fun s2 =>
      bd (s_i s2 (nm 0) 5 (-1)) (fun s3 =>
        some s3)))
abbrev Y_X3_start : jY := (yX3_start, cX3_start, 1, none, { frames := 0, cells := 0, slots := 0, locals := 0 })
theorem C_X3_start {l : Launch} {G : jG} {nm : Nat → Nat} (hG : jWL G) (hE : jE G nm LS_X3) (σ : jS) : jC r_V l G Y_X3_start [.ref (jad G (nm 0))] σ (f_X3_start nm σ) := by
  refine jw_met hG pn_X3 (Nat.le_of_ble_eq_true rfl) ⟨rfl, rfl⟩ ?_
  intro X hX hM
  have hX : jB X l G cX3_start RX3 1 { frames := 0, cells := 0, slots := 0, locals := 0 } := hX
  have hM : jM X (none) := hM
  show J X 0 [(0, .ref (jad G (nm 0)))] [] σ (f_X3_start nm σ) (jk r_V X)
  unfold f_X3_start
  refine J_aload_n hX dX3_start_0 rfl ?_
  refine J_iconst hX dX3_start_1 k_i0 ?_
  refine J_puti hX hE 0 1 rfl rfl fp_X3_19 dX3_start_2 ?_
  refine J_bdS (fun s4 => ?_)
  refine J_aload_n hX dX3_start_5 rfl ?_
  refine J_iconst hX dX3_start_6 k_i0 ?_
  refine J_puti hX hE 0 4 rfl rfl fp_X3_22 dX3_start_7 ?_
  refine J_bdS (fun s5 => ?_)
  refine J_aload_n hX dX3_start_10 rfl ?_
  refine J_iconst hX dX3_start_11 k_im1 ?_
  refine J_puti hX hE 0 5 rfl rfl fp_X3_9 dX3_start_12 ?_
  refine J_bdS (fun s6 => ?_)
  exact J_vret hX hM dX3_start_15
theorem mw_X3_start : jMV Y_X3_start 0 := ⟨⟨tw_tb (List.mem_of_getElem? (i := 430) (by decide +kernel)) (by decide +kernel), tw_tb (List.mem_of_getElem? (i := 431) (by decide +kernel)) (by decide +kernel), tw_tb (List.mem_of_getElem? (i := 7) (by decide +kernel)) (by decide +kernel), tw_tb (List.mem_of_getElem? (i := 432) (by decide +kernel)) (by decide +kernel)⟩, ⟨rfl, rfl⟩, by decide +kernel, by decide +kernel, by decide +kernel⟩
-- X3_skipBlanks
noncomputable def f_X3_skipBlanks_L0 (nm : Nat → Nat) (σ : jS) : Option (jS ⊕ jS) :=
  (f_X4_size (jn nm [1, 2]) 400 σ).bind (fun q1 =>
    if q1 ≤ (g_i σ (nm 0) 1) then
      some (.inr σ)
    else
      (f_X4_at (jn nm [1, 2]) 400 (g_i σ (nm 0) 1) σ).bind (fun q2 =>
        if q2 = 32 then
          bd (s_i σ (nm 0) 1 ((g_i σ (nm 0) 1) + 1)) (fun s3 =>
            some (.inl s3))
        else
          some (.inr σ)))
noncomputable def f_X3_skipBlanks (nm : Nat → Nat) (σ : jS) : Option jS :=
  (lp (f_X3_skipBlanks_L0 nm) fu σ).bind (fun s4 =>
    some s4)
abbrev Y_X3_skipBlanks : jY := (yX3_skipBlanks, cX3_skipBlanks, 1, none, { frames := 1, cells := 0, slots := 0, locals := 21 })
theorem C_X3_skipBlanks {l : Launch} {G : jG} {nm : Nat → Nat} (hG : jWL G) (hE : jE G nm LS_X3) (σ : jS) : jC r_V l G Y_X3_skipBlanks [.ref (jad G (nm 0))] σ (f_X3_skipBlanks nm σ) := by
  refine jw_met hG pn_X3 (Nat.le_of_ble_eq_true rfl) ⟨rfl, rfl⟩ ?_
  intro X hX hM
  have hX : jB X l G cX3_skipBlanks RX3 1 { frames := 1, cells := 0, slots := 0, locals := 21 } := hX
  have hM : jM X (none) := hM
  show J X 0 [(0, .ref (jad G (nm 0)))] [] σ (f_X3_skipBlanks nm σ) (jk r_V X)
  unfold f_X3_skipBlanks
  refine J_keep [0] (lv' := [(0, .ref (jad G (nm 0)))]) rfl ?_
  refine J_lp (pc := 0) (s0 := σ) (fun (s : jS) => [(0, .ref (jad G (nm 0)))]) (fun (s : jS) => s) ?_
  intro KK0 hN0 hQ0 z0
  obtain ⟨σ_0, rfl⟩ : ∃ y, y = z0 := ⟨_, rfl⟩
  show J X 0 [(0, .ref (jad G (nm 0)))] [] σ_0 (f_X3_skipBlanks_L0 nm σ_0) KK0
  unfold f_X3_skipBlanks_L0
  refine J_aload_n hX dX3_skipBlanks_0 rfl ?_
  refine J_geti hX hE 0 1 rfl rfl fl_X3_19 dX3_skipBlanks_1 ?_
  refine J_aload_n hX dX3_skipBlanks_4 rfl ?_
  refine J_getr hX hE 0 0 rfl rfl fl_X3_15 dX3_skipBlanks_5 ?_
  refine J_cVP hX hE 1 (C_X4_size hG (hE.sb [1, 2] sb_59) σ_0) mw_X4_size ml_X3_42 rfl rfl rfl ⟨Nat.le_of_ble_eq_true rfl, Nat.le_of_ble_eq_true rfl⟩ rfl rfl (Nat.le_of_ble_eq_true rfl) dX3_skipBlanks_8 (fun q5 => ?_)
  refine J_icmp_ge hX dX3_skipBlanks_11 (tgt := 43) rfl (fun _ => ?_) (fun _ => ?_)
  · refine hQ0 _ _ _ _ _ ?_
    exact J_vret hX hM dX3_skipBlanks_43
  · refine J_aload_n hX dX3_skipBlanks_14 rfl ?_
    refine J_getr hX hE 0 0 rfl rfl fl_X3_15 dX3_skipBlanks_15 ?_
    refine J_aload_n hX dX3_skipBlanks_18 rfl ?_
    refine J_geti hX hE 0 1 rfl rfl fl_X3_19 dX3_skipBlanks_19 ?_
    refine J_cVP hX hE 1 (C_X4_at hG (hE.sb [1, 2] sb_59) (g_i σ_0 (nm 0) 1) σ_0) mw_X4_at ml_X3_48 rfl rfl rfl ⟨Nat.le_of_ble_eq_true rfl, Nat.le_of_ble_eq_true rfl⟩ rfl rfl (Nat.le_of_ble_eq_true rfl) dX3_skipBlanks_22 (fun q6 => ?_)
    refine J_bipush hX dX3_skipBlanks_25 kb_32 ?_
    refine J_icmp_ne hX dX3_skipBlanks_27 (tgt := 43) rfl (fun _ => ?_) (fun _ => ?_)
    · refine hQ0 _ _ _ _ _ ?_
      exact J_vret hX hM dX3_skipBlanks_43
    · refine J_aload_n hX dX3_skipBlanks_30 rfl ?_
      refine J_dup hX dX3_skipBlanks_31 rfl ?_
      refine J_geti hX hE 0 1 rfl rfl fl_X3_19 dX3_skipBlanks_32 ?_
      refine J_iconst hX dX3_skipBlanks_35 k_i1 ?_
      refine J_iadd hX dX3_skipBlanks_36 ?_
      refine J_puti hX hE 0 1 rfl rfl fp_X3_19 dX3_skipBlanks_37 ?_
      refine J_bdS (fun s7 => ?_)
      refine J_goto hX dX3_skipBlanks_40 (tgt := 0) rfl ?_
      exact J_keep [0] rfl (hN0 s7)
theorem mw_X3_skipBlanks : jMV Y_X3_skipBlanks 0 := ⟨⟨tw_tb (List.mem_of_getElem? (i := 439) (by decide +kernel)) (by decide +kernel), tw_pv (List.mem_of_getElem? (i := 0) (by decide +kernel)) (by decide +kernel), tw_tb (List.mem_of_getElem? (i := 7) (by decide +kernel)) (by decide +kernel), tw_tb (List.mem_of_getElem? (i := 440) (by decide +kernel)) (by decide +kernel)⟩, ⟨rfl, rfl⟩, by decide +kernel, by decide +kernel, by decide +kernel⟩
-- X3_hasFault
noncomputable def f_X3_hasFault (nm : Nat → Nat) (σ : jS) : Option Int32 :=
  if (g_i σ (nm 0) 4) = 0 then
    some 0
  else
    some 1
abbrev Y_X3_hasFault : jY := (yX3_hasFault, cX3_hasFault, 1, some .boolean, { frames := 0, cells := 0, slots := 0, locals := 0 })
theorem C_X3_hasFault {l : Launch} {G : jG} {nm : Nat → Nat} (hG : jWL G) (hE : jE G nm LS_X3) (σ : jS) : jC (r_P σ) l G Y_X3_hasFault [.ref (jad G (nm 0))] σ (f_X3_hasFault nm σ) := by
  refine jw_met hG pn_X3 (Nat.le_of_ble_eq_true rfl) ⟨rfl, rfl⟩ ?_
  intro X hX hM
  have hX : jB X l G cX3_hasFault RX3 1 { frames := 0, cells := 0, slots := 0, locals := 0 } := hX
  have hM : jM X (some .boolean) := hM
  show J X 0 [(0, .ref (jad G (nm 0)))] [] σ (f_X3_hasFault nm σ) (jk (r_P σ) X)
  unfold f_X3_hasFault
  refine J_aload_n hX dX3_hasFault_0 rfl ?_
  refine J_geti hX hE 0 4 rfl rfl fl_X3_22 dX3_hasFault_1 ?_
  refine J_if_eq hX dX3_hasFault_4 (tgt := 11) rfl (fun _ => ?_) (fun _ => ?_)
  · refine J_iconst hX dX3_hasFault_11 k_i0 ?_
    exact J_zretP hX hM jn_0 dX3_hasFault_12
  · refine J_iconst hX dX3_hasFault_7 k_i1 ?_
    refine J_goto hX dX3_hasFault_8 (tgt := 12) rfl ?_
    exact J_zretP hX hM jn_1 dX3_hasFault_12
theorem mw_X3_hasFault : jMV Y_X3_hasFault 0 := ⟨⟨tw_tb (List.mem_of_getElem? (i := 444) (by decide +kernel)) (by decide +kernel), tw_tb (List.mem_of_getElem? (i := 445) (by decide +kernel)) (by decide +kernel), tw_tb (List.mem_of_getElem? (i := 7) (by decide +kernel)) (by decide +kernel), tw_tb (List.mem_of_getElem? (i := 446) (by decide +kernel)) (by decide +kernel)⟩, ⟨rfl, rfl⟩, by decide +kernel, by decide +kernel, by decide +kernel⟩
-- X3_hasMore
noncomputable def f_X3_hasMore (nm : Nat → Nat) (σ : jS) : Option (Int32 × jS) :=
  (f_X3_skipBlanks nm σ).bind (fun s1 =>
    (f_X3_hasFault nm s1).bind (fun q2 =>
      if q2 = 0 then
        (f_X4_size (jn nm [1, 2]) 400 s1).bind (fun q3 =>
          if q3 ≤ (g_i s1 (nm 0) 1) then
            some (0, s1)
          else
            some (1, s1))
      else
        some (0, s1)))
abbrev Y_X3_hasMore : jY := (yX3_hasMore, cX3_hasMore, 1, some .boolean, { frames := 2, cells := 0, slots := 0, locals := 41 })
theorem C_X3_hasMore {l : Launch} {G : jG} {nm : Nat → Nat} (hG : jWL G) (hE : jE G nm LS_X3) (σ : jS) : jC r_I l G Y_X3_hasMore [.ref (jad G (nm 0))] σ (f_X3_hasMore nm σ) := by
  refine jw_met hG pn_X3 (Nat.le_of_ble_eq_true rfl) ⟨rfl, rfl⟩ ?_
  intro X hX hM
  have hX : jB X l G cX3_hasMore RX3 1 { frames := 2, cells := 0, slots := 0, locals := 41 } := hX
  have hM : jM X (some .boolean) := hM
  show J X 0 [(0, .ref (jad G (nm 0)))] [] σ (f_X3_hasMore nm σ) (jk r_I X)
  unfold f_X3_hasMore
  refine J_aload_n hX dX3_hasMore_0 rfl ?_
  refine J_cVV hX hE 0 (C_X3_skipBlanks hG hE σ) mw_X3_skipBlanks ml_X3_35 rfl rfl rfl ⟨Nat.le_of_ble_eq_true rfl, Nat.le_of_ble_eq_true rfl⟩ rfl rfl (Nat.le_of_ble_eq_true rfl) dX3_hasMore_1 (fun s4 => ?_)
  refine J_aload_n hX dX3_hasMore_4 rfl ?_
  refine J_cVP hX hE 0 (C_X3_hasFault hG hE s4) mw_X3_hasFault ml_X3_38 rfl rfl rfl ⟨Nat.le_of_ble_eq_true rfl, Nat.le_of_ble_eq_true rfl⟩ rfl rfl (Nat.le_of_ble_eq_true rfl) dX3_hasMore_5 (fun q5 => ?_)
  refine J_if_ne hX dX3_hasMore_8 (tgt := 29) rfl (fun _ => ?_) (fun _ => ?_)
  · refine J_iconst hX dX3_hasMore_29 k_i0 ?_
    exact J_zret hX hM jn_0 dX3_hasMore_30
  · refine J_aload_n hX dX3_hasMore_11 rfl ?_
    refine J_geti hX hE 0 1 rfl rfl fl_X3_19 dX3_hasMore_12 ?_
    refine J_aload_n hX dX3_hasMore_15 rfl ?_
    refine J_getr hX hE 0 0 rfl rfl fl_X3_15 dX3_hasMore_16 ?_
    refine J_cVP hX hE 1 (C_X4_size hG (hE.sb [1, 2] sb_59) s4) mw_X4_size ml_X3_42 rfl rfl rfl ⟨Nat.le_of_ble_eq_true rfl, Nat.le_of_ble_eq_true rfl⟩ rfl rfl (Nat.le_of_ble_eq_true rfl) dX3_hasMore_19 (fun q6 => ?_)
    refine J_icmp_ge hX dX3_hasMore_22 (tgt := 29) rfl (fun _ => ?_) (fun _ => ?_)
    · refine J_iconst hX dX3_hasMore_29 k_i0 ?_
      exact J_zret hX hM jn_0 dX3_hasMore_30
    · refine J_iconst hX dX3_hasMore_25 k_i1 ?_
      refine J_goto hX dX3_hasMore_26 (tgt := 30) rfl ?_
      exact J_zret hX hM jn_1 dX3_hasMore_30
theorem mw_X3_hasMore : jMV Y_X3_hasMore 0 := ⟨⟨tw_tb (List.mem_of_getElem? (i := 434) (by decide +kernel)) (by decide +kernel), tw_tb (List.mem_of_getElem? (i := 435) (by decide +kernel)) (by decide +kernel), tw_tb (List.mem_of_getElem? (i := 7) (by decide +kernel)) (by decide +kernel), tw_tb (List.mem_of_getElem? (i := 436) (by decide +kernel)) (by decide +kernel)⟩, ⟨rfl, rfl⟩, by decide +kernel, by decide +kernel, by decide +kernel⟩
-- X3_readWord
noncomputable def f_X3_readWord_L12 (nm : Nat → Nat) (σ : jS) : Option (jS ⊕ jS) :=
  (f_X4_size (jn nm [1, 2]) 400 σ).bind (fun q3 =>
    if q3 ≤ (g_i σ (nm 0) 1) then
      some (.inr σ)
    else
      (f_X4_at (jn nm [1, 2]) 400 (g_i σ (nm 0) 1) σ).bind (fun q4 =>
        (f_X10_isWithin q4 97 122).bind (fun q5 =>
          if q5 = 0 then
            some (.inr σ)
          else
            bd (s_i σ (nm 0) 1 ((g_i σ (nm 0) 1) + 1)) (fun s6 =>
              some (.inl s6)))))
noncomputable def f_X3_readWord (nm : Nat → Nat) (σ : jS) : Option jS :=
  (f_X3_skipBlanks nm σ).bind (fun s1 =>
    bd (s_i s1 (nm 0) 2 (g_i s1 (nm 0) 1)) (fun s2 =>
      (lp (f_X3_readWord_L12 nm) fu s2).bind (fun s7 =>
        some s7)))
abbrev Y_X3_readWord : jY := (yX3_readWord, cX3_readWord, 1, none, { frames := 2, cells := 0, slots := 0, locals := 41 })
theorem C_X3_readWord {l : Launch} {G : jG} {nm : Nat → Nat} (hG : jWL G) (hE : jE G nm LS_X3) (σ : jS) : jC r_V l G Y_X3_readWord [.ref (jad G (nm 0))] σ (f_X3_readWord nm σ) := by
  refine jw_met hG pn_X3 (Nat.le_of_ble_eq_true rfl) ⟨rfl, rfl⟩ ?_
  intro X hX hM
  have hX : jB X l G cX3_readWord RX3 1 { frames := 2, cells := 0, slots := 0, locals := 41 } := hX
  have hM : jM X (none) := hM
  show J X 0 [(0, .ref (jad G (nm 0)))] [] σ (f_X3_readWord nm σ) (jk r_V X)
  unfold f_X3_readWord
  refine J_aload_n hX dX3_readWord_0 rfl ?_
  refine J_cVV hX hE 0 (C_X3_skipBlanks hG hE σ) mw_X3_skipBlanks ml_X3_35 rfl rfl rfl ⟨Nat.le_of_ble_eq_true rfl, Nat.le_of_ble_eq_true rfl⟩ rfl rfl (Nat.le_of_ble_eq_true rfl) dX3_readWord_1 (fun s8 => ?_)
  refine J_aload_n hX dX3_readWord_4 rfl ?_
  refine J_aload_n hX dX3_readWord_5 rfl ?_
  refine J_geti hX hE 0 1 rfl rfl fl_X3_19 dX3_readWord_6 ?_
  refine J_puti hX hE 0 2 rfl rfl fp_X3_25 dX3_readWord_9 ?_
  refine J_bdS (fun s9 => ?_)
  refine J_keep [0] (lv' := [(0, .ref (jad G (nm 0)))]) rfl ?_
  refine J_lp (pc := 12) (s0 := s9) (fun (s : jS) => [(0, .ref (jad G (nm 0)))]) (fun (s : jS) => s) ?_
  intro KK12 hN12 hQ12 z12
  obtain ⟨σ_12, rfl⟩ : ∃ y, y = z12 := ⟨_, rfl⟩
  show J X 12 [(0, .ref (jad G (nm 0)))] [] σ_12 (f_X3_readWord_L12 nm σ_12) KK12
  unfold f_X3_readWord_L12
  refine J_aload_n hX dX3_readWord_12 rfl ?_
  refine J_geti hX hE 0 1 rfl rfl fl_X3_19 dX3_readWord_13 ?_
  refine J_aload_n hX dX3_readWord_16 rfl ?_
  refine J_getr hX hE 0 0 rfl rfl fl_X3_15 dX3_readWord_17 ?_
  refine J_cVP hX hE 1 (C_X4_size hG (hE.sb [1, 2] sb_59) σ_12) mw_X4_size ml_X3_42 rfl rfl rfl ⟨Nat.le_of_ble_eq_true rfl, Nat.le_of_ble_eq_true rfl⟩ rfl rfl (Nat.le_of_ble_eq_true rfl) dX3_readWord_20 (fun q10 => ?_)
  refine J_icmp_ge hX dX3_readWord_23 (tgt := 60) rfl (fun _ => ?_) (fun _ => ?_)
  · refine hQ12 _ _ _ _ _ ?_
    exact J_vret hX hM dX3_readWord_60
  · refine J_aload_n hX dX3_readWord_26 rfl ?_
    refine J_getr hX hE 0 0 rfl rfl fl_X3_15 dX3_readWord_27 ?_
    refine J_aload_n hX dX3_readWord_30 rfl ?_
    refine J_geti hX hE 0 1 rfl rfl fl_X3_19 dX3_readWord_31 ?_
    refine J_cVP hX hE 1 (C_X4_at hG (hE.sb [1, 2] sb_59) (g_i σ_12 (nm 0) 1) σ_12) mw_X4_at ml_X3_48 rfl rfl rfl ⟨Nat.le_of_ble_eq_true rfl, Nat.le_of_ble_eq_true rfl⟩ rfl rfl (Nat.le_of_ble_eq_true rfl) dX3_readWord_34 (fun q11 => ?_)
    refine J_bipush hX dX3_readWord_37 kb_97 ?_
    refine J_bipush hX dX3_readWord_39 kb_122 ?_
    refine J_cNP hX (C_X10_isWithin hG q11 97 122 σ_12) mw_X10_isWithin (host := "LampsListen") mn_X3_52 ⟨Nat.le_of_ble_eq_true rfl, Nat.le_of_ble_eq_true rfl⟩ rfl rfl (Nat.le_of_ble_eq_true rfl) dX3_readWord_41 (fun q12 => ?_)
    refine J_if_eq hX dX3_readWord_44 (tgt := 60) rfl (fun _ => ?_) (fun _ => ?_)
    · refine hQ12 _ _ _ _ _ ?_
      exact J_vret hX hM dX3_readWord_60
    · refine J_aload_n hX dX3_readWord_47 rfl ?_
      refine J_dup hX dX3_readWord_48 rfl ?_
      refine J_geti hX hE 0 1 rfl rfl fl_X3_19 dX3_readWord_49 ?_
      refine J_iconst hX dX3_readWord_52 k_i1 ?_
      refine J_iadd hX dX3_readWord_53 ?_
      refine J_puti hX hE 0 1 rfl rfl fp_X3_19 dX3_readWord_54 ?_
      refine J_bdS (fun s13 => ?_)
      refine J_goto hX dX3_readWord_57 (tgt := 12) rfl ?_
      exact J_keep [0] rfl (hN12 s13)
theorem mw_X3_readWord : jMV Y_X3_readWord 0 := ⟨⟨tw_tb (List.mem_of_getElem? (i := 452) (by decide +kernel)) (by decide +kernel), tw_tb (List.mem_of_getElem? (i := 453) (by decide +kernel)) (by decide +kernel), tw_tb (List.mem_of_getElem? (i := 7) (by decide +kernel)) (by decide +kernel), tw_tb (List.mem_of_getElem? (i := 454) (by decide +kernel)) (by decide +kernel)⟩, ⟨rfl, rfl⟩, by decide +kernel, by decide +kernel, by decide +kernel⟩
-- X3_wordIs
noncomputable def f_X3_wordIs_L20 (nm : Nat → Nat) (w1 : Nat) (σ : jS) (v2 : Int32) : Option (Int32 ⊕ (Unit ⊕ Int32)) :=
  (f_strlen w1).bind (fun q2 =>
    if q2 ≤ v2 then
      some (.inr (.inl ()))
    else
      (f_X4_at (jn nm [1, 2]) 400 ((g_i σ (nm 0) 2) + v2) σ).bind (fun q3 =>
        (f_charAt w1 v2).bind (fun q4 =>
          if q3 = q4 then
            some (.inl (v2 + 1))
          else
            some (.inr (.inr 0)))))
noncomputable def f_X3_wordIs (nm : Nat → Nat) (w1 : Nat) (σ : jS) : Option Int32 :=
  (f_strlen w1).bind (fun q1 =>
    if ((g_i σ (nm 0) 1) - (g_i σ (nm 0) 2)) = q1 then
      (lp (f_X3_wordIs_L20 nm w1 σ) fu 0).bind (fun x => match x with
      | .inl _ =>
        some 1
      | .inr a => some a)
    else
      some 0)
abbrev Y_X3_wordIs : jY := (yX3_wordIs, cX3_wordIs, 3, some .boolean, { frames := 4, cells := 0, slots := 0, locals := 85 })
theorem C_X3_wordIs {l : Launch} {G : jG} {nm : Nat → Nat} (hG : jWL G) (hE : jE G nm LS_X3) (w1 : Nat) (σ : jS) : jC (r_P σ) l G Y_X3_wordIs [.ref (jad G (nm 0)), .ref (jsK G w1)] σ (f_X3_wordIs nm w1 σ) := by
  refine jw_met hG pn_X3 (Nat.le_of_ble_eq_true rfl) ⟨rfl, rfl⟩ ?_
  intro X hX hM
  have hX : jB X l G cX3_wordIs RX3 3 { frames := 4, cells := 0, slots := 0, locals := 85 } := hX
  have hM : jM X (some .boolean) := hM
  show J X 0 [(0, .ref (jad G (nm 0))), (1, .ref (jsK G w1))] [] σ (f_X3_wordIs nm w1 σ) (jk (r_P σ) X)
  unfold f_X3_wordIs
  refine J_aload_n hX dX3_wordIs_0 rfl ?_
  refine J_geti hX hE 0 1 rfl rfl fl_X3_19 dX3_wordIs_1 ?_
  refine J_aload_n hX dX3_wordIs_4 rfl ?_
  refine J_geti hX hE 0 2 rfl rfl fl_X3_25 dX3_wordIs_5 ?_
  refine J_isub hX dX3_wordIs_8 ?_
  refine J_aload_n hX dX3_wordIs_9 rfl ?_
  refine J_cTP hX (C_strlen hG w1 σ) f_strlen_lt rfl mw_J0_length_8abf5 ml_X3_56 ⟨Nat.le_of_ble_eq_true rfl, Nat.le_of_ble_eq_true rfl⟩ rfl rfl (Nat.le_of_ble_eq_true rfl) dX3_wordIs_10 (fun q5 => ?_)
  refine J_icmp_eq hX dX3_wordIs_13 (tgt := 18) rfl (fun _ => ?_) (fun _ => ?_)
  · refine J_iconst hX dX3_wordIs_18 k_i0 ?_
    refine J_istore_n hX dX3_wordIs_19 (Nat.le_of_ble_eq_true rfl) (lv' := [(0, .ref (jad G (nm 0))), (1, .ref (jsK G w1)), (2, .int 0)]) rfl ?_
    refine J_keep [0, 1, 2] (lv' := [(0, .ref (jad G (nm 0))), (1, .ref (jsK G w1)), (2, .int 0)]) rfl ?_
    refine J_lp (pc := 20) (s0 := 0) (fun (s : Int32) => [(0, .ref (jad G (nm 0))), (1, .ref (jsK G w1)), (2, .int s)]) (fun (s : Int32) => σ) ?_
    intro KK20 hN20 hQ20 z20
    obtain ⟨v2_20, rfl⟩ : ∃ y, y = z20 := ⟨_, rfl⟩
    show J X 20 [(0, .ref (jad G (nm 0))), (1, .ref (jsK G w1)), (2, .int v2_20)] [] σ (f_X3_wordIs_L20 nm w1 σ v2_20) KK20
    unfold f_X3_wordIs_L20
    refine J_iload_n hX dX3_wordIs_20 rfl ?_
    refine J_aload_n hX dX3_wordIs_21 rfl ?_
    refine J_cTP hX (C_strlen hG w1 σ) f_strlen_lt rfl mw_J0_length_8abf5 ml_X3_56 ⟨Nat.le_of_ble_eq_true rfl, Nat.le_of_ble_eq_true rfl⟩ rfl rfl (Nat.le_of_ble_eq_true rfl) dX3_wordIs_22 (fun q6 => ?_)
    refine J_icmp_ge hX dX3_wordIs_25 (tgt := 57) rfl (fun _ => ?_) (fun _ => ?_)
    · refine hQ20 _ _ _ _ _ ?_
      refine J_iconst hX dX3_wordIs_57 k_i1 ?_
      exact J_zretP hX hM jn_1 dX3_wordIs_58
    · refine J_aload_n hX dX3_wordIs_28 rfl ?_
      refine J_getr hX hE 0 0 rfl rfl fl_X3_15 dX3_wordIs_29 ?_
      refine J_aload_n hX dX3_wordIs_32 rfl ?_
      refine J_geti hX hE 0 2 rfl rfl fl_X3_25 dX3_wordIs_33 ?_
      refine J_iload_n hX dX3_wordIs_36 rfl ?_
      refine J_iadd hX dX3_wordIs_37 ?_
      refine J_cVP hX hE 1 (C_X4_at hG (hE.sb [1, 2] sb_59) ((g_i σ (nm 0) 2) + v2_20) σ) mw_X4_at ml_X3_48 rfl rfl rfl ⟨Nat.le_of_ble_eq_true rfl, Nat.le_of_ble_eq_true rfl⟩ rfl rfl (Nat.le_of_ble_eq_true rfl) dX3_wordIs_38 (fun q7 => ?_)
      refine J_aload_n hX dX3_wordIs_41 rfl ?_
      refine J_iload_n hX dX3_wordIs_42 rfl ?_
      refine J_cTP hX (C_charAt hG w1 v2_20 σ) f_charAt_lt rfl mw_J0_charAt_5068e ml_X3_61 ⟨Nat.le_of_ble_eq_true rfl, Nat.le_of_ble_eq_true rfl⟩ rfl rfl (Nat.le_of_ble_eq_true rfl) dX3_wordIs_43 (fun q8 => ?_)
      refine J_icmp_eq hX dX3_wordIs_46 (tgt := 51) rfl (fun _ => ?_) (fun _ => ?_)
      · refine J_iinc hX dX3_wordIs_51 rfl (congrArg (_ + ·) k_i1) (Nat.le_of_ble_eq_true rfl) (lv' := [(0, .ref (jad G (nm 0))), (1, .ref (jsK G w1)), (2, .int (v2_20 + 1))]) rfl ?_
        refine J_goto hX dX3_wordIs_54 (tgt := 20) rfl ?_
        exact J_keep [0, 1, 2] rfl (hN20 (v2_20 + 1))
      · refine J_iconst hX dX3_wordIs_49 k_i0 ?_
        refine hQ20 _ _ _ _ _ ?_
        exact J_zretP hX hM jn_0 dX3_wordIs_50
  · refine J_iconst hX dX3_wordIs_16 k_i0 ?_
    exact J_zretP hX hM jn_0 dX3_wordIs_17
theorem mw_X3_wordIs : jMV Y_X3_wordIs 1 := ⟨⟨tw_tb (List.mem_of_getElem? (i := 460) (by decide +kernel)) (by decide +kernel), tw_tb (List.mem_of_getElem? (i := 461) (by decide +kernel)) (by decide +kernel), tw_tb (List.mem_of_getElem? (i := 7) (by decide +kernel)) (by decide +kernel), tw_tb (List.mem_of_getElem? (i := 462) (by decide +kernel)) (by decide +kernel)⟩, ⟨rfl, rfl⟩, by decide +kernel, by decide +kernel, by decide +kernel⟩
-- X3_fail
noncomputable def f_X3_fail (nm : Nat → Nat) (v1 : Int32) (v2 : Int32) (σ : jS) : Option jS :=
  if (g_i σ (nm 0) 4) = 0 then
    bd (s_i σ (nm 0) 4 v1) (fun s1 =>
      bd (s_i s1 (nm 0) 5 v2) (fun s2 =>
        some s2))
  else
    some σ
abbrev Y_X3_fail : jY := (yX3_fail, cX3_fail, 3, none, { frames := 0, cells := 0, slots := 0, locals := 0 })
theorem C_X3_fail {l : Launch} {G : jG} {nm : Nat → Nat} (hG : jWL G) (hE : jE G nm LS_X3) (v1 : Int32) (v2 : Int32) (σ : jS) : jC r_V l G Y_X3_fail [.ref (jad G (nm 0)), .int v1, .int v2] σ (f_X3_fail nm v1 v2 σ) := by
  refine jw_met hG pn_X3 (Nat.le_of_ble_eq_true rfl) ⟨rfl, rfl⟩ ?_
  intro X hX hM
  have hX : jB X l G cX3_fail RX3 3 { frames := 0, cells := 0, slots := 0, locals := 0 } := hX
  have hM : jM X (none) := hM
  show J X 0 [(0, .ref (jad G (nm 0))), (1, .int v1), (2, .int v2)] [] σ (f_X3_fail nm v1 v2 σ) (jk r_V X)
  unfold f_X3_fail
  refine J_aload_n hX dX3_fail_0 rfl ?_
  refine J_geti hX hE 0 4 rfl rfl fl_X3_22 dX3_fail_1 ?_
  refine J_if_ne hX dX3_fail_4 (tgt := 17) rfl (fun _ => ?_) (fun _ => ?_)
  · exact J_vret hX hM dX3_fail_17
  · refine J_aload_n hX dX3_fail_7 rfl ?_
    refine J_iload_n hX dX3_fail_8 rfl ?_
    refine J_puti hX hE 0 4 rfl rfl fp_X3_22 dX3_fail_9 ?_
    refine J_bdS (fun s3 => ?_)
    refine J_aload_n hX dX3_fail_12 rfl ?_
    refine J_iload_n hX dX3_fail_13 rfl ?_
    refine J_puti hX hE 0 5 rfl rfl fp_X3_9 dX3_fail_14 ?_
    refine J_bdS (fun s4 => ?_)
    exact J_vret hX hM dX3_fail_17
theorem mw_X3_fail : jMV Y_X3_fail 2 := ⟨⟨tw_tb (List.mem_of_getElem? (i := 525) (by decide +kernel)) (by decide +kernel), tw_pv (List.mem_of_getElem? (i := 3) (by decide +kernel)) (by decide +kernel), tw_tb (List.mem_of_getElem? (i := 7) (by decide +kernel)) (by decide +kernel), tw_tb (List.mem_of_getElem? (i := 526) (by decide +kernel)) (by decide +kernel)⟩, ⟨rfl, rfl⟩, by decide +kernel, by decide +kernel, by decide +kernel⟩
-- X3_failAtWord
noncomputable def f_X3_failAtWord (nm : Nat → Nat) (v1 : Int32) (σ : jS) : Option jS :=
  (f_X3_fail nm v1 (g_i σ (nm 0) 2) σ).bind (fun s1 =>
    some s1)
abbrev Y_X3_failAtWord : jY := (yX3_failAtWord, cX3_failAtWord, 2, none, { frames := 1, cells := 0, slots := 0, locals := 22 })
theorem C_X3_failAtWord {l : Launch} {G : jG} {nm : Nat → Nat} (hG : jWL G) (hE : jE G nm LS_X3) (v1 : Int32) (σ : jS) : jC r_V l G Y_X3_failAtWord [.ref (jad G (nm 0)), .int v1] σ (f_X3_failAtWord nm v1 σ) := by
  refine jw_met hG pn_X3 (Nat.le_of_ble_eq_true rfl) ⟨rfl, rfl⟩ ?_
  intro X hX hM
  have hX : jB X l G cX3_failAtWord RX3 2 { frames := 1, cells := 0, slots := 0, locals := 22 } := hX
  have hM : jM X (none) := hM
  show J X 0 [(0, .ref (jad G (nm 0))), (1, .int v1)] [] σ (f_X3_failAtWord nm v1 σ) (jk r_V X)
  unfold f_X3_failAtWord
  refine J_aload_n hX dX3_failAtWord_0 rfl ?_
  refine J_iload_n hX dX3_failAtWord_1 rfl ?_
  refine J_aload_n hX dX3_failAtWord_2 rfl ?_
  refine J_geti hX hE 0 2 rfl rfl fl_X3_25 dX3_failAtWord_3 ?_
  refine J_cVV hX hE 0 (C_X3_fail hG hE v1 (g_i σ (nm 0) 2) σ) mw_X3_fail ml_X3_28 rfl rfl rfl ⟨Nat.le_of_ble_eq_true rfl, Nat.le_of_ble_eq_true rfl⟩ rfl rfl (Nat.le_of_ble_eq_true rfl) dX3_failAtWord_6 (fun s2 => ?_)
  exact J_vret hX hM dX3_failAtWord_9
theorem mw_X3_failAtWord : jMV Y_X3_failAtWord 1 := ⟨⟨tw_tb (List.mem_of_getElem? (i := 520) (by decide +kernel)) (by decide +kernel), tw_tb (List.mem_of_getElem? (i := 521) (by decide +kernel)) (by decide +kernel), tw_tb (List.mem_of_getElem? (i := 7) (by decide +kernel)) (by decide +kernel), tw_tb (List.mem_of_getElem? (i := 522) (by decide +kernel)) (by decide +kernel)⟩, ⟨rfl, rfl⟩, by decide +kernel, by decide +kernel, by decide +kernel⟩
-- X5_readOnlyWord
noncomputable def f_X5_readOnlyWord (nm : Nat → Nat) (n0 : Nat) (w1 : Nat) (σ : jS) : Option jS :=
  (f_X3_readWord (jn nm [29, 1, 2]) σ).bind (fun s1 =>
    (f_X3_wordIs (jn nm [29, 1, 2]) w1 s1).bind (fun q2 =>
      if q2 = 0 then
        (f_X3_failAtWord (jn nm [29, 1, 2]) 1 s1).bind (fun s5 =>
          some s5)
      else
        (f_X4_isFull (jn nm [30, 31]) n0 s1).bind (fun q3 =>
          if q3 = 0 then
            some s1
          else
            (f_X3_failAtWord (jn nm [29, 1, 2]) 3 s1).bind (fun s4 =>
              some s4))))
abbrev Y_X5_readOnlyWord : jY := (yX5_readOnlyWord, cX5_readOnlyWord, 3, none, { frames := 5, cells := 0, slots := 0, locals := 107 })
theorem C_X5_readOnlyWord {l : Launch} {G : jG} {nm : Nat → Nat} {n0 : Nat} (hG : jWL G) (hE : jE G nm (LS_X5_X4 n0)) (w1 : Nat) (σ : jS) : jC r_V l G Y_X5_readOnlyWord [.ref (jad G (nm 0)), .ref (jsK G w1), .ref (jad G (nm 30))] σ (f_X5_readOnlyWord nm n0 w1 σ) := by
  refine jw_met hG pn_X5 (Nat.le_of_ble_eq_true rfl) ⟨rfl, rfl⟩ ?_
  intro X hX hM
  have hX : jB X l G cX5_readOnlyWord RX5 3 { frames := 5, cells := 0, slots := 0, locals := 107 } := hX
  have hM : jM X (none) := hM
  show J X 0 [(0, .ref (jad G (nm 0))), (1, .ref (jsK G w1)), (2, .ref (jad G (nm 30)))] [] σ (f_X5_readOnlyWord nm n0 w1 σ) (jk r_V X)
  unfold f_X5_readOnlyWord
  refine J_aload_n hX dX5_readOnlyWord_0 rfl ?_
  refine J_getr hX hE 0 1 rfl rfl fl_X5_42 dX5_readOnlyWord_1 ?_
  refine J_cVV hX hE 29 (C_X3_readWord hG (hE.sb [29, 1, 2] (sb_60 n0)) σ) mw_X3_readWord ml_X5_81 rfl rfl rfl ⟨Nat.le_of_ble_eq_true rfl, Nat.le_of_ble_eq_true rfl⟩ rfl rfl (Nat.le_of_ble_eq_true rfl) dX5_readOnlyWord_4 (fun s6 => ?_)
  refine J_aload_n hX dX5_readOnlyWord_7 rfl ?_
  refine J_getr hX hE 0 1 rfl rfl fl_X5_42 dX5_readOnlyWord_8 ?_
  refine J_aload_n hX dX5_readOnlyWord_11 rfl ?_
  refine J_cVP hX hE 29 (C_X3_wordIs hG (hE.sb [29, 1, 2] (sb_60 n0)) w1 s6) mw_X3_wordIs ml_X5_86 rfl rfl rfl ⟨Nat.le_of_ble_eq_true rfl, Nat.le_of_ble_eq_true rfl⟩ rfl rfl (Nat.le_of_ble_eq_true rfl) dX5_readOnlyWord_12 (fun q7 => ?_)
  refine J_if_ne hX dX5_readOnlyWord_15 (tgt := 29) rfl (fun _ => ?_) (fun _ => ?_)
  · refine J_aload_n hX dX5_readOnlyWord_29 rfl ?_
    refine J_cVP hX hE 30 (C_X4_isFull hG (hE.sb [30, 31] (sb_61 n0)) s6) mw_X4_isFull ml_X5_120 rfl rfl rfl ⟨Nat.le_of_ble_eq_true rfl, Nat.le_of_ble_eq_true rfl⟩ rfl rfl (Nat.le_of_ble_eq_true rfl) dX5_readOnlyWord_30 (fun q8 => ?_)
    refine J_if_eq hX dX5_readOnlyWord_33 (tgt := 44) rfl (fun _ => ?_) (fun _ => ?_)
    · exact J_vret hX hM dX5_readOnlyWord_44
    · refine J_aload_n hX dX5_readOnlyWord_36 rfl ?_
      refine J_getr hX hE 0 1 rfl rfl fl_X5_42 dX5_readOnlyWord_37 ?_
      refine J_iconst hX dX5_readOnlyWord_40 k_i3 ?_
      refine J_cVV hX hE 29 (C_X3_failAtWord hG (hE.sb [29, 1, 2] (sb_60 n0)) 3 s6) mw_X3_failAtWord ml_X5_114 rfl rfl rfl ⟨Nat.le_of_ble_eq_true rfl, Nat.le_of_ble_eq_true rfl⟩ rfl rfl (Nat.le_of_ble_eq_true rfl) dX5_readOnlyWord_41 (fun s9 => ?_)
      exact J_vret hX hM dX5_readOnlyWord_44
  · refine J_aload_n hX dX5_readOnlyWord_18 rfl ?_
    refine J_getr hX hE 0 1 rfl rfl fl_X5_42 dX5_readOnlyWord_19 ?_
    refine J_iconst hX dX5_readOnlyWord_22 k_i1 ?_
    refine J_cVV hX hE 29 (C_X3_failAtWord hG (hE.sb [29, 1, 2] (sb_60 n0)) 1 s6) mw_X3_failAtWord ml_X5_114 rfl rfl rfl ⟨Nat.le_of_ble_eq_true rfl, Nat.le_of_ble_eq_true rfl⟩ rfl rfl (Nat.le_of_ble_eq_true rfl) dX5_readOnlyWord_23 (fun s10 => ?_)
    refine J_goto hX dX5_readOnlyWord_26 (tgt := 44) rfl ?_
    exact J_vret hX hM dX5_readOnlyWord_44
theorem mw_X5_readOnlyWord : jMV Y_X5_readOnlyWord 2 := ⟨⟨tw_tb (List.mem_of_getElem? (i := 592) (by decide +kernel)) (by decide +kernel), tw_pv (List.mem_of_getElem? (i := 7) (by decide +kernel)) (by decide +kernel), tw_tb (List.mem_of_getElem? (i := 4) (by decide +kernel)) (by decide +kernel), tw_tb (List.mem_of_getElem? (i := 593) (by decide +kernel)) (by decide +kernel)⟩, ⟨rfl, rfl⟩, by decide +kernel, by decide +kernel, by decide +kernel⟩
-- X3_failAtNumber
noncomputable def f_X3_failAtNumber (nm : Nat → Nat) (v1 : Int32) (σ : jS) : Option jS :=
  (f_X3_fail nm v1 (g_i σ (nm 0) 3) σ).bind (fun s1 =>
    some s1)
abbrev Y_X3_failAtNumber : jY := (yX3_failAtNumber, cX3_failAtNumber, 2, none, { frames := 1, cells := 0, slots := 0, locals := 22 })
theorem C_X3_failAtNumber {l : Launch} {G : jG} {nm : Nat → Nat} (hG : jWL G) (hE : jE G nm LS_X3) (v1 : Int32) (σ : jS) : jC r_V l G Y_X3_failAtNumber [.ref (jad G (nm 0)), .int v1] σ (f_X3_failAtNumber nm v1 σ) := by
  refine jw_met hG pn_X3 (Nat.le_of_ble_eq_true rfl) ⟨rfl, rfl⟩ ?_
  intro X hX hM
  have hX : jB X l G cX3_failAtNumber RX3 2 { frames := 1, cells := 0, slots := 0, locals := 22 } := hX
  have hM : jM X (none) := hM
  show J X 0 [(0, .ref (jad G (nm 0))), (1, .int v1)] [] σ (f_X3_failAtNumber nm v1 σ) (jk r_V X)
  unfold f_X3_failAtNumber
  refine J_aload_n hX dX3_failAtNumber_0 rfl ?_
  refine J_iload_n hX dX3_failAtNumber_1 rfl ?_
  refine J_aload_n hX dX3_failAtNumber_2 rfl ?_
  refine J_geti hX hE 0 3 rfl rfl fl_X3_32 dX3_failAtNumber_3 ?_
  refine J_cVV hX hE 0 (C_X3_fail hG hE v1 (g_i σ (nm 0) 3) σ) mw_X3_fail ml_X3_28 rfl rfl rfl ⟨Nat.le_of_ble_eq_true rfl, Nat.le_of_ble_eq_true rfl⟩ rfl rfl (Nat.le_of_ble_eq_true rfl) dX3_failAtNumber_6 (fun s2 => ?_)
  exact J_vret hX hM dX3_failAtNumber_9
theorem mw_X3_failAtNumber : jMV Y_X3_failAtNumber 1 := ⟨⟨tw_tb (List.mem_of_getElem? (i := 532) (by decide +kernel)) (by decide +kernel), tw_tb (List.mem_of_getElem? (i := 533) (by decide +kernel)) (by decide +kernel), tw_tb (List.mem_of_getElem? (i := 7) (by decide +kernel)) (by decide +kernel), tw_tb (List.mem_of_getElem? (i := 534) (by decide +kernel)) (by decide +kernel)⟩, ⟨rfl, rfl⟩, by decide +kernel, by decide +kernel, by decide +kernel⟩
-- X3_readNumber
noncomputable def f_X3_readNumber_J82 (nm : Nat → Nat) (v1 : Int32) (v2 : Int32) (v3 : Int32) (σ : jS) : Option ((Int32 × jS) ⊕ (Int32 × jS)) :=
  bd (s_i σ (nm 0) 1 ((g_i σ (nm 0) 1) + 1)) (fun s9 =>
    some (.inl (v3, s9)))
noncomputable def f_X3_readNumber_L14 (nm : Nat → Nat) (v1 : Int32) (v2 : Int32) (s : (Int32 × jS)) : Option ((Int32 × jS) ⊕ (Int32 × jS)) :=
  match s with
  | (v3, σ) =>
    (f_X4_size (jn nm [1, 2]) 400 σ).bind (fun q3 =>
      if q3 ≤ (g_i σ (nm 0) 1) then
        some (.inr (v3, σ))
      else
        (f_X4_at (jn nm [1, 2]) 400 (g_i σ (nm 0) 1) σ).bind (fun q4 =>
          (f_X10_isWithin q4 48 57).bind (fun q5 =>
            if q5 = 0 then
              some (.inr (v3, σ))
            else
              (if 3 ≤ ((g_i σ (nm 0) 1) - (g_i σ (nm 0) 3)) then
                some v3
              else
                (f_X4_at (jn nm [1, 2]) 400 (g_i σ (nm 0) 1) σ).bind (fun q6 =>
                  bd (((v3 * 10) + q6) - 48) (fun x7 =>
                    some x7))).bind (fun y8 =>
                f_X3_readNumber_J82 nm v1 v2 y8 σ))))
noncomputable def f_X3_readNumber_J134 (nm : Nat → Nat) (v3 : Int32) (σ : jS) : Option (Int32 × jS) :=
  (f_X3_failAtNumber nm 2 σ).bind (fun s13 =>
    some (v3, s13))
noncomputable def f_X3_readNumber_J95 (nm : Nat → Nat) (v1 : Int32) (v2 : Int32) (v3 : Int32) (σ : jS) : Option (Int32 × jS) :=
  bd ((g_i σ (nm 0) 1) - (g_i σ (nm 0) 3)) (fun x12 =>
    if x12 = 0 then
      (f_X3_failAtNumber nm 1 σ).bind (fun s15 =>
        some (v3, s15))
    else
      if 3 < x12 then
        f_X3_readNumber_J134 nm v3 σ
      else
        (f_X10_isWithin v3 v1 v2).bind (fun q14 =>
          if q14 = 0 then
            f_X3_readNumber_J134 nm v3 σ
          else
            some (v3, σ)))
noncomputable def f_X3_readNumber (nm : Nat → Nat) (v1 : Int32) (v2 : Int32) (σ : jS) : Option (Int32 × jS) :=
  (f_X3_skipBlanks nm σ).bind (fun s1 =>
    bd (s_i s1 (nm 0) 3 (g_i s1 (nm 0) 1)) (fun s2 =>
      (lp (f_X3_readNumber_L14 nm v1 v2) fu (0, s2)).bind (fun x => match x with
      | (e10, s11) =>
        f_X3_readNumber_J95 nm v1 v2 e10 s11)))
abbrev Y_X3_readNumber : jY := (yX3_readNumber, cX3_readNumber, 5, some .int, { frames := 2, cells := 0, slots := 0, locals := 43 })
theorem C_X3_readNumber {l : Launch} {G : jG} {nm : Nat → Nat} (hG : jWL G) (hE : jE G nm LS_X3) (v1 : Int32) (v2 : Int32) (σ : jS) : jC r_I l G Y_X3_readNumber [.ref (jad G (nm 0)), .int v1, .int v2] σ (f_X3_readNumber nm v1 v2 σ) := by
  refine jw_met hG pn_X3 (Nat.le_of_ble_eq_true rfl) ⟨rfl, rfl⟩ ?_
  intro X hX hM
  have hX : jB X l G cX3_readNumber RX3 5 { frames := 2, cells := 0, slots := 0, locals := 43 } := hX
  have hM : jM X (some .int) := hM
  show J X 0 [(0, .ref (jad G (nm 0))), (1, .int v1), (2, .int v2)] [] σ (f_X3_readNumber nm v1 v2 σ) (jk r_I X)
  have hJ134 : ∀ (v3 : Int32) (σ : jS), J X 134 [(0, .ref (jad G (nm 0))), (3, .int v3)] [] σ (f_X3_readNumber_J134 nm v3 σ) (jk r_I X) := by
    intro v3 σ
    unfold f_X3_readNumber_J134
    refine J_aload_n hX dX3_readNumber_134 rfl ?_
    refine J_iconst hX dX3_readNumber_135 k_i2 ?_
    refine J_cVV hX hE 0 (C_X3_failAtNumber hG hE 2 σ) mw_X3_failAtNumber ml_X3_65 rfl rfl rfl ⟨Nat.le_of_ble_eq_true rfl, Nat.le_of_ble_eq_true rfl⟩ rfl rfl (Nat.le_of_ble_eq_true rfl) dX3_readNumber_136 (fun s16 => ?_)
    refine J_iload_n hX dX3_readNumber_139 rfl ?_
    exact J_iret hX hM dX3_readNumber_140
  have hJ95 : ∀ (v1 : Int32) (v2 : Int32) (v3 : Int32) (σ : jS), J X 95 [(0, .ref (jad G (nm 0))), (1, .int v1), (2, .int v2), (3, .int v3)] [] σ (f_X3_readNumber_J95 nm v1 v2 v3 σ) (jk r_I X) := by
    intro v1 v2 v3 σ
    unfold f_X3_readNumber_J95
    refine J_aload_n hX dX3_readNumber_95 rfl ?_
    refine J_geti hX hE 0 1 rfl rfl fl_X3_19 dX3_readNumber_96 ?_
    refine J_aload_n hX dX3_readNumber_99 rfl ?_
    refine J_geti hX hE 0 3 rfl rfl fl_X3_32 dX3_readNumber_100 ?_
    refine J_isub hX dX3_readNumber_103 ?_
    refine J_bdI (fun x17 => ?_)
    refine J_istore hX dX3_readNumber_104 (Nat.le_of_ble_eq_true rfl) (lv' := [(0, .ref (jad G (nm 0))), (1, .int v1), (2, .int v2), (3, .int v3), (4, .int x17)]) rfl ?_
    refine J_iload hX dX3_readNumber_106 rfl ?_
    refine J_if_ne hX dX3_readNumber_108 (tgt := 119) rfl (fun _ => ?_) (fun _ => ?_)
    · refine J_iload hX dX3_readNumber_119 rfl ?_
      refine J_iconst hX dX3_readNumber_121 k_i3 ?_
      refine J_icmp_gt hX dX3_readNumber_122 (tgt := 134) rfl (fun _ => ?_) (fun _ => ?_)
      · exact J_keep [0, 3] rfl (hJ134 v3 σ)
      · refine J_iload_n hX dX3_readNumber_125 rfl ?_
        refine J_iload_n hX dX3_readNumber_126 rfl ?_
        refine J_iload_n hX dX3_readNumber_127 rfl ?_
        refine J_cNP hX (C_X10_isWithin hG v3 v1 v2 σ) mw_X10_isWithin (host := "LampsListen") mn_X3_52 ⟨Nat.le_of_ble_eq_true rfl, Nat.le_of_ble_eq_true rfl⟩ rfl rfl (Nat.le_of_ble_eq_true rfl) dX3_readNumber_128 (fun q18 => ?_)
        refine J_if_ne hX dX3_readNumber_131 (tgt := 139) rfl (fun _ => ?_) (fun _ => ?_)
        · refine J_iload_n hX dX3_readNumber_139 rfl ?_
          exact J_iret hX hM dX3_readNumber_140
        · exact J_keep [0, 3] rfl (hJ134 v3 σ)
    · refine J_aload_n hX dX3_readNumber_111 rfl ?_
      refine J_iconst hX dX3_readNumber_112 k_i1 ?_
      refine J_cVV hX hE 0 (C_X3_failAtNumber hG hE 1 σ) mw_X3_failAtNumber ml_X3_65 rfl rfl rfl ⟨Nat.le_of_ble_eq_true rfl, Nat.le_of_ble_eq_true rfl⟩ rfl rfl (Nat.le_of_ble_eq_true rfl) dX3_readNumber_113 (fun s19 => ?_)
      refine J_goto hX dX3_readNumber_116 (tgt := 139) rfl ?_
      refine J_iload_n hX dX3_readNumber_139 rfl ?_
      exact J_iret hX hM dX3_readNumber_140
  unfold f_X3_readNumber
  refine J_aload_n hX dX3_readNumber_0 rfl ?_
  refine J_cVV hX hE 0 (C_X3_skipBlanks hG hE σ) mw_X3_skipBlanks ml_X3_35 rfl rfl rfl ⟨Nat.le_of_ble_eq_true rfl, Nat.le_of_ble_eq_true rfl⟩ rfl rfl (Nat.le_of_ble_eq_true rfl) dX3_readNumber_1 (fun s20 => ?_)
  refine J_aload_n hX dX3_readNumber_4 rfl ?_
  refine J_aload_n hX dX3_readNumber_5 rfl ?_
  refine J_geti hX hE 0 1 rfl rfl fl_X3_19 dX3_readNumber_6 ?_
  refine J_puti hX hE 0 3 rfl rfl fp_X3_32 dX3_readNumber_9 ?_
  refine J_bdS (fun s21 => ?_)
  refine J_iconst hX dX3_readNumber_12 k_i0 ?_
  refine J_istore_n hX dX3_readNumber_13 (Nat.le_of_ble_eq_true rfl) (lv' := [(0, .ref (jad G (nm 0))), (1, .int v1), (2, .int v2), (3, .int 0)]) rfl ?_
  refine J_keep [0, 1, 2, 3] (lv' := [(0, .ref (jad G (nm 0))), (1, .int v1), (2, .int v2), (3, .int 0)]) rfl ?_
  refine J_lp (pc := 14) (s0 := (0, s21)) (fun (s : (Int32 × jS)) => [(0, .ref (jad G (nm 0))), (1, .int v1), (2, .int v2), (3, .int (s.1))]) (fun (s : (Int32 × jS)) => s.2) ?_
  intro KK14 hN14 hQ14 z14
  obtain ⟨v3_14, σ_14⟩ := z14
  show J X 14 [(0, .ref (jad G (nm 0))), (1, .int v1), (2, .int v2), (3, .int v3_14)] [] σ_14 (f_X3_readNumber_L14 nm v1 v2 (v3_14, σ_14)) KK14
  have hJ82 : ∀ (v3_j82 : Int32) (σ_j82 : jS), J X 82 [(0, .ref (jad G (nm 0))), (1, .int v1), (2, .int v2), (3, .int v3_j82)] [] σ_j82 (f_X3_readNumber_J82 nm v1 v2 v3_j82 σ_j82) KK14 := by
    intro v3_j82 σ_j82
    unfold f_X3_readNumber_J82
    refine J_aload_n hX dX3_readNumber_82 rfl ?_
    refine J_dup hX dX3_readNumber_83 rfl ?_
    refine J_geti hX hE 0 1 rfl rfl fl_X3_19 dX3_readNumber_84 ?_
    refine J_iconst hX dX3_readNumber_87 k_i1 ?_
    refine J_iadd hX dX3_readNumber_88 ?_
    refine J_puti hX hE 0 1 rfl rfl fp_X3_19 dX3_readNumber_89 ?_
    refine J_bdS (fun s22 => ?_)
    refine J_goto hX dX3_readNumber_92 (tgt := 14) rfl ?_
    exact J_keep [0, 1, 2, 3] rfl (hN14 (v3_j82, s22))
  unfold f_X3_readNumber_L14
  refine J_aload_n hX dX3_readNumber_14 rfl ?_
  refine J_geti hX hE 0 1 rfl rfl fl_X3_19 dX3_readNumber_15 ?_
  refine J_aload_n hX dX3_readNumber_18 rfl ?_
  refine J_getr hX hE 0 0 rfl rfl fl_X3_15 dX3_readNumber_19 ?_
  refine J_cVP hX hE 1 (C_X4_size hG (hE.sb [1, 2] sb_59) σ_14) mw_X4_size ml_X3_42 rfl rfl rfl ⟨Nat.le_of_ble_eq_true rfl, Nat.le_of_ble_eq_true rfl⟩ rfl rfl (Nat.le_of_ble_eq_true rfl) dX3_readNumber_22 (fun q23 => ?_)
  refine J_icmp_ge hX dX3_readNumber_25 (tgt := 95) rfl (fun _ => ?_) (fun _ => ?_)
  · refine hQ14 _ _ _ _ _ ?_
    exact J_keep [0, 1, 2, 3] rfl (hJ95 v1 v2 v3_14 σ_14)
  · refine J_aload_n hX dX3_readNumber_28 rfl ?_
    refine J_getr hX hE 0 0 rfl rfl fl_X3_15 dX3_readNumber_29 ?_
    refine J_aload_n hX dX3_readNumber_32 rfl ?_
    refine J_geti hX hE 0 1 rfl rfl fl_X3_19 dX3_readNumber_33 ?_
    refine J_cVP hX hE 1 (C_X4_at hG (hE.sb [1, 2] sb_59) (g_i σ_14 (nm 0) 1) σ_14) mw_X4_at ml_X3_48 rfl rfl rfl ⟨Nat.le_of_ble_eq_true rfl, Nat.le_of_ble_eq_true rfl⟩ rfl rfl (Nat.le_of_ble_eq_true rfl) dX3_readNumber_36 (fun q24 => ?_)
    refine J_bipush hX dX3_readNumber_39 kb_48 ?_
    refine J_bipush hX dX3_readNumber_41 kb_57 ?_
    refine J_cNP hX (C_X10_isWithin hG q24 48 57 σ_14) mw_X10_isWithin (host := "LampsListen") mn_X3_52 ⟨Nat.le_of_ble_eq_true rfl, Nat.le_of_ble_eq_true rfl⟩ rfl rfl (Nat.le_of_ble_eq_true rfl) dX3_readNumber_43 (fun q25 => ?_)
    refine J_if_eq hX dX3_readNumber_46 (tgt := 95) rfl (fun _ => ?_) (fun _ => ?_)
    · refine hQ14 _ _ _ _ _ ?_
      exact J_keep [0, 1, 2, 3] rfl (hJ95 v1 v2 v3_14 σ_14)
    · refine J_aload_n hX dX3_readNumber_49 rfl ?_
      refine J_geti hX hE 0 1 rfl rfl fl_X3_19 dX3_readNumber_50 ?_
      refine J_aload_n hX dX3_readNumber_53 rfl ?_
      refine J_geti hX hE 0 3 rfl rfl fl_X3_32 dX3_readNumber_54 ?_
      refine J_isub hX dX3_readNumber_57 ?_
      refine J_iconst hX dX3_readNumber_58 k_i3 ?_
      refine J_blk ?_
      intro KB59 hB59
      refine J_icmp_ge hX dX3_readNumber_59 (tgt := 82) rfl (fun _ => ?_) (fun _ => ?_)
      · refine hB59 _ _ _ _ _ ?_
        exact J_keep [0, 1, 2, 3] rfl (hJ82 v3_14 σ_14)
      · refine J_iload_n hX dX3_readNumber_62 rfl ?_
        refine J_bipush hX dX3_readNumber_63 kb_10 ?_
        refine J_imul hX dX3_readNumber_65 ?_
        refine J_aload_n hX dX3_readNumber_66 rfl ?_
        refine J_getr hX hE 0 0 rfl rfl fl_X3_15 dX3_readNumber_67 ?_
        refine J_aload_n hX dX3_readNumber_70 rfl ?_
        refine J_geti hX hE 0 1 rfl rfl fl_X3_19 dX3_readNumber_71 ?_
        refine J_cVP hX hE 1 (C_X4_at hG (hE.sb [1, 2] sb_59) (g_i σ_14 (nm 0) 1) σ_14) mw_X4_at ml_X3_48 rfl rfl rfl ⟨Nat.le_of_ble_eq_true rfl, Nat.le_of_ble_eq_true rfl⟩ rfl rfl (Nat.le_of_ble_eq_true rfl) dX3_readNumber_74 (fun q26 => ?_)
        refine J_iadd hX dX3_readNumber_77 ?_
        refine J_bipush hX dX3_readNumber_78 kb_48 ?_
        refine J_isub hX dX3_readNumber_80 ?_
        refine J_bdI (fun x27 => ?_)
        refine J_istore_n hX dX3_readNumber_81 (Nat.le_of_ble_eq_true rfl) (lv' := [(0, .ref (jad G (nm 0))), (1, .int v1), (2, .int v2), (3, .int x27)]) rfl ?_
        refine hB59 _ _ _ _ _ ?_
        exact J_keep [0, 1, 2, 3] rfl (hJ82 x27 σ_14)
theorem mw_X3_readNumber : jMV Y_X3_readNumber 2 := ⟨⟨tw_tb (List.mem_of_getElem? (i := 528) (by decide +kernel)) (by decide +kernel), tw_tb (List.mem_of_getElem? (i := 529) (by decide +kernel)) (by decide +kernel), tw_tb (List.mem_of_getElem? (i := 7) (by decide +kernel)) (by decide +kernel), tw_tb (List.mem_of_getElem? (i := 530) (by decide +kernel)) (by decide +kernel)⟩, ⟨rfl, rfl⟩, by decide +kernel, by decide +kernel, by decide +kernel⟩
