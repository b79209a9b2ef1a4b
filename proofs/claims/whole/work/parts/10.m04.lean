-- X10_sweep
noncomputable def f_X10_sweep (nm : Nat → Nat) (v1 : Int32) (σ : jS) : Option (Int32 × jS) :=
  (f_X10_isLamp nm v1 σ).bind (fun q1 =>
    if q1 = 0 then
      some ((-1001), σ)
    else
      gd (vp_in v1 10) (
        bd (g_i σ (nm 60) v1.toNatClampNeg) (fun x2 =>
          gd (vp_in v1 10) (bd (s_i σ (nm 60) v1.toNatClampNeg 0) (fun s3 =>
            some (x2, s3))))))
abbrev Y_X10_sweep : jY := (yX10_sweep, cX10_sweep, 3, some .int, { frames := 3, cells := 0, slots := 0, locals := 61 })
theorem C_X10_sweep {l : Launch} {G : jG} {nm : Nat → Nat} (hG : jWL G) (hE : jE G nm LS_X10) (v1 : Int32) (σ : jS) : jC r_I l G Y_X10_sweep [.ref (jad G (nm 0)), .int v1] σ (f_X10_sweep nm v1 σ) := by
  refine jw_met hG pn_X10 (Nat.le_of_ble_eq_true rfl) ⟨rfl, rfl⟩ ?_
  intro X hX hM
  have hX : jB X l G cX10_sweep RX10 3 { frames := 3, cells := 0, slots := 0, locals := 61 } := hX
  have hM : jM X (some .int) := hM
  show J X 0 [(0, .ref (jad G (nm 0))), (1, .int v1)] [] σ (f_X10_sweep nm v1 σ) (jk r_I X)
  unfold f_X10_sweep
  refine J_aload_n hX dX10_sweep_0 rfl ?_
  refine J_iload_n hX dX10_sweep_1 rfl ?_
  refine J_cVP hX hE 0 (C_X10_isLamp hG hE v1 σ) mw_X10_isLamp ml_X10_167 rfl rfl rfl ⟨Nat.le_of_ble_eq_true rfl, Nat.le_of_ble_eq_true rfl⟩ rfl rfl (Nat.le_of_ble_eq_true rfl) dX10_sweep_2 (fun q4 => ?_)
  refine J_if_ne hX dX10_sweep_5 (tgt := 12) rfl (fun _ => ?_) (fun _ => ?_)
  · refine J_aload_n hX dX10_sweep_12 rfl ?_
    refine J_getr hX hE 0 5 rfl rfl fl_X10_49 dX10_sweep_13 ?_
    refine J_getr hX hE 57 3 rfl rfl fl_X10_194 dX10_sweep_16 ?_
    refine J_iload_n hX dX10_sweep_19 rfl ?_
    refine J_iald hX hE 60 rfl dX10_sweep_20 (fun _ => ?_)
    refine J_bdI (fun x5 => ?_)
    refine J_istore_n hX dX10_sweep_21 (Nat.le_of_ble_eq_true rfl) (lv' := [(0, .ref (jad G (nm 0))), (1, .int v1), (2, .int x5)]) rfl ?_
    refine J_aload_n hX dX10_sweep_22 rfl ?_
    refine J_getr hX hE 0 5 rfl rfl fl_X10_49 dX10_sweep_23 ?_
    refine J_getr hX hE 57 3 rfl rfl fl_X10_194 dX10_sweep_26 ?_
    refine J_iload_n hX dX10_sweep_29 rfl ?_
    refine J_iconst hX dX10_sweep_30 k_i0 ?_
    refine J_iast hX hE 60 rfl dX10_sweep_31 (fun _ => ?_)
    refine J_bdS (fun s6 => ?_)
    refine J_iload_n hX dX10_sweep_32 rfl ?_
    exact J_iret hX hM dX10_sweep_33
  · refine J_sipush hX dX10_sweep_8 ks_m1001 ?_
    exact J_iret hX hM dX10_sweep_11
theorem mw_X10_sweep : jMV Y_X10_sweep 1 := ⟨⟨tw_tb (List.mem_of_getElem? (i := 734) (by decide +kernel)) (by decide +kernel), tw_tb (List.mem_of_getElem? (i := 735) (by decide +kernel)) (by decide +kernel), tw_tb (List.mem_of_getElem? (i := 1) (by decide +kernel)) (by decide +kernel), tw_tb (List.mem_of_getElem? (i := 736) (by decide +kernel)) (by decide +kernel)⟩, ⟨rfl, rfl⟩, by decide +kernel, by decide +kernel, by decide +kernel⟩
-- X10_told
noncomputable def f_X10_told (nm : Nat → Nat) (v1 : Int32) (σ : jS) : Option Int32 :=
  if v1 = 0 then
    (f_X6_lamps (jn nm [31, 32, 33, 34, 35, 36, 37, 38, 39, 40, 41, 42, 43, 44, 45, 46, 47]) σ).bind (fun q7 =>
      some q7)
  else
    if v1 = 1 then
      (f_X6_singers (jn nm [31, 32, 33, 34, 35, 36, 37, 38, 39, 40, 41, 42, 43, 44, 45, 46, 47]) σ).bind (fun q6 =>
        some q6)
    else
      if v1 = 2 then
        (f_X7_count (jn nm [48, 49, 50, 51, 52, 53, 54]) σ).bind (fun q5 =>
          some q5)
      else
        if v1 = 3 then
          (f_X4_size (jn nm [55, 56]) 30 σ).bind (fun q4 =>
            some q4)
        else
          if v1 = 4 then
            (f_X4_size (jn nm [77, 78]) 8 σ).bind (fun q3 =>
              some q3)
          else
            if v1 = 5 then
              (f_X4_size (jn nm [79, 80]) 40 σ).bind (fun q2 =>
                some q2)
            else
              if v1 = 6 then
                (f_X4_size (jn nm [1, 2]) 400 σ).bind (fun q1 =>
                  some q1)
              else
                if v1 = 7 then
                  some (g_i σ (nm 31) 8)
                else
                  if v1 = 8 then
                    some (g_i σ (nm 31) 9)
                  else
                    if v1 = 9 then
                      some (g_i σ (nm 31) 10)
                    else
                      if v1 = 10 then
                        some (g_i σ (nm 57) 5)
                      else
                        if v1 = 11 then
                          some (g_i σ (nm 57) 6)
                        else
                          if v1 = 12 then
                            some (g_i σ (nm 57) 7)
                          else
                            some (-1002)
abbrev Y_X10_told : jY := (yX10_told, cX10_told, 2, some .int, { frames := 2, cells := 0, slots := 0, locals := 40 })
theorem C_X10_told {l : Launch} {G : jG} {nm : Nat → Nat} (hG : jWL G) (hE : jE G nm LS_X10) (v1 : Int32) (σ : jS) : jC (r_P σ) l G Y_X10_told [.ref (jad G (nm 0)), .int v1] σ (f_X10_told nm v1 σ) := by
  refine jw_met hG pn_X10 (Nat.le_of_ble_eq_true rfl) ⟨rfl, rfl⟩ ?_
  intro X hX hM
  have hX : jB X l G cX10_told RX10 2 { frames := 2, cells := 0, slots := 0, locals := 40 } := hX
  have hM : jM X (some .int) := hM
  show J X 0 [(0, .ref (jad G (nm 0))), (1, .int v1)] [] σ (f_X10_told nm v1 σ) (jk (r_P σ) X)
  unfold f_X10_told
  refine J_iload_n hX dX10_told_0 rfl ?_
  refine J_case (fun _ => ?_) (fun h1_0 => ?_)
  · refine J_tin hX dX10_told_1 (tgt := 68) (by decide) (by decide) (off := 67) rfl rfl ?_
    refine J_aload_n hX dX10_told_68 rfl ?_
    refine J_getr hX hE 0 2 rfl rfl fl_X10_30 dX10_told_69 ?_
    refine J_cVP hX hE 31 (C_X6_lamps hG (hE.sb [31, 32, 33, 34, 35, 36, 37, 38, 39, 40, 41, 42, 43, 44, 45, 46, 47] sb_6) σ) mw_X6_lamps ml_X10_139 rfl rfl rfl ⟨Nat.le_of_ble_eq_true rfl, Nat.le_of_ble_eq_true rfl⟩ rfl rfl (Nat.le_of_ble_eq_true rfl) dX10_told_72 (fun q14 => ?_)
    exact J_iretP hX hM dX10_told_75
  · refine J_case (fun _ => ?_) (fun h1_1 => ?_)
    · refine J_tin hX dX10_told_1 (tgt := 76) (by decide) (by decide) (off := 75) rfl rfl ?_
      refine J_aload_n hX dX10_told_76 rfl ?_
      refine J_getr hX hE 0 2 rfl rfl fl_X10_30 dX10_told_77 ?_
      refine J_cVP hX hE 31 (C_X6_singers hG (hE.sb [31, 32, 33, 34, 35, 36, 37, 38, 39, 40, 41, 42, 43, 44, 45, 46, 47] sb_6) σ) mw_X6_singers ml_X10_142 rfl rfl rfl ⟨Nat.le_of_ble_eq_true rfl, Nat.le_of_ble_eq_true rfl⟩ rfl rfl (Nat.le_of_ble_eq_true rfl) dX10_told_80 (fun q13 => ?_)
      exact J_iretP hX hM dX10_told_83
    · refine J_case (fun _ => ?_) (fun h1_2 => ?_)
      · refine J_tin hX dX10_told_1 (tgt := 84) (by decide) (by decide) (off := 83) rfl rfl ?_
        refine J_aload_n hX dX10_told_84 rfl ?_
        refine J_getr hX hE 0 3 rfl rfl fl_X10_37 dX10_told_85 ?_
        refine J_cVP hX hE 48 (C_X7_count hG (hE.sb [48, 49, 50, 51, 52, 53, 54] sb_117) σ) mw_X7_count ml_X10_145 rfl rfl rfl ⟨Nat.le_of_ble_eq_true rfl, Nat.le_of_ble_eq_true rfl⟩ rfl rfl (Nat.le_of_ble_eq_true rfl) dX10_told_88 (fun q12 => ?_)
        exact J_iretP hX hM dX10_told_91
      · refine J_case (fun _ => ?_) (fun h1_3 => ?_)
        · refine J_tin hX dX10_told_1 (tgt := 92) (by decide) (by decide) (off := 91) rfl rfl ?_
          refine J_aload_n hX dX10_told_92 rfl ?_
          refine J_getr hX hE 0 4 rfl rfl fl_X10_41 dX10_told_93 ?_
          refine J_cVP hX hE 55 (C_X4_size hG (hE.sb [55, 56] sb_29) σ) mw_X4_size ml_X10_106 rfl rfl rfl ⟨Nat.le_of_ble_eq_true rfl, Nat.le_of_ble_eq_true rfl⟩ rfl rfl (Nat.le_of_ble_eq_true rfl) dX10_told_96 (fun q11 => ?_)
          exact J_iretP hX hM dX10_told_99
        · refine J_case (fun _ => ?_) (fun h1_4 => ?_)
          · refine J_tin hX dX10_told_1 (tgt := 100) (by decide) (by decide) (off := 99) rfl rfl ?_
            refine J_aload_n hX dX10_told_100 rfl ?_
            refine J_getr hX hE 0 9 rfl rfl fl_X10_62 dX10_told_101 ?_
            refine J_cVP hX hE 77 (C_X4_size hG (hE.sb [77, 78] sb_19) σ) mw_X4_size ml_X10_106 rfl rfl rfl ⟨Nat.le_of_ble_eq_true rfl, Nat.le_of_ble_eq_true rfl⟩ rfl rfl (Nat.le_of_ble_eq_true rfl) dX10_told_104 (fun q10 => ?_)
            exact J_iretP hX hM dX10_told_107
          · refine J_case (fun _ => ?_) (fun h1_5 => ?_)
            · refine J_tin hX dX10_told_1 (tgt := 108) (by decide) (by decide) (off := 107) rfl rfl ?_
              refine J_aload_n hX dX10_told_108 rfl ?_
              refine J_getr hX hE 0 10 rfl rfl fl_X10_65 dX10_told_109 ?_
              refine J_cVP hX hE 79 (C_X4_size hG (hE.sb [79, 80] sb_22) σ) mw_X4_size ml_X10_106 rfl rfl rfl ⟨Nat.le_of_ble_eq_true rfl, Nat.le_of_ble_eq_true rfl⟩ rfl rfl (Nat.le_of_ble_eq_true rfl) dX10_told_112 (fun q9 => ?_)
              exact J_iretP hX hM dX10_told_115
            · refine J_case (fun _ => ?_) (fun h1_6 => ?_)
              · refine J_tin hX dX10_told_1 (tgt := 116) (by decide) (by decide) (off := 115) rfl rfl ?_
                refine J_aload_n hX dX10_told_116 rfl ?_
                refine J_getr hX hE 0 0 rfl rfl fl_X10_14 dX10_told_117 ?_
                refine J_cVP hX hE 1 (C_X4_size hG (hE.sb [1, 2] sb_32) σ) mw_X4_size ml_X10_106 rfl rfl rfl ⟨Nat.le_of_ble_eq_true rfl, Nat.le_of_ble_eq_true rfl⟩ rfl rfl (Nat.le_of_ble_eq_true rfl) dX10_told_120 (fun q8 => ?_)
                exact J_iretP hX hM dX10_told_123
              · refine J_case (fun _ => ?_) (fun h1_7 => ?_)
                · refine J_tin hX dX10_told_1 (tgt := 124) (by decide) (by decide) (off := 123) rfl rfl ?_
                  refine J_aload_n hX dX10_told_124 rfl ?_
                  refine J_getr hX hE 0 2 rfl rfl fl_X10_30 dX10_told_125 ?_
                  refine J_geti hX hE 31 8 rfl rfl fl_X10_148 dX10_told_128 ?_
                  exact J_iretP hX hM dX10_told_131
                · refine J_case (fun _ => ?_) (fun h1_8 => ?_)
                  · refine J_tin hX dX10_told_1 (tgt := 132) (by decide) (by decide) (off := 131) rfl rfl ?_
                    refine J_aload_n hX dX10_told_132 rfl ?_
                    refine J_getr hX hE 0 2 rfl rfl fl_X10_30 dX10_told_133 ?_
                    refine J_geti hX hE 31 9 rfl rfl fl_X10_152 dX10_told_136 ?_
                    exact J_iretP hX hM dX10_told_139
                  · refine J_case (fun _ => ?_) (fun h1_9 => ?_)
                    · refine J_tin hX dX10_told_1 (tgt := 140) (by decide) (by decide) (off := 139) rfl rfl ?_
                      refine J_aload_n hX dX10_told_140 rfl ?_
                      refine J_getr hX hE 0 2 rfl rfl fl_X10_30 dX10_told_141 ?_
                      refine J_geti hX hE 31 10 rfl rfl fl_X10_155 dX10_told_144 ?_
                      exact J_iretP hX hM dX10_told_147
                    · refine J_case (fun _ => ?_) (fun h1_10 => ?_)
                      · refine J_tin hX dX10_told_1 (tgt := 148) (by decide) (by decide) (off := 147) rfl rfl ?_
                        refine J_aload_n hX dX10_told_148 rfl ?_
                        refine J_getr hX hE 0 5 rfl rfl fl_X10_49 dX10_told_149 ?_
                        refine J_geti hX hE 57 5 rfl rfl fl_X10_158 dX10_told_152 ?_
                        exact J_iretP hX hM dX10_told_155
                      · refine J_case (fun _ => ?_) (fun h1_11 => ?_)
                        · refine J_tin hX dX10_told_1 (tgt := 156) (by decide) (by decide) (off := 155) rfl rfl ?_
                          refine J_aload_n hX dX10_told_156 rfl ?_
                          refine J_getr hX hE 0 5 rfl rfl fl_X10_49 dX10_told_157 ?_
                          refine J_geti hX hE 57 6 rfl rfl fl_X10_161 dX10_told_160 ?_
                          exact J_iretP hX hM dX10_told_163
                        · refine J_case (fun _ => ?_) (fun h1_12 => ?_)
                          · refine J_tin hX dX10_told_1 (tgt := 164) (by decide) (by decide) (off := 163) rfl rfl ?_
                            refine J_aload_n hX dX10_told_164 rfl ?_
                            refine J_getr hX hE 0 5 rfl rfl fl_X10_49 dX10_told_165 ?_
                            refine J_geti hX hE 57 7 rfl rfl fl_X10_164 dX10_told_168 ?_
                            exact J_iretP hX hM dX10_told_171
                          · refine J_tout hX dX10_told_1 (tgt := 172) (jt_out13 h1_0 h1_1 h1_2 h1_3 h1_4 h1_5 h1_6 h1_7 h1_8 h1_9 h1_10 h1_11 h1_12) rfl ?_
                            refine J_sipush hX dX10_told_172 ks_m1002 ?_
                            exact J_iretP hX hM dX10_told_175
theorem mw_X10_told : jMV Y_X10_told 1 := ⟨⟨tw_tb (List.mem_of_getElem? (i := 635) (by decide +kernel)) (by decide +kernel), tw_tb (List.mem_of_getElem? (i := 636) (by decide +kernel)) (by decide +kernel), tw_tb (List.mem_of_getElem? (i := 1) (by decide +kernel)) (by decide +kernel), tw_tb (List.mem_of_getElem? (i := 637) (by decide +kernel)) (by decide +kernel)⟩, ⟨rfl, rfl⟩, by decide +kernel, by decide +kernel, by decide +kernel⟩
-- X10_tuned
noncomputable def f_X10_tuned (nm : Nat → Nat) (v1 : Int32) (v2 : Int32) (v3 : Int32) (v4 : Int32) (σ : jS) : Option (Int32 × jS) :=
  (f_X10_isWithin v1 0 63).bind (fun q1 =>
    if q1 = 0 then
      some ((-1002), σ)
    else
      (f_X10_isWithin v2 1 9).bind (fun q2 =>
        if q2 = 0 then
          some ((-1002), σ)
        else
          (f_X10_isWithin v3 1 10).bind (fun q3 =>
            if q3 = 0 then
              some ((-1002), σ)
            else
              (f_X6_lamps (jn nm [31, 32, 33, 34, 35, 36, 37, 38, 39, 40, 41, 42, 43, 44, 45, 46, 47]) σ).bind (fun q4 =>
                if q4 < v3 then
                  some ((-1003), σ)
                else
                  if (v1 + ((v3 - 1) * v2)) < 64 then
                    (f_X0_leastSum (jn nm [98, 31, 32, 33, 34, 35, 36, 37, 38, 39, 40, 41, 42, 43, 44, 45, 46, 47, 57, 58, 59, 60, 61, 99, 100]) v1 v2 v3 σ).bind (fun x => match x with
                    | (q5, s6) =>
                      if v4 = (-1) then
                        some (q5, s6)
                      else
                        if q5 = (-1) then
                          some (q5, s6)
                        else
                          if v4 < 0 then
                            some ((-1), s6)
                          else
                            if v3 ≤ v4 then
                              some ((-1), s6)
                            else
                              (f_X0_lampOfTuned (jn nm [98, 31, 32, 33, 34, 35, 36, 37, 38, 39, 40, 41, 42, 43, 44, 45, 46, 47, 57, 58, 59, 60, 61, 99, 100]) v1 v2 v4 s6).bind (fun q7 =>
                                some (q7, s6)))
                  else
                    some ((-1003), σ)))))
abbrev Y_X10_tuned : jY := (yX10_tuned, cX10_tuned, 6, some .int, { frames := 4, cells := 0, slots := 0, locals := 95 })
theorem C_X10_tuned {l : Launch} {G : jG} {nm : Nat → Nat} (hG : jWL G) (hE : jE G nm LS_X10) (v1 : Int32) (v2 : Int32) (v3 : Int32) (v4 : Int32) (σ : jS) : jC r_I l G Y_X10_tuned [.ref (jad G (nm 0)), .int v1, .int v2, .int v3, .int v4] σ (f_X10_tuned nm v1 v2 v3 v4 σ) := by
  refine jw_met hG pn_X10 (Nat.le_of_ble_eq_true rfl) ⟨rfl, rfl⟩ ?_
  intro X hX hM
  have hX : jB X l G cX10_tuned RX10 6 { frames := 4, cells := 0, slots := 0, locals := 95 } := hX
  have hM : jM X (some .int) := hM
  show J X 0 [(0, .ref (jad G (nm 0))), (1, .int v1), (2, .int v2), (3, .int v3), (4, .int v4)] [] σ (f_X10_tuned nm v1 v2 v3 v4 σ) (jk r_I X)
  unfold f_X10_tuned
  refine J_iload_n hX dX10_tuned_0 rfl ?_
  refine J_iconst hX dX10_tuned_1 k_i0 ?_
  refine J_bipush hX dX10_tuned_2 kb_63 ?_
  refine J_cSP hX (C_X10_isWithin hG v1 0 63 σ) mw_X10_isWithin ml_X10_211 ⟨Nat.le_of_ble_eq_true rfl, Nat.le_of_ble_eq_true rfl⟩ rfl rfl (Nat.le_of_ble_eq_true rfl) dX10_tuned_4 (fun q8 => ?_)
  refine J_if_eq hX dX10_tuned_7 (tgt := 30) rfl (fun _ => ?_) (fun _ => ?_)
  · refine J_sipush hX dX10_tuned_30 ks_m1002 ?_
    exact J_iret hX hM dX10_tuned_33
  · refine J_iload_n hX dX10_tuned_10 rfl ?_
    refine J_iconst hX dX10_tuned_11 k_i1 ?_
    refine J_bipush hX dX10_tuned_12 kb_9 ?_
    refine J_cSP hX (C_X10_isWithin hG v2 1 9 σ) mw_X10_isWithin ml_X10_211 ⟨Nat.le_of_ble_eq_true rfl, Nat.le_of_ble_eq_true rfl⟩ rfl rfl (Nat.le_of_ble_eq_true rfl) dX10_tuned_14 (fun q9 => ?_)
    refine J_if_eq hX dX10_tuned_17 (tgt := 30) rfl (fun _ => ?_) (fun _ => ?_)
    · refine J_sipush hX dX10_tuned_30 ks_m1002 ?_
      exact J_iret hX hM dX10_tuned_33
    · refine J_iload_n hX dX10_tuned_20 rfl ?_
      refine J_iconst hX dX10_tuned_21 k_i1 ?_
      refine J_bipush hX dX10_tuned_22 kb_10 ?_
      refine J_cSP hX (C_X10_isWithin hG v3 1 10 σ) mw_X10_isWithin ml_X10_211 ⟨Nat.le_of_ble_eq_true rfl, Nat.le_of_ble_eq_true rfl⟩ rfl rfl (Nat.le_of_ble_eq_true rfl) dX10_tuned_24 (fun q10 => ?_)
      refine J_if_ne hX dX10_tuned_27 (tgt := 34) rfl (fun _ => ?_) (fun _ => ?_)
      · refine J_iload_n hX dX10_tuned_34 rfl ?_
        refine J_aload_n hX dX10_tuned_35 rfl ?_
        refine J_getr hX hE 0 2 rfl rfl fl_X10_30 dX10_tuned_36 ?_
        refine J_cVP hX hE 31 (C_X6_lamps hG (hE.sb [31, 32, 33, 34, 35, 36, 37, 38, 39, 40, 41, 42, 43, 44, 45, 46, 47] sb_6) σ) mw_X6_lamps ml_X10_139 rfl rfl rfl ⟨Nat.le_of_ble_eq_true rfl, Nat.le_of_ble_eq_true rfl⟩ rfl rfl (Nat.le_of_ble_eq_true rfl) dX10_tuned_39 (fun q11 => ?_)
        refine J_icmp_gt hX dX10_tuned_42 (tgt := 57) rfl (fun _ => ?_) (fun _ => ?_)
        · refine J_sipush hX dX10_tuned_57 ks_m1003 ?_
          exact J_iret hX hM dX10_tuned_60
        · refine J_iload_n hX dX10_tuned_45 rfl ?_
          refine J_iload_n hX dX10_tuned_46 rfl ?_
          refine J_iconst hX dX10_tuned_47 k_i1 ?_
          refine J_isub hX dX10_tuned_48 ?_
          refine J_iload_n hX dX10_tuned_49 rfl ?_
          refine J_imul hX dX10_tuned_50 ?_
          refine J_iadd hX dX10_tuned_51 ?_
          refine J_bipush hX dX10_tuned_52 kb_64 ?_
          refine J_icmp_lt hX dX10_tuned_54 (tgt := 61) rfl (fun _ => ?_) (fun _ => ?_)
          · refine J_aload_n hX dX10_tuned_61 rfl ?_
            refine J_getr hX hE 0 14 rfl rfl fl_X10_96 dX10_tuned_62 ?_
            refine J_iload_n hX dX10_tuned_65 rfl ?_
            refine J_iload_n hX dX10_tuned_66 rfl ?_
            refine J_iload_n hX dX10_tuned_67 rfl ?_
            refine J_cVI hX hE 98 (C_X0_leastSum hG (hE.sb [98, 31, 32, 33, 34, 35, 36, 37, 38, 39, 40, 41, 42, 43, 44, 45, 46, 47, 57, 58, 59, 60, 61, 99, 100] sb_7) v1 v2 v3 σ) mw_X0_leastSum ml_X10_295 rfl rfl rfl ⟨Nat.le_of_ble_eq_true rfl, Nat.le_of_ble_eq_true rfl⟩ rfl rfl (Nat.le_of_ble_eq_true rfl) dX10_tuned_68 (fun q12 s13 => ?_)
            refine J_istore hX dX10_tuned_71 (Nat.le_of_ble_eq_true rfl) (lv' := [(0, .ref (jad G (nm 0))), (1, .int v1), (2, .int v2), (3, .int v3), (4, .int v4), (5, .int q12)]) rfl ?_
            refine J_iload hX dX10_tuned_73 rfl ?_
            refine J_iconst hX dX10_tuned_75 k_im1 ?_
            refine J_icmp_eq hX dX10_tuned_76 (tgt := 85) rfl (fun _ => ?_) (fun _ => ?_)
            · refine J_iload hX dX10_tuned_85 rfl ?_
              exact J_iret hX hM dX10_tuned_87
            · refine J_iload hX dX10_tuned_79 rfl ?_
              refine J_iconst hX dX10_tuned_81 k_im1 ?_
              refine J_icmp_ne hX dX10_tuned_82 (tgt := 88) rfl (fun _ => ?_) (fun _ => ?_)
              · refine J_iload hX dX10_tuned_88 rfl ?_
                refine J_if_lt hX dX10_tuned_90 (tgt := 113) rfl (fun _ => ?_) (fun _ => ?_)
                · refine J_iconst hX dX10_tuned_113 k_im1 ?_
                  exact J_iret hX hM dX10_tuned_114
                · refine J_iload hX dX10_tuned_93 rfl ?_
                  refine J_iload_n hX dX10_tuned_95 rfl ?_
                  refine J_icmp_ge hX dX10_tuned_96 (tgt := 113) rfl (fun _ => ?_) (fun _ => ?_)
                  · refine J_iconst hX dX10_tuned_113 k_im1 ?_
                    exact J_iret hX hM dX10_tuned_114
                  · refine J_aload_n hX dX10_tuned_99 rfl ?_
                    refine J_getr hX hE 0 14 rfl rfl fl_X10_96 dX10_tuned_100 ?_
                    refine J_iload_n hX dX10_tuned_103 rfl ?_
                    refine J_iload_n hX dX10_tuned_104 rfl ?_
                    refine J_iload hX dX10_tuned_105 rfl ?_
                    refine J_cVP hX hE 98 (C_X0_lampOfTuned hG (hE.sb [98, 31, 32, 33, 34, 35, 36, 37, 38, 39, 40, 41, 42, 43, 44, 45, 46, 47, 57, 58, 59, 60, 61, 99, 100] sb_7) v1 v2 v4 s13) mw_X0_lampOfTuned ml_X10_298 rfl rfl rfl ⟨Nat.le_of_ble_eq_true rfl, Nat.le_of_ble_eq_true rfl⟩ rfl rfl (Nat.le_of_ble_eq_true rfl) dX10_tuned_107 (fun q14 => ?_)
                    refine J_goto hX dX10_tuned_110 (tgt := 114) rfl ?_
                    exact J_iret hX hM dX10_tuned_114
              · refine J_iload hX dX10_tuned_85 rfl ?_
                exact J_iret hX hM dX10_tuned_87
          · refine J_sipush hX dX10_tuned_57 ks_m1003 ?_
            exact J_iret hX hM dX10_tuned_60
      · refine J_sipush hX dX10_tuned_30 ks_m1002 ?_
        exact J_iret hX hM dX10_tuned_33
theorem mw_X10_tuned : jMV Y_X10_tuned 4 := ⟨⟨tw_tb (List.mem_of_getElem? (i := 963) (by decide +kernel)) (by decide +kernel), tw_tb (List.mem_of_getElem? (i := 964) (by decide +kernel)) (by decide +kernel), tw_tb (List.mem_of_getElem? (i := 1) (by decide +kernel)) (by decide +kernel), tw_tb (List.mem_of_getElem? (i := 965) (by decide +kernel)) (by decide +kernel)⟩, ⟨rfl, rfl⟩, by decide +kernel, by decide +kernel, by decide +kernel⟩
-- X10_wakes
noncomputable def f_X10_wakes (nm : Nat → Nat) (v1 : Int32) (v2 : Int32) (v3 : Int32) (σ : jS) : Option Int32 :=
  (f_X10_isSpot v1 v2).bind (fun q1 =>
    if q1 = 0 then
      some (-1002)
    else
      (f_X10_isLoud v3).bind (fun q2 =>
        if q2 = 0 then
          some (-1002)
        else
          (f_X2_woken (jn nm [57, 31, 32, 33, 34, 35, 36, 37, 38, 39, 40, 41, 42, 43, 44, 45, 46, 47, 58, 59, 60, 61]) v1 v2 v3 σ).bind (fun q3 =>
            some q3)))
abbrev Y_X10_wakes : jY := (yX10_wakes, cX10_wakes, 4, some .int, { frames := 3, cells := 0, slots := 0, locals := 68 })
theorem C_X10_wakes {l : Launch} {G : jG} {nm : Nat → Nat} (hG : jWL G) (hE : jE G nm LS_X10) (v1 : Int32) (v2 : Int32) (v3 : Int32) (σ : jS) : jC (r_P σ) l G Y_X10_wakes [.ref (jad G (nm 0)), .int v1, .int v2, .int v3] σ (f_X10_wakes nm v1 v2 v3 σ) := by
  refine jw_met hG pn_X10 (Nat.le_of_ble_eq_true rfl) ⟨rfl, rfl⟩ ?_
  intro X hX hM
  have hX : jB X l G cX10_wakes RX10 4 { frames := 3, cells := 0, slots := 0, locals := 68 } := hX
  have hM : jM X (some .int) := hM
  show J X 0 [(0, .ref (jad G (nm 0))), (1, .int v1), (2, .int v2), (3, .int v3)] [] σ (f_X10_wakes nm v1 v2 v3 σ) (jk (r_P σ) X)
  unfold f_X10_wakes
  refine J_iload_n hX dX10_wakes_0 rfl ?_
  refine J_iload_n hX dX10_wakes_1 rfl ?_
  refine J_cSP hX (C_X10_isSpot hG v1 v2 σ) mw_X10_isSpot ml_X10_215 ⟨Nat.le_of_ble_eq_true rfl, Nat.le_of_ble_eq_true rfl⟩ rfl rfl (Nat.le_of_ble_eq_true rfl) dX10_wakes_2 (fun q4 => ?_)
  refine J_if_eq hX dX10_wakes_5 (tgt := 15) rfl (fun _ => ?_) (fun _ => ?_)
  · refine J_sipush hX dX10_wakes_15 ks_m1002 ?_
    exact J_iretP hX hM dX10_wakes_18
  · refine J_iload_n hX dX10_wakes_8 rfl ?_
    refine J_cSP hX (C_X10_isLoud hG v3 σ) mw_X10_isLoud ml_X10_219 ⟨Nat.le_of_ble_eq_true rfl, Nat.le_of_ble_eq_true rfl⟩ rfl rfl (Nat.le_of_ble_eq_true rfl) dX10_wakes_9 (fun q5 => ?_)
    refine J_if_ne hX dX10_wakes_12 (tgt := 19) rfl (fun _ => ?_) (fun _ => ?_)
    · refine J_aload_n hX dX10_wakes_19 rfl ?_
      refine J_getr hX hE 0 5 rfl rfl fl_X10_49 dX10_wakes_20 ?_
      refine J_iload_n hX dX10_wakes_23 rfl ?_
      refine J_iload_n hX dX10_wakes_24 rfl ?_
      refine J_iload_n hX dX10_wakes_25 rfl ?_
      refine J_cVP hX hE 57 (C_X2_woken hG (hE.sb [57, 31, 32, 33, 34, 35, 36, 37, 38, 39, 40, 41, 42, 43, 44, 45, 46, 47, 58, 59, 60, 61] sb_23) v1 v2 v3 σ) mw_X2_woken ml_X10_222 rfl rfl rfl ⟨Nat.le_of_ble_eq_true rfl, Nat.le_of_ble_eq_true rfl⟩ rfl rfl (Nat.le_of_ble_eq_true rfl) dX10_wakes_26 (fun q6 => ?_)
      exact J_iretP hX hM dX10_wakes_29
    · refine J_sipush hX dX10_wakes_15 ks_m1002 ?_
      exact J_iretP hX hM dX10_wakes_18
theorem mw_X10_wakes : jMV Y_X10_wakes 3 := ⟨⟨tw_tb (List.mem_of_getElem? (i := 668) (by decide +kernel)) (by decide +kernel), tw_tb (List.mem_of_getElem? (i := 669) (by decide +kernel)) (by decide +kernel), tw_tb (List.mem_of_getElem? (i := 1) (by decide +kernel)) (by decide +kernel), tw_tb (List.mem_of_getElem? (i := 670) (by decide +kernel)) (by decide +kernel)⟩, ⟨rfl, rfl⟩, by decide +kernel, by decide +kernel, by decide +kernel⟩
-- X10_weather
noncomputable def f_X10_weather_J40 (nm : Nat → Nat) (v1 : Int32) (v2 : Int32) (σ : jS) : Option (Int32 × jS) :=
  if v1 = 1 then
    (f_X10_isWithin v2 0 50).bind (fun q1 =>
      if q1 = 0 then
        some ((-1002), σ)
      else
        bd (g_i σ (nm 57) 7) (fun x2 =>
          bd (s_i σ (nm 57) 7 v2) (fun s3 =>
            some (x2, s3))))
  else
    some ((-1002), σ)
noncomputable def f_X10_weather (nm : Nat → Nat) (v1 : Int32) (v2 : Int32) (σ : jS) : Option (Int32 × jS) :=
  if v1 = 0 then
    (f_X10_isWithin v2 0 9).bind (fun q4 =>
      if q4 = 0 then
        f_X10_weather_J40 nm v1 v2 σ
      else
        bd (g_i σ (nm 57) 6) (fun x5 =>
          bd (s_i σ (nm 57) 6 v2) (fun s6 =>
            bd (s_i s6 (nm 91) 7 0) (fun s7 =>
              some (x5, s7)))))
  else
    f_X10_weather_J40 nm v1 v2 σ
abbrev Y_X10_weather : jY := (yX10_weather, cX10_weather, 4, some .int, { frames := 1, cells := 0, slots := 0, locals := 22 })
theorem C_X10_weather {l : Launch} {G : jG} {nm : Nat → Nat} (hG : jWL G) (hE : jE G nm LS_X10) (v1 : Int32) (v2 : Int32) (σ : jS) : jC r_I l G Y_X10_weather [.ref (jad G (nm 0)), .int v1, .int v2] σ (f_X10_weather nm v1 v2 σ) := by
  refine jw_met hG pn_X10 (Nat.le_of_ble_eq_true rfl) ⟨rfl, rfl⟩ ?_
  intro X hX hM
  have hX : jB X l G cX10_weather RX10 4 { frames := 1, cells := 0, slots := 0, locals := 22 } := hX
  have hM : jM X (some .int) := hM
  show J X 0 [(0, .ref (jad G (nm 0))), (1, .int v1), (2, .int v2)] [] σ (f_X10_weather nm v1 v2 σ) (jk r_I X)
  have hJ40 : ∀ (v1 : Int32) (v2 : Int32) (σ : jS), J X 40 [(0, .ref (jad G (nm 0))), (1, .int v1), (2, .int v2)] [] σ (f_X10_weather_J40 nm v1 v2 σ) (jk r_I X) := by
    intro v1 v2 σ
    unfold f_X10_weather_J40
    refine J_iload_n hX dX10_weather_40 rfl ?_
    refine J_iconst hX dX10_weather_41 k_i1 ?_
    refine J_icmp_ne hX dX10_weather_42 (tgt := 73) rfl (fun _ => ?_) (fun _ => ?_)
    · refine J_sipush hX dX10_weather_73 ks_m1002 ?_
      exact J_iret hX hM dX10_weather_76
    · refine J_iload_n hX dX10_weather_45 rfl ?_
      refine J_iconst hX dX10_weather_46 k_i0 ?_
      refine J_bipush hX dX10_weather_47 kb_50 ?_
      refine J_cSP hX (C_X10_isWithin hG v2 0 50 σ) mw_X10_isWithin ml_X10_211 ⟨Nat.le_of_ble_eq_true rfl, Nat.le_of_ble_eq_true rfl⟩ rfl rfl (Nat.le_of_ble_eq_true rfl) dX10_weather_49 (fun q8 => ?_)
      refine J_if_eq hX dX10_weather_52 (tgt := 73) rfl (fun _ => ?_) (fun _ => ?_)
      · refine J_sipush hX dX10_weather_73 ks_m1002 ?_
        exact J_iret hX hM dX10_weather_76
      · refine J_aload_n hX dX10_weather_55 rfl ?_
        refine J_getr hX hE 0 5 rfl rfl fl_X10_49 dX10_weather_56 ?_
        refine J_geti hX hE 57 7 rfl rfl fl_X10_164 dX10_weather_59 ?_
        refine J_bdI (fun x9 => ?_)
        refine J_istore_n hX dX10_weather_62 (Nat.le_of_ble_eq_true rfl) (lv' := [(0, .ref (jad G (nm 0))), (1, .int v1), (2, .int v2), (3, .int x9)]) rfl ?_
        refine J_aload_n hX dX10_weather_63 rfl ?_
        refine J_getr hX hE 0 5 rfl rfl fl_X10_49 dX10_weather_64 ?_
        refine J_iload_n hX dX10_weather_67 rfl ?_
        refine J_puti hX hE 57 7 rfl rfl fp_X10_164 dX10_weather_68 ?_
        refine J_bdS (fun s10 => ?_)
        refine J_iload_n hX dX10_weather_71 rfl ?_
        exact J_iret hX hM dX10_weather_72
  unfold f_X10_weather
  refine J_iload_n hX dX10_weather_0 rfl ?_
  refine J_if_ne hX dX10_weather_1 (tgt := 40) rfl (fun _ => ?_) (fun _ => ?_)
  · exact J_keep [0, 1, 2] rfl (hJ40 v1 v2 σ)
  · refine J_iload_n hX dX10_weather_4 rfl ?_
    refine J_iconst hX dX10_weather_5 k_i0 ?_
    refine J_bipush hX dX10_weather_6 kb_9 ?_
    refine J_cSP hX (C_X10_isWithin hG v2 0 9 σ) mw_X10_isWithin ml_X10_211 ⟨Nat.le_of_ble_eq_true rfl, Nat.le_of_ble_eq_true rfl⟩ rfl rfl (Nat.le_of_ble_eq_true rfl) dX10_weather_8 (fun q11 => ?_)
    refine J_if_eq hX dX10_weather_11 (tgt := 40) rfl (fun _ => ?_) (fun _ => ?_)
    · exact J_keep [0, 1, 2] rfl (hJ40 v1 v2 σ)
    · refine J_aload_n hX dX10_weather_14 rfl ?_
      refine J_getr hX hE 0 5 rfl rfl fl_X10_49 dX10_weather_15 ?_
      refine J_geti hX hE 57 6 rfl rfl fl_X10_161 dX10_weather_18 ?_
      refine J_bdI (fun x12 => ?_)
      refine J_istore_n hX dX10_weather_21 (Nat.le_of_ble_eq_true rfl) (lv' := [(0, .ref (jad G (nm 0))), (1, .int v1), (2, .int v2), (3, .int x12)]) rfl ?_
      refine J_aload_n hX dX10_weather_22 rfl ?_
      refine J_getr hX hE 0 5 rfl rfl fl_X10_49 dX10_weather_23 ?_
      refine J_iload_n hX dX10_weather_26 rfl ?_
      refine J_puti hX hE 57 6 rfl rfl fp_X10_161 dX10_weather_27 ?_
      refine J_bdS (fun s13 => ?_)
      refine J_aload_n hX dX10_weather_30 rfl ?_
      refine J_getr hX hE 0 13 rfl rfl fl_X10_87 dX10_weather_31 ?_
      refine J_iconst hX dX10_weather_34 k_i0 ?_
      refine J_putz hX hE 91 7 jn_0 jf_0 rfl rfl fp_X10_125 dX10_weather_35 ?_
      refine J_bdS (fun s14 => ?_)
      refine J_iload_n hX dX10_weather_38 rfl ?_
      exact J_iret hX hM dX10_weather_39
theorem mw_X10_weather : jMV Y_X10_weather 2 := ⟨⟨tw_tb (List.mem_of_getElem? (i := 663) (by decide +kernel)) (by decide +kernel), tw_tb (List.mem_of_getElem? (i := 664) (by decide +kernel)) (by decide +kernel), tw_tb (List.mem_of_getElem? (i := 1) (by decide +kernel)) (by decide +kernel), tw_tb (List.mem_of_getElem? (i := 665) (by decide +kernel)) (by decide +kernel)⟩, ⟨rfl, rfl⟩, by decide +kernel, by decide +kernel, by decide +kernel⟩
-- X1_hasJust
noncomputable def f_X1_hasJust_L2 (nm : Nat → Nat) (v1 : Int32) (v2 : Int32) (σ : jS) (v3 : Int32) : Option (Int32 ⊕ (Unit ⊕ Int32)) :=
  if 64 ≤ v3 then
    some (.inr (.inl ()))
  else
    (f_X1_at nm v1 v3 σ).bind (fun q1 =>
      if q1 = v2 then
        some (.inr (.inr 1))
      else
        some (.inl (v3 + 1)))
noncomputable def f_X1_hasJust (nm : Nat → Nat) (v1 : Int32) (v2 : Int32) (σ : jS) : Option Int32 :=
  (lp (f_X1_hasJust_L2 nm v1 v2 σ) fu 0).bind (fun x => match x with
  | .inl _ =>
    some 0
  | .inr a => some a)
abbrev Y_X1_hasJust : jY := (yX1_hasJust, cX1_hasJust, 4, some .boolean, { frames := 2, cells := 0, slots := 0, locals := 45 })
theorem C_X1_hasJust {l : Launch} {G : jG} {nm : Nat → Nat} (hG : jWL G) (hE : jE G nm LS_X1) (v1 : Int32) (v2 : Int32) (σ : jS) : jC (r_P σ) l G Y_X1_hasJust [.ref (jad G (nm 0)), .int v1, .int v2] σ (f_X1_hasJust nm v1 v2 σ) := by
  refine jw_met hG pn_X1 (Nat.le_of_ble_eq_true rfl) ⟨rfl, rfl⟩ ?_
  intro X hX hM
  have hX : jB X l G cX1_hasJust RX1 4 { frames := 2, cells := 0, slots := 0, locals := 45 } := hX
  have hM : jM X (some .boolean) := hM
  show J X 0 [(0, .ref (jad G (nm 0))), (1, .int v1), (2, .int v2)] [] σ (f_X1_hasJust nm v1 v2 σ) (jk (r_P σ) X)
  unfold f_X1_hasJust
  refine J_iconst hX dX1_hasJust_0 k_i0 ?_
  refine J_istore_n hX dX1_hasJust_1 (Nat.le_of_ble_eq_true rfl) (lv' := [(0, .ref (jad G (nm 0))), (1, .int v1), (2, .int v2), (3, .int 0)]) rfl ?_
  refine J_keep [0, 1, 2, 3] (lv' := [(0, .ref (jad G (nm 0))), (1, .int v1), (2, .int v2), (3, .int 0)]) rfl ?_
  refine J_lp (pc := 2) (s0 := 0) (fun (s : Int32) => [(0, .ref (jad G (nm 0))), (1, .int v1), (2, .int v2), (3, .int s)]) (fun (s : Int32) => σ) ?_
  intro KK2 hN2 hQ2 z2
  obtain ⟨v3_2, rfl⟩ : ∃ y, y = z2 := ⟨_, rfl⟩
  show J X 2 [(0, .ref (jad G (nm 0))), (1, .int v1), (2, .int v2), (3, .int v3_2)] [] σ (f_X1_hasJust_L2 nm v1 v2 σ v3_2) KK2
  unfold f_X1_hasJust_L2
  refine J_iload_n hX dX1_hasJust_2 rfl ?_
  refine J_bipush hX dX1_hasJust_3 kb_64 ?_
  refine J_icmp_ge hX dX1_hasJust_5 (tgt := 26) rfl (fun _ => ?_) (fun _ => ?_)
  · refine hQ2 _ _ _ _ _ ?_
    refine J_iconst hX dX1_hasJust_26 k_i0 ?_
    exact J_zretP hX hM jn_0 dX1_hasJust_27
  · refine J_aload_n hX dX1_hasJust_8 rfl ?_
    refine J_iload_n hX dX1_hasJust_9 rfl ?_
    refine J_iload_n hX dX1_hasJust_10 rfl ?_
    refine J_cVP hX hE 0 (C_X1_at hG hE v1 v3_2 σ) mw_X1_at ml_X1_66 rfl rfl rfl ⟨Nat.le_of_ble_eq_true rfl, Nat.le_of_ble_eq_true rfl⟩ rfl rfl (Nat.le_of_ble_eq_true rfl) dX1_hasJust_11 (fun q2 => ?_)
    refine J_iload_n hX dX1_hasJust_14 rfl ?_
    refine J_icmp_ne hX dX1_hasJust_15 (tgt := 20) rfl (fun _ => ?_) (fun _ => ?_)
    · refine J_iinc hX dX1_hasJust_20 rfl (congrArg (_ + ·) k_i1) (Nat.le_of_ble_eq_true rfl) (lv' := [(0, .ref (jad G (nm 0))), (1, .int v1), (2, .int v2), (3, .int (v3_2 + 1))]) rfl ?_
      refine J_goto hX dX1_hasJust_23 (tgt := 2) rfl ?_
      exact J_keep [0, 1, 2, 3] rfl (hN2 (v3_2 + 1))
    · refine J_iconst hX dX1_hasJust_18 k_i1 ?_
      refine hQ2 _ _ _ _ _ ?_
      exact J_zretP hX hM jn_1 dX1_hasJust_19
theorem mw_X1_hasJust : jMV Y_X1_hasJust 2 := ⟨⟨tw_tb (List.mem_of_getElem? (i := 924) (by decide +kernel)) (by decide +kernel), tw_tb (List.mem_of_getElem? (i := 925) (by decide +kernel)) (by decide +kernel), tw_tb (List.mem_of_getElem? (i := 9) (by decide +kernel)) (by decide +kernel), tw_tb (List.mem_of_getElem? (i := 926) (by decide +kernel)) (by decide +kernel)⟩, ⟨rfl, rfl⟩, by decide +kernel, by decide +kernel, by decide +kernel⟩
-- X10_where
noncomputable def f_X10_where_L40 (nm : Nat → Nat) (v1 : Int32) (σ : jS) (s : (Int32 × Int32)) : Option ((Int32 × Int32) ⊕ Int32) :=
  match s with
  | (v3, v4) =>
    if 50 ≤ v4 then
      some (.inr v3)
    else
      (f_X1_hasJust (jn nm [81, 82]) v4 v1 σ).bind (fun q4 =>
        if q4 = 0 then
          some (.inl (v3, v4 + 1))
        else
          some (.inl (v3 + 1, v4 + 1)))
noncomputable def f_X10_where (nm : Nat → Nat) (v1 : Int32) (v2 : Int32) (σ : jS) : Option (Int32 × jS) :=
  (f_X10_isKnown nm v1 σ).bind (fun q1 =>
    if q1 = 0 then
      some ((-1001), σ)
    else
      (f_X10_isLoud v2).bind (fun q2 =>
        if q2 = 0 then
          some ((-1002), σ)
        else
          (f_X1_listen (jn nm [81, 82, 57, 31, 32, 33, 34, 35, 36, 37, 38, 39, 40, 41, 42, 43, 44, 45, 46, 47, 58, 59, 60, 61]) v2 σ).bind (fun s3 =>
            (lp (f_X10_where_L40 nm v1 s3) fu (0, 0)).bind (fun e5 =>
              some (e5, s3)))))
abbrev Y_X10_where : jY := (yX10_where, cX10_where, 5, some .int, { frames := 3, cells := 0, slots := 0, locals := 73 })
theorem C_X10_where {l : Launch} {G : jG} {nm : Nat → Nat} (hG : jWL G) (hE : jE G nm LS_X10) (v1 : Int32) (v2 : Int32) (σ : jS) : jC r_I l G Y_X10_where [.ref (jad G (nm 0)), .int v1, .int v2] σ (f_X10_where nm v1 v2 σ) := by
  refine jw_met hG pn_X10 (Nat.le_of_ble_eq_true rfl) ⟨rfl, rfl⟩ ?_
  intro X hX hM
  have hX : jB X l G cX10_where RX10 5 { frames := 3, cells := 0, slots := 0, locals := 73 } := hX
  have hM : jM X (some .int) := hM
  show J X 0 [(0, .ref (jad G (nm 0))), (1, .int v1), (2, .int v2)] [] σ (f_X10_where nm v1 v2 σ) (jk r_I X)
  unfold f_X10_where
  refine J_aload_n hX dX10_where_0 rfl ?_
  refine J_iload_n hX dX10_where_1 rfl ?_
  refine J_cVP hX hE 0 (C_X10_isKnown hG hE v1 σ) mw_X10_isKnown ml_X10_252 rfl rfl rfl ⟨Nat.le_of_ble_eq_true rfl, Nat.le_of_ble_eq_true rfl⟩ rfl rfl (Nat.le_of_ble_eq_true rfl) dX10_where_2 (fun q6 => ?_)
  refine J_if_ne hX dX10_where_5 (tgt := 12) rfl (fun _ => ?_) (fun _ => ?_)
  · refine J_iload_n hX dX10_where_12 rfl ?_
    refine J_cSP hX (C_X10_isLoud hG v2 σ) mw_X10_isLoud ml_X10_219 ⟨Nat.le_of_ble_eq_true rfl, Nat.le_of_ble_eq_true rfl⟩ rfl rfl (Nat.le_of_ble_eq_true rfl) dX10_where_13 (fun q7 => ?_)
    refine J_if_ne hX dX10_where_16 (tgt := 23) rfl (fun _ => ?_) (fun _ => ?_)
    · refine J_aload_n hX dX10_where_23 rfl ?_
      refine J_getr hX hE 0 11 rfl rfl fl_X10_71 dX10_where_24 ?_
      refine J_aload_n hX dX10_where_27 rfl ?_
      refine J_getr hX hE 0 5 rfl rfl fl_X10_49 dX10_where_28 ?_
      refine J_iload_n hX dX10_where_31 rfl ?_
      refine J_cVV hX hE 81 (C_X1_listen hG (hE.sb [81, 82, 57, 31, 32, 33, 34, 35, 36, 37, 38, 39, 40, 41, 42, 43, 44, 45, 46, 47, 58, 59, 60, 61] sb_21) v2 σ) mw_X1_listen ml_X10_262 rfl rfl rfl ⟨Nat.le_of_ble_eq_true rfl, Nat.le_of_ble_eq_true rfl⟩ rfl rfl (Nat.le_of_ble_eq_true rfl) dX10_where_32 (fun s8 => ?_)
      refine J_iconst hX dX10_where_35 k_i0 ?_
      refine J_istore_n hX dX10_where_36 (Nat.le_of_ble_eq_true rfl) (lv' := [(0, .ref (jad G (nm 0))), (1, .int v1), (2, .int v2), (3, .int 0)]) rfl ?_
      refine J_iconst hX dX10_where_37 k_i0 ?_
      refine J_istore hX dX10_where_38 (Nat.le_of_ble_eq_true rfl) (lv' := [(0, .ref (jad G (nm 0))), (1, .int v1), (2, .int v2), (3, .int 0), (4, .int 0)]) rfl ?_
      refine J_keep [0, 1, 3, 4] (lv' := [(0, .ref (jad G (nm 0))), (1, .int v1), (3, .int 0), (4, .int 0)]) rfl ?_
      refine J_lp (pc := 40) (s0 := (0, 0)) (fun (s : (Int32 × Int32)) => [(0, .ref (jad G (nm 0))), (1, .int v1), (3, .int (s.1)), (4, .int (s.2))]) (fun (s : (Int32 × Int32)) => s8) ?_
      intro KK40 hN40 hQ40 z40
      obtain ⟨v3_40, v4_40⟩ := z40
      show J X 40 [(0, .ref (jad G (nm 0))), (1, .int v1), (3, .int v3_40), (4, .int v4_40)] [] s8 (f_X10_where_L40 nm v1 s8 (v3_40, v4_40)) KK40
      unfold f_X10_where_L40
      refine J_iload hX dX10_where_40 rfl ?_
      refine J_bipush hX dX10_where_42 kb_50 ?_
      refine J_icmp_ge hX dX10_where_44 (tgt := 69) rfl (fun _ => ?_) (fun _ => ?_)
      · refine hQ40 _ _ _ _ _ ?_
        refine J_iload_n hX dX10_where_69 rfl ?_
        exact J_iret hX hM dX10_where_70
      · refine J_aload_n hX dX10_where_47 rfl ?_
        refine J_getr hX hE 0 11 rfl rfl fl_X10_71 dX10_where_48 ?_
        refine J_iload hX dX10_where_51 rfl ?_
        refine J_iload_n hX dX10_where_53 rfl ?_
        refine J_cVP hX hE 81 (C_X1_hasJust hG (hE.sb [81, 82] sb_123) v4_40 v1 s8) mw_X1_hasJust ml_X10_286 rfl rfl rfl ⟨Nat.le_of_ble_eq_true rfl, Nat.le_of_ble_eq_true rfl⟩ rfl rfl (Nat.le_of_ble_eq_true rfl) dX10_where_54 (fun q9 => ?_)
        refine J_if_eq hX dX10_where_57 (tgt := 63) rfl (fun _ => ?_) (fun _ => ?_)
        · refine J_iinc hX dX10_where_63 rfl (congrArg (_ + ·) k_i1) (Nat.le_of_ble_eq_true rfl) (lv' := [(0, .ref (jad G (nm 0))), (1, .int v1), (3, .int v3_40), (4, .int (v4_40 + 1))]) rfl ?_
          refine J_goto hX dX10_where_66 (tgt := 40) rfl ?_
          exact J_keep [0, 1, 2, 3] rfl (hN40 (v3_40, v4_40 + 1))
        · refine J_iinc hX dX10_where_60 rfl (congrArg (_ + ·) k_i1) (Nat.le_of_ble_eq_true rfl) (lv' := [(0, .ref (jad G (nm 0))), (1, .int v1), (3, .int (v3_40 + 1)), (4, .int v4_40)]) rfl ?_
          refine J_iinc hX dX10_where_63 rfl (congrArg (_ + ·) k_i1) (Nat.le_of_ble_eq_true rfl) (lv' := [(0, .ref (jad G (nm 0))), (1, .int v1), (3, .int (v3_40 + 1)), (4, .int (v4_40 + 1))]) rfl ?_
          refine J_goto hX dX10_where_66 (tgt := 40) rfl ?_
          exact J_keep [0, 1, 2, 3] rfl (hN40 (v3_40 + 1, v4_40 + 1))
    · refine J_sipush hX dX10_where_19 ks_m1002 ?_
      exact J_iret hX hM dX10_where_22
  · refine J_sipush hX dX10_where_8 ks_m1001 ?_
    exact J_iret hX hM dX10_where_11
theorem mw_X10_where : jMV Y_X10_where 2 := ⟨⟨tw_tb (List.mem_of_getElem? (i := 920) (by decide +kernel)) (by decide +kernel), tw_tb (List.mem_of_getElem? (i := 921) (by decide +kernel)) (by decide +kernel), tw_tb (List.mem_of_getElem? (i := 1) (by decide +kernel)) (by decide +kernel), tw_tb (List.mem_of_getElem? (i := 922) (by decide +kernel)) (by decide +kernel)⟩, ⟨rfl, rfl⟩, by decide +kernel, by decide +kernel, by decide +kernel⟩
-- X10_who
noncomputable def f_X10_who_L16 (nm : Nat → Nat) (v1 : Int32) (σ : jS) (s : (Int32 × Int32)) : Option ((Int32 × Int32) ⊕ Int32) :=
  match s with
  | (v2, v3) =>
    (f_X6_singers (jn nm [31, 32, 33, 34, 35, 36, 37, 38, 39, 40, 41, 42, 43, 44, 45, 46, 47]) σ).bind (fun q2 =>
      if q2 ≤ v3 then
        some (.inr v2)
      else
        (f_X10_singerCouldWake nm v3 v1 σ).bind (fun q3 =>
          if q3 = 0 then
            some (.inl (v2, v3 + 1))
          else
            bd (v2 ||| (1 <<< (v3 &&& 31))) (fun x4 =>
              some (.inl (x4, v3 + 1)))))
noncomputable def f_X10_who (nm : Nat → Nat) (v1 : Int32) (σ : jS) : Option Int32 :=
  (f_X10_isKnown nm v1 σ).bind (fun q1 =>
    if q1 = 0 then
      some (-1001)
    else
      (lp (f_X10_who_L16 nm v1 σ) fu (0, 0)).bind (fun e5 =>
        some e5))
abbrev Y_X10_who : jY := (yX10_who, cX10_who, 4, some .int, { frames := 4, cells := 0, slots := 0, locals := 91 })
theorem C_X10_who {l : Launch} {G : jG} {nm : Nat → Nat} (hG : jWL G) (hE : jE G nm LS_X10) (v1 : Int32) (σ : jS) : jC (r_P σ) l G Y_X10_who [.ref (jad G (nm 0)), .int v1] σ (f_X10_who nm v1 σ) := by
  refine jw_met hG pn_X10 (Nat.le_of_ble_eq_true rfl) ⟨rfl, rfl⟩ ?_
  intro X hX hM
  have hX : jB X l G cX10_who RX10 4 { frames := 4, cells := 0, slots := 0, locals := 91 } := hX
  have hM : jM X (some .int) := hM
  show J X 0 [(0, .ref (jad G (nm 0))), (1, .int v1)] [] σ (f_X10_who nm v1 σ) (jk (r_P σ) X)
  unfold f_X10_who
  refine J_aload_n hX dX10_who_0 rfl ?_
  refine J_iload_n hX dX10_who_1 rfl ?_
  refine J_cVP hX hE 0 (C_X10_isKnown hG hE v1 σ) mw_X10_isKnown ml_X10_252 rfl rfl rfl ⟨Nat.le_of_ble_eq_true rfl, Nat.le_of_ble_eq_true rfl⟩ rfl rfl (Nat.le_of_ble_eq_true rfl) dX10_who_2 (fun q6 => ?_)
  refine J_if_ne hX dX10_who_5 (tgt := 12) rfl (fun _ => ?_) (fun _ => ?_)
  · refine J_iconst hX dX10_who_12 k_i0 ?_
    refine J_istore_n hX dX10_who_13 (Nat.le_of_ble_eq_true rfl) (lv' := [(0, .ref (jad G (nm 0))), (1, .int v1), (2, .int 0)]) rfl ?_
    refine J_iconst hX dX10_who_14 k_i0 ?_
    refine J_istore_n hX dX10_who_15 (Nat.le_of_ble_eq_true rfl) (lv' := [(0, .ref (jad G (nm 0))), (1, .int v1), (2, .int 0), (3, .int 0)]) rfl ?_
    refine J_keep [0, 1, 2, 3] (lv' := [(0, .ref (jad G (nm 0))), (1, .int v1), (2, .int 0), (3, .int 0)]) rfl ?_
    refine J_lp (pc := 16) (s0 := (0, 0)) (fun (s : (Int32 × Int32)) => [(0, .ref (jad G (nm 0))), (1, .int v1), (2, .int (s.1)), (3, .int (s.2))]) (fun (s : (Int32 × Int32)) => σ) ?_
    intro KK16 hN16 hQ16 z16
    obtain ⟨v2_16, v3_16⟩ := z16
    show J X 16 [(0, .ref (jad G (nm 0))), (1, .int v1), (2, .int v2_16), (3, .int v3_16)] [] σ (f_X10_who_L16 nm v1 σ (v2_16, v3_16)) KK16
    unfold f_X10_who_L16
    refine J_iload_n hX dX10_who_16 rfl ?_
    refine J_aload_n hX dX10_who_17 rfl ?_
    refine J_getr hX hE 0 2 rfl rfl fl_X10_30 dX10_who_18 ?_
    refine J_cVP hX hE 31 (C_X6_singers hG (hE.sb [31, 32, 33, 34, 35, 36, 37, 38, 39, 40, 41, 42, 43, 44, 45, 46, 47] sb_6) σ) mw_X6_singers ml_X10_142 rfl rfl rfl ⟨Nat.le_of_ble_eq_true rfl, Nat.le_of_ble_eq_true rfl⟩ rfl rfl (Nat.le_of_ble_eq_true rfl) dX10_who_21 (fun q7 => ?_)
    refine J_icmp_ge hX dX10_who_24 (tgt := 48) rfl (fun _ => ?_) (fun _ => ?_)
    · refine hQ16 _ _ _ _ _ ?_
      refine J_iload_n hX dX10_who_48 rfl ?_
      exact J_iretP hX hM dX10_who_49
    · refine J_aload_n hX dX10_who_27 rfl ?_
      refine J_iload_n hX dX10_who_28 rfl ?_
      refine J_iload_n hX dX10_who_29 rfl ?_
      refine J_cVP hX hE 0 (C_X10_singerCouldWake hG hE v3_16 v1 σ) mw_X10_singerCouldWake ml_X10_283 rfl rfl rfl ⟨Nat.le_of_ble_eq_true rfl, Nat.le_of_ble_eq_true rfl⟩ rfl rfl (Nat.le_of_ble_eq_true rfl) dX10_who_30 (fun q8 => ?_)
      refine J_if_eq hX dX10_who_33 (tgt := 42) rfl (fun _ => ?_) (fun _ => ?_)
      · refine J_iinc hX dX10_who_42 rfl (congrArg (_ + ·) k_i1) (Nat.le_of_ble_eq_true rfl) (lv' := [(0, .ref (jad G (nm 0))), (1, .int v1), (2, .int v2_16), (3, .int (v3_16 + 1))]) rfl ?_
        refine J_goto hX dX10_who_45 (tgt := 16) rfl ?_
        exact J_keep [0, 1, 2, 3] rfl (hN16 (v2_16, v3_16 + 1))
      · refine J_iload_n hX dX10_who_36 rfl ?_
        refine J_iconst hX dX10_who_37 k_i1 ?_
        refine J_iload_n hX dX10_who_38 rfl ?_
        refine J_ishl hX dX10_who_39 ?_
        refine J_ior hX dX10_who_40 ?_
        refine J_bdI (fun x9 => ?_)
        refine J_istore_n hX dX10_who_41 (Nat.le_of_ble_eq_true rfl) (lv' := [(0, .ref (jad G (nm 0))), (1, .int v1), (2, .int x9), (3, .int v3_16)]) rfl ?_
        refine J_iinc hX dX10_who_42 rfl (congrArg (_ + ·) k_i1) (Nat.le_of_ble_eq_true rfl) (lv' := [(0, .ref (jad G (nm 0))), (1, .int v1), (2, .int x9), (3, .int (v3_16 + 1))]) rfl ?_
        refine J_goto hX dX10_who_45 (tgt := 16) rfl ?_
        exact J_keep [0, 1, 2, 3] rfl (hN16 (x9, v3_16 + 1))
  · refine J_sipush hX dX10_who_8 ks_m1001 ?_
    exact J_iretP hX hM dX10_who_11
theorem mw_X10_who : jMV Y_X10_who 1 := ⟨⟨tw_tb (List.mem_of_getElem? (i := 912) (by decide +kernel)) (by decide +kernel), tw_tb (List.mem_of_getElem? (i := 913) (by decide +kernel)) (by decide +kernel), tw_tb (List.mem_of_getElem? (i := 1) (by decide +kernel)) (by decide +kernel), tw_tb (List.mem_of_getElem? (i := 914) (by decide +kernel)) (by decide +kernel)⟩, ⟨rfl, rfl⟩, by decide +kernel, by decide +kernel, by decide +kernel⟩
-- X11_all
noncomputable def f_X11_all (nm : Nat → Nat) (σ : jS) : Option Int32 :=
  some ((1 <<< ((g_i σ (nm 0) 0) &&& 31)) - 1)
abbrev Y_X11_all : jY := (yX11_all, cX11_all, 1, some .int, { frames := 0, cells := 0, slots := 0, locals := 0 })
theorem C_X11_all {l : Launch} {G : jG} {nm : Nat → Nat} (hG : jWL G) (hE : jE G nm LS_X11) (σ : jS) : jC (r_P σ) l G Y_X11_all [.ref (jad G (nm 0))] σ (f_X11_all nm σ) := by
  refine jw_met hG pn_X11 (Nat.le_of_ble_eq_true rfl) ⟨rfl, rfl⟩ ?_
  intro X hX hM
  have hX : jB X l G cX11_all RX11 1 { frames := 0, cells := 0, slots := 0, locals := 0 } := hX
  have hM : jM X (some .int) := hM
  show J X 0 [(0, .ref (jad G (nm 0)))] [] σ (f_X11_all nm σ) (jk (r_P σ) X)
  unfold f_X11_all
  refine J_iconst hX dX11_all_0 k_i1 ?_
  refine J_aload_n hX dX11_all_1 rfl ?_
  refine J_geti hX hE 0 0 rfl rfl fl_X11_104 dX11_all_2 ?_
  refine J_ishl hX dX11_all_5 ?_
  refine J_iconst hX dX11_all_6 k_i1 ?_
  refine J_isub hX dX11_all_7 ?_
  exact J_iretP hX hM dX11_all_8
theorem mw_X11_all : jMV Y_X11_all 0 := ⟨⟨tw_tb (List.mem_of_getElem? (i := 1396) (by decide +kernel)) (by decide +kernel), tw_pv (List.mem_of_getElem? (i := 56) (by decide +kernel)) (by decide +kernel), tw_tb (List.mem_of_getElem? (i := 13) (by decide +kernel)) (by decide +kernel), tw_tb (List.mem_of_getElem? (i := 1397) (by decide +kernel)) (by decide +kernel)⟩, ⟨rfl, rfl⟩, by decide +kernel, by decide +kernel, by decide +kernel⟩
-- X11_allOut
noncomputable def f_X11_allOut_L7 (nm : Nat → Nat) (s : (Int32 × jS)) : Option ((Int32 × jS) ⊕ jS) :=
  match s with
  | (v1, σ) =>
    if 10 ≤ v1 then
      some (.inr σ)
    else
      gd (vp_in v1 10) (bd (s_i σ (nm 2) v1.toNatClampNeg 0) (fun s2 =>
        gd (vp_in v1 10) (bd (s_i s2 (nm 3) v1.toNatClampNeg 0) (fun s3 =>
          gd (vp_in v1 10) (bd (s_i s3 (nm 4) v1.toNatClampNeg (-1)) (fun s4 =>
            some (.inl (v1 + 1, s4))))))))
noncomputable def f_X11_allOut (nm : Nat → Nat) (σ : jS) : Option jS :=
  bd (s_i σ (nm 0) 14 0) (fun s1 =>
    (lp (f_X11_allOut_L7 nm) fu (0, s1)).bind (fun s5 =>
      some s5))
abbrev Y_X11_allOut : jY := (yX11_allOut, cX11_allOut, 2, none, { frames := 0, cells := 0, slots := 0, locals := 0 })
theorem C_X11_allOut {l : Launch} {G : jG} {nm : Nat → Nat} (hG : jWL G) (hE : jE G nm LS_X11) (σ : jS) : jC r_V l G Y_X11_allOut [.ref (jad G (nm 0))] σ (f_X11_allOut nm σ) := by
  refine jw_met hG pn_X11 (Nat.le_of_ble_eq_true rfl) ⟨rfl, rfl⟩ ?_
  intro X hX hM
  have hX : jB X l G cX11_allOut RX11 2 { frames := 0, cells := 0, slots := 0, locals := 0 } := hX
  have hM : jM X (none) := hM
  show J X 0 [(0, .ref (jad G (nm 0)))] [] σ (f_X11_allOut nm σ) (jk r_V X)
  unfold f_X11_allOut
  refine J_aload_n hX dX11_allOut_0 rfl ?_
  refine J_iconst hX dX11_allOut_1 k_i0 ?_
  refine J_puti hX hE 0 14 rfl rfl fp_X11_227 dX11_allOut_2 ?_
  refine J_bdS (fun s6 => ?_)
  refine J_iconst hX dX11_allOut_5 k_i0 ?_
  refine J_istore_n hX dX11_allOut_6 (Nat.le_of_ble_eq_true rfl) (lv' := [(0, .ref (jad G (nm 0))), (1, .int 0)]) rfl ?_
  refine J_keep [0, 1] (lv' := [(0, .ref (jad G (nm 0))), (1, .int 0)]) rfl ?_
  refine J_lp (pc := 7) (s0 := (0, s6)) (fun (s : (Int32 × jS)) => [(0, .ref (jad G (nm 0))), (1, .int (s.1))]) (fun (s : (Int32 × jS)) => s.2) ?_
  intro KK7 hN7 hQ7 z7
  obtain ⟨v1_7, σ_7⟩ := z7
  show J X 7 [(0, .ref (jad G (nm 0))), (1, .int v1_7)] [] σ_7 (f_X11_allOut_L7 nm (v1_7, σ_7)) KK7
  unfold f_X11_allOut_L7
  refine J_iload_n hX dX11_allOut_7 rfl ?_
  refine J_bipush hX dX11_allOut_8 kb_10 ?_
  refine J_icmp_ge hX dX11_allOut_10 (tgt := 40) rfl (fun _ => ?_) (fun _ => ?_)
  · refine hQ7 _ _ _ _ _ ?_
    exact J_vret hX hM dX11_allOut_40
  · refine J_aload_n hX dX11_allOut_13 rfl ?_
    refine J_getr hX hE 0 2 rfl rfl fl_X11_13 dX11_allOut_14 ?_
    refine J_iload_n hX dX11_allOut_17 rfl ?_
    refine J_iconst hX dX11_allOut_18 k_i0 ?_
    refine J_iast hX hE 2 rfl dX11_allOut_19 (fun _ => ?_)
    refine J_bdS (fun s7 => ?_)
    refine J_aload_n hX dX11_allOut_20 rfl ?_
    refine J_getr hX hE 0 3 rfl rfl fl_X11_16 dX11_allOut_21 ?_
    refine J_iload_n hX dX11_allOut_24 rfl ?_
    refine J_iconst hX dX11_allOut_25 k_i0 ?_
    refine J_iast hX hE 3 rfl dX11_allOut_26 (fun _ => ?_)
    refine J_bdS (fun s8 => ?_)
    refine J_aload_n hX dX11_allOut_27 rfl ?_
    refine J_getr hX hE 0 4 rfl rfl fl_X11_19 dX11_allOut_28 ?_
    refine J_iload_n hX dX11_allOut_31 rfl ?_
    refine J_iconst hX dX11_allOut_32 k_im1 ?_
    refine J_iast hX hE 4 rfl dX11_allOut_33 (fun _ => ?_)
    refine J_bdS (fun s9 => ?_)
    refine J_iinc hX dX11_allOut_34 rfl (congrArg (_ + ·) k_i1) (Nat.le_of_ble_eq_true rfl) (lv' := [(0, .ref (jad G (nm 0))), (1, .int (v1_7 + 1))]) rfl ?_
    refine J_goto hX dX11_allOut_37 (tgt := 7) rfl ?_
    exact J_keep [0, 1] rfl (hN7 (v1_7 + 1, s9))
theorem mw_X11_allOut : jMV Y_X11_allOut 0 := ⟨⟨tw_tb (List.mem_of_getElem? (i := 1273) (by decide +kernel)) (by decide +kernel), tw_pv (List.mem_of_getElem? (i := 44) (by decide +kernel)) (by decide +kernel), tw_tb (List.mem_of_getElem? (i := 13) (by decide +kernel)) (by decide +kernel), tw_tb (List.mem_of_getElem? (i := 1274) (by decide +kernel)) (by decide +kernel)⟩, ⟨rfl, rfl⟩, by decide +kernel, by decide +kernel, by decide +kernel⟩
-- X11_in
noncomputable def f_X11_in (v0 : Int64) (v2 : Int64) (v4 : Int64) : Option Int32 :=
  if (lg_cmp v0 v2) < 0 then
    some 0
  else
    if 0 < (lg_cmp v0 v4) then
      some 0
    else
      some 1
abbrev Y_X11_in : jY := (yX11_in, cX11_in, 6, some .boolean, { frames := 0, cells := 0, slots := 0, locals := 0 })
theorem C_X11_in {l : Launch} {G : jG} (hG : jWL G) (v0 : Int64) (v2 : Int64) (v4 : Int64) (σ : jS) : jC (r_P σ) l G Y_X11_in [.long v0, .long v2, .long v4] σ (f_X11_in v0 v2 v4) := by
  refine jw_met hG pn_X11 (Nat.le_of_ble_eq_true rfl) ⟨rfl, rfl⟩ ?_
  intro X hX hM
  have hX : jB X l G cX11_in RX11 6 { frames := 0, cells := 0, slots := 0, locals := 0 } := hX
  have hM : jM X (some .boolean) := hM
  show J X 0 [(0, .long v0), (2, .long v2), (4, .long v4)] [] σ (f_X11_in v0 v2 v4) (jk (r_P σ) X)
  unfold f_X11_in
  refine J_lload_n hX dX11_in_0 rfl ?_
  refine J_lload_n hX dX11_in_1 rfl ?_
  refine J_lcmp hX dX11_in_2 ?_
  refine J_if_lt hX dX11_in_3 (tgt := 17) rfl (fun _ => ?_) (fun _ => ?_)
  · refine J_iconst hX dX11_in_17 k_i0 ?_
    exact J_zretP hX hM jn_0 dX11_in_18
  · refine J_lload_n hX dX11_in_6 rfl ?_
    refine J_lload hX dX11_in_7 rfl ?_
    refine J_lcmp hX dX11_in_9 ?_
    refine J_if_gt hX dX11_in_10 (tgt := 17) rfl (fun _ => ?_) (fun _ => ?_)
    · refine J_iconst hX dX11_in_17 k_i0 ?_
      exact J_zretP hX hM jn_0 dX11_in_18
    · refine J_iconst hX dX11_in_13 k_i1 ?_
      refine J_goto hX dX11_in_14 (tgt := 18) rfl ?_
      exact J_zretP hX hM jn_1 dX11_in_18
theorem mw_X11_in : jMS Y_X11_in 3 := ⟨⟨tw_tb (List.mem_of_getElem? (i := 1211) (by decide +kernel)) (by decide +kernel), tw_tb (List.mem_of_getElem? (i := 13) (by decide +kernel)) (by decide +kernel), tw_tb (List.mem_of_getElem? (i := 1212) (by decide +kernel)) (by decide +kernel)⟩, ⟨rfl, rfl⟩, by decide +kernel, by decide +kernel, by decide +kernel⟩
-- X11_isLamp
noncomputable def f_X11_isLamp (nm : Nat → Nat) (v1 : Int32) (σ : jS) : Option Int32 :=
  (f_X11_in (v1.toInt64) 0 (((g_i σ (nm 0) 0) - 1).toInt64)).bind (fun q1 =>
    gd (jz q1) (some q1))
abbrev Y_X11_isLamp : jY := (yX11_isLamp, cX11_isLamp, 2, some .boolean, { frames := 1, cells := 0, slots := 0, locals := 25 })
theorem C_X11_isLamp {l : Launch} {G : jG} {nm : Nat → Nat} (hG : jWL G) (hE : jE G nm LS_X11) (v1 : Int32) (σ : jS) : jC (r_P σ) l G Y_X11_isLamp [.ref (jad G (nm 0)), .int v1] σ (f_X11_isLamp nm v1 σ) := by
  refine jw_met hG pn_X11 (Nat.le_of_ble_eq_true rfl) ⟨rfl, rfl⟩ ?_
  intro X hX hM
  have hX : jB X l G cX11_isLamp RX11 2 { frames := 1, cells := 0, slots := 0, locals := 25 } := hX
  have hM : jM X (some .boolean) := hM
  show J X 0 [(0, .ref (jad G (nm 0))), (1, .int v1)] [] σ (f_X11_isLamp nm v1 σ) (jk (r_P σ) X)
  unfold f_X11_isLamp
  refine J_iload_n hX dX11_isLamp_0 rfl ?_
  refine J_i2l hX dX11_isLamp_1 ?_
  refine J_lconst hX dX11_isLamp_2 k_l0 ?_
  refine J_aload_n hX dX11_isLamp_3 rfl ?_
  refine J_geti hX hE 0 0 rfl rfl fl_X11_104 dX11_isLamp_4 ?_
  refine J_iconst hX dX11_isLamp_7 k_i1 ?_
  refine J_isub hX dX11_isLamp_8 ?_
  refine J_i2l hX dX11_isLamp_9 ?_
  refine J_cSP hX (C_X11_in hG (v1.toInt64) 0 (((g_i σ (nm 0) 0) - 1).toInt64) σ) mw_X11_in ml_X11_107 ⟨Nat.le_of_ble_eq_true rfl, Nat.le_of_ble_eq_true rfl⟩ rfl rfl (Nat.le_of_ble_eq_true rfl) dX11_isLamp_10 (fun q2 => ?_)
  refine J_gd (fun hz => ?_)
  exact J_zretP hX hM (jz_nar hz) dX11_isLamp_13
theorem mw_X11_isLamp : jMV Y_X11_isLamp 1 := ⟨⟨tw_tb (List.mem_of_getElem? (i := 1305) (by decide +kernel)) (by decide +kernel), tw_pv (List.mem_of_getElem? (i := 47) (by decide +kernel)) (by decide +kernel), tw_tb (List.mem_of_getElem? (i := 13) (by decide +kernel)) (by decide +kernel), tw_tb (List.mem_of_getElem? (i := 1306) (by decide +kernel)) (by decide +kernel)⟩, ⟨rfl, rfl⟩, by decide +kernel, by decide +kernel, by decide +kernel⟩
-- X11_size
noncomputable def f_X11_size (v0 : Int32) : Option Int32 :=
  if 0 ≤ v0 then
    some v0
  else
    some (-v0)
abbrev Y_X11_size : jY := (yX11_size, cX11_size, 1, some .int, { frames := 0, cells := 0, slots := 0, locals := 0 })
theorem C_X11_size {l : Launch} {G : jG} (hG : jWL G) (v0 : Int32) (σ : jS) : jC (r_P σ) l G Y_X11_size [.int v0] σ (f_X11_size v0) := by
  refine jw_met hG pn_X11 (Nat.le_of_ble_eq_true rfl) ⟨rfl, rfl⟩ ?_
  intro X hX hM
  have hX : jB X l G cX11_size RX11 1 { frames := 0, cells := 0, slots := 0, locals := 0 } := hX
  have hM : jM X (some .int) := hM
  show J X 0 [(0, .int v0)] [] σ (f_X11_size v0) (jk (r_P σ) X)
  unfold f_X11_size
  refine J_iload_n hX dX11_size_0 rfl ?_
  refine J_if_ge hX dX11_size_1 (tgt := 9) rfl (fun _ => ?_) (fun _ => ?_)
  · refine J_iload_n hX dX11_size_9 rfl ?_
    exact J_iretP hX hM dX11_size_10
  · refine J_iload_n hX dX11_size_4 rfl ?_
    refine J_ineg hX dX11_size_5 ?_
    refine J_goto hX dX11_size_6 (tgt := 10) rfl ?_
    exact J_iretP hX hM dX11_size_10
theorem mw_X11_size : jMS Y_X11_size 1 := ⟨⟨tw_tb (List.mem_of_getElem? (i := 1339) (by decide +kernel)) (by decide +kernel), tw_tb (List.mem_of_getElem? (i := 13) (by decide +kernel)) (by decide +kernel), tw_tb (List.mem_of_getElem? (i := 1340) (by decide +kernel)) (by decide +kernel)⟩, ⟨rfl, rfl⟩, by decide +kernel, by decide +kernel, by decide +kernel⟩
-- X11_isTogether
noncomputable def f_X11_isTogether_L53 (nm : Nat → Nat) (v1 : Int32) (v2 : Int32) (v3 : Int32) (v4 : Int32) (σ : jS) (s : (Int32 × Int32)) : Option ((Int32 × Int32) ⊕ Int32) :=
  match s with
  | (v5, v6) =>
    if 64 ≤ v6 then
      some (.inr v5)
    else
      if v5 = 0 then
        (f_X11_size (v3 - v6)).bind (fun q3 =>
          gd (vp_in ((4 * v1) + 2) 40) (
            if (g_i σ (nm 1) ((4 * v1) + 2).toNatClampNeg) < q3 then
              some (.inl (0, v6 + 1))
            else
              (f_X11_size (v4 - v6)).bind (fun q4 =>
                gd (vp_in ((4 * v2) + 2) 40) (
                  if (g_i σ (nm 1) ((4 * v2) + 2).toNatClampNeg) < q4 then
                    some (.inl (0, v6 + 1))
                  else
                    some (.inl (1, v6 + 1))))))
      else
        some (.inl (1, v6 + 1))
noncomputable def f_X11_isTogether_L125 (nm : Nat → Nat) (v1 : Int32) (v2 : Int32) (v5 : Int32) (σ : jS) (s : (Int32 × Int32)) : Option ((Int32 × Int32) ⊕ Int32) :=
  match s with
  | (v6, v7) =>
    if 50 ≤ v7 then
      some (.inr v6)
    else
      if v5 = 0 then
        some (.inr v6)
      else
        if v6 = 0 then
          gd (vp_in (4 * v1) 40) (
            (f_X11_size ((g_i σ (nm 1) (4 * v1).toNatClampNeg) - v7)).bind (fun q6 =>
              if (g_i σ (nm 0) 7) ≤ q6 then
                some (.inl (0, v7 + 1))
              else
                gd (vp_in (4 * v2) 40) (
                  (f_X11_size ((g_i σ (nm 1) (4 * v2).toNatClampNeg) - v7)).bind (fun q7 =>
                    if (g_i σ (nm 0) 7) ≤ q7 then
                      some (.inl (0, v7 + 1))
                    else
                      some (.inl (1, v7 + 1))))))
        else
          some (.inl (1, v7 + 1))
noncomputable def f_X11_isTogether_J197 (nm : Nat → Nat) (v5 : Int32) (v6 : Int32) (σ : jS) : Option Int32 :=
  if v5 = 0 then
    some 0
  else
    if v6 = 0 then
      some 0
    else
      some 1
noncomputable def f_X11_isTogether (nm : Nat → Nat) (v1 : Int32) (v2 : Int32) (σ : jS) : Option Int32 :=
  gd (vp_in v1 10) (
    gd (vp_in ((4 * v1) + 3) 40) (
      bd ((g_i σ (nm 21) v1.toNatClampNeg) - ((g_i σ (nm 1) ((4 * v1) + 3).toNatClampNeg) * (g_i σ (nm 0) 15))) (fun x1 =>
        gd (vp_in v2 10) (
          gd (vp_in ((4 * v2) + 3) 40) (
            bd ((g_i σ (nm 21) v2.toNatClampNeg) - ((g_i σ (nm 1) ((4 * v2) + 3).toNatClampNeg) * (g_i σ (nm 0) 15))) (fun x2 =>
              (lp (f_X11_isTogether_L53 nm v1 v2 x1 x2 σ) fu (0, 0)).bind (fun e5 =>
                (lp (f_X11_isTogether_L125 nm v1 v2 e5 σ) fu (0, 0)).bind (fun e8 =>
                  f_X11_isTogether_J197 nm e5 e8 σ))))))))
abbrev Y_X11_isTogether : jY := (yX11_isTogether, cX11_isTogether, 8, some .boolean, { frames := 1, cells := 0, slots := 0, locals := 20 })
theorem C_X11_isTogether {l : Launch} {G : jG} {nm : Nat → Nat} (hG : jWL G) (hE : jE G nm LS_X11) (v1 : Int32) (v2 : Int32) (σ : jS) : jC (r_P σ) l G Y_X11_isTogether [.ref (jad G (nm 0)), .int v1, .int v2] σ (f_X11_isTogether nm v1 v2 σ) := by
  refine jw_met hG pn_X11 (Nat.le_of_ble_eq_true rfl) ⟨rfl, rfl⟩ ?_
  intro X hX hM
  have hX : jB X l G cX11_isTogether RX11 8 { frames := 1, cells := 0, slots := 0, locals := 20 } := hX
  have hM : jM X (some .boolean) := hM
  show J X 0 [(0, .ref (jad G (nm 0))), (1, .int v1), (2, .int v2)] [] σ (f_X11_isTogether nm v1 v2 σ) (jk (r_P σ) X)
  have hJ197 : ∀ (v5 : Int32) (v6 : Int32), J X 197 [(5, .int v5), (6, .int v6)] [] σ (f_X11_isTogether_J197 nm v5 v6 σ) (jk (r_P σ) X) := by
    intro v5 v6
    unfold f_X11_isTogether_J197
    refine J_iload hX dX11_isTogether_197 rfl ?_
    refine J_if_eq hX dX11_isTogether_199 (tgt := 211) rfl (fun _ => ?_) (fun _ => ?_)
    · refine J_iconst hX dX11_isTogether_211 k_i0 ?_
      exact J_zretP hX hM jn_0 dX11_isTogether_212
    · refine J_iload hX dX11_isTogether_202 rfl ?_
      refine J_if_eq hX dX11_isTogether_204 (tgt := 211) rfl (fun _ => ?_) (fun _ => ?_)
      · refine J_iconst hX dX11_isTogether_211 k_i0 ?_
        exact J_zretP hX hM jn_0 dX11_isTogether_212
      · refine J_iconst hX dX11_isTogether_207 k_i1 ?_
        refine J_goto hX dX11_isTogether_208 (tgt := 212) rfl ?_
        exact J_zretP hX hM jn_1 dX11_isTogether_212
  unfold f_X11_isTogether
  refine J_aload_n hX dX11_isTogether_0 rfl ?_
  refine J_getr hX hE 0 45 rfl rfl fl_X11_86 dX11_isTogether_1 ?_
  refine J_iload_n hX dX11_isTogether_4 rfl ?_
  refine J_iald hX hE 21 rfl dX11_isTogether_5 (fun _ => ?_)
  refine J_aload_n hX dX11_isTogether_6 rfl ?_
  refine J_getr hX hE 0 1 rfl rfl fl_X11_7 dX11_isTogether_7 ?_
  refine J_iconst hX dX11_isTogether_10 k_i4 ?_
  refine J_iload_n hX dX11_isTogether_11 rfl ?_
  refine J_imul hX dX11_isTogether_12 ?_
  refine J_iconst hX dX11_isTogether_13 k_i3 ?_
  refine J_iadd hX dX11_isTogether_14 ?_
  refine J_iald hX hE 1 rfl dX11_isTogether_15 (fun _ => ?_)
  refine J_aload_n hX dX11_isTogether_16 rfl ?_
  refine J_geti hX hE 0 15 rfl rfl fl_X11_218 dX11_isTogether_17 ?_
  refine J_imul hX dX11_isTogether_20 ?_
  refine J_isub hX dX11_isTogether_21 ?_
  refine J_bdI (fun x9 => ?_)
  refine J_istore_n hX dX11_isTogether_22 (Nat.le_of_ble_eq_true rfl) (lv' := [(0, .ref (jad G (nm 0))), (1, .int v1), (2, .int v2), (3, .int x9)]) rfl ?_
  refine J_aload_n hX dX11_isTogether_23 rfl ?_
  refine J_getr hX hE 0 45 rfl rfl fl_X11_86 dX11_isTogether_24 ?_
  refine J_iload_n hX dX11_isTogether_27 rfl ?_
  refine J_iald hX hE 21 rfl dX11_isTogether_28 (fun _ => ?_)
  refine J_aload_n hX dX11_isTogether_29 rfl ?_
  refine J_getr hX hE 0 1 rfl rfl fl_X11_7 dX11_isTogether_30 ?_
  refine J_iconst hX dX11_isTogether_33 k_i4 ?_
  refine J_iload_n hX dX11_isTogether_34 rfl ?_
  refine J_imul hX dX11_isTogether_35 ?_
  refine J_iconst hX dX11_isTogether_36 k_i3 ?_
  refine J_iadd hX dX11_isTogether_37 ?_
  refine J_iald hX hE 1 rfl dX11_isTogether_38 (fun _ => ?_)
  refine J_aload_n hX dX11_isTogether_39 rfl ?_
  refine J_geti hX hE 0 15 rfl rfl fl_X11_218 dX11_isTogether_40 ?_
  refine J_imul hX dX11_isTogether_43 ?_
  refine J_isub hX dX11_isTogether_44 ?_
  refine J_bdI (fun x10 => ?_)
  refine J_istore hX dX11_isTogether_45 (Nat.le_of_ble_eq_true rfl) (lv' := [(0, .ref (jad G (nm 0))), (1, .int v1), (2, .int v2), (3, .int x9), (4, .int x10)]) rfl ?_
  refine J_iconst hX dX11_isTogether_47 k_i0 ?_
  refine J_istore hX dX11_isTogether_48 (Nat.le_of_ble_eq_true rfl) (lv' := [(0, .ref (jad G (nm 0))), (1, .int v1), (2, .int v2), (3, .int x9), (4, .int x10), (5, .int 0)]) rfl ?_
  refine J_iconst hX dX11_isTogether_50 k_i0 ?_
  refine J_istore hX dX11_isTogether_51 (Nat.le_of_ble_eq_true rfl) (lv' := [(0, .ref (jad G (nm 0))), (1, .int v1), (2, .int v2), (3, .int x9), (4, .int x10), (5, .int 0), (6, .int 0)]) rfl ?_
  refine J_keep [0, 1, 2, 3, 4, 5, 6] (lv' := [(0, .ref (jad G (nm 0))), (1, .int v1), (2, .int v2), (3, .int x9), (4, .int x10), (5, .int 0), (6, .int 0)]) rfl ?_
  refine J_lp (pc := 53) (s0 := (0, 0)) (fun (s : (Int32 × Int32)) => [(0, .ref (jad G (nm 0))), (1, .int v1), (2, .int v2), (3, .int x9), (4, .int x10), (5, .int (s.1)), (6, .int (s.2))]) (fun (s : (Int32 × Int32)) => σ) ?_
  intro KK53 hN53 hQ53 z53
  obtain ⟨v5_53, v6_53⟩ := z53
  show J X 53 [(0, .ref (jad G (nm 0))), (1, .int v1), (2, .int v2), (3, .int x9), (4, .int x10), (5, .int v5_53), (6, .int v6_53)] [] σ (f_X11_isTogether_L53 nm v1 v2 x9 x10 σ (v5_53, v6_53)) KK53
  unfold f_X11_isTogether_L53
  refine J_iload hX dX11_isTogether_53 rfl ?_
  refine J_bipush hX dX11_isTogether_55 kb_64 ?_
  refine J_icmp_ge hX dX11_isTogether_57 (tgt := 119) rfl (fun _ => ?_) (fun _ => ?_)
  · refine hQ53 _ _ _ _ _ ?_
    refine J_iconst hX dX11_isTogether_119 k_i0 ?_
    refine J_istore hX dX11_isTogether_120 (Nat.le_of_ble_eq_true rfl) (lv' := [(0, .ref (jad G (nm 0))), (1, .int v1), (2, .int v2), (3, .int x9), (4, .int x10), (5, .int v5_53), (6, .int 0)]) rfl ?_
    refine J_iconst hX dX11_isTogether_122 k_i0 ?_
    refine J_istore hX dX11_isTogether_123 (Nat.le_of_ble_eq_true rfl) (lv' := [(0, .ref (jad G (nm 0))), (1, .int v1), (2, .int v2), (3, .int x9), (4, .int x10), (5, .int v5_53), (6, .int 0), (7, .int 0)]) rfl ?_
    refine J_keep [0, 1, 2, 5, 6, 7] (lv' := [(0, .ref (jad G (nm 0))), (1, .int v1), (2, .int v2), (5, .int v5_53), (6, .int 0), (7, .int 0)]) rfl ?_
    refine J_lp (pc := 125) (s0 := (0, 0)) (fun (s : (Int32 × Int32)) => [(0, .ref (jad G (nm 0))), (1, .int v1), (2, .int v2), (5, .int v5_53), (6, .int (s.1)), (7, .int (s.2))]) (fun (s : (Int32 × Int32)) => σ) ?_
    intro KK125 hN125 hQ125 z125
    obtain ⟨v6_125, v7_125⟩ := z125
    show J X 125 [(0, .ref (jad G (nm 0))), (1, .int v1), (2, .int v2), (5, .int v5_53), (6, .int v6_125), (7, .int v7_125)] [] σ (f_X11_isTogether_L125 nm v1 v2 v5_53 σ (v6_125, v7_125)) KK125
    unfold f_X11_isTogether_L125
    refine J_iload hX dX11_isTogether_125 rfl ?_
    refine J_bipush hX dX11_isTogether_127 kb_50 ?_
    refine J_icmp_ge hX dX11_isTogether_129 (tgt := 197) rfl (fun _ => ?_) (fun _ => ?_)
    · refine hQ125 _ _ _ _ _ ?_
      exact J_keep [3, 4] rfl (hJ197 v5_53 v6_125)
    · refine J_iload hX dX11_isTogether_132 rfl ?_
      refine J_if_eq hX dX11_isTogether_134 (tgt := 197) rfl (fun _ => ?_) (fun _ => ?_)
      · refine hQ125 _ _ _ _ _ ?_
        exact J_keep [3, 4] rfl (hJ197 v5_53 v6_125)
      · refine J_iload hX dX11_isTogether_137 rfl ?_
        refine J_if_ne hX dX11_isTogether_139 (tgt := 184) rfl (fun _ => ?_) (fun _ => ?_)
        · refine J_iconst hX dX11_isTogether_184 k_i1 ?_
          refine J_goto hX dX11_isTogether_185 (tgt := 189) rfl ?_
          refine J_istore hX dX11_isTogether_189 (Nat.le_of_ble_eq_true rfl) (lv' := [(0, .ref (jad G (nm 0))), (1, .int v1), (2, .int v2), (5, .int v5_53), (6, .int 1), (7, .int v7_125)]) rfl ?_
          refine J_iinc hX dX11_isTogether_191 rfl (congrArg (_ + ·) k_i1) (Nat.le_of_ble_eq_true rfl) (lv' := [(0, .ref (jad G (nm 0))), (1, .int v1), (2, .int v2), (5, .int v5_53), (6, .int 1), (7, .int (v7_125 + 1))]) rfl ?_
          refine J_goto hX dX11_isTogether_194 (tgt := 125) rfl ?_
          exact J_keep [0, 1, 2, 3, 4, 5] rfl (hN125 (1, v7_125 + 1))
        · refine J_aload_n hX dX11_isTogether_142 rfl ?_
          refine J_getr hX hE 0 1 rfl rfl fl_X11_7 dX11_isTogether_143 ?_
          refine J_iconst hX dX11_isTogether_146 k_i4 ?_
          refine J_iload_n hX dX11_isTogether_147 rfl ?_
          refine J_imul hX dX11_isTogether_148 ?_
          refine J_iald hX hE 1 rfl dX11_isTogether_149 (fun _ => ?_)
          refine J_iload hX dX11_isTogether_150 rfl ?_
          refine J_isub hX dX11_isTogether_152 ?_
          refine J_cSP hX (C_X11_size hG ((g_i σ (nm 1) (4 * v1).toNatClampNeg) - v7_125) σ) mw_X11_size ml_X11_251 ⟨Nat.le_of_ble_eq_true rfl, Nat.le_of_ble_eq_true rfl⟩ rfl rfl (Nat.le_of_ble_eq_true rfl) dX11_isTogether_153 (fun q11 => ?_)
          refine J_aload_n hX dX11_isTogether_156 rfl ?_
          refine J_geti hX hE 0 7 rfl rfl fl_X11_29 dX11_isTogether_157 ?_
          refine J_icmp_ge hX dX11_isTogether_160 (tgt := 188) rfl (fun _ => ?_) (fun _ => ?_)
          · refine J_iconst hX dX11_isTogether_188 k_i0 ?_
            refine J_istore hX dX11_isTogether_189 (Nat.le_of_ble_eq_true rfl) (lv' := [(0, .ref (jad G (nm 0))), (1, .int v1), (2, .int v2), (5, .int v5_53), (6, .int 0), (7, .int v7_125)]) rfl ?_
            refine J_iinc hX dX11_isTogether_191 rfl (congrArg (_ + ·) k_i1) (Nat.le_of_ble_eq_true rfl) (lv' := [(0, .ref (jad G (nm 0))), (1, .int v1), (2, .int v2), (5, .int v5_53), (6, .int 0), (7, .int (v7_125 + 1))]) rfl ?_
            refine J_goto hX dX11_isTogether_194 (tgt := 125) rfl ?_
            exact J_keep [0, 1, 2, 3, 4, 5] rfl (hN125 (0, v7_125 + 1))
          · refine J_aload_n hX dX11_isTogether_163 rfl ?_
            refine J_getr hX hE 0 1 rfl rfl fl_X11_7 dX11_isTogether_164 ?_
            refine J_iconst hX dX11_isTogether_167 k_i4 ?_
            refine J_iload_n hX dX11_isTogether_168 rfl ?_
            refine J_imul hX dX11_isTogether_169 ?_
            refine J_iald hX hE 1 rfl dX11_isTogether_170 (fun _ => ?_)
            refine J_iload hX dX11_isTogether_171 rfl ?_
            refine J_isub hX dX11_isTogether_173 ?_
            refine J_cSP hX (C_X11_size hG ((g_i σ (nm 1) (4 * v2).toNatClampNeg) - v7_125) σ) mw_X11_size ml_X11_251 ⟨Nat.le_of_ble_eq_true rfl, Nat.le_of_ble_eq_true rfl⟩ rfl rfl (Nat.le_of_ble_eq_true rfl) dX11_isTogether_174 (fun q12 => ?_)
            refine J_aload_n hX dX11_isTogether_177 rfl ?_
            refine J_geti hX hE 0 7 rfl rfl fl_X11_29 dX11_isTogether_178 ?_
            refine J_icmp_ge hX dX11_isTogether_181 (tgt := 188) rfl (fun _ => ?_) (fun _ => ?_)
            · refine J_iconst hX dX11_isTogether_188 k_i0 ?_
              refine J_istore hX dX11_isTogether_189 (Nat.le_of_ble_eq_true rfl) (lv' := [(0, .ref (jad G (nm 0))), (1, .int v1), (2, .int v2), (5, .int v5_53), (6, .int 0), (7, .int v7_125)]) rfl ?_
              refine J_iinc hX dX11_isTogether_191 rfl (congrArg (_ + ·) k_i1) (Nat.le_of_ble_eq_true rfl) (lv' := [(0, .ref (jad G (nm 0))), (1, .int v1), (2, .int v2), (5, .int v5_53), (6, .int 0), (7, .int (v7_125 + 1))]) rfl ?_
              refine J_goto hX dX11_isTogether_194 (tgt := 125) rfl ?_
              exact J_keep [0, 1, 2, 3, 4, 5] rfl (hN125 (0, v7_125 + 1))
            · refine J_iconst hX dX11_isTogether_184 k_i1 ?_
              refine J_goto hX dX11_isTogether_185 (tgt := 189) rfl ?_
              refine J_istore hX dX11_isTogether_189 (Nat.le_of_ble_eq_true rfl) (lv' := [(0, .ref (jad G (nm 0))), (1, .int v1), (2, .int v2), (5, .int v5_53), (6, .int 1), (7, .int v7_125)]) rfl ?_
              refine J_iinc hX dX11_isTogether_191 rfl (congrArg (_ + ·) k_i1) (Nat.le_of_ble_eq_true rfl) (lv' := [(0, .ref (jad G (nm 0))), (1, .int v1), (2, .int v2), (5, .int v5_53), (6, .int 1), (7, .int (v7_125 + 1))]) rfl ?_
              refine J_goto hX dX11_isTogether_194 (tgt := 125) rfl ?_
              exact J_keep [0, 1, 2, 3, 4, 5] rfl (hN125 (1, v7_125 + 1))
  · refine J_iload hX dX11_isTogether_60 rfl ?_
    refine J_if_ne hX dX11_isTogether_62 (tgt := 106) rfl (fun _ => ?_) (fun _ => ?_)
    · refine J_iconst hX dX11_isTogether_106 k_i1 ?_
      refine J_goto hX dX11_isTogether_107 (tgt := 111) rfl ?_
      refine J_istore hX dX11_isTogether_111 (Nat.le_of_ble_eq_true rfl) (lv' := [(0, .ref (jad G (nm 0))), (1, .int v1), (2, .int v2), (3, .int x9), (4, .int x10), (5, .int 1), (6, .int v6_53)]) rfl ?_
      refine J_iinc hX dX11_isTogether_113 rfl (congrArg (_ + ·) k_i1) (Nat.le_of_ble_eq_true rfl) (lv' := [(0, .ref (jad G (nm 0))), (1, .int v1), (2, .int v2), (3, .int x9), (4, .int x10), (5, .int 1), (6, .int (v6_53 + 1))]) rfl ?_
      refine J_goto hX dX11_isTogether_116 (tgt := 53) rfl ?_
      exact J_keep [0, 1, 2, 3, 4, 5, 6] rfl (hN53 (1, v6_53 + 1))
    · refine J_iload_n hX dX11_isTogether_65 rfl ?_
      refine J_iload hX dX11_isTogether_66 rfl ?_
      refine J_isub hX dX11_isTogether_68 ?_
      refine J_cSP hX (C_X11_size hG (x9 - v6_53) σ) mw_X11_size ml_X11_251 ⟨Nat.le_of_ble_eq_true rfl, Nat.le_of_ble_eq_true rfl⟩ rfl rfl (Nat.le_of_ble_eq_true rfl) dX11_isTogether_69 (fun q13 => ?_)
      refine J_aload_n hX dX11_isTogether_72 rfl ?_
      refine J_getr hX hE 0 1 rfl rfl fl_X11_7 dX11_isTogether_73 ?_
      refine J_iconst hX dX11_isTogether_76 k_i4 ?_
      refine J_iload_n hX dX11_isTogether_77 rfl ?_
      refine J_imul hX dX11_isTogether_78 ?_
      refine J_iconst hX dX11_isTogether_79 k_i2 ?_
      refine J_iadd hX dX11_isTogether_80 ?_
      refine J_iald hX hE 1 rfl dX11_isTogether_81 (fun _ => ?_)
      refine J_icmp_gt hX dX11_isTogether_82 (tgt := 110) rfl (fun _ => ?_) (fun _ => ?_)
      · refine J_iconst hX dX11_isTogether_110 k_i0 ?_
        refine J_istore hX dX11_isTogether_111 (Nat.le_of_ble_eq_true rfl) (lv' := [(0, .ref (jad G (nm 0))), (1, .int v1), (2, .int v2), (3, .int x9), (4, .int x10), (5, .int 0), (6, .int v6_53)]) rfl ?_
        refine J_iinc hX dX11_isTogether_113 rfl (congrArg (_ + ·) k_i1) (Nat.le_of_ble_eq_true rfl) (lv' := [(0, .ref (jad G (nm 0))), (1, .int v1), (2, .int v2), (3, .int x9), (4, .int x10), (5, .int 0), (6, .int (v6_53 + 1))]) rfl ?_
        refine J_goto hX dX11_isTogether_116 (tgt := 53) rfl ?_
        exact J_keep [0, 1, 2, 3, 4, 5, 6] rfl (hN53 (0, v6_53 + 1))
      · refine J_iload hX dX11_isTogether_85 rfl ?_
        refine J_iload hX dX11_isTogether_87 rfl ?_
        refine J_isub hX dX11_isTogether_89 ?_
        refine J_cSP hX (C_X11_size hG (x10 - v6_53) σ) mw_X11_size ml_X11_251 ⟨Nat.le_of_ble_eq_true rfl, Nat.le_of_ble_eq_true rfl⟩ rfl rfl (Nat.le_of_ble_eq_true rfl) dX11_isTogether_90 (fun q14 => ?_)
        refine J_aload_n hX dX11_isTogether_93 rfl ?_
        refine J_getr hX hE 0 1 rfl rfl fl_X11_7 dX11_isTogether_94 ?_
        refine J_iconst hX dX11_isTogether_97 k_i4 ?_
        refine J_iload_n hX dX11_isTogether_98 rfl ?_
        refine J_imul hX dX11_isTogether_99 ?_
        refine J_iconst hX dX11_isTogether_100 k_i2 ?_
        refine J_iadd hX dX11_isTogether_101 ?_
        refine J_iald hX hE 1 rfl dX11_isTogether_102 (fun _ => ?_)
        refine J_icmp_gt hX dX11_isTogether_103 (tgt := 110) rfl (fun _ => ?_) (fun _ => ?_)
        · refine J_iconst hX dX11_isTogether_110 k_i0 ?_
          refine J_istore hX dX11_isTogether_111 (Nat.le_of_ble_eq_true rfl) (lv' := [(0, .ref (jad G (nm 0))), (1, .int v1), (2, .int v2), (3, .int x9), (4, .int x10), (5, .int 0), (6, .int v6_53)]) rfl ?_
          refine J_iinc hX dX11_isTogether_113 rfl (congrArg (_ + ·) k_i1) (Nat.le_of_ble_eq_true rfl) (lv' := [(0, .ref (jad G (nm 0))), (1, .int v1), (2, .int v2), (3, .int x9), (4, .int x10), (5, .int 0), (6, .int (v6_53 + 1))]) rfl ?_
          refine J_goto hX dX11_isTogether_116 (tgt := 53) rfl ?_
          exact J_keep [0, 1, 2, 3, 4, 5, 6] rfl (hN53 (0, v6_53 + 1))
        · refine J_iconst hX dX11_isTogether_106 k_i1 ?_
          refine J_goto hX dX11_isTogether_107 (tgt := 111) rfl ?_
          refine J_istore hX dX11_isTogether_111 (Nat.le_of_ble_eq_true rfl) (lv' := [(0, .ref (jad G (nm 0))), (1, .int v1), (2, .int v2), (3, .int x9), (4, .int x10), (5, .int 1), (6, .int v6_53)]) rfl ?_
          refine J_iinc hX dX11_isTogether_113 rfl (congrArg (_ + ·) k_i1) (Nat.le_of_ble_eq_true rfl) (lv' := [(0, .ref (jad G (nm 0))), (1, .int v1), (2, .int v2), (3, .int x9), (4, .int x10), (5, .int 1), (6, .int (v6_53 + 1))]) rfl ?_
          refine J_goto hX dX11_isTogether_116 (tgt := 53) rfl ?_
          exact J_keep [0, 1, 2, 3, 4, 5, 6] rfl (hN53 (1, v6_53 + 1))
theorem mw_X11_isTogether : jMV Y_X11_isTogether 2 := ⟨⟨tw_tb (List.mem_of_getElem? (i := 1471) (by decide +kernel)) (by decide +kernel), tw_pv (List.mem_of_getElem? (i := 63) (by decide +kernel)) (by decide +kernel), tw_tb (List.mem_of_getElem? (i := 13) (by decide +kernel)) (by decide +kernel), tw_tb (List.mem_of_getElem? (i := 1472) (by decide +kernel)) (by decide +kernel)⟩, ⟨rfl, rfl⟩, by decide +kernel, by decide +kernel, by decide +kernel⟩
-- X11_isAlone
noncomputable def f_X11_isAlone_L4 (nm : Nat → Nat) (v1 : Int32) (σ : jS) (s : (Int32 × Int32)) : Option ((Int32 × Int32) ⊕ Int32) :=
  match s with
  | (v2, v3) =>
    if v1 ≤ v3 then
      some (.inr v2)
    else
      if v2 = 0 then
        some (.inl (0, v3 + 1))
      else
        gd (vp_in v1 10) (
          gd (vp_in v3 10) (
            (f_X11_isTogether nm (g_i σ (nm 20) v1.toNatClampNeg) (g_i σ (nm 20) v3.toNatClampNeg) σ).bind (fun q1 =>
              if q1 = 0 then
                some (.inl (1, v3 + 1))
              else
                some (.inl (0, v3 + 1)))))
noncomputable def f_X11_isAlone (nm : Nat → Nat) (v1 : Int32) (σ : jS) : Option Int32 :=
  (lp (f_X11_isAlone_L4 nm v1 σ) fu (1, 0)).bind (fun e2 =>
    gd (jz e2) (some e2))
abbrev Y_X11_isAlone : jY := (yX11_isAlone, cX11_isAlone, 4, some .boolean, { frames := 2, cells := 0, slots := 0, locals := 47 })
theorem C_X11_isAlone {l : Launch} {G : jG} {nm : Nat → Nat} (hG : jWL G) (hE : jE G nm LS_X11) (v1 : Int32) (σ : jS) : jC (r_P σ) l G Y_X11_isAlone [.ref (jad G (nm 0)), .int v1] σ (f_X11_isAlone nm v1 σ) := by
  refine jw_met hG pn_X11 (Nat.le_of_ble_eq_true rfl) ⟨rfl, rfl⟩ ?_
  intro X hX hM
  have hX : jB X l G cX11_isAlone RX11 4 { frames := 2, cells := 0, slots := 0, locals := 47 } := hX
  have hM : jM X (some .boolean) := hM
  show J X 0 [(0, .ref (jad G (nm 0))), (1, .int v1)] [] σ (f_X11_isAlone nm v1 σ) (jk (r_P σ) X)
  unfold f_X11_isAlone
  refine J_iconst hX dX11_isAlone_0 k_i1 ?_
  refine J_istore_n hX dX11_isAlone_1 (Nat.le_of_ble_eq_true rfl) (lv' := [(0, .ref (jad G (nm 0))), (1, .int v1), (2, .int 1)]) rfl ?_
  refine J_iconst hX dX11_isAlone_2 k_i0 ?_
  refine J_istore_n hX dX11_isAlone_3 (Nat.le_of_ble_eq_true rfl) (lv' := [(0, .ref (jad G (nm 0))), (1, .int v1), (2, .int 1), (3, .int 0)]) rfl ?_
  refine J_keep [0, 1, 2, 3] (lv' := [(0, .ref (jad G (nm 0))), (1, .int v1), (2, .int 1), (3, .int 0)]) rfl ?_
  refine J_lp (pc := 4) (s0 := (1, 0)) (fun (s : (Int32 × Int32)) => [(0, .ref (jad G (nm 0))), (1, .int v1), (2, .int (s.1)), (3, .int (s.2))]) (fun (s : (Int32 × Int32)) => σ) ?_
  intro KK4 hN4 hQ4 z4
  obtain ⟨v2_4, v3_4⟩ := z4
  show J X 4 [(0, .ref (jad G (nm 0))), (1, .int v1), (2, .int v2_4), (3, .int v3_4)] [] σ (f_X11_isAlone_L4 nm v1 σ (v2_4, v3_4)) KK4
  unfold f_X11_isAlone_L4
  refine J_iload_n hX dX11_isAlone_4 rfl ?_
  refine J_iload_n hX dX11_isAlone_5 rfl ?_
  refine J_icmp_ge hX dX11_isAlone_6 (tgt := 44) rfl (fun _ => ?_) (fun _ => ?_)
  · refine hQ4 _ _ _ _ _ ?_
    refine J_iload_n hX dX11_isAlone_44 rfl ?_
    refine J_gd (fun hz => ?_)
    exact J_zretP hX hM (jz_nar hz) dX11_isAlone_45
  · refine J_iload_n hX dX11_isAlone_9 rfl ?_
    refine J_if_eq hX dX11_isAlone_10 (tgt := 36) rfl (fun _ => ?_) (fun _ => ?_)
    · refine J_iconst hX dX11_isAlone_36 k_i0 ?_
      refine J_istore_n hX dX11_isAlone_37 (Nat.le_of_ble_eq_true rfl) (lv' := [(0, .ref (jad G (nm 0))), (1, .int v1), (2, .int 0), (3, .int v3_4)]) rfl ?_
      refine J_iinc hX dX11_isAlone_38 rfl (congrArg (_ + ·) k_i1) (Nat.le_of_ble_eq_true rfl) (lv' := [(0, .ref (jad G (nm 0))), (1, .int v1), (2, .int 0), (3, .int (v3_4 + 1))]) rfl ?_
      refine J_goto hX dX11_isAlone_41 (tgt := 4) rfl ?_
      exact J_keep [0, 1, 2, 3] rfl (hN4 (0, v3_4 + 1))
    · refine J_aload_n hX dX11_isAlone_13 rfl ?_
      refine J_aload_n hX dX11_isAlone_14 rfl ?_
      refine J_getr hX hE 0 44 rfl rfl fl_X11_83 dX11_isAlone_15 ?_
      refine J_iload_n hX dX11_isAlone_18 rfl ?_
      refine J_iald hX hE 20 rfl dX11_isAlone_19 (fun _ => ?_)
      refine J_aload_n hX dX11_isAlone_20 rfl ?_
      refine J_getr hX hE 0 44 rfl rfl fl_X11_83 dX11_isAlone_21 ?_
      refine J_iload_n hX dX11_isAlone_24 rfl ?_
      refine J_iald hX hE 20 rfl dX11_isAlone_25 (fun _ => ?_)
      refine J_cVP hX hE 0 (C_X11_isTogether hG hE (g_i σ (nm 20) v1.toNatClampNeg) (g_i σ (nm 20) v3_4.toNatClampNeg) σ) mw_X11_isTogether ml_X11_329 rfl rfl rfl ⟨Nat.le_of_ble_eq_true rfl, Nat.le_of_ble_eq_true rfl⟩ rfl rfl (Nat.le_of_ble_eq_true rfl) dX11_isAlone_26 (fun q3 => ?_)
      refine J_if_ne hX dX11_isAlone_29 (tgt := 36) rfl (fun _ => ?_) (fun _ => ?_)
      · refine J_iconst hX dX11_isAlone_36 k_i0 ?_
        refine J_istore_n hX dX11_isAlone_37 (Nat.le_of_ble_eq_true rfl) (lv' := [(0, .ref (jad G (nm 0))), (1, .int v1), (2, .int 0), (3, .int v3_4)]) rfl ?_
        refine J_iinc hX dX11_isAlone_38 rfl (congrArg (_ + ·) k_i1) (Nat.le_of_ble_eq_true rfl) (lv' := [(0, .ref (jad G (nm 0))), (1, .int v1), (2, .int 0), (3, .int (v3_4 + 1))]) rfl ?_
        refine J_goto hX dX11_isAlone_41 (tgt := 4) rfl ?_
        exact J_keep [0, 1, 2, 3] rfl (hN4 (0, v3_4 + 1))
      · refine J_iconst hX dX11_isAlone_32 k_i1 ?_
        refine J_goto hX dX11_isAlone_33 (tgt := 37) rfl ?_
        refine J_istore_n hX dX11_isAlone_37 (Nat.le_of_ble_eq_true rfl) (lv' := [(0, .ref (jad G (nm 0))), (1, .int v1), (2, .int 1), (3, .int v3_4)]) rfl ?_
        refine J_iinc hX dX11_isAlone_38 rfl (congrArg (_ + ·) k_i1) (Nat.le_of_ble_eq_true rfl) (lv' := [(0, .ref (jad G (nm 0))), (1, .int v1), (2, .int 1), (3, .int (v3_4 + 1))]) rfl ?_
        refine J_goto hX dX11_isAlone_41 (tgt := 4) rfl ?_
        exact J_keep [0, 1, 2, 3] rfl (hN4 (1, v3_4 + 1))
theorem mw_X11_isAlone : jMV Y_X11_isAlone 1 := ⟨⟨tw_tb (List.mem_of_getElem? (i := 1467) (by decide +kernel)) (by decide +kernel), tw_pv (List.mem_of_getElem? (i := 62) (by decide +kernel)) (by decide +kernel), tw_tb (List.mem_of_getElem? (i := 13) (by decide +kernel)) (by decide +kernel), tw_tb (List.mem_of_getElem? (i := 1468) (by decide +kernel)) (by decide +kernel)⟩, ⟨rfl, rfl⟩, by decide +kernel, by decide +kernel, by decide +kernel⟩
-- X11_fileAll
noncomputable def f_X11_fileAll_L12 (nm : Nat → Nat) (v1 : Int32) (s : (Int32 × jS)) : Option ((Int32 × jS) ⊕ (Int32 × jS)) :=
  match s with
  | (v2, σ) =>
    if v2 ≤ 0 then
      some (.inr (v2, σ))
    else
      gd (vp_in (v2 - 1) 10) (
        gd (vp_in ((4 * (g_i σ (nm 20) (v2 - 1).toNatClampNeg)) + 1) 40) (
          gd (vp_in ((4 * v1) + 1) 40) (
            if (g_i σ (nm 1) ((4 * (g_i σ (nm 20) (v2 - 1).toNatClampNeg)) + 1).toNatClampNeg) ≤ (g_i σ (nm 1) ((4 * v1) + 1).toNatClampNeg) then
              some (.inr (v2, σ))
            else
              gd (vp_in (v2 - 1) 10) (
                gd (vp_in v2 10) (bd (s_i σ (nm 20) v2.toNatClampNeg (g_i σ (nm 20) (v2 - 1).toNatClampNeg)) (fun s1 =>
                  some (.inl (v2 + (-1), s1))))))))
noncomputable def f_X11_fileAll_J66 (nm : Nat → Nat) (v1 : Int32) (v2 : Int32) (σ : jS) : Option ((Int32 × jS) ⊕ jS) :=
  gd (vp_in v2 10) (bd (s_i σ (nm 20) v2.toNatClampNeg v1) (fun s4 =>
    some (.inl (v1 + 1, s4))))
noncomputable def f_X11_fileAll_L2 (nm : Nat → Nat) (s : (Int32 × jS)) : Option ((Int32 × jS) ⊕ jS) :=
  match s with
  | (v1, σ) =>
    if (g_i σ (nm 0) 0) ≤ v1 then
      some (.inr σ)
    else
      (lp (f_X11_fileAll_L12 nm v1) fu (v1, σ)).bind (fun x => match x with
      | (e2, s3) =>
        f_X11_fileAll_J66 nm v1 e2 s3)
noncomputable def f_X11_fileAll_L138 (nm : Nat → Nat) (v1 : Int32) (v3 : Int32) (v4 : Int32) (σ : jS) : Option (jS ⊕ jS) :=
  gd (vp_in v4 10) (
    if 64 ≤ (g_i σ (nm 21) v4.toNatClampNeg) then
      some (.inr σ)
    else
      (f_X11_isAlone nm v3 σ).bind (fun q9 =>
        if q9 = 0 then
          gd (vp_in v4 10) (
            gd (vp_in v4 10) (bd (s_i σ (nm 21) v4.toNatClampNeg ((g_i σ (nm 21) v4.toNatClampNeg) + 1)) (fun s10 =>
              some (.inl s10))))
        else
          some (.inr σ)))
noncomputable def f_X11_fileAll_J172 (nm : Nat → Nat) (v1 : Int32) (v3 : Int32) (v4 : Int32) (σ : jS) : Option ((Int32 × Int32 × Int32 × jS) ⊕ ((Int32 × jS) ⊕ (Int32 × jS))) :=
  gd (vp_in v4 10) (
    if (g_i σ (nm 21) v4.toNatClampNeg) < 64 then
      gd (vp_in v4 10) (
        gd (vp_in ((4 * v4) + 1) 40) (
          bd (v1 + ((g_i σ (nm 21) v4.toNatClampNeg) - (g_i σ (nm 1) ((4 * v4) + 1).toNatClampNeg))) (fun x12 =>
            gd (vp_in v4 10) (
              bd (g_i σ (nm 21) v4.toNatClampNeg) (fun x13 =>
                some (.inl (x12, x13, v3 + 1, σ)))))))
    else
      some (.inr (.inr ((-1), σ))))
noncomputable def f_X11_fileAll_J137 (nm : Nat → Nat) (v1 : Int32) (v3 : Int32) (v4 : Int32) (t1 : Int32) (t2 : Int32) (σ : jS) : Option ((Int32 × Int32 × Int32 × jS) ⊕ ((Int32 × jS) ⊕ (Int32 × jS))) :=
  gd (vp_in t1 10) (bd (s_i σ (nm 21) t1.toNatClampNeg t2) (fun s8 =>
    (lp (f_X11_fileAll_L138 nm v1 v3 v4) fu s8).bind (fun s11 =>
      f_X11_fileAll_J172 nm v1 v3 v4 s11)))
noncomputable def f_X11_fileAll_L85 (nm : Nat → Nat) (s : (Int32 × Int32 × Int32 × jS)) : Option ((Int32 × Int32 × Int32 × jS) ⊕ ((Int32 × jS) ⊕ (Int32 × jS))) :=
  match s with
  | (v1, v2, v3, σ) =>
    if (g_i σ (nm 0) 0) ≤ v3 then
      some (.inr (.inl (v1, σ)))
    else
      gd (vp_in v3 10) (
        bd (g_i σ (nm 20) v3.toNatClampNeg) (fun x6 =>
          gd (vp_in ((4 * x6) + 1) 40) (
            (if (g_i σ (nm 1) ((4 * x6) + 1).toNatClampNeg) ≤ v2 then
              some v2
            else
              gd (vp_in ((4 * x6) + 1) 40) (
                some (g_i σ (nm 1) ((4 * x6) + 1).toNatClampNeg))).bind (fun y7 =>
              f_X11_fileAll_J137 nm v1 v3 x6 x6 y7 σ))))
noncomputable def f_X11_fileAll (nm : Nat → Nat) (σ : jS) : Option (Int32 × jS) :=
  (lp (f_X11_fileAll_L2 nm) fu (0, σ)).bind (fun s5 =>
    (lp (f_X11_fileAll_L85 nm) fu (0, 0, 0, s5)).bind (fun x => match x with
    | .inl (e14, s15) =>
      some (e14, s15)
    | .inr a => some a))
abbrev Y_X11_fileAll : jY := (yX11_fileAll, cX11_fileAll, 5, some .int, { frames := 3, cells := 0, slots := 0, locals := 70 })
theorem C_X11_fileAll {l : Launch} {G : jG} {nm : Nat → Nat} (hG : jWL G) (hE : jE G nm LS_X11) (σ : jS) : jC r_I l G Y_X11_fileAll [.ref (jad G (nm 0))] σ (f_X11_fileAll nm σ) := by
  refine jw_met hG pn_X11 (Nat.le_of_ble_eq_true rfl) ⟨rfl, rfl⟩ ?_
  intro X hX hM
  have hX : jB X l G cX11_fileAll RX11 5 { frames := 3, cells := 0, slots := 0, locals := 70 } := hX
  have hM : jM X (some .int) := hM
  show J X 0 [(0, .ref (jad G (nm 0)))] [] σ (f_X11_fileAll nm σ) (jk r_I X)
  unfold f_X11_fileAll
  refine J_iconst hX dX11_fileAll_0 k_i0 ?_
  refine J_istore_n hX dX11_fileAll_1 (Nat.le_of_ble_eq_true rfl) (lv' := [(0, .ref (jad G (nm 0))), (1, .int 0)]) rfl ?_
  refine J_keep [0, 1] (lv' := [(0, .ref (jad G (nm 0))), (1, .int 0)]) rfl ?_
  refine J_lp (pc := 2) (s0 := (0, σ)) (fun (s : (Int32 × jS)) => [(0, .ref (jad G (nm 0))), (1, .int (s.1))]) (fun (s : (Int32 × jS)) => s.2) ?_
  intro KK2 hN2 hQ2 z2
  obtain ⟨v1_2, σ_2⟩ := z2
  show J X 2 [(0, .ref (jad G (nm 0))), (1, .int v1_2)] [] σ_2 (f_X11_fileAll_L2 nm (v1_2, σ_2)) KK2
  have hJ66 : ∀ (v1_j66 : Int32) (v2_j66 : Int32) (σ_j66 : jS), J X 66 [(0, .ref (jad G (nm 0))), (1, .int v1_j66), (2, .int v2_j66)] [] σ_j66 (f_X11_fileAll_J66 nm v1_j66 v2_j66 σ_j66) KK2 := by
    intro v1_j66 v2_j66 σ_j66
    unfold f_X11_fileAll_J66
    refine J_aload_n hX dX11_fileAll_66 rfl ?_
    refine J_getr hX hE 0 44 rfl rfl fl_X11_83 dX11_fileAll_67 ?_
    refine J_iload_n hX dX11_fileAll_70 rfl ?_
    refine J_iload_n hX dX11_fileAll_71 rfl ?_
    refine J_iast hX hE 20 rfl dX11_fileAll_72 (fun _ => ?_)
    refine J_bdS (fun s16 => ?_)
    refine J_iinc hX dX11_fileAll_73 rfl (congrArg (_ + ·) k_i1) (Nat.le_of_ble_eq_true rfl) (lv' := [(0, .ref (jad G (nm 0))), (1, .int (v1_j66 + 1)), (2, .int v2_j66)]) rfl ?_
    refine J_goto hX dX11_fileAll_76 (tgt := 2) rfl ?_
    exact J_keep [0, 1] rfl (hN2 (v1_j66 + 1, s16))
  unfold f_X11_fileAll_L2
  refine J_iload_n hX dX11_fileAll_2 rfl ?_
  refine J_aload_n hX dX11_fileAll_3 rfl ?_
  refine J_geti hX hE 0 0 rfl rfl fl_X11_104 dX11_fileAll_4 ?_
  refine J_icmp_ge hX dX11_fileAll_7 (tgt := 79) rfl (fun _ => ?_) (fun _ => ?_)
  · refine hQ2 _ _ _ _ _ ?_
    refine J_iconst hX dX11_fileAll_79 k_i0 ?_
    refine J_istore_n hX dX11_fileAll_80 (Nat.le_of_ble_eq_true rfl) (lv' := [(0, .ref (jad G (nm 0))), (1, .int 0)]) rfl ?_
    refine J_iconst hX dX11_fileAll_81 k_i0 ?_
    refine J_istore_n hX dX11_fileAll_82 (Nat.le_of_ble_eq_true rfl) (lv' := [(0, .ref (jad G (nm 0))), (1, .int 0), (2, .int 0)]) rfl ?_
    refine J_iconst hX dX11_fileAll_83 k_i0 ?_
    refine J_istore_n hX dX11_fileAll_84 (Nat.le_of_ble_eq_true rfl) (lv' := [(0, .ref (jad G (nm 0))), (1, .int 0), (2, .int 0), (3, .int 0)]) rfl ?_
    refine J_keep [0, 1, 2, 3] (lv' := [(0, .ref (jad G (nm 0))), (1, .int 0), (2, .int 0), (3, .int 0)]) rfl ?_
    refine J_lp (pc := 85) (s0 := (0, 0, 0, σ_2)) (fun (s : (Int32 × Int32 × Int32 × jS)) => [(0, .ref (jad G (nm 0))), (1, .int (s.1)), (2, .int (s.2.1)), (3, .int (s.2.2.1))]) (fun (s : (Int32 × Int32 × Int32 × jS)) => s.2.2.2) ?_
    intro KK85 hN85 hQ85 z85
    obtain ⟨v1_85, v2_85, v3_85, σ_85⟩ := z85
    show J X 85 [(0, .ref (jad G (nm 0))), (1, .int v1_85), (2, .int v2_85), (3, .int v3_85)] [] σ_85 (f_X11_fileAll_L85 nm (v1_85, v2_85, v3_85, σ_85)) KK85
    have hJ172 : ∀ (v1_j172 : Int32) (v3_j172 : Int32) (v4_j172 : Int32) (σ_j172 : jS), J X 172 [(0, .ref (jad G (nm 0))), (1, .int v1_j172), (3, .int v3_j172), (4, .int v4_j172)] [] σ_j172 (f_X11_fileAll_J172 nm v1_j172 v3_j172 v4_j172 σ_j172) KK85 := by
      intro v1_j172 v3_j172 v4_j172 σ_j172
      unfold f_X11_fileAll_J172
      refine J_aload_n hX dX11_fileAll_172 rfl ?_
      refine J_getr hX hE 0 45 rfl rfl fl_X11_86 dX11_fileAll_173 ?_
      refine J_iload hX dX11_fileAll_176 rfl ?_
      refine J_iald hX hE 21 rfl dX11_fileAll_178 (fun _ => ?_)
      refine J_bipush hX dX11_fileAll_179 kb_64 ?_
      refine J_icmp_lt hX dX11_fileAll_181 (tgt := 186) rfl (fun _ => ?_) (fun _ => ?_)
      · refine J_iload_n hX dX11_fileAll_186 rfl ?_
        refine J_aload_n hX dX11_fileAll_187 rfl ?_
        refine J_getr hX hE 0 45 rfl rfl fl_X11_86 dX11_fileAll_188 ?_
        refine J_iload hX dX11_fileAll_191 rfl ?_
        refine J_iald hX hE 21 rfl dX11_fileAll_193 (fun _ => ?_)
        refine J_aload_n hX dX11_fileAll_194 rfl ?_
        refine J_getr hX hE 0 1 rfl rfl fl_X11_7 dX11_fileAll_195 ?_
        refine J_iconst hX dX11_fileAll_198 k_i4 ?_
        refine J_iload hX dX11_fileAll_199 rfl ?_
        refine J_imul hX dX11_fileAll_201 ?_
        refine J_iconst hX dX11_fileAll_202 k_i1 ?_
        refine J_iadd hX dX11_fileAll_203 ?_
        refine J_iald hX hE 1 rfl dX11_fileAll_204 (fun _ => ?_)
        refine J_isub hX dX11_fileAll_205 ?_
        refine J_iadd hX dX11_fileAll_206 ?_
        refine J_bdI (fun x17 => ?_)
        refine J_istore_n hX dX11_fileAll_207 (Nat.le_of_ble_eq_true rfl) (lv' := [(0, .ref (jad G (nm 0))), (1, .int x17), (3, .int v3_j172), (4, .int v4_j172)]) rfl ?_
        refine J_aload_n hX dX11_fileAll_208 rfl ?_
        refine J_getr hX hE 0 45 rfl rfl fl_X11_86 dX11_fileAll_209 ?_
        refine J_iload hX dX11_fileAll_212 rfl ?_
        refine J_iald hX hE 21 rfl dX11_fileAll_214 (fun _ => ?_)
        refine J_bdI (fun x18 => ?_)
        refine J_istore_n hX dX11_fileAll_215 (Nat.le_of_ble_eq_true rfl) (lv' := [(0, .ref (jad G (nm 0))), (1, .int x17), (2, .int x18), (3, .int v3_j172), (4, .int v4_j172)]) rfl ?_
        refine J_iinc hX dX11_fileAll_216 rfl (congrArg (_ + ·) k_i1) (Nat.le_of_ble_eq_true rfl) (lv' := [(0, .ref (jad G (nm 0))), (1, .int x17), (2, .int x18), (3, .int (v3_j172 + 1)), (4, .int v4_j172)]) rfl ?_
        refine J_goto hX dX11_fileAll_219 (tgt := 85) rfl ?_
        exact J_keep [0, 1, 2, 3] rfl (hN85 (x17, x18, v3_j172 + 1, σ_j172))
      · refine J_iconst hX dX11_fileAll_184 k_im1 ?_
        refine hQ85 _ _ _ _ _ ?_
        exact J_iret hX hM dX11_fileAll_185
    have hJ137 : ∀ (v1_j137 : Int32) (v3_j137 : Int32) (v4_j137 : Int32) (t1_j137 : Int32) (t2_j137 : Int32) (σ_j137 : jS), J X 137 [(0, .ref (jad G (nm 0))), (1, .int v1_j137), (3, .int v3_j137), (4, .int v4_j137)] [.int t2_j137, .int t1_j137, .ref (jad G (nm 21))] σ_j137 (f_X11_fileAll_J137 nm v1_j137 v3_j137 v4_j137 t1_j137 t2_j137 σ_j137) KK85 := by
      intro v1_j137 v3_j137 v4_j137 t1_j137 t2_j137 σ_j137
      unfold f_X11_fileAll_J137
      refine J_iast hX hE 21 rfl dX11_fileAll_137 (fun _ => ?_)
      refine J_bdS (fun s19 => ?_)
      refine J_keep [0, 1, 2, 3] (lv' := [(0, .ref (jad G (nm 0))), (1, .int v1_j137), (3, .int v3_j137), (4, .int v4_j137)]) rfl ?_
      refine J_lp (pc := 138) (s0 := s19) (fun (s : jS) => [(0, .ref (jad G (nm 0))), (1, .int v1_j137), (3, .int v3_j137), (4, .int v4_j137)]) (fun (s : jS) => s) ?_
      intro KK138 hN138 hQ138 z138
      obtain ⟨σ_138, rfl⟩ : ∃ y, y = z138 := ⟨_, rfl⟩
      show J X 138 [(0, .ref (jad G (nm 0))), (1, .int v1_j137), (3, .int v3_j137), (4, .int v4_j137)] [] σ_138 (f_X11_fileAll_L138 nm v1_j137 v3_j137 v4_j137 σ_138) KK138
      unfold f_X11_fileAll_L138
      refine J_aload_n hX dX11_fileAll_138 rfl ?_
      refine J_getr hX hE 0 45 rfl rfl fl_X11_86 dX11_fileAll_139 ?_
      refine J_iload hX dX11_fileAll_142 rfl ?_
      refine J_iald hX hE 21 rfl dX11_fileAll_144 (fun _ => ?_)
      refine J_bipush hX dX11_fileAll_145 kb_64 ?_
      refine J_icmp_ge hX dX11_fileAll_147 (tgt := 172) rfl (fun _ => ?_) (fun _ => ?_)
      · refine hQ138 _ _ _ _ _ ?_
        exact J_keep [0, 1, 2, 3] rfl (hJ172 v1_j137 v3_j137 v4_j137 σ_138)
      · refine J_aload_n hX dX11_fileAll_150 rfl ?_
        refine J_iload_n hX dX11_fileAll_151 rfl ?_
        refine J_cVP hX hE 0 (C_X11_isAlone hG hE v3_j137 σ_138) mw_X11_isAlone ml_X11_332 rfl rfl rfl ⟨Nat.le_of_ble_eq_true rfl, Nat.le_of_ble_eq_true rfl⟩ rfl rfl (Nat.le_of_ble_eq_true rfl) dX11_fileAll_152 (fun q20 => ?_)
        refine J_if_ne hX dX11_fileAll_155 (tgt := 172) rfl (fun _ => ?_) (fun _ => ?_)
        · refine hQ138 _ _ _ _ _ ?_
          exact J_keep [0, 1, 2, 3] rfl (hJ172 v1_j137 v3_j137 v4_j137 σ_138)
        · refine J_aload_n hX dX11_fileAll_158 rfl ?_
          refine J_getr hX hE 0 45 rfl rfl fl_X11_86 dX11_fileAll_159 ?_
          refine J_iload hX dX11_fileAll_162 rfl ?_
          refine J_dup2 hX dX11_fileAll_164 rfl rfl ?_
          refine J_iald hX hE 21 rfl dX11_fileAll_165 (fun _ => ?_)
          refine J_iconst hX dX11_fileAll_166 k_i1 ?_
          refine J_iadd hX dX11_fileAll_167 ?_
          refine J_iast hX hE 21 rfl dX11_fileAll_168 (fun _ => ?_)
          refine J_bdS (fun s21 => ?_)
          refine J_goto hX dX11_fileAll_169 (tgt := 138) rfl ?_
          exact J_keep [0, 1, 2, 3] rfl (hN138 s21)
    unfold f_X11_fileAll_L85
    refine J_iload_n hX dX11_fileAll_85 rfl ?_
    refine J_aload_n hX dX11_fileAll_86 rfl ?_
    refine J_geti hX hE 0 0 rfl rfl fl_X11_104 dX11_fileAll_87 ?_
    refine J_icmp_ge hX dX11_fileAll_90 (tgt := 222) rfl (fun _ => ?_) (fun _ => ?_)
    · refine hQ85 _ _ _ _ _ ?_
      refine J_iload_n hX dX11_fileAll_222 rfl ?_
      exact J_iret hX hM dX11_fileAll_223
    · refine J_aload_n hX dX11_fileAll_93 rfl ?_
      refine J_getr hX hE 0 44 rfl rfl fl_X11_83 dX11_fileAll_94 ?_
      refine J_iload_n hX dX11_fileAll_97 rfl ?_
      refine J_iald hX hE 20 rfl dX11_fileAll_98 (fun _ => ?_)
      refine J_bdI (fun x22 => ?_)
      refine J_istore hX dX11_fileAll_99 (Nat.le_of_ble_eq_true rfl) (lv' := [(0, .ref (jad G (nm 0))), (1, .int v1_85), (2, .int v2_85), (3, .int v3_85), (4, .int x22)]) rfl ?_
      refine J_aload_n hX dX11_fileAll_101 rfl ?_
      refine J_getr hX hE 0 45 rfl rfl fl_X11_86 dX11_fileAll_102 ?_
      refine J_iload hX dX11_fileAll_105 rfl ?_
      refine J_aload_n hX dX11_fileAll_107 rfl ?_
      refine J_getr hX hE 0 1 rfl rfl fl_X11_7 dX11_fileAll_108 ?_
      refine J_iconst hX dX11_fileAll_111 k_i4 ?_
      refine J_iload hX dX11_fileAll_112 rfl ?_
      refine J_imul hX dX11_fileAll_114 ?_
      refine J_iconst hX dX11_fileAll_115 k_i1 ?_
      refine J_iadd hX dX11_fileAll_116 ?_
      refine J_iald hX hE 1 rfl dX11_fileAll_117 (fun _ => ?_)
      refine J_iload_n hX dX11_fileAll_118 rfl ?_
      refine J_blk ?_
      intro KB119 hB119
      refine J_icmp_le hX dX11_fileAll_119 (tgt := 136) rfl (fun _ => ?_) (fun _ => ?_)
      · refine J_iload_n hX dX11_fileAll_136 rfl ?_
        refine hB119 _ _ _ _ _ ?_
        exact J_keep [0, 1, 3, 4] rfl (hJ137 v1_85 v3_85 x22 x22 v2_85 σ_85)
      · refine J_aload_n hX dX11_fileAll_122 rfl ?_
        refine J_getr hX hE 0 1 rfl rfl fl_X11_7 dX11_fileAll_123 ?_
        refine J_iconst hX dX11_fileAll_126 k_i4 ?_
        refine J_iload hX dX11_fileAll_127 rfl ?_
        refine J_imul hX dX11_fileAll_129 ?_
        refine J_iconst hX dX11_fileAll_130 k_i1 ?_
        refine J_iadd hX dX11_fileAll_131 ?_
        refine J_iald hX hE 1 rfl dX11_fileAll_132 (fun _ => ?_)
        refine J_goto hX dX11_fileAll_133 (tgt := 137) rfl ?_
        refine hB119 _ _ _ _ _ ?_
        exact J_keep [0, 1, 3, 4] rfl (hJ137 v1_85 v3_85 x22 x22 (g_i σ_85 (nm 1) ((4 * x22) + 1).toNatClampNeg) σ_85)
  · refine J_iload_n hX dX11_fileAll_10 rfl ?_
    refine J_istore_n hX dX11_fileAll_11 (Nat.le_of_ble_eq_true rfl) (lv' := [(0, .ref (jad G (nm 0))), (1, .int v1_2), (2, .int v1_2)]) rfl ?_
    refine J_keep [0, 1, 2] (lv' := [(0, .ref (jad G (nm 0))), (1, .int v1_2), (2, .int v1_2)]) rfl ?_
    refine J_lp (pc := 12) (s0 := (v1_2, σ_2)) (fun (s : (Int32 × jS)) => [(0, .ref (jad G (nm 0))), (1, .int v1_2), (2, .int (s.1))]) (fun (s : (Int32 × jS)) => s.2) ?_
    intro KK12 hN12 hQ12 z12
    obtain ⟨v2_12, σ_12⟩ := z12
    show J X 12 [(0, .ref (jad G (nm 0))), (1, .int v1_2), (2, .int v2_12)] [] σ_12 (f_X11_fileAll_L12 nm v1_2 (v2_12, σ_12)) KK12
    unfold f_X11_fileAll_L12
    refine J_iload_n hX dX11_fileAll_12 rfl ?_
    refine J_if_le hX dX11_fileAll_13 (tgt := 66) rfl (fun _ => ?_) (fun _ => ?_)
    · refine hQ12 _ _ _ _ _ ?_
      exact J_keep [0, 1, 2] rfl (hJ66 v1_2 v2_12 σ_12)
    · refine J_aload_n hX dX11_fileAll_16 rfl ?_
      refine J_getr hX hE 0 1 rfl rfl fl_X11_7 dX11_fileAll_17 ?_
      refine J_iconst hX dX11_fileAll_20 k_i4 ?_
      refine J_aload_n hX dX11_fileAll_21 rfl ?_
      refine J_getr hX hE 0 44 rfl rfl fl_X11_83 dX11_fileAll_22 ?_
      refine J_iload_n hX dX11_fileAll_25 rfl ?_
      refine J_iconst hX dX11_fileAll_26 k_i1 ?_
      refine J_isub hX dX11_fileAll_27 ?_
      refine J_iald hX hE 20 rfl dX11_fileAll_28 (fun _ => ?_)
      refine J_imul hX dX11_fileAll_29 ?_
      refine J_iconst hX dX11_fileAll_30 k_i1 ?_
      refine J_iadd hX dX11_fileAll_31 ?_
      refine J_iald hX hE 1 rfl dX11_fileAll_32 (fun _ => ?_)
      refine J_aload_n hX dX11_fileAll_33 rfl ?_
      refine J_getr hX hE 0 1 rfl rfl fl_X11_7 dX11_fileAll_34 ?_
      refine J_iconst hX dX11_fileAll_37 k_i4 ?_
      refine J_iload_n hX dX11_fileAll_38 rfl ?_
      refine J_imul hX dX11_fileAll_39 ?_
      refine J_iconst hX dX11_fileAll_40 k_i1 ?_
      refine J_iadd hX dX11_fileAll_41 ?_
      refine J_iald hX hE 1 rfl dX11_fileAll_42 (fun _ => ?_)
      refine J_icmp_le hX dX11_fileAll_43 (tgt := 66) rfl (fun _ => ?_) (fun _ => ?_)
      · refine hQ12 _ _ _ _ _ ?_
        exact J_keep [0, 1, 2] rfl (hJ66 v1_2 v2_12 σ_12)
      · refine J_aload_n hX dX11_fileAll_46 rfl ?_
        refine J_getr hX hE 0 44 rfl rfl fl_X11_83 dX11_fileAll_47 ?_
        refine J_iload_n hX dX11_fileAll_50 rfl ?_
        refine J_aload_n hX dX11_fileAll_51 rfl ?_
        refine J_getr hX hE 0 44 rfl rfl fl_X11_83 dX11_fileAll_52 ?_
        refine J_iload_n hX dX11_fileAll_55 rfl ?_
        refine J_iconst hX dX11_fileAll_56 k_i1 ?_
        refine J_isub hX dX11_fileAll_57 ?_
        refine J_iald hX hE 20 rfl dX11_fileAll_58 (fun _ => ?_)
        refine J_iast hX hE 20 rfl dX11_fileAll_59 (fun _ => ?_)
        refine J_bdS (fun s23 => ?_)
        refine J_iinc hX dX11_fileAll_60 rfl (congrArg (_ + ·) k_im1) (Nat.le_of_ble_eq_true rfl) (lv' := [(0, .ref (jad G (nm 0))), (1, .int v1_2), (2, .int (v2_12 + (-1)))]) rfl ?_
        refine J_goto hX dX11_fileAll_63 (tgt := 12) rfl ?_
        exact J_keep [0, 1, 2] rfl (hN12 (v2_12 + (-1), s23))
theorem mw_X11_fileAll : jMV Y_X11_fileAll 0 := ⟨⟨tw_tb (List.mem_of_getElem? (i := 1463) (by decide +kernel)) (by decide +kernel), tw_pv (List.mem_of_getElem? (i := 61) (by decide +kernel)) (by decide +kernel), tw_tb (List.mem_of_getElem? (i := 13) (by decide +kernel)) (by decide +kernel), tw_tb (List.mem_of_getElem? (i := 1464) (by decide +kernel)) (by decide +kernel)⟩, ⟨rfl, rfl⟩, by decide +kernel, by decide +kernel, by decide +kernel⟩
-- X11_alone
noncomputable def f_X11_alone_J17 (nm : Nat → Nat) (v1 : Int32) (σ : jS) : Option (Int32 × jS) :=
  (f_X11_fileAll nm σ).bind (fun x => match x with
  | (q1, s2) =>
    if q1 < 0 then
      some (q1, s2)
    else
      if v1 = (-1) then
        some (q1, s2)
      else
        gd (vp_in v1 10) (
          some (g_i s2 (nm 21) v1.toNatClampNeg, s2)))
noncomputable def f_X11_alone (nm : Nat → Nat) (v1 : Int32) (σ : jS) : Option (Int32 × jS) :=
  if v1 = (-1) then
    f_X11_alone_J17 nm v1 σ
  else
    (f_X11_isLamp nm v1 σ).bind (fun q3 =>
      if q3 = 0 then
        some ((-1001), σ)
      else
        f_X11_alone_J17 nm v1 σ)
abbrev Y_X11_alone : jY := (yX11_alone, cX11_alone, 3, some .int, { frames := 4, cells := 0, slots := 0, locals := 94 })
theorem C_X11_alone {l : Launch} {G : jG} {nm : Nat → Nat} (hG : jWL G) (hE : jE G nm LS_X11) (v1 : Int32) (σ : jS) : jC r_I l G Y_X11_alone [.ref (jad G (nm 0)), .int v1] σ (f_X11_alone nm v1 σ) := by
  refine jw_met hG pn_X11 (Nat.le_of_ble_eq_true rfl) ⟨rfl, rfl⟩ ?_
  intro X hX hM
  have hX : jB X l G cX11_alone RX11 3 { frames := 4, cells := 0, slots := 0, locals := 94 } := hX
  have hM : jM X (some .int) := hM
  show J X 0 [(0, .ref (jad G (nm 0))), (1, .int v1)] [] σ (f_X11_alone nm v1 σ) (jk r_I X)
  have hJ17 : ∀ (v1 : Int32) (σ : jS), J X 17 [(0, .ref (jad G (nm 0))), (1, .int v1)] [] σ (f_X11_alone_J17 nm v1 σ) (jk r_I X) := by
    intro v1 σ
    unfold f_X11_alone_J17
    refine J_aload_n hX dX11_alone_17 rfl ?_
    refine J_cVI hX hE 0 (C_X11_fileAll hG hE σ) mw_X11_fileAll ml_X11_335 rfl rfl rfl ⟨Nat.le_of_ble_eq_true rfl, Nat.le_of_ble_eq_true rfl⟩ rfl rfl (Nat.le_of_ble_eq_true rfl) dX11_alone_18 (fun q4 s5 => ?_)
    refine J_istore_n hX dX11_alone_21 (Nat.le_of_ble_eq_true rfl) (lv' := [(0, .ref (jad G (nm 0))), (1, .int v1), (2, .int q4)]) rfl ?_
    refine J_iload_n hX dX11_alone_22 rfl ?_
    refine J_if_lt hX dX11_alone_23 (tgt := 31) rfl (fun _ => ?_) (fun _ => ?_)
    · refine J_iload_n hX dX11_alone_31 rfl ?_
      refine J_goto hX dX11_alone_32 (tgt := 41) rfl ?_
      exact J_iret hX hM dX11_alone_41
    · refine J_iload_n hX dX11_alone_26 rfl ?_
      refine J_iconst hX dX11_alone_27 k_im1 ?_
      refine J_icmp_ne hX dX11_alone_28 (tgt := 35) rfl (fun _ => ?_) (fun _ => ?_)
      · refine J_aload_n hX dX11_alone_35 rfl ?_
        refine J_getr hX hE 0 45 rfl rfl fl_X11_86 dX11_alone_36 ?_
        refine J_iload_n hX dX11_alone_39 rfl ?_
        refine J_iald hX hE 21 rfl dX11_alone_40 (fun _ => ?_)
        exact J_iret hX hM dX11_alone_41
      · refine J_iload_n hX dX11_alone_31 rfl ?_
        refine J_goto hX dX11_alone_32 (tgt := 41) rfl ?_
        exact J_iret hX hM dX11_alone_41
  unfold f_X11_alone
  refine J_iload_n hX dX11_alone_0 rfl ?_
  refine J_iconst hX dX11_alone_1 k_im1 ?_
  refine J_icmp_eq hX dX11_alone_2 (tgt := 17) rfl (fun _ => ?_) (fun _ => ?_)
  · exact J_keep [0, 1] rfl (hJ17 v1 σ)
  · refine J_aload_n hX dX11_alone_5 rfl ?_
    refine J_iload_n hX dX11_alone_6 rfl ?_
    refine J_cVP hX hE 0 (C_X11_isLamp hG hE v1 σ) mw_X11_isLamp ml_X11_242 rfl rfl rfl ⟨Nat.le_of_ble_eq_true rfl, Nat.le_of_ble_eq_true rfl⟩ rfl rfl (Nat.le_of_ble_eq_true rfl) dX11_alone_7 (fun q6 => ?_)
    refine J_if_ne hX dX11_alone_10 (tgt := 17) rfl (fun _ => ?_) (fun _ => ?_)
    · exact J_keep [0, 1] rfl (hJ17 v1 σ)
    · refine J_sipush hX dX11_alone_13 ks_m1001 ?_
      exact J_iret hX hM dX11_alone_16
theorem mw_X11_alone : jMV Y_X11_alone 1 := ⟨⟨tw_tb (List.mem_of_getElem? (i := 1458) (by decide +kernel)) (by decide +kernel), tw_tb (List.mem_of_getElem? (i := 1459) (by decide +kernel)) (by decide +kernel), tw_tb (List.mem_of_getElem? (i := 13) (by decide +kernel)) (by decide +kernel), tw_tb (List.mem_of_getElem? (i := 1460) (by decide +kernel)) (by decide +kernel)⟩, ⟨rfl, rfl⟩, by decide +kernel, by decide +kernel, by decide +kernel⟩
-- X11_isLoud
noncomputable def f_X11_isLoud (v0 : Int32) : Option Int32 :=
  (f_X11_in (v0.toInt64) 1 50).bind (fun q1 =>
    gd (jz q1) (some q1))
abbrev Y_X11_isLoud : jY := (yX11_isLoud, cX11_isLoud, 1, some .boolean, { frames := 1, cells := 0, slots := 0, locals := 25 })
theorem C_X11_isLoud {l : Launch} {G : jG} (hG : jWL G) (v0 : Int32) (σ : jS) : jC (r_P σ) l G Y_X11_isLoud [.int v0] σ (f_X11_isLoud v0) := by
  refine jw_met hG pn_X11 (Nat.le_of_ble_eq_true rfl) ⟨rfl, rfl⟩ ?_
  intro X hX hM
  have hX : jB X l G cX11_isLoud RX11 1 { frames := 1, cells := 0, slots := 0, locals := 25 } := hX
  have hM : jM X (some .boolean) := hM
  show J X 0 [(0, .int v0)] [] σ (f_X11_isLoud v0) (jk (r_P σ) X)
  unfold f_X11_isLoud
  refine J_iload_n hX dX11_isLoud_0 rfl ?_
  refine J_i2l hX dX11_isLoud_1 ?_
  refine J_lconst hX dX11_isLoud_2 k_l1 ?_
  refine J_ldc2 hX wl_X11_115 dX11_isLoud_3 ?_
  refine J_cSP hX (C_X11_in hG (v0.toInt64) 1 50 σ) mw_X11_in ml_X11_107 ⟨Nat.le_of_ble_eq_true rfl, Nat.le_of_ble_eq_true rfl⟩ rfl rfl (Nat.le_of_ble_eq_true rfl) dX11_isLoud_6 (fun q2 => ?_)
  refine J_gd (fun hz => ?_)
  exact J_zretP hX hM (jz_nar hz) dX11_isLoud_9
theorem mw_X11_isLoud : jMS Y_X11_isLoud 1 := ⟨⟨tw_tb (List.mem_of_getElem? (i := 1332) (by decide +kernel)) (by decide +kernel), tw_tb (List.mem_of_getElem? (i := 13) (by decide +kernel)) (by decide +kernel), tw_tb (List.mem_of_getElem? (i := 1333) (by decide +kernel)) (by decide +kernel)⟩, ⟨rfl, rfl⟩, by decide +kernel, by decide +kernel, by decide +kernel⟩
-- X11_isNote
noncomputable def f_X11_isNote (v0 : Int64) (v2 : Int32) : Option Int32 :=
  if (lg_cmp ((v0 >>> (v2.toInt64 &&& 63)) &&& 1) 1) = 0 then
    some 1
  else
    some 0
abbrev Y_X11_isNote : jY := (yX11_isNote, cX11_isNote, 3, some .boolean, { frames := 0, cells := 0, slots := 0, locals := 0 })
theorem C_X11_isNote {l : Launch} {G : jG} (hG : jWL G) (v0 : Int64) (v2 : Int32) (σ : jS) : jC (r_P σ) l G Y_X11_isNote [.long v0, .int v2] σ (f_X11_isNote v0 v2) := by
  refine jw_met hG pn_X11 (Nat.le_of_ble_eq_true rfl) ⟨rfl, rfl⟩ ?_
  intro X hX hM
  have hX : jB X l G cX11_isNote RX11 3 { frames := 0, cells := 0, slots := 0, locals := 0 } := hX
  have hM : jM X (some .boolean) := hM
  show J X 0 [(0, .long v0), (2, .int v2)] [] σ (f_X11_isNote v0 v2) (jk (r_P σ) X)
  unfold f_X11_isNote
  refine J_lload_n hX dX11_isNote_0 rfl ?_
  refine J_iload_n hX dX11_isNote_1 rfl ?_
  refine J_lshr hX dX11_isNote_2 ?_
  refine J_lconst hX dX11_isNote_3 k_l1 ?_
  refine J_land hX dX11_isNote_4 ?_
  refine J_lconst hX dX11_isNote_5 k_l1 ?_
  refine J_lcmp hX dX11_isNote_6 ?_
  refine J_if_ne hX dX11_isNote_7 (tgt := 14) rfl (fun _ => ?_) (fun _ => ?_)
  · refine J_iconst hX dX11_isNote_14 k_i0 ?_
    exact J_zretP hX hM jn_0 dX11_isNote_15
  · refine J_iconst hX dX11_isNote_10 k_i1 ?_
    refine J_goto hX dX11_isNote_11 (tgt := 15) rfl ?_
    exact J_zretP hX hM jn_1 dX11_isNote_15
theorem mw_X11_isNote : jMS Y_X11_isNote 2 := ⟨⟨tw_tb (List.mem_of_getElem? (i := 1431) (by decide +kernel)) (by decide +kernel), tw_tb (List.mem_of_getElem? (i := 13) (by decide +kernel)) (by decide +kernel), tw_tb (List.mem_of_getElem? (i := 1432) (by decide +kernel)) (by decide +kernel)⟩, ⟨rfl, rfl⟩, by decide +kernel, by decide +kernel, by decide +kernel⟩
-- X11_earOf
noncomputable def f_X11_earOf (nm : Nat → Nat) (v1 : Int32) (v2 : Int32) (σ : jS) : Option Int32 :=
  gd (vp_in ((4 * v1) + 1) 40) (
    gd (vp_in ((4 * v1) + 3) 40) (
      some ((g_i σ (nm 1) ((4 * v1) + 1).toNatClampNeg) - ((g_i σ (nm 1) ((4 * v1) + 3).toNatClampNeg) * v2))))
abbrev Y_X11_earOf : jY := (yX11_earOf, cX11_earOf, 3, some .int, { frames := 0, cells := 0, slots := 0, locals := 0 })
theorem C_X11_earOf {l : Launch} {G : jG} {nm : Nat → Nat} (hG : jWL G) (hE : jE G nm LS_X11) (v1 : Int32) (v2 : Int32) (σ : jS) : jC (r_P σ) l G Y_X11_earOf [.ref (jad G (nm 0)), .int v1, .int v2] σ (f_X11_earOf nm v1 v2 σ) := by
  refine jw_met hG pn_X11 (Nat.le_of_ble_eq_true rfl) ⟨rfl, rfl⟩ ?_
  intro X hX hM
  have hX : jB X l G cX11_earOf RX11 3 { frames := 0, cells := 0, slots := 0, locals := 0 } := hX
  have hM : jM X (some .int) := hM
  show J X 0 [(0, .ref (jad G (nm 0))), (1, .int v1), (2, .int v2)] [] σ (f_X11_earOf nm v1 v2 σ) (jk (r_P σ) X)
  unfold f_X11_earOf
  refine J_aload_n hX dX11_earOf_0 rfl ?_
  refine J_getr hX hE 0 1 rfl rfl fl_X11_7 dX11_earOf_1 ?_
  refine J_iconst hX dX11_earOf_4 k_i4 ?_
  refine J_iload_n hX dX11_earOf_5 rfl ?_
  refine J_imul hX dX11_earOf_6 ?_
  refine J_iconst hX dX11_earOf_7 k_i1 ?_
  refine J_iadd hX dX11_earOf_8 ?_
  refine J_iald hX hE 1 rfl dX11_earOf_9 (fun _ => ?_)
  refine J_aload_n hX dX11_earOf_10 rfl ?_
  refine J_getr hX hE 0 1 rfl rfl fl_X11_7 dX11_earOf_11 ?_
  refine J_iconst hX dX11_earOf_14 k_i4 ?_
  refine J_iload_n hX dX11_earOf_15 rfl ?_
  refine J_imul hX dX11_earOf_16 ?_
  refine J_iconst hX dX11_earOf_17 k_i3 ?_
  refine J_iadd hX dX11_earOf_18 ?_
  refine J_iald hX hE 1 rfl dX11_earOf_19 (fun _ => ?_)
  refine J_iload_n hX dX11_earOf_20 rfl ?_
  refine J_imul hX dX11_earOf_21 ?_
  refine J_isub hX dX11_earOf_22 ?_
  exact J_iretP hX hM dX11_earOf_23
theorem mw_X11_earOf : jMV Y_X11_earOf 2 := ⟨⟨tw_tb (List.mem_of_getElem? (i := 1309) (by decide +kernel)) (by decide +kernel), tw_pv (List.mem_of_getElem? (i := 48) (by decide +kernel)) (by decide +kernel), tw_tb (List.mem_of_getElem? (i := 13) (by decide +kernel)) (by decide +kernel), tw_tb (List.mem_of_getElem? (i := 1310) (by decide +kernel)) (by decide +kernel)⟩, ⟨rfl, rfl⟩, by decide +kernel, by decide +kernel, by decide +kernel⟩
-- X11_wakesBy
noncomputable def f_X11_wakesBy_J64 (nm : Nat → Nat) (v1 : Int32) (v2 : Int32) (v3 : Int32) (v4 : Int32) (v5 : Int32) (v6 : Int32) (σ : jS) : Option Int32 :=
  some 0
noncomputable def f_X11_wakesBy_J65 (nm : Nat → Nat) (v1 : Int32) (v2 : Int32) (v3 : Int32) (v4 : Int32) (v5 : Int32) (v6 : Int32) (t0 : Int32) (σ : jS) : Option ((Int32 × Int32) ⊕ Int32) :=
  if t0 = 0 then
    bd (v5 ||| 0) (fun x5 =>
      some (.inl (x5, v6 + 1)))
  else
    bd (v5 ||| (1 <<< (v6 &&& 31))) (fun x6 =>
      some (.inl (x6, v6 + 1)))
noncomputable def f_X11_wakesBy_L6 (nm : Nat → Nat) (v1 : Int32) (v2 : Int32) (v3 : Int32) (v4 : Int32) (σ : jS) (s : (Int32 × Int32)) : Option ((Int32 × Int32) ⊕ Int32) :=
  match s with
  | (v5, v6) =>
    if (g_i σ (nm 0) 0) ≤ v6 then
      some (.inr v5)
    else
      (f_X11_earOf nm v6 v4 σ).bind (fun q1 =>
        (f_X11_size (q1 - v2)).bind (fun q2 =>
          gd (vp_in ((4 * v6) + 2) 40) (
            (if (g_i σ (nm 1) ((4 * v6) + 2).toNatClampNeg) < q2 then
              f_X11_wakesBy_J64 nm v1 v2 v3 v4 v5 v6 σ
            else
              gd (vp_in (4 * v6) 40) (
                (f_X11_size ((g_i σ (nm 1) (4 * v6).toNatClampNeg) - v1)).bind (fun q3 =>
                  if v3 ≤ q3 then
                    f_X11_wakesBy_J64 nm v1 v2 v3 v4 v5 v6 σ
                  else
                    some 1))).bind (fun y4 =>
              f_X11_wakesBy_J65 nm v1 v2 v3 v4 v5 v6 y4 σ))))
noncomputable def f_X11_wakesBy (nm : Nat → Nat) (v1 : Int32) (v2 : Int32) (v3 : Int32) (v4 : Int32) (σ : jS) : Option Int32 :=
  (lp (f_X11_wakesBy_L6 nm v1 v2 v3 v4 σ) fu (0, 0)).bind (fun e7 =>
    some e7)
abbrev Y_X11_wakesBy : jY := (yX11_wakesBy, cX11_wakesBy, 8, some .int, { frames := 1, cells := 0, slots := 0, locals := 22 })
theorem C_X11_wakesBy {l : Launch} {G : jG} {nm : Nat → Nat} (hG : jWL G) (hE : jE G nm LS_X11) (v1 : Int32) (v2 : Int32) (v3 : Int32) (v4 : Int32) (σ : jS) : jC (r_P σ) l G Y_X11_wakesBy [.ref (jad G (nm 0)), .int v1, .int v2, .int v3, .int v4] σ (f_X11_wakesBy nm v1 v2 v3 v4 σ) := by
  refine jw_met hG pn_X11 (Nat.le_of_ble_eq_true rfl) ⟨rfl, rfl⟩ ?_
  intro X hX hM
  have hX : jB X l G cX11_wakesBy RX11 8 { frames := 1, cells := 0, slots := 0, locals := 22 } := hX
  have hM : jM X (some .int) := hM
  show J X 0 [(0, .ref (jad G (nm 0))), (1, .int v1), (2, .int v2), (3, .int v3), (4, .int v4)] [] σ (f_X11_wakesBy nm v1 v2 v3 v4 σ) (jk (r_P σ) X)
  unfold f_X11_wakesBy
  refine J_iconst hX dX11_wakesBy_0 k_i0 ?_
  refine J_istore hX dX11_wakesBy_1 (Nat.le_of_ble_eq_true rfl) (lv' := [(0, .ref (jad G (nm 0))), (1, .int v1), (2, .int v2), (3, .int v3), (4, .int v4), (5, .int 0)]) rfl ?_
  refine J_iconst hX dX11_wakesBy_3 k_i0 ?_
  refine J_istore hX dX11_wakesBy_4 (Nat.le_of_ble_eq_true rfl) (lv' := [(0, .ref (jad G (nm 0))), (1, .int v1), (2, .int v2), (3, .int v3), (4, .int v4), (5, .int 0), (6, .int 0)]) rfl ?_
  refine J_keep [0, 1, 2, 3, 4, 5, 6] (lv' := [(0, .ref (jad G (nm 0))), (1, .int v1), (2, .int v2), (3, .int v3), (4, .int v4), (5, .int 0), (6, .int 0)]) rfl ?_
  refine J_lp (pc := 6) (s0 := (0, 0)) (fun (s : (Int32 × Int32)) => [(0, .ref (jad G (nm 0))), (1, .int v1), (2, .int v2), (3, .int v3), (4, .int v4), (5, .int (s.1)), (6, .int (s.2))]) (fun (s : (Int32 × Int32)) => σ) ?_
  intro KK6 hN6 hQ6 z6
  obtain ⟨v5_6, v6_6⟩ := z6
  show J X 6 [(0, .ref (jad G (nm 0))), (1, .int v1), (2, .int v2), (3, .int v3), (4, .int v4), (5, .int v5_6), (6, .int v6_6)] [] σ (f_X11_wakesBy_L6 nm v1 v2 v3 v4 σ (v5_6, v6_6)) KK6
  have hJ65 : ∀ (v5_j65 : Int32) (v6_j65 : Int32) (t0_j65 : Int32), J X 65 [(0, .ref (jad G (nm 0))), (1, .int v1), (2, .int v2), (3, .int v3), (4, .int v4), (5, .int v5_j65), (6, .int v6_j65)] [.int t0_j65] σ (f_X11_wakesBy_J65 nm v1 v2 v3 v4 v5_j65 v6_j65 t0_j65 σ) KK6 := by
    intro v5_j65 v6_j65 t0_j65
    unfold f_X11_wakesBy_J65
    refine J_istore hX dX11_wakesBy_65 (Nat.le_of_ble_eq_true rfl) (lv' := [(0, .ref (jad G (nm 0))), (1, .int v1), (2, .int v2), (3, .int v3), (4, .int v4), (5, .int v5_j65), (6, .int v6_j65), (7, .int t0_j65)]) rfl ?_
    refine J_iload hX dX11_wakesBy_67 rfl ?_
    refine J_iload hX dX11_wakesBy_69 rfl ?_
    refine J_if_eq hX dX11_wakesBy_71 (tgt := 81) rfl (fun _ => ?_) (fun _ => ?_)
    · refine J_iconst hX dX11_wakesBy_81 k_i0 ?_
      refine J_ior hX dX11_wakesBy_82 ?_
      refine J_bdI (fun x8 => ?_)
      refine J_istore hX dX11_wakesBy_83 (Nat.le_of_ble_eq_true rfl) (lv' := [(0, .ref (jad G (nm 0))), (1, .int v1), (2, .int v2), (3, .int v3), (4, .int v4), (5, .int x8), (6, .int v6_j65), (7, .int t0_j65)]) rfl ?_
      refine J_iinc hX dX11_wakesBy_85 rfl (congrArg (_ + ·) k_i1) (Nat.le_of_ble_eq_true rfl) (lv' := [(0, .ref (jad G (nm 0))), (1, .int v1), (2, .int v2), (3, .int v3), (4, .int v4), (5, .int x8), (6, .int (v6_j65 + 1)), (7, .int t0_j65)]) rfl ?_
      refine J_goto hX dX11_wakesBy_88 (tgt := 6) rfl ?_
      exact J_keep [0, 1, 2, 3, 4, 5, 6] rfl (hN6 (x8, v6_j65 + 1))
    · refine J_iconst hX dX11_wakesBy_74 k_i1 ?_
      refine J_iload hX dX11_wakesBy_75 rfl ?_
      refine J_ishl hX dX11_wakesBy_77 ?_
      refine J_goto hX dX11_wakesBy_78 (tgt := 82) rfl ?_
      refine J_ior hX dX11_wakesBy_82 ?_
      refine J_bdI (fun x9 => ?_)
      refine J_istore hX dX11_wakesBy_83 (Nat.le_of_ble_eq_true rfl) (lv' := [(0, .ref (jad G (nm 0))), (1, .int v1), (2, .int v2), (3, .int v3), (4, .int v4), (5, .int x9), (6, .int v6_j65), (7, .int t0_j65)]) rfl ?_
      refine J_iinc hX dX11_wakesBy_85 rfl (congrArg (_ + ·) k_i1) (Nat.le_of_ble_eq_true rfl) (lv' := [(0, .ref (jad G (nm 0))), (1, .int v1), (2, .int v2), (3, .int v3), (4, .int v4), (5, .int x9), (6, .int (v6_j65 + 1)), (7, .int t0_j65)]) rfl ?_
      refine J_goto hX dX11_wakesBy_88 (tgt := 6) rfl ?_
      exact J_keep [0, 1, 2, 3, 4, 5, 6] rfl (hN6 (x9, v6_j65 + 1))
  unfold f_X11_wakesBy_L6
  refine J_iload hX dX11_wakesBy_6 rfl ?_
  refine J_aload_n hX dX11_wakesBy_8 rfl ?_
  refine J_geti hX hE 0 0 rfl rfl fl_X11_104 dX11_wakesBy_9 ?_
  refine J_icmp_ge hX dX11_wakesBy_12 (tgt := 91) rfl (fun _ => ?_) (fun _ => ?_)
  · refine hQ6 _ _ _ _ _ ?_
    refine J_iload hX dX11_wakesBy_91 rfl ?_
    exact J_iretP hX hM dX11_wakesBy_93
  · refine J_aload_n hX dX11_wakesBy_15 rfl ?_
    refine J_iload hX dX11_wakesBy_16 rfl ?_
    refine J_iload hX dX11_wakesBy_18 rfl ?_
    refine J_cVP hX hE 0 (C_X11_earOf hG hE v6_6 v4 σ) mw_X11_earOf ml_X11_246 rfl rfl rfl ⟨Nat.le_of_ble_eq_true rfl, Nat.le_of_ble_eq_true rfl⟩ rfl rfl (Nat.le_of_ble_eq_true rfl) dX11_wakesBy_20 (fun q10 => ?_)
    refine J_iload_n hX dX11_wakesBy_23 rfl ?_
    refine J_isub hX dX11_wakesBy_24 ?_
    refine J_cSP hX (C_X11_size hG (q10 - v2) σ) mw_X11_size ml_X11_251 ⟨Nat.le_of_ble_eq_true rfl, Nat.le_of_ble_eq_true rfl⟩ rfl rfl (Nat.le_of_ble_eq_true rfl) dX11_wakesBy_25 (fun q11 => ?_)
    refine J_aload_n hX dX11_wakesBy_28 rfl ?_
    refine J_getr hX hE 0 1 rfl rfl fl_X11_7 dX11_wakesBy_29 ?_
    refine J_iconst hX dX11_wakesBy_32 k_i4 ?_
    refine J_iload hX dX11_wakesBy_33 rfl ?_
    refine J_imul hX dX11_wakesBy_35 ?_
    refine J_iconst hX dX11_wakesBy_36 k_i2 ?_
    refine J_iadd hX dX11_wakesBy_37 ?_
    refine J_iald hX hE 1 rfl dX11_wakesBy_38 (fun _ => ?_)
    refine J_blk ?_
    intro KB39 hB39
    have hJ64 : J X 64 [(0, .ref (jad G (nm 0))), (1, .int v1), (2, .int v2), (3, .int v3), (4, .int v4), (5, .int v5_6), (6, .int v6_6)] [] σ (f_X11_wakesBy_J64 nm v1 v2 v3 v4 v5_6 v6_6 σ) KB39 := by
      unfold f_X11_wakesBy_J64
      refine J_iconst hX dX11_wakesBy_64 k_i0 ?_
      refine hB39 _ _ _ _ _ ?_
      exact J_keep [0, 1, 2, 3, 4, 5, 6] rfl (hJ65 v5_6 v6_6 0)
    refine J_icmp_gt hX dX11_wakesBy_39 (tgt := 64) rfl (fun _ => ?_) (fun _ => ?_)
    · exact J_keep [0, 1, 2, 3, 4, 5, 6] rfl (hJ64 )
    · refine J_aload_n hX dX11_wakesBy_42 rfl ?_
      refine J_getr hX hE 0 1 rfl rfl fl_X11_7 dX11_wakesBy_43 ?_
      refine J_iconst hX dX11_wakesBy_46 k_i4 ?_
      refine J_iload hX dX11_wakesBy_47 rfl ?_
      refine J_imul hX dX11_wakesBy_49 ?_
      refine J_iald hX hE 1 rfl dX11_wakesBy_50 (fun _ => ?_)
      refine J_iload_n hX dX11_wakesBy_51 rfl ?_
      refine J_isub hX dX11_wakesBy_52 ?_
      refine J_cSP hX (C_X11_size hG ((g_i σ (nm 1) (4 * v6_6).toNatClampNeg) - v1) σ) mw_X11_size ml_X11_251 ⟨Nat.le_of_ble_eq_true rfl, Nat.le_of_ble_eq_true rfl⟩ rfl rfl (Nat.le_of_ble_eq_true rfl) dX11_wakesBy_53 (fun q12 => ?_)
      refine J_iload_n hX dX11_wakesBy_56 rfl ?_
      refine J_icmp_ge hX dX11_wakesBy_57 (tgt := 64) rfl (fun _ => ?_) (fun _ => ?_)
      · exact J_keep [0, 1, 2, 3, 4, 5, 6] rfl (hJ64 )
      · refine J_iconst hX dX11_wakesBy_60 k_i1 ?_
        refine J_goto hX dX11_wakesBy_61 (tgt := 65) rfl ?_
        refine hB39 _ _ _ _ _ ?_
        exact J_keep [0, 1, 2, 3, 4, 5, 6] rfl (hJ65 v5_6 v6_6 1)
theorem mw_X11_wakesBy : jMV Y_X11_wakesBy 4 := ⟨⟨tw_tb (List.mem_of_getElem? (i := 1336) (by decide +kernel)) (by decide +kernel), tw_pv (List.mem_of_getElem? (i := 49) (by decide +kernel)) (by decide +kernel), tw_tb (List.mem_of_getElem? (i := 13) (by decide +kernel)) (by decide +kernel), tw_tb (List.mem_of_getElem? (i := 1337) (by decide +kernel)) (by decide +kernel)⟩, ⟨rfl, rfl⟩, by decide +kernel, by decide +kernel, by decide +kernel⟩
-- X11_lesser
noncomputable def f_X11_lesser (v0 : Int32) (v1 : Int32) : Option Int32 :=
  if v1 ≤ v0 then
    some v1
  else
    some v0
abbrev Y_X11_lesser : jY := (yX11_lesser, cX11_lesser, 2, some .int, { frames := 0, cells := 0, slots := 0, locals := 0 })
theorem C_X11_lesser {l : Launch} {G : jG} (hG : jWL G) (v0 : Int32) (v1 : Int32) (σ : jS) : jC (r_P σ) l G Y_X11_lesser [.int v0, .int v1] σ (f_X11_lesser v0 v1) := by
  refine jw_met hG pn_X11 (Nat.le_of_ble_eq_true rfl) ⟨rfl, rfl⟩ ?_
  intro X hX hM
  have hX : jB X l G cX11_lesser RX11 2 { frames := 0, cells := 0, slots := 0, locals := 0 } := hX
  have hM : jM X (some .int) := hM
  show J X 0 [(0, .int v0), (1, .int v1)] [] σ (f_X11_lesser v0 v1) (jk (r_P σ) X)
  unfold f_X11_lesser
  refine J_iload_n hX dX11_lesser_0 rfl ?_
  refine J_iload_n hX dX11_lesser_1 rfl ?_
  refine J_icmp_ge hX dX11_lesser_2 (tgt := 9) rfl (fun _ => ?_) (fun _ => ?_)
  · refine J_iload_n hX dX11_lesser_9 rfl ?_
    exact J_iretP hX hM dX11_lesser_10
  · refine J_iload_n hX dX11_lesser_5 rfl ?_
    refine J_goto hX dX11_lesser_6 (tgt := 10) rfl ?_
    exact J_iretP hX hM dX11_lesser_10
theorem mw_X11_lesser : jMS Y_X11_lesser 2 := ⟨⟨tw_tb (List.mem_of_getElem? (i := 1400) (by decide +kernel)) (by decide +kernel), tw_tb (List.mem_of_getElem? (i := 13) (by decide +kernel)) (by decide +kernel), tw_tb (List.mem_of_getElem? (i := 1401) (by decide +kernel)) (by decide +kernel)⟩, ⟨rfl, rfl⟩, by decide +kernel, by decide +kernel, by decide +kernel⟩
-- X11_luredBy
noncomputable def f_X11_luredBy_L13 (nm : Nat → Nat) (v1 : Int32) (v2 : Int32) (v3 : Int64) (v5 : Int32) (s : (Int32 × jS)) : Option ((Int32 × jS) ⊕ jS) :=
  match s with
  | (v6, σ) =>
    (f_X11_all nm σ).bind (fun q1 =>
      if q1 < v6 then
        some (.inr σ)
      else
        gd (vp_in v6 1024) (bd (s_i σ (nm 16) v6.toNatClampNeg 0) (fun s2 =>
          gd (vp_in v6 1024) (bd (s_i s2 (nm 17) v6.toNatClampNeg 1000000) (fun s3 =>
            some (.inl (v6 + 1, s3)))))))
noncomputable def f_X11_luredBy_L49 (nm : Nat → Nat) (v1 : Int32) (v2 : Int32) (v3 : Int64) (v5 : Int32) (s : (Int32 × jS)) : Option ((Int32 × jS) ⊕ jS) :=
  match s with
  | (v6, σ) =>
    if 3200 ≤ v6 then
      some (.inr σ)
    else
      gd (¬ (64 : Int32) = 0) ((f_X11_isNote v3 (v6 - v6 / 64 * 64)).bind (fun q5 =>
        if q5 = 0 then
          some (.inl (v6 + 1, σ))
        else
          gd (¬ (64 : Int32) = 0) (gd (¬ (64 : Int32) = 0) ((f_X11_wakesBy nm (v6 / 64) (v6 - v6 / 64 * 64) v5 (g_i σ (nm 0) 15) σ).bind (fun q6 =>
            gd (vp_in q6 1024) (bd (s_i σ (nm 16) q6.toNatClampNeg 1) (fun s7 =>
              some (.inl (v6 + 1, s7)))))))))
noncomputable def f_X11_luredBy_L120 (nm : Nat → Nat) (v2 : Int32) (v6 : Int32) (s : (Int32 × jS)) : Option ((Int32 × jS) ⊕ jS) :=
  match s with
  | (v7, σ) =>
    if v2 < v7 then
      some (.inr σ)
    else
      gd (vp_in v6 1024) (
        if 1000000 ≤ (g_i σ (nm 17) v6.toNatClampNeg) then
          some (.inr σ)
        else
          gd (vp_in v7 1024) (
            if (g_i σ (nm 16) v7.toNatClampNeg) = 0 then
              some (.inl (v7 + 1, σ))
            else
              if (v7 &&& (v2 ^^^ (-1))) = 0 then
                gd (vp_in (v6 ||| v7) 1024) (
                  gd (vp_in v6 1024) (
                    (f_X11_lesser (g_i σ (nm 17) (v6 ||| v7).toNatClampNeg) ((g_i σ (nm 17) v6.toNatClampNeg) + 1)).bind (fun q10 =>
                      gd (vp_in (v6 ||| v7) 1024) (bd (s_i σ (nm 17) (v6 ||| v7).toNatClampNeg q10) (fun s11 =>
                        some (.inl (v7 + 1, s11)))))))
              else
                some (.inl (v7 + 1, σ))))
noncomputable def f_X11_luredBy_L111 (nm : Nat → Nat) (v2 : Int32) (s : (Int32 × jS)) : Option ((Int32 × jS) ⊕ jS) :=
  match s with
  | (v6, σ) =>
    if v2 < v6 then
      some (.inr σ)
    else
      (lp (f_X11_luredBy_L120 nm v2 v6) fu (1, σ)).bind (fun s12 =>
        some (.inl (v6 + 1, s12)))
noncomputable def f_X11_luredBy (nm : Nat → Nat) (v1 : Int32) (v2 : Int32) (v3 : Int64) (v5 : Int32) (σ : jS) : Option (Int32 × jS) :=
  if (v1 &&& (v2 ^^^ (-1))) = 0 then
    (lp (f_X11_luredBy_L13 nm v1 v2 v3 v5) fu (0, σ)).bind (fun s4 =>
      (lp (f_X11_luredBy_L49 nm v1 v2 v3 v5) fu (0, s4)).bind (fun s8 =>
        gd (vp_in v1 1024) (bd (s_i s8 (nm 17) v1.toNatClampNeg 0) (fun s9 =>
          (lp (f_X11_luredBy_L111 nm v2) fu (v1, s9)).bind (fun s13 =>
            gd (vp_in v2 1024) (
              if (g_i s13 (nm 17) v2.toNatClampNeg) < 1000000 then
                gd (vp_in v2 1024) (
                  some (g_i s13 (nm 17) v2.toNatClampNeg, s13))
              else
                some ((-1), s13)))))))
  else
    some ((-1), σ)
abbrev Y_X11_luredBy : jY := (yX11_luredBy, cX11_luredBy, 8, some .int, { frames := 2, cells := 0, slots := 0, locals := 49 })
theorem C_X11_luredBy {l : Launch} {G : jG} {nm : Nat → Nat} (hG : jWL G) (hE : jE G nm LS_X11) (v1 : Int32) (v2 : Int32) (v3 : Int64) (v5 : Int32) (σ : jS) : jC r_I l G Y_X11_luredBy [.ref (jad G (nm 0)), .int v1, .int v2, .long v3, .int v5] σ (f_X11_luredBy nm v1 v2 v3 v5 σ) := by
  refine jw_met hG pn_X11 (Nat.le_of_ble_eq_true rfl) ⟨rfl, rfl⟩ ?_
  intro X hX hM
  have hX : jB X l G cX11_luredBy RX11 8 { frames := 2, cells := 0, slots := 0, locals := 49 } := hX
  have hM : jM X (some .int) := hM
  show J X 0 [(0, .ref (jad G (nm 0))), (1, .int v1), (2, .int v2), (3, .long v3), (5, .int v5)] [] σ (f_X11_luredBy nm v1 v2 v3 v5 σ) (jk r_I X)
  unfold f_X11_luredBy
  refine J_iload_n hX dX11_luredBy_0 rfl ?_
  refine J_iload_n hX dX11_luredBy_1 rfl ?_
  refine J_iconst hX dX11_luredBy_2 k_im1 ?_
  refine J_ixor hX dX11_luredBy_3 ?_
  refine J_iand hX dX11_luredBy_4 ?_
  refine J_if_eq hX dX11_luredBy_5 (tgt := 10) rfl (fun _ => ?_) (fun _ => ?_)
  · refine J_iconst hX dX11_luredBy_10 k_i0 ?_
    refine J_istore hX dX11_luredBy_11 (Nat.le_of_ble_eq_true rfl) (lv' := [(0, .ref (jad G (nm 0))), (1, .int v1), (2, .int v2), (3, .long v3), (5, .int v5), (6, .int 0)]) rfl ?_
    refine J_keep [0, 1, 2, 3, 4, 5] (lv' := [(0, .ref (jad G (nm 0))), (1, .int v1), (2, .int v2), (3, .long v3), (5, .int v5), (6, .int 0)]) rfl ?_
    refine J_lp (pc := 13) (s0 := (0, σ)) (fun (s : (Int32 × jS)) => [(0, .ref (jad G (nm 0))), (1, .int v1), (2, .int v2), (3, .long v3), (5, .int v5), (6, .int (s.1))]) (fun (s : (Int32 × jS)) => s.2) ?_
    intro KK13 hN13 hQ13 z13
    obtain ⟨v6_13, σ_13⟩ := z13
    show J X 13 [(0, .ref (jad G (nm 0))), (1, .int v1), (2, .int v2), (3, .long v3), (5, .int v5), (6, .int v6_13)] [] σ_13 (f_X11_luredBy_L13 nm v1 v2 v3 v5 (v6_13, σ_13)) KK13
    unfold f_X11_luredBy_L13
    refine J_iload hX dX11_luredBy_13 rfl ?_
    refine J_aload_n hX dX11_luredBy_15 rfl ?_
    refine J_cVP hX hE 0 (C_X11_all hG hE σ_13) mw_X11_all ml_X11_111 rfl rfl rfl ⟨Nat.le_of_ble_eq_true rfl, Nat.le_of_ble_eq_true rfl⟩ rfl rfl (Nat.le_of_ble_eq_true rfl) dX11_luredBy_16 (fun q14 => ?_)
    refine J_icmp_gt hX dX11_luredBy_19 (tgt := 46) rfl (fun _ => ?_) (fun _ => ?_)
    · refine hQ13 _ _ _ _ _ ?_
      refine J_iconst hX dX11_luredBy_46 k_i0 ?_
      refine J_istore hX dX11_luredBy_47 (Nat.le_of_ble_eq_true rfl) (lv' := [(0, .ref (jad G (nm 0))), (1, .int v1), (2, .int v2), (3, .long v3), (5, .int v5), (6, .int 0)]) rfl ?_
      refine J_keep [0, 1, 2, 3, 4, 5] (lv' := [(0, .ref (jad G (nm 0))), (1, .int v1), (2, .int v2), (3, .long v3), (5, .int v5), (6, .int 0)]) rfl ?_
      refine J_lp (pc := 49) (s0 := (0, σ_13)) (fun (s : (Int32 × jS)) => [(0, .ref (jad G (nm 0))), (1, .int v1), (2, .int v2), (3, .long v3), (5, .int v5), (6, .int (s.1))]) (fun (s : (Int32 × jS)) => s.2) ?_
      intro KK49 hN49 hQ49 z49
      obtain ⟨v6_49, σ_49⟩ := z49
      show J X 49 [(0, .ref (jad G (nm 0))), (1, .int v1), (2, .int v2), (3, .long v3), (5, .int v5), (6, .int v6_49)] [] σ_49 (f_X11_luredBy_L49 nm v1 v2 v3 v5 (v6_49, σ_49)) KK49
      unfold f_X11_luredBy_L49
      refine J_iload hX dX11_luredBy_49 rfl ?_
      refine J_sipush hX dX11_luredBy_51 ks_3200 ?_
      refine J_icmp_ge hX dX11_luredBy_54 (tgt := 101) rfl (fun _ => ?_) (fun _ => ?_)
      · refine hQ49 _ _ _ _ _ ?_
        refine J_aload_n hX dX11_luredBy_101 rfl ?_
        refine J_getr hX hE 0 41 rfl rfl fl_X11_73 dX11_luredBy_102 ?_
        refine J_iload_n hX dX11_luredBy_105 rfl ?_
        refine J_iconst hX dX11_luredBy_106 k_i0 ?_
        refine J_iast hX hE 17 rfl dX11_luredBy_107 (fun _ => ?_)
        refine J_bdS (fun s15 => ?_)
        refine J_iload_n hX dX11_luredBy_108 rfl ?_
        refine J_istore hX dX11_luredBy_109 (Nat.le_of_ble_eq_true rfl) (lv' := [(0, .ref (jad G (nm 0))), (1, .int v1), (2, .int v2), (3, .long v3), (5, .int v5), (6, .int v1)]) rfl ?_
        refine J_keep [0, 2, 5] (lv' := [(0, .ref (jad G (nm 0))), (2, .int v2), (6, .int v1)]) rfl ?_
        refine J_lp (pc := 111) (s0 := (v1, s15)) (fun (s : (Int32 × jS)) => [(0, .ref (jad G (nm 0))), (2, .int v2), (6, .int (s.1))]) (fun (s : (Int32 × jS)) => s.2) ?_
        intro KK111 hN111 hQ111 z111
        obtain ⟨v6_111, σ_111⟩ := z111
        show J X 111 [(0, .ref (jad G (nm 0))), (2, .int v2), (6, .int v6_111)] [] σ_111 (f_X11_luredBy_L111 nm v2 (v6_111, σ_111)) KK111
        unfold f_X11_luredBy_L111
        refine J_iload hX dX11_luredBy_111 rfl ?_
        refine J_iload_n hX dX11_luredBy_113 rfl ?_
        refine J_icmp_gt hX dX11_luredBy_114 (tgt := 202) rfl (fun _ => ?_) (fun _ => ?_)
        · refine hQ111 _ _ _ _ _ ?_
          refine J_aload_n hX dX11_luredBy_202 rfl ?_
          refine J_getr hX hE 0 41 rfl rfl fl_X11_73 dX11_luredBy_203 ?_
          refine J_iload_n hX dX11_luredBy_206 rfl ?_
          refine J_iald hX hE 17 rfl dX11_luredBy_207 (fun _ => ?_)
          refine J_ldcw hX wc_X11_296 dX11_luredBy_208 ?_
          refine J_icmp_lt hX dX11_luredBy_211 (tgt := 218) rfl (fun _ => ?_) (fun _ => ?_)
          · refine J_aload_n hX dX11_luredBy_218 rfl ?_
            refine J_getr hX hE 0 41 rfl rfl fl_X11_73 dX11_luredBy_219 ?_
            refine J_iload_n hX dX11_luredBy_222 rfl ?_
            refine J_iald hX hE 17 rfl dX11_luredBy_223 (fun _ => ?_)
            exact J_iret hX hM dX11_luredBy_224
          · refine J_iconst hX dX11_luredBy_214 k_im1 ?_
            refine J_goto hX dX11_luredBy_215 (tgt := 224) rfl ?_
            exact J_iret hX hM dX11_luredBy_224
        · refine J_iconst hX dX11_luredBy_117 k_i1 ?_
          refine J_istore hX dX11_luredBy_118 (Nat.le_of_ble_eq_true rfl) (lv' := [(0, .ref (jad G (nm 0))), (2, .int v2), (6, .int v6_111), (7, .int 1)]) rfl ?_
          refine J_keep [0, 1, 2, 3] (lv' := [(0, .ref (jad G (nm 0))), (2, .int v2), (6, .int v6_111), (7, .int 1)]) rfl ?_
          refine J_lp (pc := 120) (s0 := (1, σ_111)) (fun (s : (Int32 × jS)) => [(0, .ref (jad G (nm 0))), (2, .int v2), (6, .int v6_111), (7, .int (s.1))]) (fun (s : (Int32 × jS)) => s.2) ?_
          intro KK120 hN120 hQ120 z120
          obtain ⟨v7_120, σ_120⟩ := z120
          show J X 120 [(0, .ref (jad G (nm 0))), (2, .int v2), (6, .int v6_111), (7, .int v7_120)] [] σ_120 (f_X11_luredBy_L120 nm v2 v6_111 (v7_120, σ_120)) KK120
          unfold f_X11_luredBy_L120
          refine J_iload hX dX11_luredBy_120 rfl ?_
          refine J_iload_n hX dX11_luredBy_122 rfl ?_
          refine J_icmp_gt hX dX11_luredBy_123 (tgt := 196) rfl (fun _ => ?_) (fun _ => ?_)
          · refine hQ120 _ _ _ _ _ ?_
            refine J_iinc hX dX11_luredBy_196 rfl (congrArg (_ + ·) k_i1) (Nat.le_of_ble_eq_true rfl) (lv' := [(0, .ref (jad G (nm 0))), (2, .int v2), (6, .int (v6_111 + 1)), (7, .int v7_120)]) rfl ?_
            refine J_goto hX dX11_luredBy_199 (tgt := 111) rfl ?_
            exact J_keep [0, 1, 2] rfl (hN111 (v6_111 + 1, σ_120))
          · refine J_aload_n hX dX11_luredBy_126 rfl ?_
            refine J_getr hX hE 0 41 rfl rfl fl_X11_73 dX11_luredBy_127 ?_
            refine J_iload hX dX11_luredBy_130 rfl ?_
            refine J_iald hX hE 17 rfl dX11_luredBy_132 (fun _ => ?_)
            refine J_ldcw hX wc_X11_296 dX11_luredBy_133 ?_
            refine J_icmp_ge hX dX11_luredBy_136 (tgt := 196) rfl (fun _ => ?_) (fun _ => ?_)
            · refine hQ120 _ _ _ _ _ ?_
              refine J_iinc hX dX11_luredBy_196 rfl (congrArg (_ + ·) k_i1) (Nat.le_of_ble_eq_true rfl) (lv' := [(0, .ref (jad G (nm 0))), (2, .int v2), (6, .int (v6_111 + 1)), (7, .int v7_120)]) rfl ?_
              refine J_goto hX dX11_luredBy_199 (tgt := 111) rfl ?_
              exact J_keep [0, 1, 2] rfl (hN111 (v6_111 + 1, σ_120))
            · refine J_aload_n hX dX11_luredBy_139 rfl ?_
              refine J_getr hX hE 0 40 rfl rfl fl_X11_69 dX11_luredBy_140 ?_
              refine J_iload hX dX11_luredBy_143 rfl ?_
              refine J_zald hX hE 16 rfl dX11_luredBy_145 (fun _ => ?_)
              refine J_if_eq hX dX11_luredBy_146 (tgt := 190) rfl (fun _ => ?_) (fun _ => ?_)
              · refine J_iinc hX dX11_luredBy_190 rfl (congrArg (_ + ·) k_i1) (Nat.le_of_ble_eq_true rfl) (lv' := [(0, .ref (jad G (nm 0))), (2, .int v2), (6, .int v6_111), (7, .int (v7_120 + 1))]) rfl ?_
                refine J_goto hX dX11_luredBy_193 (tgt := 120) rfl ?_
                exact J_keep [0, 1, 2, 3] rfl (hN120 (v7_120 + 1, σ_120))
              · refine J_iload hX dX11_luredBy_149 rfl ?_
                refine J_iload_n hX dX11_luredBy_151 rfl ?_
                refine J_iconst hX dX11_luredBy_152 k_im1 ?_
                refine J_ixor hX dX11_luredBy_153 ?_
                refine J_iand hX dX11_luredBy_154 ?_
                refine J_if_ne hX dX11_luredBy_155 (tgt := 190) rfl (fun _ => ?_) (fun _ => ?_)
                · refine J_iinc hX dX11_luredBy_190 rfl (congrArg (_ + ·) k_i1) (Nat.le_of_ble_eq_true rfl) (lv' := [(0, .ref (jad G (nm 0))), (2, .int v2), (6, .int v6_111), (7, .int (v7_120 + 1))]) rfl ?_
                  refine J_goto hX dX11_luredBy_193 (tgt := 120) rfl ?_
                  exact J_keep [0, 1, 2, 3] rfl (hN120 (v7_120 + 1, σ_120))
                · refine J_aload_n hX dX11_luredBy_158 rfl ?_
                  refine J_getr hX hE 0 41 rfl rfl fl_X11_73 dX11_luredBy_159 ?_
                  refine J_iload hX dX11_luredBy_162 rfl ?_
                  refine J_iload hX dX11_luredBy_164 rfl ?_
                  refine J_ior hX dX11_luredBy_166 ?_
                  refine J_aload_n hX dX11_luredBy_167 rfl ?_
                  refine J_getr hX hE 0 41 rfl rfl fl_X11_73 dX11_luredBy_168 ?_
                  refine J_iload hX dX11_luredBy_171 rfl ?_
                  refine J_iload hX dX11_luredBy_173 rfl ?_
                  refine J_ior hX dX11_luredBy_175 ?_
                  refine J_iald hX hE 17 rfl dX11_luredBy_176 (fun _ => ?_)
                  refine J_aload_n hX dX11_luredBy_177 rfl ?_
                  refine J_getr hX hE 0 41 rfl rfl fl_X11_73 dX11_luredBy_178 ?_
                  refine J_iload hX dX11_luredBy_181 rfl ?_
                  refine J_iald hX hE 17 rfl dX11_luredBy_183 (fun _ => ?_)
                  refine J_iconst hX dX11_luredBy_184 k_i1 ?_
                  refine J_iadd hX dX11_luredBy_185 ?_
                  refine J_cSP hX (C_X11_lesser hG (g_i σ_120 (nm 17) (v6_111 ||| v7_120).toNatClampNeg) ((g_i σ_120 (nm 17) v6_111.toNatClampNeg) + 1) σ_120) mw_X11_lesser ml_X11_297 ⟨Nat.le_of_ble_eq_true rfl, Nat.le_of_ble_eq_true rfl⟩ rfl rfl (Nat.le_of_ble_eq_true rfl) dX11_luredBy_186 (fun q16 => ?_)
                  refine J_iast hX hE 17 rfl dX11_luredBy_189 (fun _ => ?_)
                  refine J_bdS (fun s17 => ?_)
                  refine J_iinc hX dX11_luredBy_190 rfl (congrArg (_ + ·) k_i1) (Nat.le_of_ble_eq_true rfl) (lv' := [(0, .ref (jad G (nm 0))), (2, .int v2), (6, .int v6_111), (7, .int (v7_120 + 1))]) rfl ?_
                  refine J_goto hX dX11_luredBy_193 (tgt := 120) rfl ?_
                  exact J_keep [0, 1, 2, 3] rfl (hN120 (v7_120 + 1, s17))
      · refine J_lload_n hX dX11_luredBy_57 rfl ?_
        refine J_iload hX dX11_luredBy_58 rfl ?_
        refine J_bipush hX dX11_luredBy_60 kb_64 ?_
        refine J_irem hX dX11_luredBy_62 (fun _ => ?_)
        refine J_cSP hX (C_X11_isNote hG v3 (v6_49 - v6_49 / 64 * 64) σ_49) mw_X11_isNote ml_X11_318 ⟨Nat.le_of_ble_eq_true rfl, Nat.le_of_ble_eq_true rfl⟩ rfl rfl (Nat.le_of_ble_eq_true rfl) dX11_luredBy_63 (fun q18 => ?_)
        refine J_if_eq hX dX11_luredBy_66 (tgt := 95) rfl (fun _ => ?_) (fun _ => ?_)
        · refine J_iinc hX dX11_luredBy_95 rfl (congrArg (_ + ·) k_i1) (Nat.le_of_ble_eq_true rfl) (lv' := [(0, .ref (jad G (nm 0))), (1, .int v1), (2, .int v2), (3, .long v3), (5, .int v5), (6, .int (v6_49 + 1))]) rfl ?_
          refine J_goto hX dX11_luredBy_98 (tgt := 49) rfl ?_
          exact J_keep [0, 1, 2, 3, 4, 5] rfl (hN49 (v6_49 + 1, σ_49))
        · refine J_aload_n hX dX11_luredBy_69 rfl ?_
          refine J_getr hX hE 0 40 rfl rfl fl_X11_69 dX11_luredBy_70 ?_
          refine J_aload_n hX dX11_luredBy_73 rfl ?_
          refine J_iload hX dX11_luredBy_74 rfl ?_
          refine J_bipush hX dX11_luredBy_76 kb_64 ?_
          refine J_idiv hX dX11_luredBy_78 (fun _ => ?_)
          refine J_iload hX dX11_luredBy_79 rfl ?_
          refine J_bipush hX dX11_luredBy_81 kb_64 ?_
          refine J_irem hX dX11_luredBy_83 (fun _ => ?_)
          refine J_iload hX dX11_luredBy_84 rfl ?_
          refine J_aload_n hX dX11_luredBy_86 rfl ?_
          refine J_geti hX hE 0 15 rfl rfl fl_X11_218 dX11_luredBy_87 ?_
          refine J_cVP hX hE 0 (C_X11_wakesBy hG hE (v6_49 / 64) (v6_49 - v6_49 / 64 * 64) v5 (g_i σ_49 (nm 0) 15) σ_49) mw_X11_wakesBy ml_X11_255 rfl rfl rfl ⟨Nat.le_of_ble_eq_true rfl, Nat.le_of_ble_eq_true rfl⟩ rfl rfl (Nat.le_of_ble_eq_true rfl) dX11_luredBy_90 (fun q19 => ?_)
          refine J_iconst hX dX11_luredBy_93 k_i1 ?_
          refine J_zast hX hE 16 jp_1 rfl dX11_luredBy_94 (fun _ => ?_)
          refine J_bdS (fun s20 => ?_)
          refine J_iinc hX dX11_luredBy_95 rfl (congrArg (_ + ·) k_i1) (Nat.le_of_ble_eq_true rfl) (lv' := [(0, .ref (jad G (nm 0))), (1, .int v1), (2, .int v2), (3, .long v3), (5, .int v5), (6, .int (v6_49 + 1))]) rfl ?_
          refine J_goto hX dX11_luredBy_98 (tgt := 49) rfl ?_
          exact J_keep [0, 1, 2, 3, 4, 5] rfl (hN49 (v6_49 + 1, s20))
    · refine J_aload_n hX dX11_luredBy_22 rfl ?_
      refine J_getr hX hE 0 40 rfl rfl fl_X11_69 dX11_luredBy_23 ?_
      refine J_iload hX dX11_luredBy_26 rfl ?_
      refine J_iconst hX dX11_luredBy_28 k_i0 ?_
      refine J_zast hX hE 16 jp_0 rfl dX11_luredBy_29 (fun _ => ?_)
      refine J_bdS (fun s21 => ?_)
      refine J_aload_n hX dX11_luredBy_30 rfl ?_
      refine J_getr hX hE 0 41 rfl rfl fl_X11_73 dX11_luredBy_31 ?_
      refine J_iload hX dX11_luredBy_34 rfl ?_
      refine J_ldcw hX wc_X11_296 dX11_luredBy_36 ?_
      refine J_iast hX hE 17 rfl dX11_luredBy_39 (fun _ => ?_)
      refine J_bdS (fun s22 => ?_)
      refine J_iinc hX dX11_luredBy_40 rfl (congrArg (_ + ·) k_i1) (Nat.le_of_ble_eq_true rfl) (lv' := [(0, .ref (jad G (nm 0))), (1, .int v1), (2, .int v2), (3, .long v3), (5, .int v5), (6, .int (v6_13 + 1))]) rfl ?_
      refine J_goto hX dX11_luredBy_43 (tgt := 13) rfl ?_
      exact J_keep [0, 1, 2, 3, 4, 5] rfl (hN13 (v6_13 + 1, s22))
  · refine J_iconst hX dX11_luredBy_8 k_im1 ?_
    exact J_iret hX hM dX11_luredBy_9
theorem mw_X11_luredBy : jMV Y_X11_luredBy 4 := ⟨⟨tw_tb (List.mem_of_getElem? (i := 1428) (by decide +kernel)) (by decide +kernel), tw_pv (List.mem_of_getElem? (i := 59) (by decide +kernel)) (by decide +kernel), tw_tb (List.mem_of_getElem? (i := 13) (by decide +kernel)) (by decide +kernel), tw_tb (List.mem_of_getElem? (i := 1429) (by decide +kernel)) (by decide +kernel)⟩, ⟨rfl, rfl⟩, by decide +kernel, by decide +kernel, by decide +kernel⟩
-- X11_apart
noncomputable def f_X11_apart_J82 (nm : Nat → Nat) (v1 : Int64) (v3 : Int32) (v4 : Int32) (v5 : Int32) (v6 : Int32) (v7 : Int32) (v8 : Int32) (t0 : Int32) (σ : jS) : Option ((Int32 × Int32 × jS) ⊕ ((Int32 × jS) ⊕ (Int32 × jS))) :=
  (f_X11_in (t0.toInt64) 0 ((v4 - 1).toInt64)).bind (fun q7 =>
    if q7 = 0 then
      some (.inl (v6, v8 + 1, σ))
    else
      if v6 = v5 then
        some (.inr (.inr ((100 * v7) + v8, σ)))
      else
        some (.inl (v6 + 1, v8 + 1, σ)))
noncomputable def f_X11_apart_L42 (nm : Nat → Nat) (v1 : Int64) (v3 : Int32) (v4 : Int32) (v5 : Int32) (v7 : Int32) (s : (Int32 × Int32 × jS)) : Option ((Int32 × Int32 × jS) ⊕ ((Int32 × jS) ⊕ (Int32 × jS))) :=
  match s with
  | (v6, v8, σ) =>
    if (g_i σ (nm 0) 38) ≤ v8 then
      some (.inr (.inl (v6, σ)))
    else
      (if v7 = v8 then
        some ((-1), σ)
      else
        gd (vp_in v7 8) (
          gd (vp_in v8 8) (
            (f_X11_luredBy nm (g_i σ (nm 15) v7.toNatClampNeg) (g_i σ (nm 15) v8.toNatClampNeg) v1 v3 σ).bind (fun x => match x with
            | (q3, s4) =>
              some (q3, s4))))).bind (fun x => match x with
      | (y5, s6) =>
        f_X11_apart_J82 nm v1 v3 v4 v5 v6 v7 v8 y5 s6)
noncomputable def f_X11_apart_L30 (nm : Nat → Nat) (v1 : Int64) (v3 : Int32) (v4 : Int32) (v5 : Int32) (s : (Int32 × Int32 × jS)) : Option ((Int32 × Int32 × jS) ⊕ ((Int32 × jS) ⊕ (Int32 × jS))) :=
  match s with
  | (v6, v7, σ) =>
    if (g_i σ (nm 0) 38) ≤ v7 then
      some (.inr (.inl (v6, σ)))
    else
      (lp (f_X11_apart_L42 nm v1 v3 v4 v5 v7) fu (v6, 0, σ)).bind (fun x => match x with
      | .inl (e8, s9) =>
        some (.inl (e8, v7 + 1, s9))
      | .inr a => some (.inr (.inr a)))
noncomputable def f_X11_apart (nm : Nat → Nat) (v1 : Int64) (v3 : Int32) (v4 : Int32) (v5 : Int32) (σ : jS) : Option (Int32 × jS) :=
  (f_X11_isLoud v3).bind (fun q1 =>
    if q1 = 0 then
      some ((-1002), σ)
    else
      (f_X11_in (v4.toInt64) 1 9).bind (fun q2 =>
        if q2 = 0 then
          some ((-1002), σ)
        else
          (lp (f_X11_apart_L30 nm v1 v3 v4 v5) fu (0, 0, σ)).bind (fun x => match x with
          | .inl (e10, s11) =>
            if v5 = (-1) then
              some (e10, s11)
            else
              some ((-1), s11)
          | .inr a => some a)))
abbrev Y_X11_apart : jY := (yX11_apart, cX11_apart, 10, some .int, { frames := 3, cells := 0, slots := 0, locals := 76 })
theorem C_X11_apart {l : Launch} {G : jG} {nm : Nat → Nat} (hG : jWL G) (hE : jE G nm LS_X11) (v1 : Int64) (v3 : Int32) (v4 : Int32) (v5 : Int32) (σ : jS) : jC r_I l G Y_X11_apart [.ref (jad G (nm 0)), .long v1, .int v3, .int v4, .int v5] σ (f_X11_apart nm v1 v3 v4 v5 σ) := by
  refine jw_met hG pn_X11 (Nat.le_of_ble_eq_true rfl) ⟨rfl, rfl⟩ ?_
  intro X hX hM
  have hX : jB X l G cX11_apart RX11 10 { frames := 3, cells := 0, slots := 0, locals := 76 } := hX
  have hM : jM X (some .int) := hM
  show J X 0 [(0, .ref (jad G (nm 0))), (1, .long v1), (3, .int v3), (4, .int v4), (5, .int v5)] [] σ (f_X11_apart nm v1 v3 v4 v5 σ) (jk r_I X)
  unfold f_X11_apart
  refine J_iload_n hX dX11_apart_0 rfl ?_
  refine J_cSP hX (C_X11_isLoud hG v3 σ) mw_X11_isLoud ml_X11_268 ⟨Nat.le_of_ble_eq_true rfl, Nat.le_of_ble_eq_true rfl⟩ rfl rfl (Nat.le_of_ble_eq_true rfl) dX11_apart_1 (fun q12 => ?_)
  refine J_if_eq hX dX11_apart_4 (tgt := 20) rfl (fun _ => ?_) (fun _ => ?_)
  · refine J_sipush hX dX11_apart_20 ks_m1002 ?_
    exact J_iret hX hM dX11_apart_23
  · refine J_iload hX dX11_apart_7 rfl ?_
    refine J_i2l hX dX11_apart_9 ?_
    refine J_lconst hX dX11_apart_10 k_l1 ?_
    refine J_ldc2 hX wl_X11_259 dX11_apart_11 ?_
    refine J_cSP hX (C_X11_in hG (v4.toInt64) 1 9 σ) mw_X11_in ml_X11_107 ⟨Nat.le_of_ble_eq_true rfl, Nat.le_of_ble_eq_true rfl⟩ rfl rfl (Nat.le_of_ble_eq_true rfl) dX11_apart_14 (fun q13 => ?_)
    refine J_if_ne hX dX11_apart_17 (tgt := 24) rfl (fun _ => ?_) (fun _ => ?_)
    · refine J_iconst hX dX11_apart_24 k_i0 ?_
      refine J_istore hX dX11_apart_25 (Nat.le_of_ble_eq_true rfl) (lv' := [(0, .ref (jad G (nm 0))), (1, .long v1), (3, .int v3), (4, .int v4), (5, .int v5), (6, .int 0)]) rfl ?_
      refine J_iconst hX dX11_apart_27 k_i0 ?_
      refine J_istore hX dX11_apart_28 (Nat.le_of_ble_eq_true rfl) (lv' := [(0, .ref (jad G (nm 0))), (1, .long v1), (3, .int v3), (4, .int v4), (5, .int v5), (6, .int 0), (7, .int 0)]) rfl ?_
      refine J_keep [0, 1, 2, 3, 4, 5, 6] (lv' := [(0, .ref (jad G (nm 0))), (1, .long v1), (3, .int v3), (4, .int v4), (5, .int v5), (6, .int 0), (7, .int 0)]) rfl ?_
      refine J_lp (pc := 30) (s0 := (0, 0, σ)) (fun (s : (Int32 × Int32 × jS)) => [(0, .ref (jad G (nm 0))), (1, .long v1), (3, .int v3), (4, .int v4), (5, .int v5), (6, .int (s.1)), (7, .int (s.2.1))]) (fun (s : (Int32 × Int32 × jS)) => s.2.2) ?_
      intro KK30 hN30 hQ30 z30
      obtain ⟨v6_30, v7_30, σ_30⟩ := z30
      show J X 30 [(0, .ref (jad G (nm 0))), (1, .long v1), (3, .int v3), (4, .int v4), (5, .int v5), (6, .int v6_30), (7, .int v7_30)] [] σ_30 (f_X11_apart_L30 nm v1 v3 v4 v5 (v6_30, v7_30, σ_30)) KK30
      unfold f_X11_apart_L30
      refine J_iload hX dX11_apart_30 rfl ?_
      refine J_aload_n hX dX11_apart_32 rfl ?_
      refine J_geti hX hE 0 38 rfl rfl fl_X11_212 dX11_apart_33 ?_
      refine J_icmp_ge hX dX11_apart_36 (tgt := 130) rfl (fun _ => ?_) (fun _ => ?_)
      · refine hQ30 _ _ _ _ _ ?_
        refine J_iload hX dX11_apart_130 rfl ?_
        refine J_iconst hX dX11_apart_132 k_im1 ?_
        refine J_icmp_ne hX dX11_apart_133 (tgt := 141) rfl (fun _ => ?_) (fun _ => ?_)
        · refine J_iconst hX dX11_apart_141 k_im1 ?_
          exact J_iret hX hM dX11_apart_142
        · refine J_iload hX dX11_apart_136 rfl ?_
          refine J_goto hX dX11_apart_138 (tgt := 142) rfl ?_
          exact J_iret hX hM dX11_apart_142
      · refine J_iconst hX dX11_apart_39 k_i0 ?_
        refine J_istore hX dX11_apart_40 (Nat.le_of_ble_eq_true rfl) (lv' := [(0, .ref (jad G (nm 0))), (1, .long v1), (3, .int v3), (4, .int v4), (5, .int v5), (6, .int v6_30), (7, .int v7_30), (8, .int 0)]) rfl ?_
        refine J_keep [0, 1, 2, 3, 4, 5, 6, 7] (lv' := [(0, .ref (jad G (nm 0))), (1, .long v1), (3, .int v3), (4, .int v4), (5, .int v5), (6, .int v6_30), (7, .int v7_30), (8, .int 0)]) rfl ?_
        refine J_lp (pc := 42) (s0 := (v6_30, 0, σ_30)) (fun (s : (Int32 × Int32 × jS)) => [(0, .ref (jad G (nm 0))), (1, .long v1), (3, .int v3), (4, .int v4), (5, .int v5), (6, .int (s.1)), (7, .int v7_30), (8, .int (s.2.1))]) (fun (s : (Int32 × Int32 × jS)) => s.2.2) ?_
        intro KK42 hN42 hQ42 z42
        obtain ⟨v6_42, v8_42, σ_42⟩ := z42
        show J X 42 [(0, .ref (jad G (nm 0))), (1, .long v1), (3, .int v3), (4, .int v4), (5, .int v5), (6, .int v6_42), (7, .int v7_30), (8, .int v8_42)] [] σ_42 (f_X11_apart_L42 nm v1 v3 v4 v5 v7_30 (v6_42, v8_42, σ_42)) KK42
        have hJ82 : ∀ (v6_j82 : Int32) (v8_j82 : Int32) (t0_j82 : Int32) (σ_j82 : jS), J X 82 [(0, .ref (jad G (nm 0))), (1, .long v1), (3, .int v3), (4, .int v4), (5, .int v5), (6, .int v6_j82), (7, .int v7_30), (8, .int v8_j82)] [.int t0_j82] σ_j82 (f_X11_apart_J82 nm v1 v3 v4 v5 v6_j82 v7_30 v8_j82 t0_j82 σ_j82) KK42 := by
          intro v6_j82 v8_j82 t0_j82 σ_j82
          unfold f_X11_apart_J82
          refine J_istore hX dX11_apart_82 (Nat.le_of_ble_eq_true rfl) (lv' := [(0, .ref (jad G (nm 0))), (1, .long v1), (3, .int v3), (4, .int v4), (5, .int v5), (6, .int v6_j82), (7, .int v7_30), (8, .int v8_j82), (9, .int t0_j82)]) rfl ?_
          refine J_iload hX dX11_apart_84 rfl ?_
          refine J_i2l hX dX11_apart_86 ?_
          refine J_lconst hX dX11_apart_87 k_l0 ?_
          refine J_iload hX dX11_apart_88 rfl ?_
          refine J_iconst hX dX11_apart_90 k_i1 ?_
          refine J_isub hX dX11_apart_91 ?_
          refine J_i2l hX dX11_apart_92 ?_
          refine J_cSP hX (C_X11_in hG (t0_j82.toInt64) 0 ((v4 - 1).toInt64) σ_j82) mw_X11_in ml_X11_107 ⟨Nat.le_of_ble_eq_true rfl, Nat.le_of_ble_eq_true rfl⟩ rfl rfl (Nat.le_of_ble_eq_true rfl) dX11_apart_93 (fun q14 => ?_)
          refine J_if_eq hX dX11_apart_96 (tgt := 118) rfl (fun _ => ?_) (fun _ => ?_)
          · refine J_iinc hX dX11_apart_118 rfl (congrArg (_ + ·) k_i1) (Nat.le_of_ble_eq_true rfl) (lv' := [(0, .ref (jad G (nm 0))), (1, .long v1), (3, .int v3), (4, .int v4), (5, .int v5), (6, .int v6_j82), (7, .int v7_30), (8, .int (v8_j82 + 1)), (9, .int t0_j82)]) rfl ?_
            refine J_goto hX dX11_apart_121 (tgt := 42) rfl ?_
            exact J_keep [0, 1, 2, 3, 4, 5, 6, 7] rfl (hN42 (v6_j82, v8_j82 + 1, σ_j82))
          · refine J_iload hX dX11_apart_99 rfl ?_
            refine J_iload hX dX11_apart_101 rfl ?_
            refine J_icmp_ne hX dX11_apart_103 (tgt := 115) rfl (fun _ => ?_) (fun _ => ?_)
            · refine J_iinc hX dX11_apart_115 rfl (congrArg (_ + ·) k_i1) (Nat.le_of_ble_eq_true rfl) (lv' := [(0, .ref (jad G (nm 0))), (1, .long v1), (3, .int v3), (4, .int v4), (5, .int v5), (6, .int (v6_j82 + 1)), (7, .int v7_30), (8, .int v8_j82), (9, .int t0_j82)]) rfl ?_
              refine J_iinc hX dX11_apart_118 rfl (congrArg (_ + ·) k_i1) (Nat.le_of_ble_eq_true rfl) (lv' := [(0, .ref (jad G (nm 0))), (1, .long v1), (3, .int v3), (4, .int v4), (5, .int v5), (6, .int (v6_j82 + 1)), (7, .int v7_30), (8, .int (v8_j82 + 1)), (9, .int t0_j82)]) rfl ?_
              refine J_goto hX dX11_apart_121 (tgt := 42) rfl ?_
              exact J_keep [0, 1, 2, 3, 4, 5, 6, 7] rfl (hN42 (v6_j82 + 1, v8_j82 + 1, σ_j82))
            · refine J_bipush hX dX11_apart_106 kb_100 ?_
              refine J_iload hX dX11_apart_108 rfl ?_
              refine J_imul hX dX11_apart_110 ?_
              refine J_iload hX dX11_apart_111 rfl ?_
              refine J_iadd hX dX11_apart_113 ?_
              refine hQ42 _ _ _ _ _ ?_
              refine hQ30 _ _ _ _ _ ?_
              exact J_iret hX hM dX11_apart_114
        unfold f_X11_apart_L42
        refine J_iload hX dX11_apart_42 rfl ?_
        refine J_aload_n hX dX11_apart_44 rfl ?_
        refine J_geti hX hE 0 38 rfl rfl fl_X11_212 dX11_apart_45 ?_
        refine J_icmp_ge hX dX11_apart_48 (tgt := 124) rfl (fun _ => ?_) (fun _ => ?_)
        · refine hQ42 _ _ _ _ _ ?_
          refine J_iinc hX dX11_apart_124 rfl (congrArg (_ + ·) k_i1) (Nat.le_of_ble_eq_true rfl) (lv' := [(0, .ref (jad G (nm 0))), (1, .long v1), (3, .int v3), (4, .int v4), (5, .int v5), (6, .int v6_42), (7, .int (v7_30 + 1)), (8, .int v8_42)]) rfl ?_
          refine J_goto hX dX11_apart_127 (tgt := 30) rfl ?_
          exact J_keep [0, 1, 2, 3, 4, 5, 6] rfl (hN30 (v6_42, v7_30 + 1, σ_42))
        · refine J_iload hX dX11_apart_51 rfl ?_
          refine J_iload hX dX11_apart_53 rfl ?_
          refine J_blk ?_
          intro KB55 hB55
          refine J_icmp_ne hX dX11_apart_55 (tgt := 62) rfl (fun _ => ?_) (fun _ => ?_)
          · refine J_aload_n hX dX11_apart_62 rfl ?_
            refine J_aload_n hX dX11_apart_63 rfl ?_
            refine J_getr hX hE 0 39 rfl rfl fl_X11_66 dX11_apart_64 ?_
            refine J_iload hX dX11_apart_67 rfl ?_
            refine J_iald hX hE 15 rfl dX11_apart_69 (fun _ => ?_)
            refine J_aload_n hX dX11_apart_70 rfl ?_
            refine J_getr hX hE 0 39 rfl rfl fl_X11_66 dX11_apart_71 ?_
            refine J_iload hX dX11_apart_74 rfl ?_
            refine J_iald hX hE 15 rfl dX11_apart_76 (fun _ => ?_)
            refine J_lload_n hX dX11_apart_77 rfl ?_
            refine J_iload_n hX dX11_apart_78 rfl ?_
            refine J_cVI hX hE 0 (C_X11_luredBy hG hE (g_i σ_42 (nm 15) v7_30.toNatClampNeg) (g_i σ_42 (nm 15) v8_42.toNatClampNeg) v1 v3 σ_42) mw_X11_luredBy ml_X11_322 rfl rfl rfl ⟨Nat.le_of_ble_eq_true rfl, Nat.le_of_ble_eq_true rfl⟩ rfl rfl (Nat.le_of_ble_eq_true rfl) dX11_apart_79 (fun q15 s16 => ?_)
            refine hB55 _ _ _ _ _ ?_
            exact J_keep [0, 1, 2, 3, 4, 5, 6, 7] rfl (hJ82 v6_42 v8_42 q15 s16)
          · refine J_iconst hX dX11_apart_58 k_im1 ?_
            refine J_goto hX dX11_apart_59 (tgt := 82) rfl ?_
            refine hB55 _ _ _ _ _ ?_
            exact J_keep [0, 1, 2, 3, 4, 5, 6, 7] rfl (hJ82 v6_42 v8_42 (-1) σ_42)
    · refine J_sipush hX dX11_apart_20 ks_m1002 ?_
      exact J_iret hX hM dX11_apart_23
theorem mw_X11_apart : jMV Y_X11_apart 4 := ⟨⟨tw_tb (List.mem_of_getElem? (i := 1434) (by decide +kernel)) (by decide +kernel), tw_tb (List.mem_of_getElem? (i := 1435) (by decide +kernel)) (by decide +kernel), tw_tb (List.mem_of_getElem? (i := 13) (by decide +kernel)) (by decide +kernel), tw_tb (List.mem_of_getElem? (i := 1436) (by decide +kernel)) (by decide +kernel)⟩, ⟨rfl, rfl⟩, by decide +kernel, by decide +kernel, by decide +kernel⟩
