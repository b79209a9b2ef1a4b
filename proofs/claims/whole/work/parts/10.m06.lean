-- X11_here
noncomputable def f_X11_here_L0 (nm : Nat → Nat) (σ : jS) : Option (jS ⊕ jS) :=
  if (g_i σ (nm 0) 19) ≤ (g_i σ (nm 0) 21) then
    some (.inr σ)
  else
    gd (vp_in (g_i σ (nm 0) 21) 400) (
      if (g_i σ (nm 8) (g_i σ (nm 0) 21).toNatClampNeg) = 32 then
        bd (s_i σ (nm 0) 21 ((g_i σ (nm 0) 21) + 1)) (fun s1 =>
          some (.inl s1))
      else
        some (.inr σ))
noncomputable def f_X11_here_J38 (nm : Nat → Nat) (σ : jS) : Option (Int32 × jS) :=
  if (g_i σ (nm 0) 19) ≤ (g_i σ (nm 0) 21) then
    some ((-1), σ)
  else
    gd (vp_in (g_i σ (nm 0) 21) 400) (
      some (g_i σ (nm 8) (g_i σ (nm 0) 21).toNatClampNeg, σ))
noncomputable def f_X11_here (nm : Nat → Nat) (σ : jS) : Option (Int32 × jS) :=
  (lp (f_X11_here_L0 nm) fu σ).bind (fun s2 =>
    f_X11_here_J38 nm s2)
abbrev Y_X11_here : jY := (yX11_here, cX11_here, 1, some .int, { frames := 0, cells := 0, slots := 0, locals := 0 })
theorem C_X11_here {l : Launch} {G : jG} {nm : Nat → Nat} (hG : jWL G) (hE : jE G nm LS_X11) (σ : jS) : jC r_I l G Y_X11_here [.ref (jad G (nm 0))] σ (f_X11_here nm σ) := by
  refine jw_met hG pn_X11 (Nat.le_of_ble_eq_true rfl) ⟨rfl, rfl⟩ ?_
  intro X hX hM
  have hX : jB X l G cX11_here RX11 1 { frames := 0, cells := 0, slots := 0, locals := 0 } := hX
  have hM : jM X (some .int) := hM
  show J X 0 [(0, .ref (jad G (nm 0)))] [] σ (f_X11_here nm σ) (jk r_I X)
  have hJ38 : ∀ (σ : jS), J X 38 [(0, .ref (jad G (nm 0)))] [] σ (f_X11_here_J38 nm σ) (jk r_I X) := by
    intro σ
    unfold f_X11_here_J38
    refine J_aload_n hX dX11_here_38 rfl ?_
    refine J_geti hX hE 0 21 rfl rfl fl_X11_124 dX11_here_39 ?_
    refine J_aload_n hX dX11_here_42 rfl ?_
    refine J_geti hX hE 0 19 rfl rfl fl_X11_119 dX11_here_43 ?_
    refine J_icmp_ge hX dX11_here_46 (tgt := 61) rfl (fun _ => ?_) (fun _ => ?_)
    · refine J_iconst hX dX11_here_61 k_im1 ?_
      exact J_iret hX hM dX11_here_62
    · refine J_aload_n hX dX11_here_49 rfl ?_
      refine J_getr hX hE 0 18 rfl rfl fl_X11_41 dX11_here_50 ?_
      refine J_aload_n hX dX11_here_53 rfl ?_
      refine J_geti hX hE 0 21 rfl rfl fl_X11_124 dX11_here_54 ?_
      refine J_iald hX hE 8 rfl dX11_here_57 (fun _ => ?_)
      refine J_goto hX dX11_here_58 (tgt := 62) rfl ?_
      exact J_iret hX hM dX11_here_62
  unfold f_X11_here
  refine J_keep [0] (lv' := [(0, .ref (jad G (nm 0)))]) rfl ?_
  refine J_lp (pc := 0) (s0 := σ) (fun (s : jS) => [(0, .ref (jad G (nm 0)))]) (fun (s : jS) => s) ?_
  intro KK0 hN0 hQ0 z0
  obtain ⟨σ_0, rfl⟩ : ∃ y, y = z0 := ⟨_, rfl⟩
  show J X 0 [(0, .ref (jad G (nm 0)))] [] σ_0 (f_X11_here_L0 nm σ_0) KK0
  unfold f_X11_here_L0
  refine J_aload_n hX dX11_here_0 rfl ?_
  refine J_geti hX hE 0 21 rfl rfl fl_X11_124 dX11_here_1 ?_
  refine J_aload_n hX dX11_here_4 rfl ?_
  refine J_geti hX hE 0 19 rfl rfl fl_X11_119 dX11_here_5 ?_
  refine J_icmp_ge hX dX11_here_8 (tgt := 38) rfl (fun _ => ?_) (fun _ => ?_)
  · refine hQ0 _ _ _ _ _ ?_
    exact J_keep [0] rfl (hJ38 σ_0)
  · refine J_aload_n hX dX11_here_11 rfl ?_
    refine J_getr hX hE 0 18 rfl rfl fl_X11_41 dX11_here_12 ?_
    refine J_aload_n hX dX11_here_15 rfl ?_
    refine J_geti hX hE 0 21 rfl rfl fl_X11_124 dX11_here_16 ?_
    refine J_iald hX hE 8 rfl dX11_here_19 (fun _ => ?_)
    refine J_bipush hX dX11_here_20 kb_32 ?_
    refine J_icmp_ne hX dX11_here_22 (tgt := 38) rfl (fun _ => ?_) (fun _ => ?_)
    · refine hQ0 _ _ _ _ _ ?_
      exact J_keep [0] rfl (hJ38 σ_0)
    · refine J_aload_n hX dX11_here_25 rfl ?_
      refine J_dup hX dX11_here_26 rfl ?_
      refine J_geti hX hE 0 21 rfl rfl fl_X11_124 dX11_here_27 ?_
      refine J_iconst hX dX11_here_30 k_i1 ?_
      refine J_iadd hX dX11_here_31 ?_
      refine J_puti hX hE 0 21 rfl rfl fp_X11_124 dX11_here_32 ?_
      refine J_bdS (fun s3 => ?_)
      refine J_goto hX dX11_here_35 (tgt := 0) rfl ?_
      exact J_keep [0] rfl (hN0 s3)
theorem mw_X11_here : jMV Y_X11_here 0 := ⟨⟨tw_tb (List.mem_of_getElem? (i := 1220) (by decide +kernel)) (by decide +kernel), tw_pv (List.mem_of_getElem? (i := 35) (by decide +kernel)) (by decide +kernel), tw_tb (List.mem_of_getElem? (i := 13) (by decide +kernel)) (by decide +kernel), tw_tb (List.mem_of_getElem? (i := 1221) (by decide +kernel)) (by decide +kernel)⟩, ⟨rfl, rfl⟩, by decide +kernel, by decide +kernel, by decide +kernel⟩
-- X11_isSound
noncomputable def f_X11_isSound (v0 : Int32) (v1 : Int32) : Option Int32 :=
  (f_X11_in (v0.toInt64) 0 49).bind (fun q1 =>
    if q1 = 0 then
      some 0
    else
      (f_X11_in (v1.toInt64) 0 63).bind (fun q2 =>
        if q2 = 0 then
          some 0
        else
          some 1))
abbrev Y_X11_isSound : jY := (yX11_isSound, cX11_isSound, 2, some .boolean, { frames := 1, cells := 0, slots := 0, locals := 25 })
theorem C_X11_isSound {l : Launch} {G : jG} (hG : jWL G) (v0 : Int32) (v1 : Int32) (σ : jS) : jC (r_P σ) l G Y_X11_isSound [.int v0, .int v1] σ (f_X11_isSound v0 v1) := by
  refine jw_met hG pn_X11 (Nat.le_of_ble_eq_true rfl) ⟨rfl, rfl⟩ ?_
  intro X hX hM
  have hX : jB X l G cX11_isSound RX11 2 { frames := 1, cells := 0, slots := 0, locals := 25 } := hX
  have hM : jM X (some .boolean) := hM
  show J X 0 [(0, .int v0), (1, .int v1)] [] σ (f_X11_isSound v0 v1) (jk (r_P σ) X)
  unfold f_X11_isSound
  refine J_iload_n hX dX11_isSound_0 rfl ?_
  refine J_i2l hX dX11_isSound_1 ?_
  refine J_lconst hX dX11_isSound_2 k_l0 ?_
  refine J_ldc2 hX wl_X11_261 dX11_isSound_3 ?_
  refine J_cSP hX (C_X11_in hG (v0.toInt64) 0 49 σ) mw_X11_in ml_X11_107 ⟨Nat.le_of_ble_eq_true rfl, Nat.le_of_ble_eq_true rfl⟩ rfl rfl (Nat.le_of_ble_eq_true rfl) dX11_isSound_6 (fun q3 => ?_)
  refine J_if_eq hX dX11_isSound_9 (tgt := 28) rfl (fun _ => ?_) (fun _ => ?_)
  · refine J_iconst hX dX11_isSound_28 k_i0 ?_
    exact J_zretP hX hM jn_0 dX11_isSound_29
  · refine J_iload_n hX dX11_isSound_12 rfl ?_
    refine J_i2l hX dX11_isSound_13 ?_
    refine J_lconst hX dX11_isSound_14 k_l0 ?_
    refine J_ldc2 hX wl_X11_263 dX11_isSound_15 ?_
    refine J_cSP hX (C_X11_in hG (v1.toInt64) 0 63 σ) mw_X11_in ml_X11_107 ⟨Nat.le_of_ble_eq_true rfl, Nat.le_of_ble_eq_true rfl⟩ rfl rfl (Nat.le_of_ble_eq_true rfl) dX11_isSound_18 (fun q4 => ?_)
    refine J_if_eq hX dX11_isSound_21 (tgt := 28) rfl (fun _ => ?_) (fun _ => ?_)
    · refine J_iconst hX dX11_isSound_28 k_i0 ?_
      exact J_zretP hX hM jn_0 dX11_isSound_29
    · refine J_iconst hX dX11_isSound_24 k_i1 ?_
      refine J_goto hX dX11_isSound_25 (tgt := 29) rfl ?_
      exact J_zretP hX hM jn_1 dX11_isSound_29
theorem mw_X11_isSound : jMS Y_X11_isSound 2 := ⟨⟨tw_tb (List.mem_of_getElem? (i := 1327) (by decide +kernel)) (by decide +kernel), tw_tb (List.mem_of_getElem? (i := 13) (by decide +kernel)) (by decide +kernel), tw_tb (List.mem_of_getElem? (i := 1328) (by decide +kernel)) (by decide +kernel)⟩, ⟨rfl, rfl⟩, by decide +kernel, by decide +kernel, by decide +kernel⟩
-- X11_hum
noncomputable def f_X11_hum (nm : Nat → Nat) (v1 : Int32) (v2 : Int32) (σ : jS) : Option (Int32 × jS) :=
  (f_X11_isSound v1 v2).bind (fun q1 =>
    if q1 = 0 then
      some ((-1002), σ)
    else
      (f_X11_sound nm v1 v2 (g_i σ (nm 0) 7) (-3) σ).bind (fun x => match x with
      | (q2, s3) =>
        some (q2, s3)))
abbrev Y_X11_hum : jY := (yX11_hum, cX11_hum, 3, some .int, { frames := 3, cells := 0, slots := 0, locals := 75 })
theorem C_X11_hum {l : Launch} {G : jG} {nm : Nat → Nat} (hG : jWL G) (hE : jE G nm LS_X11) (v1 : Int32) (v2 : Int32) (σ : jS) : jC r_I l G Y_X11_hum [.ref (jad G (nm 0)), .int v1, .int v2] σ (f_X11_hum nm v1 v2 σ) := by
  refine jw_met hG pn_X11 (Nat.le_of_ble_eq_true rfl) ⟨rfl, rfl⟩ ?_
  intro X hX hM
  have hX : jB X l G cX11_hum RX11 3 { frames := 3, cells := 0, slots := 0, locals := 75 } := hX
  have hM : jM X (some .int) := hM
  show J X 0 [(0, .ref (jad G (nm 0))), (1, .int v1), (2, .int v2)] [] σ (f_X11_hum nm v1 v2 σ) (jk r_I X)
  unfold f_X11_hum
  refine J_iload_n hX dX11_hum_0 rfl ?_
  refine J_iload_n hX dX11_hum_1 rfl ?_
  refine J_cSP hX (C_X11_isSound hG v1 v2 σ) mw_X11_isSound ml_X11_265 ⟨Nat.le_of_ble_eq_true rfl, Nat.le_of_ble_eq_true rfl⟩ rfl rfl (Nat.le_of_ble_eq_true rfl) dX11_hum_2 (fun q4 => ?_)
  refine J_if_eq hX dX11_hum_5 (tgt := 23) rfl (fun _ => ?_) (fun _ => ?_)
  · refine J_sipush hX dX11_hum_23 ks_m1002 ?_
    exact J_iret hX hM dX11_hum_26
  · refine J_aload_n hX dX11_hum_8 rfl ?_
    refine J_iload_n hX dX11_hum_9 rfl ?_
    refine J_iload_n hX dX11_hum_10 rfl ?_
    refine J_aload_n hX dX11_hum_11 rfl ?_
    refine J_geti hX hE 0 7 rfl rfl fl_X11_29 dX11_hum_12 ?_
    refine J_bipush hX dX11_hum_15 kb_m3 ?_
    refine J_cVI hX hE 0 (C_X11_sound hG hE v1 v2 (g_i σ (nm 0) 7) (-3) σ) mw_X11_sound ml_X11_271 rfl rfl rfl ⟨Nat.le_of_ble_eq_true rfl, Nat.le_of_ble_eq_true rfl⟩ rfl rfl (Nat.le_of_ble_eq_true rfl) dX11_hum_17 (fun q5 s6 => ?_)
    refine J_goto hX dX11_hum_20 (tgt := 26) rfl ?_
    exact J_iret hX hM dX11_hum_26
theorem mw_X11_hum : jMV Y_X11_hum 2 := ⟨⟨tw_tb (List.mem_of_getElem? (i := 1342) (by decide +kernel)) (by decide +kernel), tw_tb (List.mem_of_getElem? (i := 1343) (by decide +kernel)) (by decide +kernel), tw_tb (List.mem_of_getElem? (i := 13) (by decide +kernel)) (by decide +kernel), tw_tb (List.mem_of_getElem? (i := 1344) (by decide +kernel)) (by decide +kernel)⟩, ⟨rfl, rfl⟩, by decide +kernel, by decide +kernel, by decide +kernel⟩
-- X11_takeNumber
noncomputable def f_X11_takeNumber_J113 (nm : Nat → Nat) (v1 : Int32) (v2 : Int32) (t1 : Int32) (σ : jS) : Option (jS ⊕ jS) :=
  bd (s_i σ (nm 0) 24 t1) (fun s8 =>
    bd (s_i s8 (nm 0) 21 ((g_i s8 (nm 0) 21) + 1)) (fun s9 =>
      some (.inl s9)))
noncomputable def f_X11_takeNumber_L42 (nm : Nat → Nat) (v1 : Int32) (v2 : Int32) (σ : jS) : Option (jS ⊕ jS) :=
  if (g_i σ (nm 0) 19) ≤ (g_i σ (nm 0) 21) then
    some (.inr σ)
  else
    gd (vp_in (g_i σ (nm 0) 21) 400) (
      (f_X11_in ((g_i σ (nm 8) (g_i σ (nm 0) 21).toNatClampNeg).toInt64) 48 57).bind (fun q6 =>
        if q6 = 0 then
          some (.inr σ)
        else
          (if (g_i σ (nm 0) 24) ≤ 10000 then
            gd (vp_in (g_i σ (nm 0) 21) 400) (
              some (((10 * (g_i σ (nm 0) 24)) + (g_i σ (nm 8) (g_i σ (nm 0) 21).toNatClampNeg)) - 48))
          else
            some (g_i σ (nm 0) 24)).bind (fun y7 =>
            f_X11_takeNumber_J113 nm v1 v2 y7 σ)))
noncomputable def f_X11_takeNumber_J157 (nm : Nat → Nat) (σ : jS) : Option (Int32 × jS) :=
  (f_X11_fails nm 2 (g_i σ (nm 0) 25) σ).bind (fun x => match x with
  | (q11, s12) =>
    some (q11, s12))
noncomputable def f_X11_takeNumber_J129 (nm : Nat → Nat) (v1 : Int32) (v2 : Int32) (σ : jS) : Option (Int32 × jS) :=
  if 3 < ((g_i σ (nm 0) 21) - (g_i σ (nm 0) 25)) then
    f_X11_takeNumber_J157 nm σ
  else
    (f_X11_in ((g_i σ (nm 0) 24).toInt64) (v1.toInt64) (v2.toInt64)).bind (fun q13 =>
      if q13 = 0 then
        f_X11_takeNumber_J157 nm σ
      else
        some (0, σ))
noncomputable def f_X11_takeNumber (nm : Nat → Nat) (v1 : Int32) (v2 : Int32) (σ : jS) : Option (Int32 × jS) :=
  (f_X11_here nm σ).bind (fun x => match x with
  | (q1, s2) =>
    (f_X11_in (q1.toInt64) 48 57).bind (fun q3 =>
      if q3 = 0 then
        (f_X11_fails nm 1 (g_i s2 (nm 0) 21) s2).bind (fun x => match x with
        | (q14, s15) =>
          some (q14, s15))
      else
        bd (s_i s2 (nm 0) 25 (g_i s2 (nm 0) 21)) (fun s4 =>
          bd (s_i s4 (nm 0) 24 0) (fun s5 =>
            (lp (f_X11_takeNumber_L42 nm v1 v2) fu s5).bind (fun s10 =>
              f_X11_takeNumber_J129 nm v1 v2 s10)))))
abbrev Y_X11_takeNumber : jY := (yX11_takeNumber, cX11_takeNumber, 4, some .int, { frames := 1, cells := 0, slots := 0, locals := 25 })
theorem C_X11_takeNumber {l : Launch} {G : jG} {nm : Nat → Nat} (hG : jWL G) (hE : jE G nm LS_X11) (v1 : Int32) (v2 : Int32) (σ : jS) : jC r_I l G Y_X11_takeNumber [.ref (jad G (nm 0)), .int v1, .int v2] σ (f_X11_takeNumber nm v1 v2 σ) := by
  refine jw_met hG pn_X11 (Nat.le_of_ble_eq_true rfl) ⟨rfl, rfl⟩ ?_
  intro X hX hM
  have hX : jB X l G cX11_takeNumber RX11 4 { frames := 1, cells := 0, slots := 0, locals := 25 } := hX
  have hM : jM X (some .int) := hM
  show J X 0 [(0, .ref (jad G (nm 0))), (1, .int v1), (2, .int v2)] [] σ (f_X11_takeNumber nm v1 v2 σ) (jk r_I X)
  have hJ157 : ∀ (σ : jS), J X 157 [(0, .ref (jad G (nm 0)))] [] σ (f_X11_takeNumber_J157 nm σ) (jk r_I X) := by
    intro σ
    unfold f_X11_takeNumber_J157
    refine J_aload_n hX dX11_takeNumber_157 rfl ?_
    refine J_iconst hX dX11_takeNumber_158 k_i2 ?_
    refine J_aload_n hX dX11_takeNumber_159 rfl ?_
    refine J_geti hX hE 0 25 rfl rfl fl_X11_157 dX11_takeNumber_160 ?_
    refine J_cVI hX hE 0 (C_X11_fails hG hE 2 (g_i σ (nm 0) 25) σ) mw_X11_fails ml_X11_153 rfl rfl rfl ⟨Nat.le_of_ble_eq_true rfl, Nat.le_of_ble_eq_true rfl⟩ rfl rfl (Nat.le_of_ble_eq_true rfl) dX11_takeNumber_163 (fun q16 s17 => ?_)
    refine J_goto hX dX11_takeNumber_166 (tgt := 170) rfl ?_
    exact J_iret hX hM dX11_takeNumber_170
  have hJ129 : ∀ (v1 : Int32) (v2 : Int32) (σ : jS), J X 129 [(0, .ref (jad G (nm 0))), (1, .int v1), (2, .int v2)] [] σ (f_X11_takeNumber_J129 nm v1 v2 σ) (jk r_I X) := by
    intro v1 v2 σ
    unfold f_X11_takeNumber_J129
    refine J_aload_n hX dX11_takeNumber_129 rfl ?_
    refine J_geti hX hE 0 21 rfl rfl fl_X11_124 dX11_takeNumber_130 ?_
    refine J_aload_n hX dX11_takeNumber_133 rfl ?_
    refine J_geti hX hE 0 25 rfl rfl fl_X11_157 dX11_takeNumber_134 ?_
    refine J_isub hX dX11_takeNumber_137 ?_
    refine J_iconst hX dX11_takeNumber_138 k_i3 ?_
    refine J_icmp_gt hX dX11_takeNumber_139 (tgt := 157) rfl (fun _ => ?_) (fun _ => ?_)
    · exact J_keep [0] rfl (hJ157 σ)
    · refine J_aload_n hX dX11_takeNumber_142 rfl ?_
      refine J_geti hX hE 0 24 rfl rfl fl_X11_160 dX11_takeNumber_143 ?_
      refine J_i2l hX dX11_takeNumber_146 ?_
      refine J_iload_n hX dX11_takeNumber_147 rfl ?_
      refine J_i2l hX dX11_takeNumber_148 ?_
      refine J_iload_n hX dX11_takeNumber_149 rfl ?_
      refine J_i2l hX dX11_takeNumber_150 ?_
      refine J_cSP hX (C_X11_in hG ((g_i σ (nm 0) 24).toInt64) (v1.toInt64) (v2.toInt64) σ) mw_X11_in ml_X11_107 ⟨Nat.le_of_ble_eq_true rfl, Nat.le_of_ble_eq_true rfl⟩ rfl rfl (Nat.le_of_ble_eq_true rfl) dX11_takeNumber_151 (fun q18 => ?_)
      refine J_if_ne hX dX11_takeNumber_154 (tgt := 169) rfl (fun _ => ?_) (fun _ => ?_)
      · refine J_iconst hX dX11_takeNumber_169 k_i0 ?_
        exact J_iret hX hM dX11_takeNumber_170
      · exact J_keep [0] rfl (hJ157 σ)
  unfold f_X11_takeNumber
  refine J_aload_n hX dX11_takeNumber_0 rfl ?_
  refine J_cVI hX hE 0 (C_X11_here hG hE σ) mw_X11_here ml_X11_127 rfl rfl rfl ⟨Nat.le_of_ble_eq_true rfl, Nat.le_of_ble_eq_true rfl⟩ rfl rfl (Nat.le_of_ble_eq_true rfl) dX11_takeNumber_1 (fun q19 s20 => ?_)
  refine J_istore_n hX dX11_takeNumber_4 (Nat.le_of_ble_eq_true rfl) (lv' := [(0, .ref (jad G (nm 0))), (1, .int v1), (2, .int v2), (3, .int q19)]) rfl ?_
  refine J_iload_n hX dX11_takeNumber_5 rfl ?_
  refine J_i2l hX dX11_takeNumber_6 ?_
  refine J_ldc2 hX wl_X11_149 dX11_takeNumber_7 ?_
  refine J_ldc2 hX wl_X11_151 dX11_takeNumber_10 ?_
  refine J_cSP hX (C_X11_in hG (q19.toInt64) 48 57 s20) mw_X11_in ml_X11_107 ⟨Nat.le_of_ble_eq_true rfl, Nat.le_of_ble_eq_true rfl⟩ rfl rfl (Nat.le_of_ble_eq_true rfl) dX11_takeNumber_13 (fun q21 => ?_)
  refine J_if_ne hX dX11_takeNumber_16 (tgt := 29) rfl (fun _ => ?_) (fun _ => ?_)
  · refine J_aload_n hX dX11_takeNumber_29 rfl ?_
    refine J_aload_n hX dX11_takeNumber_30 rfl ?_
    refine J_geti hX hE 0 21 rfl rfl fl_X11_124 dX11_takeNumber_31 ?_
    refine J_puti hX hE 0 25 rfl rfl fp_X11_157 dX11_takeNumber_34 ?_
    refine J_bdS (fun s22 => ?_)
    refine J_aload_n hX dX11_takeNumber_37 rfl ?_
    refine J_iconst hX dX11_takeNumber_38 k_i0 ?_
    refine J_puti hX hE 0 24 rfl rfl fp_X11_160 dX11_takeNumber_39 ?_
    refine J_bdS (fun s23 => ?_)
    refine J_keep [0, 1, 2] (lv' := [(0, .ref (jad G (nm 0))), (1, .int v1), (2, .int v2)]) rfl ?_
    refine J_lp (pc := 42) (s0 := s23) (fun (s : jS) => [(0, .ref (jad G (nm 0))), (1, .int v1), (2, .int v2)]) (fun (s : jS) => s) ?_
    intro KK42 hN42 hQ42 z42
    obtain ⟨σ_42, rfl⟩ : ∃ y, y = z42 := ⟨_, rfl⟩
    show J X 42 [(0, .ref (jad G (nm 0))), (1, .int v1), (2, .int v2)] [] σ_42 (f_X11_takeNumber_L42 nm v1 v2 σ_42) KK42
    have hJ113 : ∀ (t1_j113 : Int32) (σ_j113 : jS), J X 113 [(0, .ref (jad G (nm 0))), (1, .int v1), (2, .int v2)] [.int t1_j113, .ref (jad G (nm 0))] σ_j113 (f_X11_takeNumber_J113 nm v1 v2 t1_j113 σ_j113) KK42 := by
      intro t1_j113 σ_j113
      unfold f_X11_takeNumber_J113
      refine J_puti hX hE 0 24 rfl rfl fp_X11_160 dX11_takeNumber_113 ?_
      refine J_bdS (fun s24 => ?_)
      refine J_aload_n hX dX11_takeNumber_116 rfl ?_
      refine J_dup hX dX11_takeNumber_117 rfl ?_
      refine J_geti hX hE 0 21 rfl rfl fl_X11_124 dX11_takeNumber_118 ?_
      refine J_iconst hX dX11_takeNumber_121 k_i1 ?_
      refine J_iadd hX dX11_takeNumber_122 ?_
      refine J_puti hX hE 0 21 rfl rfl fp_X11_124 dX11_takeNumber_123 ?_
      refine J_bdS (fun s25 => ?_)
      refine J_goto hX dX11_takeNumber_126 (tgt := 42) rfl ?_
      exact J_keep [0, 1, 2] rfl (hN42 s25)
    unfold f_X11_takeNumber_L42
    refine J_aload_n hX dX11_takeNumber_42 rfl ?_
    refine J_geti hX hE 0 21 rfl rfl fl_X11_124 dX11_takeNumber_43 ?_
    refine J_aload_n hX dX11_takeNumber_46 rfl ?_
    refine J_geti hX hE 0 19 rfl rfl fl_X11_119 dX11_takeNumber_47 ?_
    refine J_icmp_ge hX dX11_takeNumber_50 (tgt := 129) rfl (fun _ => ?_) (fun _ => ?_)
    · refine hQ42 _ _ _ _ _ ?_
      exact J_keep [0, 1, 2] rfl (hJ129 v1 v2 σ_42)
    · refine J_aload_n hX dX11_takeNumber_53 rfl ?_
      refine J_getr hX hE 0 18 rfl rfl fl_X11_41 dX11_takeNumber_54 ?_
      refine J_aload_n hX dX11_takeNumber_57 rfl ?_
      refine J_geti hX hE 0 21 rfl rfl fl_X11_124 dX11_takeNumber_58 ?_
      refine J_iald hX hE 8 rfl dX11_takeNumber_61 (fun _ => ?_)
      refine J_i2l hX dX11_takeNumber_62 ?_
      refine J_ldc2 hX wl_X11_149 dX11_takeNumber_63 ?_
      refine J_ldc2 hX wl_X11_151 dX11_takeNumber_66 ?_
      refine J_cSP hX (C_X11_in hG ((g_i σ_42 (nm 8) (g_i σ_42 (nm 0) 21).toNatClampNeg).toInt64) 48 57 σ_42) mw_X11_in ml_X11_107 ⟨Nat.le_of_ble_eq_true rfl, Nat.le_of_ble_eq_true rfl⟩ rfl rfl (Nat.le_of_ble_eq_true rfl) dX11_takeNumber_69 (fun q26 => ?_)
      refine J_if_eq hX dX11_takeNumber_72 (tgt := 129) rfl (fun _ => ?_) (fun _ => ?_)
      · refine hQ42 _ _ _ _ _ ?_
        exact J_keep [0, 1, 2] rfl (hJ129 v1 v2 σ_42)
      · refine J_aload_n hX dX11_takeNumber_75 rfl ?_
        refine J_aload_n hX dX11_takeNumber_76 rfl ?_
        refine J_geti hX hE 0 24 rfl rfl fl_X11_160 dX11_takeNumber_77 ?_
        refine J_sipush hX dX11_takeNumber_80 ks_10000 ?_
        refine J_blk ?_
        intro KB83 hB83
        refine J_icmp_le hX dX11_takeNumber_83 (tgt := 93) rfl (fun _ => ?_) (fun _ => ?_)
        · refine J_bipush hX dX11_takeNumber_93 kb_10 ?_
          refine J_aload_n hX dX11_takeNumber_95 rfl ?_
          refine J_geti hX hE 0 24 rfl rfl fl_X11_160 dX11_takeNumber_96 ?_
          refine J_imul hX dX11_takeNumber_99 ?_
          refine J_aload_n hX dX11_takeNumber_100 rfl ?_
          refine J_getr hX hE 0 18 rfl rfl fl_X11_41 dX11_takeNumber_101 ?_
          refine J_aload_n hX dX11_takeNumber_104 rfl ?_
          refine J_geti hX hE 0 21 rfl rfl fl_X11_124 dX11_takeNumber_105 ?_
          refine J_iald hX hE 8 rfl dX11_takeNumber_108 (fun _ => ?_)
          refine J_iadd hX dX11_takeNumber_109 ?_
          refine J_bipush hX dX11_takeNumber_110 kb_48 ?_
          refine J_isub hX dX11_takeNumber_112 ?_
          refine hB83 _ _ _ _ _ ?_
          exact J_keep [0, 1, 2] rfl (hJ113 (((10 * (g_i σ_42 (nm 0) 24)) + (g_i σ_42 (nm 8) (g_i σ_42 (nm 0) 21).toNatClampNeg)) - 48) σ_42)
        · refine J_aload_n hX dX11_takeNumber_86 rfl ?_
          refine J_geti hX hE 0 24 rfl rfl fl_X11_160 dX11_takeNumber_87 ?_
          refine J_goto hX dX11_takeNumber_90 (tgt := 113) rfl ?_
          refine hB83 _ _ _ _ _ ?_
          exact J_keep [0, 1, 2] rfl (hJ113 (g_i σ_42 (nm 0) 24) σ_42)
  · refine J_aload_n hX dX11_takeNumber_19 rfl ?_
    refine J_iconst hX dX11_takeNumber_20 k_i1 ?_
    refine J_aload_n hX dX11_takeNumber_21 rfl ?_
    refine J_geti hX hE 0 21 rfl rfl fl_X11_124 dX11_takeNumber_22 ?_
    refine J_cVI hX hE 0 (C_X11_fails hG hE 1 (g_i s20 (nm 0) 21) s20) mw_X11_fails ml_X11_153 rfl rfl rfl ⟨Nat.le_of_ble_eq_true rfl, Nat.le_of_ble_eq_true rfl⟩ rfl rfl (Nat.le_of_ble_eq_true rfl) dX11_takeNumber_25 (fun q27 s28 => ?_)
    exact J_iret hX hM dX11_takeNumber_28
theorem mw_X11_takeNumber : jMV Y_X11_takeNumber 2 := ⟨⟨tw_tb (List.mem_of_getElem? (i := 1259) (by decide +kernel)) (by decide +kernel), tw_pv (List.mem_of_getElem? (i := 41) (by decide +kernel)) (by decide +kernel), tw_tb (List.mem_of_getElem? (i := 13) (by decide +kernel)) (by decide +kernel), tw_tb (List.mem_of_getElem? (i := 1260) (by decide +kernel)) (by decide +kernel)⟩, ⟨rfl, rfl⟩, by decide +kernel, by decide +kernel, by decide +kernel⟩
-- X11_into
noncomputable def f_X11_into (nm : Nat → Nat) (n0 : Nat) (v2 : Int32) (v3 : Int32) (v4 : Int32) (σ : jS) : Option (Int32 × jS) :=
  (f_X11_takeNumber (jn nm [0, 1, 2, 3, 4, 5, 6, 7, 8, 9, 10, 11, 12, 13, 14, 15, 16, 17, 18, 19, 20, 21, 22, 23, 24, 25, 26]) v3 v4 σ).bind (fun x => match x with
  | (q1, s2) =>
    gd (vp_in v2 n0) (bd (s_i s2 (nm 27) v2.toNatClampNeg (g_i s2 (nm 0) 24)) (fun s3 =>
      some (q1, s3))))
abbrev Y_X11_into : jY := (yX11_into, cX11_into, 6, some .int, { frames := 2, cells := 0, slots := 0, locals := 48 })
theorem C_X11_into {l : Launch} {G : jG} {nm : Nat → Nat} {n0 : Nat} (hG : jWL G) (hE : jE G nm (LS_X11_A n0)) (v2 : Int32) (v3 : Int32) (v4 : Int32) (σ : jS) : jC r_I l G Y_X11_into [.ref (jad G (nm 0)), .ref (jad G (nm 27)), .int v2, .int v3, .int v4] σ (f_X11_into nm n0 v2 v3 v4 σ) := by
  refine jw_met hG pn_X11 (Nat.le_of_ble_eq_true rfl) ⟨rfl, rfl⟩ ?_
  intro X hX hM
  have hX : jB X l G cX11_into RX11 6 { frames := 2, cells := 0, slots := 0, locals := 48 } := hX
  have hM : jM X (some .int) := hM
  show J X 0 [(0, .ref (jad G (nm 0))), (1, .ref (jad G (nm 27))), (2, .int v2), (3, .int v3), (4, .int v4)] [] σ (f_X11_into nm n0 v2 v3 v4 σ) (jk r_I X)
  unfold f_X11_into
  refine J_aload_n hX dX11_into_0 rfl ?_
  refine J_iload_n hX dX11_into_1 rfl ?_
  refine J_iload hX dX11_into_2 rfl ?_
  refine J_cVI hX hE 0 (C_X11_takeNumber hG (hE.sb [0, 1, 2, 3, 4, 5, 6, 7, 8, 9, 10, 11, 12, 13, 14, 15, 16, 17, 18, 19, 20, 21, 22, 23, 24, 25, 26] (sb_124 n0)) v3 v4 σ) mw_X11_takeNumber ml_X11_163 rfl rfl rfl ⟨Nat.le_of_ble_eq_true rfl, Nat.le_of_ble_eq_true rfl⟩ rfl rfl (Nat.le_of_ble_eq_true rfl) dX11_into_4 (fun q4 s5 => ?_)
  refine J_istore hX dX11_into_7 (Nat.le_of_ble_eq_true rfl) (lv' := [(0, .ref (jad G (nm 0))), (1, .ref (jad G (nm 27))), (2, .int v2), (3, .int v3), (4, .int v4), (5, .int q4)]) rfl ?_
  refine J_aload_n hX dX11_into_9 rfl ?_
  refine J_iload_n hX dX11_into_10 rfl ?_
  refine J_aload_n hX dX11_into_11 rfl ?_
  refine J_geti hX hE 0 24 rfl rfl fl_X11_160 dX11_into_12 ?_
  refine J_iast hX hE 27 rfl dX11_into_15 (fun _ => ?_)
  refine J_bdS (fun s6 => ?_)
  refine J_iload hX dX11_into_16 rfl ?_
  exact J_iret hX hM dX11_into_18
theorem mw_X11_into : jMV Y_X11_into 4 := ⟨⟨tw_tb (List.mem_of_getElem? (i := 1255) (by decide +kernel)) (by decide +kernel), tw_pv (List.mem_of_getElem? (i := 40) (by decide +kernel)) (by decide +kernel), tw_tb (List.mem_of_getElem? (i := 13) (by decide +kernel)) (by decide +kernel), tw_tb (List.mem_of_getElem? (i := 1256) (by decide +kernel)) (by decide +kernel)⟩, ⟨rfl, rfl⟩, by decide +kernel, by decide +kernel, by decide +kernel⟩
-- X11_litNow
noncomputable def f_X11_litNow_J39 (nm : Nat → Nat) (v1 : Int32) (v3 : Int32) (t0 : Int32) (σ : jS) : Option ((Int32 × Int32) ⊕ Int32) :=
  bd (t0 ||| (1 <<< (v3 &&& 31))) (fun x2 =>
    some (.inl (x2, v3 + 1)))
noncomputable def f_X11_litNow_L4 (nm : Nat → Nat) (v1 : Int32) (σ : jS) (s : (Int32 × Int32)) : Option ((Int32 × Int32) ⊕ Int32) :=
  match s with
  | (v2, v3) =>
    if (g_i σ (nm 0) 0) ≤ v3 then
      some (.inr v2)
    else
      gd (vp_in v3 10) (
        if (g_i σ (nm 2) v3.toNatClampNeg) ≤ 0 then
          bd (v2 ||| 0) (fun x1 =>
            some (.inl (x1, v3 + 1)))
        else
          if v1 = 0 then
            f_X11_litNow_J39 nm v1 v3 v2 σ
          else
            gd (vp_in v3 10) (
              if (g_i σ (nm 0) 6) ≤ (g_i σ (nm 3) v3.toNatClampNeg) then
                bd (v2 ||| 0) (fun x3 =>
                  some (.inl (x3, v3 + 1)))
              else
                f_X11_litNow_J39 nm v1 v3 v2 σ))
noncomputable def f_X11_litNow (nm : Nat → Nat) (v1 : Int32) (σ : jS) : Option Int32 :=
  (lp (f_X11_litNow_L4 nm v1 σ) fu (0, 0)).bind (fun e4 =>
    some e4)
abbrev Y_X11_litNow : jY := (yX11_litNow, cX11_litNow, 4, some .int, { frames := 0, cells := 0, slots := 0, locals := 0 })
theorem C_X11_litNow {l : Launch} {G : jG} {nm : Nat → Nat} (hG : jWL G) (hE : jE G nm LS_X11) (v1 : Int32) (σ : jS) : jC (r_P σ) l G Y_X11_litNow [.ref (jad G (nm 0)), .int v1] σ (f_X11_litNow nm v1 σ) := by
  refine jw_met hG pn_X11 (Nat.le_of_ble_eq_true rfl) ⟨rfl, rfl⟩ ?_
  intro X hX hM
  have hX : jB X l G cX11_litNow RX11 4 { frames := 0, cells := 0, slots := 0, locals := 0 } := hX
  have hM : jM X (some .int) := hM
  show J X 0 [(0, .ref (jad G (nm 0))), (1, .int v1)] [] σ (f_X11_litNow nm v1 σ) (jk (r_P σ) X)
  unfold f_X11_litNow
  refine J_iconst hX dX11_litNow_0 k_i0 ?_
  refine J_istore_n hX dX11_litNow_1 (Nat.le_of_ble_eq_true rfl) (lv' := [(0, .ref (jad G (nm 0))), (1, .int v1), (2, .int 0)]) rfl ?_
  refine J_iconst hX dX11_litNow_2 k_i0 ?_
  refine J_istore_n hX dX11_litNow_3 (Nat.le_of_ble_eq_true rfl) (lv' := [(0, .ref (jad G (nm 0))), (1, .int v1), (2, .int 0), (3, .int 0)]) rfl ?_
  refine J_keep [0, 1, 2, 3] (lv' := [(0, .ref (jad G (nm 0))), (1, .int v1), (2, .int 0), (3, .int 0)]) rfl ?_
  refine J_lp (pc := 4) (s0 := (0, 0)) (fun (s : (Int32 × Int32)) => [(0, .ref (jad G (nm 0))), (1, .int v1), (2, .int (s.1)), (3, .int (s.2))]) (fun (s : (Int32 × Int32)) => σ) ?_
  intro KK4 hN4 hQ4 z4
  obtain ⟨v2_4, v3_4⟩ := z4
  show J X 4 [(0, .ref (jad G (nm 0))), (1, .int v1), (2, .int v2_4), (3, .int v3_4)] [] σ (f_X11_litNow_L4 nm v1 σ (v2_4, v3_4)) KK4
  have hJ39 : ∀ (v3_j39 : Int32) (t0_j39 : Int32), J X 39 [(0, .ref (jad G (nm 0))), (1, .int v1), (3, .int v3_j39)] [.int t0_j39] σ (f_X11_litNow_J39 nm v1 v3_j39 t0_j39 σ) KK4 := by
    intro v3_j39 t0_j39
    unfold f_X11_litNow_J39
    refine J_iconst hX dX11_litNow_39 k_i1 ?_
    refine J_iload_n hX dX11_litNow_40 rfl ?_
    refine J_ishl hX dX11_litNow_41 ?_
    refine J_goto hX dX11_litNow_42 (tgt := 46) rfl ?_
    refine J_ior hX dX11_litNow_46 ?_
    refine J_bdI (fun x5 => ?_)
    refine J_istore_n hX dX11_litNow_47 (Nat.le_of_ble_eq_true rfl) (lv' := [(0, .ref (jad G (nm 0))), (1, .int v1), (2, .int x5), (3, .int v3_j39)]) rfl ?_
    refine J_iinc hX dX11_litNow_48 rfl (congrArg (_ + ·) k_i1) (Nat.le_of_ble_eq_true rfl) (lv' := [(0, .ref (jad G (nm 0))), (1, .int v1), (2, .int x5), (3, .int (v3_j39 + 1))]) rfl ?_
    refine J_goto hX dX11_litNow_51 (tgt := 4) rfl ?_
    exact J_keep [0, 1, 2, 3] rfl (hN4 (x5, v3_j39 + 1))
  unfold f_X11_litNow_L4
  refine J_iload_n hX dX11_litNow_4 rfl ?_
  refine J_aload_n hX dX11_litNow_5 rfl ?_
  refine J_geti hX hE 0 0 rfl rfl fl_X11_104 dX11_litNow_6 ?_
  refine J_icmp_ge hX dX11_litNow_9 (tgt := 54) rfl (fun _ => ?_) (fun _ => ?_)
  · refine hQ4 _ _ _ _ _ ?_
    refine J_iload_n hX dX11_litNow_54 rfl ?_
    exact J_iretP hX hM dX11_litNow_55
  · refine J_iload_n hX dX11_litNow_12 rfl ?_
    refine J_aload_n hX dX11_litNow_13 rfl ?_
    refine J_getr hX hE 0 2 rfl rfl fl_X11_13 dX11_litNow_14 ?_
    refine J_iload_n hX dX11_litNow_17 rfl ?_
    refine J_iald hX hE 2 rfl dX11_litNow_18 (fun _ => ?_)
    refine J_if_le hX dX11_litNow_19 (tgt := 45) rfl (fun _ => ?_) (fun _ => ?_)
    · refine J_iconst hX dX11_litNow_45 k_i0 ?_
      refine J_ior hX dX11_litNow_46 ?_
      refine J_bdI (fun x6 => ?_)
      refine J_istore_n hX dX11_litNow_47 (Nat.le_of_ble_eq_true rfl) (lv' := [(0, .ref (jad G (nm 0))), (1, .int v1), (2, .int x6), (3, .int v3_4)]) rfl ?_
      refine J_iinc hX dX11_litNow_48 rfl (congrArg (_ + ·) k_i1) (Nat.le_of_ble_eq_true rfl) (lv' := [(0, .ref (jad G (nm 0))), (1, .int v1), (2, .int x6), (3, .int (v3_4 + 1))]) rfl ?_
      refine J_goto hX dX11_litNow_51 (tgt := 4) rfl ?_
      exact J_keep [0, 1, 2, 3] rfl (hN4 (x6, v3_4 + 1))
    · refine J_iload_n hX dX11_litNow_22 rfl ?_
      refine J_if_eq hX dX11_litNow_23 (tgt := 39) rfl (fun _ => ?_) (fun _ => ?_)
      · exact J_keep [0, 1, 3] rfl (hJ39 v3_4 v2_4)
      · refine J_aload_n hX dX11_litNow_26 rfl ?_
        refine J_getr hX hE 0 3 rfl rfl fl_X11_16 dX11_litNow_27 ?_
        refine J_iload_n hX dX11_litNow_30 rfl ?_
        refine J_iald hX hE 3 rfl dX11_litNow_31 (fun _ => ?_)
        refine J_aload_n hX dX11_litNow_32 rfl ?_
        refine J_geti hX hE 0 6 rfl rfl fl_X11_26 dX11_litNow_33 ?_
        refine J_icmp_ge hX dX11_litNow_36 (tgt := 45) rfl (fun _ => ?_) (fun _ => ?_)
        · refine J_iconst hX dX11_litNow_45 k_i0 ?_
          refine J_ior hX dX11_litNow_46 ?_
          refine J_bdI (fun x7 => ?_)
          refine J_istore_n hX dX11_litNow_47 (Nat.le_of_ble_eq_true rfl) (lv' := [(0, .ref (jad G (nm 0))), (1, .int v1), (2, .int x7), (3, .int v3_4)]) rfl ?_
          refine J_iinc hX dX11_litNow_48 rfl (congrArg (_ + ·) k_i1) (Nat.le_of_ble_eq_true rfl) (lv' := [(0, .ref (jad G (nm 0))), (1, .int v1), (2, .int x7), (3, .int (v3_4 + 1))]) rfl ?_
          refine J_goto hX dX11_litNow_51 (tgt := 4) rfl ?_
          exact J_keep [0, 1, 2, 3] rfl (hN4 (x7, v3_4 + 1))
        · exact J_keep [0, 1, 3] rfl (hJ39 v3_4 v2_4)
theorem mw_X11_litNow : jMV Y_X11_litNow 1 := ⟨⟨tw_tb (List.mem_of_getElem? (i := 1368) (by decide +kernel)) (by decide +kernel), tw_pv (List.mem_of_getElem? (i := 53) (by decide +kernel)) (by decide +kernel), tw_tb (List.mem_of_getElem? (i := 13) (by decide +kernel)) (by decide +kernel), tw_tb (List.mem_of_getElem? (i := 1369) (by decide +kernel)) (by decide +kernel)⟩, ⟨rfl, rfl⟩, by decide +kernel, by decide +kernel, by decide +kernel⟩
-- X11_judge
noncomputable def f_X11_judge_L2 (nm : Nat → Nat) (s : (Int32 × jS)) : Option ((Int32 × jS) ⊕ jS) :=
  match s with
  | (v1, σ) =>
    if 10 ≤ v1 then
      some (.inr σ)
    else
      gd (vp_in v1 10) (
        gd (vp_in v1 32) (bd (s_i σ (nm 24) v1.toNatClampNeg (g_i σ (nm 2) v1.toNatClampNeg)) (fun s1 =>
          gd (vp_in v1 10) (
            gd (vp_in (10 + v1) 32) (bd (s_i s1 (nm 24) (10 + v1).toNatClampNeg (g_i s1 (nm 3) v1.toNatClampNeg)) (fun s2 =>
              gd (vp_in v1 10) (
                gd (vp_in (20 + v1) 32) (bd (s_i s2 (nm 24) (20 + v1).toNatClampNeg (g_i s2 (nm 4) v1.toNatClampNeg)) (fun s3 =>
                  some (.inl (v1 + 1, s3)))))))))))
noncomputable def f_X11_judge_L82 (nm : Nat → Nat) (s : (Int32 × Int32 × jS)) : Option ((Int32 × Int32 × jS) ⊕ (Int32 × jS)) :=
  match s with
  | (v1, v2, σ) =>
    if (g_i σ (nm 0) 47) ≤ v2 then
      some (.inr (v1, σ))
    else
      if 0 ≤ v1 then
        some (.inr (v1, σ))
      else
        (f_X11_goOn nm σ).bind (fun s7 =>
          (f_X11_litNow nm 1 s7).bind (fun q8 =>
            gd (vp_in v2 40) (
              if q8 = (g_i s7 (nm 23) v2.toNatClampNeg) then
                some (.inl ((-1), v2 + 1, s7))
              else
                some (.inl (v2, v2 + 1, s7)))))
noncomputable def f_X11_judge_L126 (nm : Nat → Nat) (v1 : Int32) (s : (Int32 × jS)) : Option ((Int32 × jS) ⊕ jS) :=
  match s with
  | (v2, σ) =>
    if 10 ≤ v2 then
      some (.inr σ)
    else
      gd (vp_in v2 32) (
        gd (vp_in v2 10) (bd (s_i σ (nm 2) v2.toNatClampNeg (g_i σ (nm 24) v2.toNatClampNeg)) (fun s11 =>
          gd (vp_in (10 + v2) 32) (
            gd (vp_in v2 10) (bd (s_i s11 (nm 3) v2.toNatClampNeg (g_i s11 (nm 24) (10 + v2).toNatClampNeg)) (fun s12 =>
              gd (vp_in (20 + v2) 32) (
                gd (vp_in v2 10) (bd (s_i s12 (nm 4) v2.toNatClampNeg (g_i s12 (nm 24) (20 + v2).toNatClampNeg)) (fun s13 =>
                  some (.inl (v2 + 1, s13)))))))))))
noncomputable def f_X11_judge_J124 (nm : Nat → Nat) (v1 : Int32) (σ : jS) : Option (Int32 × jS) :=
  (lp (f_X11_judge_L126 nm v1) fu (0, σ)).bind (fun s14 =>
    gd (vp_in 30 32) (
      bd (s_i s14 (nm 0) 14 (g_i s14 (nm 24) (30 : Int32).toNatClampNeg)) (fun s15 =>
        gd (vp_in 31 32) (
          bd (s_i s15 (nm 0) 17 (g_i s15 (nm 24) (31 : Int32).toNatClampNeg)) (fun s16 =>
            some (v1, s16))))))
noncomputable def f_X11_judge (nm : Nat → Nat) (σ : jS) : Option (Int32 × jS) :=
  (lp (f_X11_judge_L2 nm) fu (0, σ)).bind (fun s4 =>
    gd (vp_in 30 32) (bd (s_i s4 (nm 24) (30 : Int32).toNatClampNeg (g_i s4 (nm 0) 14)) (fun s5 =>
      gd (vp_in 31 32) (bd (s_i s5 (nm 24) (31 : Int32).toNatClampNeg (g_i s5 (nm 0) 17)) (fun s6 =>
        (lp (f_X11_judge_L82 nm) fu ((-1), 0, s6)).bind (fun x => match x with
        | (e9, s10) =>
          f_X11_judge_J124 nm e9 s10))))))
abbrev Y_X11_judge : jY := (yX11_judge, cX11_judge, 3, some .int, { frames := 4, cells := 0, slots := 0, locals := 98 })
theorem C_X11_judge {l : Launch} {G : jG} {nm : Nat → Nat} (hG : jWL G) (hE : jE G nm LS_X11) (σ : jS) : jC r_I l G Y_X11_judge [.ref (jad G (nm 0))] σ (f_X11_judge nm σ) := by
  refine jw_met hG pn_X11 (Nat.le_of_ble_eq_true rfl) ⟨rfl, rfl⟩ ?_
  intro X hX hM
  have hX : jB X l G cX11_judge RX11 3 { frames := 4, cells := 0, slots := 0, locals := 98 } := hX
  have hM : jM X (some .int) := hM
  show J X 0 [(0, .ref (jad G (nm 0)))] [] σ (f_X11_judge nm σ) (jk r_I X)
  have hJ124 : ∀ (v1 : Int32) (σ : jS), J X 124 [(0, .ref (jad G (nm 0))), (1, .int v1)] [] σ (f_X11_judge_J124 nm v1 σ) (jk r_I X) := by
    intro v1 σ
    unfold f_X11_judge_J124
    refine J_iconst hX dX11_judge_124 k_i0 ?_
    refine J_istore_n hX dX11_judge_125 (Nat.le_of_ble_eq_true rfl) (lv' := [(0, .ref (jad G (nm 0))), (1, .int v1), (2, .int 0)]) rfl ?_
    refine J_keep [0, 1, 2] (lv' := [(0, .ref (jad G (nm 0))), (1, .int v1), (2, .int 0)]) rfl ?_
    refine J_lp (pc := 126) (s0 := (0, σ)) (fun (s : (Int32 × jS)) => [(0, .ref (jad G (nm 0))), (1, .int v1), (2, .int (s.1))]) (fun (s : (Int32 × jS)) => s.2) ?_
    intro KK126 hN126 hQ126 z126
    obtain ⟨v2_126, σ_126⟩ := z126
    show J X 126 [(0, .ref (jad G (nm 0))), (1, .int v1), (2, .int v2_126)] [] σ_126 (f_X11_judge_L126 nm v1 (v2_126, σ_126)) KK126
    unfold f_X11_judge_L126
    refine J_iload_n hX dX11_judge_126 rfl ?_
    refine J_bipush hX dX11_judge_127 kb_10 ?_
    refine J_icmp_ge hX dX11_judge_129 (tgt := 180) rfl (fun _ => ?_) (fun _ => ?_)
    · refine hQ126 _ _ _ _ _ ?_
      refine J_aload_n hX dX11_judge_180 rfl ?_
      refine J_aload_n hX dX11_judge_181 rfl ?_
      refine J_getr hX hE 0 49 rfl rfl fl_X11_95 dX11_judge_182 ?_
      refine J_bipush hX dX11_judge_185 kb_30 ?_
      refine J_iald hX hE 24 rfl dX11_judge_187 (fun _ => ?_)
      refine J_puti hX hE 0 14 rfl rfl fp_X11_227 dX11_judge_188 ?_
      refine J_bdS (fun s17 => ?_)
      refine J_aload_n hX dX11_judge_191 rfl ?_
      refine J_aload_n hX dX11_judge_192 rfl ?_
      refine J_getr hX hE 0 49 rfl rfl fl_X11_95 dX11_judge_193 ?_
      refine J_bipush hX dX11_judge_196 kb_31 ?_
      refine J_iald hX hE 24 rfl dX11_judge_198 (fun _ => ?_)
      refine J_puti hX hE 0 17 rfl rfl fp_X11_274 dX11_judge_199 ?_
      refine J_bdS (fun s18 => ?_)
      refine J_iload_n hX dX11_judge_202 rfl ?_
      exact J_iret hX hM dX11_judge_203
    · refine J_aload_n hX dX11_judge_132 rfl ?_
      refine J_getr hX hE 0 2 rfl rfl fl_X11_13 dX11_judge_133 ?_
      refine J_iload_n hX dX11_judge_136 rfl ?_
      refine J_aload_n hX dX11_judge_137 rfl ?_
      refine J_getr hX hE 0 49 rfl rfl fl_X11_95 dX11_judge_138 ?_
      refine J_iload_n hX dX11_judge_141 rfl ?_
      refine J_iald hX hE 24 rfl dX11_judge_142 (fun _ => ?_)
      refine J_iast hX hE 2 rfl dX11_judge_143 (fun _ => ?_)
      refine J_bdS (fun s19 => ?_)
      refine J_aload_n hX dX11_judge_144 rfl ?_
      refine J_getr hX hE 0 3 rfl rfl fl_X11_16 dX11_judge_145 ?_
      refine J_iload_n hX dX11_judge_148 rfl ?_
      refine J_aload_n hX dX11_judge_149 rfl ?_
      refine J_getr hX hE 0 49 rfl rfl fl_X11_95 dX11_judge_150 ?_
      refine J_bipush hX dX11_judge_153 kb_10 ?_
      refine J_iload_n hX dX11_judge_155 rfl ?_
      refine J_iadd hX dX11_judge_156 ?_
      refine J_iald hX hE 24 rfl dX11_judge_157 (fun _ => ?_)
      refine J_iast hX hE 3 rfl dX11_judge_158 (fun _ => ?_)
      refine J_bdS (fun s20 => ?_)
      refine J_aload_n hX dX11_judge_159 rfl ?_
      refine J_getr hX hE 0 4 rfl rfl fl_X11_19 dX11_judge_160 ?_
      refine J_iload_n hX dX11_judge_163 rfl ?_
      refine J_aload_n hX dX11_judge_164 rfl ?_
      refine J_getr hX hE 0 49 rfl rfl fl_X11_95 dX11_judge_165 ?_
      refine J_bipush hX dX11_judge_168 kb_20 ?_
      refine J_iload_n hX dX11_judge_170 rfl ?_
      refine J_iadd hX dX11_judge_171 ?_
      refine J_iald hX hE 24 rfl dX11_judge_172 (fun _ => ?_)
      refine J_iast hX hE 4 rfl dX11_judge_173 (fun _ => ?_)
      refine J_bdS (fun s21 => ?_)
      refine J_iinc hX dX11_judge_174 rfl (congrArg (_ + ·) k_i1) (Nat.le_of_ble_eq_true rfl) (lv' := [(0, .ref (jad G (nm 0))), (1, .int v1), (2, .int (v2_126 + 1))]) rfl ?_
      refine J_goto hX dX11_judge_177 (tgt := 126) rfl ?_
      exact J_keep [0, 1, 2] rfl (hN126 (v2_126 + 1, s21))
  unfold f_X11_judge
  refine J_iconst hX dX11_judge_0 k_i0 ?_
  refine J_istore_n hX dX11_judge_1 (Nat.le_of_ble_eq_true rfl) (lv' := [(0, .ref (jad G (nm 0))), (1, .int 0)]) rfl ?_
  refine J_keep [0, 1] (lv' := [(0, .ref (jad G (nm 0))), (1, .int 0)]) rfl ?_
  refine J_lp (pc := 2) (s0 := (0, σ)) (fun (s : (Int32 × jS)) => [(0, .ref (jad G (nm 0))), (1, .int (s.1))]) (fun (s : (Int32 × jS)) => s.2) ?_
  intro KK2 hN2 hQ2 z2
  obtain ⟨v1_2, σ_2⟩ := z2
  show J X 2 [(0, .ref (jad G (nm 0))), (1, .int v1_2)] [] σ_2 (f_X11_judge_L2 nm (v1_2, σ_2)) KK2
  unfold f_X11_judge_L2
  refine J_iload_n hX dX11_judge_2 rfl ?_
  refine J_bipush hX dX11_judge_3 kb_10 ?_
  refine J_icmp_ge hX dX11_judge_5 (tgt := 56) rfl (fun _ => ?_) (fun _ => ?_)
  · refine hQ2 _ _ _ _ _ ?_
    refine J_aload_n hX dX11_judge_56 rfl ?_
    refine J_getr hX hE 0 49 rfl rfl fl_X11_95 dX11_judge_57 ?_
    refine J_bipush hX dX11_judge_60 kb_30 ?_
    refine J_aload_n hX dX11_judge_62 rfl ?_
    refine J_geti hX hE 0 14 rfl rfl fl_X11_227 dX11_judge_63 ?_
    refine J_iast hX hE 24 rfl dX11_judge_66 (fun _ => ?_)
    refine J_bdS (fun s22 => ?_)
    refine J_aload_n hX dX11_judge_67 rfl ?_
    refine J_getr hX hE 0 49 rfl rfl fl_X11_95 dX11_judge_68 ?_
    refine J_bipush hX dX11_judge_71 kb_31 ?_
    refine J_aload_n hX dX11_judge_73 rfl ?_
    refine J_geti hX hE 0 17 rfl rfl fl_X11_274 dX11_judge_74 ?_
    refine J_iast hX hE 24 rfl dX11_judge_77 (fun _ => ?_)
    refine J_bdS (fun s23 => ?_)
    refine J_iconst hX dX11_judge_78 k_im1 ?_
    refine J_istore_n hX dX11_judge_79 (Nat.le_of_ble_eq_true rfl) (lv' := [(0, .ref (jad G (nm 0))), (1, .int (-1))]) rfl ?_
    refine J_iconst hX dX11_judge_80 k_i0 ?_
    refine J_istore_n hX dX11_judge_81 (Nat.le_of_ble_eq_true rfl) (lv' := [(0, .ref (jad G (nm 0))), (1, .int (-1)), (2, .int 0)]) rfl ?_
    refine J_keep [0, 1, 2] (lv' := [(0, .ref (jad G (nm 0))), (1, .int (-1)), (2, .int 0)]) rfl ?_
    refine J_lp (pc := 82) (s0 := ((-1), 0, s23)) (fun (s : (Int32 × Int32 × jS)) => [(0, .ref (jad G (nm 0))), (1, .int (s.1)), (2, .int (s.2.1))]) (fun (s : (Int32 × Int32 × jS)) => s.2.2) ?_
    intro KK82 hN82 hQ82 z82
    obtain ⟨v1_82, v2_82, σ_82⟩ := z82
    show J X 82 [(0, .ref (jad G (nm 0))), (1, .int v1_82), (2, .int v2_82)] [] σ_82 (f_X11_judge_L82 nm (v1_82, v2_82, σ_82)) KK82
    unfold f_X11_judge_L82
    refine J_iload_n hX dX11_judge_82 rfl ?_
    refine J_aload_n hX dX11_judge_83 rfl ?_
    refine J_geti hX hE 0 47 rfl rfl fl_X11_215 dX11_judge_84 ?_
    refine J_icmp_ge hX dX11_judge_87 (tgt := 124) rfl (fun _ => ?_) (fun _ => ?_)
    · refine hQ82 _ _ _ _ _ ?_
      exact J_keep [0, 1] rfl (hJ124 v1_82 σ_82)
    · refine J_iload_n hX dX11_judge_90 rfl ?_
      refine J_if_ge hX dX11_judge_91 (tgt := 124) rfl (fun _ => ?_) (fun _ => ?_)
      · refine hQ82 _ _ _ _ _ ?_
        exact J_keep [0, 1] rfl (hJ124 v1_82 σ_82)
      · refine J_aload_n hX dX11_judge_94 rfl ?_
        refine J_cVV hX hE 0 (C_X11_goOn hG hE σ_82) mw_X11_goOn ml_X11_289 rfl rfl rfl ⟨Nat.le_of_ble_eq_true rfl, Nat.le_of_ble_eq_true rfl⟩ rfl rfl (Nat.le_of_ble_eq_true rfl) dX11_judge_95 (fun s24 => ?_)
        refine J_aload_n hX dX11_judge_98 rfl ?_
        refine J_iconst hX dX11_judge_99 k_i1 ?_
        refine J_cVP hX hE 0 (C_X11_litNow hG hE 1 s24) mw_X11_litNow ml_X11_292 rfl rfl rfl ⟨Nat.le_of_ble_eq_true rfl, Nat.le_of_ble_eq_true rfl⟩ rfl rfl (Nat.le_of_ble_eq_true rfl) dX11_judge_100 (fun q25 => ?_)
        refine J_aload_n hX dX11_judge_103 rfl ?_
        refine J_getr hX hE 0 48 rfl rfl fl_X11_92 dX11_judge_104 ?_
        refine J_iload_n hX dX11_judge_107 rfl ?_
        refine J_iald hX hE 23 rfl dX11_judge_108 (fun _ => ?_)
        refine J_icmp_ne hX dX11_judge_109 (tgt := 116) rfl (fun _ => ?_) (fun _ => ?_)
        · refine J_iload_n hX dX11_judge_116 rfl ?_
          refine J_istore_n hX dX11_judge_117 (Nat.le_of_ble_eq_true rfl) (lv' := [(0, .ref (jad G (nm 0))), (1, .int v2_82), (2, .int v2_82)]) rfl ?_
          refine J_iinc hX dX11_judge_118 rfl (congrArg (_ + ·) k_i1) (Nat.le_of_ble_eq_true rfl) (lv' := [(0, .ref (jad G (nm 0))), (1, .int v2_82), (2, .int (v2_82 + 1))]) rfl ?_
          refine J_goto hX dX11_judge_121 (tgt := 82) rfl ?_
          exact J_keep [0, 1, 2] rfl (hN82 (v2_82, v2_82 + 1, s24))
        · refine J_iconst hX dX11_judge_112 k_im1 ?_
          refine J_goto hX dX11_judge_113 (tgt := 117) rfl ?_
          refine J_istore_n hX dX11_judge_117 (Nat.le_of_ble_eq_true rfl) (lv' := [(0, .ref (jad G (nm 0))), (1, .int (-1)), (2, .int v2_82)]) rfl ?_
          refine J_iinc hX dX11_judge_118 rfl (congrArg (_ + ·) k_i1) (Nat.le_of_ble_eq_true rfl) (lv' := [(0, .ref (jad G (nm 0))), (1, .int (-1)), (2, .int (v2_82 + 1))]) rfl ?_
          refine J_goto hX dX11_judge_121 (tgt := 82) rfl ?_
          exact J_keep [0, 1, 2] rfl (hN82 ((-1), v2_82 + 1, s24))
  · refine J_aload_n hX dX11_judge_8 rfl ?_
    refine J_getr hX hE 0 49 rfl rfl fl_X11_95 dX11_judge_9 ?_
    refine J_iload_n hX dX11_judge_12 rfl ?_
    refine J_aload_n hX dX11_judge_13 rfl ?_
    refine J_getr hX hE 0 2 rfl rfl fl_X11_13 dX11_judge_14 ?_
    refine J_iload_n hX dX11_judge_17 rfl ?_
    refine J_iald hX hE 2 rfl dX11_judge_18 (fun _ => ?_)
    refine J_iast hX hE 24 rfl dX11_judge_19 (fun _ => ?_)
    refine J_bdS (fun s26 => ?_)
    refine J_aload_n hX dX11_judge_20 rfl ?_
    refine J_getr hX hE 0 49 rfl rfl fl_X11_95 dX11_judge_21 ?_
    refine J_bipush hX dX11_judge_24 kb_10 ?_
    refine J_iload_n hX dX11_judge_26 rfl ?_
    refine J_iadd hX dX11_judge_27 ?_
    refine J_aload_n hX dX11_judge_28 rfl ?_
    refine J_getr hX hE 0 3 rfl rfl fl_X11_16 dX11_judge_29 ?_
    refine J_iload_n hX dX11_judge_32 rfl ?_
    refine J_iald hX hE 3 rfl dX11_judge_33 (fun _ => ?_)
    refine J_iast hX hE 24 rfl dX11_judge_34 (fun _ => ?_)
    refine J_bdS (fun s27 => ?_)
    refine J_aload_n hX dX11_judge_35 rfl ?_
    refine J_getr hX hE 0 49 rfl rfl fl_X11_95 dX11_judge_36 ?_
    refine J_bipush hX dX11_judge_39 kb_20 ?_
    refine J_iload_n hX dX11_judge_41 rfl ?_
    refine J_iadd hX dX11_judge_42 ?_
    refine J_aload_n hX dX11_judge_43 rfl ?_
    refine J_getr hX hE 0 4 rfl rfl fl_X11_19 dX11_judge_44 ?_
    refine J_iload_n hX dX11_judge_47 rfl ?_
    refine J_iald hX hE 4 rfl dX11_judge_48 (fun _ => ?_)
    refine J_iast hX hE 24 rfl dX11_judge_49 (fun _ => ?_)
    refine J_bdS (fun s28 => ?_)
    refine J_iinc hX dX11_judge_50 rfl (congrArg (_ + ·) k_i1) (Nat.le_of_ble_eq_true rfl) (lv' := [(0, .ref (jad G (nm 0))), (1, .int (v1_2 + 1))]) rfl ?_
    refine J_goto hX dX11_judge_53 (tgt := 2) rfl ?_
    exact J_keep [0, 1] rfl (hN2 (v1_2 + 1, s28))
theorem mw_X11_judge : jMV Y_X11_judge 0 := ⟨⟨tw_tb (List.mem_of_getElem? (i := 1502) (by decide +kernel)) (by decide +kernel), tw_tb (List.mem_of_getElem? (i := 1503) (by decide +kernel)) (by decide +kernel), tw_tb (List.mem_of_getElem? (i := 13) (by decide +kernel)) (by decide +kernel), tw_tb (List.mem_of_getElem? (i := 1504) (by decide +kernel)) (by decide +kernel)⟩, ⟨rfl, rfl⟩, by decide +kernel, by decide +kernel, by decide +kernel⟩
-- X11_keep
noncomputable def f_X11_keep_L21 (nm : Nat → Nat) (v1 : Int32) (v2 : Int32) (s : (Int32 × jS)) : Option ((Int32 × jS) ⊕ jS) :=
  match s with
  | (v3, σ) =>
    if 10 ≤ v3 then
      some (.inr σ)
    else
      gd (vp_in ((4 * v3) + 1) 40) (
        gd (vp_in (v2 + v3) 100) (bd (s_i σ (nm 25) (v2 + v3).toNatClampNeg (g_i σ (nm 1) ((4 * v3) + 1).toNatClampNeg)) (fun s3 =>
          gd (vp_in v3 10) (
            gd (vp_in ((v2 + 10) + v3) 100) (bd (s_i s3 (nm 25) ((v2 + 10) + v3).toNatClampNeg (g_i s3 (nm 2) v3.toNatClampNeg)) (fun s4 =>
              gd (vp_in v3 10) (
                gd (vp_in ((v2 + 20) + v3) 100) (bd (s_i s4 (nm 25) ((v2 + 20) + v3).toNatClampNeg (g_i s4 (nm 3) v3.toNatClampNeg)) (fun s5 =>
                  gd (vp_in v3 10) (
                    gd (vp_in ((v2 + 30) + v3) 100) (bd (s_i s5 (nm 25) ((v2 + 30) + v3).toNatClampNeg (g_i s5 (nm 4) v3.toNatClampNeg)) (fun s6 =>
                      some (.inl (v3 + 1, s6))))))))))))))
noncomputable def f_X11_keep (nm : Nat → Nat) (v1 : Int32) (σ : jS) : Option (Int32 × jS) :=
  (f_X11_in (v1.toInt64) 0 1).bind (fun q1 =>
    if q1 = 0 then
      some ((-1001), σ)
    else
      bd (50 * v1) (fun x2 =>
        (lp (f_X11_keep_L21 nm v1 x2) fu (0, σ)).bind (fun s7 =>
          gd (vp_in (x2 + 40) 100) (bd (s_i s7 (nm 25) (x2 + 40).toNatClampNeg (g_i s7 (nm 0) 14)) (fun s8 =>
            gd (vp_in (x2 + 41) 100) (bd (s_i s8 (nm 25) (x2 + 41).toNatClampNeg (g_i s8 (nm 0) 15)) (fun s9 =>
              gd (vp_in (x2 + 42) 100) (bd (s_i s9 (nm 25) (x2 + 42).toNatClampNeg (g_i s9 (nm 0) 16)) (fun s10 =>
                gd (vp_in (x2 + 43) 100) (bd (s_i s10 (nm 25) (x2 + 43).toNatClampNeg (g_i s10 (nm 0) 17)) (fun s11 =>
                  gd (vp_in v1 2) (bd (s_i s11 (nm 26) v1.toNatClampNeg 1) (fun s12 =>
                    some (1, s12))))))))))))))
abbrev Y_X11_keep : jY := (yX11_keep, cX11_keep, 4, some .int, { frames := 1, cells := 0, slots := 0, locals := 25 })
theorem C_X11_keep {l : Launch} {G : jG} {nm : Nat → Nat} (hG : jWL G) (hE : jE G nm LS_X11) (v1 : Int32) (σ : jS) : jC r_I l G Y_X11_keep [.ref (jad G (nm 0)), .int v1] σ (f_X11_keep nm v1 σ) := by
  refine jw_met hG pn_X11 (Nat.le_of_ble_eq_true rfl) ⟨rfl, rfl⟩ ?_
  intro X hX hM
  have hX : jB X l G cX11_keep RX11 4 { frames := 1, cells := 0, slots := 0, locals := 25 } := hX
  have hM : jM X (some .int) := hM
  show J X 0 [(0, .ref (jad G (nm 0))), (1, .int v1)] [] σ (f_X11_keep nm v1 σ) (jk r_I X)
  unfold f_X11_keep
  refine J_iload_n hX dX11_keep_0 rfl ?_
  refine J_i2l hX dX11_keep_1 ?_
  refine J_lconst hX dX11_keep_2 k_l0 ?_
  refine J_lconst hX dX11_keep_3 k_l1 ?_
  refine J_cSP hX (C_X11_in hG (v1.toInt64) 0 1 σ) mw_X11_in ml_X11_107 ⟨Nat.le_of_ble_eq_true rfl, Nat.le_of_ble_eq_true rfl⟩ rfl rfl (Nat.le_of_ble_eq_true rfl) dX11_keep_4 (fun q13 => ?_)
  refine J_if_ne hX dX11_keep_7 (tgt := 14) rfl (fun _ => ?_) (fun _ => ?_)
  · refine J_bipush hX dX11_keep_14 kb_50 ?_
    refine J_iload_n hX dX11_keep_16 rfl ?_
    refine J_imul hX dX11_keep_17 ?_
    refine J_bdI (fun x14 => ?_)
    refine J_istore_n hX dX11_keep_18 (Nat.le_of_ble_eq_true rfl) (lv' := [(0, .ref (jad G (nm 0))), (1, .int v1), (2, .int x14)]) rfl ?_
    refine J_iconst hX dX11_keep_19 k_i0 ?_
    refine J_istore_n hX dX11_keep_20 (Nat.le_of_ble_eq_true rfl) (lv' := [(0, .ref (jad G (nm 0))), (1, .int v1), (2, .int x14), (3, .int 0)]) rfl ?_
    refine J_keep [0, 1, 2, 3] (lv' := [(0, .ref (jad G (nm 0))), (1, .int v1), (2, .int x14), (3, .int 0)]) rfl ?_
    refine J_lp (pc := 21) (s0 := (0, σ)) (fun (s : (Int32 × jS)) => [(0, .ref (jad G (nm 0))), (1, .int v1), (2, .int x14), (3, .int (s.1))]) (fun (s : (Int32 × jS)) => s.2) ?_
    intro KK21 hN21 hQ21 z21
    obtain ⟨v3_21, σ_21⟩ := z21
    show J X 21 [(0, .ref (jad G (nm 0))), (1, .int v1), (2, .int x14), (3, .int v3_21)] [] σ_21 (f_X11_keep_L21 nm v1 x14 (v3_21, σ_21)) KK21
    unfold f_X11_keep_L21
    refine J_iload_n hX dX11_keep_21 rfl ?_
    refine J_bipush hX dX11_keep_22 kb_10 ?_
    refine J_icmp_ge hX dX11_keep_24 (tgt := 102) rfl (fun _ => ?_) (fun _ => ?_)
    · refine hQ21 _ _ _ _ _ ?_
      refine J_aload_n hX dX11_keep_102 rfl ?_
      refine J_getr hX hE 0 50 rfl rfl fl_X11_98 dX11_keep_103 ?_
      refine J_iload_n hX dX11_keep_106 rfl ?_
      refine J_bipush hX dX11_keep_107 kb_40 ?_
      refine J_iadd hX dX11_keep_109 ?_
      refine J_aload_n hX dX11_keep_110 rfl ?_
      refine J_geti hX hE 0 14 rfl rfl fl_X11_227 dX11_keep_111 ?_
      refine J_iast hX hE 25 rfl dX11_keep_114 (fun _ => ?_)
      refine J_bdS (fun s15 => ?_)
      refine J_aload_n hX dX11_keep_115 rfl ?_
      refine J_getr hX hE 0 50 rfl rfl fl_X11_98 dX11_keep_116 ?_
      refine J_iload_n hX dX11_keep_119 rfl ?_
      refine J_bipush hX dX11_keep_120 kb_41 ?_
      refine J_iadd hX dX11_keep_122 ?_
      refine J_aload_n hX dX11_keep_123 rfl ?_
      refine J_geti hX hE 0 15 rfl rfl fl_X11_218 dX11_keep_124 ?_
      refine J_iast hX hE 25 rfl dX11_keep_127 (fun _ => ?_)
      refine J_bdS (fun s16 => ?_)
      refine J_aload_n hX dX11_keep_128 rfl ?_
      refine J_getr hX hE 0 50 rfl rfl fl_X11_98 dX11_keep_129 ?_
      refine J_iload_n hX dX11_keep_132 rfl ?_
      refine J_bipush hX dX11_keep_133 kb_42 ?_
      refine J_iadd hX dX11_keep_135 ?_
      refine J_aload_n hX dX11_keep_136 rfl ?_
      refine J_geti hX hE 0 16 rfl rfl fl_X11_221 dX11_keep_137 ?_
      refine J_iast hX hE 25 rfl dX11_keep_140 (fun _ => ?_)
      refine J_bdS (fun s17 => ?_)
      refine J_aload_n hX dX11_keep_141 rfl ?_
      refine J_getr hX hE 0 50 rfl rfl fl_X11_98 dX11_keep_142 ?_
      refine J_iload_n hX dX11_keep_145 rfl ?_
      refine J_bipush hX dX11_keep_146 kb_43 ?_
      refine J_iadd hX dX11_keep_148 ?_
      refine J_aload_n hX dX11_keep_149 rfl ?_
      refine J_geti hX hE 0 17 rfl rfl fl_X11_274 dX11_keep_150 ?_
      refine J_iast hX hE 25 rfl dX11_keep_153 (fun _ => ?_)
      refine J_bdS (fun s18 => ?_)
      refine J_aload_n hX dX11_keep_154 rfl ?_
      refine J_getr hX hE 0 51 rfl rfl fl_X11_101 dX11_keep_155 ?_
      refine J_iload_n hX dX11_keep_158 rfl ?_
      refine J_iconst hX dX11_keep_159 k_i1 ?_
      refine J_zast hX hE 26 jp_1 rfl dX11_keep_160 (fun _ => ?_)
      refine J_bdS (fun s19 => ?_)
      refine J_iconst hX dX11_keep_161 k_i1 ?_
      exact J_iret hX hM dX11_keep_162
    · refine J_aload_n hX dX11_keep_27 rfl ?_
      refine J_getr hX hE 0 50 rfl rfl fl_X11_98 dX11_keep_28 ?_
      refine J_iload_n hX dX11_keep_31 rfl ?_
      refine J_iload_n hX dX11_keep_32 rfl ?_
      refine J_iadd hX dX11_keep_33 ?_
      refine J_aload_n hX dX11_keep_34 rfl ?_
      refine J_getr hX hE 0 1 rfl rfl fl_X11_7 dX11_keep_35 ?_
      refine J_iconst hX dX11_keep_38 k_i4 ?_
      refine J_iload_n hX dX11_keep_39 rfl ?_
      refine J_imul hX dX11_keep_40 ?_
      refine J_iconst hX dX11_keep_41 k_i1 ?_
      refine J_iadd hX dX11_keep_42 ?_
      refine J_iald hX hE 1 rfl dX11_keep_43 (fun _ => ?_)
      refine J_iast hX hE 25 rfl dX11_keep_44 (fun _ => ?_)
      refine J_bdS (fun s20 => ?_)
      refine J_aload_n hX dX11_keep_45 rfl ?_
      refine J_getr hX hE 0 50 rfl rfl fl_X11_98 dX11_keep_46 ?_
      refine J_iload_n hX dX11_keep_49 rfl ?_
      refine J_bipush hX dX11_keep_50 kb_10 ?_
      refine J_iadd hX dX11_keep_52 ?_
      refine J_iload_n hX dX11_keep_53 rfl ?_
      refine J_iadd hX dX11_keep_54 ?_
      refine J_aload_n hX dX11_keep_55 rfl ?_
      refine J_getr hX hE 0 2 rfl rfl fl_X11_13 dX11_keep_56 ?_
      refine J_iload_n hX dX11_keep_59 rfl ?_
      refine J_iald hX hE 2 rfl dX11_keep_60 (fun _ => ?_)
      refine J_iast hX hE 25 rfl dX11_keep_61 (fun _ => ?_)
      refine J_bdS (fun s21 => ?_)
      refine J_aload_n hX dX11_keep_62 rfl ?_
      refine J_getr hX hE 0 50 rfl rfl fl_X11_98 dX11_keep_63 ?_
      refine J_iload_n hX dX11_keep_66 rfl ?_
      refine J_bipush hX dX11_keep_67 kb_20 ?_
      refine J_iadd hX dX11_keep_69 ?_
      refine J_iload_n hX dX11_keep_70 rfl ?_
      refine J_iadd hX dX11_keep_71 ?_
      refine J_aload_n hX dX11_keep_72 rfl ?_
      refine J_getr hX hE 0 3 rfl rfl fl_X11_16 dX11_keep_73 ?_
      refine J_iload_n hX dX11_keep_76 rfl ?_
      refine J_iald hX hE 3 rfl dX11_keep_77 (fun _ => ?_)
      refine J_iast hX hE 25 rfl dX11_keep_78 (fun _ => ?_)
      refine J_bdS (fun s22 => ?_)
      refine J_aload_n hX dX11_keep_79 rfl ?_
      refine J_getr hX hE 0 50 rfl rfl fl_X11_98 dX11_keep_80 ?_
      refine J_iload_n hX dX11_keep_83 rfl ?_
      refine J_bipush hX dX11_keep_84 kb_30 ?_
      refine J_iadd hX dX11_keep_86 ?_
      refine J_iload_n hX dX11_keep_87 rfl ?_
      refine J_iadd hX dX11_keep_88 ?_
      refine J_aload_n hX dX11_keep_89 rfl ?_
      refine J_getr hX hE 0 4 rfl rfl fl_X11_19 dX11_keep_90 ?_
      refine J_iload_n hX dX11_keep_93 rfl ?_
      refine J_iald hX hE 4 rfl dX11_keep_94 (fun _ => ?_)
      refine J_iast hX hE 25 rfl dX11_keep_95 (fun _ => ?_)
      refine J_bdS (fun s23 => ?_)
      refine J_iinc hX dX11_keep_96 rfl (congrArg (_ + ·) k_i1) (Nat.le_of_ble_eq_true rfl) (lv' := [(0, .ref (jad G (nm 0))), (1, .int v1), (2, .int x14), (3, .int (v3_21 + 1))]) rfl ?_
      refine J_goto hX dX11_keep_99 (tgt := 21) rfl ?_
      exact J_keep [0, 1, 2, 3] rfl (hN21 (v3_21 + 1, s23))
  · refine J_sipush hX dX11_keep_10 ks_m1001 ?_
    exact J_iret hX hM dX11_keep_13
theorem mw_X11_keep : jMV Y_X11_keep 1 := ⟨⟨tw_tb (List.mem_of_getElem? (i := 1510) (by decide +kernel)) (by decide +kernel), tw_tb (List.mem_of_getElem? (i := 1511) (by decide +kernel)) (by decide +kernel), tw_tb (List.mem_of_getElem? (i := 13) (by decide +kernel)) (by decide +kernel), tw_tb (List.mem_of_getElem? (i := 1512) (by decide +kernel)) (by decide +kernel)⟩, ⟨rfl, rfl⟩, by decide +kernel, by decide +kernel, by decide +kernel⟩
-- X11_lamp
noncomputable def f_X11_lamp (nm : Nat → Nat) (v1 : Int32) (v2 : Int32) (σ : jS) : Option Int32 :=
  (f_X11_isLamp nm v1 σ).bind (fun q1 =>
    if q1 = 0 then
      some (-1001)
    else
      if v2 = 0 then
        gd (vp_in ((4 * v1) + v2) 40) (
          some (g_i σ (nm 1) ((4 * v1) + v2).toNatClampNeg))
      else
        if v2 = 1 then
          gd (vp_in ((4 * v1) + v2) 40) (
            some (g_i σ (nm 1) ((4 * v1) + v2).toNatClampNeg))
        else
          if v2 = 2 then
            gd (vp_in ((4 * v1) + v2) 40) (
              some (g_i σ (nm 1) ((4 * v1) + v2).toNatClampNeg))
          else
            if v2 = 3 then
              gd (vp_in ((4 * v1) + v2) 40) (
                some (g_i σ (nm 1) ((4 * v1) + v2).toNatClampNeg))
            else
              if v2 = 4 then
                (f_X11_earOf nm v1 (g_i σ (nm 0) 15) σ).bind (fun q2 =>
                  some q2)
              else
                if v2 = 5 then
                  gd (vp_in v1 10) (
                    some (g_i σ (nm 2) v1.toNatClampNeg))
                else
                  if v2 = 6 then
                    gd (vp_in v1 10) (
                      some (g_i σ (nm 3) v1.toNatClampNeg))
                  else
                    if v2 = 7 then
                      gd (vp_in v1 10) (
                        some (g_i σ (nm 4) v1.toNatClampNeg))
                    else
                      some (-1002))
abbrev Y_X11_lamp : jY := (yX11_lamp, cX11_lamp, 3, some .int, { frames := 2, cells := 0, slots := 0, locals := 46 })
theorem C_X11_lamp {l : Launch} {G : jG} {nm : Nat → Nat} (hG : jWL G) (hE : jE G nm LS_X11) (v1 : Int32) (v2 : Int32) (σ : jS) : jC (r_P σ) l G Y_X11_lamp [.ref (jad G (nm 0)), .int v1, .int v2] σ (f_X11_lamp nm v1 v2 σ) := by
  refine jw_met hG pn_X11 (Nat.le_of_ble_eq_true rfl) ⟨rfl, rfl⟩ ?_
  intro X hX hM
  have hX : jB X l G cX11_lamp RX11 3 { frames := 2, cells := 0, slots := 0, locals := 46 } := hX
  have hM : jM X (some .int) := hM
  show J X 0 [(0, .ref (jad G (nm 0))), (1, .int v1), (2, .int v2)] [] σ (f_X11_lamp nm v1 v2 σ) (jk (r_P σ) X)
  unfold f_X11_lamp
  refine J_aload_n hX dX11_lamp_0 rfl ?_
  refine J_iload_n hX dX11_lamp_1 rfl ?_
  refine J_cVP hX hE 0 (C_X11_isLamp hG hE v1 σ) mw_X11_isLamp ml_X11_242 rfl rfl rfl ⟨Nat.le_of_ble_eq_true rfl, Nat.le_of_ble_eq_true rfl⟩ rfl rfl (Nat.le_of_ble_eq_true rfl) dX11_lamp_2 (fun q3 => ?_)
  refine J_if_ne hX dX11_lamp_5 (tgt := 12) rfl (fun _ => ?_) (fun _ => ?_)
  · refine J_iload_n hX dX11_lamp_12 rfl ?_
    refine J_case (fun _ => ?_) (fun h13_0 => ?_)
    · refine J_tin hX dX11_lamp_13 (tgt := 60) (by decide) (by decide) (off := 47) rfl rfl ?_
      refine J_aload_n hX dX11_lamp_60 rfl ?_
      refine J_getr hX hE 0 1 rfl rfl fl_X11_7 dX11_lamp_61 ?_
      refine J_iconst hX dX11_lamp_64 k_i4 ?_
      refine J_iload_n hX dX11_lamp_65 rfl ?_
      refine J_imul hX dX11_lamp_66 ?_
      refine J_iload_n hX dX11_lamp_67 rfl ?_
      refine J_iadd hX dX11_lamp_68 ?_
      refine J_iald hX hE 1 rfl dX11_lamp_69 (fun _ => ?_)
      exact J_iretP hX hM dX11_lamp_70
    · refine J_case (fun _ => ?_) (fun h13_1 => ?_)
      · refine J_tin hX dX11_lamp_13 (tgt := 60) (by decide) (by decide) (off := 47) rfl rfl ?_
        refine J_aload_n hX dX11_lamp_60 rfl ?_
        refine J_getr hX hE 0 1 rfl rfl fl_X11_7 dX11_lamp_61 ?_
        refine J_iconst hX dX11_lamp_64 k_i4 ?_
        refine J_iload_n hX dX11_lamp_65 rfl ?_
        refine J_imul hX dX11_lamp_66 ?_
        refine J_iload_n hX dX11_lamp_67 rfl ?_
        refine J_iadd hX dX11_lamp_68 ?_
        refine J_iald hX hE 1 rfl dX11_lamp_69 (fun _ => ?_)
        exact J_iretP hX hM dX11_lamp_70
      · refine J_case (fun _ => ?_) (fun h13_2 => ?_)
        · refine J_tin hX dX11_lamp_13 (tgt := 60) (by decide) (by decide) (off := 47) rfl rfl ?_
          refine J_aload_n hX dX11_lamp_60 rfl ?_
          refine J_getr hX hE 0 1 rfl rfl fl_X11_7 dX11_lamp_61 ?_
          refine J_iconst hX dX11_lamp_64 k_i4 ?_
          refine J_iload_n hX dX11_lamp_65 rfl ?_
          refine J_imul hX dX11_lamp_66 ?_
          refine J_iload_n hX dX11_lamp_67 rfl ?_
          refine J_iadd hX dX11_lamp_68 ?_
          refine J_iald hX hE 1 rfl dX11_lamp_69 (fun _ => ?_)
          exact J_iretP hX hM dX11_lamp_70
        · refine J_case (fun _ => ?_) (fun h13_3 => ?_)
          · refine J_tin hX dX11_lamp_13 (tgt := 60) (by decide) (by decide) (off := 47) rfl rfl ?_
            refine J_aload_n hX dX11_lamp_60 rfl ?_
            refine J_getr hX hE 0 1 rfl rfl fl_X11_7 dX11_lamp_61 ?_
            refine J_iconst hX dX11_lamp_64 k_i4 ?_
            refine J_iload_n hX dX11_lamp_65 rfl ?_
            refine J_imul hX dX11_lamp_66 ?_
            refine J_iload_n hX dX11_lamp_67 rfl ?_
            refine J_iadd hX dX11_lamp_68 ?_
            refine J_iald hX hE 1 rfl dX11_lamp_69 (fun _ => ?_)
            exact J_iretP hX hM dX11_lamp_70
          · refine J_case (fun _ => ?_) (fun h13_4 => ?_)
            · refine J_tin hX dX11_lamp_13 (tgt := 71) (by decide) (by decide) (off := 58) rfl rfl ?_
              refine J_aload_n hX dX11_lamp_71 rfl ?_
              refine J_iload_n hX dX11_lamp_72 rfl ?_
              refine J_aload_n hX dX11_lamp_73 rfl ?_
              refine J_geti hX hE 0 15 rfl rfl fl_X11_218 dX11_lamp_74 ?_
              refine J_cVP hX hE 0 (C_X11_earOf hG hE v1 (g_i σ (nm 0) 15) σ) mw_X11_earOf ml_X11_246 rfl rfl rfl ⟨Nat.le_of_ble_eq_true rfl, Nat.le_of_ble_eq_true rfl⟩ rfl rfl (Nat.le_of_ble_eq_true rfl) dX11_lamp_77 (fun q4 => ?_)
              exact J_iretP hX hM dX11_lamp_80
            · refine J_case (fun _ => ?_) (fun h13_5 => ?_)
              · refine J_tin hX dX11_lamp_13 (tgt := 81) (by decide) (by decide) (off := 68) rfl rfl ?_
                refine J_aload_n hX dX11_lamp_81 rfl ?_
                refine J_getr hX hE 0 2 rfl rfl fl_X11_13 dX11_lamp_82 ?_
                refine J_iload_n hX dX11_lamp_85 rfl ?_
                refine J_iald hX hE 2 rfl dX11_lamp_86 (fun _ => ?_)
                exact J_iretP hX hM dX11_lamp_87
              · refine J_case (fun _ => ?_) (fun h13_6 => ?_)
                · refine J_tin hX dX11_lamp_13 (tgt := 88) (by decide) (by decide) (off := 75) rfl rfl ?_
                  refine J_aload_n hX dX11_lamp_88 rfl ?_
                  refine J_getr hX hE 0 3 rfl rfl fl_X11_16 dX11_lamp_89 ?_
                  refine J_iload_n hX dX11_lamp_92 rfl ?_
                  refine J_iald hX hE 3 rfl dX11_lamp_93 (fun _ => ?_)
                  exact J_iretP hX hM dX11_lamp_94
                · refine J_case (fun _ => ?_) (fun h13_7 => ?_)
                  · refine J_tin hX dX11_lamp_13 (tgt := 95) (by decide) (by decide) (off := 82) rfl rfl ?_
                    refine J_aload_n hX dX11_lamp_95 rfl ?_
                    refine J_getr hX hE 0 4 rfl rfl fl_X11_19 dX11_lamp_96 ?_
                    refine J_iload_n hX dX11_lamp_99 rfl ?_
                    refine J_iald hX hE 4 rfl dX11_lamp_100 (fun _ => ?_)
                    exact J_iretP hX hM dX11_lamp_101
                  · refine J_tout hX dX11_lamp_13 (tgt := 102) (jt_out8 h13_0 h13_1 h13_2 h13_3 h13_4 h13_5 h13_6 h13_7) rfl ?_
                    refine J_sipush hX dX11_lamp_102 ks_m1002 ?_
                    exact J_iretP hX hM dX11_lamp_105
  · refine J_sipush hX dX11_lamp_8 ks_m1001 ?_
    exact J_iretP hX hM dX11_lamp_11
theorem mw_X11_lamp : jMV Y_X11_lamp 2 := ⟨⟨tw_tb (List.mem_of_getElem? (i := 1300) (by decide +kernel)) (by decide +kernel), tw_tb (List.mem_of_getElem? (i := 1301) (by decide +kernel)) (by decide +kernel), tw_tb (List.mem_of_getElem? (i := 13) (by decide +kernel)) (by decide +kernel), tw_tb (List.mem_of_getElem? (i := 1302) (by decide +kernel)) (by decide +kernel)⟩, ⟨rfl, rfl⟩, by decide +kernel, by decide +kernel, by decide +kernel⟩
-- X11_lit
noncomputable def f_X11_lit (nm : Nat → Nat) (v1 : Int32) (σ : jS) : Option Int32 :=
  if v1 = 0 then
    (f_X11_litNow nm 0 σ).bind (fun q2 =>
      some q2)
  else
    if v1 = 1 then
      (f_X11_litNow nm 1 σ).bind (fun q1 =>
        some q1)
    else
      some (-1002)
abbrev Y_X11_lit : jY := (yX11_lit, cX11_lit, 2, some .int, { frames := 1, cells := 0, slots := 0, locals := 23 })
theorem C_X11_lit {l : Launch} {G : jG} {nm : Nat → Nat} (hG : jWL G) (hE : jE G nm LS_X11) (v1 : Int32) (σ : jS) : jC (r_P σ) l G Y_X11_lit [.ref (jad G (nm 0)), .int v1] σ (f_X11_lit nm v1 σ) := by
  refine jw_met hG pn_X11 (Nat.le_of_ble_eq_true rfl) ⟨rfl, rfl⟩ ?_
  intro X hX hM
  have hX : jB X l G cX11_lit RX11 2 { frames := 1, cells := 0, slots := 0, locals := 23 } := hX
  have hM : jM X (some .int) := hM
  show J X 0 [(0, .ref (jad G (nm 0))), (1, .int v1)] [] σ (f_X11_lit nm v1 σ) (jk (r_P σ) X)
  unfold f_X11_lit
  refine J_iload_n hX dX11_lit_0 rfl ?_
  refine J_if_ne hX dX11_lit_1 (tgt := 12) rfl (fun _ => ?_) (fun _ => ?_)
  · refine J_iload_n hX dX11_lit_12 rfl ?_
    refine J_iconst hX dX11_lit_13 k_i1 ?_
    refine J_icmp_ne hX dX11_lit_14 (tgt := 25) rfl (fun _ => ?_) (fun _ => ?_)
    · refine J_sipush hX dX11_lit_25 ks_m1002 ?_
      exact J_iretP hX hM dX11_lit_28
    · refine J_aload_n hX dX11_lit_17 rfl ?_
      refine J_iconst hX dX11_lit_18 k_i1 ?_
      refine J_cVP hX hE 0 (C_X11_litNow hG hE 1 σ) mw_X11_litNow ml_X11_292 rfl rfl rfl ⟨Nat.le_of_ble_eq_true rfl, Nat.le_of_ble_eq_true rfl⟩ rfl rfl (Nat.le_of_ble_eq_true rfl) dX11_lit_19 (fun q3 => ?_)
      refine J_goto hX dX11_lit_22 (tgt := 28) rfl ?_
      exact J_iretP hX hM dX11_lit_28
  · refine J_aload_n hX dX11_lit_4 rfl ?_
    refine J_iconst hX dX11_lit_5 k_i0 ?_
    refine J_cVP hX hE 0 (C_X11_litNow hG hE 0 σ) mw_X11_litNow ml_X11_292 rfl rfl rfl ⟨Nat.le_of_ble_eq_true rfl, Nat.le_of_ble_eq_true rfl⟩ rfl rfl (Nat.le_of_ble_eq_true rfl) dX11_lit_6 (fun q4 => ?_)
    refine J_goto hX dX11_lit_9 (tgt := 28) rfl ?_
    exact J_iretP hX hM dX11_lit_28
theorem mw_X11_lit : jMV Y_X11_lit 1 := ⟨⟨tw_tb (List.mem_of_getElem? (i := 1371) (by decide +kernel)) (by decide +kernel), tw_tb (List.mem_of_getElem? (i := 1372) (by decide +kernel)) (by decide +kernel), tw_tb (List.mem_of_getElem? (i := 13) (by decide +kernel)) (by decide +kernel), tw_tb (List.mem_of_getElem? (i := 1373) (by decide +kernel)) (by decide +kernel)⟩, ⟨rfl, rfl⟩, by decide +kernel, by decide +kernel, by decide +kernel⟩
-- X11_log
noncomputable def f_X11_log (nm : Nat → Nat) (v1 : Int32) (σ : jS) : Option (Int32 × jS) :=
  (f_X11_areLamps nm v1 σ).bind (fun q1 =>
    if q1 = 0 then
      some ((-1001), σ)
    else
      if (g_i σ (nm 0) 47) = 40 then
        some ((-1004), σ)
      else
        gd (vp_in (g_i σ (nm 0) 47) 40) (bd (s_i σ (nm 23) (g_i σ (nm 0) 47).toNatClampNeg v1) (fun s2 =>
          bd (s_i s2 (nm 0) 47 ((g_i s2 (nm 0) 47) + 1)) (fun s3 =>
            some (g_i s3 (nm 0) 47, s3)))))
abbrev Y_X11_log : jY := (yX11_log, cX11_log, 2, some .int, { frames := 2, cells := 0, slots := 0, locals := 46 })
theorem C_X11_log {l : Launch} {G : jG} {nm : Nat → Nat} (hG : jWL G) (hE : jE G nm LS_X11) (v1 : Int32) (σ : jS) : jC r_I l G Y_X11_log [.ref (jad G (nm 0)), .int v1] σ (f_X11_log nm v1 σ) := by
  refine jw_met hG pn_X11 (Nat.le_of_ble_eq_true rfl) ⟨rfl, rfl⟩ ?_
  intro X hX hM
  have hX : jB X l G cX11_log RX11 2 { frames := 2, cells := 0, slots := 0, locals := 46 } := hX
  have hM : jM X (some .int) := hM
  show J X 0 [(0, .ref (jad G (nm 0))), (1, .int v1)] [] σ (f_X11_log nm v1 σ) (jk r_I X)
  unfold f_X11_log
  refine J_aload_n hX dX11_log_0 rfl ?_
  refine J_iload_n hX dX11_log_1 rfl ?_
  refine J_cVP hX hE 0 (C_X11_areLamps hG hE v1 σ) mw_X11_areLamps ml_X11_315 rfl rfl rfl ⟨Nat.le_of_ble_eq_true rfl, Nat.le_of_ble_eq_true rfl⟩ rfl rfl (Nat.le_of_ble_eq_true rfl) dX11_log_2 (fun q4 => ?_)
  refine J_if_ne hX dX11_log_5 (tgt := 12) rfl (fun _ => ?_) (fun _ => ?_)
  · refine J_aload_n hX dX11_log_12 rfl ?_
    refine J_geti hX hE 0 47 rfl rfl fl_X11_215 dX11_log_13 ?_
    refine J_bipush hX dX11_log_16 kb_40 ?_
    refine J_icmp_ne hX dX11_log_18 (tgt := 25) rfl (fun _ => ?_) (fun _ => ?_)
    · refine J_aload_n hX dX11_log_25 rfl ?_
      refine J_getr hX hE 0 48 rfl rfl fl_X11_92 dX11_log_26 ?_
      refine J_aload_n hX dX11_log_29 rfl ?_
      refine J_geti hX hE 0 47 rfl rfl fl_X11_215 dX11_log_30 ?_
      refine J_iload_n hX dX11_log_33 rfl ?_
      refine J_iast hX hE 23 rfl dX11_log_34 (fun _ => ?_)
      refine J_bdS (fun s5 => ?_)
      refine J_aload_n hX dX11_log_35 rfl ?_
      refine J_dup hX dX11_log_36 rfl ?_
      refine J_geti hX hE 0 47 rfl rfl fl_X11_215 dX11_log_37 ?_
      refine J_iconst hX dX11_log_40 k_i1 ?_
      refine J_iadd hX dX11_log_41 ?_
      refine J_puti hX hE 0 47 rfl rfl fp_X11_215 dX11_log_42 ?_
      refine J_bdS (fun s6 => ?_)
      refine J_aload_n hX dX11_log_45 rfl ?_
      refine J_geti hX hE 0 47 rfl rfl fl_X11_215 dX11_log_46 ?_
      exact J_iret hX hM dX11_log_49
    · refine J_sipush hX dX11_log_21 ks_m1004 ?_
      exact J_iret hX hM dX11_log_24
  · refine J_sipush hX dX11_log_8 ks_m1001 ?_
    exact J_iret hX hM dX11_log_11
theorem mw_X11_log : jMV Y_X11_log 1 := ⟨⟨tw_tb (List.mem_of_getElem? (i := 1494) (by decide +kernel)) (by decide +kernel), tw_tb (List.mem_of_getElem? (i := 1495) (by decide +kernel)) (by decide +kernel), tw_tb (List.mem_of_getElem? (i := 13) (by decide +kernel)) (by decide +kernel), tw_tb (List.mem_of_getElem? (i := 1496) (by decide +kernel)) (by decide +kernel)⟩, ⟨rfl, rfl⟩, by decide +kernel, by decide +kernel, by decide +kernel⟩
-- X11_longer
noncomputable def f_X11_longer (v0 : Int64) (v2 : Int32) : Option Int64 :=
  some (((27 * v0) + (v2.toInt64)) - 96)
abbrev Y_X11_longer : jY := (yX11_longer, cX11_longer, 3, some .long, { frames := 0, cells := 0, slots := 0, locals := 0 })
theorem C_X11_longer {l : Launch} {G : jG} (hG : jWL G) (v0 : Int64) (v2 : Int32) (σ : jS) : jC (r_PL σ) l G Y_X11_longer [.long v0, .int v2] σ (f_X11_longer v0 v2) := by
  refine jw_met hG pn_X11 (Nat.le_of_ble_eq_true rfl) ⟨rfl, rfl⟩ ?_
  intro X hX hM
  have hX : jB X l G cX11_longer RX11 3 { frames := 0, cells := 0, slots := 0, locals := 0 } := hX
  have hM : jM X (some .long) := hM
  show J X 0 [(0, .long v0), (2, .int v2)] [] σ (f_X11_longer v0 v2) (jk (r_PL σ) X)
  unfold f_X11_longer
  refine J_ldc2 hX wl_X11_145 dX11_longer_0 ?_
  refine J_lload_n hX dX11_longer_3 rfl ?_
  refine J_lmul hX dX11_longer_4 ?_
  refine J_iload_n hX dX11_longer_5 rfl ?_
  refine J_i2l hX dX11_longer_6 ?_
  refine J_ladd hX dX11_longer_7 ?_
  refine J_ldc2 hX wl_X11_147 dX11_longer_8 ?_
  refine J_lsub hX dX11_longer_11 ?_
  exact J_lretP hX hM dX11_longer_12
theorem mw_X11_longer : jMS Y_X11_longer 2 := ⟨⟨tw_tb (List.mem_of_getElem? (i := 1240) (by decide +kernel)) (by decide +kernel), tw_tb (List.mem_of_getElem? (i := 13) (by decide +kernel)) (by decide +kernel), tw_tb (List.mem_of_getElem? (i := 1241) (by decide +kernel)) (by decide +kernel)⟩, ⟨rfl, rfl⟩, by decide +kernel, by decide +kernel, by decide +kernel⟩
-- X11_lured
noncomputable def f_X11_lured (nm : Nat → Nat) (v1 : Int32) (v2 : Int32) (v3 : Int64) (v5 : Int32) (σ : jS) : Option (Int32 × jS) :=
  (f_X11_areLamps nm v1 σ).bind (fun q1 =>
    if q1 = 0 then
      some ((-1001), σ)
    else
      (f_X11_areLamps nm v2 σ).bind (fun q2 =>
        if q2 = 0 then
          some ((-1001), σ)
        else
          (f_X11_isLoud v5).bind (fun q3 =>
            if q3 = 0 then
              some ((-1002), σ)
            else
              (f_X11_luredBy nm v1 v2 v3 v5 σ).bind (fun x => match x with
              | (q4, s5) =>
                some (q4, s5)))))
abbrev Y_X11_lured : jY := (yX11_lured, cX11_lured, 6, some .int, { frames := 3, cells := 0, slots := 0, locals := 76 })
theorem C_X11_lured {l : Launch} {G : jG} {nm : Nat → Nat} (hG : jWL G) (hE : jE G nm LS_X11) (v1 : Int32) (v2 : Int32) (v3 : Int64) (v5 : Int32) (σ : jS) : jC r_I l G Y_X11_lured [.ref (jad G (nm 0)), .int v1, .int v2, .long v3, .int v5] σ (f_X11_lured nm v1 v2 v3 v5 σ) := by
  refine jw_met hG pn_X11 (Nat.le_of_ble_eq_true rfl) ⟨rfl, rfl⟩ ?_
  intro X hX hM
  have hX : jB X l G cX11_lured RX11 6 { frames := 3, cells := 0, slots := 0, locals := 76 } := hX
  have hM : jM X (some .int) := hM
  show J X 0 [(0, .ref (jad G (nm 0))), (1, .int v1), (2, .int v2), (3, .long v3), (5, .int v5)] [] σ (f_X11_lured nm v1 v2 v3 v5 σ) (jk r_I X)
  unfold f_X11_lured
  refine J_aload_n hX dX11_lured_0 rfl ?_
  refine J_iload_n hX dX11_lured_1 rfl ?_
  refine J_cVP hX hE 0 (C_X11_areLamps hG hE v1 σ) mw_X11_areLamps ml_X11_315 rfl rfl rfl ⟨Nat.le_of_ble_eq_true rfl, Nat.le_of_ble_eq_true rfl⟩ rfl rfl (Nat.le_of_ble_eq_true rfl) dX11_lured_2 (fun q6 => ?_)
  refine J_if_eq hX dX11_lured_5 (tgt := 16) rfl (fun _ => ?_) (fun _ => ?_)
  · refine J_sipush hX dX11_lured_16 ks_m1001 ?_
    exact J_iret hX hM dX11_lured_19
  · refine J_aload_n hX dX11_lured_8 rfl ?_
    refine J_iload_n hX dX11_lured_9 rfl ?_
    refine J_cVP hX hE 0 (C_X11_areLamps hG hE v2 σ) mw_X11_areLamps ml_X11_315 rfl rfl rfl ⟨Nat.le_of_ble_eq_true rfl, Nat.le_of_ble_eq_true rfl⟩ rfl rfl (Nat.le_of_ble_eq_true rfl) dX11_lured_10 (fun q7 => ?_)
    refine J_if_ne hX dX11_lured_13 (tgt := 20) rfl (fun _ => ?_) (fun _ => ?_)
    · refine J_iload hX dX11_lured_20 rfl ?_
      refine J_cSP hX (C_X11_isLoud hG v5 σ) mw_X11_isLoud ml_X11_268 ⟨Nat.le_of_ble_eq_true rfl, Nat.le_of_ble_eq_true rfl⟩ rfl rfl (Nat.le_of_ble_eq_true rfl) dX11_lured_22 (fun q8 => ?_)
      refine J_if_eq hX dX11_lured_25 (tgt := 40) rfl (fun _ => ?_) (fun _ => ?_)
      · refine J_sipush hX dX11_lured_40 ks_m1002 ?_
        exact J_iret hX hM dX11_lured_43
      · refine J_aload_n hX dX11_lured_28 rfl ?_
        refine J_iload_n hX dX11_lured_29 rfl ?_
        refine J_iload_n hX dX11_lured_30 rfl ?_
        refine J_lload_n hX dX11_lured_31 rfl ?_
        refine J_iload hX dX11_lured_32 rfl ?_
        refine J_cVI hX hE 0 (C_X11_luredBy hG hE v1 v2 v3 v5 σ) mw_X11_luredBy ml_X11_322 rfl rfl rfl ⟨Nat.le_of_ble_eq_true rfl, Nat.le_of_ble_eq_true rfl⟩ rfl rfl (Nat.le_of_ble_eq_true rfl) dX11_lured_34 (fun q9 s10 => ?_)
        refine J_goto hX dX11_lured_37 (tgt := 43) rfl ?_
        exact J_iret hX hM dX11_lured_43
    · refine J_sipush hX dX11_lured_16 ks_m1001 ?_
      exact J_iret hX hM dX11_lured_19
theorem mw_X11_lured : jMV Y_X11_lured 4 := ⟨⟨tw_tb (List.mem_of_getElem? (i := 1423) (by decide +kernel)) (by decide +kernel), tw_tb (List.mem_of_getElem? (i := 1424) (by decide +kernel)) (by decide +kernel), tw_tb (List.mem_of_getElem? (i := 13) (by decide +kernel)) (by decide +kernel), tw_tb (List.mem_of_getElem? (i := 1425) (by decide +kernel)) (by decide +kernel)⟩, ⟨rfl, rfl⟩, by decide +kernel, by decide +kernel, by decide +kernel⟩
-- X11_readWord
noncomputable def f_X11_readWord_J92 (nm : Nat → Nat) (t1 : Int64) (σ : jS) : Option (jS ⊕ jS) :=
  bd (s_l σ (nm 0) 22 t1) (fun s7 =>
    bd (s_i s7 (nm 0) 23 ((g_i s7 (nm 0) 23) + 1)) (fun s8 =>
      some (.inl s8)))
noncomputable def f_X11_readWord_L18 (nm : Nat → Nat) (σ : jS) : Option (jS ⊕ jS) :=
  if (g_i σ (nm 0) 19) ≤ (g_i σ (nm 0) 23) then
    some (.inr σ)
  else
    gd (vp_in (g_i σ (nm 0) 23) 400) (
      (f_X11_in ((g_i σ (nm 8) (g_i σ (nm 0) 23).toNatClampNeg).toInt64) 97 122).bind (fun q5 =>
        if q5 = 0 then
          some (.inr σ)
        else
          (if (lg_cmp (g_l σ (nm 0) 22) 10000000000000) ≤ 0 then
            gd (vp_in (g_i σ (nm 0) 23) 400) (
              some (((27 * (g_l σ (nm 0) 22)) + ((g_i σ (nm 8) (g_i σ (nm 0) 23).toNatClampNeg).toInt64)) - 96))
          else
            some 20000000000000).bind (fun y6 =>
            f_X11_readWord_J92 nm y6 σ)))
noncomputable def f_X11_readWord (nm : Nat → Nat) (σ : jS) : Option jS :=
  (f_X11_here nm σ).bind (fun x => match x with
  | (q1, s2) =>
    bd (s_l s2 (nm 0) 22 0) (fun s3 =>
      bd (s_i s3 (nm 0) 23 (g_i s3 (nm 0) 21)) (fun s4 =>
        (lp (f_X11_readWord_L18 nm) fu s4).bind (fun s9 =>
          some s9))))
abbrev Y_X11_readWord : jY := (yX11_readWord, cX11_readWord, 2, none, { frames := 1, cells := 0, slots := 0, locals := 25 })
theorem C_X11_readWord {l : Launch} {G : jG} {nm : Nat → Nat} (hG : jWL G) (hE : jE G nm LS_X11) (σ : jS) : jC r_V l G Y_X11_readWord [.ref (jad G (nm 0))] σ (f_X11_readWord nm σ) := by
  refine jw_met hG pn_X11 (Nat.le_of_ble_eq_true rfl) ⟨rfl, rfl⟩ ?_
  intro X hX hM
  have hX : jB X l G cX11_readWord RX11 2 { frames := 1, cells := 0, slots := 0, locals := 25 } := hX
  have hM : jM X (none) := hM
  show J X 0 [(0, .ref (jad G (nm 0)))] [] σ (f_X11_readWord nm σ) (jk r_V X)
  unfold f_X11_readWord
  refine J_aload_n hX dX11_readWord_0 rfl ?_
  refine J_cVI hX hE 0 (C_X11_here hG hE σ) mw_X11_here ml_X11_127 rfl rfl rfl ⟨Nat.le_of_ble_eq_true rfl, Nat.le_of_ble_eq_true rfl⟩ rfl rfl (Nat.le_of_ble_eq_true rfl) dX11_readWord_1 (fun q10 s11 => ?_)
  refine J_istore_n hX dX11_readWord_4 (Nat.le_of_ble_eq_true rfl) (lv' := [(0, .ref (jad G (nm 0))), (1, .int q10)]) rfl ?_
  refine J_aload_n hX dX11_readWord_5 rfl ?_
  refine J_lconst hX dX11_readWord_6 k_l0 ?_
  refine J_putl hX hE 0 22 rfl rfl fp_X11_130 dX11_readWord_7 ?_
  refine J_bdS (fun s12 => ?_)
  refine J_aload_n hX dX11_readWord_10 rfl ?_
  refine J_aload_n hX dX11_readWord_11 rfl ?_
  refine J_geti hX hE 0 21 rfl rfl fl_X11_124 dX11_readWord_12 ?_
  refine J_puti hX hE 0 23 rfl rfl fp_X11_134 dX11_readWord_15 ?_
  refine J_bdS (fun s13 => ?_)
  refine J_keep [0] (lv' := [(0, .ref (jad G (nm 0)))]) rfl ?_
  refine J_lp (pc := 18) (s0 := s13) (fun (s : jS) => [(0, .ref (jad G (nm 0)))]) (fun (s : jS) => s) ?_
  intro KK18 hN18 hQ18 z18
  obtain ⟨σ_18, rfl⟩ : ∃ y, y = z18 := ⟨_, rfl⟩
  show J X 18 [(0, .ref (jad G (nm 0)))] [] σ_18 (f_X11_readWord_L18 nm σ_18) KK18
  have hJ92 : ∀ (t1_j92 : Int64) (σ_j92 : jS), J X 92 [(0, .ref (jad G (nm 0)))] [.long t1_j92, .ref (jad G (nm 0))] σ_j92 (f_X11_readWord_J92 nm t1_j92 σ_j92) KK18 := by
    intro t1_j92 σ_j92
    unfold f_X11_readWord_J92
    refine J_putl hX hE 0 22 rfl rfl fp_X11_130 dX11_readWord_92 ?_
    refine J_bdS (fun s14 => ?_)
    refine J_aload_n hX dX11_readWord_95 rfl ?_
    refine J_dup hX dX11_readWord_96 rfl ?_
    refine J_geti hX hE 0 23 rfl rfl fl_X11_134 dX11_readWord_97 ?_
    refine J_iconst hX dX11_readWord_100 k_i1 ?_
    refine J_iadd hX dX11_readWord_101 ?_
    refine J_puti hX hE 0 23 rfl rfl fp_X11_134 dX11_readWord_102 ?_
    refine J_bdS (fun s15 => ?_)
    refine J_goto hX dX11_readWord_105 (tgt := 18) rfl ?_
    exact J_keep [0] rfl (hN18 s15)
  unfold f_X11_readWord_L18
  refine J_aload_n hX dX11_readWord_18 rfl ?_
  refine J_geti hX hE 0 23 rfl rfl fl_X11_134 dX11_readWord_19 ?_
  refine J_aload_n hX dX11_readWord_22 rfl ?_
  refine J_geti hX hE 0 19 rfl rfl fl_X11_119 dX11_readWord_23 ?_
  refine J_icmp_ge hX dX11_readWord_26 (tgt := 108) rfl (fun _ => ?_) (fun _ => ?_)
  · refine hQ18 _ _ _ _ _ ?_
    exact J_vret hX hM dX11_readWord_108
  · refine J_aload_n hX dX11_readWord_29 rfl ?_
    refine J_getr hX hE 0 18 rfl rfl fl_X11_41 dX11_readWord_30 ?_
    refine J_aload_n hX dX11_readWord_33 rfl ?_
    refine J_geti hX hE 0 23 rfl rfl fl_X11_134 dX11_readWord_34 ?_
    refine J_iald hX hE 8 rfl dX11_readWord_37 (fun _ => ?_)
    refine J_i2l hX dX11_readWord_38 ?_
    refine J_ldc2 hX wl_X11_137 dX11_readWord_39 ?_
    refine J_ldc2 hX wl_X11_139 dX11_readWord_42 ?_
    refine J_cSP hX (C_X11_in hG ((g_i σ_18 (nm 8) (g_i σ_18 (nm 0) 23).toNatClampNeg).toInt64) 97 122 σ_18) mw_X11_in ml_X11_107 ⟨Nat.le_of_ble_eq_true rfl, Nat.le_of_ble_eq_true rfl⟩ rfl rfl (Nat.le_of_ble_eq_true rfl) dX11_readWord_45 (fun q16 => ?_)
    refine J_if_eq hX dX11_readWord_48 (tgt := 108) rfl (fun _ => ?_) (fun _ => ?_)
    · refine hQ18 _ _ _ _ _ ?_
      exact J_vret hX hM dX11_readWord_108
    · refine J_aload_n hX dX11_readWord_51 rfl ?_
      refine J_aload_n hX dX11_readWord_52 rfl ?_
      refine J_getl hX hE 0 22 rfl rfl fl_X11_130 dX11_readWord_53 ?_
      refine J_ldc2 hX wl_X11_141 dX11_readWord_56 ?_
      refine J_lcmp hX dX11_readWord_59 ?_
      refine J_blk ?_
      intro KB60 hB60
      refine J_if_le hX dX11_readWord_60 (tgt := 69) rfl (fun _ => ?_) (fun _ => ?_)
      · refine J_ldc2 hX wl_X11_145 dX11_readWord_69 ?_
        refine J_aload_n hX dX11_readWord_72 rfl ?_
        refine J_getl hX hE 0 22 rfl rfl fl_X11_130 dX11_readWord_73 ?_
        refine J_lmul hX dX11_readWord_76 ?_
        refine J_aload_n hX dX11_readWord_77 rfl ?_
        refine J_getr hX hE 0 18 rfl rfl fl_X11_41 dX11_readWord_78 ?_
        refine J_aload_n hX dX11_readWord_81 rfl ?_
        refine J_geti hX hE 0 23 rfl rfl fl_X11_134 dX11_readWord_82 ?_
        refine J_iald hX hE 8 rfl dX11_readWord_85 (fun _ => ?_)
        refine J_i2l hX dX11_readWord_86 ?_
        refine J_ladd hX dX11_readWord_87 ?_
        refine J_ldc2 hX wl_X11_147 dX11_readWord_88 ?_
        refine J_lsub hX dX11_readWord_91 ?_
        refine hB60 _ _ _ _ _ ?_
        exact J_keep [0] rfl (hJ92 (((27 * (g_l σ_18 (nm 0) 22)) + ((g_i σ_18 (nm 8) (g_i σ_18 (nm 0) 23).toNatClampNeg).toInt64)) - 96) σ_18)
      · refine J_ldc2 hX wl_X11_143 dX11_readWord_63 ?_
        refine J_goto hX dX11_readWord_66 (tgt := 92) rfl ?_
        refine hB60 _ _ _ _ _ ?_
        exact J_keep [0] rfl (hJ92 20000000000000 σ_18)
theorem mw_X11_readWord : jMV Y_X11_readWord 0 := ⟨⟨tw_tb (List.mem_of_getElem? (i := 1228) (by decide +kernel)) (by decide +kernel), tw_pv (List.mem_of_getElem? (i := 37) (by decide +kernel)) (by decide +kernel), tw_tb (List.mem_of_getElem? (i := 13) (by decide +kernel)) (by decide +kernel), tw_tb (List.mem_of_getElem? (i := 1229) (by decide +kernel)) (by decide +kernel)⟩, ⟨rfl, rfl⟩, by decide +kernel, by decide +kernel, by decide +kernel⟩
-- X11_takeStop
noncomputable def f_X11_takeStop (nm : Nat → Nat) (σ : jS) : Option (Int32 × jS) :=
  (f_X11_here nm σ).bind (fun x => match x with
  | (q1, s2) =>
    if q1 = 59 then
      bd (s_i s2 (nm 0) 21 ((g_i s2 (nm 0) 21) + 1)) (fun s3 =>
        some (0, s3))
    else
      (f_X11_fails nm 1 (g_i s2 (nm 0) 21) s2).bind (fun x => match x with
      | (q4, s5) =>
        some (q4, s5)))
abbrev Y_X11_takeStop : jY := (yX11_takeStop, cX11_takeStop, 1, some .int, { frames := 1, cells := 0, slots := 0, locals := 22 })
theorem C_X11_takeStop {l : Launch} {G : jG} {nm : Nat → Nat} (hG : jWL G) (hE : jE G nm LS_X11) (σ : jS) : jC r_I l G Y_X11_takeStop [.ref (jad G (nm 0))] σ (f_X11_takeStop nm σ) := by
  refine jw_met hG pn_X11 (Nat.le_of_ble_eq_true rfl) ⟨rfl, rfl⟩ ?_
  intro X hX hM
  have hX : jB X l G cX11_takeStop RX11 1 { frames := 1, cells := 0, slots := 0, locals := 22 } := hX
  have hM : jM X (some .int) := hM
  show J X 0 [(0, .ref (jad G (nm 0)))] [] σ (f_X11_takeStop nm σ) (jk r_I X)
  unfold f_X11_takeStop
  refine J_aload_n hX dX11_takeStop_0 rfl ?_
  refine J_cVI hX hE 0 (C_X11_here hG hE σ) mw_X11_here ml_X11_127 rfl rfl rfl ⟨Nat.le_of_ble_eq_true rfl, Nat.le_of_ble_eq_true rfl⟩ rfl rfl (Nat.le_of_ble_eq_true rfl) dX11_takeStop_1 (fun q6 s7 => ?_)
  refine J_bipush hX dX11_takeStop_4 kb_59 ?_
  refine J_icmp_eq hX dX11_takeStop_6 (tgt := 19) rfl (fun _ => ?_) (fun _ => ?_)
  · refine J_aload_n hX dX11_takeStop_19 rfl ?_
    refine J_dup hX dX11_takeStop_20 rfl ?_
    refine J_geti hX hE 0 21 rfl rfl fl_X11_124 dX11_takeStop_21 ?_
    refine J_iconst hX dX11_takeStop_24 k_i1 ?_
    refine J_iadd hX dX11_takeStop_25 ?_
    refine J_puti hX hE 0 21 rfl rfl fp_X11_124 dX11_takeStop_26 ?_
    refine J_bdS (fun s8 => ?_)
    refine J_iconst hX dX11_takeStop_29 k_i0 ?_
    exact J_iret hX hM dX11_takeStop_30
  · refine J_aload_n hX dX11_takeStop_9 rfl ?_
    refine J_iconst hX dX11_takeStop_10 k_i1 ?_
    refine J_aload_n hX dX11_takeStop_11 rfl ?_
    refine J_geti hX hE 0 21 rfl rfl fl_X11_124 dX11_takeStop_12 ?_
    refine J_cVI hX hE 0 (C_X11_fails hG hE 1 (g_i s7 (nm 0) 21) s7) mw_X11_fails ml_X11_153 rfl rfl rfl ⟨Nat.le_of_ble_eq_true rfl, Nat.le_of_ble_eq_true rfl⟩ rfl rfl (Nat.le_of_ble_eq_true rfl) dX11_takeStop_15 (fun q9 s10 => ?_)
    exact J_iret hX hM dX11_takeStop_18
theorem mw_X11_takeStop : jMV Y_X11_takeStop 0 := ⟨⟨tw_tb (List.mem_of_getElem? (i := 1269) (by decide +kernel)) (by decide +kernel), tw_pv (List.mem_of_getElem? (i := 43) (by decide +kernel)) (by decide +kernel), tw_tb (List.mem_of_getElem? (i := 13) (by decide +kernel)) (by decide +kernel), tw_tb (List.mem_of_getElem? (i := 1270) (by decide +kernel)) (by decide +kernel)⟩, ⟨rfl, rfl⟩, by decide +kernel, by decide +kernel, by decide +kernel⟩
-- X11_takeDay
noncomputable def f_X11_takeDay (nm : Nat → Nat) (σ : jS) : Option (Int32 × jS) :=
  (f_X11_readWord nm σ).bind (fun s1 =>
    (f_X11_code 102 114 111 115).bind (fun q2 =>
      (f_X11_longer q2 116).bind (fun q3 =>
        if (lg_cmp (g_l s1 (nm 0) 22) q3) = 0 then
          if (g_i s1 (nm 0) 32) = 30 then
            (f_X11_fails nm 3 (g_i s1 (nm 0) 21) s1).bind (fun x => match x with
            | (q10, s11) =>
              some (q10, s11))
          else
            bd (s_i s1 (nm 0) 21 (g_i s1 (nm 0) 23)) (fun s4 =>
              (f_X11_into (jn nm [0, 1, 2, 3, 4, 5, 6, 7, 8, 9, 10, 11, 12, 13, 14, 15, 16, 17, 18, 19, 20, 21, 22, 23, 24, 25, 26, 12]) 90 (g_i s4 (nm 0) 32) 0 9 s4).bind (fun x => match x with
              | (q5, s6) =>
                bd (s_i s6 (nm 0) 32 ((g_i s6 (nm 0) 32) + 1)) (fun s7 =>
                  if q5 ≤ 0 then
                    (f_X11_takeStop nm s7).bind (fun x => match x with
                    | (q8, s9) =>
                      some (q8, s9))
                  else
                    some (q5, s7))))
        else
          (f_X11_fails nm 1 (g_i s1 (nm 0) 21) s1).bind (fun x => match x with
          | (q12, s13) =>
            some (q12, s13)))))
abbrev Y_X11_takeDay : jY := (yX11_takeDay, cX11_takeDay, 2, some .int, { frames := 3, cells := 0, slots := 0, locals := 73 })
theorem C_X11_takeDay {l : Launch} {G : jG} {nm : Nat → Nat} (hG : jWL G) (hE : jE G nm LS_X11) (σ : jS) : jC r_I l G Y_X11_takeDay [.ref (jad G (nm 0))] σ (f_X11_takeDay nm σ) := by
  refine jw_met hG pn_X11 (Nat.le_of_ble_eq_true rfl) ⟨rfl, rfl⟩ ?_
  intro X hX hM
  have hX : jB X l G cX11_takeDay RX11 2 { frames := 3, cells := 0, slots := 0, locals := 73 } := hX
  have hM : jM X (some .int) := hM
  show J X 0 [(0, .ref (jad G (nm 0)))] [] σ (f_X11_takeDay nm σ) (jk r_I X)
  unfold f_X11_takeDay
  refine J_aload_n hX dX11_takeDay_0 rfl ?_
  refine J_cVV hX hE 0 (C_X11_readWord hG hE σ) mw_X11_readWord ml_X11_176 rfl rfl rfl ⟨Nat.le_of_ble_eq_true rfl, Nat.le_of_ble_eq_true rfl⟩ rfl rfl (Nat.le_of_ble_eq_true rfl) dX11_takeDay_1 (fun s14 => ?_)
  refine J_aload_n hX dX11_takeDay_4 rfl ?_
  refine J_getl hX hE 0 22 rfl rfl fl_X11_130 dX11_takeDay_5 ?_
  refine J_bipush hX dX11_takeDay_8 kb_102 ?_
  refine J_bipush hX dX11_takeDay_10 kb_114 ?_
  refine J_bipush hX dX11_takeDay_12 kb_111 ?_
  refine J_bipush hX dX11_takeDay_14 kb_115 ?_
  refine J_cSL hX (C_X11_code hG 102 114 111 115 s14) mw_X11_code ml_X11_179 ⟨Nat.le_of_ble_eq_true rfl, Nat.le_of_ble_eq_true rfl⟩ rfl rfl (Nat.le_of_ble_eq_true rfl) dX11_takeDay_16 (fun q15 => ?_)
  refine J_bipush hX dX11_takeDay_19 kb_116 ?_
  refine J_cSL hX (C_X11_longer hG q15 116 s14) mw_X11_longer ml_X11_183 ⟨Nat.le_of_ble_eq_true rfl, Nat.le_of_ble_eq_true rfl⟩ rfl rfl (Nat.le_of_ble_eq_true rfl) dX11_takeDay_21 (fun q16 => ?_)
  refine J_lcmp hX dX11_takeDay_24 ?_
  refine J_if_eq hX dX11_takeDay_25 (tgt := 38) rfl (fun _ => ?_) (fun _ => ?_)
  · refine J_aload_n hX dX11_takeDay_38 rfl ?_
    refine J_geti hX hE 0 32 rfl rfl fl_X11_230 dX11_takeDay_39 ?_
    refine J_bipush hX dX11_takeDay_42 kb_30 ?_
    refine J_icmp_ne hX dX11_takeDay_44 (tgt := 57) rfl (fun _ => ?_) (fun _ => ?_)
    · refine J_aload_n hX dX11_takeDay_57 rfl ?_
      refine J_aload_n hX dX11_takeDay_58 rfl ?_
      refine J_geti hX hE 0 23 rfl rfl fl_X11_134 dX11_takeDay_59 ?_
      refine J_puti hX hE 0 21 rfl rfl fp_X11_124 dX11_takeDay_62 ?_
      refine J_bdS (fun s17 => ?_)
      refine J_aload_n hX dX11_takeDay_65 rfl ?_
      refine J_aload_n hX dX11_takeDay_66 rfl ?_
      refine J_getr hX hE 0 33 rfl rfl fl_X11_56 dX11_takeDay_67 ?_
      refine J_aload_n hX dX11_takeDay_70 rfl ?_
      refine J_geti hX hE 0 32 rfl rfl fl_X11_230 dX11_takeDay_71 ?_
      refine J_iconst hX dX11_takeDay_74 k_i0 ?_
      refine J_bipush hX dX11_takeDay_75 kb_9 ?_
      refine J_cVI hX hE 0 (C_X11_into hG (hE.sb [0, 1, 2, 3, 4, 5, 6, 7, 8, 9, 10, 11, 12, 13, 14, 15, 16, 17, 18, 19, 20, 21, 22, 23, 24, 25, 26, 12] sb_125) (g_i s17 (nm 0) 32) 0 9 s17) mw_X11_into ml_X11_169 rfl rfl rfl ⟨Nat.le_of_ble_eq_true rfl, Nat.le_of_ble_eq_true rfl⟩ rfl rfl (Nat.le_of_ble_eq_true rfl) dX11_takeDay_77 (fun q18 s19 => ?_)
      refine J_istore_n hX dX11_takeDay_80 (Nat.le_of_ble_eq_true rfl) (lv' := [(0, .ref (jad G (nm 0))), (1, .int q18)]) rfl ?_
      refine J_aload_n hX dX11_takeDay_81 rfl ?_
      refine J_dup hX dX11_takeDay_82 rfl ?_
      refine J_geti hX hE 0 32 rfl rfl fl_X11_230 dX11_takeDay_83 ?_
      refine J_iconst hX dX11_takeDay_86 k_i1 ?_
      refine J_iadd hX dX11_takeDay_87 ?_
      refine J_puti hX hE 0 32 rfl rfl fp_X11_230 dX11_takeDay_88 ?_
      refine J_bdS (fun s20 => ?_)
      refine J_iload_n hX dX11_takeDay_91 rfl ?_
      refine J_if_le hX dX11_takeDay_92 (tgt := 99) rfl (fun _ => ?_) (fun _ => ?_)
      · refine J_aload_n hX dX11_takeDay_99 rfl ?_
        refine J_cVI hX hE 0 (C_X11_takeStop hG hE s20) mw_X11_takeStop ml_X11_200 rfl rfl rfl ⟨Nat.le_of_ble_eq_true rfl, Nat.le_of_ble_eq_true rfl⟩ rfl rfl (Nat.le_of_ble_eq_true rfl) dX11_takeDay_100 (fun q21 s22 => ?_)
        exact J_iret hX hM dX11_takeDay_103
      · refine J_iload_n hX dX11_takeDay_95 rfl ?_
        refine J_goto hX dX11_takeDay_96 (tgt := 103) rfl ?_
        exact J_iret hX hM dX11_takeDay_103
    · refine J_aload_n hX dX11_takeDay_47 rfl ?_
      refine J_iconst hX dX11_takeDay_48 k_i3 ?_
      refine J_aload_n hX dX11_takeDay_49 rfl ?_
      refine J_geti hX hE 0 21 rfl rfl fl_X11_124 dX11_takeDay_50 ?_
      refine J_cVI hX hE 0 (C_X11_fails hG hE 3 (g_i s14 (nm 0) 21) s14) mw_X11_fails ml_X11_153 rfl rfl rfl ⟨Nat.le_of_ble_eq_true rfl, Nat.le_of_ble_eq_true rfl⟩ rfl rfl (Nat.le_of_ble_eq_true rfl) dX11_takeDay_53 (fun q23 s24 => ?_)
      exact J_iret hX hM dX11_takeDay_56
  · refine J_aload_n hX dX11_takeDay_28 rfl ?_
    refine J_iconst hX dX11_takeDay_29 k_i1 ?_
    refine J_aload_n hX dX11_takeDay_30 rfl ?_
    refine J_geti hX hE 0 21 rfl rfl fl_X11_124 dX11_takeDay_31 ?_
    refine J_cVI hX hE 0 (C_X11_fails hG hE 1 (g_i s14 (nm 0) 21) s14) mw_X11_fails ml_X11_153 rfl rfl rfl ⟨Nat.le_of_ble_eq_true rfl, Nat.le_of_ble_eq_true rfl⟩ rfl rfl (Nat.le_of_ble_eq_true rfl) dX11_takeDay_34 (fun q25 s26 => ?_)
    exact J_iret hX hM dX11_takeDay_37
theorem mw_X11_takeDay : jMV Y_X11_takeDay 0 := ⟨⟨tw_tb (List.mem_of_getElem? (i := 1289) (by decide +kernel)) (by decide +kernel), tw_pv (List.mem_of_getElem? (i := 46) (by decide +kernel)) (by decide +kernel), tw_tb (List.mem_of_getElem? (i := 13) (by decide +kernel)) (by decide +kernel), tw_tb (List.mem_of_getElem? (i := 1290) (by decide +kernel)) (by decide +kernel)⟩, ⟨rfl, rfl⟩, by decide +kernel, by decide +kernel, by decide +kernel⟩
-- X11_month
noncomputable def f_X11_month_L31 (nm : Nat → Nat) (s : (Int32 × jS)) : Option ((Int32 × jS) ⊕ (Int32 × jS)) :=
  match s with
  | (v1, σ) =>
    if v1 = 0 then
      (f_X11_here nm σ).bind (fun x => match x with
      | (q4, s5) =>
        if q4 < 0 then
          some (.inr (v1, s5))
        else
          (f_X11_takeDay nm s5).bind (fun x => match x with
          | (q6, s7) =>
            some (.inl (q6, s7))))
    else
      some (.inr (v1, σ))
noncomputable def f_X11_month_L74 (nm : Nat → Nat) (s : (Int32 × jS)) : Option ((Int32 × jS) ⊕ jS) :=
  match s with
  | (v2, σ) =>
    if 30 ≤ v2 then
      some (.inr σ)
    else
      gd (vp_in v2 90) (
        gd (vp_in v2 30) (bd (s_i σ (nm 7) v2.toNatClampNeg (g_i σ (nm 12) v2.toNatClampNeg)) (fun s12 =>
          some (.inl (v2 + 1, s12)))))
noncomputable def f_X11_month_J50 (nm : Nat → Nat) (v1 : Int32) (σ : jS) : Option (Int32 × jS) :=
  bd (s_i σ (nm 0) 19 0) (fun s10 =>
    if v1 ≤ 0 then
      bd (s_i s10 (nm 0) 12 (g_i s10 (nm 0) 32)) (fun s11 =>
        (lp (f_X11_month_L74 nm) fu (0, s11)).bind (fun s13 =>
          some (g_i s13 (nm 0) 12, s13)))
    else
      some ((-10) - v1, s10))
noncomputable def f_X11_month (nm : Nat → Nat) (σ : jS) : Option (Int32 × jS) :=
  if (g_i σ (nm 0) 19) ≤ 200 then
    bd (s_i σ (nm 0) 20 (-1)) (fun s1 =>
      bd (s_i s1 (nm 0) 21 0) (fun s2 =>
        bd (s_i s2 (nm 0) 32 0) (fun s3 =>
          (lp (f_X11_month_L31 nm) fu (0, s3)).bind (fun x => match x with
          | (e8, s9) =>
            f_X11_month_J50 nm e8 s9))))
  else
    some ((-1003), σ)
abbrev Y_X11_month : jY := (yX11_month, cX11_month, 3, some .int, { frames := 4, cells := 0, slots := 0, locals := 94 })
theorem C_X11_month {l : Launch} {G : jG} {nm : Nat → Nat} (hG : jWL G) (hE : jE G nm LS_X11) (σ : jS) : jC r_I l G Y_X11_month [.ref (jad G (nm 0))] σ (f_X11_month nm σ) := by
  refine jw_met hG pn_X11 (Nat.le_of_ble_eq_true rfl) ⟨rfl, rfl⟩ ?_
  intro X hX hM
  have hX : jB X l G cX11_month RX11 3 { frames := 4, cells := 0, slots := 0, locals := 94 } := hX
  have hM : jM X (some .int) := hM
  show J X 0 [(0, .ref (jad G (nm 0)))] [] σ (f_X11_month nm σ) (jk r_I X)
  have hJ50 : ∀ (v1 : Int32) (σ : jS), J X 50 [(0, .ref (jad G (nm 0))), (1, .int v1)] [] σ (f_X11_month_J50 nm v1 σ) (jk r_I X) := by
    intro v1 σ
    unfold f_X11_month_J50
    refine J_aload_n hX dX11_month_50 rfl ?_
    refine J_iconst hX dX11_month_51 k_i0 ?_
    refine J_puti hX hE 0 19 rfl rfl fp_X11_119 dX11_month_52 ?_
    refine J_bdS (fun s14 => ?_)
    refine J_iload_n hX dX11_month_55 rfl ?_
    refine J_if_le hX dX11_month_56 (tgt := 64) rfl (fun _ => ?_) (fun _ => ?_)
    · refine J_aload_n hX dX11_month_64 rfl ?_
      refine J_aload_n hX dX11_month_65 rfl ?_
      refine J_geti hX hE 0 32 rfl rfl fl_X11_230 dX11_month_66 ?_
      refine J_puti hX hE 0 12 rfl rfl fp_X11_239 dX11_month_69 ?_
      refine J_bdS (fun s15 => ?_)
      refine J_iconst hX dX11_month_72 k_i0 ?_
      refine J_istore_n hX dX11_month_73 (Nat.le_of_ble_eq_true rfl) (lv' := [(0, .ref (jad G (nm 0))), (1, .int v1), (2, .int 0)]) rfl ?_
      refine J_keep [0, 2] (lv' := [(0, .ref (jad G (nm 0))), (2, .int 0)]) rfl ?_
      refine J_lp (pc := 74) (s0 := (0, s15)) (fun (s : (Int32 × jS)) => [(0, .ref (jad G (nm 0))), (2, .int (s.1))]) (fun (s : (Int32 × jS)) => s.2) ?_
      intro KK74 hN74 hQ74 z74
      obtain ⟨v2_74, σ_74⟩ := z74
      show J X 74 [(0, .ref (jad G (nm 0))), (2, .int v2_74)] [] σ_74 (f_X11_month_L74 nm (v2_74, σ_74)) KK74
      unfold f_X11_month_L74
      refine J_iload_n hX dX11_month_74 rfl ?_
      refine J_bipush hX dX11_month_75 kb_30 ?_
      refine J_icmp_ge hX dX11_month_77 (tgt := 98) rfl (fun _ => ?_) (fun _ => ?_)
      · refine hQ74 _ _ _ _ _ ?_
        refine J_aload_n hX dX11_month_98 rfl ?_
        refine J_geti hX hE 0 12 rfl rfl fl_X11_239 dX11_month_99 ?_
        exact J_iret hX hM dX11_month_102
      · refine J_aload_n hX dX11_month_80 rfl ?_
        refine J_getr hX hE 0 13 rfl rfl fl_X11_38 dX11_month_81 ?_
        refine J_iload_n hX dX11_month_84 rfl ?_
        refine J_aload_n hX dX11_month_85 rfl ?_
        refine J_getr hX hE 0 33 rfl rfl fl_X11_56 dX11_month_86 ?_
        refine J_iload_n hX dX11_month_89 rfl ?_
        refine J_iald hX hE 12 rfl dX11_month_90 (fun _ => ?_)
        refine J_iast hX hE 7 rfl dX11_month_91 (fun _ => ?_)
        refine J_bdS (fun s16 => ?_)
        refine J_iinc hX dX11_month_92 rfl (congrArg (_ + ·) k_i1) (Nat.le_of_ble_eq_true rfl) (lv' := [(0, .ref (jad G (nm 0))), (2, .int (v2_74 + 1))]) rfl ?_
        refine J_goto hX dX11_month_95 (tgt := 74) rfl ?_
        exact J_keep [0, 1] rfl (hN74 (v2_74 + 1, s16))
    · refine J_bipush hX dX11_month_59 kb_m10 ?_
      refine J_iload_n hX dX11_month_61 rfl ?_
      refine J_isub hX dX11_month_62 ?_
      exact J_iret hX hM dX11_month_63
  unfold f_X11_month
  refine J_aload_n hX dX11_month_0 rfl ?_
  refine J_geti hX hE 0 19 rfl rfl fl_X11_119 dX11_month_1 ?_
  refine J_sipush hX dX11_month_4 ks_200 ?_
  refine J_icmp_le hX dX11_month_7 (tgt := 14) rfl (fun _ => ?_) (fun _ => ?_)
  · refine J_aload_n hX dX11_month_14 rfl ?_
    refine J_iconst hX dX11_month_15 k_im1 ?_
    refine J_puti hX hE 0 20 rfl rfl fp_X11_44 dX11_month_16 ?_
    refine J_bdS (fun s17 => ?_)
    refine J_aload_n hX dX11_month_19 rfl ?_
    refine J_iconst hX dX11_month_20 k_i0 ?_
    refine J_puti hX hE 0 21 rfl rfl fp_X11_124 dX11_month_21 ?_
    refine J_bdS (fun s18 => ?_)
    refine J_aload_n hX dX11_month_24 rfl ?_
    refine J_iconst hX dX11_month_25 k_i0 ?_
    refine J_puti hX hE 0 32 rfl rfl fp_X11_230 dX11_month_26 ?_
    refine J_bdS (fun s19 => ?_)
    refine J_iconst hX dX11_month_29 k_i0 ?_
    refine J_istore_n hX dX11_month_30 (Nat.le_of_ble_eq_true rfl) (lv' := [(0, .ref (jad G (nm 0))), (1, .int 0)]) rfl ?_
    refine J_keep [0, 1] (lv' := [(0, .ref (jad G (nm 0))), (1, .int 0)]) rfl ?_
    refine J_lp (pc := 31) (s0 := (0, s19)) (fun (s : (Int32 × jS)) => [(0, .ref (jad G (nm 0))), (1, .int (s.1))]) (fun (s : (Int32 × jS)) => s.2) ?_
    intro KK31 hN31 hQ31 z31
    obtain ⟨v1_31, σ_31⟩ := z31
    show J X 31 [(0, .ref (jad G (nm 0))), (1, .int v1_31)] [] σ_31 (f_X11_month_L31 nm (v1_31, σ_31)) KK31
    unfold f_X11_month_L31
    refine J_iload_n hX dX11_month_31 rfl ?_
    refine J_if_ne hX dX11_month_32 (tgt := 50) rfl (fun _ => ?_) (fun _ => ?_)
    · refine hQ31 _ _ _ _ _ ?_
      exact J_keep [0, 1] rfl (hJ50 v1_31 σ_31)
    · refine J_aload_n hX dX11_month_35 rfl ?_
      refine J_cVI hX hE 0 (C_X11_here hG hE σ_31) mw_X11_here ml_X11_127 rfl rfl rfl ⟨Nat.le_of_ble_eq_true rfl, Nat.le_of_ble_eq_true rfl⟩ rfl rfl (Nat.le_of_ble_eq_true rfl) dX11_month_36 (fun q20 s21 => ?_)
      refine J_if_lt hX dX11_month_39 (tgt := 50) rfl (fun _ => ?_) (fun _ => ?_)
      · refine hQ31 _ _ _ _ _ ?_
        exact J_keep [0, 1] rfl (hJ50 v1_31 s21)
      · refine J_aload_n hX dX11_month_42 rfl ?_
        refine J_cVI hX hE 0 (C_X11_takeDay hG hE s21) mw_X11_takeDay ml_X11_236 rfl rfl rfl ⟨Nat.le_of_ble_eq_true rfl, Nat.le_of_ble_eq_true rfl⟩ rfl rfl (Nat.le_of_ble_eq_true rfl) dX11_month_43 (fun q22 s23 => ?_)
        refine J_istore_n hX dX11_month_46 (Nat.le_of_ble_eq_true rfl) (lv' := [(0, .ref (jad G (nm 0))), (1, .int q22)]) rfl ?_
        refine J_goto hX dX11_month_47 (tgt := 31) rfl ?_
        exact J_keep [0, 1] rfl (hN31 (q22, s23))
  · refine J_sipush hX dX11_month_10 ks_m1003 ?_
    exact J_iret hX hM dX11_month_13
theorem mw_X11_month : jMV Y_X11_month 0 := ⟨⟨tw_tb (List.mem_of_getElem? (i := 1284) (by decide +kernel)) (by decide +kernel), tw_tb (List.mem_of_getElem? (i := 1285) (by decide +kernel)) (by decide +kernel), tw_tb (List.mem_of_getElem? (i := 13) (by decide +kernel)) (by decide +kernel), tw_tb (List.mem_of_getElem? (i := 1286) (by decide +kernel)) (by decide +kernel)⟩, ⟨rfl, rfl⟩, by decide +kernel, by decide +kernel, by decide +kernel⟩
-- X11_takeSong
noncomputable def f_X11_takeSong_J119 (nm : Nat → Nat) (v1 : Int32) (v2 : Int32) (σ : jS) : Option (Int32 × jS) :=
  some (v2, σ)
noncomputable def f_X11_takeSong_J147 (nm : Nat → Nat) (v1 : Int32) (t0 : Int32) (σ : jS) : Option (Int32 × jS) :=
  if t0 ≤ 0 then
    gd (vp_in (v1 + 1) 90) (
      gd (vp_in ((4 * (g_i σ (nm 12) (v1 + 1).toNatClampNeg)) + 2) 32) (
        gd (vp_in (v1 + 1) 90) (
          gd (vp_in ((4 * (g_i σ (nm 12) (v1 + 1).toNatClampNeg)) + 3) 32) (
            (f_X11_into (jn nm [0, 1, 2, 3, 4, 5, 6, 7, 8, 9, 10, 11, 12, 13, 14, 15, 16, 17, 18, 19, 20, 21, 22, 23, 24, 25, 26, 12]) 90 (v1 + 2) (g_i σ (nm 5) ((4 * (g_i σ (nm 12) (v1 + 1).toNatClampNeg)) + 2).toNatClampNeg) (g_i σ (nm 5) ((4 * (g_i σ (nm 12) (v1 + 1).toNatClampNeg)) + 3).toNatClampNeg) σ).bind (fun x => match x with
            | (q15, s16) =>
              bd (s_i s16 (nm 0) 32 ((g_i s16 (nm 0) 32) + 1)) (fun s17 =>
                if q15 ≤ 0 then
                  (f_X11_takeStop nm s17).bind (fun x => match x with
                  | (q18, s19) =>
                    some (q18, s19))
                else
                  some (q15, s17)))))))
  else
    some (t0, σ)
noncomputable def f_X11_takeSong_J120 (nm : Nat → Nat) (v1 : Int32) (t0 : Int32) (σ : jS) : Option (Int32 × jS) :=
  (if t0 ≤ 0 then
    (f_X11_into (jn nm [0, 1, 2, 3, 4, 5, 6, 7, 8, 9, 10, 11, 12, 13, 14, 15, 16, 17, 18, 19, 20, 21, 22, 23, 24, 25, 26, 12]) 90 (v1 + 1) 0 ((g_i σ (nm 0) 8) - 1) σ).bind (fun x => match x with
    | (q11, s12) =>
      some (q11, s12))
  else
    some (t0, σ)).bind (fun x => match x with
  | (y13, s14) =>
    f_X11_takeSong_J147 nm v1 y13 s14)
noncomputable def f_X11_takeSong (nm : Nat → Nat) (σ : jS) : Option (Int32 × jS) :=
  (f_X11_readWord nm σ).bind (fun s1 =>
    (f_X11_code 115 105 110 103).bind (fun q2 =>
      if (lg_cmp (g_l s1 (nm 0) 22) q2) = 0 then
        if (g_i s1 (nm 0) 32) = 30 then
          (f_X11_fails nm 3 (g_i s1 (nm 0) 21) s1).bind (fun x => match x with
          | (q20, s21) =>
            some (q20, s21))
        else
          bd (s_i s1 (nm 0) 21 (g_i s1 (nm 0) 23)) (fun s3 =>
            bd (3 * (g_i s3 (nm 0) 32)) (fun x4 =>
              (f_X11_into (jn nm [0, 1, 2, 3, 4, 5, 6, 7, 8, 9, 10, 11, 12, 13, 14, 15, 16, 17, 18, 19, 20, 21, 22, 23, 24, 25, 26, 12]) 90 x4 0 599 s3).bind (fun x => match x with
              | (q5, s6) =>
                (if q5 = 0 then
                  if (g_i s6 (nm 0) 32) ≤ 0 then
                    f_X11_takeSong_J119 nm x4 q5 s6
                  else
                    gd (vp_in (x4 - 3) 90) (
                      if (g_i s6 (nm 12) (x4 - 3).toNatClampNeg) ≤ (g_i s6 (nm 0) 24) then
                        f_X11_takeSong_J119 nm x4 q5 s6
                      else
                        (f_X11_fails nm 4 (g_i s6 (nm 0) 25) s6).bind (fun x => match x with
                        | (q7, s8) =>
                          some (q7, s8)))
                else
                  f_X11_takeSong_J119 nm x4 q5 s6).bind (fun x => match x with
                | (y9, s10) =>
                  f_X11_takeSong_J120 nm x4 y9 s10))))
      else
        (f_X11_fails nm 1 (g_i s1 (nm 0) 21) s1).bind (fun x => match x with
        | (q22, s23) =>
          some (q22, s23))))
abbrev Y_X11_takeSong : jY := (yX11_takeSong, cX11_takeSong, 3, some .int, { frames := 3, cells := 0, slots := 0, locals := 73 })
theorem C_X11_takeSong {l : Launch} {G : jG} {nm : Nat → Nat} (hG : jWL G) (hE : jE G nm LS_X11) (σ : jS) : jC r_I l G Y_X11_takeSong [.ref (jad G (nm 0))] σ (f_X11_takeSong nm σ) := by
  refine jw_met hG pn_X11 (Nat.le_of_ble_eq_true rfl) ⟨rfl, rfl⟩ ?_
  intro X hX hM
  have hX : jB X l G cX11_takeSong RX11 3 { frames := 3, cells := 0, slots := 0, locals := 73 } := hX
  have hM : jM X (some .int) := hM
  show J X 0 [(0, .ref (jad G (nm 0)))] [] σ (f_X11_takeSong nm σ) (jk r_I X)
  have hJ147 : ∀ (v1 : Int32) (t0 : Int32) (σ : jS), J X 147 [(0, .ref (jad G (nm 0))), (1, .int v1)] [.int t0] σ (f_X11_takeSong_J147 nm v1 t0 σ) (jk r_I X) := by
    intro v1 t0 σ
    unfold f_X11_takeSong_J147
    refine J_istore_n hX dX11_takeSong_147 (Nat.le_of_ble_eq_true rfl) (lv' := [(0, .ref (jad G (nm 0))), (1, .int v1), (2, .int t0)]) rfl ?_
    refine J_iload_n hX dX11_takeSong_148 rfl ?_
    refine J_if_le hX dX11_takeSong_149 (tgt := 154) rfl (fun _ => ?_) (fun _ => ?_)
    · refine J_aload_n hX dX11_takeSong_154 rfl ?_
      refine J_aload_n hX dX11_takeSong_155 rfl ?_
      refine J_getr hX hE 0 33 rfl rfl fl_X11_56 dX11_takeSong_156 ?_
      refine J_iload_n hX dX11_takeSong_159 rfl ?_
      refine J_iconst hX dX11_takeSong_160 k_i2 ?_
      refine J_iadd hX dX11_takeSong_161 ?_
      refine J_aload_n hX dX11_takeSong_162 rfl ?_
      refine J_getr hX hE 0 9 rfl rfl fl_X11_32 dX11_takeSong_163 ?_
      refine J_iconst hX dX11_takeSong_166 k_i4 ?_
      refine J_aload_n hX dX11_takeSong_167 rfl ?_
      refine J_getr hX hE 0 33 rfl rfl fl_X11_56 dX11_takeSong_168 ?_
      refine J_iload_n hX dX11_takeSong_171 rfl ?_
      refine J_iconst hX dX11_takeSong_172 k_i1 ?_
      refine J_iadd hX dX11_takeSong_173 ?_
      refine J_iald hX hE 12 rfl dX11_takeSong_174 (fun _ => ?_)
      refine J_imul hX dX11_takeSong_175 ?_
      refine J_iconst hX dX11_takeSong_176 k_i2 ?_
      refine J_iadd hX dX11_takeSong_177 ?_
      refine J_iald hX hE 5 rfl dX11_takeSong_178 (fun _ => ?_)
      refine J_aload_n hX dX11_takeSong_179 rfl ?_
      refine J_getr hX hE 0 9 rfl rfl fl_X11_32 dX11_takeSong_180 ?_
      refine J_iconst hX dX11_takeSong_183 k_i4 ?_
      refine J_aload_n hX dX11_takeSong_184 rfl ?_
      refine J_getr hX hE 0 33 rfl rfl fl_X11_56 dX11_takeSong_185 ?_
      refine J_iload_n hX dX11_takeSong_188 rfl ?_
      refine J_iconst hX dX11_takeSong_189 k_i1 ?_
      refine J_iadd hX dX11_takeSong_190 ?_
      refine J_iald hX hE 12 rfl dX11_takeSong_191 (fun _ => ?_)
      refine J_imul hX dX11_takeSong_192 ?_
      refine J_iconst hX dX11_takeSong_193 k_i3 ?_
      refine J_iadd hX dX11_takeSong_194 ?_
      refine J_iald hX hE 5 rfl dX11_takeSong_195 (fun _ => ?_)
      refine J_cVI hX hE 0 (C_X11_into hG (hE.sb [0, 1, 2, 3, 4, 5, 6, 7, 8, 9, 10, 11, 12, 13, 14, 15, 16, 17, 18, 19, 20, 21, 22, 23, 24, 25, 26, 12] sb_125) (v1 + 2) (g_i σ (nm 5) ((4 * (g_i σ (nm 12) (v1 + 1).toNatClampNeg)) + 2).toNatClampNeg) (g_i σ (nm 5) ((4 * (g_i σ (nm 12) (v1 + 1).toNatClampNeg)) + 3).toNatClampNeg) σ) mw_X11_into ml_X11_169 rfl rfl rfl ⟨Nat.le_of_ble_eq_true rfl, Nat.le_of_ble_eq_true rfl⟩ rfl rfl (Nat.le_of_ble_eq_true rfl) dX11_takeSong_196 (fun q24 s25 => ?_)
      refine J_istore_n hX dX11_takeSong_199 (Nat.le_of_ble_eq_true rfl) (lv' := [(0, .ref (jad G (nm 0))), (1, .int v1), (2, .int q24)]) rfl ?_
      refine J_aload_n hX dX11_takeSong_200 rfl ?_
      refine J_dup hX dX11_takeSong_201 rfl ?_
      refine J_geti hX hE 0 32 rfl rfl fl_X11_230 dX11_takeSong_202 ?_
      refine J_iconst hX dX11_takeSong_205 k_i1 ?_
      refine J_iadd hX dX11_takeSong_206 ?_
      refine J_puti hX hE 0 32 rfl rfl fp_X11_230 dX11_takeSong_207 ?_
      refine J_bdS (fun s26 => ?_)
      refine J_iload_n hX dX11_takeSong_210 rfl ?_
      refine J_if_le hX dX11_takeSong_211 (tgt := 218) rfl (fun _ => ?_) (fun _ => ?_)
      · refine J_aload_n hX dX11_takeSong_218 rfl ?_
        refine J_cVI hX hE 0 (C_X11_takeStop hG hE s26) mw_X11_takeStop ml_X11_200 rfl rfl rfl ⟨Nat.le_of_ble_eq_true rfl, Nat.le_of_ble_eq_true rfl⟩ rfl rfl (Nat.le_of_ble_eq_true rfl) dX11_takeSong_219 (fun q27 s28 => ?_)
        exact J_iret hX hM dX11_takeSong_222
      · refine J_iload_n hX dX11_takeSong_214 rfl ?_
        refine J_goto hX dX11_takeSong_215 (tgt := 222) rfl ?_
        exact J_iret hX hM dX11_takeSong_222
    · refine J_iload_n hX dX11_takeSong_152 rfl ?_
      exact J_iret hX hM dX11_takeSong_153
  have hJ120 : ∀ (v1 : Int32) (t0 : Int32) (σ : jS), J X 120 [(0, .ref (jad G (nm 0))), (1, .int v1)] [.int t0] σ (f_X11_takeSong_J120 nm v1 t0 σ) (jk r_I X) := by
    intro v1 t0 σ
    unfold f_X11_takeSong_J120
    refine J_istore_n hX dX11_takeSong_120 (Nat.le_of_ble_eq_true rfl) (lv' := [(0, .ref (jad G (nm 0))), (1, .int v1), (2, .int t0)]) rfl ?_
    refine J_iload_n hX dX11_takeSong_121 rfl ?_
    refine J_blk ?_
    intro KB122 hB122
    refine J_if_le hX dX11_takeSong_122 (tgt := 129) rfl (fun _ => ?_) (fun _ => ?_)
    · refine J_aload_n hX dX11_takeSong_129 rfl ?_
      refine J_aload_n hX dX11_takeSong_130 rfl ?_
      refine J_getr hX hE 0 33 rfl rfl fl_X11_56 dX11_takeSong_131 ?_
      refine J_iload_n hX dX11_takeSong_134 rfl ?_
      refine J_iconst hX dX11_takeSong_135 k_i1 ?_
      refine J_iadd hX dX11_takeSong_136 ?_
      refine J_iconst hX dX11_takeSong_137 k_i0 ?_
      refine J_aload_n hX dX11_takeSong_138 rfl ?_
      refine J_geti hX hE 0 8 rfl rfl fl_X11_206 dX11_takeSong_139 ?_
      refine J_iconst hX dX11_takeSong_142 k_i1 ?_
      refine J_isub hX dX11_takeSong_143 ?_
      refine J_cVI hX hE 0 (C_X11_into hG (hE.sb [0, 1, 2, 3, 4, 5, 6, 7, 8, 9, 10, 11, 12, 13, 14, 15, 16, 17, 18, 19, 20, 21, 22, 23, 24, 25, 26, 12] sb_125) (v1 + 1) 0 ((g_i σ (nm 0) 8) - 1) σ) mw_X11_into ml_X11_169 rfl rfl rfl ⟨Nat.le_of_ble_eq_true rfl, Nat.le_of_ble_eq_true rfl⟩ rfl rfl (Nat.le_of_ble_eq_true rfl) dX11_takeSong_144 (fun q29 s30 => ?_)
      refine hB122 _ _ _ _ _ ?_
      exact J_keep [0, 1] rfl (hJ147 v1 q29 s30)
    · refine J_iload_n hX dX11_takeSong_125 rfl ?_
      refine J_goto hX dX11_takeSong_126 (tgt := 147) rfl ?_
      refine hB122 _ _ _ _ _ ?_
      exact J_keep [0, 1] rfl (hJ147 v1 t0 σ)
  unfold f_X11_takeSong
  refine J_aload_n hX dX11_takeSong_0 rfl ?_
  refine J_cVV hX hE 0 (C_X11_readWord hG hE σ) mw_X11_readWord ml_X11_176 rfl rfl rfl ⟨Nat.le_of_ble_eq_true rfl, Nat.le_of_ble_eq_true rfl⟩ rfl rfl (Nat.le_of_ble_eq_true rfl) dX11_takeSong_1 (fun s31 => ?_)
  refine J_aload_n hX dX11_takeSong_4 rfl ?_
  refine J_getl hX hE 0 22 rfl rfl fl_X11_130 dX11_takeSong_5 ?_
  refine J_bipush hX dX11_takeSong_8 kb_115 ?_
  refine J_bipush hX dX11_takeSong_10 kb_105 ?_
  refine J_bipush hX dX11_takeSong_12 kb_110 ?_
  refine J_bipush hX dX11_takeSong_14 kb_103 ?_
  refine J_cSL hX (C_X11_code hG 115 105 110 103 s31) mw_X11_code ml_X11_179 ⟨Nat.le_of_ble_eq_true rfl, Nat.le_of_ble_eq_true rfl⟩ rfl rfl (Nat.le_of_ble_eq_true rfl) dX11_takeSong_16 (fun q32 => ?_)
  refine J_lcmp hX dX11_takeSong_19 ?_
  refine J_if_eq hX dX11_takeSong_20 (tgt := 33) rfl (fun _ => ?_) (fun _ => ?_)
  · refine J_aload_n hX dX11_takeSong_33 rfl ?_
    refine J_geti hX hE 0 32 rfl rfl fl_X11_230 dX11_takeSong_34 ?_
    refine J_bipush hX dX11_takeSong_37 kb_30 ?_
    refine J_icmp_ne hX dX11_takeSong_39 (tgt := 52) rfl (fun _ => ?_) (fun _ => ?_)
    · refine J_aload_n hX dX11_takeSong_52 rfl ?_
      refine J_aload_n hX dX11_takeSong_53 rfl ?_
      refine J_geti hX hE 0 23 rfl rfl fl_X11_134 dX11_takeSong_54 ?_
      refine J_puti hX hE 0 21 rfl rfl fp_X11_124 dX11_takeSong_57 ?_
      refine J_bdS (fun s33 => ?_)
      refine J_iconst hX dX11_takeSong_60 k_i3 ?_
      refine J_aload_n hX dX11_takeSong_61 rfl ?_
      refine J_geti hX hE 0 32 rfl rfl fl_X11_230 dX11_takeSong_62 ?_
      refine J_imul hX dX11_takeSong_65 ?_
      refine J_bdI (fun x34 => ?_)
      refine J_istore_n hX dX11_takeSong_66 (Nat.le_of_ble_eq_true rfl) (lv' := [(0, .ref (jad G (nm 0))), (1, .int x34)]) rfl ?_
      refine J_aload_n hX dX11_takeSong_67 rfl ?_
      refine J_aload_n hX dX11_takeSong_68 rfl ?_
      refine J_getr hX hE 0 33 rfl rfl fl_X11_56 dX11_takeSong_69 ?_
      refine J_iload_n hX dX11_takeSong_72 rfl ?_
      refine J_iconst hX dX11_takeSong_73 k_i0 ?_
      refine J_sipush hX dX11_takeSong_74 ks_599 ?_
      refine J_cVI hX hE 0 (C_X11_into hG (hE.sb [0, 1, 2, 3, 4, 5, 6, 7, 8, 9, 10, 11, 12, 13, 14, 15, 16, 17, 18, 19, 20, 21, 22, 23, 24, 25, 26, 12] sb_125) x34 0 599 s33) mw_X11_into ml_X11_169 rfl rfl rfl ⟨Nat.le_of_ble_eq_true rfl, Nat.le_of_ble_eq_true rfl⟩ rfl rfl (Nat.le_of_ble_eq_true rfl) dX11_takeSong_77 (fun q35 s36 => ?_)
      refine J_istore_n hX dX11_takeSong_80 (Nat.le_of_ble_eq_true rfl) (lv' := [(0, .ref (jad G (nm 0))), (1, .int x34), (2, .int q35)]) rfl ?_
      refine J_iload_n hX dX11_takeSong_81 rfl ?_
      refine J_blk ?_
      intro KB82 hB82
      have hJ119 : ∀ (σ_j119 : jS), J X 119 [(0, .ref (jad G (nm 0))), (1, .int x34), (2, .int q35)] [] σ_j119 (f_X11_takeSong_J119 nm x34 q35 σ_j119) KB82 := by
        intro σ_j119
        unfold f_X11_takeSong_J119
        refine J_iload_n hX dX11_takeSong_119 rfl ?_
        refine hB82 _ _ _ _ _ ?_
        exact J_keep [0, 1] rfl (hJ120 x34 q35 σ_j119)
      refine J_if_ne hX dX11_takeSong_82 (tgt := 119) rfl (fun _ => ?_) (fun _ => ?_)
      · exact J_keep [0, 1, 2] rfl (hJ119 s36)
      · refine J_aload_n hX dX11_takeSong_85 rfl ?_
        refine J_geti hX hE 0 32 rfl rfl fl_X11_230 dX11_takeSong_86 ?_
        refine J_if_le hX dX11_takeSong_89 (tgt := 119) rfl (fun _ => ?_) (fun _ => ?_)
        · exact J_keep [0, 1, 2] rfl (hJ119 s36)
        · refine J_aload_n hX dX11_takeSong_92 rfl ?_
          refine J_geti hX hE 0 24 rfl rfl fl_X11_160 dX11_takeSong_93 ?_
          refine J_aload_n hX dX11_takeSong_96 rfl ?_
          refine J_getr hX hE 0 33 rfl rfl fl_X11_56 dX11_takeSong_97 ?_
          refine J_iload_n hX dX11_takeSong_100 rfl ?_
          refine J_iconst hX dX11_takeSong_101 k_i3 ?_
          refine J_isub hX dX11_takeSong_102 ?_
          refine J_iald hX hE 12 rfl dX11_takeSong_103 (fun _ => ?_)
          refine J_icmp_ge hX dX11_takeSong_104 (tgt := 119) rfl (fun _ => ?_) (fun _ => ?_)
          · exact J_keep [0, 1, 2] rfl (hJ119 s36)
          · refine J_aload_n hX dX11_takeSong_107 rfl ?_
            refine J_iconst hX dX11_takeSong_108 k_i4 ?_
            refine J_aload_n hX dX11_takeSong_109 rfl ?_
            refine J_geti hX hE 0 25 rfl rfl fl_X11_157 dX11_takeSong_110 ?_
            refine J_cVI hX hE 0 (C_X11_fails hG hE 4 (g_i s36 (nm 0) 25) s36) mw_X11_fails ml_X11_153 rfl rfl rfl ⟨Nat.le_of_ble_eq_true rfl, Nat.le_of_ble_eq_true rfl⟩ rfl rfl (Nat.le_of_ble_eq_true rfl) dX11_takeSong_113 (fun q37 s38 => ?_)
            refine J_goto hX dX11_takeSong_116 (tgt := 120) rfl ?_
            refine hB82 _ _ _ _ _ ?_
            exact J_keep [0, 1] rfl (hJ120 x34 q37 s38)
    · refine J_aload_n hX dX11_takeSong_42 rfl ?_
      refine J_iconst hX dX11_takeSong_43 k_i3 ?_
      refine J_aload_n hX dX11_takeSong_44 rfl ?_
      refine J_geti hX hE 0 21 rfl rfl fl_X11_124 dX11_takeSong_45 ?_
      refine J_cVI hX hE 0 (C_X11_fails hG hE 3 (g_i s31 (nm 0) 21) s31) mw_X11_fails ml_X11_153 rfl rfl rfl ⟨Nat.le_of_ble_eq_true rfl, Nat.le_of_ble_eq_true rfl⟩ rfl rfl (Nat.le_of_ble_eq_true rfl) dX11_takeSong_48 (fun q39 s40 => ?_)
      exact J_iret hX hM dX11_takeSong_51
  · refine J_aload_n hX dX11_takeSong_23 rfl ?_
    refine J_iconst hX dX11_takeSong_24 k_i1 ?_
    refine J_aload_n hX dX11_takeSong_25 rfl ?_
    refine J_geti hX hE 0 21 rfl rfl fl_X11_124 dX11_takeSong_26 ?_
    refine J_cVI hX hE 0 (C_X11_fails hG hE 1 (g_i s31 (nm 0) 21) s31) mw_X11_fails ml_X11_153 rfl rfl rfl ⟨Nat.le_of_ble_eq_true rfl, Nat.le_of_ble_eq_true rfl⟩ rfl rfl (Nat.le_of_ble_eq_true rfl) dX11_takeSong_29 (fun q41 s42 => ?_)
    exact J_iret hX hM dX11_takeSong_32
theorem mw_X11_takeSong : jMV Y_X11_takeSong 0 := ⟨⟨tw_tb (List.mem_of_getElem? (i := 1281) (by decide +kernel)) (by decide +kernel), tw_pv (List.mem_of_getElem? (i := 45) (by decide +kernel)) (by decide +kernel), tw_tb (List.mem_of_getElem? (i := 13) (by decide +kernel)) (by decide +kernel), tw_tb (List.mem_of_getElem? (i := 1282) (by decide +kernel)) (by decide +kernel)⟩, ⟨rfl, rfl⟩, by decide +kernel, by decide +kernel, by decide +kernel⟩
-- X11_night
noncomputable def f_X11_night_L17 (nm : Nat → Nat) (s : (Int32 × jS)) : Option ((Int32 × jS) ⊕ (Int32 × jS)) :=
  match s with
  | (v1, σ) =>
    if v1 = 0 then
      (f_X11_here nm σ).bind (fun x => match x with
      | (q4, s5) =>
        if q4 < 0 then
          some (.inr (v1, s5))
        else
          (f_X11_takeSong nm s5).bind (fun x => match x with
          | (q6, s7) =>
            some (.inl (q6, s7))))
    else
      some (.inr (v1, σ))
noncomputable def f_X11_night_L60 (nm : Nat → Nat) (s : (Int32 × jS)) : Option ((Int32 × jS) ⊕ jS) :=
  match s with
  | (v2, σ) =>
    if 90 ≤ v2 then
      some (.inr σ)
    else
      gd (vp_in v2 90) (
        gd (vp_in v2 90) (bd (s_i σ (nm 6) v2.toNatClampNeg (g_i σ (nm 12) v2.toNatClampNeg)) (fun s12 =>
          some (.inl (v2 + 1, s12)))))
noncomputable def f_X11_night_J36 (nm : Nat → Nat) (v1 : Int32) (σ : jS) : Option (Int32 × jS) :=
  bd (s_i σ (nm 0) 19 0) (fun s10 =>
    if v1 ≤ 0 then
      bd (s_i s10 (nm 0) 10 (g_i s10 (nm 0) 32)) (fun s11 =>
        (lp (f_X11_night_L60 nm) fu (0, s11)).bind (fun s13 =>
          some (g_i s13 (nm 0) 10, s13)))
    else
      some ((-10) - v1, s10))
noncomputable def f_X11_night (nm : Nat → Nat) (σ : jS) : Option (Int32 × jS) :=
  bd (s_i σ (nm 0) 20 (-1)) (fun s1 =>
    bd (s_i s1 (nm 0) 21 0) (fun s2 =>
      bd (s_i s2 (nm 0) 32 0) (fun s3 =>
        (lp (f_X11_night_L17 nm) fu (0, s3)).bind (fun x => match x with
        | (e8, s9) =>
          f_X11_night_J36 nm e8 s9))))
abbrev Y_X11_night : jY := (yX11_night, cX11_night, 3, some .int, { frames := 4, cells := 0, slots := 0, locals := 95 })
theorem C_X11_night {l : Launch} {G : jG} {nm : Nat → Nat} (hG : jWL G) (hE : jE G nm LS_X11) (σ : jS) : jC r_I l G Y_X11_night [.ref (jad G (nm 0))] σ (f_X11_night nm σ) := by
  refine jw_met hG pn_X11 (Nat.le_of_ble_eq_true rfl) ⟨rfl, rfl⟩ ?_
  intro X hX hM
  have hX : jB X l G cX11_night RX11 3 { frames := 4, cells := 0, slots := 0, locals := 95 } := hX
  have hM : jM X (some .int) := hM
  show J X 0 [(0, .ref (jad G (nm 0)))] [] σ (f_X11_night nm σ) (jk r_I X)
  have hJ36 : ∀ (v1 : Int32) (σ : jS), J X 36 [(0, .ref (jad G (nm 0))), (1, .int v1)] [] σ (f_X11_night_J36 nm v1 σ) (jk r_I X) := by
    intro v1 σ
    unfold f_X11_night_J36
    refine J_aload_n hX dX11_night_36 rfl ?_
    refine J_iconst hX dX11_night_37 k_i0 ?_
    refine J_puti hX hE 0 19 rfl rfl fp_X11_119 dX11_night_38 ?_
    refine J_bdS (fun s14 => ?_)
    refine J_iload_n hX dX11_night_41 rfl ?_
    refine J_if_le hX dX11_night_42 (tgt := 50) rfl (fun _ => ?_) (fun _ => ?_)
    · refine J_aload_n hX dX11_night_50 rfl ?_
      refine J_aload_n hX dX11_night_51 rfl ?_
      refine J_geti hX hE 0 32 rfl rfl fl_X11_230 dX11_night_52 ?_
      refine J_puti hX hE 0 10 rfl rfl fp_X11_209 dX11_night_55 ?_
      refine J_bdS (fun s15 => ?_)
      refine J_iconst hX dX11_night_58 k_i0 ?_
      refine J_istore_n hX dX11_night_59 (Nat.le_of_ble_eq_true rfl) (lv' := [(0, .ref (jad G (nm 0))), (1, .int v1), (2, .int 0)]) rfl ?_
      refine J_keep [0, 2] (lv' := [(0, .ref (jad G (nm 0))), (2, .int 0)]) rfl ?_
      refine J_lp (pc := 60) (s0 := (0, s15)) (fun (s : (Int32 × jS)) => [(0, .ref (jad G (nm 0))), (2, .int (s.1))]) (fun (s : (Int32 × jS)) => s.2) ?_
      intro KK60 hN60 hQ60 z60
      obtain ⟨v2_60, σ_60⟩ := z60
      show J X 60 [(0, .ref (jad G (nm 0))), (2, .int v2_60)] [] σ_60 (f_X11_night_L60 nm (v2_60, σ_60)) KK60
      unfold f_X11_night_L60
      refine J_iload_n hX dX11_night_60 rfl ?_
      refine J_bipush hX dX11_night_61 kb_90 ?_
      refine J_icmp_ge hX dX11_night_63 (tgt := 84) rfl (fun _ => ?_) (fun _ => ?_)
      · refine hQ60 _ _ _ _ _ ?_
        refine J_aload_n hX dX11_night_84 rfl ?_
        refine J_geti hX hE 0 10 rfl rfl fl_X11_209 dX11_night_85 ?_
        exact J_iret hX hM dX11_night_88
      · refine J_aload_n hX dX11_night_66 rfl ?_
        refine J_getr hX hE 0 11 rfl rfl fl_X11_35 dX11_night_67 ?_
        refine J_iload_n hX dX11_night_70 rfl ?_
        refine J_aload_n hX dX11_night_71 rfl ?_
        refine J_getr hX hE 0 33 rfl rfl fl_X11_56 dX11_night_72 ?_
        refine J_iload_n hX dX11_night_75 rfl ?_
        refine J_iald hX hE 12 rfl dX11_night_76 (fun _ => ?_)
        refine J_iast hX hE 6 rfl dX11_night_77 (fun _ => ?_)
        refine J_bdS (fun s16 => ?_)
        refine J_iinc hX dX11_night_78 rfl (congrArg (_ + ·) k_i1) (Nat.le_of_ble_eq_true rfl) (lv' := [(0, .ref (jad G (nm 0))), (2, .int (v2_60 + 1))]) rfl ?_
        refine J_goto hX dX11_night_81 (tgt := 60) rfl ?_
        exact J_keep [0, 1] rfl (hN60 (v2_60 + 1, s16))
    · refine J_bipush hX dX11_night_45 kb_m10 ?_
      refine J_iload_n hX dX11_night_47 rfl ?_
      refine J_isub hX dX11_night_48 ?_
      exact J_iret hX hM dX11_night_49
  unfold f_X11_night
  refine J_aload_n hX dX11_night_0 rfl ?_
  refine J_iconst hX dX11_night_1 k_im1 ?_
  refine J_puti hX hE 0 20 rfl rfl fp_X11_44 dX11_night_2 ?_
  refine J_bdS (fun s17 => ?_)
  refine J_aload_n hX dX11_night_5 rfl ?_
  refine J_iconst hX dX11_night_6 k_i0 ?_
  refine J_puti hX hE 0 21 rfl rfl fp_X11_124 dX11_night_7 ?_
  refine J_bdS (fun s18 => ?_)
  refine J_aload_n hX dX11_night_10 rfl ?_
  refine J_iconst hX dX11_night_11 k_i0 ?_
  refine J_puti hX hE 0 32 rfl rfl fp_X11_230 dX11_night_12 ?_
  refine J_bdS (fun s19 => ?_)
  refine J_iconst hX dX11_night_15 k_i0 ?_
  refine J_istore_n hX dX11_night_16 (Nat.le_of_ble_eq_true rfl) (lv' := [(0, .ref (jad G (nm 0))), (1, .int 0)]) rfl ?_
  refine J_keep [0, 1] (lv' := [(0, .ref (jad G (nm 0))), (1, .int 0)]) rfl ?_
  refine J_lp (pc := 17) (s0 := (0, s19)) (fun (s : (Int32 × jS)) => [(0, .ref (jad G (nm 0))), (1, .int (s.1))]) (fun (s : (Int32 × jS)) => s.2) ?_
  intro KK17 hN17 hQ17 z17
  obtain ⟨v1_17, σ_17⟩ := z17
  show J X 17 [(0, .ref (jad G (nm 0))), (1, .int v1_17)] [] σ_17 (f_X11_night_L17 nm (v1_17, σ_17)) KK17
  unfold f_X11_night_L17
  refine J_iload_n hX dX11_night_17 rfl ?_
  refine J_if_ne hX dX11_night_18 (tgt := 36) rfl (fun _ => ?_) (fun _ => ?_)
  · refine hQ17 _ _ _ _ _ ?_
    exact J_keep [0, 1] rfl (hJ36 v1_17 σ_17)
  · refine J_aload_n hX dX11_night_21 rfl ?_
    refine J_cVI hX hE 0 (C_X11_here hG hE σ_17) mw_X11_here ml_X11_127 rfl rfl rfl ⟨Nat.le_of_ble_eq_true rfl, Nat.le_of_ble_eq_true rfl⟩ rfl rfl (Nat.le_of_ble_eq_true rfl) dX11_night_22 (fun q20 s21 => ?_)
    refine J_if_lt hX dX11_night_25 (tgt := 36) rfl (fun _ => ?_) (fun _ => ?_)
    · refine hQ17 _ _ _ _ _ ?_
      exact J_keep [0, 1] rfl (hJ36 v1_17 s21)
    · refine J_aload_n hX dX11_night_28 rfl ?_
      refine J_cVI hX hE 0 (C_X11_takeSong hG hE s21) mw_X11_takeSong ml_X11_233 rfl rfl rfl ⟨Nat.le_of_ble_eq_true rfl, Nat.le_of_ble_eq_true rfl⟩ rfl rfl (Nat.le_of_ble_eq_true rfl) dX11_night_29 (fun q22 s23 => ?_)
      refine J_istore_n hX dX11_night_32 (Nat.le_of_ble_eq_true rfl) (lv' := [(0, .ref (jad G (nm 0))), (1, .int q22)]) rfl ?_
      refine J_goto hX dX11_night_33 (tgt := 17) rfl ?_
      exact J_keep [0, 1] rfl (hN17 (q22, s23))
theorem mw_X11_night : jMV Y_X11_night 0 := ⟨⟨tw_tb (List.mem_of_getElem? (i := 1276) (by decide +kernel)) (by decide +kernel), tw_tb (List.mem_of_getElem? (i := 1277) (by decide +kernel)) (by decide +kernel), tw_tb (List.mem_of_getElem? (i := 13) (by decide +kernel)) (by decide +kernel), tw_tb (List.mem_of_getElem? (i := 1278) (by decide +kernel)) (by decide +kernel)⟩, ⟨rfl, rfl⟩, by decide +kernel, by decide +kernel, by decide +kernel⟩
-- X11_takeLamp
noncomputable def f_X11_takeLamp_J75 (nm : Nat → Nat) (v1 : Int32) (t0 : Int32) (σ : jS) : Option (Int32 × jS) :=
  if t0 ≤ 0 then
    (f_X11_into (jn nm [0, 1, 2, 3, 4, 5, 6, 7, 8, 9, 10, 11, 12, 13, 14, 15, 16, 17, 18, 19, 20, 21, 22, 23, 24, 25, 26, 9]) 40 (v1 + 3) 0 5 σ).bind (fun x => match x with
    | (q13, s14) =>
      some (q13, s14))
  else
    some (t0, σ)
noncomputable def f_X11_takeLamp_J52 (nm : Nat → Nat) (v1 : Int32) (t0 : Int32) (σ : jS) : Option (Int32 × jS) :=
  (if t0 ≤ 0 then
    (f_X11_into (jn nm [0, 1, 2, 3, 4, 5, 6, 7, 8, 9, 10, 11, 12, 13, 14, 15, 16, 17, 18, 19, 20, 21, 22, 23, 24, 25, 26, 9]) 40 (v1 + 2) 0 9 σ).bind (fun x => match x with
    | (q9, s10) =>
      some (q9, s10))
  else
    some (t0, σ)).bind (fun x => match x with
  | (y11, s12) =>
    f_X11_takeLamp_J75 nm v1 y11 s12)
noncomputable def f_X11_takeLamp (nm : Nat → Nat) (σ : jS) : Option (Int32 × jS) :=
  bd (4 * (g_i σ (nm 0) 26)) (fun x1 =>
    bd (s_i σ (nm 0) 26 ((g_i σ (nm 0) 26) + 1)) (fun s2 =>
      (f_X11_into (jn nm [0, 1, 2, 3, 4, 5, 6, 7, 8, 9, 10, 11, 12, 13, 14, 15, 16, 17, 18, 19, 20, 21, 22, 23, 24, 25, 26, 9]) 40 x1 0 49 s2).bind (fun x => match x with
      | (q3, s4) =>
        (if q3 ≤ 0 then
          (f_X11_into (jn nm [0, 1, 2, 3, 4, 5, 6, 7, 8, 9, 10, 11, 12, 13, 14, 15, 16, 17, 18, 19, 20, 21, 22, 23, 24, 25, 26, 9]) 40 (x1 + 1) 0 63 s4).bind (fun x => match x with
          | (q5, s6) =>
            some (q5, s6))
        else
          some (q3, s4)).bind (fun x => match x with
        | (y7, s8) =>
          f_X11_takeLamp_J52 nm x1 y7 s8))))
abbrev Y_X11_takeLamp : jY := (yX11_takeLamp, cX11_takeLamp, 3, some .int, { frames := 3, cells := 0, slots := 0, locals := 73 })
theorem C_X11_takeLamp {l : Launch} {G : jG} {nm : Nat → Nat} (hG : jWL G) (hE : jE G nm LS_X11) (σ : jS) : jC r_I l G Y_X11_takeLamp [.ref (jad G (nm 0))] σ (f_X11_takeLamp nm σ) := by
  refine jw_met hG pn_X11 (Nat.le_of_ble_eq_true rfl) ⟨rfl, rfl⟩ ?_
  intro X hX hM
  have hX : jB X l G cX11_takeLamp RX11 3 { frames := 3, cells := 0, slots := 0, locals := 73 } := hX
  have hM : jM X (some .int) := hM
  show J X 0 [(0, .ref (jad G (nm 0)))] [] σ (f_X11_takeLamp nm σ) (jk r_I X)
  have hJ75 : ∀ (v1 : Int32) (t0 : Int32) (σ : jS), J X 75 [(0, .ref (jad G (nm 0))), (1, .int v1)] [.int t0] σ (f_X11_takeLamp_J75 nm v1 t0 σ) (jk r_I X) := by
    intro v1 t0 σ
    unfold f_X11_takeLamp_J75
    refine J_istore_n hX dX11_takeLamp_75 (Nat.le_of_ble_eq_true rfl) (lv' := [(0, .ref (jad G (nm 0))), (1, .int v1), (2, .int t0)]) rfl ?_
    refine J_iload_n hX dX11_takeLamp_76 rfl ?_
    refine J_if_le hX dX11_takeLamp_77 (tgt := 84) rfl (fun _ => ?_) (fun _ => ?_)
    · refine J_aload_n hX dX11_takeLamp_84 rfl ?_
      refine J_aload_n hX dX11_takeLamp_85 rfl ?_
      refine J_getr hX hE 0 27 rfl rfl fl_X11_47 dX11_takeLamp_86 ?_
      refine J_iload_n hX dX11_takeLamp_89 rfl ?_
      refine J_iconst hX dX11_takeLamp_90 k_i3 ?_
      refine J_iadd hX dX11_takeLamp_91 ?_
      refine J_iconst hX dX11_takeLamp_92 k_i0 ?_
      refine J_iconst hX dX11_takeLamp_93 k_i5 ?_
      refine J_cVI hX hE 0 (C_X11_into hG (hE.sb [0, 1, 2, 3, 4, 5, 6, 7, 8, 9, 10, 11, 12, 13, 14, 15, 16, 17, 18, 19, 20, 21, 22, 23, 24, 25, 26, 9] sb_126) (v1 + 3) 0 5 σ) mw_X11_into ml_X11_169 rfl rfl rfl ⟨Nat.le_of_ble_eq_true rfl, Nat.le_of_ble_eq_true rfl⟩ rfl rfl (Nat.le_of_ble_eq_true rfl) dX11_takeLamp_94 (fun q15 s16 => ?_)
      exact J_iret hX hM dX11_takeLamp_97
    · refine J_iload_n hX dX11_takeLamp_80 rfl ?_
      refine J_goto hX dX11_takeLamp_81 (tgt := 97) rfl ?_
      exact J_iret hX hM dX11_takeLamp_97
  have hJ52 : ∀ (v1 : Int32) (t0 : Int32) (σ : jS), J X 52 [(0, .ref (jad G (nm 0))), (1, .int v1)] [.int t0] σ (f_X11_takeLamp_J52 nm v1 t0 σ) (jk r_I X) := by
    intro v1 t0 σ
    unfold f_X11_takeLamp_J52
    refine J_istore_n hX dX11_takeLamp_52 (Nat.le_of_ble_eq_true rfl) (lv' := [(0, .ref (jad G (nm 0))), (1, .int v1), (2, .int t0)]) rfl ?_
    refine J_iload_n hX dX11_takeLamp_53 rfl ?_
    refine J_blk ?_
    intro KB54 hB54
    refine J_if_le hX dX11_takeLamp_54 (tgt := 61) rfl (fun _ => ?_) (fun _ => ?_)
    · refine J_aload_n hX dX11_takeLamp_61 rfl ?_
      refine J_aload_n hX dX11_takeLamp_62 rfl ?_
      refine J_getr hX hE 0 27 rfl rfl fl_X11_47 dX11_takeLamp_63 ?_
      refine J_iload_n hX dX11_takeLamp_66 rfl ?_
      refine J_iconst hX dX11_takeLamp_67 k_i2 ?_
      refine J_iadd hX dX11_takeLamp_68 ?_
      refine J_iconst hX dX11_takeLamp_69 k_i0 ?_
      refine J_bipush hX dX11_takeLamp_70 kb_9 ?_
      refine J_cVI hX hE 0 (C_X11_into hG (hE.sb [0, 1, 2, 3, 4, 5, 6, 7, 8, 9, 10, 11, 12, 13, 14, 15, 16, 17, 18, 19, 20, 21, 22, 23, 24, 25, 26, 9] sb_126) (v1 + 2) 0 9 σ) mw_X11_into ml_X11_169 rfl rfl rfl ⟨Nat.le_of_ble_eq_true rfl, Nat.le_of_ble_eq_true rfl⟩ rfl rfl (Nat.le_of_ble_eq_true rfl) dX11_takeLamp_72 (fun q17 s18 => ?_)
      refine hB54 _ _ _ _ _ ?_
      exact J_keep [0, 1] rfl (hJ75 v1 q17 s18)
    · refine J_iload_n hX dX11_takeLamp_57 rfl ?_
      refine J_goto hX dX11_takeLamp_58 (tgt := 75) rfl ?_
      refine hB54 _ _ _ _ _ ?_
      exact J_keep [0, 1] rfl (hJ75 v1 t0 σ)
  unfold f_X11_takeLamp
  refine J_iconst hX dX11_takeLamp_0 k_i4 ?_
  refine J_aload_n hX dX11_takeLamp_1 rfl ?_
  refine J_geti hX hE 0 26 rfl rfl fl_X11_166 dX11_takeLamp_2 ?_
  refine J_imul hX dX11_takeLamp_5 ?_
  refine J_bdI (fun x19 => ?_)
  refine J_istore_n hX dX11_takeLamp_6 (Nat.le_of_ble_eq_true rfl) (lv' := [(0, .ref (jad G (nm 0))), (1, .int x19)]) rfl ?_
  refine J_aload_n hX dX11_takeLamp_7 rfl ?_
  refine J_dup hX dX11_takeLamp_8 rfl ?_
  refine J_geti hX hE 0 26 rfl rfl fl_X11_166 dX11_takeLamp_9 ?_
  refine J_iconst hX dX11_takeLamp_12 k_i1 ?_
  refine J_iadd hX dX11_takeLamp_13 ?_
  refine J_puti hX hE 0 26 rfl rfl fp_X11_166 dX11_takeLamp_14 ?_
  refine J_bdS (fun s20 => ?_)
  refine J_aload_n hX dX11_takeLamp_17 rfl ?_
  refine J_aload_n hX dX11_takeLamp_18 rfl ?_
  refine J_getr hX hE 0 27 rfl rfl fl_X11_47 dX11_takeLamp_19 ?_
  refine J_iload_n hX dX11_takeLamp_22 rfl ?_
  refine J_iconst hX dX11_takeLamp_23 k_i0 ?_
  refine J_bipush hX dX11_takeLamp_24 kb_49 ?_
  refine J_cVI hX hE 0 (C_X11_into hG (hE.sb [0, 1, 2, 3, 4, 5, 6, 7, 8, 9, 10, 11, 12, 13, 14, 15, 16, 17, 18, 19, 20, 21, 22, 23, 24, 25, 26, 9] sb_126) x19 0 49 s20) mw_X11_into ml_X11_169 rfl rfl rfl ⟨Nat.le_of_ble_eq_true rfl, Nat.le_of_ble_eq_true rfl⟩ rfl rfl (Nat.le_of_ble_eq_true rfl) dX11_takeLamp_26 (fun q21 s22 => ?_)
  refine J_istore_n hX dX11_takeLamp_29 (Nat.le_of_ble_eq_true rfl) (lv' := [(0, .ref (jad G (nm 0))), (1, .int x19), (2, .int q21)]) rfl ?_
  refine J_iload_n hX dX11_takeLamp_30 rfl ?_
  refine J_blk ?_
  intro KB31 hB31
  refine J_if_le hX dX11_takeLamp_31 (tgt := 38) rfl (fun _ => ?_) (fun _ => ?_)
  · refine J_aload_n hX dX11_takeLamp_38 rfl ?_
    refine J_aload_n hX dX11_takeLamp_39 rfl ?_
    refine J_getr hX hE 0 27 rfl rfl fl_X11_47 dX11_takeLamp_40 ?_
    refine J_iload_n hX dX11_takeLamp_43 rfl ?_
    refine J_iconst hX dX11_takeLamp_44 k_i1 ?_
    refine J_iadd hX dX11_takeLamp_45 ?_
    refine J_iconst hX dX11_takeLamp_46 k_i0 ?_
    refine J_bipush hX dX11_takeLamp_47 kb_63 ?_
    refine J_cVI hX hE 0 (C_X11_into hG (hE.sb [0, 1, 2, 3, 4, 5, 6, 7, 8, 9, 10, 11, 12, 13, 14, 15, 16, 17, 18, 19, 20, 21, 22, 23, 24, 25, 26, 9] sb_126) (x19 + 1) 0 63 s22) mw_X11_into ml_X11_169 rfl rfl rfl ⟨Nat.le_of_ble_eq_true rfl, Nat.le_of_ble_eq_true rfl⟩ rfl rfl (Nat.le_of_ble_eq_true rfl) dX11_takeLamp_49 (fun q23 s24 => ?_)
    refine hB31 _ _ _ _ _ ?_
    exact J_keep [0, 1] rfl (hJ52 x19 q23 s24)
  · refine J_iload_n hX dX11_takeLamp_34 rfl ?_
    refine J_goto hX dX11_takeLamp_35 (tgt := 52) rfl ?_
    refine hB31 _ _ _ _ _ ?_
    exact J_keep [0, 1] rfl (hJ52 x19 q21 s22)
theorem mw_X11_takeLamp : jMV Y_X11_takeLamp 0 := ⟨⟨tw_tb (List.mem_of_getElem? (i := 1251) (by decide +kernel)) (by decide +kernel), tw_pv (List.mem_of_getElem? (i := 39) (by decide +kernel)) (by decide +kernel), tw_tb (List.mem_of_getElem? (i := 13) (by decide +kernel)) (by decide +kernel), tw_tb (List.mem_of_getElem? (i := 1252) (by decide +kernel)) (by decide +kernel)⟩, ⟨rfl, rfl⟩, by decide +kernel, by decide +kernel, by decide +kernel⟩
-- X11_takeSinger
noncomputable def f_X11_takeSinger_J75 (nm : Nat → Nat) (v1 : Int32) (t0 : Int32) (σ : jS) : Option (Int32 × jS) :=
  if t0 ≤ 0 then
    gd (vp_in (v1 + 2) 32) (
      (f_X11_into (jn nm [0, 1, 2, 3, 4, 5, 6, 7, 8, 9, 10, 11, 12, 13, 14, 15, 16, 17, 18, 19, 20, 21, 22, 23, 24, 25, 26, 10]) 32 (v1 + 3) (g_i σ (nm 10) (v1 + 2).toNatClampNeg) 63 σ).bind (fun x => match x with
      | (q13, s14) =>
        some (q13, s14)))
  else
    some (t0, σ)
noncomputable def f_X11_takeSinger_J52 (nm : Nat → Nat) (v1 : Int32) (t0 : Int32) (σ : jS) : Option (Int32 × jS) :=
  (if t0 ≤ 0 then
    (f_X11_into (jn nm [0, 1, 2, 3, 4, 5, 6, 7, 8, 9, 10, 11, 12, 13, 14, 15, 16, 17, 18, 19, 20, 21, 22, 23, 24, 25, 26, 10]) 32 (v1 + 2) 0 63 σ).bind (fun x => match x with
    | (q9, s10) =>
      some (q9, s10))
  else
    some (t0, σ)).bind (fun x => match x with
  | (y11, s12) =>
    f_X11_takeSinger_J75 nm v1 y11 s12)
noncomputable def f_X11_takeSinger (nm : Nat → Nat) (σ : jS) : Option (Int32 × jS) :=
  bd (4 * (g_i σ (nm 0) 28)) (fun x1 =>
    bd (s_i σ (nm 0) 28 ((g_i σ (nm 0) 28) + 1)) (fun s2 =>
      (f_X11_into (jn nm [0, 1, 2, 3, 4, 5, 6, 7, 8, 9, 10, 11, 12, 13, 14, 15, 16, 17, 18, 19, 20, 21, 22, 23, 24, 25, 26, 10]) 32 x1 0 49 s2).bind (fun x => match x with
      | (q3, s4) =>
        (if q3 ≤ 0 then
          (f_X11_into (jn nm [0, 1, 2, 3, 4, 5, 6, 7, 8, 9, 10, 11, 12, 13, 14, 15, 16, 17, 18, 19, 20, 21, 22, 23, 24, 25, 26, 10]) 32 (x1 + 1) 1 50 s4).bind (fun x => match x with
          | (q5, s6) =>
            some (q5, s6))
        else
          some (q3, s4)).bind (fun x => match x with
        | (y7, s8) =>
          f_X11_takeSinger_J52 nm x1 y7 s8))))
abbrev Y_X11_takeSinger : jY := (yX11_takeSinger, cX11_takeSinger, 3, some .int, { frames := 3, cells := 0, slots := 0, locals := 73 })
theorem C_X11_takeSinger {l : Launch} {G : jG} {nm : Nat → Nat} (hG : jWL G) (hE : jE G nm LS_X11) (σ : jS) : jC r_I l G Y_X11_takeSinger [.ref (jad G (nm 0))] σ (f_X11_takeSinger nm σ) := by
  refine jw_met hG pn_X11 (Nat.le_of_ble_eq_true rfl) ⟨rfl, rfl⟩ ?_
  intro X hX hM
  have hX : jB X l G cX11_takeSinger RX11 3 { frames := 3, cells := 0, slots := 0, locals := 73 } := hX
  have hM : jM X (some .int) := hM
  show J X 0 [(0, .ref (jad G (nm 0)))] [] σ (f_X11_takeSinger nm σ) (jk r_I X)
  have hJ75 : ∀ (v1 : Int32) (t0 : Int32) (σ : jS), J X 75 [(0, .ref (jad G (nm 0))), (1, .int v1)] [.int t0] σ (f_X11_takeSinger_J75 nm v1 t0 σ) (jk r_I X) := by
    intro v1 t0 σ
    unfold f_X11_takeSinger_J75
    refine J_istore_n hX dX11_takeSinger_75 (Nat.le_of_ble_eq_true rfl) (lv' := [(0, .ref (jad G (nm 0))), (1, .int v1), (2, .int t0)]) rfl ?_
    refine J_iload_n hX dX11_takeSinger_76 rfl ?_
    refine J_if_le hX dX11_takeSinger_77 (tgt := 84) rfl (fun _ => ?_) (fun _ => ?_)
    · refine J_aload_n hX dX11_takeSinger_84 rfl ?_
      refine J_aload_n hX dX11_takeSinger_85 rfl ?_
      refine J_getr hX hE 0 29 rfl rfl fl_X11_50 dX11_takeSinger_86 ?_
      refine J_iload_n hX dX11_takeSinger_89 rfl ?_
      refine J_iconst hX dX11_takeSinger_90 k_i3 ?_
      refine J_iadd hX dX11_takeSinger_91 ?_
      refine J_aload_n hX dX11_takeSinger_92 rfl ?_
      refine J_getr hX hE 0 29 rfl rfl fl_X11_50 dX11_takeSinger_93 ?_
      refine J_iload_n hX dX11_takeSinger_96 rfl ?_
      refine J_iconst hX dX11_takeSinger_97 k_i2 ?_
      refine J_iadd hX dX11_takeSinger_98 ?_
      refine J_iald hX hE 10 rfl dX11_takeSinger_99 (fun _ => ?_)
      refine J_bipush hX dX11_takeSinger_100 kb_63 ?_
      refine J_cVI hX hE 0 (C_X11_into hG (hE.sb [0, 1, 2, 3, 4, 5, 6, 7, 8, 9, 10, 11, 12, 13, 14, 15, 16, 17, 18, 19, 20, 21, 22, 23, 24, 25, 26, 10] sb_127) (v1 + 3) (g_i σ (nm 10) (v1 + 2).toNatClampNeg) 63 σ) mw_X11_into ml_X11_169 rfl rfl rfl ⟨Nat.le_of_ble_eq_true rfl, Nat.le_of_ble_eq_true rfl⟩ rfl rfl (Nat.le_of_ble_eq_true rfl) dX11_takeSinger_102 (fun q15 s16 => ?_)
      exact J_iret hX hM dX11_takeSinger_105
    · refine J_iload_n hX dX11_takeSinger_80 rfl ?_
      refine J_goto hX dX11_takeSinger_81 (tgt := 105) rfl ?_
      exact J_iret hX hM dX11_takeSinger_105
  have hJ52 : ∀ (v1 : Int32) (t0 : Int32) (σ : jS), J X 52 [(0, .ref (jad G (nm 0))), (1, .int v1)] [.int t0] σ (f_X11_takeSinger_J52 nm v1 t0 σ) (jk r_I X) := by
    intro v1 t0 σ
    unfold f_X11_takeSinger_J52
    refine J_istore_n hX dX11_takeSinger_52 (Nat.le_of_ble_eq_true rfl) (lv' := [(0, .ref (jad G (nm 0))), (1, .int v1), (2, .int t0)]) rfl ?_
    refine J_iload_n hX dX11_takeSinger_53 rfl ?_
    refine J_blk ?_
    intro KB54 hB54
    refine J_if_le hX dX11_takeSinger_54 (tgt := 61) rfl (fun _ => ?_) (fun _ => ?_)
    · refine J_aload_n hX dX11_takeSinger_61 rfl ?_
      refine J_aload_n hX dX11_takeSinger_62 rfl ?_
      refine J_getr hX hE 0 29 rfl rfl fl_X11_50 dX11_takeSinger_63 ?_
      refine J_iload_n hX dX11_takeSinger_66 rfl ?_
      refine J_iconst hX dX11_takeSinger_67 k_i2 ?_
      refine J_iadd hX dX11_takeSinger_68 ?_
      refine J_iconst hX dX11_takeSinger_69 k_i0 ?_
      refine J_bipush hX dX11_takeSinger_70 kb_63 ?_
      refine J_cVI hX hE 0 (C_X11_into hG (hE.sb [0, 1, 2, 3, 4, 5, 6, 7, 8, 9, 10, 11, 12, 13, 14, 15, 16, 17, 18, 19, 20, 21, 22, 23, 24, 25, 26, 10] sb_127) (v1 + 2) 0 63 σ) mw_X11_into ml_X11_169 rfl rfl rfl ⟨Nat.le_of_ble_eq_true rfl, Nat.le_of_ble_eq_true rfl⟩ rfl rfl (Nat.le_of_ble_eq_true rfl) dX11_takeSinger_72 (fun q17 s18 => ?_)
      refine hB54 _ _ _ _ _ ?_
      exact J_keep [0, 1] rfl (hJ75 v1 q17 s18)
    · refine J_iload_n hX dX11_takeSinger_57 rfl ?_
      refine J_goto hX dX11_takeSinger_58 (tgt := 75) rfl ?_
      refine hB54 _ _ _ _ _ ?_
      exact J_keep [0, 1] rfl (hJ75 v1 t0 σ)
  unfold f_X11_takeSinger
  refine J_iconst hX dX11_takeSinger_0 k_i4 ?_
  refine J_aload_n hX dX11_takeSinger_1 rfl ?_
  refine J_geti hX hE 0 28 rfl rfl fl_X11_173 dX11_takeSinger_2 ?_
  refine J_imul hX dX11_takeSinger_5 ?_
  refine J_bdI (fun x19 => ?_)
  refine J_istore_n hX dX11_takeSinger_6 (Nat.le_of_ble_eq_true rfl) (lv' := [(0, .ref (jad G (nm 0))), (1, .int x19)]) rfl ?_
  refine J_aload_n hX dX11_takeSinger_7 rfl ?_
  refine J_dup hX dX11_takeSinger_8 rfl ?_
  refine J_geti hX hE 0 28 rfl rfl fl_X11_173 dX11_takeSinger_9 ?_
  refine J_iconst hX dX11_takeSinger_12 k_i1 ?_
  refine J_iadd hX dX11_takeSinger_13 ?_
  refine J_puti hX hE 0 28 rfl rfl fp_X11_173 dX11_takeSinger_14 ?_
  refine J_bdS (fun s20 => ?_)
  refine J_aload_n hX dX11_takeSinger_17 rfl ?_
  refine J_aload_n hX dX11_takeSinger_18 rfl ?_
  refine J_getr hX hE 0 29 rfl rfl fl_X11_50 dX11_takeSinger_19 ?_
  refine J_iload_n hX dX11_takeSinger_22 rfl ?_
  refine J_iconst hX dX11_takeSinger_23 k_i0 ?_
  refine J_bipush hX dX11_takeSinger_24 kb_49 ?_
  refine J_cVI hX hE 0 (C_X11_into hG (hE.sb [0, 1, 2, 3, 4, 5, 6, 7, 8, 9, 10, 11, 12, 13, 14, 15, 16, 17, 18, 19, 20, 21, 22, 23, 24, 25, 26, 10] sb_127) x19 0 49 s20) mw_X11_into ml_X11_169 rfl rfl rfl ⟨Nat.le_of_ble_eq_true rfl, Nat.le_of_ble_eq_true rfl⟩ rfl rfl (Nat.le_of_ble_eq_true rfl) dX11_takeSinger_26 (fun q21 s22 => ?_)
  refine J_istore_n hX dX11_takeSinger_29 (Nat.le_of_ble_eq_true rfl) (lv' := [(0, .ref (jad G (nm 0))), (1, .int x19), (2, .int q21)]) rfl ?_
  refine J_iload_n hX dX11_takeSinger_30 rfl ?_
  refine J_blk ?_
  intro KB31 hB31
  refine J_if_le hX dX11_takeSinger_31 (tgt := 38) rfl (fun _ => ?_) (fun _ => ?_)
  · refine J_aload_n hX dX11_takeSinger_38 rfl ?_
    refine J_aload_n hX dX11_takeSinger_39 rfl ?_
    refine J_getr hX hE 0 29 rfl rfl fl_X11_50 dX11_takeSinger_40 ?_
    refine J_iload_n hX dX11_takeSinger_43 rfl ?_
    refine J_iconst hX dX11_takeSinger_44 k_i1 ?_
    refine J_iadd hX dX11_takeSinger_45 ?_
    refine J_iconst hX dX11_takeSinger_46 k_i1 ?_
    refine J_bipush hX dX11_takeSinger_47 kb_50 ?_
    refine J_cVI hX hE 0 (C_X11_into hG (hE.sb [0, 1, 2, 3, 4, 5, 6, 7, 8, 9, 10, 11, 12, 13, 14, 15, 16, 17, 18, 19, 20, 21, 22, 23, 24, 25, 26, 10] sb_127) (x19 + 1) 1 50 s22) mw_X11_into ml_X11_169 rfl rfl rfl ⟨Nat.le_of_ble_eq_true rfl, Nat.le_of_ble_eq_true rfl⟩ rfl rfl (Nat.le_of_ble_eq_true rfl) dX11_takeSinger_49 (fun q23 s24 => ?_)
    refine hB31 _ _ _ _ _ ?_
    exact J_keep [0, 1] rfl (hJ52 x19 q23 s24)
  · refine J_iload_n hX dX11_takeSinger_34 rfl ?_
    refine J_goto hX dX11_takeSinger_35 (tgt := 52) rfl ?_
    refine hB31 _ _ _ _ _ ?_
    exact J_keep [0, 1] rfl (hJ52 x19 q21 s22)
theorem mw_X11_takeSinger : jMV Y_X11_takeSinger 0 := ⟨⟨tw_tb (List.mem_of_getElem? (i := 1265) (by decide +kernel)) (by decide +kernel), tw_pv (List.mem_of_getElem? (i := 42) (by decide +kernel)) (by decide +kernel), tw_tb (List.mem_of_getElem? (i := 13) (by decide +kernel)) (by decide +kernel), tw_tb (List.mem_of_getElem? (i := 1266) (by decide +kernel)) (by decide +kernel)⟩, ⟨rfl, rfl⟩, by decide +kernel, by decide +kernel, by decide +kernel⟩
-- X11_takeQuay
noncomputable def f_X11_takeQuay_J267 (nm : Nat → Nat) (t2 : Int32) (t3 : Int32) (t4 : Int32) (σ : jS) : Option (Int32 × jS) :=
  (f_X11_into (jn nm [0, 1, 2, 3, 4, 5, 6, 7, 8, 9, 10, 11, 12, 13, 14, 15, 16, 17, 18, 19, 20, 21, 22, 23, 24, 25, 26, 11]) 3 t2 t3 t4 σ).bind (fun x => match x with
  | (q14, s15) =>
    some (q14, s15))
noncomputable def f_X11_takeQuay_J270 (nm : Nat → Nat) (t0 : Int32) (σ : jS) : Option (Int32 × jS) :=
  if t0 ≤ 0 then
    (f_X11_takeStop nm σ).bind (fun x => match x with
    | (q22, s23) =>
      some (q22, s23))
  else
    some (t0, σ)
noncomputable def f_X11_takeQuay_J203 (nm : Nat → Nat) (v1 : Int32) (σ : jS) : Option (Int32 × jS) :=
  bd (s_i σ (nm 0) 21 (g_i σ (nm 0) 23)) (fun s11 =>
    bd (s_i s11 (nm 0) 31 ((g_i s11 (nm 0) 31) ||| (1 <<< (v1 &&& 31)))) (fun s12 =>
      (if v1 = 0 then
        (f_X11_takeLamp nm s12).bind (fun x => match x with
        | (q18, s19) =>
          some (q18, s19))
      else
        if v1 = 1 then
          (f_X11_takeSinger nm s12).bind (fun x => match x with
          | (q16, s17) =>
            some (q16, s17))
        else
          (if v1 = 4 then
            some 50
          else
            some 99).bind (fun y13 =>
            f_X11_takeQuay_J267 nm (v1 - 2) 1 y13 s12)).bind (fun x => match x with
      | (y20, s21) =>
        f_X11_takeQuay_J270 nm y20 s21)))
noncomputable def f_X11_takeQuay_J193 (nm : Nat → Nat) (σ : jS) : Option (Int32 × jS) :=
  (f_X11_fails nm 3 (g_i σ (nm 0) 21) σ).bind (fun x => match x with
  | (q25, s26) =>
    some (q25, s26))
noncomputable def f_X11_takeQuay_J177 (nm : Nat → Nat) (v1 : Int32) (σ : jS) : Option (Int32 × jS) :=
  if v1 ≤ 1 then
    f_X11_takeQuay_J203 nm v1 σ
  else
    (f_X11_has (g_i σ (nm 0) 31) v1).bind (fun q24 =>
      if q24 = 0 then
        f_X11_takeQuay_J203 nm v1 σ
      else
        f_X11_takeQuay_J193 nm σ)
noncomputable def f_X11_takeQuay_J163 (nm : Nat → Nat) (v1 : Int32) (σ : jS) : Option (Int32 × jS) :=
  if v1 = 1 then
    if (g_i σ (nm 0) 28) = 8 then
      f_X11_takeQuay_J193 nm σ
    else
      f_X11_takeQuay_J177 nm v1 σ
  else
    f_X11_takeQuay_J177 nm v1 σ
noncomputable def f_X11_takeQuay_J135 (nm : Nat → Nat) (t0 : Int32) (σ : jS) : Option (Int32 × jS) :=
  if 0 ≤ t0 then
    if t0 = 0 then
      if (g_i σ (nm 0) 26) = 10 then
        f_X11_takeQuay_J193 nm σ
      else
        f_X11_takeQuay_J163 nm t0 σ
    else
      f_X11_takeQuay_J163 nm t0 σ
  else
    (f_X11_fails nm 1 (g_i σ (nm 0) 21) σ).bind (fun x => match x with
    | (q27, s28) =>
      some (q27, s28))
noncomputable def f_X11_takeQuay (nm : Nat → Nat) (σ : jS) : Option (Int32 × jS) :=
  (f_X11_readWord nm σ).bind (fun s1 =>
    (f_X11_code 108 97 109 112).bind (fun q2 =>
      (if (lg_cmp (g_l s1 (nm 0) 22) q2) = 0 then
        some 0
      else
        (f_X11_code 115 105 110 103).bind (fun q3 =>
          (f_X11_longer q3 101).bind (fun q4 =>
            (f_X11_longer q4 114).bind (fun q5 =>
              if (lg_cmp (g_l s1 (nm 0) 22) q5) = 0 then
                some 1
              else
                (f_X11_code 98 117 114 110).bind (fun q6 =>
                  if (lg_cmp (g_l s1 (nm 0) 22) q6) = 0 then
                    some 2
                  else
                    (f_X11_code 109 111 116 104).bind (fun q7 =>
                      (f_X11_longer q7 115).bind (fun q8 =>
                        if (lg_cmp (g_l s1 (nm 0) 22) q8) = 0 then
                          some 3
                        else
                          (f_X11_code 108 111 117 100).bind (fun q9 =>
                            if (lg_cmp (g_l s1 (nm 0) 22) q9) = 0 then
                              some 4
                            else
                              some (-1))))))))).bind (fun y10 =>
        f_X11_takeQuay_J135 nm y10 s1)))
abbrev Y_X11_takeQuay : jY := (yX11_takeQuay, cX11_takeQuay, 3, some .int, { frames := 4, cells := 0, slots := 0, locals := 95 })
theorem C_X11_takeQuay {l : Launch} {G : jG} {nm : Nat → Nat} (hG : jWL G) (hE : jE G nm LS_X11) (σ : jS) : jC r_I l G Y_X11_takeQuay [.ref (jad G (nm 0))] σ (f_X11_takeQuay nm σ) := by
  refine jw_met hG pn_X11 (Nat.le_of_ble_eq_true rfl) ⟨rfl, rfl⟩ ?_
  intro X hX hM
  have hX : jB X l G cX11_takeQuay RX11 3 { frames := 4, cells := 0, slots := 0, locals := 95 } := hX
  have hM : jM X (some .int) := hM
  show J X 0 [(0, .ref (jad G (nm 0)))] [] σ (f_X11_takeQuay nm σ) (jk r_I X)
  have hJ270 : ∀ (t0 : Int32) (σ : jS), J X 270 [(0, .ref (jad G (nm 0)))] [.int t0] σ (f_X11_takeQuay_J270 nm t0 σ) (jk r_I X) := by
    intro t0 σ
    unfold f_X11_takeQuay_J270
    refine J_istore_n hX dX11_takeQuay_270 (Nat.le_of_ble_eq_true rfl) (lv' := [(0, .ref (jad G (nm 0))), (2, .int t0)]) rfl ?_
    refine J_iload_n hX dX11_takeQuay_271 rfl ?_
    refine J_if_le hX dX11_takeQuay_272 (tgt := 279) rfl (fun _ => ?_) (fun _ => ?_)
    · refine J_aload_n hX dX11_takeQuay_279 rfl ?_
      refine J_cVI hX hE 0 (C_X11_takeStop hG hE σ) mw_X11_takeStop ml_X11_200 rfl rfl rfl ⟨Nat.le_of_ble_eq_true rfl, Nat.le_of_ble_eq_true rfl⟩ rfl rfl (Nat.le_of_ble_eq_true rfl) dX11_takeQuay_280 (fun q29 s30 => ?_)
      exact J_iret hX hM dX11_takeQuay_283
    · refine J_iload_n hX dX11_takeQuay_275 rfl ?_
      refine J_goto hX dX11_takeQuay_276 (tgt := 283) rfl ?_
      exact J_iret hX hM dX11_takeQuay_283
  have hJ203 : ∀ (v1 : Int32) (σ : jS), J X 203 [(0, .ref (jad G (nm 0))), (1, .int v1)] [] σ (f_X11_takeQuay_J203 nm v1 σ) (jk r_I X) := by
    intro v1 σ
    unfold f_X11_takeQuay_J203
    refine J_aload_n hX dX11_takeQuay_203 rfl ?_
    refine J_aload_n hX dX11_takeQuay_204 rfl ?_
    refine J_geti hX hE 0 23 rfl rfl fl_X11_134 dX11_takeQuay_205 ?_
    refine J_puti hX hE 0 21 rfl rfl fp_X11_124 dX11_takeQuay_208 ?_
    refine J_bdS (fun s31 => ?_)
    refine J_aload_n hX dX11_takeQuay_211 rfl ?_
    refine J_dup hX dX11_takeQuay_212 rfl ?_
    refine J_geti hX hE 0 31 rfl rfl fl_X11_187 dX11_takeQuay_213 ?_
    refine J_iconst hX dX11_takeQuay_216 k_i1 ?_
    refine J_iload_n hX dX11_takeQuay_217 rfl ?_
    refine J_ishl hX dX11_takeQuay_218 ?_
    refine J_ior hX dX11_takeQuay_219 ?_
    refine J_puti hX hE 0 31 rfl rfl fp_X11_187 dX11_takeQuay_220 ?_
    refine J_bdS (fun s32 => ?_)
    refine J_iload_n hX dX11_takeQuay_223 rfl ?_
    refine J_blk ?_
    intro KB224 hB224
    have hJ267 : ∀ (t2_j267 : Int32) (t3_j267 : Int32) (t4_j267 : Int32) (σ_j267 : jS), J X 267 [(0, .ref (jad G (nm 0)))] [.int t4_j267, .int t3_j267, .int t2_j267, .ref (jad G (nm 11)), .ref (jad G (nm 0))] σ_j267 (f_X11_takeQuay_J267 nm t2_j267 t3_j267 t4_j267 σ_j267) KB224 := by
      intro t2_j267 t3_j267 t4_j267 σ_j267
      unfold f_X11_takeQuay_J267
      refine J_cVI hX hE 0 (C_X11_into hG (hE.sb [0, 1, 2, 3, 4, 5, 6, 7, 8, 9, 10, 11, 12, 13, 14, 15, 16, 17, 18, 19, 20, 21, 22, 23, 24, 25, 26, 11] sb_128) t2_j267 t3_j267 t4_j267 σ_j267) mw_X11_into ml_X11_169 rfl rfl rfl ⟨Nat.le_of_ble_eq_true rfl, Nat.le_of_ble_eq_true rfl⟩ rfl rfl (Nat.le_of_ble_eq_true rfl) dX11_takeQuay_267 (fun q33 s34 => ?_)
      refine hB224 _ _ _ _ _ ?_
      exact J_keep [0] rfl (hJ270 q33 s34)
    refine J_if_ne hX dX11_takeQuay_224 (tgt := 234) rfl (fun _ => ?_) (fun _ => ?_)
    · refine J_iload_n hX dX11_takeQuay_234 rfl ?_
      refine J_iconst hX dX11_takeQuay_235 k_i1 ?_
      refine J_icmp_ne hX dX11_takeQuay_236 (tgt := 246) rfl (fun _ => ?_) (fun _ => ?_)
      · refine J_aload_n hX dX11_takeQuay_246 rfl ?_
        refine J_aload_n hX dX11_takeQuay_247 rfl ?_
        refine J_getr hX hE 0 30 rfl rfl fl_X11_53 dX11_takeQuay_248 ?_
        refine J_iload_n hX dX11_takeQuay_251 rfl ?_
        refine J_iconst hX dX11_takeQuay_252 k_i2 ?_
        refine J_isub hX dX11_takeQuay_253 ?_
        refine J_iconst hX dX11_takeQuay_254 k_i1 ?_
        refine J_iload_n hX dX11_takeQuay_255 rfl ?_
        refine J_iconst hX dX11_takeQuay_256 k_i4 ?_
        refine J_blk ?_
        intro KB257 hB257
        refine J_icmp_ne hX dX11_takeQuay_257 (tgt := 265) rfl (fun _ => ?_) (fun _ => ?_)
        · refine J_bipush hX dX11_takeQuay_265 kb_99 ?_
          refine hB257 _ _ _ _ _ ?_
          exact J_keep [0] rfl (hJ267 (v1 - 2) 1 99 s32)
        · refine J_bipush hX dX11_takeQuay_260 kb_50 ?_
          refine J_goto hX dX11_takeQuay_262 (tgt := 267) rfl ?_
          refine hB257 _ _ _ _ _ ?_
          exact J_keep [0] rfl (hJ267 (v1 - 2) 1 50 s32)
      · refine J_aload_n hX dX11_takeQuay_239 rfl ?_
        refine J_cVI hX hE 0 (C_X11_takeSinger hG hE s32) mw_X11_takeSinger ml_X11_197 rfl rfl rfl ⟨Nat.le_of_ble_eq_true rfl, Nat.le_of_ble_eq_true rfl⟩ rfl rfl (Nat.le_of_ble_eq_true rfl) dX11_takeQuay_240 (fun q35 s36 => ?_)
        refine J_goto hX dX11_takeQuay_243 (tgt := 270) rfl ?_
        refine hB224 _ _ _ _ _ ?_
        exact J_keep [0] rfl (hJ270 q35 s36)
    · refine J_aload_n hX dX11_takeQuay_227 rfl ?_
      refine J_cVI hX hE 0 (C_X11_takeLamp hG hE s32) mw_X11_takeLamp ml_X11_194 rfl rfl rfl ⟨Nat.le_of_ble_eq_true rfl, Nat.le_of_ble_eq_true rfl⟩ rfl rfl (Nat.le_of_ble_eq_true rfl) dX11_takeQuay_228 (fun q37 s38 => ?_)
      refine J_goto hX dX11_takeQuay_231 (tgt := 270) rfl ?_
      refine hB224 _ _ _ _ _ ?_
      exact J_keep [0] rfl (hJ270 q37 s38)
  have hJ193 : ∀ (σ : jS), J X 193 [(0, .ref (jad G (nm 0)))] [] σ (f_X11_takeQuay_J193 nm σ) (jk r_I X) := by
    intro σ
    unfold f_X11_takeQuay_J193
    refine J_aload_n hX dX11_takeQuay_193 rfl ?_
    refine J_iconst hX dX11_takeQuay_194 k_i3 ?_
    refine J_aload_n hX dX11_takeQuay_195 rfl ?_
    refine J_geti hX hE 0 21 rfl rfl fl_X11_124 dX11_takeQuay_196 ?_
    refine J_cVI hX hE 0 (C_X11_fails hG hE 3 (g_i σ (nm 0) 21) σ) mw_X11_fails ml_X11_153 rfl rfl rfl ⟨Nat.le_of_ble_eq_true rfl, Nat.le_of_ble_eq_true rfl⟩ rfl rfl (Nat.le_of_ble_eq_true rfl) dX11_takeQuay_199 (fun q39 s40 => ?_)
    exact J_iret hX hM dX11_takeQuay_202
  have hJ177 : ∀ (v1 : Int32) (σ : jS), J X 177 [(0, .ref (jad G (nm 0))), (1, .int v1)] [] σ (f_X11_takeQuay_J177 nm v1 σ) (jk r_I X) := by
    intro v1 σ
    unfold f_X11_takeQuay_J177
    refine J_iload_n hX dX11_takeQuay_177 rfl ?_
    refine J_iconst hX dX11_takeQuay_178 k_i1 ?_
    refine J_icmp_le hX dX11_takeQuay_179 (tgt := 203) rfl (fun _ => ?_) (fun _ => ?_)
    · exact J_keep [0, 1] rfl (hJ203 v1 σ)
    · refine J_aload_n hX dX11_takeQuay_182 rfl ?_
      refine J_geti hX hE 0 31 rfl rfl fl_X11_187 dX11_takeQuay_183 ?_
      refine J_iload_n hX dX11_takeQuay_186 rfl ?_
      refine J_cSP hX (C_X11_has hG (g_i σ (nm 0) 31) v1 σ) mw_X11_has ml_X11_190 ⟨Nat.le_of_ble_eq_true rfl, Nat.le_of_ble_eq_true rfl⟩ rfl rfl (Nat.le_of_ble_eq_true rfl) dX11_takeQuay_187 (fun q41 => ?_)
      refine J_if_eq hX dX11_takeQuay_190 (tgt := 203) rfl (fun _ => ?_) (fun _ => ?_)
      · exact J_keep [0, 1] rfl (hJ203 v1 σ)
      · exact J_keep [0] rfl (hJ193 σ)
  have hJ163 : ∀ (v1 : Int32) (σ : jS), J X 163 [(0, .ref (jad G (nm 0))), (1, .int v1)] [] σ (f_X11_takeQuay_J163 nm v1 σ) (jk r_I X) := by
    intro v1 σ
    unfold f_X11_takeQuay_J163
    refine J_iload_n hX dX11_takeQuay_163 rfl ?_
    refine J_iconst hX dX11_takeQuay_164 k_i1 ?_
    refine J_icmp_ne hX dX11_takeQuay_165 (tgt := 177) rfl (fun _ => ?_) (fun _ => ?_)
    · exact J_keep [0, 1] rfl (hJ177 v1 σ)
    · refine J_aload_n hX dX11_takeQuay_168 rfl ?_
      refine J_geti hX hE 0 28 rfl rfl fl_X11_173 dX11_takeQuay_169 ?_
      refine J_bipush hX dX11_takeQuay_172 kb_8 ?_
      refine J_icmp_eq hX dX11_takeQuay_174 (tgt := 193) rfl (fun _ => ?_) (fun _ => ?_)
      · exact J_keep [0] rfl (hJ193 σ)
      · exact J_keep [0, 1] rfl (hJ177 v1 σ)
  have hJ135 : ∀ (t0 : Int32) (σ : jS), J X 135 [(0, .ref (jad G (nm 0)))] [.int t0] σ (f_X11_takeQuay_J135 nm t0 σ) (jk r_I X) := by
    intro t0 σ
    unfold f_X11_takeQuay_J135
    refine J_istore_n hX dX11_takeQuay_135 (Nat.le_of_ble_eq_true rfl) (lv' := [(0, .ref (jad G (nm 0))), (1, .int t0)]) rfl ?_
    refine J_iload_n hX dX11_takeQuay_136 rfl ?_
    refine J_if_ge hX dX11_takeQuay_137 (tgt := 150) rfl (fun _ => ?_) (fun _ => ?_)
    · refine J_iload_n hX dX11_takeQuay_150 rfl ?_
      refine J_if_ne hX dX11_takeQuay_151 (tgt := 163) rfl (fun _ => ?_) (fun _ => ?_)
      · exact J_keep [0, 1] rfl (hJ163 t0 σ)
      · refine J_aload_n hX dX11_takeQuay_154 rfl ?_
        refine J_geti hX hE 0 26 rfl rfl fl_X11_166 dX11_takeQuay_155 ?_
        refine J_bipush hX dX11_takeQuay_158 kb_10 ?_
        refine J_icmp_eq hX dX11_takeQuay_160 (tgt := 193) rfl (fun _ => ?_) (fun _ => ?_)
        · exact J_keep [0] rfl (hJ193 σ)
        · exact J_keep [0, 1] rfl (hJ163 t0 σ)
    · refine J_aload_n hX dX11_takeQuay_140 rfl ?_
      refine J_iconst hX dX11_takeQuay_141 k_i1 ?_
      refine J_aload_n hX dX11_takeQuay_142 rfl ?_
      refine J_geti hX hE 0 21 rfl rfl fl_X11_124 dX11_takeQuay_143 ?_
      refine J_cVI hX hE 0 (C_X11_fails hG hE 1 (g_i σ (nm 0) 21) σ) mw_X11_fails ml_X11_153 rfl rfl rfl ⟨Nat.le_of_ble_eq_true rfl, Nat.le_of_ble_eq_true rfl⟩ rfl rfl (Nat.le_of_ble_eq_true rfl) dX11_takeQuay_146 (fun q42 s43 => ?_)
      exact J_iret hX hM dX11_takeQuay_149
  unfold f_X11_takeQuay
  refine J_aload_n hX dX11_takeQuay_0 rfl ?_
  refine J_cVV hX hE 0 (C_X11_readWord hG hE σ) mw_X11_readWord ml_X11_176 rfl rfl rfl ⟨Nat.le_of_ble_eq_true rfl, Nat.le_of_ble_eq_true rfl⟩ rfl rfl (Nat.le_of_ble_eq_true rfl) dX11_takeQuay_1 (fun s44 => ?_)
  refine J_aload_n hX dX11_takeQuay_4 rfl ?_
  refine J_getl hX hE 0 22 rfl rfl fl_X11_130 dX11_takeQuay_5 ?_
  refine J_bipush hX dX11_takeQuay_8 kb_108 ?_
  refine J_bipush hX dX11_takeQuay_10 kb_97 ?_
  refine J_bipush hX dX11_takeQuay_12 kb_109 ?_
  refine J_bipush hX dX11_takeQuay_14 kb_112 ?_
  refine J_cSL hX (C_X11_code hG 108 97 109 112 s44) mw_X11_code ml_X11_179 ⟨Nat.le_of_ble_eq_true rfl, Nat.le_of_ble_eq_true rfl⟩ rfl rfl (Nat.le_of_ble_eq_true rfl) dX11_takeQuay_16 (fun q45 => ?_)
  refine J_lcmp hX dX11_takeQuay_19 ?_
  refine J_blk ?_
  intro KB20 hB20
  refine J_if_ne hX dX11_takeQuay_20 (tgt := 27) rfl (fun _ => ?_) (fun _ => ?_)
  · refine J_aload_n hX dX11_takeQuay_27 rfl ?_
    refine J_getl hX hE 0 22 rfl rfl fl_X11_130 dX11_takeQuay_28 ?_
    refine J_bipush hX dX11_takeQuay_31 kb_115 ?_
    refine J_bipush hX dX11_takeQuay_33 kb_105 ?_
    refine J_bipush hX dX11_takeQuay_35 kb_110 ?_
    refine J_bipush hX dX11_takeQuay_37 kb_103 ?_
    refine J_cSL hX (C_X11_code hG 115 105 110 103 s44) mw_X11_code ml_X11_179 ⟨Nat.le_of_ble_eq_true rfl, Nat.le_of_ble_eq_true rfl⟩ rfl rfl (Nat.le_of_ble_eq_true rfl) dX11_takeQuay_39 (fun q46 => ?_)
    refine J_bipush hX dX11_takeQuay_42 kb_101 ?_
    refine J_cSL hX (C_X11_longer hG q46 101 s44) mw_X11_longer ml_X11_183 ⟨Nat.le_of_ble_eq_true rfl, Nat.le_of_ble_eq_true rfl⟩ rfl rfl (Nat.le_of_ble_eq_true rfl) dX11_takeQuay_44 (fun q47 => ?_)
    refine J_bipush hX dX11_takeQuay_47 kb_114 ?_
    refine J_cSL hX (C_X11_longer hG q47 114 s44) mw_X11_longer ml_X11_183 ⟨Nat.le_of_ble_eq_true rfl, Nat.le_of_ble_eq_true rfl⟩ rfl rfl (Nat.le_of_ble_eq_true rfl) dX11_takeQuay_49 (fun q48 => ?_)
    refine J_lcmp hX dX11_takeQuay_52 ?_
    refine J_if_ne hX dX11_takeQuay_53 (tgt := 60) rfl (fun _ => ?_) (fun _ => ?_)
    · refine J_aload_n hX dX11_takeQuay_60 rfl ?_
      refine J_getl hX hE 0 22 rfl rfl fl_X11_130 dX11_takeQuay_61 ?_
      refine J_bipush hX dX11_takeQuay_64 kb_98 ?_
      refine J_bipush hX dX11_takeQuay_66 kb_117 ?_
      refine J_bipush hX dX11_takeQuay_68 kb_114 ?_
      refine J_bipush hX dX11_takeQuay_70 kb_110 ?_
      refine J_cSL hX (C_X11_code hG 98 117 114 110 s44) mw_X11_code ml_X11_179 ⟨Nat.le_of_ble_eq_true rfl, Nat.le_of_ble_eq_true rfl⟩ rfl rfl (Nat.le_of_ble_eq_true rfl) dX11_takeQuay_72 (fun q49 => ?_)
      refine J_lcmp hX dX11_takeQuay_75 ?_
      refine J_if_ne hX dX11_takeQuay_76 (tgt := 83) rfl (fun _ => ?_) (fun _ => ?_)
      · refine J_aload_n hX dX11_takeQuay_83 rfl ?_
        refine J_getl hX hE 0 22 rfl rfl fl_X11_130 dX11_takeQuay_84 ?_
        refine J_bipush hX dX11_takeQuay_87 kb_109 ?_
        refine J_bipush hX dX11_takeQuay_89 kb_111 ?_
        refine J_bipush hX dX11_takeQuay_91 kb_116 ?_
        refine J_bipush hX dX11_takeQuay_93 kb_104 ?_
        refine J_cSL hX (C_X11_code hG 109 111 116 104 s44) mw_X11_code ml_X11_179 ⟨Nat.le_of_ble_eq_true rfl, Nat.le_of_ble_eq_true rfl⟩ rfl rfl (Nat.le_of_ble_eq_true rfl) dX11_takeQuay_95 (fun q50 => ?_)
        refine J_bipush hX dX11_takeQuay_98 kb_115 ?_
        refine J_cSL hX (C_X11_longer hG q50 115 s44) mw_X11_longer ml_X11_183 ⟨Nat.le_of_ble_eq_true rfl, Nat.le_of_ble_eq_true rfl⟩ rfl rfl (Nat.le_of_ble_eq_true rfl) dX11_takeQuay_100 (fun q51 => ?_)
        refine J_lcmp hX dX11_takeQuay_103 ?_
        refine J_if_ne hX dX11_takeQuay_104 (tgt := 111) rfl (fun _ => ?_) (fun _ => ?_)
        · refine J_aload_n hX dX11_takeQuay_111 rfl ?_
          refine J_getl hX hE 0 22 rfl rfl fl_X11_130 dX11_takeQuay_112 ?_
          refine J_bipush hX dX11_takeQuay_115 kb_108 ?_
          refine J_bipush hX dX11_takeQuay_117 kb_111 ?_
          refine J_bipush hX dX11_takeQuay_119 kb_117 ?_
          refine J_bipush hX dX11_takeQuay_121 kb_100 ?_
          refine J_cSL hX (C_X11_code hG 108 111 117 100 s44) mw_X11_code ml_X11_179 ⟨Nat.le_of_ble_eq_true rfl, Nat.le_of_ble_eq_true rfl⟩ rfl rfl (Nat.le_of_ble_eq_true rfl) dX11_takeQuay_123 (fun q52 => ?_)
          refine J_lcmp hX dX11_takeQuay_126 ?_
          refine J_if_ne hX dX11_takeQuay_127 (tgt := 134) rfl (fun _ => ?_) (fun _ => ?_)
          · refine J_iconst hX dX11_takeQuay_134 k_im1 ?_
            refine hB20 _ _ _ _ _ ?_
            exact J_keep [0] rfl (hJ135 (-1) s44)
          · refine J_iconst hX dX11_takeQuay_130 k_i4 ?_
            refine J_goto hX dX11_takeQuay_131 (tgt := 135) rfl ?_
            refine hB20 _ _ _ _ _ ?_
            exact J_keep [0] rfl (hJ135 4 s44)
        · refine J_iconst hX dX11_takeQuay_107 k_i3 ?_
          refine J_goto hX dX11_takeQuay_108 (tgt := 135) rfl ?_
          refine hB20 _ _ _ _ _ ?_
          exact J_keep [0] rfl (hJ135 3 s44)
      · refine J_iconst hX dX11_takeQuay_79 k_i2 ?_
        refine J_goto hX dX11_takeQuay_80 (tgt := 135) rfl ?_
        refine hB20 _ _ _ _ _ ?_
        exact J_keep [0] rfl (hJ135 2 s44)
    · refine J_iconst hX dX11_takeQuay_56 k_i1 ?_
      refine J_goto hX dX11_takeQuay_57 (tgt := 135) rfl ?_
      refine hB20 _ _ _ _ _ ?_
      exact J_keep [0] rfl (hJ135 1 s44)
  · refine J_iconst hX dX11_takeQuay_23 k_i0 ?_
    refine J_goto hX dX11_takeQuay_24 (tgt := 135) rfl ?_
    refine hB20 _ _ _ _ _ ?_
    exact J_keep [0] rfl (hJ135 0 s44)
theorem mw_X11_takeQuay : jMV Y_X11_takeQuay 0 := ⟨⟨tw_tb (List.mem_of_getElem? (i := 1224) (by decide +kernel)) (by decide +kernel), tw_pv (List.mem_of_getElem? (i := 36) (by decide +kernel)) (by decide +kernel), tw_tb (List.mem_of_getElem? (i := 13) (by decide +kernel)) (by decide +kernel), tw_tb (List.mem_of_getElem? (i := 1225) (by decide +kernel)) (by decide +kernel)⟩, ⟨rfl, rfl⟩, by decide +kernel, by decide +kernel, by decide +kernel⟩
