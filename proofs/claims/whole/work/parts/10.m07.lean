-- X11_quay
noncomputable def f_X11_quay_L50 (nm : Nat → Nat) (s : (Int32 × jS)) : Option ((Int32 × jS) ⊕ (Int32 × jS)) :=
  match s with
  | (v1, σ) =>
    if v1 = 0 then
      (f_X11_here nm σ).bind (fun x => match x with
      | (q9, s10) =>
        if q9 < 0 then
          some (.inr (v1, s10))
        else
          (f_X11_takeQuay nm s10).bind (fun x => match x with
          | (q11, s12) =>
            some (.inl (q11, s12))))
    else
      some (.inr (v1, σ))
noncomputable def f_X11_quay_L101 (nm : Nat → Nat) (s : (Int32 × jS)) : Option ((Int32 × jS) ⊕ jS) :=
  match s with
  | (v2, σ) =>
    if 40 ≤ v2 then
      some (.inr σ)
    else
      gd (vp_in v2 40) (
        gd (vp_in v2 40) (bd (s_i σ (nm 1) v2.toNatClampNeg (g_i σ (nm 9) v2.toNatClampNeg)) (fun s18 =>
          some (.inl (v2 + 1, s18)))))
noncomputable def f_X11_quay_L127 (nm : Nat → Nat) (s : (Int32 × jS)) : Option ((Int32 × jS) ⊕ jS) :=
  match s with
  | (v2, σ) =>
    if 32 ≤ v2 then
      some (.inr σ)
    else
      gd (vp_in v2 32) (
        gd (vp_in v2 32) (bd (s_i σ (nm 5) v2.toNatClampNeg (g_i σ (nm 10) v2.toNatClampNeg)) (fun s20 =>
          some (.inl (v2 + 1, s20)))))
noncomputable def f_X11_quay_J69 (nm : Nat → Nat) (v1 : Int32) (σ : jS) : Option (Int32 × jS) :=
  bd (s_i σ (nm 0) 19 0) (fun s15 =>
    if v1 ≤ 0 then
      bd (s_i s15 (nm 0) 0 (g_i s15 (nm 0) 26)) (fun s16 =>
        bd (s_i s16 (nm 0) 8 (g_i s16 (nm 0) 28)) (fun s17 =>
          (lp (f_X11_quay_L101 nm) fu (0, s17)).bind (fun s19 =>
            (lp (f_X11_quay_L127 nm) fu (0, s19)).bind (fun s21 =>
              gd (vp_in 0 3) (
                bd (s_i s21 (nm 0) 5 (g_i s21 (nm 11) (0 : Int32).toNatClampNeg)) (fun s22 =>
                  gd (vp_in 1 3) (
                    bd (s_i s22 (nm 0) 6 (g_i s22 (nm 11) (1 : Int32).toNatClampNeg)) (fun s23 =>
                      gd (vp_in 2 3) (
                        bd (s_i s23 (nm 0) 7 (g_i s23 (nm 11) (2 : Int32).toNatClampNeg)) (fun s24 =>
                          bd (s_i s24 (nm 0) 10 0) (fun s25 =>
                            bd (s_i s25 (nm 0) 38 0) (fun s26 =>
                              bd (s_i s26 (nm 0) 47 0) (fun s27 =>
                                bd (s_i s27 (nm 0) 15 0) (fun s28 =>
                                  bd (s_i s28 (nm 0) 16 0) (fun s29 =>
                                    gd (vp_in 0 2) (bd (s_i s29 (nm 26) (0 : Int32).toNatClampNeg 0) (fun s30 =>
                                      gd (vp_in 1 2) (bd (s_i s30 (nm 26) (1 : Int32).toNatClampNeg 0) (fun s31 =>
                                        (f_X11_allOut nm s31).bind (fun s32 =>
                                          some (g_i s32 (nm 0) 0, s32)))))))))))))))))))))
    else
      some ((-10) - v1, s15))
noncomputable def f_X11_quay (nm : Nat → Nat) (σ : jS) : Option (Int32 × jS) :=
  bd (s_i σ (nm 0) 20 (-1)) (fun s1 =>
    bd (s_i s1 (nm 0) 21 0) (fun s2 =>
      bd (s_i s2 (nm 0) 26 0) (fun s3 =>
        bd (s_i s3 (nm 0) 28 0) (fun s4 =>
          bd (s_i s4 (nm 0) 31 0) (fun s5 =>
            gd (vp_in 0 3) (bd (s_i s5 (nm 11) (0 : Int32).toNatClampNeg 20) (fun s6 =>
              gd (vp_in 1 3) (bd (s_i s6 (nm 11) (1 : Int32).toNatClampNeg 30) (fun s7 =>
                gd (vp_in 2 3) (bd (s_i s7 (nm 11) (2 : Int32).toNatClampNeg 5) (fun s8 =>
                  (lp (f_X11_quay_L50 nm) fu (0, s8)).bind (fun x => match x with
                  | (e13, s14) =>
                    f_X11_quay_J69 nm e13 s14))))))))))))
abbrev Y_X11_quay : jY := (yX11_quay, cX11_quay, 3, some .int, { frames := 5, cells := 0, slots := 0, locals := 117 })
theorem C_X11_quay {l : Launch} {G : jG} {nm : Nat → Nat} (hG : jWL G) (hE : jE G nm LS_X11) (σ : jS) : jC r_I l G Y_X11_quay [.ref (jad G (nm 0))] σ (f_X11_quay nm σ) := by
  refine jw_met hG pn_X11 (Nat.le_of_ble_eq_true rfl) ⟨rfl, rfl⟩ ?_
  intro X hX hM
  have hX : jB X l G cX11_quay RX11 3 { frames := 5, cells := 0, slots := 0, locals := 117 } := hX
  have hM : jM X (some .int) := hM
  show J X 0 [(0, .ref (jad G (nm 0)))] [] σ (f_X11_quay nm σ) (jk r_I X)
  have hJ69 : ∀ (v1 : Int32) (σ : jS), J X 69 [(0, .ref (jad G (nm 0))), (1, .int v1)] [] σ (f_X11_quay_J69 nm v1 σ) (jk r_I X) := by
    intro v1 σ
    unfold f_X11_quay_J69
    refine J_aload_n hX dX11_quay_69 rfl ?_
    refine J_iconst hX dX11_quay_70 k_i0 ?_
    refine J_puti hX hE 0 19 rfl rfl fp_X11_119 dX11_quay_71 ?_
    refine J_bdS (fun s33 => ?_)
    refine J_iload_n hX dX11_quay_74 rfl ?_
    refine J_if_le hX dX11_quay_75 (tgt := 83) rfl (fun _ => ?_) (fun _ => ?_)
    · refine J_aload_n hX dX11_quay_83 rfl ?_
      refine J_aload_n hX dX11_quay_84 rfl ?_
      refine J_geti hX hE 0 26 rfl rfl fl_X11_166 dX11_quay_85 ?_
      refine J_puti hX hE 0 0 rfl rfl fp_X11_104 dX11_quay_88 ?_
      refine J_bdS (fun s34 => ?_)
      refine J_aload_n hX dX11_quay_91 rfl ?_
      refine J_aload_n hX dX11_quay_92 rfl ?_
      refine J_geti hX hE 0 28 rfl rfl fl_X11_173 dX11_quay_93 ?_
      refine J_puti hX hE 0 8 rfl rfl fp_X11_206 dX11_quay_96 ?_
      refine J_bdS (fun s35 => ?_)
      refine J_iconst hX dX11_quay_99 k_i0 ?_
      refine J_istore_n hX dX11_quay_100 (Nat.le_of_ble_eq_true rfl) (lv' := [(0, .ref (jad G (nm 0))), (1, .int v1), (2, .int 0)]) rfl ?_
      refine J_keep [0, 2] (lv' := [(0, .ref (jad G (nm 0))), (2, .int 0)]) rfl ?_
      refine J_lp (pc := 101) (s0 := (0, s35)) (fun (s : (Int32 × jS)) => [(0, .ref (jad G (nm 0))), (2, .int (s.1))]) (fun (s : (Int32 × jS)) => s.2) ?_
      intro KK101 hN101 hQ101 z101
      obtain ⟨v2_101, σ_101⟩ := z101
      show J X 101 [(0, .ref (jad G (nm 0))), (2, .int v2_101)] [] σ_101 (f_X11_quay_L101 nm (v2_101, σ_101)) KK101
      unfold f_X11_quay_L101
      refine J_iload_n hX dX11_quay_101 rfl ?_
      refine J_bipush hX dX11_quay_102 kb_40 ?_
      refine J_icmp_ge hX dX11_quay_104 (tgt := 125) rfl (fun _ => ?_) (fun _ => ?_)
      · refine hQ101 _ _ _ _ _ ?_
        refine J_iconst hX dX11_quay_125 k_i0 ?_
        refine J_istore_n hX dX11_quay_126 (Nat.le_of_ble_eq_true rfl) (lv' := [(0, .ref (jad G (nm 0))), (2, .int 0)]) rfl ?_
        refine J_keep [0, 1] (lv' := [(0, .ref (jad G (nm 0))), (2, .int 0)]) rfl ?_
        refine J_lp (pc := 127) (s0 := (0, σ_101)) (fun (s : (Int32 × jS)) => [(0, .ref (jad G (nm 0))), (2, .int (s.1))]) (fun (s : (Int32 × jS)) => s.2) ?_
        intro KK127 hN127 hQ127 z127
        obtain ⟨v2_127, σ_127⟩ := z127
        show J X 127 [(0, .ref (jad G (nm 0))), (2, .int v2_127)] [] σ_127 (f_X11_quay_L127 nm (v2_127, σ_127)) KK127
        unfold f_X11_quay_L127
        refine J_iload_n hX dX11_quay_127 rfl ?_
        refine J_bipush hX dX11_quay_128 kb_32 ?_
        refine J_icmp_ge hX dX11_quay_130 (tgt := 151) rfl (fun _ => ?_) (fun _ => ?_)
        · refine hQ127 _ _ _ _ _ ?_
          refine J_aload_n hX dX11_quay_151 rfl ?_
          refine J_aload_n hX dX11_quay_152 rfl ?_
          refine J_getr hX hE 0 30 rfl rfl fl_X11_53 dX11_quay_153 ?_
          refine J_iconst hX dX11_quay_156 k_i0 ?_
          refine J_iald hX hE 11 rfl dX11_quay_157 (fun _ => ?_)
          refine J_puti hX hE 0 5 rfl rfl fp_X11_22 dX11_quay_158 ?_
          refine J_bdS (fun s36 => ?_)
          refine J_aload_n hX dX11_quay_161 rfl ?_
          refine J_aload_n hX dX11_quay_162 rfl ?_
          refine J_getr hX hE 0 30 rfl rfl fl_X11_53 dX11_quay_163 ?_
          refine J_iconst hX dX11_quay_166 k_i1 ?_
          refine J_iald hX hE 11 rfl dX11_quay_167 (fun _ => ?_)
          refine J_puti hX hE 0 6 rfl rfl fp_X11_26 dX11_quay_168 ?_
          refine J_bdS (fun s37 => ?_)
          refine J_aload_n hX dX11_quay_171 rfl ?_
          refine J_aload_n hX dX11_quay_172 rfl ?_
          refine J_getr hX hE 0 30 rfl rfl fl_X11_53 dX11_quay_173 ?_
          refine J_iconst hX dX11_quay_176 k_i2 ?_
          refine J_iald hX hE 11 rfl dX11_quay_177 (fun _ => ?_)
          refine J_puti hX hE 0 7 rfl rfl fp_X11_29 dX11_quay_178 ?_
          refine J_bdS (fun s38 => ?_)
          refine J_aload_n hX dX11_quay_181 rfl ?_
          refine J_iconst hX dX11_quay_182 k_i0 ?_
          refine J_puti hX hE 0 10 rfl rfl fp_X11_209 dX11_quay_183 ?_
          refine J_bdS (fun s39 => ?_)
          refine J_aload_n hX dX11_quay_186 rfl ?_
          refine J_iconst hX dX11_quay_187 k_i0 ?_
          refine J_puti hX hE 0 38 rfl rfl fp_X11_212 dX11_quay_188 ?_
          refine J_bdS (fun s40 => ?_)
          refine J_aload_n hX dX11_quay_191 rfl ?_
          refine J_iconst hX dX11_quay_192 k_i0 ?_
          refine J_puti hX hE 0 47 rfl rfl fp_X11_215 dX11_quay_193 ?_
          refine J_bdS (fun s41 => ?_)
          refine J_aload_n hX dX11_quay_196 rfl ?_
          refine J_iconst hX dX11_quay_197 k_i0 ?_
          refine J_puti hX hE 0 15 rfl rfl fp_X11_218 dX11_quay_198 ?_
          refine J_bdS (fun s42 => ?_)
          refine J_aload_n hX dX11_quay_201 rfl ?_
          refine J_iconst hX dX11_quay_202 k_i0 ?_
          refine J_puti hX hE 0 16 rfl rfl fp_X11_221 dX11_quay_203 ?_
          refine J_bdS (fun s43 => ?_)
          refine J_aload_n hX dX11_quay_206 rfl ?_
          refine J_getr hX hE 0 51 rfl rfl fl_X11_101 dX11_quay_207 ?_
          refine J_iconst hX dX11_quay_210 k_i0 ?_
          refine J_iconst hX dX11_quay_211 k_i0 ?_
          refine J_zast hX hE 26 jp_0 rfl dX11_quay_212 (fun _ => ?_)
          refine J_bdS (fun s44 => ?_)
          refine J_aload_n hX dX11_quay_213 rfl ?_
          refine J_getr hX hE 0 51 rfl rfl fl_X11_101 dX11_quay_214 ?_
          refine J_iconst hX dX11_quay_217 k_i1 ?_
          refine J_iconst hX dX11_quay_218 k_i0 ?_
          refine J_zast hX hE 26 jp_0 rfl dX11_quay_219 (fun _ => ?_)
          refine J_bdS (fun s45 => ?_)
          refine J_aload_n hX dX11_quay_220 rfl ?_
          refine J_cVV hX hE 0 (C_X11_allOut hG hE s45) mw_X11_allOut ml_X11_224 rfl rfl rfl ⟨Nat.le_of_ble_eq_true rfl, Nat.le_of_ble_eq_true rfl⟩ rfl rfl (Nat.le_of_ble_eq_true rfl) dX11_quay_221 (fun s46 => ?_)
          refine J_aload_n hX dX11_quay_224 rfl ?_
          refine J_geti hX hE 0 0 rfl rfl fl_X11_104 dX11_quay_225 ?_
          exact J_iret hX hM dX11_quay_228
        · refine J_aload_n hX dX11_quay_133 rfl ?_
          refine J_getr hX hE 0 9 rfl rfl fl_X11_32 dX11_quay_134 ?_
          refine J_iload_n hX dX11_quay_137 rfl ?_
          refine J_aload_n hX dX11_quay_138 rfl ?_
          refine J_getr hX hE 0 29 rfl rfl fl_X11_50 dX11_quay_139 ?_
          refine J_iload_n hX dX11_quay_142 rfl ?_
          refine J_iald hX hE 10 rfl dX11_quay_143 (fun _ => ?_)
          refine J_iast hX hE 5 rfl dX11_quay_144 (fun _ => ?_)
          refine J_bdS (fun s47 => ?_)
          refine J_iinc hX dX11_quay_145 rfl (congrArg (_ + ·) k_i1) (Nat.le_of_ble_eq_true rfl) (lv' := [(0, .ref (jad G (nm 0))), (2, .int (v2_127 + 1))]) rfl ?_
          refine J_goto hX dX11_quay_148 (tgt := 127) rfl ?_
          exact J_keep [0, 1] rfl (hN127 (v2_127 + 1, s47))
      · refine J_aload_n hX dX11_quay_107 rfl ?_
        refine J_getr hX hE 0 1 rfl rfl fl_X11_7 dX11_quay_108 ?_
        refine J_iload_n hX dX11_quay_111 rfl ?_
        refine J_aload_n hX dX11_quay_112 rfl ?_
        refine J_getr hX hE 0 27 rfl rfl fl_X11_47 dX11_quay_113 ?_
        refine J_iload_n hX dX11_quay_116 rfl ?_
        refine J_iald hX hE 9 rfl dX11_quay_117 (fun _ => ?_)
        refine J_iast hX hE 1 rfl dX11_quay_118 (fun _ => ?_)
        refine J_bdS (fun s48 => ?_)
        refine J_iinc hX dX11_quay_119 rfl (congrArg (_ + ·) k_i1) (Nat.le_of_ble_eq_true rfl) (lv' := [(0, .ref (jad G (nm 0))), (2, .int (v2_101 + 1))]) rfl ?_
        refine J_goto hX dX11_quay_122 (tgt := 101) rfl ?_
        exact J_keep [0, 1] rfl (hN101 (v2_101 + 1, s48))
    · refine J_bipush hX dX11_quay_78 kb_m10 ?_
      refine J_iload_n hX dX11_quay_80 rfl ?_
      refine J_isub hX dX11_quay_81 ?_
      exact J_iret hX hM dX11_quay_82
  unfold f_X11_quay
  refine J_aload_n hX dX11_quay_0 rfl ?_
  refine J_iconst hX dX11_quay_1 k_im1 ?_
  refine J_puti hX hE 0 20 rfl rfl fp_X11_44 dX11_quay_2 ?_
  refine J_bdS (fun s49 => ?_)
  refine J_aload_n hX dX11_quay_5 rfl ?_
  refine J_iconst hX dX11_quay_6 k_i0 ?_
  refine J_puti hX hE 0 21 rfl rfl fp_X11_124 dX11_quay_7 ?_
  refine J_bdS (fun s50 => ?_)
  refine J_aload_n hX dX11_quay_10 rfl ?_
  refine J_iconst hX dX11_quay_11 k_i0 ?_
  refine J_puti hX hE 0 26 rfl rfl fp_X11_166 dX11_quay_12 ?_
  refine J_bdS (fun s51 => ?_)
  refine J_aload_n hX dX11_quay_15 rfl ?_
  refine J_iconst hX dX11_quay_16 k_i0 ?_
  refine J_puti hX hE 0 28 rfl rfl fp_X11_173 dX11_quay_17 ?_
  refine J_bdS (fun s52 => ?_)
  refine J_aload_n hX dX11_quay_20 rfl ?_
  refine J_iconst hX dX11_quay_21 k_i0 ?_
  refine J_puti hX hE 0 31 rfl rfl fp_X11_187 dX11_quay_22 ?_
  refine J_bdS (fun s53 => ?_)
  refine J_aload_n hX dX11_quay_25 rfl ?_
  refine J_getr hX hE 0 30 rfl rfl fl_X11_53 dX11_quay_26 ?_
  refine J_iconst hX dX11_quay_29 k_i0 ?_
  refine J_bipush hX dX11_quay_30 kb_20 ?_
  refine J_iast hX hE 11 rfl dX11_quay_32 (fun _ => ?_)
  refine J_bdS (fun s54 => ?_)
  refine J_aload_n hX dX11_quay_33 rfl ?_
  refine J_getr hX hE 0 30 rfl rfl fl_X11_53 dX11_quay_34 ?_
  refine J_iconst hX dX11_quay_37 k_i1 ?_
  refine J_bipush hX dX11_quay_38 kb_30 ?_
  refine J_iast hX hE 11 rfl dX11_quay_40 (fun _ => ?_)
  refine J_bdS (fun s55 => ?_)
  refine J_aload_n hX dX11_quay_41 rfl ?_
  refine J_getr hX hE 0 30 rfl rfl fl_X11_53 dX11_quay_42 ?_
  refine J_iconst hX dX11_quay_45 k_i2 ?_
  refine J_iconst hX dX11_quay_46 k_i5 ?_
  refine J_iast hX hE 11 rfl dX11_quay_47 (fun _ => ?_)
  refine J_bdS (fun s56 => ?_)
  refine J_iconst hX dX11_quay_48 k_i0 ?_
  refine J_istore_n hX dX11_quay_49 (Nat.le_of_ble_eq_true rfl) (lv' := [(0, .ref (jad G (nm 0))), (1, .int 0)]) rfl ?_
  refine J_keep [0, 1] (lv' := [(0, .ref (jad G (nm 0))), (1, .int 0)]) rfl ?_
  refine J_lp (pc := 50) (s0 := (0, s56)) (fun (s : (Int32 × jS)) => [(0, .ref (jad G (nm 0))), (1, .int (s.1))]) (fun (s : (Int32 × jS)) => s.2) ?_
  intro KK50 hN50 hQ50 z50
  obtain ⟨v1_50, σ_50⟩ := z50
  show J X 50 [(0, .ref (jad G (nm 0))), (1, .int v1_50)] [] σ_50 (f_X11_quay_L50 nm (v1_50, σ_50)) KK50
  unfold f_X11_quay_L50
  refine J_iload_n hX dX11_quay_50 rfl ?_
  refine J_if_ne hX dX11_quay_51 (tgt := 69) rfl (fun _ => ?_) (fun _ => ?_)
  · refine hQ50 _ _ _ _ _ ?_
    exact J_keep [0, 1] rfl (hJ69 v1_50 σ_50)
  · refine J_aload_n hX dX11_quay_54 rfl ?_
    refine J_cVI hX hE 0 (C_X11_here hG hE σ_50) mw_X11_here ml_X11_127 rfl rfl rfl ⟨Nat.le_of_ble_eq_true rfl, Nat.le_of_ble_eq_true rfl⟩ rfl rfl (Nat.le_of_ble_eq_true rfl) dX11_quay_55 (fun q57 s58 => ?_)
    refine J_if_lt hX dX11_quay_58 (tgt := 69) rfl (fun _ => ?_) (fun _ => ?_)
    · refine hQ50 _ _ _ _ _ ?_
      exact J_keep [0, 1] rfl (hJ69 v1_50 s58)
    · refine J_aload_n hX dX11_quay_61 rfl ?_
      refine J_cVI hX hE 0 (C_X11_takeQuay hG hE s58) mw_X11_takeQuay ml_X11_203 rfl rfl rfl ⟨Nat.le_of_ble_eq_true rfl, Nat.le_of_ble_eq_true rfl⟩ rfl rfl (Nat.le_of_ble_eq_true rfl) dX11_quay_62 (fun q59 s60 => ?_)
      refine J_istore_n hX dX11_quay_65 (Nat.le_of_ble_eq_true rfl) (lv' := [(0, .ref (jad G (nm 0))), (1, .int q59)]) rfl ?_
      refine J_goto hX dX11_quay_66 (tgt := 50) rfl ?_
      exact J_keep [0, 1] rfl (hN50 (q59, s60))
theorem mw_X11_quay : jMV Y_X11_quay 0 := ⟨⟨tw_tb (List.mem_of_getElem? (i := 1215) (by decide +kernel)) (by decide +kernel), tw_tb (List.mem_of_getElem? (i := 1216) (by decide +kernel)) (by decide +kernel), tw_tb (List.mem_of_getElem? (i := 13) (by decide +kernel)) (by decide +kernel), tw_tb (List.mem_of_getElem? (i := 1217) (by decide +kernel)) (by decide +kernel)⟩, ⟨rfl, rfl⟩, by decide +kernel, by decide +kernel, by decide +kernel⟩
-- X11_round
noncomputable def f_X11_round_L36 (nm : Nat → Nat) (v1 : Int32) (s : (Int32 × Int32 × jS)) : Option ((Int32 × Int32 × jS) ⊕ (Int32 × jS)) :=
  match s with
  | (v3, v4, σ) =>
    if v1 < v4 then
      some (.inr (v3, σ))
    else
      (f_X11_step nm σ).bind (fun x => match x with
      | (q4, s5) =>
        some (.inl (q4, v4 + 1, s5)))
noncomputable def f_X11_round (nm : Nat → Nat) (v1 : Int32) (σ : jS) : Option (Int32 × jS) :=
  (f_X11_beginRound nm σ).bind (fun x => match x with
  | (q1, s2) =>
    if q1 < 0 then
      some (q1, s2)
    else
      if v1 = (-1) then
        some (q1, s2)
      else
        (f_X11_in (v1.toInt64) 0 ((q1 - 1).toInt64)).bind (fun q3 =>
          if q3 = 0 then
            some ((-1), s2)
          else
            (lp (f_X11_round_L36 nm v1) fu ((-1), 0, s2)).bind (fun x => match x with
            | (e6, s7) =>
              some (e6, s7))))
abbrev Y_X11_round : jY := (yX11_round, cX11_round, 5, some .int, { frames := 4, cells := 0, slots := 0, locals := 94 })
theorem C_X11_round {l : Launch} {G : jG} {nm : Nat → Nat} (hG : jWL G) (hE : jE G nm LS_X11) (v1 : Int32) (σ : jS) : jC r_I l G Y_X11_round [.ref (jad G (nm 0)), .int v1] σ (f_X11_round nm v1 σ) := by
  refine jw_met hG pn_X11 (Nat.le_of_ble_eq_true rfl) ⟨rfl, rfl⟩ ?_
  intro X hX hM
  have hX : jB X l G cX11_round RX11 5 { frames := 4, cells := 0, slots := 0, locals := 94 } := hX
  have hM : jM X (some .int) := hM
  show J X 0 [(0, .ref (jad G (nm 0))), (1, .int v1)] [] σ (f_X11_round nm v1 σ) (jk r_I X)
  unfold f_X11_round
  refine J_aload_n hX dX11_round_0 rfl ?_
  refine J_cVI hX hE 0 (C_X11_beginRound hG hE σ) mw_X11_beginRound ml_X11_309 rfl rfl rfl ⟨Nat.le_of_ble_eq_true rfl, Nat.le_of_ble_eq_true rfl⟩ rfl rfl (Nat.le_of_ble_eq_true rfl) dX11_round_1 (fun q8 s9 => ?_)
  refine J_istore_n hX dX11_round_4 (Nat.le_of_ble_eq_true rfl) (lv' := [(0, .ref (jad G (nm 0))), (1, .int v1), (2, .int q8)]) rfl ?_
  refine J_iload_n hX dX11_round_5 rfl ?_
  refine J_if_lt hX dX11_round_6 (tgt := 14) rfl (fun _ => ?_) (fun _ => ?_)
  · refine J_iload_n hX dX11_round_14 rfl ?_
    exact J_iret hX hM dX11_round_15
  · refine J_iload_n hX dX11_round_9 rfl ?_
    refine J_iconst hX dX11_round_10 k_im1 ?_
    refine J_icmp_ne hX dX11_round_11 (tgt := 16) rfl (fun _ => ?_) (fun _ => ?_)
    · refine J_iload_n hX dX11_round_16 rfl ?_
      refine J_i2l hX dX11_round_17 ?_
      refine J_lconst hX dX11_round_18 k_l0 ?_
      refine J_iload_n hX dX11_round_19 rfl ?_
      refine J_iconst hX dX11_round_20 k_i1 ?_
      refine J_isub hX dX11_round_21 ?_
      refine J_i2l hX dX11_round_22 ?_
      refine J_cSP hX (C_X11_in hG (v1.toInt64) 0 ((q8 - 1).toInt64) s9) mw_X11_in ml_X11_107 ⟨Nat.le_of_ble_eq_true rfl, Nat.le_of_ble_eq_true rfl⟩ rfl rfl (Nat.le_of_ble_eq_true rfl) dX11_round_23 (fun q10 => ?_)
      refine J_if_ne hX dX11_round_26 (tgt := 31) rfl (fun _ => ?_) (fun _ => ?_)
      · refine J_iconst hX dX11_round_31 k_im1 ?_
        refine J_istore_n hX dX11_round_32 (Nat.le_of_ble_eq_true rfl) (lv' := [(0, .ref (jad G (nm 0))), (1, .int v1), (2, .int q8), (3, .int (-1))]) rfl ?_
        refine J_iconst hX dX11_round_33 k_i0 ?_
        refine J_istore hX dX11_round_34 (Nat.le_of_ble_eq_true rfl) (lv' := [(0, .ref (jad G (nm 0))), (1, .int v1), (2, .int q8), (3, .int (-1)), (4, .int 0)]) rfl ?_
        refine J_keep [0, 1, 3, 4] (lv' := [(0, .ref (jad G (nm 0))), (1, .int v1), (3, .int (-1)), (4, .int 0)]) rfl ?_
        refine J_lp (pc := 36) (s0 := ((-1), 0, s9)) (fun (s : (Int32 × Int32 × jS)) => [(0, .ref (jad G (nm 0))), (1, .int v1), (3, .int (s.1)), (4, .int (s.2.1))]) (fun (s : (Int32 × Int32 × jS)) => s.2.2) ?_
        intro KK36 hN36 hQ36 z36
        obtain ⟨v3_36, v4_36, σ_36⟩ := z36
        show J X 36 [(0, .ref (jad G (nm 0))), (1, .int v1), (3, .int v3_36), (4, .int v4_36)] [] σ_36 (f_X11_round_L36 nm v1 (v3_36, v4_36, σ_36)) KK36
        unfold f_X11_round_L36
        refine J_iload hX dX11_round_36 rfl ?_
        refine J_iload_n hX dX11_round_38 rfl ?_
        refine J_icmp_gt hX dX11_round_39 (tgt := 53) rfl (fun _ => ?_) (fun _ => ?_)
        · refine hQ36 _ _ _ _ _ ?_
          refine J_iload_n hX dX11_round_53 rfl ?_
          exact J_iret hX hM dX11_round_54
        · refine J_aload_n hX dX11_round_42 rfl ?_
          refine J_cVI hX hE 0 (C_X11_step hG hE σ_36) mw_X11_step ml_X11_312 rfl rfl rfl ⟨Nat.le_of_ble_eq_true rfl, Nat.le_of_ble_eq_true rfl⟩ rfl rfl (Nat.le_of_ble_eq_true rfl) dX11_round_43 (fun q11 s12 => ?_)
          refine J_istore_n hX dX11_round_46 (Nat.le_of_ble_eq_true rfl) (lv' := [(0, .ref (jad G (nm 0))), (1, .int v1), (3, .int q11), (4, .int v4_36)]) rfl ?_
          refine J_iinc hX dX11_round_47 rfl (congrArg (_ + ·) k_i1) (Nat.le_of_ble_eq_true rfl) (lv' := [(0, .ref (jad G (nm 0))), (1, .int v1), (3, .int q11), (4, .int (v4_36 + 1))]) rfl ?_
          refine J_goto hX dX11_round_50 (tgt := 36) rfl ?_
          exact J_keep [0, 1, 2, 3] rfl (hN36 (q11, v4_36 + 1, s12))
      · refine J_iconst hX dX11_round_29 k_im1 ?_
        exact J_iret hX hM dX11_round_30
    · refine J_iload_n hX dX11_round_14 rfl ?_
      exact J_iret hX hM dX11_round_15
theorem mw_X11_round : jMV Y_X11_round 1 := ⟨⟨tw_tb (List.mem_of_getElem? (i := 1383) (by decide +kernel)) (by decide +kernel), tw_tb (List.mem_of_getElem? (i := 1384) (by decide +kernel)) (by decide +kernel), tw_tb (List.mem_of_getElem? (i := 13) (by decide +kernel)) (by decide +kernel), tw_tb (List.mem_of_getElem? (i := 1385) (by decide +kernel)) (by decide +kernel)⟩, ⟨rfl, rfl⟩, by decide +kernel, by decide +kernel, by decide +kernel⟩
-- X11_run
noncomputable def f_X11_run_L18 (nm : Nat → Nat) (v1 : Int32) (s : (Int32 × jS)) : Option ((Int32 × jS) ⊕ jS) :=
  match s with
  | (v2, σ) =>
    if v1 ≤ v2 then
      some (.inr σ)
    else
      (f_X11_goOn nm σ).bind (fun s2 =>
        some (.inl (v2 + 1, s2)))
noncomputable def f_X11_run (nm : Nat → Nat) (v1 : Int32) (σ : jS) : Option (Int32 × jS) :=
  (f_X11_in (v1.toInt64) 1 300).bind (fun q1 =>
    if q1 = 0 then
      some ((-1002), σ)
    else
      (lp (f_X11_run_L18 nm v1) fu (0, σ)).bind (fun s3 =>
        (f_X11_litNow nm 0 s3).bind (fun q4 =>
          some (q4, s3))))
abbrev Y_X11_run : jY := (yX11_run, cX11_run, 3, some .int, { frames := 4, cells := 0, slots := 0, locals := 98 })
theorem C_X11_run {l : Launch} {G : jG} {nm : Nat → Nat} (hG : jWL G) (hE : jE G nm LS_X11) (v1 : Int32) (σ : jS) : jC r_I l G Y_X11_run [.ref (jad G (nm 0)), .int v1] σ (f_X11_run nm v1 σ) := by
  refine jw_met hG pn_X11 (Nat.le_of_ble_eq_true rfl) ⟨rfl, rfl⟩ ?_
  intro X hX hM
  have hX : jB X l G cX11_run RX11 3 { frames := 4, cells := 0, slots := 0, locals := 98 } := hX
  have hM : jM X (some .int) := hM
  show J X 0 [(0, .ref (jad G (nm 0))), (1, .int v1)] [] σ (f_X11_run nm v1 σ) (jk r_I X)
  unfold f_X11_run
  refine J_iload_n hX dX11_run_0 rfl ?_
  refine J_i2l hX dX11_run_1 ?_
  refine J_lconst hX dX11_run_2 k_l1 ?_
  refine J_ldc2 hX wl_X11_287 dX11_run_3 ?_
  refine J_cSP hX (C_X11_in hG (v1.toInt64) 1 300 σ) mw_X11_in ml_X11_107 ⟨Nat.le_of_ble_eq_true rfl, Nat.le_of_ble_eq_true rfl⟩ rfl rfl (Nat.le_of_ble_eq_true rfl) dX11_run_6 (fun q5 => ?_)
  refine J_if_ne hX dX11_run_9 (tgt := 16) rfl (fun _ => ?_) (fun _ => ?_)
  · refine J_iconst hX dX11_run_16 k_i0 ?_
    refine J_istore_n hX dX11_run_17 (Nat.le_of_ble_eq_true rfl) (lv' := [(0, .ref (jad G (nm 0))), (1, .int v1), (2, .int 0)]) rfl ?_
    refine J_keep [0, 1, 2] (lv' := [(0, .ref (jad G (nm 0))), (1, .int v1), (2, .int 0)]) rfl ?_
    refine J_lp (pc := 18) (s0 := (0, σ)) (fun (s : (Int32 × jS)) => [(0, .ref (jad G (nm 0))), (1, .int v1), (2, .int (s.1))]) (fun (s : (Int32 × jS)) => s.2) ?_
    intro KK18 hN18 hQ18 z18
    obtain ⟨v2_18, σ_18⟩ := z18
    show J X 18 [(0, .ref (jad G (nm 0))), (1, .int v1), (2, .int v2_18)] [] σ_18 (f_X11_run_L18 nm v1 (v2_18, σ_18)) KK18
    unfold f_X11_run_L18
    refine J_iload_n hX dX11_run_18 rfl ?_
    refine J_iload_n hX dX11_run_19 rfl ?_
    refine J_icmp_ge hX dX11_run_20 (tgt := 33) rfl (fun _ => ?_) (fun _ => ?_)
    · refine hQ18 _ _ _ _ _ ?_
      refine J_aload_n hX dX11_run_33 rfl ?_
      refine J_iconst hX dX11_run_34 k_i0 ?_
      refine J_cVP hX hE 0 (C_X11_litNow hG hE 0 σ_18) mw_X11_litNow ml_X11_292 rfl rfl rfl ⟨Nat.le_of_ble_eq_true rfl, Nat.le_of_ble_eq_true rfl⟩ rfl rfl (Nat.le_of_ble_eq_true rfl) dX11_run_35 (fun q6 => ?_)
      exact J_iret hX hM dX11_run_38
    · refine J_aload_n hX dX11_run_23 rfl ?_
      refine J_cVV hX hE 0 (C_X11_goOn hG hE σ_18) mw_X11_goOn ml_X11_289 rfl rfl rfl ⟨Nat.le_of_ble_eq_true rfl, Nat.le_of_ble_eq_true rfl⟩ rfl rfl (Nat.le_of_ble_eq_true rfl) dX11_run_24 (fun s7 => ?_)
      refine J_iinc hX dX11_run_27 rfl (congrArg (_ + ·) k_i1) (Nat.le_of_ble_eq_true rfl) (lv' := [(0, .ref (jad G (nm 0))), (1, .int v1), (2, .int (v2_18 + 1))]) rfl ?_
      refine J_goto hX dX11_run_30 (tgt := 18) rfl ?_
      exact J_keep [0, 1, 2] rfl (hN18 (v2_18 + 1, s7))
  · refine J_sipush hX dX11_run_12 ks_m1002 ?_
    exact J_iret hX hM dX11_run_15
theorem mw_X11_run : jMV Y_X11_run 1 := ⟨⟨tw_tb (List.mem_of_getElem? (i := 1350) (by decide +kernel)) (by decide +kernel), tw_tb (List.mem_of_getElem? (i := 1351) (by decide +kernel)) (by decide +kernel), tw_tb (List.mem_of_getElem? (i := 13) (by decide +kernel)) (by decide +kernel), tw_tb (List.mem_of_getElem? (i := 1352) (by decide +kernel)) (by decide +kernel)⟩, ⟨rfl, rfl⟩, by decide +kernel, by decide +kernel, by decide +kernel⟩
-- X11_seed
noncomputable def f_X11_seed (nm : Nat → Nat) (v1 : Int32) (σ : jS) : Option (Int32 × jS) :=
  if 0 ≤ v1 then
    bd (g_i σ (nm 0) 17) (fun x1 =>
      bd (s_i σ (nm 0) 17 v1) (fun s2 =>
        some (x1, s2)))
  else
    some ((-1002), σ)
abbrev Y_X11_seed : jY := (yX11_seed, cX11_seed, 3, some .int, { frames := 0, cells := 0, slots := 0, locals := 0 })
theorem C_X11_seed {l : Launch} {G : jG} {nm : Nat → Nat} (hG : jWL G) (hE : jE G nm LS_X11) (v1 : Int32) (σ : jS) : jC r_I l G Y_X11_seed [.ref (jad G (nm 0)), .int v1] σ (f_X11_seed nm v1 σ) := by
  refine jw_met hG pn_X11 (Nat.le_of_ble_eq_true rfl) ⟨rfl, rfl⟩ ?_
  intro X hX hM
  have hX : jB X l G cX11_seed RX11 3 { frames := 0, cells := 0, slots := 0, locals := 0 } := hX
  have hM : jM X (some .int) := hM
  show J X 0 [(0, .ref (jad G (nm 0))), (1, .int v1)] [] σ (f_X11_seed nm v1 σ) (jk r_I X)
  unfold f_X11_seed
  refine J_iload_n hX dX11_seed_0 rfl ?_
  refine J_if_ge hX dX11_seed_1 (tgt := 8) rfl (fun _ => ?_) (fun _ => ?_)
  · refine J_aload_n hX dX11_seed_8 rfl ?_
    refine J_geti hX hE 0 17 rfl rfl fl_X11_274 dX11_seed_9 ?_
    refine J_bdI (fun x3 => ?_)
    refine J_istore_n hX dX11_seed_12 (Nat.le_of_ble_eq_true rfl) (lv' := [(0, .ref (jad G (nm 0))), (1, .int v1), (2, .int x3)]) rfl ?_
    refine J_aload_n hX dX11_seed_13 rfl ?_
    refine J_iload_n hX dX11_seed_14 rfl ?_
    refine J_puti hX hE 0 17 rfl rfl fp_X11_274 dX11_seed_15 ?_
    refine J_bdS (fun s4 => ?_)
    refine J_iload_n hX dX11_seed_18 rfl ?_
    exact J_iret hX hM dX11_seed_19
  · refine J_sipush hX dX11_seed_4 ks_m1002 ?_
    exact J_iret hX hM dX11_seed_7
theorem mw_X11_seed : jMV Y_X11_seed 1 := ⟨⟨tw_tb (List.mem_of_getElem? (i := 1506) (by decide +kernel)) (by decide +kernel), tw_tb (List.mem_of_getElem? (i := 1507) (by decide +kernel)) (by decide +kernel), tw_tb (List.mem_of_getElem? (i := 13) (by decide +kernel)) (by decide +kernel), tw_tb (List.mem_of_getElem? (i := 1508) (by decide +kernel)) (by decide +kernel)⟩, ⟨rfl, rfl⟩, by decide +kernel, by decide +kernel, by decide +kernel⟩
-- X11_shows
noncomputable def f_X11_shows_L8 (nm : Nat → Nat) (v1 : Int32) (σ : jS) (v2 : Int32) : Option (Int32 ⊕ (Unit ⊕ Int32)) :=
  if (g_i σ (nm 0) 38) ≤ v2 then
    some (.inr (.inl ()))
  else
    gd (vp_in v2 8) (
      if (g_i σ (nm 15) v2.toNatClampNeg) = v1 then
        some (.inr (.inr v2))
      else
        some (.inl (v2 + 1)))
noncomputable def f_X11_shows (nm : Nat → Nat) (σ : jS) : Option Int32 :=
  (f_X11_litNow nm 1 σ).bind (fun q1 =>
    (lp (f_X11_shows_L8 nm q1 σ) fu 0).bind (fun x => match x with
    | .inl _ =>
      some (-1)
    | .inr a => some a))
abbrev Y_X11_shows : jY := (yX11_shows, cX11_shows, 3, some .int, { frames := 1, cells := 0, slots := 0, locals := 23 })
theorem C_X11_shows {l : Launch} {G : jG} {nm : Nat → Nat} (hG : jWL G) (hE : jE G nm LS_X11) (σ : jS) : jC (r_P σ) l G Y_X11_shows [.ref (jad G (nm 0))] σ (f_X11_shows nm σ) := by
  refine jw_met hG pn_X11 (Nat.le_of_ble_eq_true rfl) ⟨rfl, rfl⟩ ?_
  intro X hX hM
  have hX : jB X l G cX11_shows RX11 3 { frames := 1, cells := 0, slots := 0, locals := 23 } := hX
  have hM : jM X (some .int) := hM
  show J X 0 [(0, .ref (jad G (nm 0)))] [] σ (f_X11_shows nm σ) (jk (r_P σ) X)
  unfold f_X11_shows
  refine J_aload_n hX dX11_shows_0 rfl ?_
  refine J_iconst hX dX11_shows_1 k_i1 ?_
  refine J_cVP hX hE 0 (C_X11_litNow hG hE 1 σ) mw_X11_litNow ml_X11_292 rfl rfl rfl ⟨Nat.le_of_ble_eq_true rfl, Nat.le_of_ble_eq_true rfl⟩ rfl rfl (Nat.le_of_ble_eq_true rfl) dX11_shows_2 (fun q2 => ?_)
  refine J_istore_n hX dX11_shows_5 (Nat.le_of_ble_eq_true rfl) (lv' := [(0, .ref (jad G (nm 0))), (1, .int q2)]) rfl ?_
  refine J_iconst hX dX11_shows_6 k_i0 ?_
  refine J_istore_n hX dX11_shows_7 (Nat.le_of_ble_eq_true rfl) (lv' := [(0, .ref (jad G (nm 0))), (1, .int q2), (2, .int 0)]) rfl ?_
  refine J_keep [0, 1, 2] (lv' := [(0, .ref (jad G (nm 0))), (1, .int q2), (2, .int 0)]) rfl ?_
  refine J_lp (pc := 8) (s0 := 0) (fun (s : Int32) => [(0, .ref (jad G (nm 0))), (1, .int q2), (2, .int s)]) (fun (s : Int32) => σ) ?_
  intro KK8 hN8 hQ8 z8
  obtain ⟨v2_8, rfl⟩ : ∃ y, y = z8 := ⟨_, rfl⟩
  show J X 8 [(0, .ref (jad G (nm 0))), (1, .int q2), (2, .int v2_8)] [] σ (f_X11_shows_L8 nm q2 σ v2_8) KK8
  unfold f_X11_shows_L8
  refine J_iload_n hX dX11_shows_8 rfl ?_
  refine J_aload_n hX dX11_shows_9 rfl ?_
  refine J_geti hX hE 0 38 rfl rfl fl_X11_212 dX11_shows_10 ?_
  refine J_icmp_ge hX dX11_shows_13 (tgt := 34) rfl (fun _ => ?_) (fun _ => ?_)
  · refine hQ8 _ _ _ _ _ ?_
    refine J_iconst hX dX11_shows_34 k_im1 ?_
    exact J_iretP hX hM dX11_shows_35
  · refine J_aload_n hX dX11_shows_16 rfl ?_
    refine J_getr hX hE 0 39 rfl rfl fl_X11_66 dX11_shows_17 ?_
    refine J_iload_n hX dX11_shows_20 rfl ?_
    refine J_iald hX hE 15 rfl dX11_shows_21 (fun _ => ?_)
    refine J_iload_n hX dX11_shows_22 rfl ?_
    refine J_icmp_ne hX dX11_shows_23 (tgt := 28) rfl (fun _ => ?_) (fun _ => ?_)
    · refine J_iinc hX dX11_shows_28 rfl (congrArg (_ + ·) k_i1) (Nat.le_of_ble_eq_true rfl) (lv' := [(0, .ref (jad G (nm 0))), (1, .int q2), (2, .int (v2_8 + 1))]) rfl ?_
      refine J_goto hX dX11_shows_31 (tgt := 8) rfl ?_
      exact J_keep [0, 1, 2] rfl (hN8 (v2_8 + 1))
    · refine J_iload_n hX dX11_shows_26 rfl ?_
      refine hQ8 _ _ _ _ _ ?_
      exact J_iretP hX hM dX11_shows_27
theorem mw_X11_shows : jMV Y_X11_shows 0 := ⟨⟨tw_tb (List.mem_of_getElem? (i := 1419) (by decide +kernel)) (by decide +kernel), tw_tb (List.mem_of_getElem? (i := 1420) (by decide +kernel)) (by decide +kernel), tw_tb (List.mem_of_getElem? (i := 13) (by decide +kernel)) (by decide +kernel), tw_tb (List.mem_of_getElem? (i := 1421) (by decide +kernel)) (by decide +kernel)⟩, ⟨rfl, rfl⟩, by decide +kernel, by decide +kernel, by decide +kernel⟩
-- X11_signal
noncomputable def f_X11_signal_L14 (nm : Nat → Nat) (v1 : Int32) (σ : jS) (v2 : Int32) : Option (Int32 ⊕ (Unit ⊕ (Int32 × jS))) :=
  if (g_i σ (nm 0) 38) ≤ v2 then
    some (.inr (.inl ()))
  else
    gd (vp_in v2 8) (
      if (g_i σ (nm 15) v2.toNatClampNeg) = v1 then
        some (.inr (.inr ((-1003), σ)))
      else
        some (.inl (v2 + 1)))
noncomputable def f_X11_signal (nm : Nat → Nat) (v1 : Int32) (σ : jS) : Option (Int32 × jS) :=
  (f_X11_areLamps nm v1 σ).bind (fun q1 =>
    if q1 = 0 then
      some ((-1001), σ)
    else
      (lp (f_X11_signal_L14 nm v1 σ) fu 0).bind (fun x => match x with
      | .inl _ =>
        if (g_i σ (nm 0) 38) = 8 then
          some ((-1004), σ)
        else
          gd (vp_in (g_i σ (nm 0) 38) 8) (bd (s_i σ (nm 15) (g_i σ (nm 0) 38).toNatClampNeg v1) (fun s2 =>
            bd (s_i s2 (nm 0) 38 ((g_i s2 (nm 0) 38) + 1)) (fun s3 =>
              some ((g_i s3 (nm 0) 38) - 1, s3))))
      | .inr a => some a))
abbrev Y_X11_signal : jY := (yX11_signal, cX11_signal, 3, some .int, { frames := 2, cells := 0, slots := 0, locals := 46 })
theorem C_X11_signal {l : Launch} {G : jG} {nm : Nat → Nat} (hG : jWL G) (hE : jE G nm LS_X11) (v1 : Int32) (σ : jS) : jC r_I l G Y_X11_signal [.ref (jad G (nm 0)), .int v1] σ (f_X11_signal nm v1 σ) := by
  refine jw_met hG pn_X11 (Nat.le_of_ble_eq_true rfl) ⟨rfl, rfl⟩ ?_
  intro X hX hM
  have hX : jB X l G cX11_signal RX11 3 { frames := 2, cells := 0, slots := 0, locals := 46 } := hX
  have hM : jM X (some .int) := hM
  show J X 0 [(0, .ref (jad G (nm 0))), (1, .int v1)] [] σ (f_X11_signal nm v1 σ) (jk r_I X)
  unfold f_X11_signal
  refine J_aload_n hX dX11_signal_0 rfl ?_
  refine J_iload_n hX dX11_signal_1 rfl ?_
  refine J_cVP hX hE 0 (C_X11_areLamps hG hE v1 σ) mw_X11_areLamps ml_X11_315 rfl rfl rfl ⟨Nat.le_of_ble_eq_true rfl, Nat.le_of_ble_eq_true rfl⟩ rfl rfl (Nat.le_of_ble_eq_true rfl) dX11_signal_2 (fun q4 => ?_)
  refine J_if_ne hX dX11_signal_5 (tgt := 12) rfl (fun _ => ?_) (fun _ => ?_)
  · refine J_iconst hX dX11_signal_12 k_i0 ?_
    refine J_istore_n hX dX11_signal_13 (Nat.le_of_ble_eq_true rfl) (lv' := [(0, .ref (jad G (nm 0))), (1, .int v1), (2, .int 0)]) rfl ?_
    refine J_keep [0, 1, 2] (lv' := [(0, .ref (jad G (nm 0))), (1, .int v1), (2, .int 0)]) rfl ?_
    refine J_lp (pc := 14) (s0 := 0) (fun (s : Int32) => [(0, .ref (jad G (nm 0))), (1, .int v1), (2, .int s)]) (fun (s : Int32) => σ) ?_
    intro KK14 hN14 hQ14 z14
    obtain ⟨v2_14, rfl⟩ : ∃ y, y = z14 := ⟨_, rfl⟩
    show J X 14 [(0, .ref (jad G (nm 0))), (1, .int v1), (2, .int v2_14)] [] σ (f_X11_signal_L14 nm v1 σ v2_14) KK14
    unfold f_X11_signal_L14
    refine J_iload_n hX dX11_signal_14 rfl ?_
    refine J_aload_n hX dX11_signal_15 rfl ?_
    refine J_geti hX hE 0 38 rfl rfl fl_X11_212 dX11_signal_16 ?_
    refine J_icmp_ge hX dX11_signal_19 (tgt := 42) rfl (fun _ => ?_) (fun _ => ?_)
    · refine hQ14 _ _ _ _ _ ?_
      refine J_aload_n hX dX11_signal_42 rfl ?_
      refine J_geti hX hE 0 38 rfl rfl fl_X11_212 dX11_signal_43 ?_
      refine J_bipush hX dX11_signal_46 kb_8 ?_
      refine J_icmp_ne hX dX11_signal_48 (tgt := 55) rfl (fun _ => ?_) (fun _ => ?_)
      · refine J_aload_n hX dX11_signal_55 rfl ?_
        refine J_getr hX hE 0 39 rfl rfl fl_X11_66 dX11_signal_56 ?_
        refine J_aload_n hX dX11_signal_59 rfl ?_
        refine J_geti hX hE 0 38 rfl rfl fl_X11_212 dX11_signal_60 ?_
        refine J_iload_n hX dX11_signal_63 rfl ?_
        refine J_iast hX hE 15 rfl dX11_signal_64 (fun _ => ?_)
        refine J_bdS (fun s5 => ?_)
        refine J_aload_n hX dX11_signal_65 rfl ?_
        refine J_dup hX dX11_signal_66 rfl ?_
        refine J_geti hX hE 0 38 rfl rfl fl_X11_212 dX11_signal_67 ?_
        refine J_iconst hX dX11_signal_70 k_i1 ?_
        refine J_iadd hX dX11_signal_71 ?_
        refine J_puti hX hE 0 38 rfl rfl fp_X11_212 dX11_signal_72 ?_
        refine J_bdS (fun s6 => ?_)
        refine J_aload_n hX dX11_signal_75 rfl ?_
        refine J_geti hX hE 0 38 rfl rfl fl_X11_212 dX11_signal_76 ?_
        refine J_iconst hX dX11_signal_79 k_i1 ?_
        refine J_isub hX dX11_signal_80 ?_
        exact J_iret hX hM dX11_signal_81
      · refine J_sipush hX dX11_signal_51 ks_m1004 ?_
        exact J_iret hX hM dX11_signal_54
    · refine J_aload_n hX dX11_signal_22 rfl ?_
      refine J_getr hX hE 0 39 rfl rfl fl_X11_66 dX11_signal_23 ?_
      refine J_iload_n hX dX11_signal_26 rfl ?_
      refine J_iald hX hE 15 rfl dX11_signal_27 (fun _ => ?_)
      refine J_iload_n hX dX11_signal_28 rfl ?_
      refine J_icmp_ne hX dX11_signal_29 (tgt := 36) rfl (fun _ => ?_) (fun _ => ?_)
      · refine J_iinc hX dX11_signal_36 rfl (congrArg (_ + ·) k_i1) (Nat.le_of_ble_eq_true rfl) (lv' := [(0, .ref (jad G (nm 0))), (1, .int v1), (2, .int (v2_14 + 1))]) rfl ?_
        refine J_goto hX dX11_signal_39 (tgt := 14) rfl ?_
        exact J_keep [0, 1, 2] rfl (hN14 (v2_14 + 1))
      · refine J_sipush hX dX11_signal_32 ks_m1003 ?_
        refine hQ14 _ _ _ _ _ ?_
        exact J_iret hX hM dX11_signal_35
  · refine J_sipush hX dX11_signal_8 ks_m1001 ?_
    exact J_iret hX hM dX11_signal_11
theorem mw_X11_signal : jMV Y_X11_signal 1 := ⟨⟨tw_tb (List.mem_of_getElem? (i := 1407) (by decide +kernel)) (by decide +kernel), tw_tb (List.mem_of_getElem? (i := 1408) (by decide +kernel)) (by decide +kernel), tw_tb (List.mem_of_getElem? (i := 13) (by decide +kernel)) (by decide +kernel), tw_tb (List.mem_of_getElem? (i := 1409) (by decide +kernel)) (by decide +kernel)⟩, ⟨rfl, rfl⟩, by decide +kernel, by decide +kernel, by decide +kernel⟩
-- X11_singer
noncomputable def f_X11_singer (nm : Nat → Nat) (v1 : Int32) (v2 : Int32) (σ : jS) : Option Int32 :=
  (f_X11_in (v1.toInt64) 0 (((g_i σ (nm 0) 8) - 1).toInt64)).bind (fun q1 =>
    if q1 = 0 then
      some (-1001)
    else
      (f_X11_in (v2.toInt64) 0 3).bind (fun q2 =>
        if q2 = 0 then
          some (-1002)
        else
          gd (vp_in ((4 * v1) + v2) 32) (
            some (g_i σ (nm 5) ((4 * v1) + v2).toNatClampNeg))))
abbrev Y_X11_singer : jY := (yX11_singer, cX11_singer, 3, some .int, { frames := 1, cells := 0, slots := 0, locals := 25 })
theorem C_X11_singer {l : Launch} {G : jG} {nm : Nat → Nat} (hG : jWL G) (hE : jE G nm LS_X11) (v1 : Int32) (v2 : Int32) (σ : jS) : jC (r_P σ) l G Y_X11_singer [.ref (jad G (nm 0)), .int v1, .int v2] σ (f_X11_singer nm v1 v2 σ) := by
  refine jw_met hG pn_X11 (Nat.le_of_ble_eq_true rfl) ⟨rfl, rfl⟩ ?_
  intro X hX hM
  have hX : jB X l G cX11_singer RX11 3 { frames := 1, cells := 0, slots := 0, locals := 25 } := hX
  have hM : jM X (some .int) := hM
  show J X 0 [(0, .ref (jad G (nm 0))), (1, .int v1), (2, .int v2)] [] σ (f_X11_singer nm v1 v2 σ) (jk (r_P σ) X)
  unfold f_X11_singer
  refine J_iload_n hX dX11_singer_0 rfl ?_
  refine J_i2l hX dX11_singer_1 ?_
  refine J_lconst hX dX11_singer_2 k_l0 ?_
  refine J_aload_n hX dX11_singer_3 rfl ?_
  refine J_geti hX hE 0 8 rfl rfl fl_X11_206 dX11_singer_4 ?_
  refine J_iconst hX dX11_singer_7 k_i1 ?_
  refine J_isub hX dX11_singer_8 ?_
  refine J_i2l hX dX11_singer_9 ?_
  refine J_cSP hX (C_X11_in hG (v1.toInt64) 0 (((g_i σ (nm 0) 8) - 1).toInt64) σ) mw_X11_in ml_X11_107 ⟨Nat.le_of_ble_eq_true rfl, Nat.le_of_ble_eq_true rfl⟩ rfl rfl (Nat.le_of_ble_eq_true rfl) dX11_singer_10 (fun q3 => ?_)
  refine J_if_ne hX dX11_singer_13 (tgt := 20) rfl (fun _ => ?_) (fun _ => ?_)
  · refine J_iload_n hX dX11_singer_20 rfl ?_
    refine J_i2l hX dX11_singer_21 ?_
    refine J_lconst hX dX11_singer_22 k_l0 ?_
    refine J_ldc2 hX wl_X11_249 dX11_singer_23 ?_
    refine J_cSP hX (C_X11_in hG (v2.toInt64) 0 3 σ) mw_X11_in ml_X11_107 ⟨Nat.le_of_ble_eq_true rfl, Nat.le_of_ble_eq_true rfl⟩ rfl rfl (Nat.le_of_ble_eq_true rfl) dX11_singer_26 (fun q4 => ?_)
    refine J_if_eq hX dX11_singer_29 (tgt := 45) rfl (fun _ => ?_) (fun _ => ?_)
    · refine J_sipush hX dX11_singer_45 ks_m1002 ?_
      exact J_iretP hX hM dX11_singer_48
    · refine J_aload_n hX dX11_singer_32 rfl ?_
      refine J_getr hX hE 0 9 rfl rfl fl_X11_32 dX11_singer_33 ?_
      refine J_iconst hX dX11_singer_36 k_i4 ?_
      refine J_iload_n hX dX11_singer_37 rfl ?_
      refine J_imul hX dX11_singer_38 ?_
      refine J_iload_n hX dX11_singer_39 rfl ?_
      refine J_iadd hX dX11_singer_40 ?_
      refine J_iald hX hE 5 rfl dX11_singer_41 (fun _ => ?_)
      refine J_goto hX dX11_singer_42 (tgt := 48) rfl ?_
      exact J_iretP hX hM dX11_singer_48
  · refine J_sipush hX dX11_singer_16 ks_m1001 ?_
    exact J_iretP hX hM dX11_singer_19
theorem mw_X11_singer : jMV Y_X11_singer 2 := ⟨⟨tw_tb (List.mem_of_getElem? (i := 1312) (by decide +kernel)) (by decide +kernel), tw_tb (List.mem_of_getElem? (i := 1313) (by decide +kernel)) (by decide +kernel), tw_tb (List.mem_of_getElem? (i := 13) (by decide +kernel)) (by decide +kernel), tw_tb (List.mem_of_getElem? (i := 1314) (by decide +kernel)) (by decide +kernel)⟩, ⟨rfl, rfl⟩, by decide +kernel, by decide +kernel, by decide +kernel⟩
-- X11_sweep
noncomputable def f_X11_sweep (nm : Nat → Nat) (v1 : Int32) (σ : jS) : Option (Int32 × jS) :=
  (f_X11_isLamp nm v1 σ).bind (fun q1 =>
    if q1 = 0 then
      some ((-1001), σ)
    else
      gd (vp_in v1 10) (
        bd (g_i σ (nm 3) v1.toNatClampNeg) (fun x2 =>
          gd (vp_in v1 10) (bd (s_i σ (nm 3) v1.toNatClampNeg 0) (fun s3 =>
            some (x2, s3))))))
abbrev Y_X11_sweep : jY := (yX11_sweep, cX11_sweep, 3, some .int, { frames := 2, cells := 0, slots := 0, locals := 46 })
theorem C_X11_sweep {l : Launch} {G : jG} {nm : Nat → Nat} (hG : jWL G) (hE : jE G nm LS_X11) (v1 : Int32) (σ : jS) : jC r_I l G Y_X11_sweep [.ref (jad G (nm 0)), .int v1] σ (f_X11_sweep nm v1 σ) := by
  refine jw_met hG pn_X11 (Nat.le_of_ble_eq_true rfl) ⟨rfl, rfl⟩ ?_
  intro X hX hM
  have hX : jB X l G cX11_sweep RX11 3 { frames := 2, cells := 0, slots := 0, locals := 46 } := hX
  have hM : jM X (some .int) := hM
  show J X 0 [(0, .ref (jad G (nm 0))), (1, .int v1)] [] σ (f_X11_sweep nm v1 σ) (jk r_I X)
  unfold f_X11_sweep
  refine J_aload_n hX dX11_sweep_0 rfl ?_
  refine J_iload_n hX dX11_sweep_1 rfl ?_
  refine J_cVP hX hE 0 (C_X11_isLamp hG hE v1 σ) mw_X11_isLamp ml_X11_242 rfl rfl rfl ⟨Nat.le_of_ble_eq_true rfl, Nat.le_of_ble_eq_true rfl⟩ rfl rfl (Nat.le_of_ble_eq_true rfl) dX11_sweep_2 (fun q4 => ?_)
  refine J_if_ne hX dX11_sweep_5 (tgt := 12) rfl (fun _ => ?_) (fun _ => ?_)
  · refine J_aload_n hX dX11_sweep_12 rfl ?_
    refine J_getr hX hE 0 3 rfl rfl fl_X11_16 dX11_sweep_13 ?_
    refine J_iload_n hX dX11_sweep_16 rfl ?_
    refine J_iald hX hE 3 rfl dX11_sweep_17 (fun _ => ?_)
    refine J_bdI (fun x5 => ?_)
    refine J_istore_n hX dX11_sweep_18 (Nat.le_of_ble_eq_true rfl) (lv' := [(0, .ref (jad G (nm 0))), (1, .int v1), (2, .int x5)]) rfl ?_
    refine J_aload_n hX dX11_sweep_19 rfl ?_
    refine J_getr hX hE 0 3 rfl rfl fl_X11_16 dX11_sweep_20 ?_
    refine J_iload_n hX dX11_sweep_23 rfl ?_
    refine J_iconst hX dX11_sweep_24 k_i0 ?_
    refine J_iast hX hE 3 rfl dX11_sweep_25 (fun _ => ?_)
    refine J_bdS (fun s6 => ?_)
    refine J_iload_n hX dX11_sweep_26 rfl ?_
    exact J_iret hX hM dX11_sweep_27
  · refine J_sipush hX dX11_sweep_8 ks_m1001 ?_
    exact J_iret hX hM dX11_sweep_11
theorem mw_X11_sweep : jMV Y_X11_sweep 1 := ⟨⟨tw_tb (List.mem_of_getElem? (i := 1379) (by decide +kernel)) (by decide +kernel), tw_tb (List.mem_of_getElem? (i := 1380) (by decide +kernel)) (by decide +kernel), tw_tb (List.mem_of_getElem? (i := 13) (by decide +kernel)) (by decide +kernel), tw_tb (List.mem_of_getElem? (i := 1381) (by decide +kernel)) (by decide +kernel)⟩, ⟨rfl, rfl⟩, by decide +kernel, by decide +kernel, by decide +kernel⟩
-- X11_told
noncomputable def f_X11_told (nm : Nat → Nat) (v1 : Int32) (σ : jS) : Option Int32 :=
  if v1 = 0 then
    some (g_i σ (nm 0) 0)
  else
    if v1 = 1 then
      some (g_i σ (nm 0) 8)
    else
      if v1 = 2 then
        some (g_i σ (nm 0) 10)
      else
        if v1 = 3 then
          some (g_i σ (nm 0) 12)
        else
          if v1 = 4 then
            some (g_i σ (nm 0) 38)
          else
            if v1 = 5 then
              some (g_i σ (nm 0) 47)
            else
              if v1 = 6 then
                some (g_i σ (nm 0) 19)
              else
                if v1 = 7 then
                  some (g_i σ (nm 0) 5)
                else
                  if v1 = 8 then
                    some (g_i σ (nm 0) 6)
                  else
                    if v1 = 9 then
                      some (g_i σ (nm 0) 7)
                    else
                      if v1 = 10 then
                        some (g_i σ (nm 0) 14)
                      else
                        if v1 = 11 then
                          some (g_i σ (nm 0) 15)
                        else
                          if v1 = 12 then
                            some (g_i σ (nm 0) 16)
                          else
                            some (-1002)
abbrev Y_X11_told : jY := (yX11_told, cX11_told, 2, some .int, { frames := 0, cells := 0, slots := 0, locals := 0 })
theorem C_X11_told {l : Launch} {G : jG} {nm : Nat → Nat} (hG : jWL G) (hE : jE G nm LS_X11) (v1 : Int32) (σ : jS) : jC (r_P σ) l G Y_X11_told [.ref (jad G (nm 0)), .int v1] σ (f_X11_told nm v1 σ) := by
  refine jw_met hG pn_X11 (Nat.le_of_ble_eq_true rfl) ⟨rfl, rfl⟩ ?_
  intro X hX hM
  have hX : jB X l G cX11_told RX11 2 { frames := 0, cells := 0, slots := 0, locals := 0 } := hX
  have hM : jM X (some .int) := hM
  show J X 0 [(0, .ref (jad G (nm 0))), (1, .int v1)] [] σ (f_X11_told nm v1 σ) (jk (r_P σ) X)
  unfold f_X11_told
  refine J_iload_n hX dX11_told_0 rfl ?_
  refine J_case (fun _ => ?_) (fun h1_0 => ?_)
  · refine J_tin hX dX11_told_1 (tgt := 68) (by decide) (by decide) (off := 67) rfl rfl ?_
    refine J_aload_n hX dX11_told_68 rfl ?_
    refine J_geti hX hE 0 0 rfl rfl fl_X11_104 dX11_told_69 ?_
    exact J_iretP hX hM dX11_told_72
  · refine J_case (fun _ => ?_) (fun h1_1 => ?_)
    · refine J_tin hX dX11_told_1 (tgt := 73) (by decide) (by decide) (off := 72) rfl rfl ?_
      refine J_aload_n hX dX11_told_73 rfl ?_
      refine J_geti hX hE 0 8 rfl rfl fl_X11_206 dX11_told_74 ?_
      exact J_iretP hX hM dX11_told_77
    · refine J_case (fun _ => ?_) (fun h1_2 => ?_)
      · refine J_tin hX dX11_told_1 (tgt := 78) (by decide) (by decide) (off := 77) rfl rfl ?_
        refine J_aload_n hX dX11_told_78 rfl ?_
        refine J_geti hX hE 0 10 rfl rfl fl_X11_209 dX11_told_79 ?_
        exact J_iretP hX hM dX11_told_82
      · refine J_case (fun _ => ?_) (fun h1_3 => ?_)
        · refine J_tin hX dX11_told_1 (tgt := 83) (by decide) (by decide) (off := 82) rfl rfl ?_
          refine J_aload_n hX dX11_told_83 rfl ?_
          refine J_geti hX hE 0 12 rfl rfl fl_X11_239 dX11_told_84 ?_
          exact J_iretP hX hM dX11_told_87
        · refine J_case (fun _ => ?_) (fun h1_4 => ?_)
          · refine J_tin hX dX11_told_1 (tgt := 88) (by decide) (by decide) (off := 87) rfl rfl ?_
            refine J_aload_n hX dX11_told_88 rfl ?_
            refine J_geti hX hE 0 38 rfl rfl fl_X11_212 dX11_told_89 ?_
            exact J_iretP hX hM dX11_told_92
          · refine J_case (fun _ => ?_) (fun h1_5 => ?_)
            · refine J_tin hX dX11_told_1 (tgt := 93) (by decide) (by decide) (off := 92) rfl rfl ?_
              refine J_aload_n hX dX11_told_93 rfl ?_
              refine J_geti hX hE 0 47 rfl rfl fl_X11_215 dX11_told_94 ?_
              exact J_iretP hX hM dX11_told_97
            · refine J_case (fun _ => ?_) (fun h1_6 => ?_)
              · refine J_tin hX dX11_told_1 (tgt := 98) (by decide) (by decide) (off := 97) rfl rfl ?_
                refine J_aload_n hX dX11_told_98 rfl ?_
                refine J_geti hX hE 0 19 rfl rfl fl_X11_119 dX11_told_99 ?_
                exact J_iretP hX hM dX11_told_102
              · refine J_case (fun _ => ?_) (fun h1_7 => ?_)
                · refine J_tin hX dX11_told_1 (tgt := 103) (by decide) (by decide) (off := 102) rfl rfl ?_
                  refine J_aload_n hX dX11_told_103 rfl ?_
                  refine J_geti hX hE 0 5 rfl rfl fl_X11_22 dX11_told_104 ?_
                  exact J_iretP hX hM dX11_told_107
                · refine J_case (fun _ => ?_) (fun h1_8 => ?_)
                  · refine J_tin hX dX11_told_1 (tgt := 108) (by decide) (by decide) (off := 107) rfl rfl ?_
                    refine J_aload_n hX dX11_told_108 rfl ?_
                    refine J_geti hX hE 0 6 rfl rfl fl_X11_26 dX11_told_109 ?_
                    exact J_iretP hX hM dX11_told_112
                  · refine J_case (fun _ => ?_) (fun h1_9 => ?_)
                    · refine J_tin hX dX11_told_1 (tgt := 113) (by decide) (by decide) (off := 112) rfl rfl ?_
                      refine J_aload_n hX dX11_told_113 rfl ?_
                      refine J_geti hX hE 0 7 rfl rfl fl_X11_29 dX11_told_114 ?_
                      exact J_iretP hX hM dX11_told_117
                    · refine J_case (fun _ => ?_) (fun h1_10 => ?_)
                      · refine J_tin hX dX11_told_1 (tgt := 118) (by decide) (by decide) (off := 117) rfl rfl ?_
                        refine J_aload_n hX dX11_told_118 rfl ?_
                        refine J_geti hX hE 0 14 rfl rfl fl_X11_227 dX11_told_119 ?_
                        exact J_iretP hX hM dX11_told_122
                      · refine J_case (fun _ => ?_) (fun h1_11 => ?_)
                        · refine J_tin hX dX11_told_1 (tgt := 123) (by decide) (by decide) (off := 122) rfl rfl ?_
                          refine J_aload_n hX dX11_told_123 rfl ?_
                          refine J_geti hX hE 0 15 rfl rfl fl_X11_218 dX11_told_124 ?_
                          exact J_iretP hX hM dX11_told_127
                        · refine J_case (fun _ => ?_) (fun h1_12 => ?_)
                          · refine J_tin hX dX11_told_1 (tgt := 128) (by decide) (by decide) (off := 127) rfl rfl ?_
                            refine J_aload_n hX dX11_told_128 rfl ?_
                            refine J_geti hX hE 0 16 rfl rfl fl_X11_221 dX11_told_129 ?_
                            exact J_iretP hX hM dX11_told_132
                          · refine J_tout hX dX11_told_1 (tgt := 133) (jt_out13 h1_0 h1_1 h1_2 h1_3 h1_4 h1_5 h1_6 h1_7 h1_8 h1_9 h1_10 h1_11 h1_12) rfl ?_
                            refine J_sipush hX dX11_told_133 ks_m1002 ?_
                            exact J_iretP hX hM dX11_told_136
theorem mw_X11_told : jMV Y_X11_told 1 := ⟨⟨tw_tb (List.mem_of_getElem? (i := 1296) (by decide +kernel)) (by decide +kernel), tw_tb (List.mem_of_getElem? (i := 1297) (by decide +kernel)) (by decide +kernel), tw_tb (List.mem_of_getElem? (i := 13) (by decide +kernel)) (by decide +kernel), tw_tb (List.mem_of_getElem? (i := 1298) (by decide +kernel)) (by decide +kernel)⟩, ⟨rfl, rfl⟩, by decide +kernel, by decide +kernel, by decide +kernel⟩
-- X11_tuneBy
noncomputable def f_X11_tuneBy (nm : Nat → Nat) (v1 : Int32) (v2 : Int32) (v3 : Int32) (σ : jS) : Option Int32 :=
  gd (vp_in ((4 * v2) + 1) 40) (
    if v3 < (g_i σ (nm 1) ((4 * v2) + 1).toNatClampNeg) then
      some 1000000
    else
      gd (vp_in ((4 * v2) + 1) 40) (
        gd (vp_in (v1 ||| (1 <<< (v2 &&& 31))) 1024) (
          some ((v3 - (g_i σ (nm 1) ((4 * v2) + 1).toNatClampNeg)) + (g_i σ (nm 22) (v1 ||| (1 <<< (v2 &&& 31))).toNatClampNeg)))))
abbrev Y_X11_tuneBy : jY := (yX11_tuneBy, cX11_tuneBy, 4, some .int, { frames := 0, cells := 0, slots := 0, locals := 0 })
theorem C_X11_tuneBy {l : Launch} {G : jG} {nm : Nat → Nat} (hG : jWL G) (hE : jE G nm LS_X11) (v1 : Int32) (v2 : Int32) (v3 : Int32) (σ : jS) : jC (r_P σ) l G Y_X11_tuneBy [.ref (jad G (nm 0)), .int v1, .int v2, .int v3] σ (f_X11_tuneBy nm v1 v2 v3 σ) := by
  refine jw_met hG pn_X11 (Nat.le_of_ble_eq_true rfl) ⟨rfl, rfl⟩ ?_
  intro X hX hM
  have hX : jB X l G cX11_tuneBy RX11 4 { frames := 0, cells := 0, slots := 0, locals := 0 } := hX
  have hM : jM X (some .int) := hM
  show J X 0 [(0, .ref (jad G (nm 0))), (1, .int v1), (2, .int v2), (3, .int v3)] [] σ (f_X11_tuneBy nm v1 v2 v3 σ) (jk (r_P σ) X)
  unfold f_X11_tuneBy
  refine J_aload_n hX dX11_tuneBy_0 rfl ?_
  refine J_getr hX hE 0 1 rfl rfl fl_X11_7 dX11_tuneBy_1 ?_
  refine J_iconst hX dX11_tuneBy_4 k_i4 ?_
  refine J_iload_n hX dX11_tuneBy_5 rfl ?_
  refine J_imul hX dX11_tuneBy_6 ?_
  refine J_iconst hX dX11_tuneBy_7 k_i1 ?_
  refine J_iadd hX dX11_tuneBy_8 ?_
  refine J_iald hX hE 1 rfl dX11_tuneBy_9 (fun _ => ?_)
  refine J_iload_n hX dX11_tuneBy_10 rfl ?_
  refine J_icmp_gt hX dX11_tuneBy_11 (tgt := 40) rfl (fun _ => ?_) (fun _ => ?_)
  · refine J_ldcw hX wc_X11_296 dX11_tuneBy_40 ?_
    exact J_iretP hX hM dX11_tuneBy_43
  · refine J_iload_n hX dX11_tuneBy_14 rfl ?_
    refine J_aload_n hX dX11_tuneBy_15 rfl ?_
    refine J_getr hX hE 0 1 rfl rfl fl_X11_7 dX11_tuneBy_16 ?_
    refine J_iconst hX dX11_tuneBy_19 k_i4 ?_
    refine J_iload_n hX dX11_tuneBy_20 rfl ?_
    refine J_imul hX dX11_tuneBy_21 ?_
    refine J_iconst hX dX11_tuneBy_22 k_i1 ?_
    refine J_iadd hX dX11_tuneBy_23 ?_
    refine J_iald hX hE 1 rfl dX11_tuneBy_24 (fun _ => ?_)
    refine J_isub hX dX11_tuneBy_25 ?_
    refine J_aload_n hX dX11_tuneBy_26 rfl ?_
    refine J_getr hX hE 0 46 rfl rfl fl_X11_89 dX11_tuneBy_27 ?_
    refine J_iload_n hX dX11_tuneBy_30 rfl ?_
    refine J_iconst hX dX11_tuneBy_31 k_i1 ?_
    refine J_iload_n hX dX11_tuneBy_32 rfl ?_
    refine J_ishl hX dX11_tuneBy_33 ?_
    refine J_ior hX dX11_tuneBy_34 ?_
    refine J_iald hX hE 22 rfl dX11_tuneBy_35 (fun _ => ?_)
    refine J_iadd hX dX11_tuneBy_36 ?_
    refine J_goto hX dX11_tuneBy_37 (tgt := 43) rfl ?_
    exact J_iretP hX hM dX11_tuneBy_43
theorem mw_X11_tuneBy : jMV Y_X11_tuneBy 3 := ⟨⟨tw_tb (List.mem_of_getElem? (i := 1483) (by decide +kernel)) (by decide +kernel), tw_pv (List.mem_of_getElem? (i := 64) (by decide +kernel)) (by decide +kernel), tw_tb (List.mem_of_getElem? (i := 13) (by decide +kernel)) (by decide +kernel), tw_tb (List.mem_of_getElem? (i := 1484) (by decide +kernel)) (by decide +kernel)⟩, ⟨rfl, rfl⟩, by decide +kernel, by decide +kernel, by decide +kernel⟩
-- X11_tuned
noncomputable def f_X11_tuned_J170 (nm : Nat → Nat) (v1 : Int32) (v2 : Int32) (v3 : Int32) (v4 : Int32) (v5 : Int32) (v6 : Int32) (v7 : Int32) (t1 : Int32) (t2 : Int32) (σ : jS) : Option ((Int32 × jS) ⊕ jS) :=
  gd (vp_in t1 1024) (bd (s_i σ (nm 22) t1.toNatClampNeg t2) (fun s12 =>
    some (.inl (v7 + 1, s12))))
noncomputable def f_X11_tuned_L105 (nm : Nat → Nat) (v1 : Int32) (v2 : Int32) (v3 : Int32) (v4 : Int32) (v5 : Int32) (v6 : Int32) (s : (Int32 × jS)) : Option ((Int32 × jS) ⊕ jS) :=
  match s with
  | (v7, σ) =>
    if (g_i σ (nm 0) 0) ≤ v7 then
      some (.inr σ)
    else
      if v3 ≤ v6 then
        some (.inr σ)
      else
        (f_X11_has v5 v7).bind (fun q8 =>
          (if q8 = 0 then
            gd (vp_in v5 1024) (
              (f_X11_tuneBy nm v5 v7 (v1 + (v2 * v6)) σ).bind (fun q9 =>
                (f_X11_lesser (g_i σ (nm 22) v5.toNatClampNeg) q9).bind (fun q10 =>
                  some q10)))
          else
            gd (vp_in v5 1024) (
              some (g_i σ (nm 22) v5.toNatClampNeg))).bind (fun y11 =>
            f_X11_tuned_J170 nm v1 v2 v3 v4 v5 v6 v7 v5 y11 σ))
noncomputable def f_X11_tuned_J101 (nm : Nat → Nat) (v1 : Int32) (v2 : Int32) (v3 : Int32) (v4 : Int32) (v5 : Int32) (v6 : Int32) (t1 : Int32) (t2 : Int32) (σ : jS) : Option ((Int32 × jS) ⊕ jS) :=
  gd (vp_in t1 1024) (bd (s_i σ (nm 22) t1.toNatClampNeg t2) (fun s7 =>
    (lp (f_X11_tuned_L105 nm v1 v2 v3 v4 v5 v6) fu (0, s7)).bind (fun s13 =>
      some (.inl (v5 + (-1), s13)))))
noncomputable def f_X11_tuned_L70 (nm : Nat → Nat) (v1 : Int32) (v2 : Int32) (v3 : Int32) (v4 : Int32) (s : (Int32 × jS)) : Option ((Int32 × jS) ⊕ jS) :=
  match s with
  | (v5, σ) =>
    if v5 < 0 then
      some (.inr σ)
    else
      (f_X11_bits v5).bind (fun q5 =>
        (if q5 < v3 then
          some 1000000
        else
          some 0).bind (fun y6 =>
          f_X11_tuned_J101 nm v1 v2 v3 v4 v5 q5 v5 y6 σ))
noncomputable def f_X11_tuned_J201 (nm : Nat → Nat) (σ : jS) : Option (Int32 × jS) :=
  gd (vp_in 0 1024) (
    if (g_i σ (nm 22) (0 : Int32).toNatClampNeg) < 1000000 then
      gd (vp_in 0 1024) (
        some (g_i σ (nm 22) (0 : Int32).toNatClampNeg, σ))
    else
      some ((-1), σ))
noncomputable def f_X11_tuned_L259 (nm : Nat → Nat) (v1 : Int32) (v2 : Int32) (v4 : Int32) (v5 : Int32) (v7 : Int32) (σ : jS) (v6 : Int32) : Option (Int32 ⊕ Int32) :=
  (f_X11_has v5 v6).bind (fun q16 =>
    if q16 = 0 then
      (f_X11_tuneBy nm v5 v6 (v1 + (v2 * v7)) σ).bind (fun q17 =>
        gd (vp_in v5 1024) (
          if q17 = (g_i σ (nm 22) v5.toNatClampNeg) then
            some (.inr v6)
          else
            some (.inl (v6 + 1))))
    else
      some (.inl (v6 + 1)))
noncomputable def f_X11_tuned_L249 (nm : Nat → Nat) (v1 : Int32) (v2 : Int32) (v4 : Int32) (σ : jS) (s : (Int32 × Int32 × Int32)) : Option ((Int32 × Int32 × Int32) ⊕ Int32) :=
  match s with
  | (v5, v6, v7) =>
    if v4 < v7 then
      some (.inr v6)
    else
      (lp (f_X11_tuned_L259 nm v1 v2 v4 v5 v7 σ) fu 0).bind (fun e18 =>
        bd (v5 ||| (1 <<< (e18 &&& 31))) (fun x19 =>
          some (.inl (x19, e18, v7 + 1))))
noncomputable def f_X11_tuned (nm : Nat → Nat) (v1 : Int32) (v2 : Int32) (v3 : Int32) (v4 : Int32) (σ : jS) : Option (Int32 × jS) :=
  (f_X11_in (v1.toInt64) 0 63).bind (fun q1 =>
    if q1 = 0 then
      some ((-1002), σ)
    else
      (f_X11_in (v2.toInt64) 1 9).bind (fun q2 =>
        if q2 = 0 then
          some ((-1002), σ)
        else
          (f_X11_in (v3.toInt64) 1 10).bind (fun q3 =>
            if q3 = 0 then
              some ((-1002), σ)
            else
              if (g_i σ (nm 0) 0) < v3 then
                some ((-1003), σ)
              else
                if (v1 + (v2 * (v3 - 1))) ≤ 63 then
                  (f_X11_all nm σ).bind (fun q4 =>
                    (lp (f_X11_tuned_L70 nm v1 v2 v3 v4) fu (q4, σ)).bind (fun s14 =>
                      gd (vp_in 0 1024) (
                        if 1000000 ≤ (g_i s14 (nm 22) (0 : Int32).toNatClampNeg) then
                          f_X11_tuned_J201 nm s14
                        else
                          if v4 = (-1) then
                            f_X11_tuned_J201 nm s14
                          else
                            (f_X11_in (v4.toInt64) 0 ((v3 - 1).toInt64)).bind (fun q15 =>
                              if q15 = 0 then
                                some ((-1), s14)
                              else
                                (lp (f_X11_tuned_L249 nm v1 v2 v4 s14) fu (0, (-1), 0)).bind (fun e20 =>
                                  some (e20, s14))))))
                else
                  some ((-1003), σ))))
abbrev Y_X11_tuned : jY := (yX11_tuned, cX11_tuned, 8, some .int, { frames := 1, cells := 0, slots := 0, locals := 25 })
theorem C_X11_tuned {l : Launch} {G : jG} {nm : Nat → Nat} (hG : jWL G) (hE : jE G nm LS_X11) (v1 : Int32) (v2 : Int32) (v3 : Int32) (v4 : Int32) (σ : jS) : jC r_I l G Y_X11_tuned [.ref (jad G (nm 0)), .int v1, .int v2, .int v3, .int v4] σ (f_X11_tuned nm v1 v2 v3 v4 σ) := by
  refine jw_met hG pn_X11 (Nat.le_of_ble_eq_true rfl) ⟨rfl, rfl⟩ ?_
  intro X hX hM
  have hX : jB X l G cX11_tuned RX11 8 { frames := 1, cells := 0, slots := 0, locals := 25 } := hX
  have hM : jM X (some .int) := hM
  show J X 0 [(0, .ref (jad G (nm 0))), (1, .int v1), (2, .int v2), (3, .int v3), (4, .int v4)] [] σ (f_X11_tuned nm v1 v2 v3 v4 σ) (jk r_I X)
  have hJ201 : ∀ (σ : jS), J X 201 [(0, .ref (jad G (nm 0)))] [] σ (f_X11_tuned_J201 nm σ) (jk r_I X) := by
    intro σ
    unfold f_X11_tuned_J201
    refine J_aload_n hX dX11_tuned_201 rfl ?_
    refine J_getr hX hE 0 46 rfl rfl fl_X11_89 dX11_tuned_202 ?_
    refine J_iconst hX dX11_tuned_205 k_i0 ?_
    refine J_iald hX hE 22 rfl dX11_tuned_206 (fun _ => ?_)
    refine J_ldcw hX wc_X11_296 dX11_tuned_207 ?_
    refine J_icmp_lt hX dX11_tuned_210 (tgt := 217) rfl (fun _ => ?_) (fun _ => ?_)
    · refine J_aload_n hX dX11_tuned_217 rfl ?_
      refine J_getr hX hE 0 46 rfl rfl fl_X11_89 dX11_tuned_218 ?_
      refine J_iconst hX dX11_tuned_221 k_i0 ?_
      refine J_iald hX hE 22 rfl dX11_tuned_222 (fun _ => ?_)
      exact J_iret hX hM dX11_tuned_223
    · refine J_iconst hX dX11_tuned_213 k_im1 ?_
      refine J_goto hX dX11_tuned_214 (tgt := 223) rfl ?_
      exact J_iret hX hM dX11_tuned_223
  unfold f_X11_tuned
  refine J_iload_n hX dX11_tuned_0 rfl ?_
  refine J_i2l hX dX11_tuned_1 ?_
  refine J_lconst hX dX11_tuned_2 k_l0 ?_
  refine J_ldc2 hX wl_X11_263 dX11_tuned_3 ?_
  refine J_cSP hX (C_X11_in hG (v1.toInt64) 0 63 σ) mw_X11_in ml_X11_107 ⟨Nat.le_of_ble_eq_true rfl, Nat.le_of_ble_eq_true rfl⟩ rfl rfl (Nat.le_of_ble_eq_true rfl) dX11_tuned_6 (fun q21 => ?_)
  refine J_if_eq hX dX11_tuned_9 (tgt := 36) rfl (fun _ => ?_) (fun _ => ?_)
  · refine J_sipush hX dX11_tuned_36 ks_m1002 ?_
    exact J_iret hX hM dX11_tuned_39
  · refine J_iload_n hX dX11_tuned_12 rfl ?_
    refine J_i2l hX dX11_tuned_13 ?_
    refine J_lconst hX dX11_tuned_14 k_l1 ?_
    refine J_ldc2 hX wl_X11_259 dX11_tuned_15 ?_
    refine J_cSP hX (C_X11_in hG (v2.toInt64) 1 9 σ) mw_X11_in ml_X11_107 ⟨Nat.le_of_ble_eq_true rfl, Nat.le_of_ble_eq_true rfl⟩ rfl rfl (Nat.le_of_ble_eq_true rfl) dX11_tuned_18 (fun q22 => ?_)
    refine J_if_eq hX dX11_tuned_21 (tgt := 36) rfl (fun _ => ?_) (fun _ => ?_)
    · refine J_sipush hX dX11_tuned_36 ks_m1002 ?_
      exact J_iret hX hM dX11_tuned_39
    · refine J_iload_n hX dX11_tuned_24 rfl ?_
      refine J_i2l hX dX11_tuned_25 ?_
      refine J_lconst hX dX11_tuned_26 k_l1 ?_
      refine J_ldc2 hX wl_X11_338 dX11_tuned_27 ?_
      refine J_cSP hX (C_X11_in hG (v3.toInt64) 1 10 σ) mw_X11_in ml_X11_107 ⟨Nat.le_of_ble_eq_true rfl, Nat.le_of_ble_eq_true rfl⟩ rfl rfl (Nat.le_of_ble_eq_true rfl) dX11_tuned_30 (fun q23 => ?_)
      refine J_if_ne hX dX11_tuned_33 (tgt := 40) rfl (fun _ => ?_) (fun _ => ?_)
      · refine J_iload_n hX dX11_tuned_40 rfl ?_
        refine J_aload_n hX dX11_tuned_41 rfl ?_
        refine J_geti hX hE 0 0 rfl rfl fl_X11_104 dX11_tuned_42 ?_
        refine J_icmp_gt hX dX11_tuned_45 (tgt := 60) rfl (fun _ => ?_) (fun _ => ?_)
        · refine J_sipush hX dX11_tuned_60 ks_m1003 ?_
          exact J_iret hX hM dX11_tuned_63
        · refine J_iload_n hX dX11_tuned_48 rfl ?_
          refine J_iload_n hX dX11_tuned_49 rfl ?_
          refine J_iload_n hX dX11_tuned_50 rfl ?_
          refine J_iconst hX dX11_tuned_51 k_i1 ?_
          refine J_isub hX dX11_tuned_52 ?_
          refine J_imul hX dX11_tuned_53 ?_
          refine J_iadd hX dX11_tuned_54 ?_
          refine J_bipush hX dX11_tuned_55 kb_63 ?_
          refine J_icmp_le hX dX11_tuned_57 (tgt := 64) rfl (fun _ => ?_) (fun _ => ?_)
          · refine J_aload_n hX dX11_tuned_64 rfl ?_
            refine J_cVP hX hE 0 (C_X11_all hG hE σ) mw_X11_all ml_X11_111 rfl rfl rfl ⟨Nat.le_of_ble_eq_true rfl, Nat.le_of_ble_eq_true rfl⟩ rfl rfl (Nat.le_of_ble_eq_true rfl) dX11_tuned_65 (fun q24 => ?_)
            refine J_istore hX dX11_tuned_68 (Nat.le_of_ble_eq_true rfl) (lv' := [(0, .ref (jad G (nm 0))), (1, .int v1), (2, .int v2), (3, .int v3), (4, .int v4), (5, .int q24)]) rfl ?_
            refine J_keep [0, 1, 2, 3, 4, 5] (lv' := [(0, .ref (jad G (nm 0))), (1, .int v1), (2, .int v2), (3, .int v3), (4, .int v4), (5, .int q24)]) rfl ?_
            refine J_lp (pc := 70) (s0 := (q24, σ)) (fun (s : (Int32 × jS)) => [(0, .ref (jad G (nm 0))), (1, .int v1), (2, .int v2), (3, .int v3), (4, .int v4), (5, .int (s.1))]) (fun (s : (Int32 × jS)) => s.2) ?_
            intro KK70 hN70 hQ70 z70
            obtain ⟨v5_70, σ_70⟩ := z70
            show J X 70 [(0, .ref (jad G (nm 0))), (1, .int v1), (2, .int v2), (3, .int v3), (4, .int v4), (5, .int v5_70)] [] σ_70 (f_X11_tuned_L70 nm v1 v2 v3 v4 (v5_70, σ_70)) KK70
            have hJ101 : ∀ (v5_j101 : Int32) (v6_j101 : Int32) (t1_j101 : Int32) (t2_j101 : Int32) (σ_j101 : jS), J X 101 [(0, .ref (jad G (nm 0))), (1, .int v1), (2, .int v2), (3, .int v3), (4, .int v4), (5, .int v5_j101), (6, .int v6_j101)] [.int t2_j101, .int t1_j101, .ref (jad G (nm 22))] σ_j101 (f_X11_tuned_J101 nm v1 v2 v3 v4 v5_j101 v6_j101 t1_j101 t2_j101 σ_j101) KK70 := by
              intro v5_j101 v6_j101 t1_j101 t2_j101 σ_j101
              unfold f_X11_tuned_J101
              refine J_iast hX hE 22 rfl dX11_tuned_101 (fun _ => ?_)
              refine J_bdS (fun s25 => ?_)
              refine J_iconst hX dX11_tuned_102 k_i0 ?_
              refine J_istore hX dX11_tuned_103 (Nat.le_of_ble_eq_true rfl) (lv' := [(0, .ref (jad G (nm 0))), (1, .int v1), (2, .int v2), (3, .int v3), (4, .int v4), (5, .int v5_j101), (6, .int v6_j101), (7, .int 0)]) rfl ?_
              refine J_keep [0, 1, 2, 3, 4, 5, 6, 7] (lv' := [(0, .ref (jad G (nm 0))), (1, .int v1), (2, .int v2), (3, .int v3), (4, .int v4), (5, .int v5_j101), (6, .int v6_j101), (7, .int 0)]) rfl ?_
              refine J_lp (pc := 105) (s0 := (0, s25)) (fun (s : (Int32 × jS)) => [(0, .ref (jad G (nm 0))), (1, .int v1), (2, .int v2), (3, .int v3), (4, .int v4), (5, .int v5_j101), (6, .int v6_j101), (7, .int (s.1))]) (fun (s : (Int32 × jS)) => s.2) ?_
              intro KK105 hN105 hQ105 z105
              obtain ⟨v7_105, σ_105⟩ := z105
              show J X 105 [(0, .ref (jad G (nm 0))), (1, .int v1), (2, .int v2), (3, .int v3), (4, .int v4), (5, .int v5_j101), (6, .int v6_j101), (7, .int v7_105)] [] σ_105 (f_X11_tuned_L105 nm v1 v2 v3 v4 v5_j101 v6_j101 (v7_105, σ_105)) KK105
              have hJ170 : ∀ (v7_j170 : Int32) (t1_j170 : Int32) (t2_j170 : Int32) (σ_j170 : jS), J X 170 [(0, .ref (jad G (nm 0))), (1, .int v1), (2, .int v2), (3, .int v3), (4, .int v4), (5, .int v5_j101), (6, .int v6_j101), (7, .int v7_j170)] [.int t2_j170, .int t1_j170, .ref (jad G (nm 22))] σ_j170 (f_X11_tuned_J170 nm v1 v2 v3 v4 v5_j101 v6_j101 v7_j170 t1_j170 t2_j170 σ_j170) KK105 := by
                intro v7_j170 t1_j170 t2_j170 σ_j170
                unfold f_X11_tuned_J170
                refine J_iast hX hE 22 rfl dX11_tuned_170 (fun _ => ?_)
                refine J_bdS (fun s26 => ?_)
                refine J_iinc hX dX11_tuned_171 rfl (congrArg (_ + ·) k_i1) (Nat.le_of_ble_eq_true rfl) (lv' := [(0, .ref (jad G (nm 0))), (1, .int v1), (2, .int v2), (3, .int v3), (4, .int v4), (5, .int v5_j101), (6, .int v6_j101), (7, .int (v7_j170 + 1))]) rfl ?_
                refine J_goto hX dX11_tuned_174 (tgt := 105) rfl ?_
                exact J_keep [0, 1, 2, 3, 4, 5, 6, 7] rfl (hN105 (v7_j170 + 1, s26))
              unfold f_X11_tuned_L105
              refine J_iload hX dX11_tuned_105 rfl ?_
              refine J_aload_n hX dX11_tuned_107 rfl ?_
              refine J_geti hX hE 0 0 rfl rfl fl_X11_104 dX11_tuned_108 ?_
              refine J_icmp_ge hX dX11_tuned_111 (tgt := 177) rfl (fun _ => ?_) (fun _ => ?_)
              · refine hQ105 _ _ _ _ _ ?_
                refine J_iinc hX dX11_tuned_177 rfl (congrArg (_ + ·) k_im1) (Nat.le_of_ble_eq_true rfl) (lv' := [(0, .ref (jad G (nm 0))), (1, .int v1), (2, .int v2), (3, .int v3), (4, .int v4), (5, .int (v5_j101 + (-1))), (6, .int v6_j101), (7, .int v7_105)]) rfl ?_
                refine J_goto hX dX11_tuned_180 (tgt := 70) rfl ?_
                exact J_keep [0, 1, 2, 3, 4, 5] rfl (hN70 (v5_j101 + (-1), σ_105))
              · refine J_iload hX dX11_tuned_114 rfl ?_
                refine J_iload_n hX dX11_tuned_116 rfl ?_
                refine J_icmp_ge hX dX11_tuned_117 (tgt := 177) rfl (fun _ => ?_) (fun _ => ?_)
                · refine hQ105 _ _ _ _ _ ?_
                  refine J_iinc hX dX11_tuned_177 rfl (congrArg (_ + ·) k_im1) (Nat.le_of_ble_eq_true rfl) (lv' := [(0, .ref (jad G (nm 0))), (1, .int v1), (2, .int v2), (3, .int v3), (4, .int v4), (5, .int (v5_j101 + (-1))), (6, .int v6_j101), (7, .int v7_105)]) rfl ?_
                  refine J_goto hX dX11_tuned_180 (tgt := 70) rfl ?_
                  exact J_keep [0, 1, 2, 3, 4, 5] rfl (hN70 (v5_j101 + (-1), σ_105))
                · refine J_aload_n hX dX11_tuned_120 rfl ?_
                  refine J_getr hX hE 0 46 rfl rfl fl_X11_89 dX11_tuned_121 ?_
                  refine J_iload hX dX11_tuned_124 rfl ?_
                  refine J_iload hX dX11_tuned_126 rfl ?_
                  refine J_iload hX dX11_tuned_128 rfl ?_
                  refine J_cSP hX (C_X11_has hG v5_j101 v7_105 σ_105) mw_X11_has ml_X11_190 ⟨Nat.le_of_ble_eq_true rfl, Nat.le_of_ble_eq_true rfl⟩ rfl rfl (Nat.le_of_ble_eq_true rfl) dX11_tuned_130 (fun q27 => ?_)
                  refine J_blk ?_
                  intro KB133 hB133
                  refine J_if_eq hX dX11_tuned_133 (tgt := 146) rfl (fun _ => ?_) (fun _ => ?_)
                  · refine J_aload_n hX dX11_tuned_146 rfl ?_
                    refine J_getr hX hE 0 46 rfl rfl fl_X11_89 dX11_tuned_147 ?_
                    refine J_iload hX dX11_tuned_150 rfl ?_
                    refine J_iald hX hE 22 rfl dX11_tuned_152 (fun _ => ?_)
                    refine J_aload_n hX dX11_tuned_153 rfl ?_
                    refine J_iload hX dX11_tuned_154 rfl ?_
                    refine J_iload hX dX11_tuned_156 rfl ?_
                    refine J_iload_n hX dX11_tuned_158 rfl ?_
                    refine J_iload_n hX dX11_tuned_159 rfl ?_
                    refine J_iload hX dX11_tuned_160 rfl ?_
                    refine J_imul hX dX11_tuned_162 ?_
                    refine J_iadd hX dX11_tuned_163 ?_
                    refine J_cVP hX hE 0 (C_X11_tuneBy hG hE v5_j101 v7_105 (v1 + (v2 * v6_j101)) σ_105) mw_X11_tuneBy ml_X11_343 rfl rfl rfl ⟨Nat.le_of_ble_eq_true rfl, Nat.le_of_ble_eq_true rfl⟩ rfl rfl (Nat.le_of_ble_eq_true rfl) dX11_tuned_164 (fun q28 => ?_)
                    refine J_cSP hX (C_X11_lesser hG (g_i σ_105 (nm 22) v5_j101.toNatClampNeg) q28 σ_105) mw_X11_lesser ml_X11_297 ⟨Nat.le_of_ble_eq_true rfl, Nat.le_of_ble_eq_true rfl⟩ rfl rfl (Nat.le_of_ble_eq_true rfl) dX11_tuned_167 (fun q29 => ?_)
                    refine hB133 _ _ _ _ _ ?_
                    exact J_keep [0, 1, 2, 3, 4, 5, 6, 7] rfl (hJ170 v7_105 v5_j101 q29 σ_105)
                  · refine J_aload_n hX dX11_tuned_136 rfl ?_
                    refine J_getr hX hE 0 46 rfl rfl fl_X11_89 dX11_tuned_137 ?_
                    refine J_iload hX dX11_tuned_140 rfl ?_
                    refine J_iald hX hE 22 rfl dX11_tuned_142 (fun _ => ?_)
                    refine J_goto hX dX11_tuned_143 (tgt := 170) rfl ?_
                    refine hB133 _ _ _ _ _ ?_
                    exact J_keep [0, 1, 2, 3, 4, 5, 6, 7] rfl (hJ170 v7_105 v5_j101 (g_i σ_105 (nm 22) v5_j101.toNatClampNeg) σ_105)
            unfold f_X11_tuned_L70
            refine J_iload hX dX11_tuned_70 rfl ?_
            refine J_if_lt hX dX11_tuned_72 (tgt := 183) rfl (fun _ => ?_) (fun _ => ?_)
            · refine hQ70 _ _ _ _ _ ?_
              refine J_aload_n hX dX11_tuned_183 rfl ?_
              refine J_getr hX hE 0 46 rfl rfl fl_X11_89 dX11_tuned_184 ?_
              refine J_iconst hX dX11_tuned_187 k_i0 ?_
              refine J_iald hX hE 22 rfl dX11_tuned_188 (fun _ => ?_)
              refine J_ldcw hX wc_X11_296 dX11_tuned_189 ?_
              refine J_icmp_ge hX dX11_tuned_192 (tgt := 201) rfl (fun _ => ?_) (fun _ => ?_)
              · exact J_keep [0] rfl (hJ201 σ_70)
              · refine J_iload hX dX11_tuned_195 rfl ?_
                refine J_iconst hX dX11_tuned_197 k_im1 ?_
                refine J_icmp_ne hX dX11_tuned_198 (tgt := 224) rfl (fun _ => ?_) (fun _ => ?_)
                · refine J_iload hX dX11_tuned_224 rfl ?_
                  refine J_i2l hX dX11_tuned_226 ?_
                  refine J_lconst hX dX11_tuned_227 k_l0 ?_
                  refine J_iload_n hX dX11_tuned_228 rfl ?_
                  refine J_iconst hX dX11_tuned_229 k_i1 ?_
                  refine J_isub hX dX11_tuned_230 ?_
                  refine J_i2l hX dX11_tuned_231 ?_
                  refine J_cSP hX (C_X11_in hG (v4.toInt64) 0 ((v3 - 1).toInt64) σ_70) mw_X11_in ml_X11_107 ⟨Nat.le_of_ble_eq_true rfl, Nat.le_of_ble_eq_true rfl⟩ rfl rfl (Nat.le_of_ble_eq_true rfl) dX11_tuned_232 (fun q30 => ?_)
                  refine J_if_ne hX dX11_tuned_235 (tgt := 240) rfl (fun _ => ?_) (fun _ => ?_)
                  · refine J_iconst hX dX11_tuned_240 k_i0 ?_
                    refine J_istore hX dX11_tuned_241 (Nat.le_of_ble_eq_true rfl) (lv' := [(0, .ref (jad G (nm 0))), (1, .int v1), (2, .int v2), (3, .int v3), (4, .int v4), (5, .int 0)]) rfl ?_
                    refine J_iconst hX dX11_tuned_243 k_im1 ?_
                    refine J_istore hX dX11_tuned_244 (Nat.le_of_ble_eq_true rfl) (lv' := [(0, .ref (jad G (nm 0))), (1, .int v1), (2, .int v2), (3, .int v3), (4, .int v4), (5, .int 0), (6, .int (-1))]) rfl ?_
                    refine J_iconst hX dX11_tuned_246 k_i0 ?_
                    refine J_istore hX dX11_tuned_247 (Nat.le_of_ble_eq_true rfl) (lv' := [(0, .ref (jad G (nm 0))), (1, .int v1), (2, .int v2), (3, .int v3), (4, .int v4), (5, .int 0), (6, .int (-1)), (7, .int 0)]) rfl ?_
                    refine J_keep [0, 1, 2, 4, 5, 6, 7] (lv' := [(0, .ref (jad G (nm 0))), (1, .int v1), (2, .int v2), (4, .int v4), (5, .int 0), (6, .int (-1)), (7, .int 0)]) rfl ?_
                    refine J_lp (pc := 249) (s0 := (0, (-1), 0)) (fun (s : (Int32 × Int32 × Int32)) => [(0, .ref (jad G (nm 0))), (1, .int v1), (2, .int v2), (4, .int v4), (5, .int (s.1)), (6, .int (s.2.1)), (7, .int (s.2.2))]) (fun (s : (Int32 × Int32 × Int32)) => σ_70) ?_
                    intro KK249 hN249 hQ249 z249
                    obtain ⟨v5_249, v6_249, v7_249⟩ := z249
                    show J X 249 [(0, .ref (jad G (nm 0))), (1, .int v1), (2, .int v2), (4, .int v4), (5, .int v5_249), (6, .int v6_249), (7, .int v7_249)] [] σ_70 (f_X11_tuned_L249 nm v1 v2 v4 σ_70 (v5_249, v6_249, v7_249)) KK249
                    unfold f_X11_tuned_L249
                    refine J_iload hX dX11_tuned_249 rfl ?_
                    refine J_iload hX dX11_tuned_251 rfl ?_
                    refine J_icmp_gt hX dX11_tuned_253 (tgt := 314) rfl (fun _ => ?_) (fun _ => ?_)
                    · refine hQ249 _ _ _ _ _ ?_
                      refine J_iload hX dX11_tuned_314 rfl ?_
                      exact J_iret hX hM dX11_tuned_316
                    · refine J_iconst hX dX11_tuned_256 k_i0 ?_
                      refine J_istore hX dX11_tuned_257 (Nat.le_of_ble_eq_true rfl) (lv' := [(0, .ref (jad G (nm 0))), (1, .int v1), (2, .int v2), (4, .int v4), (5, .int v5_249), (6, .int 0), (7, .int v7_249)]) rfl ?_
                      refine J_keep [0, 1, 2, 3, 4, 5, 6] (lv' := [(0, .ref (jad G (nm 0))), (1, .int v1), (2, .int v2), (4, .int v4), (5, .int v5_249), (6, .int 0), (7, .int v7_249)]) rfl ?_
                      refine J_lp (pc := 259) (s0 := 0) (fun (s : Int32) => [(0, .ref (jad G (nm 0))), (1, .int v1), (2, .int v2), (4, .int v4), (5, .int v5_249), (6, .int s), (7, .int v7_249)]) (fun (s : Int32) => σ_70) ?_
                      intro KK259 hN259 hQ259 z259
                      obtain ⟨v6_259, rfl⟩ : ∃ y, y = z259 := ⟨_, rfl⟩
                      show J X 259 [(0, .ref (jad G (nm 0))), (1, .int v1), (2, .int v2), (4, .int v4), (5, .int v5_249), (6, .int v6_259), (7, .int v7_249)] [] σ_70 (f_X11_tuned_L259 nm v1 v2 v4 v5_249 v7_249 σ_70 v6_259) KK259
                      unfold f_X11_tuned_L259
                      refine J_iload hX dX11_tuned_259 rfl ?_
                      refine J_iload hX dX11_tuned_261 rfl ?_
                      refine J_cSP hX (C_X11_has hG v5_249 v6_259 σ_70) mw_X11_has ml_X11_190 ⟨Nat.le_of_ble_eq_true rfl, Nat.le_of_ble_eq_true rfl⟩ rfl rfl (Nat.le_of_ble_eq_true rfl) dX11_tuned_263 (fun q31 => ?_)
                      refine J_if_ne hX dX11_tuned_266 (tgt := 293) rfl (fun _ => ?_) (fun _ => ?_)
                      · refine J_iinc hX dX11_tuned_293 rfl (congrArg (_ + ·) k_i1) (Nat.le_of_ble_eq_true rfl) (lv' := [(0, .ref (jad G (nm 0))), (1, .int v1), (2, .int v2), (4, .int v4), (5, .int v5_249), (6, .int (v6_259 + 1)), (7, .int v7_249)]) rfl ?_
                        refine J_goto hX dX11_tuned_296 (tgt := 259) rfl ?_
                        exact J_keep [0, 1, 2, 3, 4, 5, 6] rfl (hN259 (v6_259 + 1))
                      · refine J_aload_n hX dX11_tuned_269 rfl ?_
                        refine J_iload hX dX11_tuned_270 rfl ?_
                        refine J_iload hX dX11_tuned_272 rfl ?_
                        refine J_iload_n hX dX11_tuned_274 rfl ?_
                        refine J_iload_n hX dX11_tuned_275 rfl ?_
                        refine J_iload hX dX11_tuned_276 rfl ?_
                        refine J_imul hX dX11_tuned_278 ?_
                        refine J_iadd hX dX11_tuned_279 ?_
                        refine J_cVP hX hE 0 (C_X11_tuneBy hG hE v5_249 v6_259 (v1 + (v2 * v7_249)) σ_70) mw_X11_tuneBy ml_X11_343 rfl rfl rfl ⟨Nat.le_of_ble_eq_true rfl, Nat.le_of_ble_eq_true rfl⟩ rfl rfl (Nat.le_of_ble_eq_true rfl) dX11_tuned_280 (fun q32 => ?_)
                        refine J_aload_n hX dX11_tuned_283 rfl ?_
                        refine J_getr hX hE 0 46 rfl rfl fl_X11_89 dX11_tuned_284 ?_
                        refine J_iload hX dX11_tuned_287 rfl ?_
                        refine J_iald hX hE 22 rfl dX11_tuned_289 (fun _ => ?_)
                        refine J_icmp_eq hX dX11_tuned_290 (tgt := 299) rfl (fun _ => ?_) (fun _ => ?_)
                        · refine hQ259 _ _ _ _ _ ?_
                          refine J_iload hX dX11_tuned_299 rfl ?_
                          refine J_iconst hX dX11_tuned_301 k_i1 ?_
                          refine J_iload hX dX11_tuned_302 rfl ?_
                          refine J_ishl hX dX11_tuned_304 ?_
                          refine J_ior hX dX11_tuned_305 ?_
                          refine J_bdI (fun x33 => ?_)
                          refine J_istore hX dX11_tuned_306 (Nat.le_of_ble_eq_true rfl) (lv' := [(0, .ref (jad G (nm 0))), (1, .int v1), (2, .int v2), (4, .int v4), (5, .int x33), (6, .int v6_259), (7, .int v7_249)]) rfl ?_
                          refine J_iinc hX dX11_tuned_308 rfl (congrArg (_ + ·) k_i1) (Nat.le_of_ble_eq_true rfl) (lv' := [(0, .ref (jad G (nm 0))), (1, .int v1), (2, .int v2), (4, .int v4), (5, .int x33), (6, .int v6_259), (7, .int (v7_249 + 1))]) rfl ?_
                          refine J_goto hX dX11_tuned_311 (tgt := 249) rfl ?_
                          exact J_keep [0, 1, 2, 3, 4, 5, 6] rfl (hN249 (x33, v6_259, v7_249 + 1))
                        · refine J_iinc hX dX11_tuned_293 rfl (congrArg (_ + ·) k_i1) (Nat.le_of_ble_eq_true rfl) (lv' := [(0, .ref (jad G (nm 0))), (1, .int v1), (2, .int v2), (4, .int v4), (5, .int v5_249), (6, .int (v6_259 + 1)), (7, .int v7_249)]) rfl ?_
                          refine J_goto hX dX11_tuned_296 (tgt := 259) rfl ?_
                          exact J_keep [0, 1, 2, 3, 4, 5, 6] rfl (hN259 (v6_259 + 1))
                  · refine J_iconst hX dX11_tuned_238 k_im1 ?_
                    exact J_iret hX hM dX11_tuned_239
                · exact J_keep [0] rfl (hJ201 σ_70)
            · refine J_iload hX dX11_tuned_75 rfl ?_
              refine J_cSP hX (C_X11_bits hG v5_70 σ_70) mw_X11_bits ml_X11_340 ⟨Nat.le_of_ble_eq_true rfl, Nat.le_of_ble_eq_true rfl⟩ rfl rfl (Nat.le_of_ble_eq_true rfl) dX11_tuned_77 (fun q34 => ?_)
              refine J_istore hX dX11_tuned_80 (Nat.le_of_ble_eq_true rfl) (lv' := [(0, .ref (jad G (nm 0))), (1, .int v1), (2, .int v2), (3, .int v3), (4, .int v4), (5, .int v5_70), (6, .int q34)]) rfl ?_
              refine J_aload_n hX dX11_tuned_82 rfl ?_
              refine J_getr hX hE 0 46 rfl rfl fl_X11_89 dX11_tuned_83 ?_
              refine J_iload hX dX11_tuned_86 rfl ?_
              refine J_iload hX dX11_tuned_88 rfl ?_
              refine J_iload_n hX dX11_tuned_90 rfl ?_
              refine J_blk ?_
              intro KB91 hB91
              refine J_icmp_lt hX dX11_tuned_91 (tgt := 98) rfl (fun _ => ?_) (fun _ => ?_)
              · refine J_ldcw hX wc_X11_296 dX11_tuned_98 ?_
                refine hB91 _ _ _ _ _ ?_
                exact J_keep [0, 1, 2, 3, 4, 5, 6] rfl (hJ101 v5_70 q34 v5_70 1000000 σ_70)
              · refine J_iconst hX dX11_tuned_94 k_i0 ?_
                refine J_goto hX dX11_tuned_95 (tgt := 101) rfl ?_
                refine hB91 _ _ _ _ _ ?_
                exact J_keep [0, 1, 2, 3, 4, 5, 6] rfl (hJ101 v5_70 q34 v5_70 0 σ_70)
          · refine J_sipush hX dX11_tuned_60 ks_m1003 ?_
            exact J_iret hX hM dX11_tuned_63
      · refine J_sipush hX dX11_tuned_36 ks_m1002 ?_
        exact J_iret hX hM dX11_tuned_39
theorem mw_X11_tuned : jMV Y_X11_tuned 4 := ⟨⟨tw_tb (List.mem_of_getElem? (i := 1474) (by decide +kernel)) (by decide +kernel), tw_tb (List.mem_of_getElem? (i := 1475) (by decide +kernel)) (by decide +kernel), tw_tb (List.mem_of_getElem? (i := 13) (by decide +kernel)) (by decide +kernel), tw_tb (List.mem_of_getElem? (i := 1476) (by decide +kernel)) (by decide +kernel)⟩, ⟨rfl, rfl⟩, by decide +kernel, by decide +kernel, by decide +kernel⟩
-- X11_wakes
noncomputable def f_X11_wakes (nm : Nat → Nat) (v1 : Int32) (v2 : Int32) (v3 : Int32) (σ : jS) : Option Int32 :=
  (f_X11_isSound v1 v2).bind (fun q1 =>
    if q1 = 0 then
      some (-1002)
    else
      (f_X11_isLoud v3).bind (fun q2 =>
        if q2 = 0 then
          some (-1002)
        else
          (f_X11_wakesBy nm v1 v2 v3 (g_i σ (nm 0) 15) σ).bind (fun q3 =>
            some q3)))
abbrev Y_X11_wakes : jY := (yX11_wakes, cX11_wakes, 4, some .int, { frames := 2, cells := 0, slots := 0, locals := 49 })
theorem C_X11_wakes {l : Launch} {G : jG} {nm : Nat → Nat} (hG : jWL G) (hE : jE G nm LS_X11) (v1 : Int32) (v2 : Int32) (v3 : Int32) (σ : jS) : jC (r_P σ) l G Y_X11_wakes [.ref (jad G (nm 0)), .int v1, .int v2, .int v3] σ (f_X11_wakes nm v1 v2 v3 σ) := by
  refine jw_met hG pn_X11 (Nat.le_of_ble_eq_true rfl) ⟨rfl, rfl⟩ ?_
  intro X hX hM
  have hX : jB X l G cX11_wakes RX11 4 { frames := 2, cells := 0, slots := 0, locals := 49 } := hX
  have hM : jM X (some .int) := hM
  show J X 0 [(0, .ref (jad G (nm 0))), (1, .int v1), (2, .int v2), (3, .int v3)] [] σ (f_X11_wakes nm v1 v2 v3 σ) (jk (r_P σ) X)
  unfold f_X11_wakes
  refine J_iload_n hX dX11_wakes_0 rfl ?_
  refine J_iload_n hX dX11_wakes_1 rfl ?_
  refine J_cSP hX (C_X11_isSound hG v1 v2 σ) mw_X11_isSound ml_X11_265 ⟨Nat.le_of_ble_eq_true rfl, Nat.le_of_ble_eq_true rfl⟩ rfl rfl (Nat.le_of_ble_eq_true rfl) dX11_wakes_2 (fun q4 => ?_)
  refine J_if_eq hX dX11_wakes_5 (tgt := 29) rfl (fun _ => ?_) (fun _ => ?_)
  · refine J_sipush hX dX11_wakes_29 ks_m1002 ?_
    exact J_iretP hX hM dX11_wakes_32
  · refine J_iload_n hX dX11_wakes_8 rfl ?_
    refine J_cSP hX (C_X11_isLoud hG v3 σ) mw_X11_isLoud ml_X11_268 ⟨Nat.le_of_ble_eq_true rfl, Nat.le_of_ble_eq_true rfl⟩ rfl rfl (Nat.le_of_ble_eq_true rfl) dX11_wakes_9 (fun q5 => ?_)
    refine J_if_eq hX dX11_wakes_12 (tgt := 29) rfl (fun _ => ?_) (fun _ => ?_)
    · refine J_sipush hX dX11_wakes_29 ks_m1002 ?_
      exact J_iretP hX hM dX11_wakes_32
    · refine J_aload_n hX dX11_wakes_15 rfl ?_
      refine J_iload_n hX dX11_wakes_16 rfl ?_
      refine J_iload_n hX dX11_wakes_17 rfl ?_
      refine J_iload_n hX dX11_wakes_18 rfl ?_
      refine J_aload_n hX dX11_wakes_19 rfl ?_
      refine J_geti hX hE 0 15 rfl rfl fl_X11_218 dX11_wakes_20 ?_
      refine J_cVP hX hE 0 (C_X11_wakesBy hG hE v1 v2 v3 (g_i σ (nm 0) 15) σ) mw_X11_wakesBy ml_X11_255 rfl rfl rfl ⟨Nat.le_of_ble_eq_true rfl, Nat.le_of_ble_eq_true rfl⟩ rfl rfl (Nat.le_of_ble_eq_true rfl) dX11_wakes_23 (fun q6 => ?_)
      refine J_goto hX dX11_wakes_26 (tgt := 32) rfl ?_
      exact J_iretP hX hM dX11_wakes_32
theorem mw_X11_wakes : jMV Y_X11_wakes 3 := ⟨⟨tw_tb (List.mem_of_getElem? (i := 1323) (by decide +kernel)) (by decide +kernel), tw_tb (List.mem_of_getElem? (i := 1324) (by decide +kernel)) (by decide +kernel), tw_tb (List.mem_of_getElem? (i := 13) (by decide +kernel)) (by decide +kernel), tw_tb (List.mem_of_getElem? (i := 1325) (by decide +kernel)) (by decide +kernel)⟩, ⟨rfl, rfl⟩, by decide +kernel, by decide +kernel, by decide +kernel⟩
-- X11_weather
noncomputable def f_X11_weather_J82 (nm : Nat → Nat) (v3 : Int32) (t1 : Int32) (σ : jS) : Option (Int32 × jS) :=
  bd (s_i σ (nm 0) 16 t1) (fun s8 =>
    some (v3, s8))
noncomputable def f_X11_weather_J65 (nm : Nat → Nat) (v1 : Int32) (v2 : Int32) (v3 : Int32) (t1 : Int32) (σ : jS) : Option (Int32 × jS) :=
  bd (s_i σ (nm 0) 15 t1) (fun s6 =>
    (if v1 = 1 then
      some v2
    else
      some (g_i s6 (nm 0) 16)).bind (fun y7 =>
      f_X11_weather_J82 nm v3 y7 s6))
noncomputable def f_X11_weather_J51 (nm : Nat → Nat) (v1 : Int32) (v2 : Int32) (t0 : Int32) (σ : jS) : Option (Int32 × jS) :=
  (if v1 = 0 then
    some v2
  else
    some (g_i σ (nm 0) 15)).bind (fun y5 =>
    f_X11_weather_J65 nm v1 v2 t0 y5 σ)
noncomputable def f_X11_weather_J26 (nm : Nat → Nat) (v1 : Int32) (v2 : Int32) (t0 : Int64) (t1 : Int64) (t2 : Int64) (σ : jS) : Option (Int32 × jS) :=
  (f_X11_in t0 t1 t2).bind (fun q3 =>
    if q3 = 0 then
      some ((-1002), σ)
    else
      (if v1 = 0 then
        some (g_i σ (nm 0) 15)
      else
        some (g_i σ (nm 0) 16)).bind (fun y4 =>
        f_X11_weather_J51 nm v1 v2 y4 σ))
noncomputable def f_X11_weather (nm : Nat → Nat) (v1 : Int32) (v2 : Int32) (σ : jS) : Option (Int32 × jS) :=
  (f_X11_in (v1.toInt64) 0 1).bind (fun q1 =>
    if q1 = 0 then
      some ((-1002), σ)
    else
      (if v1 = 0 then
        some 9
      else
        some 50).bind (fun y2 =>
        f_X11_weather_J26 nm v1 v2 (v2.toInt64) 0 y2 σ))
abbrev Y_X11_weather : jY := (yX11_weather, cX11_weather, 4, some .int, { frames := 1, cells := 0, slots := 0, locals := 25 })
theorem C_X11_weather {l : Launch} {G : jG} {nm : Nat → Nat} (hG : jWL G) (hE : jE G nm LS_X11) (v1 : Int32) (v2 : Int32) (σ : jS) : jC r_I l G Y_X11_weather [.ref (jad G (nm 0)), .int v1, .int v2] σ (f_X11_weather nm v1 v2 σ) := by
  refine jw_met hG pn_X11 (Nat.le_of_ble_eq_true rfl) ⟨rfl, rfl⟩ ?_
  intro X hX hM
  have hX : jB X l G cX11_weather RX11 4 { frames := 1, cells := 0, slots := 0, locals := 25 } := hX
  have hM : jM X (some .int) := hM
  show J X 0 [(0, .ref (jad G (nm 0))), (1, .int v1), (2, .int v2)] [] σ (f_X11_weather nm v1 v2 σ) (jk r_I X)
  have hJ82 : ∀ (v3 : Int32) (t1 : Int32) (σ : jS), J X 82 [(3, .int v3)] [.int t1, .ref (jad G (nm 0))] σ (f_X11_weather_J82 nm v3 t1 σ) (jk r_I X) := by
    intro v3 t1 σ
    unfold f_X11_weather_J82
    refine J_puti hX hE 0 16 rfl rfl fp_X11_221 dX11_weather_82 ?_
    refine J_bdS (fun s9 => ?_)
    refine J_iload_n hX dX11_weather_85 rfl ?_
    exact J_iret hX hM dX11_weather_86
  have hJ65 : ∀ (v1 : Int32) (v2 : Int32) (v3 : Int32) (t1 : Int32) (σ : jS), J X 65 [(0, .ref (jad G (nm 0))), (1, .int v1), (2, .int v2), (3, .int v3)] [.int t1, .ref (jad G (nm 0))] σ (f_X11_weather_J65 nm v1 v2 v3 t1 σ) (jk r_I X) := by
    intro v1 v2 v3 t1 σ
    unfold f_X11_weather_J65
    refine J_puti hX hE 0 15 rfl rfl fp_X11_218 dX11_weather_65 ?_
    refine J_bdS (fun s10 => ?_)
    refine J_aload_n hX dX11_weather_68 rfl ?_
    refine J_iload_n hX dX11_weather_69 rfl ?_
    refine J_iconst hX dX11_weather_70 k_i1 ?_
    refine J_blk ?_
    intro KB71 hB71
    refine J_icmp_ne hX dX11_weather_71 (tgt := 78) rfl (fun _ => ?_) (fun _ => ?_)
    · refine J_aload_n hX dX11_weather_78 rfl ?_
      refine J_geti hX hE 0 16 rfl rfl fl_X11_221 dX11_weather_79 ?_
      refine hB71 _ _ _ _ _ ?_
      exact J_keep [3] rfl (hJ82 v3 (g_i s10 (nm 0) 16) s10)
    · refine J_iload_n hX dX11_weather_74 rfl ?_
      refine J_goto hX dX11_weather_75 (tgt := 82) rfl ?_
      refine hB71 _ _ _ _ _ ?_
      exact J_keep [3] rfl (hJ82 v3 v2 s10)
  have hJ51 : ∀ (v1 : Int32) (v2 : Int32) (t0 : Int32) (σ : jS), J X 51 [(0, .ref (jad G (nm 0))), (1, .int v1), (2, .int v2)] [.int t0] σ (f_X11_weather_J51 nm v1 v2 t0 σ) (jk r_I X) := by
    intro v1 v2 t0 σ
    unfold f_X11_weather_J51
    refine J_istore_n hX dX11_weather_51 (Nat.le_of_ble_eq_true rfl) (lv' := [(0, .ref (jad G (nm 0))), (1, .int v1), (2, .int v2), (3, .int t0)]) rfl ?_
    refine J_aload_n hX dX11_weather_52 rfl ?_
    refine J_iload_n hX dX11_weather_53 rfl ?_
    refine J_blk ?_
    intro KB54 hB54
    refine J_if_ne hX dX11_weather_54 (tgt := 61) rfl (fun _ => ?_) (fun _ => ?_)
    · refine J_aload_n hX dX11_weather_61 rfl ?_
      refine J_geti hX hE 0 15 rfl rfl fl_X11_218 dX11_weather_62 ?_
      refine hB54 _ _ _ _ _ ?_
      exact J_keep [0, 1, 2, 3] rfl (hJ65 v1 v2 t0 (g_i σ (nm 0) 15) σ)
    · refine J_iload_n hX dX11_weather_57 rfl ?_
      refine J_goto hX dX11_weather_58 (tgt := 65) rfl ?_
      refine hB54 _ _ _ _ _ ?_
      exact J_keep [0, 1, 2, 3] rfl (hJ65 v1 v2 t0 v2 σ)
  have hJ26 : ∀ (v1 : Int32) (v2 : Int32) (t0 : Int64) (t1 : Int64) (t2 : Int64) (σ : jS), J X 26 [(0, .ref (jad G (nm 0))), (1, .int v1), (2, .int v2)] [.long t2, .long t1, .long t0] σ (f_X11_weather_J26 nm v1 v2 t0 t1 t2 σ) (jk r_I X) := by
    intro v1 v2 t0 t1 t2 σ
    unfold f_X11_weather_J26
    refine J_cSP hX (C_X11_in hG t0 t1 t2 σ) mw_X11_in ml_X11_107 ⟨Nat.le_of_ble_eq_true rfl, Nat.le_of_ble_eq_true rfl⟩ rfl rfl (Nat.le_of_ble_eq_true rfl) dX11_weather_26 (fun q11 => ?_)
    refine J_if_ne hX dX11_weather_29 (tgt := 36) rfl (fun _ => ?_) (fun _ => ?_)
    · refine J_iload_n hX dX11_weather_36 rfl ?_
      refine J_blk ?_
      intro KB37 hB37
      refine J_if_ne hX dX11_weather_37 (tgt := 47) rfl (fun _ => ?_) (fun _ => ?_)
      · refine J_aload_n hX dX11_weather_47 rfl ?_
        refine J_geti hX hE 0 16 rfl rfl fl_X11_221 dX11_weather_48 ?_
        refine hB37 _ _ _ _ _ ?_
        exact J_keep [0, 1, 2] rfl (hJ51 v1 v2 (g_i σ (nm 0) 16) σ)
      · refine J_aload_n hX dX11_weather_40 rfl ?_
        refine J_geti hX hE 0 15 rfl rfl fl_X11_218 dX11_weather_41 ?_
        refine J_goto hX dX11_weather_44 (tgt := 51) rfl ?_
        refine hB37 _ _ _ _ _ ?_
        exact J_keep [0, 1, 2] rfl (hJ51 v1 v2 (g_i σ (nm 0) 15) σ)
    · refine J_sipush hX dX11_weather_32 ks_m1002 ?_
      exact J_iret hX hM dX11_weather_35
  unfold f_X11_weather
  refine J_iload_n hX dX11_weather_0 rfl ?_
  refine J_i2l hX dX11_weather_1 ?_
  refine J_lconst hX dX11_weather_2 k_l0 ?_
  refine J_lconst hX dX11_weather_3 k_l1 ?_
  refine J_cSP hX (C_X11_in hG (v1.toInt64) 0 1 σ) mw_X11_in ml_X11_107 ⟨Nat.le_of_ble_eq_true rfl, Nat.le_of_ble_eq_true rfl⟩ rfl rfl (Nat.le_of_ble_eq_true rfl) dX11_weather_4 (fun q12 => ?_)
  refine J_if_eq hX dX11_weather_7 (tgt := 32) rfl (fun _ => ?_) (fun _ => ?_)
  · refine J_sipush hX dX11_weather_32 ks_m1002 ?_
    exact J_iret hX hM dX11_weather_35
  · refine J_iload_n hX dX11_weather_10 rfl ?_
    refine J_i2l hX dX11_weather_11 ?_
    refine J_lconst hX dX11_weather_12 k_l0 ?_
    refine J_iload_n hX dX11_weather_13 rfl ?_
    refine J_blk ?_
    intro KB14 hB14
    refine J_if_ne hX dX11_weather_14 (tgt := 23) rfl (fun _ => ?_) (fun _ => ?_)
    · refine J_ldc2 hX wl_X11_115 dX11_weather_23 ?_
      refine hB14 _ _ _ _ _ ?_
      exact J_keep [0, 1, 2] rfl (hJ26 v1 v2 (v2.toInt64) 0 50 σ)
    · refine J_ldc2 hX wl_X11_259 dX11_weather_17 ?_
      refine J_goto hX dX11_weather_20 (tgt := 26) rfl ?_
      refine hB14 _ _ _ _ _ ?_
      exact J_keep [0, 1, 2] rfl (hJ26 v1 v2 (v2.toInt64) 0 9 σ)
theorem mw_X11_weather : jMV Y_X11_weather 2 := ⟨⟨tw_tb (List.mem_of_getElem? (i := 1317) (by decide +kernel)) (by decide +kernel), tw_tb (List.mem_of_getElem? (i := 1318) (by decide +kernel)) (by decide +kernel), tw_tb (List.mem_of_getElem? (i := 13) (by decide +kernel)) (by decide +kernel), tw_tb (List.mem_of_getElem? (i := 1319) (by decide +kernel)) (by decide +kernel)⟩, ⟨rfl, rfl⟩, by decide +kernel, by decide +kernel, by decide +kernel⟩
-- X11_where
noncomputable def f_X11_where_L41 (nm : Nat → Nat) (v1 : Int32) (v2 : Int32) (v3 : Int32) (v4 : Int32) (σ : jS) (s : (Int32 × Int32)) : Option ((Int32 × Int32) ⊕ Int32) :=
  match s with
  | (v5, v6) =>
    if 64 ≤ v6 then
      some (.inr v5)
    else
      if v5 = 0 then
        (f_X11_wakesBy nm v4 v6 v2 (g_i σ (nm 0) 15) σ).bind (fun q3 =>
          if q3 = v1 then
            some (.inl (1, v6 + 1))
          else
            some (.inl (0, v6 + 1)))
      else
        some (.inl (1, v6 + 1))
noncomputable def f_X11_where_L28 (nm : Nat → Nat) (v1 : Int32) (v2 : Int32) (σ : jS) (s : (Int32 × Int32)) : Option ((Int32 × Int32) ⊕ Int32) :=
  match s with
  | (v3, v4) =>
    if 50 ≤ v4 then
      some (.inr v3)
    else
      (lp (f_X11_where_L41 nm v1 v2 v3 v4 σ) fu (0, 0)).bind (fun e4 =>
        if e4 = 0 then
          bd (v3 + 0) (fun x5 =>
            some (.inl (x5, v4 + 1)))
        else
          bd (v3 + 1) (fun x6 =>
            some (.inl (x6, v4 + 1))))
noncomputable def f_X11_where (nm : Nat → Nat) (v1 : Int32) (v2 : Int32) (σ : jS) : Option Int32 :=
  (f_X11_areLamps nm v1 σ).bind (fun q1 =>
    if q1 = 0 then
      some (-1001)
    else
      (f_X11_isLoud v2).bind (fun q2 =>
        if q2 = 0 then
          some (-1002)
        else
          (lp (f_X11_where_L28 nm v1 v2 σ) fu (0, 0)).bind (fun e7 =>
            some e7)))
abbrev Y_X11_where : jY := (yX11_where, cX11_where, 7, some .int, { frames := 2, cells := 0, slots := 0, locals := 49 })
theorem C_X11_where {l : Launch} {G : jG} {nm : Nat → Nat} (hG : jWL G) (hE : jE G nm LS_X11) (v1 : Int32) (v2 : Int32) (σ : jS) : jC (r_P σ) l G Y_X11_where [.ref (jad G (nm 0)), .int v1, .int v2] σ (f_X11_where nm v1 v2 σ) := by
  refine jw_met hG pn_X11 (Nat.le_of_ble_eq_true rfl) ⟨rfl, rfl⟩ ?_
  intro X hX hM
  have hX : jB X l G cX11_where RX11 7 { frames := 2, cells := 0, slots := 0, locals := 49 } := hX
  have hM : jM X (some .int) := hM
  show J X 0 [(0, .ref (jad G (nm 0))), (1, .int v1), (2, .int v2)] [] σ (f_X11_where nm v1 v2 σ) (jk (r_P σ) X)
  unfold f_X11_where
  refine J_aload_n hX dX11_where_0 rfl ?_
  refine J_iload_n hX dX11_where_1 rfl ?_
  refine J_cVP hX hE 0 (C_X11_areLamps hG hE v1 σ) mw_X11_areLamps ml_X11_315 rfl rfl rfl ⟨Nat.le_of_ble_eq_true rfl, Nat.le_of_ble_eq_true rfl⟩ rfl rfl (Nat.le_of_ble_eq_true rfl) dX11_where_2 (fun q8 => ?_)
  refine J_if_ne hX dX11_where_5 (tgt := 12) rfl (fun _ => ?_) (fun _ => ?_)
  · refine J_iload_n hX dX11_where_12 rfl ?_
    refine J_cSP hX (C_X11_isLoud hG v2 σ) mw_X11_isLoud ml_X11_268 ⟨Nat.le_of_ble_eq_true rfl, Nat.le_of_ble_eq_true rfl⟩ rfl rfl (Nat.le_of_ble_eq_true rfl) dX11_where_13 (fun q9 => ?_)
    refine J_if_ne hX dX11_where_16 (tgt := 23) rfl (fun _ => ?_) (fun _ => ?_)
    · refine J_iconst hX dX11_where_23 k_i0 ?_
      refine J_istore_n hX dX11_where_24 (Nat.le_of_ble_eq_true rfl) (lv' := [(0, .ref (jad G (nm 0))), (1, .int v1), (2, .int v2), (3, .int 0)]) rfl ?_
      refine J_iconst hX dX11_where_25 k_i0 ?_
      refine J_istore hX dX11_where_26 (Nat.le_of_ble_eq_true rfl) (lv' := [(0, .ref (jad G (nm 0))), (1, .int v1), (2, .int v2), (3, .int 0), (4, .int 0)]) rfl ?_
      refine J_keep [0, 1, 2, 3, 4] (lv' := [(0, .ref (jad G (nm 0))), (1, .int v1), (2, .int v2), (3, .int 0), (4, .int 0)]) rfl ?_
      refine J_lp (pc := 28) (s0 := (0, 0)) (fun (s : (Int32 × Int32)) => [(0, .ref (jad G (nm 0))), (1, .int v1), (2, .int v2), (3, .int (s.1)), (4, .int (s.2))]) (fun (s : (Int32 × Int32)) => σ) ?_
      intro KK28 hN28 hQ28 z28
      obtain ⟨v3_28, v4_28⟩ := z28
      show J X 28 [(0, .ref (jad G (nm 0))), (1, .int v1), (2, .int v2), (3, .int v3_28), (4, .int v4_28)] [] σ (f_X11_where_L28 nm v1 v2 σ (v3_28, v4_28)) KK28
      unfold f_X11_where_L28
      refine J_iload hX dX11_where_28 rfl ?_
      refine J_bipush hX dX11_where_30 kb_50 ?_
      refine J_icmp_ge hX dX11_where_32 (tgt := 102) rfl (fun _ => ?_) (fun _ => ?_)
      · refine hQ28 _ _ _ _ _ ?_
        refine J_iload_n hX dX11_where_102 rfl ?_
        exact J_iretP hX hM dX11_where_103
      · refine J_iconst hX dX11_where_35 k_i0 ?_
        refine J_istore hX dX11_where_36 (Nat.le_of_ble_eq_true rfl) (lv' := [(0, .ref (jad G (nm 0))), (1, .int v1), (2, .int v2), (3, .int v3_28), (4, .int v4_28), (5, .int 0)]) rfl ?_
        refine J_iconst hX dX11_where_38 k_i0 ?_
        refine J_istore hX dX11_where_39 (Nat.le_of_ble_eq_true rfl) (lv' := [(0, .ref (jad G (nm 0))), (1, .int v1), (2, .int v2), (3, .int v3_28), (4, .int v4_28), (5, .int 0), (6, .int 0)]) rfl ?_
        refine J_keep [0, 1, 2, 3, 4, 5, 6] (lv' := [(0, .ref (jad G (nm 0))), (1, .int v1), (2, .int v2), (3, .int v3_28), (4, .int v4_28), (5, .int 0), (6, .int 0)]) rfl ?_
        refine J_lp (pc := 41) (s0 := (0, 0)) (fun (s : (Int32 × Int32)) => [(0, .ref (jad G (nm 0))), (1, .int v1), (2, .int v2), (3, .int v3_28), (4, .int v4_28), (5, .int (s.1)), (6, .int (s.2))]) (fun (s : (Int32 × Int32)) => σ) ?_
        intro KK41 hN41 hQ41 z41
        obtain ⟨v5_41, v6_41⟩ := z41
        show J X 41 [(0, .ref (jad G (nm 0))), (1, .int v1), (2, .int v2), (3, .int v3_28), (4, .int v4_28), (5, .int v5_41), (6, .int v6_41)] [] σ (f_X11_where_L41 nm v1 v2 v3_28 v4_28 σ (v5_41, v6_41)) KK41
        unfold f_X11_where_L41
        refine J_iload hX dX11_where_41 rfl ?_
        refine J_bipush hX dX11_where_43 kb_64 ?_
        refine J_icmp_ge hX dX11_where_45 (tgt := 83) rfl (fun _ => ?_) (fun _ => ?_)
        · refine hQ41 _ _ _ _ _ ?_
          refine J_iload_n hX dX11_where_83 rfl ?_
          refine J_iload hX dX11_where_84 rfl ?_
          refine J_if_eq hX dX11_where_86 (tgt := 93) rfl (fun _ => ?_) (fun _ => ?_)
          · refine J_iconst hX dX11_where_93 k_i0 ?_
            refine J_iadd hX dX11_where_94 ?_
            refine J_bdI (fun x10 => ?_)
            refine J_istore_n hX dX11_where_95 (Nat.le_of_ble_eq_true rfl) (lv' := [(0, .ref (jad G (nm 0))), (1, .int v1), (2, .int v2), (3, .int x10), (4, .int v4_28), (5, .int v5_41), (6, .int v6_41)]) rfl ?_
            refine J_iinc hX dX11_where_96 rfl (congrArg (_ + ·) k_i1) (Nat.le_of_ble_eq_true rfl) (lv' := [(0, .ref (jad G (nm 0))), (1, .int v1), (2, .int v2), (3, .int x10), (4, .int (v4_28 + 1)), (5, .int v5_41), (6, .int v6_41)]) rfl ?_
            refine J_goto hX dX11_where_99 (tgt := 28) rfl ?_
            exact J_keep [0, 1, 2, 3, 4] rfl (hN28 (x10, v4_28 + 1))
          · refine J_iconst hX dX11_where_89 k_i1 ?_
            refine J_goto hX dX11_where_90 (tgt := 94) rfl ?_
            refine J_iadd hX dX11_where_94 ?_
            refine J_bdI (fun x11 => ?_)
            refine J_istore_n hX dX11_where_95 (Nat.le_of_ble_eq_true rfl) (lv' := [(0, .ref (jad G (nm 0))), (1, .int v1), (2, .int v2), (3, .int x11), (4, .int v4_28), (5, .int v5_41), (6, .int v6_41)]) rfl ?_
            refine J_iinc hX dX11_where_96 rfl (congrArg (_ + ·) k_i1) (Nat.le_of_ble_eq_true rfl) (lv' := [(0, .ref (jad G (nm 0))), (1, .int v1), (2, .int v2), (3, .int x11), (4, .int (v4_28 + 1)), (5, .int v5_41), (6, .int v6_41)]) rfl ?_
            refine J_goto hX dX11_where_99 (tgt := 28) rfl ?_
            exact J_keep [0, 1, 2, 3, 4] rfl (hN28 (x11, v4_28 + 1))
        · refine J_iload hX dX11_where_48 rfl ?_
          refine J_if_ne hX dX11_where_50 (tgt := 70) rfl (fun _ => ?_) (fun _ => ?_)
          · refine J_iconst hX dX11_where_70 k_i1 ?_
            refine J_goto hX dX11_where_71 (tgt := 75) rfl ?_
            refine J_istore hX dX11_where_75 (Nat.le_of_ble_eq_true rfl) (lv' := [(0, .ref (jad G (nm 0))), (1, .int v1), (2, .int v2), (3, .int v3_28), (4, .int v4_28), (5, .int 1), (6, .int v6_41)]) rfl ?_
            refine J_iinc hX dX11_where_77 rfl (congrArg (_ + ·) k_i1) (Nat.le_of_ble_eq_true rfl) (lv' := [(0, .ref (jad G (nm 0))), (1, .int v1), (2, .int v2), (3, .int v3_28), (4, .int v4_28), (5, .int 1), (6, .int (v6_41 + 1))]) rfl ?_
            refine J_goto hX dX11_where_80 (tgt := 41) rfl ?_
            exact J_keep [0, 1, 2, 3, 4, 5, 6] rfl (hN41 (1, v6_41 + 1))
          · refine J_aload_n hX dX11_where_53 rfl ?_
            refine J_iload hX dX11_where_54 rfl ?_
            refine J_iload hX dX11_where_56 rfl ?_
            refine J_iload_n hX dX11_where_58 rfl ?_
            refine J_aload_n hX dX11_where_59 rfl ?_
            refine J_geti hX hE 0 15 rfl rfl fl_X11_218 dX11_where_60 ?_
            refine J_cVP hX hE 0 (C_X11_wakesBy hG hE v4_28 v6_41 v2 (g_i σ (nm 0) 15) σ) mw_X11_wakesBy ml_X11_255 rfl rfl rfl ⟨Nat.le_of_ble_eq_true rfl, Nat.le_of_ble_eq_true rfl⟩ rfl rfl (Nat.le_of_ble_eq_true rfl) dX11_where_63 (fun q12 => ?_)
            refine J_iload_n hX dX11_where_66 rfl ?_
            refine J_icmp_ne hX dX11_where_67 (tgt := 74) rfl (fun _ => ?_) (fun _ => ?_)
            · refine J_iconst hX dX11_where_74 k_i0 ?_
              refine J_istore hX dX11_where_75 (Nat.le_of_ble_eq_true rfl) (lv' := [(0, .ref (jad G (nm 0))), (1, .int v1), (2, .int v2), (3, .int v3_28), (4, .int v4_28), (5, .int 0), (6, .int v6_41)]) rfl ?_
              refine J_iinc hX dX11_where_77 rfl (congrArg (_ + ·) k_i1) (Nat.le_of_ble_eq_true rfl) (lv' := [(0, .ref (jad G (nm 0))), (1, .int v1), (2, .int v2), (3, .int v3_28), (4, .int v4_28), (5, .int 0), (6, .int (v6_41 + 1))]) rfl ?_
              refine J_goto hX dX11_where_80 (tgt := 41) rfl ?_
              exact J_keep [0, 1, 2, 3, 4, 5, 6] rfl (hN41 (0, v6_41 + 1))
            · refine J_iconst hX dX11_where_70 k_i1 ?_
              refine J_goto hX dX11_where_71 (tgt := 75) rfl ?_
              refine J_istore hX dX11_where_75 (Nat.le_of_ble_eq_true rfl) (lv' := [(0, .ref (jad G (nm 0))), (1, .int v1), (2, .int v2), (3, .int v3_28), (4, .int v4_28), (5, .int 1), (6, .int v6_41)]) rfl ?_
              refine J_iinc hX dX11_where_77 rfl (congrArg (_ + ·) k_i1) (Nat.le_of_ble_eq_true rfl) (lv' := [(0, .ref (jad G (nm 0))), (1, .int v1), (2, .int v2), (3, .int v3_28), (4, .int v4_28), (5, .int 1), (6, .int (v6_41 + 1))]) rfl ?_
              refine J_goto hX dX11_where_80 (tgt := 41) rfl ?_
              exact J_keep [0, 1, 2, 3, 4, 5, 6] rfl (hN41 (1, v6_41 + 1))
    · refine J_sipush hX dX11_where_19 ks_m1002 ?_
      exact J_iretP hX hM dX11_where_22
  · refine J_sipush hX dX11_where_8 ks_m1001 ?_
    exact J_iretP hX hM dX11_where_11
theorem mw_X11_where : jMV Y_X11_where 2 := ⟨⟨tw_tb (List.mem_of_getElem? (i := 1450) (by decide +kernel)) (by decide +kernel), tw_tb (List.mem_of_getElem? (i := 1451) (by decide +kernel)) (by decide +kernel), tw_tb (List.mem_of_getElem? (i := 13) (by decide +kernel)) (by decide +kernel), tw_tb (List.mem_of_getElem? (i := 1452) (by decide +kernel)) (by decide +kernel)⟩, ⟨rfl, rfl⟩, by decide +kernel, by decide +kernel, by decide +kernel⟩
-- X11_who
noncomputable def f_X11_who_L39 (nm : Nat → Nat) (v1 : Int32) (v2 : Int32) (v3 : Int32) (σ : jS) (s : (Int32 × Int32)) : Option ((Int32 × Int32) ⊕ Int32) :=
  match s with
  | (v4, v5) =>
    gd (vp_in ((4 * v3) + 3) 32) (
      if (g_i σ (nm 5) ((4 * v3) + 3).toNatClampNeg) < v5 then
        some (.inr v4)
      else
        if v4 = 0 then
          gd (vp_in (4 * v3) 32) (
            gd (vp_in ((4 * v3) + 1) 32) (
              (f_X11_wakesBy nm (g_i σ (nm 5) (4 * v3).toNatClampNeg) v5 (g_i σ (nm 5) ((4 * v3) + 1).toNatClampNeg) (g_i σ (nm 0) 15) σ).bind (fun q3 =>
                if q3 = v1 then
                  some (.inl (1, v5 + 1))
                else
                  some (.inl (0, v5 + 1)))))
        else
          some (.inl (1, v5 + 1)))
noncomputable def f_X11_who_L16 (nm : Nat → Nat) (v1 : Int32) (σ : jS) (s : (Int32 × Int32)) : Option ((Int32 × Int32) ⊕ Int32) :=
  match s with
  | (v2, v3) =>
    if (g_i σ (nm 0) 8) ≤ v3 then
      some (.inr v2)
    else
      gd (vp_in ((4 * v3) + 2) 32) (
        bd (g_i σ (nm 5) ((4 * v3) + 2).toNatClampNeg) (fun x2 =>
          (lp (f_X11_who_L39 nm v1 v2 v3 σ) fu (0, x2)).bind (fun e4 =>
            if e4 = 0 then
              bd (v2 ||| 0) (fun x5 =>
                some (.inl (x5, v3 + 1)))
            else
              bd (v2 ||| (1 <<< (v3 &&& 31))) (fun x6 =>
                some (.inl (x6, v3 + 1))))))
noncomputable def f_X11_who (nm : Nat → Nat) (v1 : Int32) (σ : jS) : Option Int32 :=
  (f_X11_areLamps nm v1 σ).bind (fun q1 =>
    if q1 = 0 then
      some (-1001)
    else
      (lp (f_X11_who_L16 nm v1 σ) fu (0, 0)).bind (fun e7 =>
        some e7))
abbrev Y_X11_who : jY := (yX11_who, cX11_who, 6, some .int, { frames := 2, cells := 0, slots := 0, locals := 49 })
theorem C_X11_who {l : Launch} {G : jG} {nm : Nat → Nat} (hG : jWL G) (hE : jE G nm LS_X11) (v1 : Int32) (σ : jS) : jC (r_P σ) l G Y_X11_who [.ref (jad G (nm 0)), .int v1] σ (f_X11_who nm v1 σ) := by
  refine jw_met hG pn_X11 (Nat.le_of_ble_eq_true rfl) ⟨rfl, rfl⟩ ?_
  intro X hX hM
  have hX : jB X l G cX11_who RX11 6 { frames := 2, cells := 0, slots := 0, locals := 49 } := hX
  have hM : jM X (some .int) := hM
  show J X 0 [(0, .ref (jad G (nm 0))), (1, .int v1)] [] σ (f_X11_who nm v1 σ) (jk (r_P σ) X)
  unfold f_X11_who
  refine J_aload_n hX dX11_who_0 rfl ?_
  refine J_iload_n hX dX11_who_1 rfl ?_
  refine J_cVP hX hE 0 (C_X11_areLamps hG hE v1 σ) mw_X11_areLamps ml_X11_315 rfl rfl rfl ⟨Nat.le_of_ble_eq_true rfl, Nat.le_of_ble_eq_true rfl⟩ rfl rfl (Nat.le_of_ble_eq_true rfl) dX11_who_2 (fun q8 => ?_)
  refine J_if_ne hX dX11_who_5 (tgt := 12) rfl (fun _ => ?_) (fun _ => ?_)
  · refine J_iconst hX dX11_who_12 k_i0 ?_
    refine J_istore_n hX dX11_who_13 (Nat.le_of_ble_eq_true rfl) (lv' := [(0, .ref (jad G (nm 0))), (1, .int v1), (2, .int 0)]) rfl ?_
    refine J_iconst hX dX11_who_14 k_i0 ?_
    refine J_istore_n hX dX11_who_15 (Nat.le_of_ble_eq_true rfl) (lv' := [(0, .ref (jad G (nm 0))), (1, .int v1), (2, .int 0), (3, .int 0)]) rfl ?_
    refine J_keep [0, 1, 2, 3] (lv' := [(0, .ref (jad G (nm 0))), (1, .int v1), (2, .int 0), (3, .int 0)]) rfl ?_
    refine J_lp (pc := 16) (s0 := (0, 0)) (fun (s : (Int32 × Int32)) => [(0, .ref (jad G (nm 0))), (1, .int v1), (2, .int (s.1)), (3, .int (s.2))]) (fun (s : (Int32 × Int32)) => σ) ?_
    intro KK16 hN16 hQ16 z16
    obtain ⟨v2_16, v3_16⟩ := z16
    show J X 16 [(0, .ref (jad G (nm 0))), (1, .int v1), (2, .int v2_16), (3, .int v3_16)] [] σ (f_X11_who_L16 nm v1 σ (v2_16, v3_16)) KK16
    unfold f_X11_who_L16
    refine J_iload_n hX dX11_who_16 rfl ?_
    refine J_aload_n hX dX11_who_17 rfl ?_
    refine J_geti hX hE 0 8 rfl rfl fl_X11_206 dX11_who_18 ?_
    refine J_icmp_ge hX dX11_who_21 (tgt := 125) rfl (fun _ => ?_) (fun _ => ?_)
    · refine hQ16 _ _ _ _ _ ?_
      refine J_iload_n hX dX11_who_125 rfl ?_
      exact J_iretP hX hM dX11_who_126
    · refine J_iconst hX dX11_who_24 k_i0 ?_
      refine J_istore hX dX11_who_25 (Nat.le_of_ble_eq_true rfl) (lv' := [(0, .ref (jad G (nm 0))), (1, .int v1), (2, .int v2_16), (3, .int v3_16), (4, .int 0)]) rfl ?_
      refine J_aload_n hX dX11_who_27 rfl ?_
      refine J_getr hX hE 0 9 rfl rfl fl_X11_32 dX11_who_28 ?_
      refine J_iconst hX dX11_who_31 k_i4 ?_
      refine J_iload_n hX dX11_who_32 rfl ?_
      refine J_imul hX dX11_who_33 ?_
      refine J_iconst hX dX11_who_34 k_i2 ?_
      refine J_iadd hX dX11_who_35 ?_
      refine J_iald hX hE 5 rfl dX11_who_36 (fun _ => ?_)
      refine J_bdI (fun x9 => ?_)
      refine J_istore hX dX11_who_37 (Nat.le_of_ble_eq_true rfl) (lv' := [(0, .ref (jad G (nm 0))), (1, .int v1), (2, .int v2_16), (3, .int v3_16), (4, .int 0), (5, .int x9)]) rfl ?_
      refine J_keep [0, 1, 2, 3, 4, 5] (lv' := [(0, .ref (jad G (nm 0))), (1, .int v1), (2, .int v2_16), (3, .int v3_16), (4, .int 0), (5, .int x9)]) rfl ?_
      refine J_lp (pc := 39) (s0 := (0, x9)) (fun (s : (Int32 × Int32)) => [(0, .ref (jad G (nm 0))), (1, .int v1), (2, .int v2_16), (3, .int v3_16), (4, .int (s.1)), (5, .int (s.2))]) (fun (s : (Int32 × Int32)) => σ) ?_
      intro KK39 hN39 hQ39 z39
      obtain ⟨v4_39, v5_39⟩ := z39
      show J X 39 [(0, .ref (jad G (nm 0))), (1, .int v1), (2, .int v2_16), (3, .int v3_16), (4, .int v4_39), (5, .int v5_39)] [] σ (f_X11_who_L39 nm v1 v2_16 v3_16 σ (v4_39, v5_39)) KK39
      unfold f_X11_who_L39
      refine J_iload hX dX11_who_39 rfl ?_
      refine J_aload_n hX dX11_who_41 rfl ?_
      refine J_getr hX hE 0 9 rfl rfl fl_X11_32 dX11_who_42 ?_
      refine J_iconst hX dX11_who_45 k_i4 ?_
      refine J_iload_n hX dX11_who_46 rfl ?_
      refine J_imul hX dX11_who_47 ?_
      refine J_iconst hX dX11_who_48 k_i3 ?_
      refine J_iadd hX dX11_who_49 ?_
      refine J_iald hX hE 5 rfl dX11_who_50 (fun _ => ?_)
      refine J_icmp_gt hX dX11_who_51 (tgt := 104) rfl (fun _ => ?_) (fun _ => ?_)
      · refine hQ39 _ _ _ _ _ ?_
        refine J_iload_n hX dX11_who_104 rfl ?_
        refine J_iload hX dX11_who_105 rfl ?_
        refine J_if_eq hX dX11_who_107 (tgt := 116) rfl (fun _ => ?_) (fun _ => ?_)
        · refine J_iconst hX dX11_who_116 k_i0 ?_
          refine J_ior hX dX11_who_117 ?_
          refine J_bdI (fun x10 => ?_)
          refine J_istore_n hX dX11_who_118 (Nat.le_of_ble_eq_true rfl) (lv' := [(0, .ref (jad G (nm 0))), (1, .int v1), (2, .int x10), (3, .int v3_16), (4, .int v4_39), (5, .int v5_39)]) rfl ?_
          refine J_iinc hX dX11_who_119 rfl (congrArg (_ + ·) k_i1) (Nat.le_of_ble_eq_true rfl) (lv' := [(0, .ref (jad G (nm 0))), (1, .int v1), (2, .int x10), (3, .int (v3_16 + 1)), (4, .int v4_39), (5, .int v5_39)]) rfl ?_
          refine J_goto hX dX11_who_122 (tgt := 16) rfl ?_
          exact J_keep [0, 1, 2, 3] rfl (hN16 (x10, v3_16 + 1))
        · refine J_iconst hX dX11_who_110 k_i1 ?_
          refine J_iload_n hX dX11_who_111 rfl ?_
          refine J_ishl hX dX11_who_112 ?_
          refine J_goto hX dX11_who_113 (tgt := 117) rfl ?_
          refine J_ior hX dX11_who_117 ?_
          refine J_bdI (fun x11 => ?_)
          refine J_istore_n hX dX11_who_118 (Nat.le_of_ble_eq_true rfl) (lv' := [(0, .ref (jad G (nm 0))), (1, .int v1), (2, .int x11), (3, .int v3_16), (4, .int v4_39), (5, .int v5_39)]) rfl ?_
          refine J_iinc hX dX11_who_119 rfl (congrArg (_ + ·) k_i1) (Nat.le_of_ble_eq_true rfl) (lv' := [(0, .ref (jad G (nm 0))), (1, .int v1), (2, .int x11), (3, .int (v3_16 + 1)), (4, .int v4_39), (5, .int v5_39)]) rfl ?_
          refine J_goto hX dX11_who_122 (tgt := 16) rfl ?_
          exact J_keep [0, 1, 2, 3] rfl (hN16 (x11, v3_16 + 1))
      · refine J_iload hX dX11_who_54 rfl ?_
        refine J_if_ne hX dX11_who_56 (tgt := 91) rfl (fun _ => ?_) (fun _ => ?_)
        · refine J_iconst hX dX11_who_91 k_i1 ?_
          refine J_goto hX dX11_who_92 (tgt := 96) rfl ?_
          refine J_istore hX dX11_who_96 (Nat.le_of_ble_eq_true rfl) (lv' := [(0, .ref (jad G (nm 0))), (1, .int v1), (2, .int v2_16), (3, .int v3_16), (4, .int 1), (5, .int v5_39)]) rfl ?_
          refine J_iinc hX dX11_who_98 rfl (congrArg (_ + ·) k_i1) (Nat.le_of_ble_eq_true rfl) (lv' := [(0, .ref (jad G (nm 0))), (1, .int v1), (2, .int v2_16), (3, .int v3_16), (4, .int 1), (5, .int (v5_39 + 1))]) rfl ?_
          refine J_goto hX dX11_who_101 (tgt := 39) rfl ?_
          exact J_keep [0, 1, 2, 3, 4, 5] rfl (hN39 (1, v5_39 + 1))
        · refine J_aload_n hX dX11_who_59 rfl ?_
          refine J_aload_n hX dX11_who_60 rfl ?_
          refine J_getr hX hE 0 9 rfl rfl fl_X11_32 dX11_who_61 ?_
          refine J_iconst hX dX11_who_64 k_i4 ?_
          refine J_iload_n hX dX11_who_65 rfl ?_
          refine J_imul hX dX11_who_66 ?_
          refine J_iald hX hE 5 rfl dX11_who_67 (fun _ => ?_)
          refine J_iload hX dX11_who_68 rfl ?_
          refine J_aload_n hX dX11_who_70 rfl ?_
          refine J_getr hX hE 0 9 rfl rfl fl_X11_32 dX11_who_71 ?_
          refine J_iconst hX dX11_who_74 k_i4 ?_
          refine J_iload_n hX dX11_who_75 rfl ?_
          refine J_imul hX dX11_who_76 ?_
          refine J_iconst hX dX11_who_77 k_i1 ?_
          refine J_iadd hX dX11_who_78 ?_
          refine J_iald hX hE 5 rfl dX11_who_79 (fun _ => ?_)
          refine J_aload_n hX dX11_who_80 rfl ?_
          refine J_geti hX hE 0 15 rfl rfl fl_X11_218 dX11_who_81 ?_
          refine J_cVP hX hE 0 (C_X11_wakesBy hG hE (g_i σ (nm 5) (4 * v3_16).toNatClampNeg) v5_39 (g_i σ (nm 5) ((4 * v3_16) + 1).toNatClampNeg) (g_i σ (nm 0) 15) σ) mw_X11_wakesBy ml_X11_255 rfl rfl rfl ⟨Nat.le_of_ble_eq_true rfl, Nat.le_of_ble_eq_true rfl⟩ rfl rfl (Nat.le_of_ble_eq_true rfl) dX11_who_84 (fun q12 => ?_)
          refine J_iload_n hX dX11_who_87 rfl ?_
          refine J_icmp_ne hX dX11_who_88 (tgt := 95) rfl (fun _ => ?_) (fun _ => ?_)
          · refine J_iconst hX dX11_who_95 k_i0 ?_
            refine J_istore hX dX11_who_96 (Nat.le_of_ble_eq_true rfl) (lv' := [(0, .ref (jad G (nm 0))), (1, .int v1), (2, .int v2_16), (3, .int v3_16), (4, .int 0), (5, .int v5_39)]) rfl ?_
            refine J_iinc hX dX11_who_98 rfl (congrArg (_ + ·) k_i1) (Nat.le_of_ble_eq_true rfl) (lv' := [(0, .ref (jad G (nm 0))), (1, .int v1), (2, .int v2_16), (3, .int v3_16), (4, .int 0), (5, .int (v5_39 + 1))]) rfl ?_
            refine J_goto hX dX11_who_101 (tgt := 39) rfl ?_
            exact J_keep [0, 1, 2, 3, 4, 5] rfl (hN39 (0, v5_39 + 1))
          · refine J_iconst hX dX11_who_91 k_i1 ?_
            refine J_goto hX dX11_who_92 (tgt := 96) rfl ?_
            refine J_istore hX dX11_who_96 (Nat.le_of_ble_eq_true rfl) (lv' := [(0, .ref (jad G (nm 0))), (1, .int v1), (2, .int v2_16), (3, .int v3_16), (4, .int 1), (5, .int v5_39)]) rfl ?_
            refine J_iinc hX dX11_who_98 rfl (congrArg (_ + ·) k_i1) (Nat.le_of_ble_eq_true rfl) (lv' := [(0, .ref (jad G (nm 0))), (1, .int v1), (2, .int v2_16), (3, .int v3_16), (4, .int 1), (5, .int (v5_39 + 1))]) rfl ?_
            refine J_goto hX dX11_who_101 (tgt := 39) rfl ?_
            exact J_keep [0, 1, 2, 3, 4, 5] rfl (hN39 (1, v5_39 + 1))
  · refine J_sipush hX dX11_who_8 ks_m1001 ?_
    exact J_iretP hX hM dX11_who_11
theorem mw_X11_who : jMV Y_X11_who 1 := ⟨⟨tw_tb (List.mem_of_getElem? (i := 1446) (by decide +kernel)) (by decide +kernel), tw_tb (List.mem_of_getElem? (i := 1447) (by decide +kernel)) (by decide +kernel), tw_tb (List.mem_of_getElem? (i := 13) (by decide +kernel)) (by decide +kernel), tw_tb (List.mem_of_getElem? (i := 1448) (by decide +kernel)) (by decide +kernel)⟩, ⟨rfl, rfl⟩, by decide +kernel, by decide +kernel, by decide +kernel⟩
