-- X11_areLamps
noncomputable def f_X11_areLamps (nm : Nat → Nat) (v1 : Int32) (σ : jS) : Option Int32 :=
  (f_X11_all nm σ).bind (fun q1 =>
    (f_X11_in (v1.toInt64) 0 (q1.toInt64)).bind (fun q2 =>
      gd (jz q2) (some q2)))
abbrev Y_X11_areLamps : jY := (yX11_areLamps, cX11_areLamps, 2, some .boolean, { frames := 1, cells := 0, slots := 0, locals := 25 })
theorem C_X11_areLamps {l : Launch} {G : jG} {nm : Nat → Nat} (hG : jWL G) (hE : jE G nm LS_X11) (v1 : Int32) (σ : jS) : jC (r_P σ) l G Y_X11_areLamps [.ref (jad G (nm 0)), .int v1] σ (f_X11_areLamps nm v1 σ) := by
  refine jw_met hG pn_X11 (Nat.le_of_ble_eq_true rfl) ⟨rfl, rfl⟩ ?_
  intro X hX hM
  have hX : jB X l G cX11_areLamps RX11 2 { frames := 1, cells := 0, slots := 0, locals := 25 } := hX
  have hM : jM X (some .boolean) := hM
  show J X 0 [(0, .ref (jad G (nm 0))), (1, .int v1)] [] σ (f_X11_areLamps nm v1 σ) (jk (r_P σ) X)
  unfold f_X11_areLamps
  refine J_iload_n hX dX11_areLamps_0 rfl ?_
  refine J_i2l hX dX11_areLamps_1 ?_
  refine J_lconst hX dX11_areLamps_2 k_l0 ?_
  refine J_aload_n hX dX11_areLamps_3 rfl ?_
  refine J_cVP hX hE 0 (C_X11_all hG hE σ) mw_X11_all ml_X11_111 rfl rfl rfl ⟨Nat.le_of_ble_eq_true rfl, Nat.le_of_ble_eq_true rfl⟩ rfl rfl (Nat.le_of_ble_eq_true rfl) dX11_areLamps_4 (fun q3 => ?_)
  refine J_i2l hX dX11_areLamps_7 ?_
  refine J_cSP hX (C_X11_in hG (v1.toInt64) 0 (q3.toInt64) σ) mw_X11_in ml_X11_107 ⟨Nat.le_of_ble_eq_true rfl, Nat.le_of_ble_eq_true rfl⟩ rfl rfl (Nat.le_of_ble_eq_true rfl) dX11_areLamps_8 (fun q4 => ?_)
  refine J_gd (fun hz => ?_)
  exact J_zretP hX hM (jz_nar hz) dX11_areLamps_11
theorem mw_X11_areLamps : jMV Y_X11_areLamps 1 := ⟨⟨tw_tb (List.mem_of_getElem? (i := 1412) (by decide +kernel)) (by decide +kernel), tw_pv (List.mem_of_getElem? (i := 58) (by decide +kernel)) (by decide +kernel), tw_tb (List.mem_of_getElem? (i := 13) (by decide +kernel)) (by decide +kernel), tw_tb (List.mem_of_getElem? (i := 1413) (by decide +kernel)) (by decide +kernel)⟩, ⟨rfl, rfl⟩, by decide +kernel, by decide +kernel, by decide +kernel⟩
-- X11_findRound
noncomputable def f_X11_findRound_L2 (nm : Nat → Nat) (s : (Int32 × jS)) : Option ((Int32 × jS) ⊕ jS) :=
  match s with
  | (v1, σ) =>
    if 3200 ≤ v1 then
      some (.inr σ)
    else
      gd (¬ (64 : Int32) = 0) (gd (¬ (64 : Int32) = 0) ((f_X11_wakesBy nm (v1 / 64) (v1 - v1 / 64 * 64) (g_i σ (nm 0) 7) (g_i σ (nm 0) 15) σ).bind (fun q1 =>
        gd (vp_in v1 3200) (bd (s_i σ (nm 14) v1.toNatClampNeg q1) (fun s2 =>
          some (.inl (v1 + 1, s2)))))))
noncomputable def f_X11_findRound_L77 (nm : Nat → Nat) (v1 : Int32) (v2 : Int32) (σ : jS) (s : (Int32 × Int32)) : Option ((Int32 × Int32) ⊕ Int32) :=
  match s with
  | (v3, v4) =>
    if 64 ≤ v4 then
      some (.inr v3)
    else
      (f_X11_all nm σ).bind (fun q7 =>
        if v1 = q7 then
          some (.inr v3)
        else
          gd (vp_in ((64 * v2) + v4) 3200) (
            bd (v1 ||| (g_i σ (nm 14) ((64 * v2) + v4).toNatClampNeg)) (fun x8 =>
              if x8 = v1 then
                some (.inl (v3, v4 + 1))
              else
                gd (vp_in ((50 * x8) + v2) 51200) (
                  (f_X11_lesser v3 (1 + (g_i σ (nm 13) ((50 * x8) + v2).toNatClampNeg))).bind (fun q9 =>
                    some (.inl (q9, v4 + 1)))))))
noncomputable def f_X11_findRound_J143 (nm : Nat → Nat) (v1 : Int32) (v2 : Int32) (v3 : Int32) (σ : jS) : Option ((Int32 × jS) ⊕ jS) :=
  gd (vp_in ((50 * v1) + v2) 51200) (bd (s_i σ (nm 13) ((50 * v1) + v2).toNatClampNeg v3) (fun s11 =>
    some (.inl (v2 + 1, s11))))
noncomputable def f_X11_findRound_J73 (nm : Nat → Nat) (v1 : Int32) (v2 : Int32) (t0 : Int32) (σ : jS) : Option ((Int32 × jS) ⊕ jS) :=
  (lp (f_X11_findRound_L77 nm v1 v2 σ) fu (t0, 0)).bind (fun e10 =>
    f_X11_findRound_J143 nm v1 v2 e10 σ)
noncomputable def f_X11_findRound_L52 (nm : Nat → Nat) (v1 : Int32) (s : (Int32 × jS)) : Option ((Int32 × jS) ⊕ jS) :=
  match s with
  | (v2, σ) =>
    if 50 ≤ v2 then
      some (.inr σ)
    else
      (f_X11_all nm σ).bind (fun q5 =>
        (if v1 = q5 then
          some 0
        else
          some 1000000).bind (fun y6 =>
          f_X11_findRound_J73 nm v1 v2 y6 σ))
noncomputable def f_X11_findRound_L163 (nm : Nat → Nat) (v1 : Int32) (s : (Int32 × jS)) : Option ((Int32 × jS) ⊕ jS) :=
  match s with
  | (v2, σ) =>
    if 50 ≤ v2 then
      some (.inr σ)
    else
      gd (vp_in ((50 * v1) + v2) 51200) (
        gd (vp_in (((50 * v1) + v2) - 1) 51200) (
          (f_X11_lesser (g_i σ (nm 13) ((50 * v1) + v2).toNatClampNeg) (1 + (g_i σ (nm 13) (((50 * v1) + v2) - 1).toNatClampNeg))).bind (fun q13 =>
            gd (vp_in ((50 * v1) + v2) 51200) (bd (s_i σ (nm 13) ((50 * v1) + v2).toNatClampNeg q13) (fun s14 =>
              some (.inl (v2 + 1, s14)))))))
noncomputable def f_X11_findRound_L218 (nm : Nat → Nat) (v1 : Int32) (s : (Int32 × jS)) : Option ((Int32 × jS) ⊕ jS) :=
  match s with
  | (v2, σ) =>
    if v2 < 0 then
      some (.inr σ)
    else
      gd (vp_in ((50 * v1) + v2) 51200) (
        gd (vp_in (((50 * v1) + v2) + 1) 51200) (
          (f_X11_lesser (g_i σ (nm 13) ((50 * v1) + v2).toNatClampNeg) (1 + (g_i σ (nm 13) (((50 * v1) + v2) + 1).toNatClampNeg))).bind (fun q16 =>
            gd (vp_in ((50 * v1) + v2) 51200) (bd (s_i σ (nm 13) ((50 * v1) + v2).toNatClampNeg q16) (fun s17 =>
              some (.inl (v2 + (-1), s17)))))))
noncomputable def f_X11_findRound_L46 (nm : Nat → Nat) (s : (Int32 × jS)) : Option ((Int32 × jS) ⊕ jS) :=
  match s with
  | (v1, σ) =>
    if v1 < 0 then
      some (.inr σ)
    else
      (lp (f_X11_findRound_L52 nm v1) fu (0, σ)).bind (fun s12 =>
        (lp (f_X11_findRound_L163 nm v1) fu (1, s12)).bind (fun s15 =>
          (lp (f_X11_findRound_L218 nm v1) fu (48, s15)).bind (fun s18 =>
            some (.inl (v1 + (-1), s18)))))
noncomputable def f_X11_findRound (nm : Nat → Nat) (σ : jS) : Option jS :=
  (lp (f_X11_findRound_L2 nm) fu (0, σ)).bind (fun s3 =>
    (f_X11_all nm s3).bind (fun q4 =>
      (lp (f_X11_findRound_L46 nm) fu (q4, s3)).bind (fun s19 =>
        some s19)))
abbrev Y_X11_findRound : jY := (yX11_findRound, cX11_findRound, 6, none, { frames := 2, cells := 0, slots := 0, locals := 49 })
theorem C_X11_findRound {l : Launch} {G : jG} {nm : Nat → Nat} (hG : jWL G) (hE : jE G nm LS_X11) (σ : jS) : jC r_V l G Y_X11_findRound [.ref (jad G (nm 0))] σ (f_X11_findRound nm σ) := by
  refine jw_met hG pn_X11 (Nat.le_of_ble_eq_true rfl) ⟨rfl, rfl⟩ ?_
  intro X hX hM
  have hX : jB X l G cX11_findRound RX11 6 { frames := 2, cells := 0, slots := 0, locals := 49 } := hX
  have hM : jM X (none) := hM
  show J X 0 [(0, .ref (jad G (nm 0)))] [] σ (f_X11_findRound nm σ) (jk r_V X)
  unfold f_X11_findRound
  refine J_iconst hX dX11_findRound_0 k_i0 ?_
  refine J_istore_n hX dX11_findRound_1 (Nat.le_of_ble_eq_true rfl) (lv' := [(0, .ref (jad G (nm 0))), (1, .int 0)]) rfl ?_
  refine J_keep [0, 1] (lv' := [(0, .ref (jad G (nm 0))), (1, .int 0)]) rfl ?_
  refine J_lp (pc := 2) (s0 := (0, σ)) (fun (s : (Int32 × jS)) => [(0, .ref (jad G (nm 0))), (1, .int (s.1))]) (fun (s : (Int32 × jS)) => s.2) ?_
  intro KK2 hN2 hQ2 z2
  obtain ⟨v1_2, σ_2⟩ := z2
  show J X 2 [(0, .ref (jad G (nm 0))), (1, .int v1_2)] [] σ_2 (f_X11_findRound_L2 nm (v1_2, σ_2)) KK2
  unfold f_X11_findRound_L2
  refine J_iload_n hX dX11_findRound_2 rfl ?_
  refine J_sipush hX dX11_findRound_3 ks_3200 ?_
  refine J_icmp_ge hX dX11_findRound_6 (tgt := 41) rfl (fun _ => ?_) (fun _ => ?_)
  · refine hQ2 _ _ _ _ _ ?_
    refine J_aload_n hX dX11_findRound_41 rfl ?_
    refine J_cVP hX hE 0 (C_X11_all hG hE σ_2) mw_X11_all ml_X11_111 rfl rfl rfl ⟨Nat.le_of_ble_eq_true rfl, Nat.le_of_ble_eq_true rfl⟩ rfl rfl (Nat.le_of_ble_eq_true rfl) dX11_findRound_42 (fun q20 => ?_)
    refine J_istore_n hX dX11_findRound_45 (Nat.le_of_ble_eq_true rfl) (lv' := [(0, .ref (jad G (nm 0))), (1, .int q20)]) rfl ?_
    refine J_keep [0, 1] (lv' := [(0, .ref (jad G (nm 0))), (1, .int q20)]) rfl ?_
    refine J_lp (pc := 46) (s0 := (q20, σ_2)) (fun (s : (Int32 × jS)) => [(0, .ref (jad G (nm 0))), (1, .int (s.1))]) (fun (s : (Int32 × jS)) => s.2) ?_
    intro KK46 hN46 hQ46 z46
    obtain ⟨v1_46, σ_46⟩ := z46
    show J X 46 [(0, .ref (jad G (nm 0))), (1, .int v1_46)] [] σ_46 (f_X11_findRound_L46 nm (v1_46, σ_46)) KK46
    unfold f_X11_findRound_L46
    refine J_iload_n hX dX11_findRound_46 rfl ?_
    refine J_if_lt hX dX11_findRound_47 (tgt := 274) rfl (fun _ => ?_) (fun _ => ?_)
    · refine hQ46 _ _ _ _ _ ?_
      exact J_vret hX hM dX11_findRound_274
    · refine J_iconst hX dX11_findRound_50 k_i0 ?_
      refine J_istore_n hX dX11_findRound_51 (Nat.le_of_ble_eq_true rfl) (lv' := [(0, .ref (jad G (nm 0))), (1, .int v1_46), (2, .int 0)]) rfl ?_
      refine J_keep [0, 1, 2] (lv' := [(0, .ref (jad G (nm 0))), (1, .int v1_46), (2, .int 0)]) rfl ?_
      refine J_lp (pc := 52) (s0 := (0, σ_46)) (fun (s : (Int32 × jS)) => [(0, .ref (jad G (nm 0))), (1, .int v1_46), (2, .int (s.1))]) (fun (s : (Int32 × jS)) => s.2) ?_
      intro KK52 hN52 hQ52 z52
      obtain ⟨v2_52, σ_52⟩ := z52
      show J X 52 [(0, .ref (jad G (nm 0))), (1, .int v1_46), (2, .int v2_52)] [] σ_52 (f_X11_findRound_L52 nm v1_46 (v2_52, σ_52)) KK52
      have hJ143 : ∀ (v2_j143 : Int32) (v3_j143 : Int32) (σ_j143 : jS), J X 143 [(0, .ref (jad G (nm 0))), (1, .int v1_46), (2, .int v2_j143), (3, .int v3_j143)] [] σ_j143 (f_X11_findRound_J143 nm v1_46 v2_j143 v3_j143 σ_j143) KK52 := by
        intro v2_j143 v3_j143 σ_j143
        unfold f_X11_findRound_J143
        refine J_aload_n hX dX11_findRound_143 rfl ?_
        refine J_getr hX hE 0 34 rfl rfl fl_X11_60 dX11_findRound_144 ?_
        refine J_bipush hX dX11_findRound_147 kb_50 ?_
        refine J_iload_n hX dX11_findRound_149 rfl ?_
        refine J_imul hX dX11_findRound_150 ?_
        refine J_iload_n hX dX11_findRound_151 rfl ?_
        refine J_iadd hX dX11_findRound_152 ?_
        refine J_iload_n hX dX11_findRound_153 rfl ?_
        refine J_iast hX hE 13 rfl dX11_findRound_154 (fun _ => ?_)
        refine J_bdS (fun s21 => ?_)
        refine J_iinc hX dX11_findRound_155 rfl (congrArg (_ + ·) k_i1) (Nat.le_of_ble_eq_true rfl) (lv' := [(0, .ref (jad G (nm 0))), (1, .int v1_46), (2, .int (v2_j143 + 1)), (3, .int v3_j143)]) rfl ?_
        refine J_goto hX dX11_findRound_158 (tgt := 52) rfl ?_
        exact J_keep [0, 1, 2] rfl (hN52 (v2_j143 + 1, s21))
      have hJ73 : ∀ (v2_j73 : Int32) (t0_j73 : Int32) (σ_j73 : jS), J X 73 [(0, .ref (jad G (nm 0))), (1, .int v1_46), (2, .int v2_j73)] [.int t0_j73] σ_j73 (f_X11_findRound_J73 nm v1_46 v2_j73 t0_j73 σ_j73) KK52 := by
        intro v2_j73 t0_j73 σ_j73
        unfold f_X11_findRound_J73
        refine J_istore_n hX dX11_findRound_73 (Nat.le_of_ble_eq_true rfl) (lv' := [(0, .ref (jad G (nm 0))), (1, .int v1_46), (2, .int v2_j73), (3, .int t0_j73)]) rfl ?_
        refine J_iconst hX dX11_findRound_74 k_i0 ?_
        refine J_istore hX dX11_findRound_75 (Nat.le_of_ble_eq_true rfl) (lv' := [(0, .ref (jad G (nm 0))), (1, .int v1_46), (2, .int v2_j73), (3, .int t0_j73), (4, .int 0)]) rfl ?_
        refine J_keep [0, 1, 2, 3, 4] (lv' := [(0, .ref (jad G (nm 0))), (1, .int v1_46), (2, .int v2_j73), (3, .int t0_j73), (4, .int 0)]) rfl ?_
        refine J_lp (pc := 77) (s0 := (t0_j73, 0)) (fun (s : (Int32 × Int32)) => [(0, .ref (jad G (nm 0))), (1, .int v1_46), (2, .int v2_j73), (3, .int (s.1)), (4, .int (s.2))]) (fun (s : (Int32 × Int32)) => σ_j73) ?_
        intro KK77 hN77 hQ77 z77
        obtain ⟨v3_77, v4_77⟩ := z77
        show J X 77 [(0, .ref (jad G (nm 0))), (1, .int v1_46), (2, .int v2_j73), (3, .int v3_77), (4, .int v4_77)] [] σ_j73 (f_X11_findRound_L77 nm v1_46 v2_j73 σ_j73 (v3_77, v4_77)) KK77
        unfold f_X11_findRound_L77
        refine J_iload hX dX11_findRound_77 rfl ?_
        refine J_bipush hX dX11_findRound_79 kb_64 ?_
        refine J_icmp_ge hX dX11_findRound_81 (tgt := 143) rfl (fun _ => ?_) (fun _ => ?_)
        · refine hQ77 _ _ _ _ _ ?_
          exact J_keep [0, 1, 2, 3] rfl (hJ143 v2_j73 v3_77 σ_j73)
        · refine J_iload_n hX dX11_findRound_84 rfl ?_
          refine J_aload_n hX dX11_findRound_85 rfl ?_
          refine J_cVP hX hE 0 (C_X11_all hG hE σ_j73) mw_X11_all ml_X11_111 rfl rfl rfl ⟨Nat.le_of_ble_eq_true rfl, Nat.le_of_ble_eq_true rfl⟩ rfl rfl (Nat.le_of_ble_eq_true rfl) dX11_findRound_86 (fun q22 => ?_)
          refine J_icmp_eq hX dX11_findRound_89 (tgt := 143) rfl (fun _ => ?_) (fun _ => ?_)
          · refine hQ77 _ _ _ _ _ ?_
            exact J_keep [0, 1, 2, 3] rfl (hJ143 v2_j73 v3_77 σ_j73)
          · refine J_iload_n hX dX11_findRound_92 rfl ?_
            refine J_aload_n hX dX11_findRound_93 rfl ?_
            refine J_getr hX hE 0 35 rfl rfl fl_X11_63 dX11_findRound_94 ?_
            refine J_bipush hX dX11_findRound_97 kb_64 ?_
            refine J_iload_n hX dX11_findRound_99 rfl ?_
            refine J_imul hX dX11_findRound_100 ?_
            refine J_iload hX dX11_findRound_101 rfl ?_
            refine J_iadd hX dX11_findRound_103 ?_
            refine J_iald hX hE 14 rfl dX11_findRound_104 (fun _ => ?_)
            refine J_ior hX dX11_findRound_105 ?_
            refine J_bdI (fun x23 => ?_)
            refine J_istore hX dX11_findRound_106 (Nat.le_of_ble_eq_true rfl) (lv' := [(0, .ref (jad G (nm 0))), (1, .int v1_46), (2, .int v2_j73), (3, .int v3_77), (4, .int v4_77), (5, .int x23)]) rfl ?_
            refine J_iload hX dX11_findRound_108 rfl ?_
            refine J_iload_n hX dX11_findRound_110 rfl ?_
            refine J_icmp_ne hX dX11_findRound_111 (tgt := 118) rfl (fun _ => ?_) (fun _ => ?_)
            · refine J_iload_n hX dX11_findRound_118 rfl ?_
              refine J_iconst hX dX11_findRound_119 k_i1 ?_
              refine J_aload_n hX dX11_findRound_120 rfl ?_
              refine J_getr hX hE 0 34 rfl rfl fl_X11_60 dX11_findRound_121 ?_
              refine J_bipush hX dX11_findRound_124 kb_50 ?_
              refine J_iload hX dX11_findRound_126 rfl ?_
              refine J_imul hX dX11_findRound_128 ?_
              refine J_iload_n hX dX11_findRound_129 rfl ?_
              refine J_iadd hX dX11_findRound_130 ?_
              refine J_iald hX hE 13 rfl dX11_findRound_131 (fun _ => ?_)
              refine J_iadd hX dX11_findRound_132 ?_
              refine J_cSP hX (C_X11_lesser hG v3_77 (1 + (g_i σ_j73 (nm 13) ((50 * x23) + v2_j73).toNatClampNeg)) σ_j73) mw_X11_lesser ml_X11_297 ⟨Nat.le_of_ble_eq_true rfl, Nat.le_of_ble_eq_true rfl⟩ rfl rfl (Nat.le_of_ble_eq_true rfl) dX11_findRound_133 (fun q24 => ?_)
              refine J_istore_n hX dX11_findRound_136 (Nat.le_of_ble_eq_true rfl) (lv' := [(0, .ref (jad G (nm 0))), (1, .int v1_46), (2, .int v2_j73), (3, .int q24), (4, .int v4_77), (5, .int x23)]) rfl ?_
              refine J_iinc hX dX11_findRound_137 rfl (congrArg (_ + ·) k_i1) (Nat.le_of_ble_eq_true rfl) (lv' := [(0, .ref (jad G (nm 0))), (1, .int v1_46), (2, .int v2_j73), (3, .int q24), (4, .int (v4_77 + 1)), (5, .int x23)]) rfl ?_
              refine J_goto hX dX11_findRound_140 (tgt := 77) rfl ?_
              exact J_keep [0, 1, 2, 3, 4] rfl (hN77 (q24, v4_77 + 1))
            · refine J_iload_n hX dX11_findRound_114 rfl ?_
              refine J_goto hX dX11_findRound_115 (tgt := 136) rfl ?_
              refine J_istore_n hX dX11_findRound_136 (Nat.le_of_ble_eq_true rfl) (lv' := [(0, .ref (jad G (nm 0))), (1, .int v1_46), (2, .int v2_j73), (3, .int v3_77), (4, .int v4_77), (5, .int x23)]) rfl ?_
              refine J_iinc hX dX11_findRound_137 rfl (congrArg (_ + ·) k_i1) (Nat.le_of_ble_eq_true rfl) (lv' := [(0, .ref (jad G (nm 0))), (1, .int v1_46), (2, .int v2_j73), (3, .int v3_77), (4, .int (v4_77 + 1)), (5, .int x23)]) rfl ?_
              refine J_goto hX dX11_findRound_140 (tgt := 77) rfl ?_
              exact J_keep [0, 1, 2, 3, 4] rfl (hN77 (v3_77, v4_77 + 1))
      unfold f_X11_findRound_L52
      refine J_iload_n hX dX11_findRound_52 rfl ?_
      refine J_bipush hX dX11_findRound_53 kb_50 ?_
      refine J_icmp_ge hX dX11_findRound_55 (tgt := 161) rfl (fun _ => ?_) (fun _ => ?_)
      · refine hQ52 _ _ _ _ _ ?_
        refine J_iconst hX dX11_findRound_161 k_i1 ?_
        refine J_istore_n hX dX11_findRound_162 (Nat.le_of_ble_eq_true rfl) (lv' := [(0, .ref (jad G (nm 0))), (1, .int v1_46), (2, .int 1)]) rfl ?_
        refine J_keep [0, 1, 2] (lv' := [(0, .ref (jad G (nm 0))), (1, .int v1_46), (2, .int 1)]) rfl ?_
        refine J_lp (pc := 163) (s0 := (1, σ_52)) (fun (s : (Int32 × jS)) => [(0, .ref (jad G (nm 0))), (1, .int v1_46), (2, .int (s.1))]) (fun (s : (Int32 × jS)) => s.2) ?_
        intro KK163 hN163 hQ163 z163
        obtain ⟨v2_163, σ_163⟩ := z163
        show J X 163 [(0, .ref (jad G (nm 0))), (1, .int v1_46), (2, .int v2_163)] [] σ_163 (f_X11_findRound_L163 nm v1_46 (v2_163, σ_163)) KK163
        unfold f_X11_findRound_L163
        refine J_iload_n hX dX11_findRound_163 rfl ?_
        refine J_bipush hX dX11_findRound_164 kb_50 ?_
        refine J_icmp_ge hX dX11_findRound_166 (tgt := 215) rfl (fun _ => ?_) (fun _ => ?_)
        · refine hQ163 _ _ _ _ _ ?_
          refine J_bipush hX dX11_findRound_215 kb_48 ?_
          refine J_istore_n hX dX11_findRound_217 (Nat.le_of_ble_eq_true rfl) (lv' := [(0, .ref (jad G (nm 0))), (1, .int v1_46), (2, .int 48)]) rfl ?_
          refine J_keep [0, 1, 2] (lv' := [(0, .ref (jad G (nm 0))), (1, .int v1_46), (2, .int 48)]) rfl ?_
          refine J_lp (pc := 218) (s0 := (48, σ_163)) (fun (s : (Int32 × jS)) => [(0, .ref (jad G (nm 0))), (1, .int v1_46), (2, .int (s.1))]) (fun (s : (Int32 × jS)) => s.2) ?_
          intro KK218 hN218 hQ218 z218
          obtain ⟨v2_218, σ_218⟩ := z218
          show J X 218 [(0, .ref (jad G (nm 0))), (1, .int v1_46), (2, .int v2_218)] [] σ_218 (f_X11_findRound_L218 nm v1_46 (v2_218, σ_218)) KK218
          unfold f_X11_findRound_L218
          refine J_iload_n hX dX11_findRound_218 rfl ?_
          refine J_if_lt hX dX11_findRound_219 (tgt := 268) rfl (fun _ => ?_) (fun _ => ?_)
          · refine hQ218 _ _ _ _ _ ?_
            refine J_iinc hX dX11_findRound_268 rfl (congrArg (_ + ·) k_im1) (Nat.le_of_ble_eq_true rfl) (lv' := [(0, .ref (jad G (nm 0))), (1, .int (v1_46 + (-1))), (2, .int v2_218)]) rfl ?_
            refine J_goto hX dX11_findRound_271 (tgt := 46) rfl ?_
            exact J_keep [0, 1] rfl (hN46 (v1_46 + (-1), σ_218))
          · refine J_aload_n hX dX11_findRound_222 rfl ?_
            refine J_getr hX hE 0 34 rfl rfl fl_X11_60 dX11_findRound_223 ?_
            refine J_bipush hX dX11_findRound_226 kb_50 ?_
            refine J_iload_n hX dX11_findRound_228 rfl ?_
            refine J_imul hX dX11_findRound_229 ?_
            refine J_iload_n hX dX11_findRound_230 rfl ?_
            refine J_iadd hX dX11_findRound_231 ?_
            refine J_aload_n hX dX11_findRound_232 rfl ?_
            refine J_getr hX hE 0 34 rfl rfl fl_X11_60 dX11_findRound_233 ?_
            refine J_bipush hX dX11_findRound_236 kb_50 ?_
            refine J_iload_n hX dX11_findRound_238 rfl ?_
            refine J_imul hX dX11_findRound_239 ?_
            refine J_iload_n hX dX11_findRound_240 rfl ?_
            refine J_iadd hX dX11_findRound_241 ?_
            refine J_iald hX hE 13 rfl dX11_findRound_242 (fun _ => ?_)
            refine J_iconst hX dX11_findRound_243 k_i1 ?_
            refine J_aload_n hX dX11_findRound_244 rfl ?_
            refine J_getr hX hE 0 34 rfl rfl fl_X11_60 dX11_findRound_245 ?_
            refine J_bipush hX dX11_findRound_248 kb_50 ?_
            refine J_iload_n hX dX11_findRound_250 rfl ?_
            refine J_imul hX dX11_findRound_251 ?_
            refine J_iload_n hX dX11_findRound_252 rfl ?_
            refine J_iadd hX dX11_findRound_253 ?_
            refine J_iconst hX dX11_findRound_254 k_i1 ?_
            refine J_iadd hX dX11_findRound_255 ?_
            refine J_iald hX hE 13 rfl dX11_findRound_256 (fun _ => ?_)
            refine J_iadd hX dX11_findRound_257 ?_
            refine J_cSP hX (C_X11_lesser hG (g_i σ_218 (nm 13) ((50 * v1_46) + v2_218).toNatClampNeg) (1 + (g_i σ_218 (nm 13) (((50 * v1_46) + v2_218) + 1).toNatClampNeg)) σ_218) mw_X11_lesser ml_X11_297 ⟨Nat.le_of_ble_eq_true rfl, Nat.le_of_ble_eq_true rfl⟩ rfl rfl (Nat.le_of_ble_eq_true rfl) dX11_findRound_258 (fun q25 => ?_)
            refine J_iast hX hE 13 rfl dX11_findRound_261 (fun _ => ?_)
            refine J_bdS (fun s26 => ?_)
            refine J_iinc hX dX11_findRound_262 rfl (congrArg (_ + ·) k_im1) (Nat.le_of_ble_eq_true rfl) (lv' := [(0, .ref (jad G (nm 0))), (1, .int v1_46), (2, .int (v2_218 + (-1)))]) rfl ?_
            refine J_goto hX dX11_findRound_265 (tgt := 218) rfl ?_
            exact J_keep [0, 1, 2] rfl (hN218 (v2_218 + (-1), s26))
        · refine J_aload_n hX dX11_findRound_169 rfl ?_
          refine J_getr hX hE 0 34 rfl rfl fl_X11_60 dX11_findRound_170 ?_
          refine J_bipush hX dX11_findRound_173 kb_50 ?_
          refine J_iload_n hX dX11_findRound_175 rfl ?_
          refine J_imul hX dX11_findRound_176 ?_
          refine J_iload_n hX dX11_findRound_177 rfl ?_
          refine J_iadd hX dX11_findRound_178 ?_
          refine J_aload_n hX dX11_findRound_179 rfl ?_
          refine J_getr hX hE 0 34 rfl rfl fl_X11_60 dX11_findRound_180 ?_
          refine J_bipush hX dX11_findRound_183 kb_50 ?_
          refine J_iload_n hX dX11_findRound_185 rfl ?_
          refine J_imul hX dX11_findRound_186 ?_
          refine J_iload_n hX dX11_findRound_187 rfl ?_
          refine J_iadd hX dX11_findRound_188 ?_
          refine J_iald hX hE 13 rfl dX11_findRound_189 (fun _ => ?_)
          refine J_iconst hX dX11_findRound_190 k_i1 ?_
          refine J_aload_n hX dX11_findRound_191 rfl ?_
          refine J_getr hX hE 0 34 rfl rfl fl_X11_60 dX11_findRound_192 ?_
          refine J_bipush hX dX11_findRound_195 kb_50 ?_
          refine J_iload_n hX dX11_findRound_197 rfl ?_
          refine J_imul hX dX11_findRound_198 ?_
          refine J_iload_n hX dX11_findRound_199 rfl ?_
          refine J_iadd hX dX11_findRound_200 ?_
          refine J_iconst hX dX11_findRound_201 k_i1 ?_
          refine J_isub hX dX11_findRound_202 ?_
          refine J_iald hX hE 13 rfl dX11_findRound_203 (fun _ => ?_)
          refine J_iadd hX dX11_findRound_204 ?_
          refine J_cSP hX (C_X11_lesser hG (g_i σ_163 (nm 13) ((50 * v1_46) + v2_163).toNatClampNeg) (1 + (g_i σ_163 (nm 13) (((50 * v1_46) + v2_163) - 1).toNatClampNeg)) σ_163) mw_X11_lesser ml_X11_297 ⟨Nat.le_of_ble_eq_true rfl, Nat.le_of_ble_eq_true rfl⟩ rfl rfl (Nat.le_of_ble_eq_true rfl) dX11_findRound_205 (fun q27 => ?_)
          refine J_iast hX hE 13 rfl dX11_findRound_208 (fun _ => ?_)
          refine J_bdS (fun s28 => ?_)
          refine J_iinc hX dX11_findRound_209 rfl (congrArg (_ + ·) k_i1) (Nat.le_of_ble_eq_true rfl) (lv' := [(0, .ref (jad G (nm 0))), (1, .int v1_46), (2, .int (v2_163 + 1))]) rfl ?_
          refine J_goto hX dX11_findRound_212 (tgt := 163) rfl ?_
          exact J_keep [0, 1, 2] rfl (hN163 (v2_163 + 1, s28))
      · refine J_iload_n hX dX11_findRound_58 rfl ?_
        refine J_aload_n hX dX11_findRound_59 rfl ?_
        refine J_cVP hX hE 0 (C_X11_all hG hE σ_52) mw_X11_all ml_X11_111 rfl rfl rfl ⟨Nat.le_of_ble_eq_true rfl, Nat.le_of_ble_eq_true rfl⟩ rfl rfl (Nat.le_of_ble_eq_true rfl) dX11_findRound_60 (fun q29 => ?_)
        refine J_blk ?_
        intro KB63 hB63
        refine J_icmp_ne hX dX11_findRound_63 (tgt := 70) rfl (fun _ => ?_) (fun _ => ?_)
        · refine J_ldcw hX wc_X11_296 dX11_findRound_70 ?_
          refine hB63 _ _ _ _ _ ?_
          exact J_keep [0, 1, 2] rfl (hJ73 v2_52 1000000 σ_52)
        · refine J_iconst hX dX11_findRound_66 k_i0 ?_
          refine J_goto hX dX11_findRound_67 (tgt := 73) rfl ?_
          refine hB63 _ _ _ _ _ ?_
          exact J_keep [0, 1, 2] rfl (hJ73 v2_52 0 σ_52)
  · refine J_aload_n hX dX11_findRound_9 rfl ?_
    refine J_getr hX hE 0 35 rfl rfl fl_X11_63 dX11_findRound_10 ?_
    refine J_iload_n hX dX11_findRound_13 rfl ?_
    refine J_aload_n hX dX11_findRound_14 rfl ?_
    refine J_iload_n hX dX11_findRound_15 rfl ?_
    refine J_bipush hX dX11_findRound_16 kb_64 ?_
    refine J_idiv hX dX11_findRound_18 (fun _ => ?_)
    refine J_iload_n hX dX11_findRound_19 rfl ?_
    refine J_bipush hX dX11_findRound_20 kb_64 ?_
    refine J_irem hX dX11_findRound_22 (fun _ => ?_)
    refine J_aload_n hX dX11_findRound_23 rfl ?_
    refine J_geti hX hE 0 7 rfl rfl fl_X11_29 dX11_findRound_24 ?_
    refine J_aload_n hX dX11_findRound_27 rfl ?_
    refine J_geti hX hE 0 15 rfl rfl fl_X11_218 dX11_findRound_28 ?_
    refine J_cVP hX hE 0 (C_X11_wakesBy hG hE (v1_2 / 64) (v1_2 - v1_2 / 64 * 64) (g_i σ_2 (nm 0) 7) (g_i σ_2 (nm 0) 15) σ_2) mw_X11_wakesBy ml_X11_255 rfl rfl rfl ⟨Nat.le_of_ble_eq_true rfl, Nat.le_of_ble_eq_true rfl⟩ rfl rfl (Nat.le_of_ble_eq_true rfl) dX11_findRound_31 (fun q30 => ?_)
    refine J_iast hX hE 14 rfl dX11_findRound_34 (fun _ => ?_)
    refine J_bdS (fun s31 => ?_)
    refine J_iinc hX dX11_findRound_35 rfl (congrArg (_ + ·) k_i1) (Nat.le_of_ble_eq_true rfl) (lv' := [(0, .ref (jad G (nm 0))), (1, .int (v1_2 + 1))]) rfl ?_
    refine J_goto hX dX11_findRound_38 (tgt := 2) rfl ?_
    exact J_keep [0, 1] rfl (hN2 (v1_2 + 1, s31))
theorem mw_X11_findRound : jMV Y_X11_findRound 0 := ⟨⟨tw_tb (List.mem_of_getElem? (i := 1392) (by decide +kernel)) (by decide +kernel), tw_pv (List.mem_of_getElem? (i := 55) (by decide +kernel)) (by decide +kernel), tw_tb (List.mem_of_getElem? (i := 13) (by decide +kernel)) (by decide +kernel), tw_tb (List.mem_of_getElem? (i := 1393) (by decide +kernel)) (by decide +kernel)⟩, ⟨rfl, rfl⟩, by decide +kernel, by decide +kernel, by decide +kernel⟩
-- X11_beginRound
noncomputable def f_X11_beginRound (nm : Nat → Nat) (σ : jS) : Option (Int32 × jS) :=
  (f_X11_findRound nm σ).bind (fun s1 =>
    bd (s_i s1 (nm 0) 36 0) (fun s2 =>
      bd (s_i s2 (nm 0) 37 0) (fun s3 =>
        gd (vp_in 0 51200) (
          if (g_i s3 (nm 13) (0 : Int32).toNatClampNeg) < 1000000 then
            gd (vp_in 0 51200) (
              some (g_i s3 (nm 13) (0 : Int32).toNatClampNeg, s3))
          else
            some ((-1), s3)))))
abbrev Y_X11_beginRound : jY := (yX11_beginRound, cX11_beginRound, 1, some .int, { frames := 3, cells := 0, slots := 0, locals := 74 })
theorem C_X11_beginRound {l : Launch} {G : jG} {nm : Nat → Nat} (hG : jWL G) (hE : jE G nm LS_X11) (σ : jS) : jC r_I l G Y_X11_beginRound [.ref (jad G (nm 0))] σ (f_X11_beginRound nm σ) := by
  refine jw_met hG pn_X11 (Nat.le_of_ble_eq_true rfl) ⟨rfl, rfl⟩ ?_
  intro X hX hM
  have hX : jB X l G cX11_beginRound RX11 1 { frames := 3, cells := 0, slots := 0, locals := 74 } := hX
  have hM : jM X (some .int) := hM
  show J X 0 [(0, .ref (jad G (nm 0)))] [] σ (f_X11_beginRound nm σ) (jk r_I X)
  unfold f_X11_beginRound
  refine J_aload_n hX dX11_beginRound_0 rfl ?_
  refine J_cVV hX hE 0 (C_X11_findRound hG hE σ) mw_X11_findRound ml_X11_306 rfl rfl rfl ⟨Nat.le_of_ble_eq_true rfl, Nat.le_of_ble_eq_true rfl⟩ rfl rfl (Nat.le_of_ble_eq_true rfl) dX11_beginRound_1 (fun s4 => ?_)
  refine J_aload_n hX dX11_beginRound_4 rfl ?_
  refine J_iconst hX dX11_beginRound_5 k_i0 ?_
  refine J_puti hX hE 0 36 rfl rfl fp_X11_300 dX11_beginRound_6 ?_
  refine J_bdS (fun s5 => ?_)
  refine J_aload_n hX dX11_beginRound_9 rfl ?_
  refine J_iconst hX dX11_beginRound_10 k_i0 ?_
  refine J_puti hX hE 0 37 rfl rfl fp_X11_303 dX11_beginRound_11 ?_
  refine J_bdS (fun s6 => ?_)
  refine J_aload_n hX dX11_beginRound_14 rfl ?_
  refine J_getr hX hE 0 34 rfl rfl fl_X11_60 dX11_beginRound_15 ?_
  refine J_iconst hX dX11_beginRound_18 k_i0 ?_
  refine J_iald hX hE 13 rfl dX11_beginRound_19 (fun _ => ?_)
  refine J_ldcw hX wc_X11_296 dX11_beginRound_20 ?_
  refine J_icmp_lt hX dX11_beginRound_23 (tgt := 30) rfl (fun _ => ?_) (fun _ => ?_)
  · refine J_aload_n hX dX11_beginRound_30 rfl ?_
    refine J_getr hX hE 0 34 rfl rfl fl_X11_60 dX11_beginRound_31 ?_
    refine J_iconst hX dX11_beginRound_34 k_i0 ?_
    refine J_iald hX hE 13 rfl dX11_beginRound_35 (fun _ => ?_)
    exact J_iret hX hM dX11_beginRound_36
  · refine J_iconst hX dX11_beginRound_26 k_im1 ?_
    refine J_goto hX dX11_beginRound_27 (tgt := 36) rfl ?_
    exact J_iret hX hM dX11_beginRound_36
theorem mw_X11_beginRound : jMV Y_X11_beginRound 0 := ⟨⟨tw_tb (List.mem_of_getElem? (i := 1388) (by decide +kernel)) (by decide +kernel), tw_pv (List.mem_of_getElem? (i := 54) (by decide +kernel)) (by decide +kernel), tw_tb (List.mem_of_getElem? (i := 13) (by decide +kernel)) (by decide +kernel), tw_tb (List.mem_of_getElem? (i := 1389) (by decide +kernel)) (by decide +kernel)⟩, ⟨rfl, rfl⟩, by decide +kernel, by decide +kernel, by decide +kernel⟩
-- X11_bits
noncomputable def f_X11_bits_L4 (v0 : Int32) (s : (Int32 × Int32)) : Option ((Int32 × Int32) ⊕ Int32) :=
  match s with
  | (v1, v2) =>
    if 10 ≤ v2 then
      some (.inr v1)
    else
      bd (v1 + ((v0 >>> (v2 &&& 31)) &&& 1)) (fun x1 =>
        some (.inl (x1, v2 + 1)))
noncomputable def f_X11_bits (v0 : Int32) : Option Int32 :=
  (lp (f_X11_bits_L4 v0) fu (0, 0)).bind (fun e2 =>
    some e2)
abbrev Y_X11_bits : jY := (yX11_bits, cX11_bits, 3, some .int, { frames := 0, cells := 0, slots := 0, locals := 0 })
theorem C_X11_bits {l : Launch} {G : jG} (hG : jWL G) (v0 : Int32) (σ : jS) : jC (r_P σ) l G Y_X11_bits [.int v0] σ (f_X11_bits v0) := by
  refine jw_met hG pn_X11 (Nat.le_of_ble_eq_true rfl) ⟨rfl, rfl⟩ ?_
  intro X hX hM
  have hX : jB X l G cX11_bits RX11 3 { frames := 0, cells := 0, slots := 0, locals := 0 } := hX
  have hM : jM X (some .int) := hM
  show J X 0 [(0, .int v0)] [] σ (f_X11_bits v0) (jk (r_P σ) X)
  unfold f_X11_bits
  refine J_iconst hX dX11_bits_0 k_i0 ?_
  refine J_istore_n hX dX11_bits_1 (Nat.le_of_ble_eq_true rfl) (lv' := [(0, .int v0), (1, .int 0)]) rfl ?_
  refine J_iconst hX dX11_bits_2 k_i0 ?_
  refine J_istore_n hX dX11_bits_3 (Nat.le_of_ble_eq_true rfl) (lv' := [(0, .int v0), (1, .int 0), (2, .int 0)]) rfl ?_
  refine J_keep [0, 1, 2] (lv' := [(0, .int v0), (1, .int 0), (2, .int 0)]) rfl ?_
  refine J_lp (pc := 4) (s0 := (0, 0)) (fun (s : (Int32 × Int32)) => [(0, .int v0), (1, .int (s.1)), (2, .int (s.2))]) (fun (s : (Int32 × Int32)) => σ) ?_
  intro KK4 hN4 hQ4 z4
  obtain ⟨v1_4, v2_4⟩ := z4
  show J X 4 [(0, .int v0), (1, .int v1_4), (2, .int v2_4)] [] σ (f_X11_bits_L4 v0 (v1_4, v2_4)) KK4
  unfold f_X11_bits_L4
  refine J_iload_n hX dX11_bits_4 rfl ?_
  refine J_bipush hX dX11_bits_5 kb_10 ?_
  refine J_icmp_ge hX dX11_bits_7 (tgt := 24) rfl (fun _ => ?_) (fun _ => ?_)
  · refine hQ4 _ _ _ _ _ ?_
    refine J_iload_n hX dX11_bits_24 rfl ?_
    exact J_iretP hX hM dX11_bits_25
  · refine J_iload_n hX dX11_bits_10 rfl ?_
    refine J_iload_n hX dX11_bits_11 rfl ?_
    refine J_iload_n hX dX11_bits_12 rfl ?_
    refine J_ishr hX dX11_bits_13 ?_
    refine J_iconst hX dX11_bits_14 k_i1 ?_
    refine J_iand hX dX11_bits_15 ?_
    refine J_iadd hX dX11_bits_16 ?_
    refine J_bdI (fun x3 => ?_)
    refine J_istore_n hX dX11_bits_17 (Nat.le_of_ble_eq_true rfl) (lv' := [(0, .int v0), (1, .int x3), (2, .int v2_4)]) rfl ?_
    refine J_iinc hX dX11_bits_18 rfl (congrArg (_ + ·) k_i1) (Nat.le_of_ble_eq_true rfl) (lv' := [(0, .int v0), (1, .int x3), (2, .int (v2_4 + 1))]) rfl ?_
    refine J_goto hX dX11_bits_21 (tgt := 4) rfl ?_
    exact J_keep [0, 1, 2] rfl (hN4 (x3, v2_4 + 1))
theorem mw_X11_bits : jMS Y_X11_bits 1 := ⟨⟨tw_tb (List.mem_of_getElem? (i := 1479) (by decide +kernel)) (by decide +kernel), tw_tb (List.mem_of_getElem? (i := 13) (by decide +kernel)) (by decide +kernel), tw_tb (List.mem_of_getElem? (i := 1480) (by decide +kernel)) (by decide +kernel)⟩, ⟨rfl, rfl⟩, by decide +kernel, by decide +kernel, by decide +kernel⟩
-- X11_clear
noncomputable def f_X11_clear (nm : Nat → Nat) (σ : jS) : Option (Int32 × jS) :=
  bd (g_i σ (nm 0) 47) (fun x1 =>
    bd (s_i σ (nm 0) 47 0) (fun s2 =>
      some (x1, s2)))
abbrev Y_X11_clear : jY := (yX11_clear, cX11_clear, 2, some .int, { frames := 0, cells := 0, slots := 0, locals := 0 })
theorem C_X11_clear {l : Launch} {G : jG} {nm : Nat → Nat} (hG : jWL G) (hE : jE G nm LS_X11) (σ : jS) : jC r_I l G Y_X11_clear [.ref (jad G (nm 0))] σ (f_X11_clear nm σ) := by
  refine jw_met hG pn_X11 (Nat.le_of_ble_eq_true rfl) ⟨rfl, rfl⟩ ?_
  intro X hX hM
  have hX : jB X l G cX11_clear RX11 2 { frames := 0, cells := 0, slots := 0, locals := 0 } := hX
  have hM : jM X (some .int) := hM
  show J X 0 [(0, .ref (jad G (nm 0)))] [] σ (f_X11_clear nm σ) (jk r_I X)
  unfold f_X11_clear
  refine J_aload_n hX dX11_clear_0 rfl ?_
  refine J_geti hX hE 0 47 rfl rfl fl_X11_215 dX11_clear_1 ?_
  refine J_bdI (fun x3 => ?_)
  refine J_istore_n hX dX11_clear_4 (Nat.le_of_ble_eq_true rfl) (lv' := [(0, .ref (jad G (nm 0))), (1, .int x3)]) rfl ?_
  refine J_aload_n hX dX11_clear_5 rfl ?_
  refine J_iconst hX dX11_clear_6 k_i0 ?_
  refine J_puti hX hE 0 47 rfl rfl fp_X11_215 dX11_clear_7 ?_
  refine J_bdS (fun s4 => ?_)
  refine J_iload_n hX dX11_clear_10 rfl ?_
  exact J_iret hX hM dX11_clear_11
theorem mw_X11_clear : jMV Y_X11_clear 0 := ⟨⟨tw_tb (List.mem_of_getElem? (i := 1498) (by decide +kernel)) (by decide +kernel), tw_tb (List.mem_of_getElem? (i := 1499) (by decide +kernel)) (by decide +kernel), tw_tb (List.mem_of_getElem? (i := 13) (by decide +kernel)) (by decide +kernel), tw_tb (List.mem_of_getElem? (i := 1500) (by decide +kernel)) (by decide +kernel)⟩, ⟨rfl, rfl⟩, by decide +kernel, by decide +kernel, by decide +kernel⟩
-- X11_code
noncomputable def f_X11_code (v0 : Int32) (v1 : Int32) (v2 : Int32) (v3 : Int32) : Option Int64 :=
  some (((27 * (((27 * (((27 * ((v0.toInt64) - 96)) + (v1.toInt64)) - 96)) + (v2.toInt64)) - 96)) + (v3.toInt64)) - 96)
abbrev Y_X11_code : jY := (yX11_code, cX11_code, 4, some .long, { frames := 0, cells := 0, slots := 0, locals := 0 })
theorem C_X11_code {l : Launch} {G : jG} (hG : jWL G) (v0 : Int32) (v1 : Int32) (v2 : Int32) (v3 : Int32) (σ : jS) : jC (r_PL σ) l G Y_X11_code [.int v0, .int v1, .int v2, .int v3] σ (f_X11_code v0 v1 v2 v3) := by
  refine jw_met hG pn_X11 (Nat.le_of_ble_eq_true rfl) ⟨rfl, rfl⟩ ?_
  intro X hX hM
  have hX : jB X l G cX11_code RX11 4 { frames := 0, cells := 0, slots := 0, locals := 0 } := hX
  have hM : jM X (some .long) := hM
  show J X 0 [(0, .int v0), (1, .int v1), (2, .int v2), (3, .int v3)] [] σ (f_X11_code v0 v1 v2 v3) (jk (r_PL σ) X)
  unfold f_X11_code
  refine J_ldc2 hX wl_X11_145 dX11_code_0 ?_
  refine J_ldc2 hX wl_X11_145 dX11_code_3 ?_
  refine J_ldc2 hX wl_X11_145 dX11_code_6 ?_
  refine J_iload_n hX dX11_code_9 rfl ?_
  refine J_i2l hX dX11_code_10 ?_
  refine J_ldc2 hX wl_X11_147 dX11_code_11 ?_
  refine J_lsub hX dX11_code_14 ?_
  refine J_lmul hX dX11_code_15 ?_
  refine J_iload_n hX dX11_code_16 rfl ?_
  refine J_i2l hX dX11_code_17 ?_
  refine J_ladd hX dX11_code_18 ?_
  refine J_ldc2 hX wl_X11_147 dX11_code_19 ?_
  refine J_lsub hX dX11_code_22 ?_
  refine J_lmul hX dX11_code_23 ?_
  refine J_iload_n hX dX11_code_24 rfl ?_
  refine J_i2l hX dX11_code_25 ?_
  refine J_ladd hX dX11_code_26 ?_
  refine J_ldc2 hX wl_X11_147 dX11_code_27 ?_
  refine J_lsub hX dX11_code_30 ?_
  refine J_lmul hX dX11_code_31 ?_
  refine J_iload_n hX dX11_code_32 rfl ?_
  refine J_i2l hX dX11_code_33 ?_
  refine J_ladd hX dX11_code_34 ?_
  refine J_ldc2 hX wl_X11_147 dX11_code_35 ?_
  refine J_lsub hX dX11_code_38 ?_
  exact J_lretP hX hM dX11_code_39
theorem mw_X11_code : jMS Y_X11_code 4 := ⟨⟨tw_tb (List.mem_of_getElem? (i := 1237) (by decide +kernel)) (by decide +kernel), tw_tb (List.mem_of_getElem? (i := 13) (by decide +kernel)) (by decide +kernel), tw_tb (List.mem_of_getElem? (i := 1238) (by decide +kernel)) (by decide +kernel)⟩, ⟨rfl, rfl⟩, by decide +kernel, by decide +kernel, by decide +kernel⟩
-- X11_dark
noncomputable def f_X11_dark (nm : Nat → Nat) (σ : jS) : Option (Int32 × jS) :=
  bd (g_i σ (nm 0) 14) (fun x1 =>
    (f_X11_allOut nm σ).bind (fun s2 =>
      some (x1, s2)))
abbrev Y_X11_dark : jY := (yX11_dark, cX11_dark, 2, some .int, { frames := 1, cells := 0, slots := 0, locals := 21 })
theorem C_X11_dark {l : Launch} {G : jG} {nm : Nat → Nat} (hG : jWL G) (hE : jE G nm LS_X11) (σ : jS) : jC r_I l G Y_X11_dark [.ref (jad G (nm 0))] σ (f_X11_dark nm σ) := by
  refine jw_met hG pn_X11 (Nat.le_of_ble_eq_true rfl) ⟨rfl, rfl⟩ ?_
  intro X hX hM
  have hX : jB X l G cX11_dark RX11 2 { frames := 1, cells := 0, slots := 0, locals := 21 } := hX
  have hM : jM X (some .int) := hM
  show J X 0 [(0, .ref (jad G (nm 0)))] [] σ (f_X11_dark nm σ) (jk r_I X)
  unfold f_X11_dark
  refine J_aload_n hX dX11_dark_0 rfl ?_
  refine J_geti hX hE 0 14 rfl rfl fl_X11_227 dX11_dark_1 ?_
  refine J_bdI (fun x3 => ?_)
  refine J_istore_n hX dX11_dark_4 (Nat.le_of_ble_eq_true rfl) (lv' := [(0, .ref (jad G (nm 0))), (1, .int x3)]) rfl ?_
  refine J_aload_n hX dX11_dark_5 rfl ?_
  refine J_cVV hX hE 0 (C_X11_allOut hG hE σ) mw_X11_allOut ml_X11_224 rfl rfl rfl ⟨Nat.le_of_ble_eq_true rfl, Nat.le_of_ble_eq_true rfl⟩ rfl rfl (Nat.le_of_ble_eq_true rfl) dX11_dark_6 (fun s4 => ?_)
  refine J_iload_n hX dX11_dark_9 rfl ?_
  exact J_iret hX hM dX11_dark_10
theorem mw_X11_dark : jMV Y_X11_dark 0 := ⟨⟨tw_tb (List.mem_of_getElem? (i := 1375) (by decide +kernel)) (by decide +kernel), tw_tb (List.mem_of_getElem? (i := 1376) (by decide +kernel)) (by decide +kernel), tw_tb (List.mem_of_getElem? (i := 13) (by decide +kernel)) (by decide +kernel), tw_tb (List.mem_of_getElem? (i := 1377) (by decide +kernel)) (by decide +kernel)⟩, ⟨rfl, rfl⟩, by decide +kernel, by decide +kernel, by decide +kernel⟩
-- X11_step
noncomputable def f_X11_step_L20 (nm : Nat → Nat) (v1 : Int32) (s : (Int32 × jS)) : Option ((Int32 × jS) ⊕ (jS ⊕ (Int32 × jS))) :=
  match s with
  | (v2, σ) =>
    if 64 ≤ v2 then
      some (.inr (.inl σ))
    else
      gd (vp_in ((64 * (g_i σ (nm 0) 37)) + v2) 3200) (
        bd ((g_i σ (nm 0) 36) ||| (g_i σ (nm 14) ((64 * (g_i σ (nm 0) 37)) + v2).toNatClampNeg)) (fun x2 =>
          gd (vp_in ((50 * x2) + (g_i σ (nm 0) 37)) 51200) (
            if (g_i σ (nm 13) ((50 * x2) + (g_i σ (nm 0) 37)).toNatClampNeg) = (v1 - 1) then
              bd (s_i σ (nm 0) 36 x2) (fun s3 =>
                some (.inr (.inr (v2, s3))))
            else
              some (.inl (v2 + 1, σ)))))
noncomputable def f_X11_step_J117 (nm : Nat → Nat) (σ : jS) : Option Int32 :=
  some 0
noncomputable def f_X11_step_J133 (nm : Nat → Nat) (v2 : Int32) (t1 : Int32) (t2 : Int32) (σ : jS) : Option (Int32 × jS) :=
  bd (s_i σ (nm 0) 37 (t1 + t2)) (fun s7 =>
    if v2 = 0 then
      some (65, s7)
    else
      some (64, s7))
noncomputable def f_X11_step_J118 (nm : Nat → Nat) (t0 : Int32) (σ : jS) : Option (Int32 × jS) :=
  (if t0 = 0 then
    some (-1)
  else
    some 1).bind (fun y6 =>
    f_X11_step_J133 nm t0 (g_i σ (nm 0) 37) y6 σ)
noncomputable def f_X11_step (nm : Nat → Nat) (σ : jS) : Option (Int32 × jS) :=
  gd (vp_in ((50 * (g_i σ (nm 0) 36)) + (g_i σ (nm 0) 37)) 51200) (
    bd (g_i σ (nm 13) ((50 * (g_i σ (nm 0) 36)) + (g_i σ (nm 0) 37)).toNatClampNeg) (fun x1 =>
      (lp (f_X11_step_L20 nm x1) fu (0, σ)).bind (fun x => match x with
      | .inl s4 =>
        (if 49 ≤ (g_i s4 (nm 0) 37) then
          f_X11_step_J117 nm s4
        else
          gd (vp_in (((50 * (g_i s4 (nm 0) 36)) + (g_i s4 (nm 0) 37)) + 1) 51200) (
            if (g_i s4 (nm 13) (((50 * (g_i s4 (nm 0) 36)) + (g_i s4 (nm 0) 37)) + 1).toNatClampNeg) = (x1 - 1) then
              some 1
            else
              f_X11_step_J117 nm s4)).bind (fun y5 =>
          f_X11_step_J118 nm y5 s4)
      | .inr a => some a)))
abbrev Y_X11_step : jY := (yX11_step, cX11_step, 4, some .int, { frames := 0, cells := 0, slots := 0, locals := 0 })
theorem C_X11_step {l : Launch} {G : jG} {nm : Nat → Nat} (hG : jWL G) (hE : jE G nm LS_X11) (σ : jS) : jC r_I l G Y_X11_step [.ref (jad G (nm 0))] σ (f_X11_step nm σ) := by
  refine jw_met hG pn_X11 (Nat.le_of_ble_eq_true rfl) ⟨rfl, rfl⟩ ?_
  intro X hX hM
  have hX : jB X l G cX11_step RX11 4 { frames := 0, cells := 0, slots := 0, locals := 0 } := hX
  have hM : jM X (some .int) := hM
  show J X 0 [(0, .ref (jad G (nm 0)))] [] σ (f_X11_step nm σ) (jk r_I X)
  have hJ133 : ∀ (v2 : Int32) (t1 : Int32) (t2 : Int32) (σ : jS), J X 133 [(2, .int v2)] [.int t2, .int t1, .ref (jad G (nm 0))] σ (f_X11_step_J133 nm v2 t1 t2 σ) (jk r_I X) := by
    intro v2 t1 t2 σ
    unfold f_X11_step_J133
    refine J_iadd hX dX11_step_133 ?_
    refine J_puti hX hE 0 37 rfl rfl fp_X11_303 dX11_step_134 ?_
    refine J_bdS (fun s8 => ?_)
    refine J_iload_n hX dX11_step_137 rfl ?_
    refine J_if_eq hX dX11_step_138 (tgt := 146) rfl (fun _ => ?_) (fun _ => ?_)
    · refine J_bipush hX dX11_step_146 kb_65 ?_
      exact J_iret hX hM dX11_step_148
    · refine J_bipush hX dX11_step_141 kb_64 ?_
      refine J_goto hX dX11_step_143 (tgt := 148) rfl ?_
      exact J_iret hX hM dX11_step_148
  have hJ118 : ∀ (t0 : Int32) (σ : jS), J X 118 [(0, .ref (jad G (nm 0)))] [.int t0] σ (f_X11_step_J118 nm t0 σ) (jk r_I X) := by
    intro t0 σ
    unfold f_X11_step_J118
    refine J_istore_n hX dX11_step_118 (Nat.le_of_ble_eq_true rfl) (lv' := [(0, .ref (jad G (nm 0))), (2, .int t0)]) rfl ?_
    refine J_aload_n hX dX11_step_119 rfl ?_
    refine J_dup hX dX11_step_120 rfl ?_
    refine J_geti hX hE 0 37 rfl rfl fl_X11_303 dX11_step_121 ?_
    refine J_iload_n hX dX11_step_124 rfl ?_
    refine J_blk ?_
    intro KB125 hB125
    refine J_if_eq hX dX11_step_125 (tgt := 132) rfl (fun _ => ?_) (fun _ => ?_)
    · refine J_iconst hX dX11_step_132 k_im1 ?_
      refine hB125 _ _ _ _ _ ?_
      exact J_keep [1] rfl (hJ133 t0 (g_i σ (nm 0) 37) (-1) σ)
    · refine J_iconst hX dX11_step_128 k_i1 ?_
      refine J_goto hX dX11_step_129 (tgt := 133) rfl ?_
      refine hB125 _ _ _ _ _ ?_
      exact J_keep [1] rfl (hJ133 t0 (g_i σ (nm 0) 37) 1 σ)
  unfold f_X11_step
  refine J_aload_n hX dX11_step_0 rfl ?_
  refine J_getr hX hE 0 34 rfl rfl fl_X11_60 dX11_step_1 ?_
  refine J_bipush hX dX11_step_4 kb_50 ?_
  refine J_aload_n hX dX11_step_6 rfl ?_
  refine J_geti hX hE 0 36 rfl rfl fl_X11_300 dX11_step_7 ?_
  refine J_imul hX dX11_step_10 ?_
  refine J_aload_n hX dX11_step_11 rfl ?_
  refine J_geti hX hE 0 37 rfl rfl fl_X11_303 dX11_step_12 ?_
  refine J_iadd hX dX11_step_15 ?_
  refine J_iald hX hE 13 rfl dX11_step_16 (fun _ => ?_)
  refine J_bdI (fun x9 => ?_)
  refine J_istore_n hX dX11_step_17 (Nat.le_of_ble_eq_true rfl) (lv' := [(0, .ref (jad G (nm 0))), (1, .int x9)]) rfl ?_
  refine J_iconst hX dX11_step_18 k_i0 ?_
  refine J_istore_n hX dX11_step_19 (Nat.le_of_ble_eq_true rfl) (lv' := [(0, .ref (jad G (nm 0))), (1, .int x9), (2, .int 0)]) rfl ?_
  refine J_keep [0, 1, 2] (lv' := [(0, .ref (jad G (nm 0))), (1, .int x9), (2, .int 0)]) rfl ?_
  refine J_lp (pc := 20) (s0 := (0, σ)) (fun (s : (Int32 × jS)) => [(0, .ref (jad G (nm 0))), (1, .int x9), (2, .int (s.1))]) (fun (s : (Int32 × jS)) => s.2) ?_
  intro KK20 hN20 hQ20 z20
  obtain ⟨v2_20, σ_20⟩ := z20
  show J X 20 [(0, .ref (jad G (nm 0))), (1, .int x9), (2, .int v2_20)] [] σ_20 (f_X11_step_L20 nm x9 (v2_20, σ_20)) KK20
  unfold f_X11_step_L20
  refine J_iload_n hX dX11_step_20 rfl ?_
  refine J_bipush hX dX11_step_21 kb_64 ?_
  refine J_icmp_ge hX dX11_step_23 (tgt := 79) rfl (fun _ => ?_) (fun _ => ?_)
  · refine hQ20 _ _ _ _ _ ?_
    refine J_aload_n hX dX11_step_79 rfl ?_
    refine J_geti hX hE 0 37 rfl rfl fl_X11_303 dX11_step_80 ?_
    refine J_bipush hX dX11_step_83 kb_49 ?_
    refine J_blk ?_
    intro KB85 hB85
    have hJ117 : J X 117 [(0, .ref (jad G (nm 0)))] [] σ_20 (f_X11_step_J117 nm σ_20) KB85 := by
      unfold f_X11_step_J117
      refine J_iconst hX dX11_step_117 k_i0 ?_
      refine hB85 _ _ _ _ _ ?_
      exact J_keep [0] rfl (hJ118 0 σ_20)
    refine J_icmp_ge hX dX11_step_85 (tgt := 117) rfl (fun _ => ?_) (fun _ => ?_)
    · exact J_keep [0] rfl (hJ117 )
    · refine J_aload_n hX dX11_step_88 rfl ?_
      refine J_getr hX hE 0 34 rfl rfl fl_X11_60 dX11_step_89 ?_
      refine J_bipush hX dX11_step_92 kb_50 ?_
      refine J_aload_n hX dX11_step_94 rfl ?_
      refine J_geti hX hE 0 36 rfl rfl fl_X11_300 dX11_step_95 ?_
      refine J_imul hX dX11_step_98 ?_
      refine J_aload_n hX dX11_step_99 rfl ?_
      refine J_geti hX hE 0 37 rfl rfl fl_X11_303 dX11_step_100 ?_
      refine J_iadd hX dX11_step_103 ?_
      refine J_iconst hX dX11_step_104 k_i1 ?_
      refine J_iadd hX dX11_step_105 ?_
      refine J_iald hX hE 13 rfl dX11_step_106 (fun _ => ?_)
      refine J_iload_n hX dX11_step_107 rfl ?_
      refine J_iconst hX dX11_step_108 k_i1 ?_
      refine J_isub hX dX11_step_109 ?_
      refine J_icmp_ne hX dX11_step_110 (tgt := 117) rfl (fun _ => ?_) (fun _ => ?_)
      · exact J_keep [0] rfl (hJ117 )
      · refine J_iconst hX dX11_step_113 k_i1 ?_
        refine J_goto hX dX11_step_114 (tgt := 118) rfl ?_
        refine hB85 _ _ _ _ _ ?_
        exact J_keep [0] rfl (hJ118 1 σ_20)
  · refine J_aload_n hX dX11_step_26 rfl ?_
    refine J_geti hX hE 0 36 rfl rfl fl_X11_300 dX11_step_27 ?_
    refine J_aload_n hX dX11_step_30 rfl ?_
    refine J_getr hX hE 0 35 rfl rfl fl_X11_63 dX11_step_31 ?_
    refine J_bipush hX dX11_step_34 kb_64 ?_
    refine J_aload_n hX dX11_step_36 rfl ?_
    refine J_geti hX hE 0 37 rfl rfl fl_X11_303 dX11_step_37 ?_
    refine J_imul hX dX11_step_40 ?_
    refine J_iload_n hX dX11_step_41 rfl ?_
    refine J_iadd hX dX11_step_42 ?_
    refine J_iald hX hE 14 rfl dX11_step_43 (fun _ => ?_)
    refine J_ior hX dX11_step_44 ?_
    refine J_bdI (fun x10 => ?_)
    refine J_istore_n hX dX11_step_45 (Nat.le_of_ble_eq_true rfl) (lv' := [(0, .ref (jad G (nm 0))), (1, .int x9), (2, .int v2_20), (3, .int x10)]) rfl ?_
    refine J_aload_n hX dX11_step_46 rfl ?_
    refine J_getr hX hE 0 34 rfl rfl fl_X11_60 dX11_step_47 ?_
    refine J_bipush hX dX11_step_50 kb_50 ?_
    refine J_iload_n hX dX11_step_52 rfl ?_
    refine J_imul hX dX11_step_53 ?_
    refine J_aload_n hX dX11_step_54 rfl ?_
    refine J_geti hX hE 0 37 rfl rfl fl_X11_303 dX11_step_55 ?_
    refine J_iadd hX dX11_step_58 ?_
    refine J_iald hX hE 13 rfl dX11_step_59 (fun _ => ?_)
    refine J_iload_n hX dX11_step_60 rfl ?_
    refine J_iconst hX dX11_step_61 k_i1 ?_
    refine J_isub hX dX11_step_62 ?_
    refine J_icmp_ne hX dX11_step_63 (tgt := 73) rfl (fun _ => ?_) (fun _ => ?_)
    · refine J_iinc hX dX11_step_73 rfl (congrArg (_ + ·) k_i1) (Nat.le_of_ble_eq_true rfl) (lv' := [(0, .ref (jad G (nm 0))), (1, .int x9), (2, .int (v2_20 + 1)), (3, .int x10)]) rfl ?_
      refine J_goto hX dX11_step_76 (tgt := 20) rfl ?_
      exact J_keep [0, 1, 2] rfl (hN20 (v2_20 + 1, σ_20))
    · refine J_aload_n hX dX11_step_66 rfl ?_
      refine J_iload_n hX dX11_step_67 rfl ?_
      refine J_puti hX hE 0 36 rfl rfl fp_X11_300 dX11_step_68 ?_
      refine J_bdS (fun s11 => ?_)
      refine J_iload_n hX dX11_step_71 rfl ?_
      refine hQ20 _ _ _ _ _ ?_
      exact J_iret hX hM dX11_step_72
theorem mw_X11_step : jMV Y_X11_step 0 := ⟨⟨tw_tb (List.mem_of_getElem? (i := 1404) (by decide +kernel)) (by decide +kernel), tw_pv (List.mem_of_getElem? (i := 57) (by decide +kernel)) (by decide +kernel), tw_tb (List.mem_of_getElem? (i := 13) (by decide +kernel)) (by decide +kernel), tw_tb (List.mem_of_getElem? (i := 1405) (by decide +kernel)) (by decide +kernel)⟩, ⟨rfl, rfl⟩, by decide +kernel, by decide +kernel, by decide +kernel⟩
-- X11_darkOn
noncomputable def f_X11_darkOn_L15 (nm : Nat → Nat) (v1 : Int32) (v2 : Int32) (s : (Int32 × Int32 × jS)) : Option ((Int32 × Int32 × jS) ⊕ (Int32 × jS)) :=
  match s with
  | (v3, v4, σ) =>
    if v2 ≤ v4 then
      some (.inr (v3, σ))
    else
      bd (g_i σ (nm 0) 37) (fun x3 =>
        (f_X11_step nm σ).bind (fun x => match x with
        | (q4, s5) =>
          if 64 ≤ q4 then
            bd (v3 ||| 0) (fun x6 =>
              some (.inl (x6, v4 + 1, s5)))
          else
            gd (vp_in v1 30) (
              (f_X11_wakesBy nm x3 q4 (g_i s5 (nm 0) 7) (g_i s5 (nm 7) v1.toNatClampNeg) s5).bind (fun q7 =>
                bd (v3 ||| q7) (fun x8 =>
                  some (.inl (x8, v4 + 1, s5)))))))
noncomputable def f_X11_darkOn (nm : Nat → Nat) (v1 : Int32) (v2 : Int32) (σ : jS) : Option (Int32 × jS) :=
  bd (s_i σ (nm 0) 36 0) (fun s1 =>
    bd (s_i s1 (nm 0) 37 0) (fun s2 =>
      (lp (f_X11_darkOn_L15 nm v1 v2) fu (0, 0, s2)).bind (fun x => match x with
      | (e9, s10) =>
        (f_X11_all nm s10).bind (fun q11 =>
          some (q11 &&& (e9 ^^^ (-1)), s10)))))
abbrev Y_X11_darkOn : jY := (yX11_darkOn, cX11_darkOn, 7, some .int, { frames := 2, cells := 0, slots := 0, locals := 49 })
theorem C_X11_darkOn {l : Launch} {G : jG} {nm : Nat → Nat} (hG : jWL G) (hE : jE G nm LS_X11) (v1 : Int32) (v2 : Int32) (σ : jS) : jC r_I l G Y_X11_darkOn [.ref (jad G (nm 0)), .int v1, .int v2] σ (f_X11_darkOn nm v1 v2 σ) := by
  refine jw_met hG pn_X11 (Nat.le_of_ble_eq_true rfl) ⟨rfl, rfl⟩ ?_
  intro X hX hM
  have hX : jB X l G cX11_darkOn RX11 7 { frames := 2, cells := 0, slots := 0, locals := 49 } := hX
  have hM : jM X (some .int) := hM
  show J X 0 [(0, .ref (jad G (nm 0))), (1, .int v1), (2, .int v2)] [] σ (f_X11_darkOn nm v1 v2 σ) (jk r_I X)
  unfold f_X11_darkOn
  refine J_aload_n hX dX11_darkOn_0 rfl ?_
  refine J_iconst hX dX11_darkOn_1 k_i0 ?_
  refine J_puti hX hE 0 36 rfl rfl fp_X11_300 dX11_darkOn_2 ?_
  refine J_bdS (fun s12 => ?_)
  refine J_aload_n hX dX11_darkOn_5 rfl ?_
  refine J_iconst hX dX11_darkOn_6 k_i0 ?_
  refine J_puti hX hE 0 37 rfl rfl fp_X11_303 dX11_darkOn_7 ?_
  refine J_bdS (fun s13 => ?_)
  refine J_iconst hX dX11_darkOn_10 k_i0 ?_
  refine J_istore_n hX dX11_darkOn_11 (Nat.le_of_ble_eq_true rfl) (lv' := [(0, .ref (jad G (nm 0))), (1, .int v1), (2, .int v2), (3, .int 0)]) rfl ?_
  refine J_iconst hX dX11_darkOn_12 k_i0 ?_
  refine J_istore hX dX11_darkOn_13 (Nat.le_of_ble_eq_true rfl) (lv' := [(0, .ref (jad G (nm 0))), (1, .int v1), (2, .int v2), (3, .int 0), (4, .int 0)]) rfl ?_
  refine J_keep [0, 1, 2, 3, 4] (lv' := [(0, .ref (jad G (nm 0))), (1, .int v1), (2, .int v2), (3, .int 0), (4, .int 0)]) rfl ?_
  refine J_lp (pc := 15) (s0 := (0, 0, s13)) (fun (s : (Int32 × Int32 × jS)) => [(0, .ref (jad G (nm 0))), (1, .int v1), (2, .int v2), (3, .int (s.1)), (4, .int (s.2.1))]) (fun (s : (Int32 × Int32 × jS)) => s.2.2) ?_
  intro KK15 hN15 hQ15 z15
  obtain ⟨v3_15, v4_15, σ_15⟩ := z15
  show J X 15 [(0, .ref (jad G (nm 0))), (1, .int v1), (2, .int v2), (3, .int v3_15), (4, .int v4_15)] [] σ_15 (f_X11_darkOn_L15 nm v1 v2 (v3_15, v4_15, σ_15)) KK15
  unfold f_X11_darkOn_L15
  refine J_iload hX dX11_darkOn_15 rfl ?_
  refine J_iload_n hX dX11_darkOn_17 rfl ?_
  refine J_icmp_ge hX dX11_darkOn_18 (tgt := 71) rfl (fun _ => ?_) (fun _ => ?_)
  · refine hQ15 _ _ _ _ _ ?_
    refine J_aload_n hX dX11_darkOn_71 rfl ?_
    refine J_cVP hX hE 0 (C_X11_all hG hE σ_15) mw_X11_all ml_X11_111 rfl rfl rfl ⟨Nat.le_of_ble_eq_true rfl, Nat.le_of_ble_eq_true rfl⟩ rfl rfl (Nat.le_of_ble_eq_true rfl) dX11_darkOn_72 (fun q14 => ?_)
    refine J_iload_n hX dX11_darkOn_75 rfl ?_
    refine J_iconst hX dX11_darkOn_76 k_im1 ?_
    refine J_ixor hX dX11_darkOn_77 ?_
    refine J_iand hX dX11_darkOn_78 ?_
    exact J_iret hX hM dX11_darkOn_79
  · refine J_aload_n hX dX11_darkOn_21 rfl ?_
    refine J_geti hX hE 0 37 rfl rfl fl_X11_303 dX11_darkOn_22 ?_
    refine J_bdI (fun x15 => ?_)
    refine J_istore hX dX11_darkOn_25 (Nat.le_of_ble_eq_true rfl) (lv' := [(0, .ref (jad G (nm 0))), (1, .int v1), (2, .int v2), (3, .int v3_15), (4, .int v4_15), (5, .int x15)]) rfl ?_
    refine J_aload_n hX dX11_darkOn_27 rfl ?_
    refine J_cVI hX hE 0 (C_X11_step hG hE σ_15) mw_X11_step ml_X11_312 rfl rfl rfl ⟨Nat.le_of_ble_eq_true rfl, Nat.le_of_ble_eq_true rfl⟩ rfl rfl (Nat.le_of_ble_eq_true rfl) dX11_darkOn_28 (fun q16 s17 => ?_)
    refine J_istore hX dX11_darkOn_31 (Nat.le_of_ble_eq_true rfl) (lv' := [(0, .ref (jad G (nm 0))), (1, .int v1), (2, .int v2), (3, .int v3_15), (4, .int v4_15), (5, .int x15), (6, .int q16)]) rfl ?_
    refine J_iload_n hX dX11_darkOn_33 rfl ?_
    refine J_iload hX dX11_darkOn_34 rfl ?_
    refine J_bipush hX dX11_darkOn_36 kb_64 ?_
    refine J_icmp_ge hX dX11_darkOn_38 (tgt := 62) rfl (fun _ => ?_) (fun _ => ?_)
    · refine J_iconst hX dX11_darkOn_62 k_i0 ?_
      refine J_ior hX dX11_darkOn_63 ?_
      refine J_bdI (fun x18 => ?_)
      refine J_istore_n hX dX11_darkOn_64 (Nat.le_of_ble_eq_true rfl) (lv' := [(0, .ref (jad G (nm 0))), (1, .int v1), (2, .int v2), (3, .int x18), (4, .int v4_15), (5, .int x15), (6, .int q16)]) rfl ?_
      refine J_iinc hX dX11_darkOn_65 rfl (congrArg (_ + ·) k_i1) (Nat.le_of_ble_eq_true rfl) (lv' := [(0, .ref (jad G (nm 0))), (1, .int v1), (2, .int v2), (3, .int x18), (4, .int (v4_15 + 1)), (5, .int x15), (6, .int q16)]) rfl ?_
      refine J_goto hX dX11_darkOn_68 (tgt := 15) rfl ?_
      exact J_keep [0, 1, 2, 3, 4] rfl (hN15 (x18, v4_15 + 1, s17))
    · refine J_aload_n hX dX11_darkOn_41 rfl ?_
      refine J_iload hX dX11_darkOn_42 rfl ?_
      refine J_iload hX dX11_darkOn_44 rfl ?_
      refine J_aload_n hX dX11_darkOn_46 rfl ?_
      refine J_geti hX hE 0 7 rfl rfl fl_X11_29 dX11_darkOn_47 ?_
      refine J_aload_n hX dX11_darkOn_50 rfl ?_
      refine J_getr hX hE 0 13 rfl rfl fl_X11_38 dX11_darkOn_51 ?_
      refine J_iload_n hX dX11_darkOn_54 rfl ?_
      refine J_iald hX hE 7 rfl dX11_darkOn_55 (fun _ => ?_)
      refine J_cVP hX hE 0 (C_X11_wakesBy hG hE x15 q16 (g_i s17 (nm 0) 7) (g_i s17 (nm 7) v1.toNatClampNeg) s17) mw_X11_wakesBy ml_X11_255 rfl rfl rfl ⟨Nat.le_of_ble_eq_true rfl, Nat.le_of_ble_eq_true rfl⟩ rfl rfl (Nat.le_of_ble_eq_true rfl) dX11_darkOn_56 (fun q19 => ?_)
      refine J_goto hX dX11_darkOn_59 (tgt := 63) rfl ?_
      refine J_ior hX dX11_darkOn_63 ?_
      refine J_bdI (fun x20 => ?_)
      refine J_istore_n hX dX11_darkOn_64 (Nat.le_of_ble_eq_true rfl) (lv' := [(0, .ref (jad G (nm 0))), (1, .int v1), (2, .int v2), (3, .int x20), (4, .int v4_15), (5, .int x15), (6, .int q16)]) rfl ?_
      refine J_iinc hX dX11_darkOn_65 rfl (congrArg (_ + ·) k_i1) (Nat.le_of_ble_eq_true rfl) (lv' := [(0, .ref (jad G (nm 0))), (1, .int v1), (2, .int v2), (3, .int x20), (4, .int (v4_15 + 1)), (5, .int x15), (6, .int q16)]) rfl ?_
      refine J_goto hX dX11_darkOn_68 (tgt := 15) rfl ?_
      exact J_keep [0, 1, 2, 3, 4] rfl (hN15 (x20, v4_15 + 1, s17))
theorem mw_X11_darkOn : jMV Y_X11_darkOn 2 := ⟨⟨tw_tb (List.mem_of_getElem? (i := 1491) (by decide +kernel)) (by decide +kernel), tw_pv (List.mem_of_getElem? (i := 65) (by decide +kernel)) (by decide +kernel), tw_tb (List.mem_of_getElem? (i := 13) (by decide +kernel)) (by decide +kernel), tw_tb (List.mem_of_getElem? (i := 1492) (by decide +kernel)) (by decide +kernel)⟩, ⟨rfl, rfl⟩, by decide +kernel, by decide +kernel, by decide +kernel⟩
-- X11_draw
noncomputable def f_X11_draw (nm : Nat → Nat) (v1 : Int32) (σ : jS) : Option (Int32 × jS) :=
  gd (¬ (2147483648 : Int64) = 0) (bd (s_i σ (nm 0) 17 ((((((g_i σ (nm 0) 17).toInt64) * 1103515245) + 12345) - ((((g_i σ (nm 0) 17).toInt64) * 1103515245) + 12345) / 2147483648 * 2147483648).toInt32)) (fun s1 =>
    gd (¬ (65536 : Int32) = 0) (gd (¬ v1 = 0) (some (((g_i s1 (nm 0) 17) / 65536) - ((g_i s1 (nm 0) 17) / 65536) / v1 * v1, s1)))))
abbrev Y_X11_draw : jY := (yX11_draw, cX11_draw, 2, some .int, { frames := 0, cells := 0, slots := 0, locals := 0 })
theorem C_X11_draw {l : Launch} {G : jG} {nm : Nat → Nat} (hG : jWL G) (hE : jE G nm LS_X11) (v1 : Int32) (σ : jS) : jC r_I l G Y_X11_draw [.ref (jad G (nm 0)), .int v1] σ (f_X11_draw nm v1 σ) := by
  refine jw_met hG pn_X11 (Nat.le_of_ble_eq_true rfl) ⟨rfl, rfl⟩ ?_
  intro X hX hM
  have hX : jB X l G cX11_draw RX11 2 { frames := 0, cells := 0, slots := 0, locals := 0 } := hX
  have hM : jM X (some .int) := hM
  show J X 0 [(0, .ref (jad G (nm 0))), (1, .int v1)] [] σ (f_X11_draw nm v1 σ) (jk r_I X)
  unfold f_X11_draw
  refine J_aload_n hX dX11_draw_0 rfl ?_
  refine J_aload_n hX dX11_draw_1 rfl ?_
  refine J_geti hX hE 0 17 rfl rfl fl_X11_274 dX11_draw_2 ?_
  refine J_i2l hX dX11_draw_5 ?_
  refine J_ldc2 hX wl_X11_277 dX11_draw_6 ?_
  refine J_lmul hX dX11_draw_9 ?_
  refine J_ldc2 hX wl_X11_279 dX11_draw_10 ?_
  refine J_ladd hX dX11_draw_13 ?_
  refine J_ldc2 hX wl_X11_281 dX11_draw_14 ?_
  refine J_lrem hX dX11_draw_17 (fun _ => ?_)
  refine J_l2i hX dX11_draw_18 ?_
  refine J_puti hX hE 0 17 rfl rfl fp_X11_274 dX11_draw_19 ?_
  refine J_bdS (fun s2 => ?_)
  refine J_aload_n hX dX11_draw_22 rfl ?_
  refine J_geti hX hE 0 17 rfl rfl fl_X11_274 dX11_draw_23 ?_
  refine J_ldcw hX wc_X11_283 dX11_draw_26 ?_
  refine J_idiv hX dX11_draw_29 (fun _ => ?_)
  refine J_iload_n hX dX11_draw_30 rfl ?_
  refine J_irem hX dX11_draw_31 (fun _ => ?_)
  exact J_iret hX hM dX11_draw_32
theorem mw_X11_draw : jMV Y_X11_draw 1 := ⟨⟨tw_tb (List.mem_of_getElem? (i := 1360) (by decide +kernel)) (by decide +kernel), tw_pv (List.mem_of_getElem? (i := 52) (by decide +kernel)) (by decide +kernel), tw_tb (List.mem_of_getElem? (i := 13) (by decide +kernel)) (by decide +kernel), tw_tb (List.mem_of_getElem? (i := 1361) (by decide +kernel)) (by decide +kernel)⟩, ⟨rfl, rfl⟩, by decide +kernel, by decide +kernel, by decide +kernel⟩
-- X11_fails
noncomputable def f_X11_fails (nm : Nat → Nat) (v1 : Int32) (v2 : Int32) (σ : jS) : Option (Int32 × jS) :=
  bd (s_i σ (nm 0) 20 v2) (fun s1 =>
    some (v1, s1))
abbrev Y_X11_fails : jY := (yX11_fails, cX11_fails, 3, some .int, { frames := 0, cells := 0, slots := 0, locals := 0 })
theorem C_X11_fails {l : Launch} {G : jG} {nm : Nat → Nat} (hG : jWL G) (hE : jE G nm LS_X11) (v1 : Int32) (v2 : Int32) (σ : jS) : jC r_I l G Y_X11_fails [.ref (jad G (nm 0)), .int v1, .int v2] σ (f_X11_fails nm v1 v2 σ) := by
  refine jw_met hG pn_X11 (Nat.le_of_ble_eq_true rfl) ⟨rfl, rfl⟩ ?_
  intro X hX hM
  have hX : jB X l G cX11_fails RX11 3 { frames := 0, cells := 0, slots := 0, locals := 0 } := hX
  have hM : jM X (some .int) := hM
  show J X 0 [(0, .ref (jad G (nm 0))), (1, .int v1), (2, .int v2)] [] σ (f_X11_fails nm v1 v2 σ) (jk r_I X)
  unfold f_X11_fails
  refine J_aload_n hX dX11_fails_0 rfl ?_
  refine J_iload_n hX dX11_fails_1 rfl ?_
  refine J_puti hX hE 0 20 rfl rfl fp_X11_44 dX11_fails_2 ?_
  refine J_bdS (fun s2 => ?_)
  refine J_iload_n hX dX11_fails_5 rfl ?_
  exact J_iret hX hM dX11_fails_6
theorem mw_X11_fails : jMV Y_X11_fails 2 := ⟨⟨tw_tb (List.mem_of_getElem? (i := 1244) (by decide +kernel)) (by decide +kernel), tw_pv (List.mem_of_getElem? (i := 38) (by decide +kernel)) (by decide +kernel), tw_tb (List.mem_of_getElem? (i := 13) (by decide +kernel)) (by decide +kernel), tw_tb (List.mem_of_getElem? (i := 1245) (by decide +kernel)) (by decide +kernel)⟩, ⟨rfl, rfl⟩, by decide +kernel, by decide +kernel, by decide +kernel⟩
-- X11_fault
noncomputable def f_X11_fault (nm : Nat → Nat) (σ : jS) : Option Int32 :=
  some (g_i σ (nm 0) 20)
abbrev Y_X11_fault : jY := (yX11_fault, cX11_fault, 1, some .int, { frames := 0, cells := 0, slots := 0, locals := 0 })
theorem C_X11_fault {l : Launch} {G : jG} {nm : Nat → Nat} (hG : jWL G) (hE : jE G nm LS_X11) (σ : jS) : jC (r_P σ) l G Y_X11_fault [.ref (jad G (nm 0))] σ (f_X11_fault nm σ) := by
  refine jw_met hG pn_X11 (Nat.le_of_ble_eq_true rfl) ⟨rfl, rfl⟩ ?_
  intro X hX hM
  have hX : jB X l G cX11_fault RX11 1 { frames := 0, cells := 0, slots := 0, locals := 0 } := hX
  have hM : jM X (some .int) := hM
  show J X 0 [(0, .ref (jad G (nm 0)))] [] σ (f_X11_fault nm σ) (jk (r_P σ) X)
  unfold f_X11_fault
  refine J_aload_n hX dX11_fault_0 rfl ?_
  refine J_geti hX hE 0 20 rfl rfl fl_X11_44 dX11_fault_1 ?_
  exact J_iretP hX hM dX11_fault_4
theorem mw_X11_fault : jMV Y_X11_fault 0 := ⟨⟨tw_tb (List.mem_of_getElem? (i := 1292) (by decide +kernel)) (by decide +kernel), tw_tb (List.mem_of_getElem? (i := 1293) (by decide +kernel)) (by decide +kernel), tw_tb (List.mem_of_getElem? (i := 13) (by decide +kernel)) (by decide +kernel), tw_tb (List.mem_of_getElem? (i := 1294) (by decide +kernel)) (by decide +kernel)⟩, ⟨rfl, rfl⟩, by decide +kernel, by decide +kernel, by decide +kernel⟩
-- X11_feed
noncomputable def f_X11_feed_L37 (nm : Nat → Nat) (v2 : Int64) (s : (Int32 × jS)) : Option ((Int32 × jS) ⊕ jS) :=
  match s with
  | (v4, σ) =>
    if v4 < 0 then
      some (.inr σ)
    else
      gd (vp_in (g_i σ (nm 0) 19) 400) (bd (s_i σ (nm 8) (g_i σ (nm 0) 19).toNatClampNeg (((v2 >>> ((8 * v4).toInt64 &&& 63)) &&& 255).toInt32)) (fun s3 =>
        bd (s_i s3 (nm 0) 19 ((g_i s3 (nm 0) 19) + 1)) (fun s4 =>
          some (.inl (v4 + (-1), s4)))))
noncomputable def f_X11_feed (nm : Nat → Nat) (v1 : Int32) (v2 : Int64) (σ : jS) : Option (Int32 × jS) :=
  (f_X11_in (v1.toInt64) 1 8).bind (fun q1 =>
    if q1 = 0 then
      some ((-1002), σ)
    else
      if ((g_i σ (nm 0) 19) + v1) ≤ 400 then
        bd (v1 - 1) (fun x2 =>
          (lp (f_X11_feed_L37 nm v2) fu (x2, σ)).bind (fun s5 =>
            some (g_i s5 (nm 0) 19, s5)))
      else
        some ((-1004), σ))
abbrev Y_X11_feed : jY := (yX11_feed, cX11_feed, 5, some .int, { frames := 1, cells := 0, slots := 0, locals := 25 })
theorem C_X11_feed {l : Launch} {G : jG} {nm : Nat → Nat} (hG : jWL G) (hE : jE G nm LS_X11) (v1 : Int32) (v2 : Int64) (σ : jS) : jC r_I l G Y_X11_feed [.ref (jad G (nm 0)), .int v1, .long v2] σ (f_X11_feed nm v1 v2 σ) := by
  refine jw_met hG pn_X11 (Nat.le_of_ble_eq_true rfl) ⟨rfl, rfl⟩ ?_
  intro X hX hM
  have hX : jB X l G cX11_feed RX11 5 { frames := 1, cells := 0, slots := 0, locals := 25 } := hX
  have hM : jM X (some .int) := hM
  show J X 0 [(0, .ref (jad G (nm 0))), (1, .int v1), (2, .long v2)] [] σ (f_X11_feed nm v1 v2 σ) (jk r_I X)
  unfold f_X11_feed
  refine J_iload_n hX dX11_feed_0 rfl ?_
  refine J_i2l hX dX11_feed_1 ?_
  refine J_lconst hX dX11_feed_2 k_l1 ?_
  refine J_ldc2 hX wl_X11_117 dX11_feed_3 ?_
  refine J_cSP hX (C_X11_in hG (v1.toInt64) 1 8 σ) mw_X11_in ml_X11_107 ⟨Nat.le_of_ble_eq_true rfl, Nat.le_of_ble_eq_true rfl⟩ rfl rfl (Nat.le_of_ble_eq_true rfl) dX11_feed_6 (fun q6 => ?_)
  refine J_if_ne hX dX11_feed_9 (tgt := 16) rfl (fun _ => ?_) (fun _ => ?_)
  · refine J_aload_n hX dX11_feed_16 rfl ?_
    refine J_geti hX hE 0 19 rfl rfl fl_X11_119 dX11_feed_17 ?_
    refine J_iload_n hX dX11_feed_20 rfl ?_
    refine J_iadd hX dX11_feed_21 ?_
    refine J_sipush hX dX11_feed_22 ks_400 ?_
    refine J_icmp_le hX dX11_feed_25 (tgt := 32) rfl (fun _ => ?_) (fun _ => ?_)
    · refine J_iload_n hX dX11_feed_32 rfl ?_
      refine J_iconst hX dX11_feed_33 k_i1 ?_
      refine J_isub hX dX11_feed_34 ?_
      refine J_bdI (fun x7 => ?_)
      refine J_istore hX dX11_feed_35 (Nat.le_of_ble_eq_true rfl) (lv' := [(0, .ref (jad G (nm 0))), (1, .int v1), (2, .long v2), (4, .int x7)]) rfl ?_
      refine J_keep [0, 2, 3] (lv' := [(0, .ref (jad G (nm 0))), (2, .long v2), (4, .int x7)]) rfl ?_
      refine J_lp (pc := 37) (s0 := (x7, σ)) (fun (s : (Int32 × jS)) => [(0, .ref (jad G (nm 0))), (2, .long v2), (4, .int (s.1))]) (fun (s : (Int32 × jS)) => s.2) ?_
      intro KK37 hN37 hQ37 z37
      obtain ⟨v4_37, σ_37⟩ := z37
      show J X 37 [(0, .ref (jad G (nm 0))), (2, .long v2), (4, .int v4_37)] [] σ_37 (f_X11_feed_L37 nm v2 (v4_37, σ_37)) KK37
      unfold f_X11_feed_L37
      refine J_iload hX dX11_feed_37 rfl ?_
      refine J_if_lt hX dX11_feed_39 (tgt := 79) rfl (fun _ => ?_) (fun _ => ?_)
      · refine hQ37 _ _ _ _ _ ?_
        refine J_aload_n hX dX11_feed_79 rfl ?_
        refine J_geti hX hE 0 19 rfl rfl fl_X11_119 dX11_feed_80 ?_
        exact J_iret hX hM dX11_feed_83
      · refine J_aload_n hX dX11_feed_42 rfl ?_
        refine J_getr hX hE 0 18 rfl rfl fl_X11_41 dX11_feed_43 ?_
        refine J_aload_n hX dX11_feed_46 rfl ?_
        refine J_geti hX hE 0 19 rfl rfl fl_X11_119 dX11_feed_47 ?_
        refine J_lload_n hX dX11_feed_50 rfl ?_
        refine J_bipush hX dX11_feed_51 kb_8 ?_
        refine J_iload hX dX11_feed_53 rfl ?_
        refine J_imul hX dX11_feed_55 ?_
        refine J_lshr hX dX11_feed_56 ?_
        refine J_ldc2 hX wl_X11_122 dX11_feed_57 ?_
        refine J_land hX dX11_feed_60 ?_
        refine J_l2i hX dX11_feed_61 ?_
        refine J_iast hX hE 8 rfl dX11_feed_62 (fun _ => ?_)
        refine J_bdS (fun s8 => ?_)
        refine J_aload_n hX dX11_feed_63 rfl ?_
        refine J_dup hX dX11_feed_64 rfl ?_
        refine J_geti hX hE 0 19 rfl rfl fl_X11_119 dX11_feed_65 ?_
        refine J_iconst hX dX11_feed_68 k_i1 ?_
        refine J_iadd hX dX11_feed_69 ?_
        refine J_puti hX hE 0 19 rfl rfl fp_X11_119 dX11_feed_70 ?_
        refine J_bdS (fun s9 => ?_)
        refine J_iinc hX dX11_feed_73 rfl (congrArg (_ + ·) k_im1) (Nat.le_of_ble_eq_true rfl) (lv' := [(0, .ref (jad G (nm 0))), (2, .long v2), (4, .int (v4_37 + (-1)))]) rfl ?_
        refine J_goto hX dX11_feed_76 (tgt := 37) rfl ?_
        exact J_keep [0, 1, 2] rfl (hN37 (v4_37 + (-1), s9))
    · refine J_sipush hX dX11_feed_28 ks_m1004 ?_
      exact J_iret hX hM dX11_feed_31
  · refine J_sipush hX dX11_feed_12 ks_m1002 ?_
    exact J_iret hX hM dX11_feed_15
theorem mw_X11_feed : jMV Y_X11_feed 2 := ⟨⟨tw_tb (List.mem_of_getElem? (i := 1206) (by decide +kernel)) (by decide +kernel), tw_tb (List.mem_of_getElem? (i := 1207) (by decide +kernel)) (by decide +kernel), tw_tb (List.mem_of_getElem? (i := 13) (by decide +kernel)) (by decide +kernel), tw_tb (List.mem_of_getElem? (i := 1208) (by decide +kernel)) (by decide +kernel)⟩, ⟨rfl, rfl⟩, by decide +kernel, by decide +kernel, by decide +kernel⟩
-- X11_noteOf
noncomputable def f_X11_noteOf_J19 (nm : Nat → Nat) (v3 : Int32) (σ : jS) : Option Int32 :=
  if v3 < 1000000 then
    some v3
  else
    some (-1)
noncomputable def f_X11_noteOf_J114 (nm : Nat → Nat) (v2 : Int32) (v4 : Int32) (v5 : Int32) (v6 : Int32) (σ : jS) : Option Int32 :=
  some 0
noncomputable def f_X11_noteOf_J115 (nm : Nat → Nat) (v2 : Int32) (v4 : Int32) (v5 : Int32) (v6 : Int32) (t0 : Int32) (σ : jS) : Option ((Int32 × Int32 × Int32) ⊕ (Unit ⊕ Int32)) :=
  if t0 = 0 then
    some (.inl (v4, v5, v6 + 1))
  else
    if v5 = v2 then
      some (.inr (.inr v6))
    else
      gd (vp_in v6 64) (
        bd (v4 &&& ((g_i σ (nm 18) v6.toNatClampNeg) ^^^ (-1))) (fun x3 =>
          some (.inl (x3, v5 + 1, v6 + 1))))
noncomputable def f_X11_noteOf_L41 (nm : Nat → Nat) (v2 : Int32) (σ : jS) (s : (Int32 × Int32 × Int32)) : Option ((Int32 × Int32 × Int32) ⊕ (Unit ⊕ Int32)) :=
  match s with
  | (v4, v5, v6) =>
    if 64 ≤ v6 then
      some (.inr (.inl ()))
    else
      gd (vp_in ((1024 * v6) + v4) 66560) (
        (if (g_i σ (nm 19) ((1024 * v6) + v4).toNatClampNeg) ≤ 0 then
          f_X11_noteOf_J114 nm v2 v4 v5 v6 σ
        else
          gd (vp_in v6 64) (
            gd (vp_in ((1024 * (v6 + 1)) + (v4 &&& ((g_i σ (nm 18) v6.toNatClampNeg) ^^^ (-1)))) 66560) (
              gd (vp_in ((1024 * v6) + v4) 66560) (
                if (1 + (g_i σ (nm 19) ((1024 * (v6 + 1)) + (v4 &&& ((g_i σ (nm 18) v6.toNatClampNeg) ^^^ (-1)))).toNatClampNeg)) = (g_i σ (nm 19) ((1024 * v6) + v4).toNatClampNeg) then
                  some 1
                else
                  f_X11_noteOf_J114 nm v2 v4 v5 v6 σ)))).bind (fun y2 =>
          f_X11_noteOf_J115 nm v2 v4 v5 v6 y2 σ))
noncomputable def f_X11_noteOf (nm : Nat → Nat) (v1 : Int32) (v2 : Int32) (σ : jS) : Option Int32 :=
  gd (vp_in v1 66560) (
    bd (g_i σ (nm 19) v1.toNatClampNeg) (fun x1 =>
      if 1000000 ≤ x1 then
        f_X11_noteOf_J19 nm x1 σ
      else
        if v2 = (-1) then
          f_X11_noteOf_J19 nm x1 σ
        else
          (lp (f_X11_noteOf_L41 nm v2 σ) fu (v1, 0, 0)).bind (fun x => match x with
          | .inl _ =>
            some (-1)
          | .inr a => some a)))
abbrev Y_X11_noteOf : jY := (yX11_noteOf, cX11_noteOf, 8, some .int, { frames := 0, cells := 0, slots := 0, locals := 0 })
theorem C_X11_noteOf {l : Launch} {G : jG} {nm : Nat → Nat} (hG : jWL G) (hE : jE G nm LS_X11) (v1 : Int32) (v2 : Int32) (σ : jS) : jC (r_P σ) l G Y_X11_noteOf [.ref (jad G (nm 0)), .int v1, .int v2] σ (f_X11_noteOf nm v1 v2 σ) := by
  refine jw_met hG pn_X11 (Nat.le_of_ble_eq_true rfl) ⟨rfl, rfl⟩ ?_
  intro X hX hM
  have hX : jB X l G cX11_noteOf RX11 8 { frames := 0, cells := 0, slots := 0, locals := 0 } := hX
  have hM : jM X (some .int) := hM
  show J X 0 [(0, .ref (jad G (nm 0))), (1, .int v1), (2, .int v2)] [] σ (f_X11_noteOf nm v1 v2 σ) (jk (r_P σ) X)
  have hJ19 : ∀ (v3 : Int32), J X 19 [(3, .int v3)] [] σ (f_X11_noteOf_J19 nm v3 σ) (jk (r_P σ) X) := by
    intro v3
    unfold f_X11_noteOf_J19
    refine J_iload_n hX dX11_noteOf_19 rfl ?_
    refine J_ldcw hX wc_X11_296 dX11_noteOf_20 ?_
    refine J_icmp_lt hX dX11_noteOf_23 (tgt := 30) rfl (fun _ => ?_) (fun _ => ?_)
    · refine J_iload_n hX dX11_noteOf_30 rfl ?_
      exact J_iretP hX hM dX11_noteOf_31
    · refine J_iconst hX dX11_noteOf_26 k_im1 ?_
      refine J_goto hX dX11_noteOf_27 (tgt := 31) rfl ?_
      exact J_iretP hX hM dX11_noteOf_31
  unfold f_X11_noteOf
  refine J_aload_n hX dX11_noteOf_0 rfl ?_
  refine J_getr hX hE 0 43 rfl rfl fl_X11_80 dX11_noteOf_1 ?_
  refine J_iload_n hX dX11_noteOf_4 rfl ?_
  refine J_iald hX hE 19 rfl dX11_noteOf_5 (fun _ => ?_)
  refine J_bdI (fun x4 => ?_)
  refine J_istore_n hX dX11_noteOf_6 (Nat.le_of_ble_eq_true rfl) (lv' := [(0, .ref (jad G (nm 0))), (1, .int v1), (2, .int v2), (3, .int x4)]) rfl ?_
  refine J_iload_n hX dX11_noteOf_7 rfl ?_
  refine J_ldcw hX wc_X11_296 dX11_noteOf_8 ?_
  refine J_icmp_ge hX dX11_noteOf_11 (tgt := 19) rfl (fun _ => ?_) (fun _ => ?_)
  · exact J_keep [3] rfl (hJ19 x4)
  · refine J_iload_n hX dX11_noteOf_14 rfl ?_
    refine J_iconst hX dX11_noteOf_15 k_im1 ?_
    refine J_icmp_ne hX dX11_noteOf_16 (tgt := 32) rfl (fun _ => ?_) (fun _ => ?_)
    · refine J_iload_n hX dX11_noteOf_32 rfl ?_
      refine J_istore hX dX11_noteOf_33 (Nat.le_of_ble_eq_true rfl) (lv' := [(0, .ref (jad G (nm 0))), (1, .int v1), (2, .int v2), (3, .int x4), (4, .int v1)]) rfl ?_
      refine J_iconst hX dX11_noteOf_35 k_i0 ?_
      refine J_istore hX dX11_noteOf_36 (Nat.le_of_ble_eq_true rfl) (lv' := [(0, .ref (jad G (nm 0))), (1, .int v1), (2, .int v2), (3, .int x4), (4, .int v1), (5, .int 0)]) rfl ?_
      refine J_iconst hX dX11_noteOf_38 k_i0 ?_
      refine J_istore hX dX11_noteOf_39 (Nat.le_of_ble_eq_true rfl) (lv' := [(0, .ref (jad G (nm 0))), (1, .int v1), (2, .int v2), (3, .int x4), (4, .int v1), (5, .int 0), (6, .int 0)]) rfl ?_
      refine J_keep [0, 2, 4, 5, 6] (lv' := [(0, .ref (jad G (nm 0))), (2, .int v2), (4, .int v1), (5, .int 0), (6, .int 0)]) rfl ?_
      refine J_lp (pc := 41) (s0 := (v1, 0, 0)) (fun (s : (Int32 × Int32 × Int32)) => [(0, .ref (jad G (nm 0))), (2, .int v2), (4, .int (s.1)), (5, .int (s.2.1)), (6, .int (s.2.2))]) (fun (s : (Int32 × Int32 × Int32)) => σ) ?_
      intro KK41 hN41 hQ41 z41
      obtain ⟨v4_41, v5_41, v6_41⟩ := z41
      show J X 41 [(0, .ref (jad G (nm 0))), (2, .int v2), (4, .int v4_41), (5, .int v5_41), (6, .int v6_41)] [] σ (f_X11_noteOf_L41 nm v2 σ (v4_41, v5_41, v6_41)) KK41
      have hJ115 : ∀ (v4_j115 : Int32) (v5_j115 : Int32) (v6_j115 : Int32) (t0_j115 : Int32), J X 115 [(0, .ref (jad G (nm 0))), (2, .int v2), (4, .int v4_j115), (5, .int v5_j115), (6, .int v6_j115)] [.int t0_j115] σ (f_X11_noteOf_J115 nm v2 v4_j115 v5_j115 v6_j115 t0_j115 σ) KK41 := by
        intro v4_j115 v5_j115 v6_j115 t0_j115
        unfold f_X11_noteOf_J115
        refine J_istore hX dX11_noteOf_115 (Nat.le_of_ble_eq_true rfl) (lv' := [(0, .ref (jad G (nm 0))), (2, .int v2), (4, .int v4_j115), (5, .int v5_j115), (6, .int v6_j115), (7, .int t0_j115)]) rfl ?_
        refine J_iload hX dX11_noteOf_117 rfl ?_
        refine J_if_eq hX dX11_noteOf_119 (tgt := 148) rfl (fun _ => ?_) (fun _ => ?_)
        · refine J_iinc hX dX11_noteOf_148 rfl (congrArg (_ + ·) k_i1) (Nat.le_of_ble_eq_true rfl) (lv' := [(0, .ref (jad G (nm 0))), (2, .int v2), (4, .int v4_j115), (5, .int v5_j115), (6, .int (v6_j115 + 1)), (7, .int t0_j115)]) rfl ?_
          refine J_goto hX dX11_noteOf_151 (tgt := 41) rfl ?_
          exact J_keep [0, 1, 2, 3, 4] rfl (hN41 (v4_j115, v5_j115, v6_j115 + 1))
        · refine J_iload hX dX11_noteOf_122 rfl ?_
          refine J_iload_n hX dX11_noteOf_124 rfl ?_
          refine J_icmp_ne hX dX11_noteOf_125 (tgt := 131) rfl (fun _ => ?_) (fun _ => ?_)
          · refine J_iinc hX dX11_noteOf_131 rfl (congrArg (_ + ·) k_i1) (Nat.le_of_ble_eq_true rfl) (lv' := [(0, .ref (jad G (nm 0))), (2, .int v2), (4, .int v4_j115), (5, .int (v5_j115 + 1)), (6, .int v6_j115), (7, .int t0_j115)]) rfl ?_
            refine J_iload hX dX11_noteOf_134 rfl ?_
            refine J_aload_n hX dX11_noteOf_136 rfl ?_
            refine J_getr hX hE 0 42 rfl rfl fl_X11_76 dX11_noteOf_137 ?_
            refine J_iload hX dX11_noteOf_140 rfl ?_
            refine J_iald hX hE 18 rfl dX11_noteOf_142 (fun _ => ?_)
            refine J_iconst hX dX11_noteOf_143 k_im1 ?_
            refine J_ixor hX dX11_noteOf_144 ?_
            refine J_iand hX dX11_noteOf_145 ?_
            refine J_bdI (fun x5 => ?_)
            refine J_istore hX dX11_noteOf_146 (Nat.le_of_ble_eq_true rfl) (lv' := [(0, .ref (jad G (nm 0))), (2, .int v2), (4, .int x5), (5, .int (v5_j115 + 1)), (6, .int v6_j115), (7, .int t0_j115)]) rfl ?_
            refine J_iinc hX dX11_noteOf_148 rfl (congrArg (_ + ·) k_i1) (Nat.le_of_ble_eq_true rfl) (lv' := [(0, .ref (jad G (nm 0))), (2, .int v2), (4, .int x5), (5, .int (v5_j115 + 1)), (6, .int (v6_j115 + 1)), (7, .int t0_j115)]) rfl ?_
            refine J_goto hX dX11_noteOf_151 (tgt := 41) rfl ?_
            exact J_keep [0, 1, 2, 3, 4] rfl (hN41 (x5, v5_j115 + 1, v6_j115 + 1))
          · refine J_iload hX dX11_noteOf_128 rfl ?_
            refine hQ41 _ _ _ _ _ ?_
            exact J_iretP hX hM dX11_noteOf_130
      unfold f_X11_noteOf_L41
      refine J_iload hX dX11_noteOf_41 rfl ?_
      refine J_bipush hX dX11_noteOf_43 kb_64 ?_
      refine J_icmp_ge hX dX11_noteOf_45 (tgt := 154) rfl (fun _ => ?_) (fun _ => ?_)
      · refine hQ41 _ _ _ _ _ ?_
        refine J_iconst hX dX11_noteOf_154 k_im1 ?_
        exact J_iretP hX hM dX11_noteOf_155
      · refine J_aload_n hX dX11_noteOf_48 rfl ?_
        refine J_getr hX hE 0 43 rfl rfl fl_X11_80 dX11_noteOf_49 ?_
        refine J_sipush hX dX11_noteOf_52 ks_1024 ?_
        refine J_iload hX dX11_noteOf_55 rfl ?_
        refine J_imul hX dX11_noteOf_57 ?_
        refine J_iload hX dX11_noteOf_58 rfl ?_
        refine J_iadd hX dX11_noteOf_60 ?_
        refine J_iald hX hE 19 rfl dX11_noteOf_61 (fun _ => ?_)
        refine J_blk ?_
        intro KB62 hB62
        have hJ114 : J X 114 [(0, .ref (jad G (nm 0))), (2, .int v2), (4, .int v4_41), (5, .int v5_41), (6, .int v6_41)] [] σ (f_X11_noteOf_J114 nm v2 v4_41 v5_41 v6_41 σ) KB62 := by
          unfold f_X11_noteOf_J114
          refine J_iconst hX dX11_noteOf_114 k_i0 ?_
          refine hB62 _ _ _ _ _ ?_
          exact J_keep [0, 1, 2, 3, 4] rfl (hJ115 v4_41 v5_41 v6_41 0)
        refine J_if_le hX dX11_noteOf_62 (tgt := 114) rfl (fun _ => ?_) (fun _ => ?_)
        · exact J_keep [0, 1, 2, 3, 4] rfl (hJ114 )
        · refine J_iconst hX dX11_noteOf_65 k_i1 ?_
          refine J_aload_n hX dX11_noteOf_66 rfl ?_
          refine J_getr hX hE 0 43 rfl rfl fl_X11_80 dX11_noteOf_67 ?_
          refine J_sipush hX dX11_noteOf_70 ks_1024 ?_
          refine J_iload hX dX11_noteOf_73 rfl ?_
          refine J_iconst hX dX11_noteOf_75 k_i1 ?_
          refine J_iadd hX dX11_noteOf_76 ?_
          refine J_imul hX dX11_noteOf_77 ?_
          refine J_iload hX dX11_noteOf_78 rfl ?_
          refine J_aload_n hX dX11_noteOf_80 rfl ?_
          refine J_getr hX hE 0 42 rfl rfl fl_X11_76 dX11_noteOf_81 ?_
          refine J_iload hX dX11_noteOf_84 rfl ?_
          refine J_iald hX hE 18 rfl dX11_noteOf_86 (fun _ => ?_)
          refine J_iconst hX dX11_noteOf_87 k_im1 ?_
          refine J_ixor hX dX11_noteOf_88 ?_
          refine J_iand hX dX11_noteOf_89 ?_
          refine J_iadd hX dX11_noteOf_90 ?_
          refine J_iald hX hE 19 rfl dX11_noteOf_91 (fun _ => ?_)
          refine J_iadd hX dX11_noteOf_92 ?_
          refine J_aload_n hX dX11_noteOf_93 rfl ?_
          refine J_getr hX hE 0 43 rfl rfl fl_X11_80 dX11_noteOf_94 ?_
          refine J_sipush hX dX11_noteOf_97 ks_1024 ?_
          refine J_iload hX dX11_noteOf_100 rfl ?_
          refine J_imul hX dX11_noteOf_102 ?_
          refine J_iload hX dX11_noteOf_103 rfl ?_
          refine J_iadd hX dX11_noteOf_105 ?_
          refine J_iald hX hE 19 rfl dX11_noteOf_106 (fun _ => ?_)
          refine J_icmp_ne hX dX11_noteOf_107 (tgt := 114) rfl (fun _ => ?_) (fun _ => ?_)
          · exact J_keep [0, 1, 2, 3, 4] rfl (hJ114 )
          · refine J_iconst hX dX11_noteOf_110 k_i1 ?_
            refine J_goto hX dX11_noteOf_111 (tgt := 115) rfl ?_
            refine hB62 _ _ _ _ _ ?_
            exact J_keep [0, 1, 2, 3, 4] rfl (hJ115 v4_41 v5_41 v6_41 1)
    · exact J_keep [3] rfl (hJ19 x4)
theorem mw_X11_noteOf : jMV Y_X11_noteOf 2 := ⟨⟨tw_tb (List.mem_of_getElem? (i := 1443) (by decide +kernel)) (by decide +kernel), tw_pv (List.mem_of_getElem? (i := 60) (by decide +kernel)) (by decide +kernel), tw_tb (List.mem_of_getElem? (i := 13) (by decide +kernel)) (by decide +kernel), tw_tb (List.mem_of_getElem? (i := 1444) (by decide +kernel)) (by decide +kernel)⟩, ⟨rfl, rfl⟩, by decide +kernel, by decide +kernel, by decide +kernel⟩
-- X11_fewest
noncomputable def f_X11_fewest_J107 (nm : Nat → Nat) (v1 : Int32) (v2 : Int32) (v3 : Int32) (v4 : Int32) (v5 : Int32) (v6 : Int32) (t1 : Int32) (t2 : Int32) (t3 : Int32) (σ : jS) : Option ((Int32 × jS) ⊕ jS) :=
  gd (vp_in t1 64) (bd (s_i σ (nm 18) t1.toNatClampNeg (t2 ||| t3)) (fun s7 =>
    some (.inl (v6 + 1, s7))))
noncomputable def f_X11_fewest_L62 (nm : Nat → Nat) (v1 : Int32) (v2 : Int32) (v3 : Int32) (v4 : Int32) (v5 : Int32) (s : (Int32 × jS)) : Option ((Int32 × jS) ⊕ jS) :=
  match s with
  | (v6, σ) =>
    if 50 ≤ v6 then
      some (.inr σ)
    else
      (f_X11_wakesBy nm v6 v5 v3 (g_i σ (nm 0) 15) σ).bind (fun q5 =>
        gd (vp_in v5 64) (
          (if (q5 &&& (v2 ^^^ (-1))) = 0 then
            some q5
          else
            some 0).bind (fun y6 =>
            f_X11_fewest_J107 nm v1 v2 v3 v4 v5 v6 v5 (g_i σ (nm 18) v5.toNatClampNeg) y6 σ)))
noncomputable def f_X11_fewest_L44 (nm : Nat → Nat) (v1 : Int32) (v2 : Int32) (v3 : Int32) (v4 : Int32) (s : (Int32 × jS)) : Option ((Int32 × jS) ⊕ jS) :=
  match s with
  | (v5, σ) =>
    if 64 ≤ v5 then
      some (.inr σ)
    else
      gd (vp_in v5 64) (bd (s_i σ (nm 18) v5.toNatClampNeg 0) (fun s4 =>
        (lp (f_X11_fewest_L62 nm v1 v2 v3 v4 v5) fu (0, s4)).bind (fun s8 =>
          some (.inl (v5 + 1, s8)))))
noncomputable def f_X11_fewest_J223 (nm : Nat → Nat) (v1 : Int32) (v2 : Int32) (v4 : Int32) (v5 : Int32) (v6 : Int32) (v7 : Int32) (t0 : Int32) (σ : jS) : Option ((Int32 × jS) ⊕ jS) :=
  (f_X11_lesser v7 t0).bind (fun q13 =>
    gd (vp_in ((1024 * v5) + v6) 66560) (bd (s_i σ (nm 19) ((1024 * v5) + v6).toNatClampNeg q13) (fun s14 =>
      some (.inl (v6 + 1, s14)))))
noncomputable def f_X11_fewest_J180 (nm : Nat → Nat) (v1 : Int32) (v2 : Int32) (v4 : Int32) (v5 : Int32) (v6 : Int32) (t0 : Int32) (σ : jS) : Option ((Int32 × jS) ⊕ jS) :=
  (if v5 = 64 then
    some 1000000
  else
    gd (vp_in v5 64) (
      gd (vp_in ((1024 * (v5 + 1)) + (v6 &&& ((g_i σ (nm 18) v5.toNatClampNeg) ^^^ (-1)))) 66560) (
        some (1 + (g_i σ (nm 19) ((1024 * (v5 + 1)) + (v6 &&& ((g_i σ (nm 18) v5.toNatClampNeg) ^^^ (-1)))).toNatClampNeg))))).bind (fun y12 =>
    f_X11_fewest_J223 nm v1 v2 v4 v5 v6 t0 y12 σ)
noncomputable def f_X11_fewest_L133 (nm : Nat → Nat) (v1 : Int32) (v2 : Int32) (v4 : Int32) (v5 : Int32) (s : (Int32 × jS)) : Option ((Int32 × jS) ⊕ jS) :=
  match s with
  | (v6, σ) =>
    (f_X11_all nm σ).bind (fun q10 =>
      if q10 < v6 then
        some (.inr σ)
      else
        (if v5 = 64 then
          if v6 = 0 then
            some 0
          else
            some 1000000
        else
          gd (vp_in ((1024 * (v5 + 1)) + v6) 66560) (
            some (g_i σ (nm 19) ((1024 * (v5 + 1)) + v6).toNatClampNeg))).bind (fun y11 =>
          f_X11_fewest_J180 nm v1 v2 v4 v5 v6 y11 σ))
noncomputable def f_X11_fewest_L125 (nm : Nat → Nat) (v1 : Int32) (v2 : Int32) (v4 : Int32) (s : (Int32 × jS)) : Option ((Int32 × jS) ⊕ jS) :=
  match s with
  | (v5, σ) =>
    if v5 < 0 then
      some (.inr σ)
    else
      (lp (f_X11_fewest_L133 nm v1 v2 v4 v5) fu (0, σ)).bind (fun s15 =>
        some (.inl (v5 + (-1), s15)))
noncomputable def f_X11_fewest (nm : Nat → Nat) (v1 : Int32) (v2 : Int32) (v3 : Int32) (v4 : Int32) (σ : jS) : Option (Int32 × jS) :=
  (f_X11_areLamps nm v1 σ).bind (fun q1 =>
    if q1 = 0 then
      some ((-1001), σ)
    else
      (f_X11_areLamps nm v2 σ).bind (fun q2 =>
        if q2 = 0 then
          some ((-1001), σ)
        else
          (f_X11_isLoud v3).bind (fun q3 =>
            if q3 = 0 then
              some ((-1002), σ)
            else
              if (v1 &&& (v2 ^^^ (-1))) = 0 then
                (lp (f_X11_fewest_L44 nm v1 v2 v3 v4) fu (0, σ)).bind (fun s9 =>
                  (lp (f_X11_fewest_L125 nm v1 v2 v4) fu (64, s9)).bind (fun s16 =>
                    (f_X11_noteOf nm (v2 &&& (v1 ^^^ (-1))) v4 s16).bind (fun q17 =>
                      some (q17, s16))))
              else
                some ((-1), σ))))
abbrev Y_X11_fewest : jY := (yX11_fewest, cX11_fewest, 9, some .int, { frames := 2, cells := 0, slots := 0, locals := 49 })
theorem C_X11_fewest {l : Launch} {G : jG} {nm : Nat → Nat} (hG : jWL G) (hE : jE G nm LS_X11) (v1 : Int32) (v2 : Int32) (v3 : Int32) (v4 : Int32) (σ : jS) : jC r_I l G Y_X11_fewest [.ref (jad G (nm 0)), .int v1, .int v2, .int v3, .int v4] σ (f_X11_fewest nm v1 v2 v3 v4 σ) := by
  refine jw_met hG pn_X11 (Nat.le_of_ble_eq_true rfl) ⟨rfl, rfl⟩ ?_
  intro X hX hM
  have hX : jB X l G cX11_fewest RX11 9 { frames := 2, cells := 0, slots := 0, locals := 49 } := hX
  have hM : jM X (some .int) := hM
  show J X 0 [(0, .ref (jad G (nm 0))), (1, .int v1), (2, .int v2), (3, .int v3), (4, .int v4)] [] σ (f_X11_fewest nm v1 v2 v3 v4 σ) (jk r_I X)
  unfold f_X11_fewest
  refine J_aload_n hX dX11_fewest_0 rfl ?_
  refine J_iload_n hX dX11_fewest_1 rfl ?_
  refine J_cVP hX hE 0 (C_X11_areLamps hG hE v1 σ) mw_X11_areLamps ml_X11_315 rfl rfl rfl ⟨Nat.le_of_ble_eq_true rfl, Nat.le_of_ble_eq_true rfl⟩ rfl rfl (Nat.le_of_ble_eq_true rfl) dX11_fewest_2 (fun q18 => ?_)
  refine J_if_eq hX dX11_fewest_5 (tgt := 16) rfl (fun _ => ?_) (fun _ => ?_)
  · refine J_sipush hX dX11_fewest_16 ks_m1001 ?_
    exact J_iret hX hM dX11_fewest_19
  · refine J_aload_n hX dX11_fewest_8 rfl ?_
    refine J_iload_n hX dX11_fewest_9 rfl ?_
    refine J_cVP hX hE 0 (C_X11_areLamps hG hE v2 σ) mw_X11_areLamps ml_X11_315 rfl rfl rfl ⟨Nat.le_of_ble_eq_true rfl, Nat.le_of_ble_eq_true rfl⟩ rfl rfl (Nat.le_of_ble_eq_true rfl) dX11_fewest_10 (fun q19 => ?_)
    refine J_if_ne hX dX11_fewest_13 (tgt := 20) rfl (fun _ => ?_) (fun _ => ?_)
    · refine J_iload_n hX dX11_fewest_20 rfl ?_
      refine J_cSP hX (C_X11_isLoud hG v3 σ) mw_X11_isLoud ml_X11_268 ⟨Nat.le_of_ble_eq_true rfl, Nat.le_of_ble_eq_true rfl⟩ rfl rfl (Nat.le_of_ble_eq_true rfl) dX11_fewest_21 (fun q20 => ?_)
      refine J_if_ne hX dX11_fewest_24 (tgt := 31) rfl (fun _ => ?_) (fun _ => ?_)
      · refine J_iload_n hX dX11_fewest_31 rfl ?_
        refine J_iload_n hX dX11_fewest_32 rfl ?_
        refine J_iconst hX dX11_fewest_33 k_im1 ?_
        refine J_ixor hX dX11_fewest_34 ?_
        refine J_iand hX dX11_fewest_35 ?_
        refine J_if_eq hX dX11_fewest_36 (tgt := 41) rfl (fun _ => ?_) (fun _ => ?_)
        · refine J_iconst hX dX11_fewest_41 k_i0 ?_
          refine J_istore hX dX11_fewest_42 (Nat.le_of_ble_eq_true rfl) (lv' := [(0, .ref (jad G (nm 0))), (1, .int v1), (2, .int v2), (3, .int v3), (4, .int v4), (5, .int 0)]) rfl ?_
          refine J_keep [0, 1, 2, 3, 4, 5] (lv' := [(0, .ref (jad G (nm 0))), (1, .int v1), (2, .int v2), (3, .int v3), (4, .int v4), (5, .int 0)]) rfl ?_
          refine J_lp (pc := 44) (s0 := (0, σ)) (fun (s : (Int32 × jS)) => [(0, .ref (jad G (nm 0))), (1, .int v1), (2, .int v2), (3, .int v3), (4, .int v4), (5, .int (s.1))]) (fun (s : (Int32 × jS)) => s.2) ?_
          intro KK44 hN44 hQ44 z44
          obtain ⟨v5_44, σ_44⟩ := z44
          show J X 44 [(0, .ref (jad G (nm 0))), (1, .int v1), (2, .int v2), (3, .int v3), (4, .int v4), (5, .int v5_44)] [] σ_44 (f_X11_fewest_L44 nm v1 v2 v3 v4 (v5_44, σ_44)) KK44
          unfold f_X11_fewest_L44
          refine J_iload hX dX11_fewest_44 rfl ?_
          refine J_bipush hX dX11_fewest_46 kb_64 ?_
          refine J_icmp_ge hX dX11_fewest_48 (tgt := 121) rfl (fun _ => ?_) (fun _ => ?_)
          · refine hQ44 _ _ _ _ _ ?_
            refine J_bipush hX dX11_fewest_121 kb_64 ?_
            refine J_istore hX dX11_fewest_123 (Nat.le_of_ble_eq_true rfl) (lv' := [(0, .ref (jad G (nm 0))), (1, .int v1), (2, .int v2), (3, .int v3), (4, .int v4), (5, .int 64)]) rfl ?_
            refine J_keep [0, 1, 2, 4, 5] (lv' := [(0, .ref (jad G (nm 0))), (1, .int v1), (2, .int v2), (4, .int v4), (5, .int 64)]) rfl ?_
            refine J_lp (pc := 125) (s0 := (64, σ_44)) (fun (s : (Int32 × jS)) => [(0, .ref (jad G (nm 0))), (1, .int v1), (2, .int v2), (4, .int v4), (5, .int (s.1))]) (fun (s : (Int32 × jS)) => s.2) ?_
            intro KK125 hN125 hQ125 z125
            obtain ⟨v5_125, σ_125⟩ := z125
            show J X 125 [(0, .ref (jad G (nm 0))), (1, .int v1), (2, .int v2), (4, .int v4), (5, .int v5_125)] [] σ_125 (f_X11_fewest_L125 nm v1 v2 v4 (v5_125, σ_125)) KK125
            unfold f_X11_fewest_L125
            refine J_iload hX dX11_fewest_125 rfl ?_
            refine J_if_lt hX dX11_fewest_127 (tgt := 258) rfl (fun _ => ?_) (fun _ => ?_)
            · refine hQ125 _ _ _ _ _ ?_
              refine J_aload_n hX dX11_fewest_258 rfl ?_
              refine J_iload_n hX dX11_fewest_259 rfl ?_
              refine J_iload_n hX dX11_fewest_260 rfl ?_
              refine J_iconst hX dX11_fewest_261 k_im1 ?_
              refine J_ixor hX dX11_fewest_262 ?_
              refine J_iand hX dX11_fewest_263 ?_
              refine J_iload hX dX11_fewest_264 rfl ?_
              refine J_cVP hX hE 0 (C_X11_noteOf hG hE (v2 &&& (v1 ^^^ (-1))) v4 σ_125) mw_X11_noteOf ml_X11_326 rfl rfl rfl ⟨Nat.le_of_ble_eq_true rfl, Nat.le_of_ble_eq_true rfl⟩ rfl rfl (Nat.le_of_ble_eq_true rfl) dX11_fewest_266 (fun q21 => ?_)
              exact J_iret hX hM dX11_fewest_269
            · refine J_iconst hX dX11_fewest_130 k_i0 ?_
              refine J_istore hX dX11_fewest_131 (Nat.le_of_ble_eq_true rfl) (lv' := [(0, .ref (jad G (nm 0))), (1, .int v1), (2, .int v2), (4, .int v4), (5, .int v5_125), (6, .int 0)]) rfl ?_
              refine J_keep [0, 1, 2, 3, 4, 5] (lv' := [(0, .ref (jad G (nm 0))), (1, .int v1), (2, .int v2), (4, .int v4), (5, .int v5_125), (6, .int 0)]) rfl ?_
              refine J_lp (pc := 133) (s0 := (0, σ_125)) (fun (s : (Int32 × jS)) => [(0, .ref (jad G (nm 0))), (1, .int v1), (2, .int v2), (4, .int v4), (5, .int v5_125), (6, .int (s.1))]) (fun (s : (Int32 × jS)) => s.2) ?_
              intro KK133 hN133 hQ133 z133
              obtain ⟨v6_133, σ_133⟩ := z133
              show J X 133 [(0, .ref (jad G (nm 0))), (1, .int v1), (2, .int v2), (4, .int v4), (5, .int v5_125), (6, .int v6_133)] [] σ_133 (f_X11_fewest_L133 nm v1 v2 v4 v5_125 (v6_133, σ_133)) KK133
              have hJ223 : ∀ (v6_j223 : Int32) (v7_j223 : Int32) (t0_j223 : Int32) (σ_j223 : jS), J X 223 [(0, .ref (jad G (nm 0))), (1, .int v1), (2, .int v2), (4, .int v4), (5, .int v5_125), (6, .int v6_j223), (7, .int v7_j223)] [.int t0_j223] σ_j223 (f_X11_fewest_J223 nm v1 v2 v4 v5_125 v6_j223 v7_j223 t0_j223 σ_j223) KK133 := by
                intro v6_j223 v7_j223 t0_j223 σ_j223
                unfold f_X11_fewest_J223
                refine J_istore hX dX11_fewest_223 (Nat.le_of_ble_eq_true rfl) (lv' := [(0, .ref (jad G (nm 0))), (1, .int v1), (2, .int v2), (4, .int v4), (5, .int v5_125), (6, .int v6_j223), (7, .int v7_j223), (8, .int t0_j223)]) rfl ?_
                refine J_aload_n hX dX11_fewest_225 rfl ?_
                refine J_getr hX hE 0 43 rfl rfl fl_X11_80 dX11_fewest_226 ?_
                refine J_sipush hX dX11_fewest_229 ks_1024 ?_
                refine J_iload hX dX11_fewest_232 rfl ?_
                refine J_imul hX dX11_fewest_234 ?_
                refine J_iload hX dX11_fewest_235 rfl ?_
                refine J_iadd hX dX11_fewest_237 ?_
                refine J_iload hX dX11_fewest_238 rfl ?_
                refine J_iload hX dX11_fewest_240 rfl ?_
                refine J_cSP hX (C_X11_lesser hG v7_j223 t0_j223 σ_j223) mw_X11_lesser ml_X11_297 ⟨Nat.le_of_ble_eq_true rfl, Nat.le_of_ble_eq_true rfl⟩ rfl rfl (Nat.le_of_ble_eq_true rfl) dX11_fewest_242 (fun q22 => ?_)
                refine J_iast hX hE 19 rfl dX11_fewest_245 (fun _ => ?_)
                refine J_bdS (fun s23 => ?_)
                refine J_iinc hX dX11_fewest_246 rfl (congrArg (_ + ·) k_i1) (Nat.le_of_ble_eq_true rfl) (lv' := [(0, .ref (jad G (nm 0))), (1, .int v1), (2, .int v2), (4, .int v4), (5, .int v5_125), (6, .int (v6_j223 + 1)), (7, .int v7_j223), (8, .int t0_j223)]) rfl ?_
                refine J_goto hX dX11_fewest_249 (tgt := 133) rfl ?_
                exact J_keep [0, 1, 2, 3, 4, 5] rfl (hN133 (v6_j223 + 1, s23))
              have hJ180 : ∀ (v6_j180 : Int32) (t0_j180 : Int32) (σ_j180 : jS), J X 180 [(0, .ref (jad G (nm 0))), (1, .int v1), (2, .int v2), (4, .int v4), (5, .int v5_125), (6, .int v6_j180)] [.int t0_j180] σ_j180 (f_X11_fewest_J180 nm v1 v2 v4 v5_125 v6_j180 t0_j180 σ_j180) KK133 := by
                intro v6_j180 t0_j180 σ_j180
                unfold f_X11_fewest_J180
                refine J_istore hX dX11_fewest_180 (Nat.le_of_ble_eq_true rfl) (lv' := [(0, .ref (jad G (nm 0))), (1, .int v1), (2, .int v2), (4, .int v4), (5, .int v5_125), (6, .int v6_j180), (7, .int t0_j180)]) rfl ?_
                refine J_iload hX dX11_fewest_182 rfl ?_
                refine J_bipush hX dX11_fewest_184 kb_64 ?_
                refine J_blk ?_
                intro KB186 hB186
                refine J_icmp_ne hX dX11_fewest_186 (tgt := 195) rfl (fun _ => ?_) (fun _ => ?_)
                · refine J_iconst hX dX11_fewest_195 k_i1 ?_
                  refine J_aload_n hX dX11_fewest_196 rfl ?_
                  refine J_getr hX hE 0 43 rfl rfl fl_X11_80 dX11_fewest_197 ?_
                  refine J_sipush hX dX11_fewest_200 ks_1024 ?_
                  refine J_iload hX dX11_fewest_203 rfl ?_
                  refine J_iconst hX dX11_fewest_205 k_i1 ?_
                  refine J_iadd hX dX11_fewest_206 ?_
                  refine J_imul hX dX11_fewest_207 ?_
                  refine J_iload hX dX11_fewest_208 rfl ?_
                  refine J_aload_n hX dX11_fewest_210 rfl ?_
                  refine J_getr hX hE 0 42 rfl rfl fl_X11_76 dX11_fewest_211 ?_
                  refine J_iload hX dX11_fewest_214 rfl ?_
                  refine J_iald hX hE 18 rfl dX11_fewest_216 (fun _ => ?_)
                  refine J_iconst hX dX11_fewest_217 k_im1 ?_
                  refine J_ixor hX dX11_fewest_218 ?_
                  refine J_iand hX dX11_fewest_219 ?_
                  refine J_iadd hX dX11_fewest_220 ?_
                  refine J_iald hX hE 19 rfl dX11_fewest_221 (fun _ => ?_)
                  refine J_iadd hX dX11_fewest_222 ?_
                  refine hB186 _ _ _ _ _ ?_
                  exact J_keep [0, 1, 2, 3, 4, 5, 6] rfl (hJ223 v6_j180 t0_j180 (1 + (g_i σ_j180 (nm 19) ((1024 * (v5_125 + 1)) + (v6_j180 &&& ((g_i σ_j180 (nm 18) v5_125.toNatClampNeg) ^^^ (-1)))).toNatClampNeg)) σ_j180)
                · refine J_ldcw hX wc_X11_296 dX11_fewest_189 ?_
                  refine J_goto hX dX11_fewest_192 (tgt := 223) rfl ?_
                  refine hB186 _ _ _ _ _ ?_
                  exact J_keep [0, 1, 2, 3, 4, 5, 6] rfl (hJ223 v6_j180 t0_j180 1000000 σ_j180)
              unfold f_X11_fewest_L133
              refine J_iload hX dX11_fewest_133 rfl ?_
              refine J_aload_n hX dX11_fewest_135 rfl ?_
              refine J_cVP hX hE 0 (C_X11_all hG hE σ_133) mw_X11_all ml_X11_111 rfl rfl rfl ⟨Nat.le_of_ble_eq_true rfl, Nat.le_of_ble_eq_true rfl⟩ rfl rfl (Nat.le_of_ble_eq_true rfl) dX11_fewest_136 (fun q24 => ?_)
              refine J_icmp_gt hX dX11_fewest_139 (tgt := 252) rfl (fun _ => ?_) (fun _ => ?_)
              · refine hQ133 _ _ _ _ _ ?_
                refine J_iinc hX dX11_fewest_252 rfl (congrArg (_ + ·) k_im1) (Nat.le_of_ble_eq_true rfl) (lv' := [(0, .ref (jad G (nm 0))), (1, .int v1), (2, .int v2), (4, .int v4), (5, .int (v5_125 + (-1))), (6, .int v6_133)]) rfl ?_
                refine J_goto hX dX11_fewest_255 (tgt := 125) rfl ?_
                exact J_keep [0, 1, 2, 3, 4] rfl (hN125 (v5_125 + (-1), σ_133))
              · refine J_iload hX dX11_fewest_142 rfl ?_
                refine J_bipush hX dX11_fewest_144 kb_64 ?_
                refine J_blk ?_
                intro KB146 hB146
                refine J_icmp_ne hX dX11_fewest_146 (tgt := 164) rfl (fun _ => ?_) (fun _ => ?_)
                · refine J_aload_n hX dX11_fewest_164 rfl ?_
                  refine J_getr hX hE 0 43 rfl rfl fl_X11_80 dX11_fewest_165 ?_
                  refine J_sipush hX dX11_fewest_168 ks_1024 ?_
                  refine J_iload hX dX11_fewest_171 rfl ?_
                  refine J_iconst hX dX11_fewest_173 k_i1 ?_
                  refine J_iadd hX dX11_fewest_174 ?_
                  refine J_imul hX dX11_fewest_175 ?_
                  refine J_iload hX dX11_fewest_176 rfl ?_
                  refine J_iadd hX dX11_fewest_178 ?_
                  refine J_iald hX hE 19 rfl dX11_fewest_179 (fun _ => ?_)
                  refine hB146 _ _ _ _ _ ?_
                  exact J_keep [0, 1, 2, 3, 4, 5] rfl (hJ180 v6_133 (g_i σ_133 (nm 19) ((1024 * (v5_125 + 1)) + v6_133).toNatClampNeg) σ_133)
                · refine J_iload hX dX11_fewest_149 rfl ?_
                  refine J_if_ne hX dX11_fewest_151 (tgt := 158) rfl (fun _ => ?_) (fun _ => ?_)
                  · refine J_ldcw hX wc_X11_296 dX11_fewest_158 ?_
                    refine J_goto hX dX11_fewest_161 (tgt := 180) rfl ?_
                    refine hB146 _ _ _ _ _ ?_
                    exact J_keep [0, 1, 2, 3, 4, 5] rfl (hJ180 v6_133 1000000 σ_133)
                  · refine J_iconst hX dX11_fewest_154 k_i0 ?_
                    refine J_goto hX dX11_fewest_155 (tgt := 180) rfl ?_
                    refine hB146 _ _ _ _ _ ?_
                    exact J_keep [0, 1, 2, 3, 4, 5] rfl (hJ180 v6_133 0 σ_133)
          · refine J_aload_n hX dX11_fewest_51 rfl ?_
            refine J_getr hX hE 0 42 rfl rfl fl_X11_76 dX11_fewest_52 ?_
            refine J_iload hX dX11_fewest_55 rfl ?_
            refine J_iconst hX dX11_fewest_57 k_i0 ?_
            refine J_iast hX hE 18 rfl dX11_fewest_58 (fun _ => ?_)
            refine J_bdS (fun s25 => ?_)
            refine J_iconst hX dX11_fewest_59 k_i0 ?_
            refine J_istore hX dX11_fewest_60 (Nat.le_of_ble_eq_true rfl) (lv' := [(0, .ref (jad G (nm 0))), (1, .int v1), (2, .int v2), (3, .int v3), (4, .int v4), (5, .int v5_44), (6, .int 0)]) rfl ?_
            refine J_keep [0, 1, 2, 3, 4, 5, 6] (lv' := [(0, .ref (jad G (nm 0))), (1, .int v1), (2, .int v2), (3, .int v3), (4, .int v4), (5, .int v5_44), (6, .int 0)]) rfl ?_
            refine J_lp (pc := 62) (s0 := (0, s25)) (fun (s : (Int32 × jS)) => [(0, .ref (jad G (nm 0))), (1, .int v1), (2, .int v2), (3, .int v3), (4, .int v4), (5, .int v5_44), (6, .int (s.1))]) (fun (s : (Int32 × jS)) => s.2) ?_
            intro KK62 hN62 hQ62 z62
            obtain ⟨v6_62, σ_62⟩ := z62
            show J X 62 [(0, .ref (jad G (nm 0))), (1, .int v1), (2, .int v2), (3, .int v3), (4, .int v4), (5, .int v5_44), (6, .int v6_62)] [] σ_62 (f_X11_fewest_L62 nm v1 v2 v3 v4 v5_44 (v6_62, σ_62)) KK62
            have hJ107 : ∀ (v6_j107 : Int32) (t1_j107 : Int32) (t2_j107 : Int32) (t3_j107 : Int32) (σ_j107 : jS), J X 107 [(0, .ref (jad G (nm 0))), (1, .int v1), (2, .int v2), (3, .int v3), (4, .int v4), (5, .int v5_44), (6, .int v6_j107)] [.int t3_j107, .int t2_j107, .int t1_j107, .ref (jad G (nm 18))] σ_j107 (f_X11_fewest_J107 nm v1 v2 v3 v4 v5_44 v6_j107 t1_j107 t2_j107 t3_j107 σ_j107) KK62 := by
              intro v6_j107 t1_j107 t2_j107 t3_j107 σ_j107
              unfold f_X11_fewest_J107
              refine J_ior hX dX11_fewest_107 ?_
              refine J_iast hX hE 18 rfl dX11_fewest_108 (fun _ => ?_)
              refine J_bdS (fun s26 => ?_)
              refine J_iinc hX dX11_fewest_109 rfl (congrArg (_ + ·) k_i1) (Nat.le_of_ble_eq_true rfl) (lv' := [(0, .ref (jad G (nm 0))), (1, .int v1), (2, .int v2), (3, .int v3), (4, .int v4), (5, .int v5_44), (6, .int (v6_j107 + 1))]) rfl ?_
              refine J_goto hX dX11_fewest_112 (tgt := 62) rfl ?_
              exact J_keep [0, 1, 2, 3, 4, 5, 6] rfl (hN62 (v6_j107 + 1, s26))
            unfold f_X11_fewest_L62
            refine J_iload hX dX11_fewest_62 rfl ?_
            refine J_bipush hX dX11_fewest_64 kb_50 ?_
            refine J_icmp_ge hX dX11_fewest_66 (tgt := 115) rfl (fun _ => ?_) (fun _ => ?_)
            · refine hQ62 _ _ _ _ _ ?_
              refine J_iinc hX dX11_fewest_115 rfl (congrArg (_ + ·) k_i1) (Nat.le_of_ble_eq_true rfl) (lv' := [(0, .ref (jad G (nm 0))), (1, .int v1), (2, .int v2), (3, .int v3), (4, .int v4), (5, .int (v5_44 + 1)), (6, .int v6_62)]) rfl ?_
              refine J_goto hX dX11_fewest_118 (tgt := 44) rfl ?_
              exact J_keep [0, 1, 2, 3, 4, 5] rfl (hN44 (v5_44 + 1, σ_62))
            · refine J_aload_n hX dX11_fewest_69 rfl ?_
              refine J_iload hX dX11_fewest_70 rfl ?_
              refine J_iload hX dX11_fewest_72 rfl ?_
              refine J_iload_n hX dX11_fewest_74 rfl ?_
              refine J_aload_n hX dX11_fewest_75 rfl ?_
              refine J_geti hX hE 0 15 rfl rfl fl_X11_218 dX11_fewest_76 ?_
              refine J_cVP hX hE 0 (C_X11_wakesBy hG hE v6_62 v5_44 v3 (g_i σ_62 (nm 0) 15) σ_62) mw_X11_wakesBy ml_X11_255 rfl rfl rfl ⟨Nat.le_of_ble_eq_true rfl, Nat.le_of_ble_eq_true rfl⟩ rfl rfl (Nat.le_of_ble_eq_true rfl) dX11_fewest_79 (fun q27 => ?_)
              refine J_istore hX dX11_fewest_82 (Nat.le_of_ble_eq_true rfl) (lv' := [(0, .ref (jad G (nm 0))), (1, .int v1), (2, .int v2), (3, .int v3), (4, .int v4), (5, .int v5_44), (6, .int v6_62), (7, .int q27)]) rfl ?_
              refine J_aload_n hX dX11_fewest_84 rfl ?_
              refine J_getr hX hE 0 42 rfl rfl fl_X11_76 dX11_fewest_85 ?_
              refine J_iload hX dX11_fewest_88 rfl ?_
              refine J_dup2 hX dX11_fewest_90 rfl rfl ?_
              refine J_iald hX hE 18 rfl dX11_fewest_91 (fun _ => ?_)
              refine J_iload hX dX11_fewest_92 rfl ?_
              refine J_iload_n hX dX11_fewest_94 rfl ?_
              refine J_iconst hX dX11_fewest_95 k_im1 ?_
              refine J_ixor hX dX11_fewest_96 ?_
              refine J_iand hX dX11_fewest_97 ?_
              refine J_blk ?_
              intro KB98 hB98
              refine J_if_ne hX dX11_fewest_98 (tgt := 106) rfl (fun _ => ?_) (fun _ => ?_)
              · refine J_iconst hX dX11_fewest_106 k_i0 ?_
                refine hB98 _ _ _ _ _ ?_
                exact J_keep [0, 1, 2, 3, 4, 5, 6] rfl (hJ107 v6_62 v5_44 (g_i σ_62 (nm 18) v5_44.toNatClampNeg) 0 σ_62)
              · refine J_iload hX dX11_fewest_101 rfl ?_
                refine J_goto hX dX11_fewest_103 (tgt := 107) rfl ?_
                refine hB98 _ _ _ _ _ ?_
                exact J_keep [0, 1, 2, 3, 4, 5, 6] rfl (hJ107 v6_62 v5_44 (g_i σ_62 (nm 18) v5_44.toNatClampNeg) q27 σ_62)
        · refine J_iconst hX dX11_fewest_39 k_im1 ?_
          exact J_iret hX hM dX11_fewest_40
      · refine J_sipush hX dX11_fewest_27 ks_m1002 ?_
        exact J_iret hX hM dX11_fewest_30
    · refine J_sipush hX dX11_fewest_16 ks_m1001 ?_
      exact J_iret hX hM dX11_fewest_19
theorem mw_X11_fewest : jMV Y_X11_fewest 4 := ⟨⟨tw_tb (List.mem_of_getElem? (i := 1438) (by decide +kernel)) (by decide +kernel), tw_tb (List.mem_of_getElem? (i := 1439) (by decide +kernel)) (by decide +kernel), tw_tb (List.mem_of_getElem? (i := 13) (by decide +kernel)) (by decide +kernel), tw_tb (List.mem_of_getElem? (i := 1440) (by decide +kernel)) (by decide +kernel)⟩, ⟨rfl, rfl⟩, by decide +kernel, by decide +kernel, by decide +kernel⟩
-- X11_file
noncomputable def f_X11_file (nm : Nat → Nat) (v1 : Int32) (v2 : Int32) (σ : jS) : Option (Int32 × jS) :=
  (f_X11_isLamp nm v1 σ).bind (fun q1 =>
    if q1 = 0 then
      some ((-1001), σ)
    else
      gd (vp_in ((4 * v1) + 1) 40) (
        bd (g_i σ (nm 1) ((4 * v1) + 1).toNatClampNeg) (fun x2 =>
          (f_X11_in (v2.toInt64) ((x2 + 1).toInt64) 63).bind (fun q3 =>
            if q3 = 0 then
              some ((-1002), σ)
            else
              gd (vp_in ((4 * v1) + 1) 40) (bd (s_i σ (nm 1) ((4 * v1) + 1).toNatClampNeg v2) (fun s4 =>
                some (v2 - x2, s4)))))))
abbrev Y_X11_file : jY := (yX11_file, cX11_file, 4, some .int, { frames := 2, cells := 0, slots := 0, locals := 46 })
theorem C_X11_file {l : Launch} {G : jG} {nm : Nat → Nat} (hG : jWL G) (hE : jE G nm LS_X11) (v1 : Int32) (v2 : Int32) (σ : jS) : jC r_I l G Y_X11_file [.ref (jad G (nm 0)), .int v1, .int v2] σ (f_X11_file nm v1 v2 σ) := by
  refine jw_met hG pn_X11 (Nat.le_of_ble_eq_true rfl) ⟨rfl, rfl⟩ ?_
  intro X hX hM
  have hX : jB X l G cX11_file RX11 4 { frames := 2, cells := 0, slots := 0, locals := 46 } := hX
  have hM : jM X (some .int) := hM
  show J X 0 [(0, .ref (jad G (nm 0))), (1, .int v1), (2, .int v2)] [] σ (f_X11_file nm v1 v2 σ) (jk r_I X)
  unfold f_X11_file
  refine J_aload_n hX dX11_file_0 rfl ?_
  refine J_iload_n hX dX11_file_1 rfl ?_
  refine J_cVP hX hE 0 (C_X11_isLamp hG hE v1 σ) mw_X11_isLamp ml_X11_242 rfl rfl rfl ⟨Nat.le_of_ble_eq_true rfl, Nat.le_of_ble_eq_true rfl⟩ rfl rfl (Nat.le_of_ble_eq_true rfl) dX11_file_2 (fun q5 => ?_)
  refine J_if_ne hX dX11_file_5 (tgt := 12) rfl (fun _ => ?_) (fun _ => ?_)
  · refine J_aload_n hX dX11_file_12 rfl ?_
    refine J_getr hX hE 0 1 rfl rfl fl_X11_7 dX11_file_13 ?_
    refine J_iconst hX dX11_file_16 k_i4 ?_
    refine J_iload_n hX dX11_file_17 rfl ?_
    refine J_imul hX dX11_file_18 ?_
    refine J_iconst hX dX11_file_19 k_i1 ?_
    refine J_iadd hX dX11_file_20 ?_
    refine J_iald hX hE 1 rfl dX11_file_21 (fun _ => ?_)
    refine J_bdI (fun x6 => ?_)
    refine J_istore_n hX dX11_file_22 (Nat.le_of_ble_eq_true rfl) (lv' := [(0, .ref (jad G (nm 0))), (1, .int v1), (2, .int v2), (3, .int x6)]) rfl ?_
    refine J_iload_n hX dX11_file_23 rfl ?_
    refine J_i2l hX dX11_file_24 ?_
    refine J_iload_n hX dX11_file_25 rfl ?_
    refine J_iconst hX dX11_file_26 k_i1 ?_
    refine J_iadd hX dX11_file_27 ?_
    refine J_i2l hX dX11_file_28 ?_
    refine J_ldc2 hX wl_X11_263 dX11_file_29 ?_
    refine J_cSP hX (C_X11_in hG (v2.toInt64) ((x6 + 1).toInt64) 63 σ) mw_X11_in ml_X11_107 ⟨Nat.le_of_ble_eq_true rfl, Nat.le_of_ble_eq_true rfl⟩ rfl rfl (Nat.le_of_ble_eq_true rfl) dX11_file_32 (fun q7 => ?_)
    refine J_if_ne hX dX11_file_35 (tgt := 42) rfl (fun _ => ?_) (fun _ => ?_)
    · refine J_aload_n hX dX11_file_42 rfl ?_
      refine J_getr hX hE 0 1 rfl rfl fl_X11_7 dX11_file_43 ?_
      refine J_iconst hX dX11_file_46 k_i4 ?_
      refine J_iload_n hX dX11_file_47 rfl ?_
      refine J_imul hX dX11_file_48 ?_
      refine J_iconst hX dX11_file_49 k_i1 ?_
      refine J_iadd hX dX11_file_50 ?_
      refine J_iload_n hX dX11_file_51 rfl ?_
      refine J_iast hX hE 1 rfl dX11_file_52 (fun _ => ?_)
      refine J_bdS (fun s8 => ?_)
      refine J_iload_n hX dX11_file_53 rfl ?_
      refine J_iload_n hX dX11_file_54 rfl ?_
      refine J_isub hX dX11_file_55 ?_
      exact J_iret hX hM dX11_file_56
    · refine J_sipush hX dX11_file_38 ks_m1002 ?_
      exact J_iret hX hM dX11_file_41
  · refine J_sipush hX dX11_file_8 ks_m1001 ?_
    exact J_iret hX hM dX11_file_11
theorem mw_X11_file : jMV Y_X11_file 2 := ⟨⟨tw_tb (List.mem_of_getElem? (i := 1454) (by decide +kernel)) (by decide +kernel), tw_tb (List.mem_of_getElem? (i := 1455) (by decide +kernel)) (by decide +kernel), tw_tb (List.mem_of_getElem? (i := 13) (by decide +kernel)) (by decide +kernel), tw_tb (List.mem_of_getElem? (i := 1456) (by decide +kernel)) (by decide +kernel)⟩, ⟨rfl, rfl⟩, by decide +kernel, by decide +kernel, by decide +kernel⟩
-- X11_flat
noncomputable def f_X11_flat_L55 (nm : Nat → Nat) (v1 : Int32) (v2 : Int32) (s : (Int32 × Int32 × Int32 × jS)) : Option ((Int32 × Int32 × Int32 × jS) ⊕ (Int32 × Int32 × jS)) :=
  match s with
  | (v3, v4, v5, σ) =>
    if (g_i σ (nm 0) 12) ≤ v5 then
      some (.inr (v3, v4, σ))
    else
      (f_X11_darkOn nm v5 v2 σ).bind (fun x => match x with
      | (q4, s5) =>
        if q4 = 0 then
          some (.inl (v3, v4, v5 + 1, s5))
        else
          if 0 ≤ v3 then
            some (.inl (v3, v4 + 1, v5 + 1, s5))
          else
            some (.inl (v5, v4 + 1, v5 + 1, s5)))
noncomputable def f_X11_flat (nm : Nat → Nat) (v1 : Int32) (σ : jS) : Option (Int32 × jS) :=
  (f_X11_in (v1.toInt64) 0 ((1 + (g_i σ (nm 0) 12)).toInt64)).bind (fun q1 =>
    if q1 = 0 then
      some ((-1002), σ)
    else
      (f_X11_beginRound nm σ).bind (fun x => match x with
      | (q2, s3) =>
        if 0 ≤ q2 then
          if v1 ≤ 1 then
            (lp (f_X11_flat_L55 nm v1 q2) fu ((-1), 0, 0, s3)).bind (fun x => match x with
            | (e6, e7, s8) =>
              if v1 = 0 then
                some (e6, s8)
              else
                some (e7, s8))
          else
            (f_X11_darkOn nm (v1 - 2) q2 s3).bind (fun x => match x with
            | (q9, s10) =>
              some (q9, s10))
        else
          some ((-1003), s3)))
abbrev Y_X11_flat : jY := (yX11_flat, cX11_flat, 6, some .int, { frames := 4, cells := 0, slots := 0, locals := 94 })
theorem C_X11_flat {l : Launch} {G : jG} {nm : Nat → Nat} (hG : jWL G) (hE : jE G nm LS_X11) (v1 : Int32) (σ : jS) : jC r_I l G Y_X11_flat [.ref (jad G (nm 0)), .int v1] σ (f_X11_flat nm v1 σ) := by
  refine jw_met hG pn_X11 (Nat.le_of_ble_eq_true rfl) ⟨rfl, rfl⟩ ?_
  intro X hX hM
  have hX : jB X l G cX11_flat RX11 6 { frames := 4, cells := 0, slots := 0, locals := 94 } := hX
  have hM : jM X (some .int) := hM
  show J X 0 [(0, .ref (jad G (nm 0))), (1, .int v1)] [] σ (f_X11_flat nm v1 σ) (jk r_I X)
  unfold f_X11_flat
  refine J_iload_n hX dX11_flat_0 rfl ?_
  refine J_i2l hX dX11_flat_1 ?_
  refine J_lconst hX dX11_flat_2 k_l0 ?_
  refine J_iconst hX dX11_flat_3 k_i1 ?_
  refine J_aload_n hX dX11_flat_4 rfl ?_
  refine J_geti hX hE 0 12 rfl rfl fl_X11_239 dX11_flat_5 ?_
  refine J_iadd hX dX11_flat_8 ?_
  refine J_i2l hX dX11_flat_9 ?_
  refine J_cSP hX (C_X11_in hG (v1.toInt64) 0 ((1 + (g_i σ (nm 0) 12)).toInt64) σ) mw_X11_in ml_X11_107 ⟨Nat.le_of_ble_eq_true rfl, Nat.le_of_ble_eq_true rfl⟩ rfl rfl (Nat.le_of_ble_eq_true rfl) dX11_flat_10 (fun q11 => ?_)
  refine J_if_ne hX dX11_flat_13 (tgt := 20) rfl (fun _ => ?_) (fun _ => ?_)
  · refine J_aload_n hX dX11_flat_20 rfl ?_
    refine J_cVI hX hE 0 (C_X11_beginRound hG hE σ) mw_X11_beginRound ml_X11_309 rfl rfl rfl ⟨Nat.le_of_ble_eq_true rfl, Nat.le_of_ble_eq_true rfl⟩ rfl rfl (Nat.le_of_ble_eq_true rfl) dX11_flat_21 (fun q12 s13 => ?_)
    refine J_istore_n hX dX11_flat_24 (Nat.le_of_ble_eq_true rfl) (lv' := [(0, .ref (jad G (nm 0))), (1, .int v1), (2, .int q12)]) rfl ?_
    refine J_iload_n hX dX11_flat_25 rfl ?_
    refine J_if_ge hX dX11_flat_26 (tgt := 33) rfl (fun _ => ?_) (fun _ => ?_)
    · refine J_iload_n hX dX11_flat_33 rfl ?_
      refine J_iconst hX dX11_flat_34 k_i1 ?_
      refine J_icmp_le hX dX11_flat_35 (tgt := 47) rfl (fun _ => ?_) (fun _ => ?_)
      · refine J_iconst hX dX11_flat_47 k_im1 ?_
        refine J_istore_n hX dX11_flat_48 (Nat.le_of_ble_eq_true rfl) (lv' := [(0, .ref (jad G (nm 0))), (1, .int v1), (2, .int q12), (3, .int (-1))]) rfl ?_
        refine J_iconst hX dX11_flat_49 k_i0 ?_
        refine J_istore hX dX11_flat_50 (Nat.le_of_ble_eq_true rfl) (lv' := [(0, .ref (jad G (nm 0))), (1, .int v1), (2, .int q12), (3, .int (-1)), (4, .int 0)]) rfl ?_
        refine J_iconst hX dX11_flat_52 k_i0 ?_
        refine J_istore hX dX11_flat_53 (Nat.le_of_ble_eq_true rfl) (lv' := [(0, .ref (jad G (nm 0))), (1, .int v1), (2, .int q12), (3, .int (-1)), (4, .int 0), (5, .int 0)]) rfl ?_
        refine J_keep [0, 1, 2, 3, 4, 5] (lv' := [(0, .ref (jad G (nm 0))), (1, .int v1), (2, .int q12), (3, .int (-1)), (4, .int 0), (5, .int 0)]) rfl ?_
        refine J_lp (pc := 55) (s0 := ((-1), 0, 0, s13)) (fun (s : (Int32 × Int32 × Int32 × jS)) => [(0, .ref (jad G (nm 0))), (1, .int v1), (2, .int q12), (3, .int (s.1)), (4, .int (s.2.1)), (5, .int (s.2.2.1))]) (fun (s : (Int32 × Int32 × Int32 × jS)) => s.2.2.2) ?_
        intro KK55 hN55 hQ55 z55
        obtain ⟨v3_55, v4_55, v5_55, σ_55⟩ := z55
        show J X 55 [(0, .ref (jad G (nm 0))), (1, .int v1), (2, .int q12), (3, .int v3_55), (4, .int v4_55), (5, .int v5_55)] [] σ_55 (f_X11_flat_L55 nm v1 q12 (v3_55, v4_55, v5_55, σ_55)) KK55
        unfold f_X11_flat_L55
        refine J_iload hX dX11_flat_55 rfl ?_
        refine J_aload_n hX dX11_flat_57 rfl ?_
        refine J_geti hX hE 0 12 rfl rfl fl_X11_239 dX11_flat_58 ?_
        refine J_icmp_ge hX dX11_flat_61 (tgt := 94) rfl (fun _ => ?_) (fun _ => ?_)
        · refine hQ55 _ _ _ _ _ ?_
          refine J_iload_n hX dX11_flat_94 rfl ?_
          refine J_if_ne hX dX11_flat_95 (tgt := 102) rfl (fun _ => ?_) (fun _ => ?_)
          · refine J_iload hX dX11_flat_102 rfl ?_
            exact J_iret hX hM dX11_flat_104
          · refine J_iload_n hX dX11_flat_98 rfl ?_
            refine J_goto hX dX11_flat_99 (tgt := 104) rfl ?_
            exact J_iret hX hM dX11_flat_104
        · refine J_aload_n hX dX11_flat_64 rfl ?_
          refine J_iload hX dX11_flat_65 rfl ?_
          refine J_iload_n hX dX11_flat_67 rfl ?_
          refine J_cVI hX hE 0 (C_X11_darkOn hG hE v5_55 q12 σ_55) mw_X11_darkOn ml_X11_347 rfl rfl rfl ⟨Nat.le_of_ble_eq_true rfl, Nat.le_of_ble_eq_true rfl⟩ rfl rfl (Nat.le_of_ble_eq_true rfl) dX11_flat_68 (fun q14 s15 => ?_)
          refine J_if_eq hX dX11_flat_71 (tgt := 88) rfl (fun _ => ?_) (fun _ => ?_)
          · refine J_iinc hX dX11_flat_88 rfl (congrArg (_ + ·) k_i1) (Nat.le_of_ble_eq_true rfl) (lv' := [(0, .ref (jad G (nm 0))), (1, .int v1), (2, .int q12), (3, .int v3_55), (4, .int v4_55), (5, .int (v5_55 + 1))]) rfl ?_
            refine J_goto hX dX11_flat_91 (tgt := 55) rfl ?_
            exact J_keep [0, 1, 2, 3, 4, 5] rfl (hN55 (v3_55, v4_55, v5_55 + 1, s15))
          · refine J_iload_n hX dX11_flat_74 rfl ?_
            refine J_if_ge hX dX11_flat_75 (tgt := 83) rfl (fun _ => ?_) (fun _ => ?_)
            · refine J_iload_n hX dX11_flat_83 rfl ?_
              refine J_istore_n hX dX11_flat_84 (Nat.le_of_ble_eq_true rfl) (lv' := [(0, .ref (jad G (nm 0))), (1, .int v1), (2, .int q12), (3, .int v3_55), (4, .int v4_55), (5, .int v5_55)]) rfl ?_
              refine J_iinc hX dX11_flat_85 rfl (congrArg (_ + ·) k_i1) (Nat.le_of_ble_eq_true rfl) (lv' := [(0, .ref (jad G (nm 0))), (1, .int v1), (2, .int q12), (3, .int v3_55), (4, .int (v4_55 + 1)), (5, .int v5_55)]) rfl ?_
              refine J_iinc hX dX11_flat_88 rfl (congrArg (_ + ·) k_i1) (Nat.le_of_ble_eq_true rfl) (lv' := [(0, .ref (jad G (nm 0))), (1, .int v1), (2, .int q12), (3, .int v3_55), (4, .int (v4_55 + 1)), (5, .int (v5_55 + 1))]) rfl ?_
              refine J_goto hX dX11_flat_91 (tgt := 55) rfl ?_
              exact J_keep [0, 1, 2, 3, 4, 5] rfl (hN55 (v3_55, v4_55 + 1, v5_55 + 1, s15))
            · refine J_iload hX dX11_flat_78 rfl ?_
              refine J_goto hX dX11_flat_80 (tgt := 84) rfl ?_
              refine J_istore_n hX dX11_flat_84 (Nat.le_of_ble_eq_true rfl) (lv' := [(0, .ref (jad G (nm 0))), (1, .int v1), (2, .int q12), (3, .int v5_55), (4, .int v4_55), (5, .int v5_55)]) rfl ?_
              refine J_iinc hX dX11_flat_85 rfl (congrArg (_ + ·) k_i1) (Nat.le_of_ble_eq_true rfl) (lv' := [(0, .ref (jad G (nm 0))), (1, .int v1), (2, .int q12), (3, .int v5_55), (4, .int (v4_55 + 1)), (5, .int v5_55)]) rfl ?_
              refine J_iinc hX dX11_flat_88 rfl (congrArg (_ + ·) k_i1) (Nat.le_of_ble_eq_true rfl) (lv' := [(0, .ref (jad G (nm 0))), (1, .int v1), (2, .int q12), (3, .int v5_55), (4, .int (v4_55 + 1)), (5, .int (v5_55 + 1))]) rfl ?_
              refine J_goto hX dX11_flat_91 (tgt := 55) rfl ?_
              exact J_keep [0, 1, 2, 3, 4, 5] rfl (hN55 (v5_55, v4_55 + 1, v5_55 + 1, s15))
      · refine J_aload_n hX dX11_flat_38 rfl ?_
        refine J_iload_n hX dX11_flat_39 rfl ?_
        refine J_iconst hX dX11_flat_40 k_i2 ?_
        refine J_isub hX dX11_flat_41 ?_
        refine J_iload_n hX dX11_flat_42 rfl ?_
        refine J_cVI hX hE 0 (C_X11_darkOn hG hE (v1 - 2) q12 s13) mw_X11_darkOn ml_X11_347 rfl rfl rfl ⟨Nat.le_of_ble_eq_true rfl, Nat.le_of_ble_eq_true rfl⟩ rfl rfl (Nat.le_of_ble_eq_true rfl) dX11_flat_43 (fun q16 s17 => ?_)
        exact J_iret hX hM dX11_flat_46
    · refine J_sipush hX dX11_flat_29 ks_m1003 ?_
      exact J_iret hX hM dX11_flat_32
  · refine J_sipush hX dX11_flat_16 ks_m1002 ?_
    exact J_iret hX hM dX11_flat_19
theorem mw_X11_flat : jMV Y_X11_flat 1 := ⟨⟨tw_tb (List.mem_of_getElem? (i := 1486) (by decide +kernel)) (by decide +kernel), tw_tb (List.mem_of_getElem? (i := 1487) (by decide +kernel)) (by decide +kernel), tw_tb (List.mem_of_getElem? (i := 13) (by decide +kernel)) (by decide +kernel), tw_tb (List.mem_of_getElem? (i := 1488) (by decide +kernel)) (by decide +kernel)⟩, ⟨rfl, rfl⟩, by decide +kernel, by decide +kernel, by decide +kernel⟩
-- X11_forget
noncomputable def f_X11_forget (nm : Nat → Nat) (σ : jS) : Option (Int32 × jS) :=
  bd (g_i σ (nm 0) 38) (fun x1 =>
    bd (s_i σ (nm 0) 38 0) (fun s2 =>
      some (x1, s2)))
abbrev Y_X11_forget : jY := (yX11_forget, cX11_forget, 2, some .int, { frames := 0, cells := 0, slots := 0, locals := 0 })
theorem C_X11_forget {l : Launch} {G : jG} {nm : Nat → Nat} (hG : jWL G) (hE : jE G nm LS_X11) (σ : jS) : jC r_I l G Y_X11_forget [.ref (jad G (nm 0))] σ (f_X11_forget nm σ) := by
  refine jw_met hG pn_X11 (Nat.le_of_ble_eq_true rfl) ⟨rfl, rfl⟩ ?_
  intro X hX hM
  have hX : jB X l G cX11_forget RX11 2 { frames := 0, cells := 0, slots := 0, locals := 0 } := hX
  have hM : jM X (some .int) := hM
  show J X 0 [(0, .ref (jad G (nm 0)))] [] σ (f_X11_forget nm σ) (jk r_I X)
  unfold f_X11_forget
  refine J_aload_n hX dX11_forget_0 rfl ?_
  refine J_geti hX hE 0 38 rfl rfl fl_X11_212 dX11_forget_1 ?_
  refine J_bdI (fun x3 => ?_)
  refine J_istore_n hX dX11_forget_4 (Nat.le_of_ble_eq_true rfl) (lv' := [(0, .ref (jad G (nm 0))), (1, .int x3)]) rfl ?_
  refine J_aload_n hX dX11_forget_5 rfl ?_
  refine J_iconst hX dX11_forget_6 k_i0 ?_
  refine J_puti hX hE 0 38 rfl rfl fp_X11_212 dX11_forget_7 ?_
  refine J_bdS (fun s4 => ?_)
  refine J_iload_n hX dX11_forget_10 rfl ?_
  exact J_iret hX hM dX11_forget_11
theorem mw_X11_forget : jMV Y_X11_forget 0 := ⟨⟨tw_tb (List.mem_of_getElem? (i := 1415) (by decide +kernel)) (by decide +kernel), tw_tb (List.mem_of_getElem? (i := 1416) (by decide +kernel)) (by decide +kernel), tw_tb (List.mem_of_getElem? (i := 13) (by decide +kernel)) (by decide +kernel), tw_tb (List.mem_of_getElem? (i := 1417) (by decide +kernel)) (by decide +kernel)⟩, ⟨rfl, rfl⟩, by decide +kernel, by decide +kernel, by decide +kernel⟩
-- X11_goBack
noncomputable def f_X11_goBack_L34 (nm : Nat → Nat) (v2 : Int32) (s : (Int32 × jS)) : Option ((Int32 × jS) ⊕ jS) :=
  match s with
  | (v3, σ) =>
    if 10 ≤ v3 then
      some (.inr σ)
    else
      gd (vp_in (v2 + v3) 100) (
        gd (vp_in ((4 * v3) + 1) 40) (bd (s_i σ (nm 1) ((4 * v3) + 1).toNatClampNeg (g_i σ (nm 25) (v2 + v3).toNatClampNeg)) (fun s3 =>
          gd (vp_in ((v2 + 10) + v3) 100) (
            gd (vp_in v3 10) (bd (s_i s3 (nm 2) v3.toNatClampNeg (g_i s3 (nm 25) ((v2 + 10) + v3).toNatClampNeg)) (fun s4 =>
              gd (vp_in ((v2 + 20) + v3) 100) (
                gd (vp_in v3 10) (bd (s_i s4 (nm 3) v3.toNatClampNeg (g_i s4 (nm 25) ((v2 + 20) + v3).toNatClampNeg)) (fun s5 =>
                  gd (vp_in ((v2 + 30) + v3) 100) (
                    gd (vp_in v3 10) (bd (s_i s5 (nm 4) v3.toNatClampNeg (g_i s5 (nm 25) ((v2 + 30) + v3).toNatClampNeg)) (fun s6 =>
                      some (.inl (v3 + 1, s6))))))))))))))
noncomputable def f_X11_goBack (nm : Nat → Nat) (v1 : Int32) (σ : jS) : Option (Int32 × jS) :=
  (f_X11_in (v1.toInt64) 0 1).bind (fun q1 =>
    if q1 = 0 then
      some ((-1001), σ)
    else
      gd (vp_in v1 2) (
        if (g_i σ (nm 26) v1.toNatClampNeg) = 0 then
          some ((-1003), σ)
        else
          bd (50 * v1) (fun x2 =>
            (lp (f_X11_goBack_L34 nm x2) fu (0, σ)).bind (fun s7 =>
              gd (vp_in (x2 + 40) 100) (
                bd (s_i s7 (nm 0) 14 (g_i s7 (nm 25) (x2 + 40).toNatClampNeg)) (fun s8 =>
                  gd (vp_in (x2 + 41) 100) (
                    bd (s_i s8 (nm 0) 15 (g_i s8 (nm 25) (x2 + 41).toNatClampNeg)) (fun s9 =>
                      gd (vp_in (x2 + 42) 100) (
                        bd (s_i s9 (nm 0) 16 (g_i s9 (nm 25) (x2 + 42).toNatClampNeg)) (fun s10 =>
                          gd (vp_in (x2 + 43) 100) (
                            bd (s_i s10 (nm 0) 17 (g_i s10 (nm 25) (x2 + 43).toNatClampNeg)) (fun s11 =>
                              some (1, s11)))))))))))))
abbrev Y_X11_goBack : jY := (yX11_goBack, cX11_goBack, 4, some .int, { frames := 1, cells := 0, slots := 0, locals := 25 })
theorem C_X11_goBack {l : Launch} {G : jG} {nm : Nat → Nat} (hG : jWL G) (hE : jE G nm LS_X11) (v1 : Int32) (σ : jS) : jC r_I l G Y_X11_goBack [.ref (jad G (nm 0)), .int v1] σ (f_X11_goBack nm v1 σ) := by
  refine jw_met hG pn_X11 (Nat.le_of_ble_eq_true rfl) ⟨rfl, rfl⟩ ?_
  intro X hX hM
  have hX : jB X l G cX11_goBack RX11 4 { frames := 1, cells := 0, slots := 0, locals := 25 } := hX
  have hM : jM X (some .int) := hM
  show J X 0 [(0, .ref (jad G (nm 0))), (1, .int v1)] [] σ (f_X11_goBack nm v1 σ) (jk r_I X)
  unfold f_X11_goBack
  refine J_iload_n hX dX11_goBack_0 rfl ?_
  refine J_i2l hX dX11_goBack_1 ?_
  refine J_lconst hX dX11_goBack_2 k_l0 ?_
  refine J_lconst hX dX11_goBack_3 k_l1 ?_
  refine J_cSP hX (C_X11_in hG (v1.toInt64) 0 1 σ) mw_X11_in ml_X11_107 ⟨Nat.le_of_ble_eq_true rfl, Nat.le_of_ble_eq_true rfl⟩ rfl rfl (Nat.le_of_ble_eq_true rfl) dX11_goBack_4 (fun q12 => ?_)
  refine J_if_ne hX dX11_goBack_7 (tgt := 14) rfl (fun _ => ?_) (fun _ => ?_)
  · refine J_aload_n hX dX11_goBack_14 rfl ?_
    refine J_getr hX hE 0 51 rfl rfl fl_X11_101 dX11_goBack_15 ?_
    refine J_iload_n hX dX11_goBack_18 rfl ?_
    refine J_zald hX hE 26 rfl dX11_goBack_19 (fun _ => ?_)
    refine J_if_ne hX dX11_goBack_20 (tgt := 27) rfl (fun _ => ?_) (fun _ => ?_)
    · refine J_bipush hX dX11_goBack_27 kb_50 ?_
      refine J_iload_n hX dX11_goBack_29 rfl ?_
      refine J_imul hX dX11_goBack_30 ?_
      refine J_bdI (fun x13 => ?_)
      refine J_istore_n hX dX11_goBack_31 (Nat.le_of_ble_eq_true rfl) (lv' := [(0, .ref (jad G (nm 0))), (1, .int v1), (2, .int x13)]) rfl ?_
      refine J_iconst hX dX11_goBack_32 k_i0 ?_
      refine J_istore_n hX dX11_goBack_33 (Nat.le_of_ble_eq_true rfl) (lv' := [(0, .ref (jad G (nm 0))), (1, .int v1), (2, .int x13), (3, .int 0)]) rfl ?_
      refine J_keep [0, 2, 3] (lv' := [(0, .ref (jad G (nm 0))), (2, .int x13), (3, .int 0)]) rfl ?_
      refine J_lp (pc := 34) (s0 := (0, σ)) (fun (s : (Int32 × jS)) => [(0, .ref (jad G (nm 0))), (2, .int x13), (3, .int (s.1))]) (fun (s : (Int32 × jS)) => s.2) ?_
      intro KK34 hN34 hQ34 z34
      obtain ⟨v3_34, σ_34⟩ := z34
      show J X 34 [(0, .ref (jad G (nm 0))), (2, .int x13), (3, .int v3_34)] [] σ_34 (f_X11_goBack_L34 nm x13 (v3_34, σ_34)) KK34
      unfold f_X11_goBack_L34
      refine J_iload_n hX dX11_goBack_34 rfl ?_
      refine J_bipush hX dX11_goBack_35 kb_10 ?_
      refine J_icmp_ge hX dX11_goBack_37 (tgt := 115) rfl (fun _ => ?_) (fun _ => ?_)
      · refine hQ34 _ _ _ _ _ ?_
        refine J_aload_n hX dX11_goBack_115 rfl ?_
        refine J_aload_n hX dX11_goBack_116 rfl ?_
        refine J_getr hX hE 0 50 rfl rfl fl_X11_98 dX11_goBack_117 ?_
        refine J_iload_n hX dX11_goBack_120 rfl ?_
        refine J_bipush hX dX11_goBack_121 kb_40 ?_
        refine J_iadd hX dX11_goBack_123 ?_
        refine J_iald hX hE 25 rfl dX11_goBack_124 (fun _ => ?_)
        refine J_puti hX hE 0 14 rfl rfl fp_X11_227 dX11_goBack_125 ?_
        refine J_bdS (fun s14 => ?_)
        refine J_aload_n hX dX11_goBack_128 rfl ?_
        refine J_aload_n hX dX11_goBack_129 rfl ?_
        refine J_getr hX hE 0 50 rfl rfl fl_X11_98 dX11_goBack_130 ?_
        refine J_iload_n hX dX11_goBack_133 rfl ?_
        refine J_bipush hX dX11_goBack_134 kb_41 ?_
        refine J_iadd hX dX11_goBack_136 ?_
        refine J_iald hX hE 25 rfl dX11_goBack_137 (fun _ => ?_)
        refine J_puti hX hE 0 15 rfl rfl fp_X11_218 dX11_goBack_138 ?_
        refine J_bdS (fun s15 => ?_)
        refine J_aload_n hX dX11_goBack_141 rfl ?_
        refine J_aload_n hX dX11_goBack_142 rfl ?_
        refine J_getr hX hE 0 50 rfl rfl fl_X11_98 dX11_goBack_143 ?_
        refine J_iload_n hX dX11_goBack_146 rfl ?_
        refine J_bipush hX dX11_goBack_147 kb_42 ?_
        refine J_iadd hX dX11_goBack_149 ?_
        refine J_iald hX hE 25 rfl dX11_goBack_150 (fun _ => ?_)
        refine J_puti hX hE 0 16 rfl rfl fp_X11_221 dX11_goBack_151 ?_
        refine J_bdS (fun s16 => ?_)
        refine J_aload_n hX dX11_goBack_154 rfl ?_
        refine J_aload_n hX dX11_goBack_155 rfl ?_
        refine J_getr hX hE 0 50 rfl rfl fl_X11_98 dX11_goBack_156 ?_
        refine J_iload_n hX dX11_goBack_159 rfl ?_
        refine J_bipush hX dX11_goBack_160 kb_43 ?_
        refine J_iadd hX dX11_goBack_162 ?_
        refine J_iald hX hE 25 rfl dX11_goBack_163 (fun _ => ?_)
        refine J_puti hX hE 0 17 rfl rfl fp_X11_274 dX11_goBack_164 ?_
        refine J_bdS (fun s17 => ?_)
        refine J_iconst hX dX11_goBack_167 k_i1 ?_
        exact J_iret hX hM dX11_goBack_168
      · refine J_aload_n hX dX11_goBack_40 rfl ?_
        refine J_getr hX hE 0 1 rfl rfl fl_X11_7 dX11_goBack_41 ?_
        refine J_iconst hX dX11_goBack_44 k_i4 ?_
        refine J_iload_n hX dX11_goBack_45 rfl ?_
        refine J_imul hX dX11_goBack_46 ?_
        refine J_iconst hX dX11_goBack_47 k_i1 ?_
        refine J_iadd hX dX11_goBack_48 ?_
        refine J_aload_n hX dX11_goBack_49 rfl ?_
        refine J_getr hX hE 0 50 rfl rfl fl_X11_98 dX11_goBack_50 ?_
        refine J_iload_n hX dX11_goBack_53 rfl ?_
        refine J_iload_n hX dX11_goBack_54 rfl ?_
        refine J_iadd hX dX11_goBack_55 ?_
        refine J_iald hX hE 25 rfl dX11_goBack_56 (fun _ => ?_)
        refine J_iast hX hE 1 rfl dX11_goBack_57 (fun _ => ?_)
        refine J_bdS (fun s18 => ?_)
        refine J_aload_n hX dX11_goBack_58 rfl ?_
        refine J_getr hX hE 0 2 rfl rfl fl_X11_13 dX11_goBack_59 ?_
        refine J_iload_n hX dX11_goBack_62 rfl ?_
        refine J_aload_n hX dX11_goBack_63 rfl ?_
        refine J_getr hX hE 0 50 rfl rfl fl_X11_98 dX11_goBack_64 ?_
        refine J_iload_n hX dX11_goBack_67 rfl ?_
        refine J_bipush hX dX11_goBack_68 kb_10 ?_
        refine J_iadd hX dX11_goBack_70 ?_
        refine J_iload_n hX dX11_goBack_71 rfl ?_
        refine J_iadd hX dX11_goBack_72 ?_
        refine J_iald hX hE 25 rfl dX11_goBack_73 (fun _ => ?_)
        refine J_iast hX hE 2 rfl dX11_goBack_74 (fun _ => ?_)
        refine J_bdS (fun s19 => ?_)
        refine J_aload_n hX dX11_goBack_75 rfl ?_
        refine J_getr hX hE 0 3 rfl rfl fl_X11_16 dX11_goBack_76 ?_
        refine J_iload_n hX dX11_goBack_79 rfl ?_
        refine J_aload_n hX dX11_goBack_80 rfl ?_
        refine J_getr hX hE 0 50 rfl rfl fl_X11_98 dX11_goBack_81 ?_
        refine J_iload_n hX dX11_goBack_84 rfl ?_
        refine J_bipush hX dX11_goBack_85 kb_20 ?_
        refine J_iadd hX dX11_goBack_87 ?_
        refine J_iload_n hX dX11_goBack_88 rfl ?_
        refine J_iadd hX dX11_goBack_89 ?_
        refine J_iald hX hE 25 rfl dX11_goBack_90 (fun _ => ?_)
        refine J_iast hX hE 3 rfl dX11_goBack_91 (fun _ => ?_)
        refine J_bdS (fun s20 => ?_)
        refine J_aload_n hX dX11_goBack_92 rfl ?_
        refine J_getr hX hE 0 4 rfl rfl fl_X11_19 dX11_goBack_93 ?_
        refine J_iload_n hX dX11_goBack_96 rfl ?_
        refine J_aload_n hX dX11_goBack_97 rfl ?_
        refine J_getr hX hE 0 50 rfl rfl fl_X11_98 dX11_goBack_98 ?_
        refine J_iload_n hX dX11_goBack_101 rfl ?_
        refine J_bipush hX dX11_goBack_102 kb_30 ?_
        refine J_iadd hX dX11_goBack_104 ?_
        refine J_iload_n hX dX11_goBack_105 rfl ?_
        refine J_iadd hX dX11_goBack_106 ?_
        refine J_iald hX hE 25 rfl dX11_goBack_107 (fun _ => ?_)
        refine J_iast hX hE 4 rfl dX11_goBack_108 (fun _ => ?_)
        refine J_bdS (fun s21 => ?_)
        refine J_iinc hX dX11_goBack_109 rfl (congrArg (_ + ·) k_i1) (Nat.le_of_ble_eq_true rfl) (lv' := [(0, .ref (jad G (nm 0))), (2, .int x13), (3, .int (v3_34 + 1))]) rfl ?_
        refine J_goto hX dX11_goBack_112 (tgt := 34) rfl ?_
        exact J_keep [0, 1, 2] rfl (hN34 (v3_34 + 1, s21))
    · refine J_sipush hX dX11_goBack_23 ks_m1003 ?_
      exact J_iret hX hM dX11_goBack_26
  · refine J_sipush hX dX11_goBack_10 ks_m1001 ?_
    exact J_iret hX hM dX11_goBack_13
theorem mw_X11_goBack : jMV Y_X11_goBack 1 := ⟨⟨tw_tb (List.mem_of_getElem? (i := 1514) (by decide +kernel)) (by decide +kernel), tw_tb (List.mem_of_getElem? (i := 1515) (by decide +kernel)) (by decide +kernel), tw_tb (List.mem_of_getElem? (i := 13) (by decide +kernel)) (by decide +kernel), tw_tb (List.mem_of_getElem? (i := 1516) (by decide +kernel)) (by decide +kernel)⟩, ⟨rfl, rfl⟩, by decide +kernel, by decide +kernel, by decide +kernel⟩
-- X11_has
noncomputable def f_X11_has (v0 : Int32) (v1 : Int32) : Option Int32 :=
  if ((v0 >>> (v1 &&& 31)) &&& 1) = 1 then
    some 1
  else
    some 0
abbrev Y_X11_has : jY := (yX11_has, cX11_has, 2, some .boolean, { frames := 0, cells := 0, slots := 0, locals := 0 })
theorem C_X11_has {l : Launch} {G : jG} (hG : jWL G) (v0 : Int32) (v1 : Int32) (σ : jS) : jC (r_P σ) l G Y_X11_has [.int v0, .int v1] σ (f_X11_has v0 v1) := by
  refine jw_met hG pn_X11 (Nat.le_of_ble_eq_true rfl) ⟨rfl, rfl⟩ ?_
  intro X hX hM
  have hX : jB X l G cX11_has RX11 2 { frames := 0, cells := 0, slots := 0, locals := 0 } := hX
  have hM : jM X (some .boolean) := hM
  show J X 0 [(0, .int v0), (1, .int v1)] [] σ (f_X11_has v0 v1) (jk (r_P σ) X)
  unfold f_X11_has
  refine J_iload_n hX dX11_has_0 rfl ?_
  refine J_iload_n hX dX11_has_1 rfl ?_
  refine J_ishr hX dX11_has_2 ?_
  refine J_iconst hX dX11_has_3 k_i1 ?_
  refine J_iand hX dX11_has_4 ?_
  refine J_iconst hX dX11_has_5 k_i1 ?_
  refine J_icmp_ne hX dX11_has_6 (tgt := 13) rfl (fun _ => ?_) (fun _ => ?_)
  · refine J_iconst hX dX11_has_13 k_i0 ?_
    exact J_zretP hX hM jn_0 dX11_has_14
  · refine J_iconst hX dX11_has_9 k_i1 ?_
    refine J_goto hX dX11_has_10 (tgt := 14) rfl ?_
    exact J_zretP hX hM jn_1 dX11_has_14
theorem mw_X11_has : jMS Y_X11_has 2 := ⟨⟨tw_tb (List.mem_of_getElem? (i := 1247) (by decide +kernel)) (by decide +kernel), tw_tb (List.mem_of_getElem? (i := 13) (by decide +kernel)) (by decide +kernel), tw_tb (List.mem_of_getElem? (i := 1248) (by decide +kernel)) (by decide +kernel)⟩, ⟨rfl, rfl⟩, by decide +kernel, by decide +kernel, by decide +kernel⟩
-- X11_sound
noncomputable def f_X11_sound_J84 (nm : Nat → Nat) (v4 : Int32) (v5 : Int32) (v6 : Int32) (t1 : Int32) (t2 : Int32) (σ : jS) : Option ((Int32 × jS) ⊕ jS) :=
  gd (vp_in t1 10) (bd (s_i σ (nm 4) t1.toNatClampNeg t2) (fun s7 =>
    some (.inl (v6 + 1, s7))))
noncomputable def f_X11_sound_J55 (nm : Nat → Nat) (v4 : Int32) (v5 : Int32) (v6 : Int32) (t1 : Int32) (t2 : Int32) (σ : jS) : Option ((Int32 × jS) ⊕ jS) :=
  gd (vp_in t1 10) (bd (s_i σ (nm 2) t1.toNatClampNeg t2) (fun s4 =>
    (f_X11_has v5 v6).bind (fun q5 =>
      (if q5 = 0 then
        gd (vp_in v6 10) (
          some (g_i s4 (nm 4) v6.toNatClampNeg))
      else
        some v4).bind (fun y6 =>
        f_X11_sound_J84 nm v4 v5 v6 v6 y6 s4))))
noncomputable def f_X11_sound_L16 (nm : Nat → Nat) (v4 : Int32) (v5 : Int32) (s : (Int32 × jS)) : Option ((Int32 × jS) ⊕ jS) :=
  match s with
  | (v6, σ) =>
    if (g_i σ (nm 0) 0) ≤ v6 then
      some (.inr σ)
    else
      (f_X11_has v5 v6).bind (fun q2 =>
        (if q2 = 0 then
          gd (vp_in v6 10) (
            some (g_i σ (nm 2) v6.toNatClampNeg))
        else
          some (g_i σ (nm 0) 5)).bind (fun y3 =>
          f_X11_sound_J55 nm v4 v5 v6 v6 y3 σ))
noncomputable def f_X11_sound (nm : Nat → Nat) (v1 : Int32) (v2 : Int32) (v3 : Int32) (v4 : Int32) (σ : jS) : Option (Int32 × jS) :=
  (f_X11_wakesBy nm v1 v2 v3 (g_i σ (nm 0) 15) σ).bind (fun q1 =>
    (lp (f_X11_sound_L16 nm v4 q1) fu (0, σ)).bind (fun s8 =>
      some (q1, s8)))
abbrev Y_X11_sound : jY := (yX11_sound, cX11_sound, 7, some .int, { frames := 2, cells := 0, slots := 0, locals := 49 })
theorem C_X11_sound {l : Launch} {G : jG} {nm : Nat → Nat} (hG : jWL G) (hE : jE G nm LS_X11) (v1 : Int32) (v2 : Int32) (v3 : Int32) (v4 : Int32) (σ : jS) : jC r_I l G Y_X11_sound [.ref (jad G (nm 0)), .int v1, .int v2, .int v3, .int v4] σ (f_X11_sound nm v1 v2 v3 v4 σ) := by
  refine jw_met hG pn_X11 (Nat.le_of_ble_eq_true rfl) ⟨rfl, rfl⟩ ?_
  intro X hX hM
  have hX : jB X l G cX11_sound RX11 7 { frames := 2, cells := 0, slots := 0, locals := 49 } := hX
  have hM : jM X (some .int) := hM
  show J X 0 [(0, .ref (jad G (nm 0))), (1, .int v1), (2, .int v2), (3, .int v3), (4, .int v4)] [] σ (f_X11_sound nm v1 v2 v3 v4 σ) (jk r_I X)
  unfold f_X11_sound
  refine J_aload_n hX dX11_sound_0 rfl ?_
  refine J_iload_n hX dX11_sound_1 rfl ?_
  refine J_iload_n hX dX11_sound_2 rfl ?_
  refine J_iload_n hX dX11_sound_3 rfl ?_
  refine J_aload_n hX dX11_sound_4 rfl ?_
  refine J_geti hX hE 0 15 rfl rfl fl_X11_218 dX11_sound_5 ?_
  refine J_cVP hX hE 0 (C_X11_wakesBy hG hE v1 v2 v3 (g_i σ (nm 0) 15) σ) mw_X11_wakesBy ml_X11_255 rfl rfl rfl ⟨Nat.le_of_ble_eq_true rfl, Nat.le_of_ble_eq_true rfl⟩ rfl rfl (Nat.le_of_ble_eq_true rfl) dX11_sound_8 (fun q9 => ?_)
  refine J_istore hX dX11_sound_11 (Nat.le_of_ble_eq_true rfl) (lv' := [(0, .ref (jad G (nm 0))), (1, .int v1), (2, .int v2), (3, .int v3), (4, .int v4), (5, .int q9)]) rfl ?_
  refine J_iconst hX dX11_sound_13 k_i0 ?_
  refine J_istore hX dX11_sound_14 (Nat.le_of_ble_eq_true rfl) (lv' := [(0, .ref (jad G (nm 0))), (1, .int v1), (2, .int v2), (3, .int v3), (4, .int v4), (5, .int q9), (6, .int 0)]) rfl ?_
  refine J_keep [0, 4, 5, 6] (lv' := [(0, .ref (jad G (nm 0))), (4, .int v4), (5, .int q9), (6, .int 0)]) rfl ?_
  refine J_lp (pc := 16) (s0 := (0, σ)) (fun (s : (Int32 × jS)) => [(0, .ref (jad G (nm 0))), (4, .int v4), (5, .int q9), (6, .int (s.1))]) (fun (s : (Int32 × jS)) => s.2) ?_
  intro KK16 hN16 hQ16 z16
  obtain ⟨v6_16, σ_16⟩ := z16
  show J X 16 [(0, .ref (jad G (nm 0))), (4, .int v4), (5, .int q9), (6, .int v6_16)] [] σ_16 (f_X11_sound_L16 nm v4 q9 (v6_16, σ_16)) KK16
  have hJ84 : ∀ (v6_j84 : Int32) (t1_j84 : Int32) (t2_j84 : Int32) (σ_j84 : jS), J X 84 [(0, .ref (jad G (nm 0))), (4, .int v4), (5, .int q9), (6, .int v6_j84)] [.int t2_j84, .int t1_j84, .ref (jad G (nm 4))] σ_j84 (f_X11_sound_J84 nm v4 q9 v6_j84 t1_j84 t2_j84 σ_j84) KK16 := by
    intro v6_j84 t1_j84 t2_j84 σ_j84
    unfold f_X11_sound_J84
    refine J_iast hX hE 4 rfl dX11_sound_84 (fun _ => ?_)
    refine J_bdS (fun s10 => ?_)
    refine J_iinc hX dX11_sound_85 rfl (congrArg (_ + ·) k_i1) (Nat.le_of_ble_eq_true rfl) (lv' := [(0, .ref (jad G (nm 0))), (4, .int v4), (5, .int q9), (6, .int (v6_j84 + 1))]) rfl ?_
    refine J_goto hX dX11_sound_88 (tgt := 16) rfl ?_
    exact J_keep [0, 1, 2, 3] rfl (hN16 (v6_j84 + 1, s10))
  have hJ55 : ∀ (v6_j55 : Int32) (t1_j55 : Int32) (t2_j55 : Int32) (σ_j55 : jS), J X 55 [(0, .ref (jad G (nm 0))), (4, .int v4), (5, .int q9), (6, .int v6_j55)] [.int t2_j55, .int t1_j55, .ref (jad G (nm 2))] σ_j55 (f_X11_sound_J55 nm v4 q9 v6_j55 t1_j55 t2_j55 σ_j55) KK16 := by
    intro v6_j55 t1_j55 t2_j55 σ_j55
    unfold f_X11_sound_J55
    refine J_iast hX hE 2 rfl dX11_sound_55 (fun _ => ?_)
    refine J_bdS (fun s11 => ?_)
    refine J_aload_n hX dX11_sound_56 rfl ?_
    refine J_getr hX hE 0 4 rfl rfl fl_X11_19 dX11_sound_57 ?_
    refine J_iload hX dX11_sound_60 rfl ?_
    refine J_iload hX dX11_sound_62 rfl ?_
    refine J_iload hX dX11_sound_64 rfl ?_
    refine J_cSP hX (C_X11_has hG q9 v6_j55 s11) mw_X11_has ml_X11_190 ⟨Nat.le_of_ble_eq_true rfl, Nat.le_of_ble_eq_true rfl⟩ rfl rfl (Nat.le_of_ble_eq_true rfl) dX11_sound_66 (fun q12 => ?_)
    refine J_blk ?_
    intro KB69 hB69
    refine J_if_eq hX dX11_sound_69 (tgt := 77) rfl (fun _ => ?_) (fun _ => ?_)
    · refine J_aload_n hX dX11_sound_77 rfl ?_
      refine J_getr hX hE 0 4 rfl rfl fl_X11_19 dX11_sound_78 ?_
      refine J_iload hX dX11_sound_81 rfl ?_
      refine J_iald hX hE 4 rfl dX11_sound_83 (fun _ => ?_)
      refine hB69 _ _ _ _ _ ?_
      exact J_keep [0, 1, 2, 3] rfl (hJ84 v6_j55 v6_j55 (g_i s11 (nm 4) v6_j55.toNatClampNeg) s11)
    · refine J_iload hX dX11_sound_72 rfl ?_
      refine J_goto hX dX11_sound_74 (tgt := 84) rfl ?_
      refine hB69 _ _ _ _ _ ?_
      exact J_keep [0, 1, 2, 3] rfl (hJ84 v6_j55 v6_j55 v4 s11)
  unfold f_X11_sound_L16
  refine J_iload hX dX11_sound_16 rfl ?_
  refine J_aload_n hX dX11_sound_18 rfl ?_
  refine J_geti hX hE 0 0 rfl rfl fl_X11_104 dX11_sound_19 ?_
  refine J_icmp_ge hX dX11_sound_22 (tgt := 91) rfl (fun _ => ?_) (fun _ => ?_)
  · refine hQ16 _ _ _ _ _ ?_
    refine J_iload hX dX11_sound_91 rfl ?_
    exact J_iret hX hM dX11_sound_93
  · refine J_aload_n hX dX11_sound_25 rfl ?_
    refine J_getr hX hE 0 2 rfl rfl fl_X11_13 dX11_sound_26 ?_
    refine J_iload hX dX11_sound_29 rfl ?_
    refine J_iload hX dX11_sound_31 rfl ?_
    refine J_iload hX dX11_sound_33 rfl ?_
    refine J_cSP hX (C_X11_has hG q9 v6_16 σ_16) mw_X11_has ml_X11_190 ⟨Nat.le_of_ble_eq_true rfl, Nat.le_of_ble_eq_true rfl⟩ rfl rfl (Nat.le_of_ble_eq_true rfl) dX11_sound_35 (fun q13 => ?_)
    refine J_blk ?_
    intro KB38 hB38
    refine J_if_eq hX dX11_sound_38 (tgt := 48) rfl (fun _ => ?_) (fun _ => ?_)
    · refine J_aload_n hX dX11_sound_48 rfl ?_
      refine J_getr hX hE 0 2 rfl rfl fl_X11_13 dX11_sound_49 ?_
      refine J_iload hX dX11_sound_52 rfl ?_
      refine J_iald hX hE 2 rfl dX11_sound_54 (fun _ => ?_)
      refine hB38 _ _ _ _ _ ?_
      exact J_keep [0, 1, 2, 3] rfl (hJ55 v6_16 v6_16 (g_i σ_16 (nm 2) v6_16.toNatClampNeg) σ_16)
    · refine J_aload_n hX dX11_sound_41 rfl ?_
      refine J_geti hX hE 0 5 rfl rfl fl_X11_22 dX11_sound_42 ?_
      refine J_goto hX dX11_sound_45 (tgt := 55) rfl ?_
      refine hB38 _ _ _ _ _ ?_
      exact J_keep [0, 1, 2, 3] rfl (hJ55 v6_16 v6_16 (g_i σ_16 (nm 0) 5) σ_16)
theorem mw_X11_sound : jMV Y_X11_sound 4 := ⟨⟨tw_tb (List.mem_of_getElem? (i := 1347) (by decide +kernel)) (by decide +kernel), tw_pv (List.mem_of_getElem? (i := 50) (by decide +kernel)) (by decide +kernel), tw_tb (List.mem_of_getElem? (i := 13) (by decide +kernel)) (by decide +kernel), tw_tb (List.mem_of_getElem? (i := 1348) (by decide +kernel)) (by decide +kernel)⟩, ⟨rfl, rfl⟩, by decide +kernel, by decide +kernel, by decide +kernel⟩
-- X11_goOn
noncomputable def f_X11_goOn_L2 (nm : Nat → Nat) (s : (Int32 × jS)) : Option ((Int32 × jS) ⊕ jS) :=
  match s with
  | (v1, σ) =>
    if (g_i σ (nm 0) 10) ≤ v1 then
      some (.inr σ)
    else
      gd (vp_in (3 * v1) 90) (
        if (g_i σ (nm 6) (3 * v1).toNatClampNeg) = (g_i σ (nm 0) 14) then
          gd (vp_in ((3 * v1) + 1) 90) (
            bd (g_i σ (nm 6) ((3 * v1) + 1).toNatClampNeg) (fun x1 =>
              gd (vp_in (4 * x1) 32) (
                gd (vp_in ((3 * v1) + 2) 90) (
                  gd (vp_in ((4 * x1) + 1) 32) (
                    (f_X11_sound nm (g_i σ (nm 5) (4 * x1).toNatClampNeg) (g_i σ (nm 6) ((3 * v1) + 2).toNatClampNeg) (g_i σ (nm 5) ((4 * x1) + 1).toNatClampNeg) x1 σ).bind (fun x => match x with
                    | (q2, s3) =>
                      some (.inl (v1 + 1, s3))))))))
        else
          some (.inl (v1 + 1, σ)))
noncomputable def f_X11_goOn_J172 (nm : Nat → Nat) (v1 : Int32) (t1 : Int32) (t2 : Int32) (σ : jS) : Option Int32 :=
  some 0
noncomputable def f_X11_goOn_J173 (nm : Nat → Nat) (v1 : Int32) (t1 : Int32) (t2 : Int32) (t3 : Int32) (σ : jS) : Option ((Int32 × jS) ⊕ jS) :=
  gd (vp_in t1 10) (bd (s_i σ (nm 3) t1.toNatClampNeg (t2 + t3)) (fun s15 =>
    some (.inl (v1 + 1, s15))))
noncomputable def f_X11_goOn_J139 (nm : Nat → Nat) (v1 : Int32) (t1 : Int32) (t2 : Int32) (t3 : Int32) (σ : jS) : Option ((Int32 × jS) ⊕ jS) :=
  gd (vp_in t1 10) (bd (s_i σ (nm 2) t1.toNatClampNeg (t2 - t3)) (fun s13 =>
    gd (vp_in v1 10) (
      gd (vp_in v1 10) (
        (if (g_i s13 (nm 2) v1.toNatClampNeg) ≤ 0 then
          f_X11_goOn_J172 nm v1 v1 (g_i s13 (nm 3) v1.toNatClampNeg) s13
        else
          gd (vp_in v1 10) (
            if 99 ≤ (g_i s13 (nm 3) v1.toNatClampNeg) then
              f_X11_goOn_J172 nm v1 v1 (g_i s13 (nm 3) v1.toNatClampNeg) s13
            else
              some 1)).bind (fun y14 =>
          f_X11_goOn_J173 nm v1 v1 (g_i s13 (nm 3) v1.toNatClampNeg) y14 s13)))))
noncomputable def f_X11_goOn_L110 (nm : Nat → Nat) (s : (Int32 × jS)) : Option ((Int32 × jS) ⊕ jS) :=
  match s with
  | (v1, σ) =>
    if (g_i σ (nm 0) 0) ≤ v1 then
      some (.inr σ)
    else
      gd (vp_in v1 10) (
        gd (vp_in v1 10) (
          (if (g_i σ (nm 2) v1.toNatClampNeg) ≤ 0 then
            some 0
          else
            some 1).bind (fun y12 =>
            f_X11_goOn_J139 nm v1 v1 (g_i σ (nm 2) v1.toNatClampNeg) y12 σ)))
noncomputable def f_X11_goOn_J108 (nm : Nat → Nat) (σ : jS) : Option jS :=
  (lp (f_X11_goOn_L110 nm) fu (0, σ)).bind (fun s16 =>
    bd (s_i s16 (nm 0) 14 ((g_i s16 (nm 0) 14) + 1)) (fun s17 =>
      some s17))
noncomputable def f_X11_goOn (nm : Nat → Nat) (σ : jS) : Option jS :=
  (lp (f_X11_goOn_L2 nm) fu (0, σ)).bind (fun s4 =>
    (if (g_i s4 (nm 0) 16) ≤ 0 then
      some s4
    else
      (f_X11_draw nm 50 s4).bind (fun x => match x with
      | (q5, s6) =>
        (f_X11_draw nm 64 s6).bind (fun x => match x with
        | (q7, s8) =>
          (f_X11_sound nm q5 q7 (g_i s8 (nm 0) 16) (-2) s8).bind (fun x => match x with
          | (q9, s10) =>
            some s10)))).bind (fun s11 =>
      f_X11_goOn_J108 nm s11))
abbrev Y_X11_goOn : jY := (yX11_goOn, cX11_goOn, 4, none, { frames := 3, cells := 0, slots := 0, locals := 75 })
theorem C_X11_goOn {l : Launch} {G : jG} {nm : Nat → Nat} (hG : jWL G) (hE : jE G nm LS_X11) (σ : jS) : jC r_V l G Y_X11_goOn [.ref (jad G (nm 0))] σ (f_X11_goOn nm σ) := by
  refine jw_met hG pn_X11 (Nat.le_of_ble_eq_true rfl) ⟨rfl, rfl⟩ ?_
  intro X hX hM
  have hX : jB X l G cX11_goOn RX11 4 { frames := 3, cells := 0, slots := 0, locals := 75 } := hX
  have hM : jM X (none) := hM
  show J X 0 [(0, .ref (jad G (nm 0)))] [] σ (f_X11_goOn nm σ) (jk r_V X)
  have hJ108 : ∀ (σ : jS), J X 108 [(0, .ref (jad G (nm 0)))] [] σ (f_X11_goOn_J108 nm σ) (jk r_V X) := by
    intro σ
    unfold f_X11_goOn_J108
    refine J_iconst hX dX11_goOn_108 k_i0 ?_
    refine J_istore_n hX dX11_goOn_109 (Nat.le_of_ble_eq_true rfl) (lv' := [(0, .ref (jad G (nm 0))), (1, .int 0)]) rfl ?_
    refine J_keep [0, 1] (lv' := [(0, .ref (jad G (nm 0))), (1, .int 0)]) rfl ?_
    refine J_lp (pc := 110) (s0 := (0, σ)) (fun (s : (Int32 × jS)) => [(0, .ref (jad G (nm 0))), (1, .int (s.1))]) (fun (s : (Int32 × jS)) => s.2) ?_
    intro KK110 hN110 hQ110 z110
    obtain ⟨v1_110, σ_110⟩ := z110
    show J X 110 [(0, .ref (jad G (nm 0))), (1, .int v1_110)] [] σ_110 (f_X11_goOn_L110 nm (v1_110, σ_110)) KK110
    have hJ173 : ∀ (v1_j173 : Int32) (t1_j173 : Int32) (t2_j173 : Int32) (t3_j173 : Int32) (σ_j173 : jS), J X 173 [(0, .ref (jad G (nm 0))), (1, .int v1_j173)] [.int t3_j173, .int t2_j173, .int t1_j173, .ref (jad G (nm 3))] σ_j173 (f_X11_goOn_J173 nm v1_j173 t1_j173 t2_j173 t3_j173 σ_j173) KK110 := by
      intro v1_j173 t1_j173 t2_j173 t3_j173 σ_j173
      unfold f_X11_goOn_J173
      refine J_iadd hX dX11_goOn_173 ?_
      refine J_iast hX hE 3 rfl dX11_goOn_174 (fun _ => ?_)
      refine J_bdS (fun s18 => ?_)
      refine J_iinc hX dX11_goOn_175 rfl (congrArg (_ + ·) k_i1) (Nat.le_of_ble_eq_true rfl) (lv' := [(0, .ref (jad G (nm 0))), (1, .int (v1_j173 + 1))]) rfl ?_
      refine J_goto hX dX11_goOn_178 (tgt := 110) rfl ?_
      exact J_keep [0, 1] rfl (hN110 (v1_j173 + 1, s18))
    have hJ139 : ∀ (v1_j139 : Int32) (t1_j139 : Int32) (t2_j139 : Int32) (t3_j139 : Int32) (σ_j139 : jS), J X 139 [(0, .ref (jad G (nm 0))), (1, .int v1_j139)] [.int t3_j139, .int t2_j139, .int t1_j139, .ref (jad G (nm 2))] σ_j139 (f_X11_goOn_J139 nm v1_j139 t1_j139 t2_j139 t3_j139 σ_j139) KK110 := by
      intro v1_j139 t1_j139 t2_j139 t3_j139 σ_j139
      unfold f_X11_goOn_J139
      refine J_isub hX dX11_goOn_139 ?_
      refine J_iast hX hE 2 rfl dX11_goOn_140 (fun _ => ?_)
      refine J_bdS (fun s19 => ?_)
      refine J_aload_n hX dX11_goOn_141 rfl ?_
      refine J_getr hX hE 0 3 rfl rfl fl_X11_16 dX11_goOn_142 ?_
      refine J_iload_n hX dX11_goOn_145 rfl ?_
      refine J_dup2 hX dX11_goOn_146 rfl rfl ?_
      refine J_iald hX hE 3 rfl dX11_goOn_147 (fun _ => ?_)
      refine J_aload_n hX dX11_goOn_148 rfl ?_
      refine J_getr hX hE 0 2 rfl rfl fl_X11_13 dX11_goOn_149 ?_
      refine J_iload_n hX dX11_goOn_152 rfl ?_
      refine J_iald hX hE 2 rfl dX11_goOn_153 (fun _ => ?_)
      refine J_blk ?_
      intro KB154 hB154
      have hJ172 : J X 172 [(0, .ref (jad G (nm 0))), (1, .int v1_j139)] [.int (g_i s19 (nm 3) v1_j139.toNatClampNeg), .int v1_j139, .ref (jad G (nm 3))] s19 (f_X11_goOn_J172 nm v1_j139 v1_j139 (g_i s19 (nm 3) v1_j139.toNatClampNeg) s19) KB154 := by
        unfold f_X11_goOn_J172
        refine J_iconst hX dX11_goOn_172 k_i0 ?_
        refine hB154 _ _ _ _ _ ?_
        exact J_keep [0, 1] rfl (hJ173 v1_j139 v1_j139 (g_i s19 (nm 3) v1_j139.toNatClampNeg) 0 s19)
      refine J_if_le hX dX11_goOn_154 (tgt := 172) rfl (fun _ => ?_) (fun _ => ?_)
      · exact J_keep [0, 1] rfl (hJ172 )
      · refine J_aload_n hX dX11_goOn_157 rfl ?_
        refine J_getr hX hE 0 3 rfl rfl fl_X11_16 dX11_goOn_158 ?_
        refine J_iload_n hX dX11_goOn_161 rfl ?_
        refine J_iald hX hE 3 rfl dX11_goOn_162 (fun _ => ?_)
        refine J_bipush hX dX11_goOn_163 kb_99 ?_
        refine J_icmp_ge hX dX11_goOn_165 (tgt := 172) rfl (fun _ => ?_) (fun _ => ?_)
        · exact J_keep [0, 1] rfl (hJ172 )
        · refine J_iconst hX dX11_goOn_168 k_i1 ?_
          refine J_goto hX dX11_goOn_169 (tgt := 173) rfl ?_
          refine hB154 _ _ _ _ _ ?_
          exact J_keep [0, 1] rfl (hJ173 v1_j139 v1_j139 (g_i s19 (nm 3) v1_j139.toNatClampNeg) 1 s19)
    unfold f_X11_goOn_L110
    refine J_iload_n hX dX11_goOn_110 rfl ?_
    refine J_aload_n hX dX11_goOn_111 rfl ?_
    refine J_geti hX hE 0 0 rfl rfl fl_X11_104 dX11_goOn_112 ?_
    refine J_icmp_ge hX dX11_goOn_115 (tgt := 181) rfl (fun _ => ?_) (fun _ => ?_)
    · refine hQ110 _ _ _ _ _ ?_
      refine J_aload_n hX dX11_goOn_181 rfl ?_
      refine J_dup hX dX11_goOn_182 rfl ?_
      refine J_geti hX hE 0 14 rfl rfl fl_X11_227 dX11_goOn_183 ?_
      refine J_iconst hX dX11_goOn_186 k_i1 ?_
      refine J_iadd hX dX11_goOn_187 ?_
      refine J_puti hX hE 0 14 rfl rfl fp_X11_227 dX11_goOn_188 ?_
      refine J_bdS (fun s20 => ?_)
      exact J_vret hX hM dX11_goOn_191
    · refine J_aload_n hX dX11_goOn_118 rfl ?_
      refine J_getr hX hE 0 2 rfl rfl fl_X11_13 dX11_goOn_119 ?_
      refine J_iload_n hX dX11_goOn_122 rfl ?_
      refine J_dup2 hX dX11_goOn_123 rfl rfl ?_
      refine J_iald hX hE 2 rfl dX11_goOn_124 (fun _ => ?_)
      refine J_aload_n hX dX11_goOn_125 rfl ?_
      refine J_getr hX hE 0 2 rfl rfl fl_X11_13 dX11_goOn_126 ?_
      refine J_iload_n hX dX11_goOn_129 rfl ?_
      refine J_iald hX hE 2 rfl dX11_goOn_130 (fun _ => ?_)
      refine J_blk ?_
      intro KB131 hB131
      refine J_if_le hX dX11_goOn_131 (tgt := 138) rfl (fun _ => ?_) (fun _ => ?_)
      · refine J_iconst hX dX11_goOn_138 k_i0 ?_
        refine hB131 _ _ _ _ _ ?_
        exact J_keep [0, 1] rfl (hJ139 v1_110 v1_110 (g_i σ_110 (nm 2) v1_110.toNatClampNeg) 0 σ_110)
      · refine J_iconst hX dX11_goOn_134 k_i1 ?_
        refine J_goto hX dX11_goOn_135 (tgt := 139) rfl ?_
        refine hB131 _ _ _ _ _ ?_
        exact J_keep [0, 1] rfl (hJ139 v1_110 v1_110 (g_i σ_110 (nm 2) v1_110.toNatClampNeg) 1 σ_110)
  unfold f_X11_goOn
  refine J_iconst hX dX11_goOn_0 k_i0 ?_
  refine J_istore_n hX dX11_goOn_1 (Nat.le_of_ble_eq_true rfl) (lv' := [(0, .ref (jad G (nm 0))), (1, .int 0)]) rfl ?_
  refine J_keep [0, 1] (lv' := [(0, .ref (jad G (nm 0))), (1, .int 0)]) rfl ?_
  refine J_lp (pc := 2) (s0 := (0, σ)) (fun (s : (Int32 × jS)) => [(0, .ref (jad G (nm 0))), (1, .int (s.1))]) (fun (s : (Int32 × jS)) => s.2) ?_
  intro KK2 hN2 hQ2 z2
  obtain ⟨v1_2, σ_2⟩ := z2
  show J X 2 [(0, .ref (jad G (nm 0))), (1, .int v1_2)] [] σ_2 (f_X11_goOn_L2 nm (v1_2, σ_2)) KK2
  unfold f_X11_goOn_L2
  refine J_iload_n hX dX11_goOn_2 rfl ?_
  refine J_aload_n hX dX11_goOn_3 rfl ?_
  refine J_geti hX hE 0 10 rfl rfl fl_X11_209 dX11_goOn_4 ?_
  refine J_icmp_ge hX dX11_goOn_7 (tgt := 76) rfl (fun _ => ?_) (fun _ => ?_)
  · refine hQ2 _ _ _ _ _ ?_
    refine J_aload_n hX dX11_goOn_76 rfl ?_
    refine J_geti hX hE 0 16 rfl rfl fl_X11_221 dX11_goOn_77 ?_
    refine J_blk ?_
    intro KB80 hB80
    refine J_if_le hX dX11_goOn_80 (tgt := 108) rfl (fun _ => ?_) (fun _ => ?_)
    · refine hB80 _ _ _ _ _ ?_
      exact J_keep [0] rfl (hJ108 σ_2)
    · refine J_aload_n hX dX11_goOn_83 rfl ?_
      refine J_bipush hX dX11_goOn_84 kb_50 ?_
      refine J_cVI hX hE 0 (C_X11_draw hG hE 50 σ_2) mw_X11_draw ml_X11_284 rfl rfl rfl ⟨Nat.le_of_ble_eq_true rfl, Nat.le_of_ble_eq_true rfl⟩ rfl rfl (Nat.le_of_ble_eq_true rfl) dX11_goOn_86 (fun q21 s22 => ?_)
      refine J_istore_n hX dX11_goOn_89 (Nat.le_of_ble_eq_true rfl) (lv' := [(0, .ref (jad G (nm 0))), (1, .int q21)]) rfl ?_
      refine J_aload_n hX dX11_goOn_90 rfl ?_
      refine J_iload_n hX dX11_goOn_91 rfl ?_
      refine J_aload_n hX dX11_goOn_92 rfl ?_
      refine J_bipush hX dX11_goOn_93 kb_64 ?_
      refine J_cVI hX hE 0 (C_X11_draw hG hE 64 s22) mw_X11_draw ml_X11_284 rfl rfl rfl ⟨Nat.le_of_ble_eq_true rfl, Nat.le_of_ble_eq_true rfl⟩ rfl rfl (Nat.le_of_ble_eq_true rfl) dX11_goOn_95 (fun q23 s24 => ?_)
      refine J_aload_n hX dX11_goOn_98 rfl ?_
      refine J_geti hX hE 0 16 rfl rfl fl_X11_221 dX11_goOn_99 ?_
      refine J_bipush hX dX11_goOn_102 kb_m2 ?_
      refine J_cVI hX hE 0 (C_X11_sound hG hE q21 q23 (g_i s24 (nm 0) 16) (-2) s24) mw_X11_sound ml_X11_271 rfl rfl rfl ⟨Nat.le_of_ble_eq_true rfl, Nat.le_of_ble_eq_true rfl⟩ rfl rfl (Nat.le_of_ble_eq_true rfl) dX11_goOn_104 (fun q25 s26 => ?_)
      refine J_istore_n hX dX11_goOn_107 (Nat.le_of_ble_eq_true rfl) (lv' := [(0, .ref (jad G (nm 0))), (1, .int q21), (2, .int q25)]) rfl ?_
      refine hB80 _ _ _ _ _ ?_
      exact J_keep [0] rfl (hJ108 s26)
  · refine J_aload_n hX dX11_goOn_10 rfl ?_
    refine J_getr hX hE 0 11 rfl rfl fl_X11_35 dX11_goOn_11 ?_
    refine J_iconst hX dX11_goOn_14 k_i3 ?_
    refine J_iload_n hX dX11_goOn_15 rfl ?_
    refine J_imul hX dX11_goOn_16 ?_
    refine J_iald hX hE 6 rfl dX11_goOn_17 (fun _ => ?_)
    refine J_aload_n hX dX11_goOn_18 rfl ?_
    refine J_geti hX hE 0 14 rfl rfl fl_X11_227 dX11_goOn_19 ?_
    refine J_icmp_ne hX dX11_goOn_22 (tgt := 70) rfl (fun _ => ?_) (fun _ => ?_)
    · refine J_iinc hX dX11_goOn_70 rfl (congrArg (_ + ·) k_i1) (Nat.le_of_ble_eq_true rfl) (lv' := [(0, .ref (jad G (nm 0))), (1, .int (v1_2 + 1))]) rfl ?_
      refine J_goto hX dX11_goOn_73 (tgt := 2) rfl ?_
      exact J_keep [0, 1] rfl (hN2 (v1_2 + 1, σ_2))
    · refine J_aload_n hX dX11_goOn_25 rfl ?_
      refine J_getr hX hE 0 11 rfl rfl fl_X11_35 dX11_goOn_26 ?_
      refine J_iconst hX dX11_goOn_29 k_i3 ?_
      refine J_iload_n hX dX11_goOn_30 rfl ?_
      refine J_imul hX dX11_goOn_31 ?_
      refine J_iconst hX dX11_goOn_32 k_i1 ?_
      refine J_iadd hX dX11_goOn_33 ?_
      refine J_iald hX hE 6 rfl dX11_goOn_34 (fun _ => ?_)
      refine J_bdI (fun x27 => ?_)
      refine J_istore_n hX dX11_goOn_35 (Nat.le_of_ble_eq_true rfl) (lv' := [(0, .ref (jad G (nm 0))), (1, .int v1_2), (2, .int x27)]) rfl ?_
      refine J_aload_n hX dX11_goOn_36 rfl ?_
      refine J_aload_n hX dX11_goOn_37 rfl ?_
      refine J_getr hX hE 0 9 rfl rfl fl_X11_32 dX11_goOn_38 ?_
      refine J_iconst hX dX11_goOn_41 k_i4 ?_
      refine J_iload_n hX dX11_goOn_42 rfl ?_
      refine J_imul hX dX11_goOn_43 ?_
      refine J_iald hX hE 5 rfl dX11_goOn_44 (fun _ => ?_)
      refine J_aload_n hX dX11_goOn_45 rfl ?_
      refine J_getr hX hE 0 11 rfl rfl fl_X11_35 dX11_goOn_46 ?_
      refine J_iconst hX dX11_goOn_49 k_i3 ?_
      refine J_iload_n hX dX11_goOn_50 rfl ?_
      refine J_imul hX dX11_goOn_51 ?_
      refine J_iconst hX dX11_goOn_52 k_i2 ?_
      refine J_iadd hX dX11_goOn_53 ?_
      refine J_iald hX hE 6 rfl dX11_goOn_54 (fun _ => ?_)
      refine J_aload_n hX dX11_goOn_55 rfl ?_
      refine J_getr hX hE 0 9 rfl rfl fl_X11_32 dX11_goOn_56 ?_
      refine J_iconst hX dX11_goOn_59 k_i4 ?_
      refine J_iload_n hX dX11_goOn_60 rfl ?_
      refine J_imul hX dX11_goOn_61 ?_
      refine J_iconst hX dX11_goOn_62 k_i1 ?_
      refine J_iadd hX dX11_goOn_63 ?_
      refine J_iald hX hE 5 rfl dX11_goOn_64 (fun _ => ?_)
      refine J_iload_n hX dX11_goOn_65 rfl ?_
      refine J_cVI hX hE 0 (C_X11_sound hG hE (g_i σ_2 (nm 5) (4 * x27).toNatClampNeg) (g_i σ_2 (nm 6) ((3 * v1_2) + 2).toNatClampNeg) (g_i σ_2 (nm 5) ((4 * x27) + 1).toNatClampNeg) x27 σ_2) mw_X11_sound ml_X11_271 rfl rfl rfl ⟨Nat.le_of_ble_eq_true rfl, Nat.le_of_ble_eq_true rfl⟩ rfl rfl (Nat.le_of_ble_eq_true rfl) dX11_goOn_66 (fun q28 s29 => ?_)
      refine J_istore_n hX dX11_goOn_69 (Nat.le_of_ble_eq_true rfl) (lv' := [(0, .ref (jad G (nm 0))), (1, .int v1_2), (2, .int x27), (3, .int q28)]) rfl ?_
      refine J_iinc hX dX11_goOn_70 rfl (congrArg (_ + ·) k_i1) (Nat.le_of_ble_eq_true rfl) (lv' := [(0, .ref (jad G (nm 0))), (1, .int (v1_2 + 1)), (2, .int x27), (3, .int q28)]) rfl ?_
      refine J_goto hX dX11_goOn_73 (tgt := 2) rfl ?_
      exact J_keep [0, 1] rfl (hN2 (v1_2 + 1, s29))
theorem mw_X11_goOn : jMV Y_X11_goOn 0 := ⟨⟨tw_tb (List.mem_of_getElem? (i := 1356) (by decide +kernel)) (by decide +kernel), tw_pv (List.mem_of_getElem? (i := 51) (by decide +kernel)) (by decide +kernel), tw_tb (List.mem_of_getElem? (i := 13) (by decide +kernel)) (by decide +kernel), tw_tb (List.mem_of_getElem? (i := 1357) (by decide +kernel)) (by decide +kernel)⟩, ⟨rfl, rfl⟩, by decide +kernel, by decide +kernel, by decide +kernel⟩
