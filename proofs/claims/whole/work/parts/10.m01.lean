-- X9_fewestSounds
noncomputable def f_X9_fewestSounds_L26 (nm : Nat → Nat) (v2 : Int32) (v3 : Int32) (s : (Int32 × jS)) : Option ((Int32 × jS) ⊕ jS) :=
  match s with
  | (v4, σ) =>
    (f_X4_size (jn nm [3, 4]) 1024 σ).bind (fun q3 =>
      if q3 ≤ v4 then
        some (.inr σ)
      else
        (f_X4_at (jn nm [3, 4]) 1024 v4 σ).bind (fun q4 =>
          if (q4 &&& (v2 ^^^ (-1))) = 0 then
            if (q4 &&& v3) = 0 then
              some (.inl (v4 + 1, σ))
            else
              (f_X4_putIfLargest (jn nm [6, 7]) 256 (q4 &&& v3) σ).bind (fun s5 =>
                some (.inl (v4 + 1, s5)))
          else
            some (.inl (v4 + 1, σ))))
noncomputable def f_X9_fewestSounds (nm : Nat → Nat) (v1 : Int32) (v2 : Int32) (σ : jS) : Option (Int32 × jS) :=
  if (v1 &&& (v2 ^^^ (-1))) = 0 then
    bd (v2 &&& (v1 ^^^ (-1))) (fun x1 =>
      (f_X4_empty (jn nm [6, 7]) 256 σ).bind (fun s2 =>
        (lp (f_X9_fewestSounds_L26 nm v2 x1) fu (0, s2)).bind (fun s6 =>
          (f_X9_fewestThatHold nm x1 s6).bind (fun x => match x with
          | (q7, s8) =>
            some (q7, s8)))))
  else
    some ((-1), σ)
abbrev Y_X9_fewestSounds : jY := (yX9_fewestSounds, cX9_fewestSounds, 6, some .int, { frames := 3, cells := 0, slots := 0, locals := 68 })
theorem C_X9_fewestSounds {l : Launch} {G : jG} {nm : Nat → Nat} (hG : jWL G) (hE : jE G nm LS_X9) (v1 : Int32) (v2 : Int32) (σ : jS) : jC r_I l G Y_X9_fewestSounds [.ref (jad G (nm 0)), .int v1, .int v2] σ (f_X9_fewestSounds nm v1 v2 σ) := by
  refine jw_met hG pn_X9 (Nat.le_of_ble_eq_true rfl) ⟨rfl, rfl⟩ ?_
  intro X hX hM
  have hX : jB X l G cX9_fewestSounds RX9 6 { frames := 3, cells := 0, slots := 0, locals := 68 } := hX
  have hM : jM X (some .int) := hM
  show J X 0 [(0, .ref (jad G (nm 0))), (1, .int v1), (2, .int v2)] [] σ (f_X9_fewestSounds nm v1 v2 σ) (jk r_I X)
  unfold f_X9_fewestSounds
  refine J_iload_n hX dX9_fewestSounds_0 rfl ?_
  refine J_iload_n hX dX9_fewestSounds_1 rfl ?_
  refine J_iconst hX dX9_fewestSounds_2 k_im1 ?_
  refine J_ixor hX dX9_fewestSounds_3 ?_
  refine J_iand hX dX9_fewestSounds_4 ?_
  refine J_if_eq hX dX9_fewestSounds_5 (tgt := 10) rfl (fun _ => ?_) (fun _ => ?_)
  · refine J_iload_n hX dX9_fewestSounds_10 rfl ?_
    refine J_iload_n hX dX9_fewestSounds_11 rfl ?_
    refine J_iconst hX dX9_fewestSounds_12 k_im1 ?_
    refine J_ixor hX dX9_fewestSounds_13 ?_
    refine J_iand hX dX9_fewestSounds_14 ?_
    refine J_bdI (fun x9 => ?_)
    refine J_istore_n hX dX9_fewestSounds_15 (Nat.le_of_ble_eq_true rfl) (lv' := [(0, .ref (jad G (nm 0))), (1, .int v1), (2, .int v2), (3, .int x9)]) rfl ?_
    refine J_aload_n hX dX9_fewestSounds_16 rfl ?_
    refine J_getr hX hE 0 3 rfl rfl fl_X9_24 dX9_fewestSounds_17 ?_
    refine J_cVV hX hE 6 (C_X4_empty hG (hE.sb [6, 7] sb_18) σ) mw_X4_empty ml_X9_37 rfl rfl rfl ⟨Nat.le_of_ble_eq_true rfl, Nat.le_of_ble_eq_true rfl⟩ rfl rfl (Nat.le_of_ble_eq_true rfl) dX9_fewestSounds_20 (fun s10 => ?_)
    refine J_iconst hX dX9_fewestSounds_23 k_i0 ?_
    refine J_istore hX dX9_fewestSounds_24 (Nat.le_of_ble_eq_true rfl) (lv' := [(0, .ref (jad G (nm 0))), (1, .int v1), (2, .int v2), (3, .int x9), (4, .int 0)]) rfl ?_
    refine J_keep [0, 2, 3, 4] (lv' := [(0, .ref (jad G (nm 0))), (2, .int v2), (3, .int x9), (4, .int 0)]) rfl ?_
    refine J_lp (pc := 26) (s0 := (0, s10)) (fun (s : (Int32 × jS)) => [(0, .ref (jad G (nm 0))), (2, .int v2), (3, .int x9), (4, .int (s.1))]) (fun (s : (Int32 × jS)) => s.2) ?_
    intro KK26 hN26 hQ26 z26
    obtain ⟨v4_26, σ_26⟩ := z26
    show J X 26 [(0, .ref (jad G (nm 0))), (2, .int v2), (3, .int x9), (4, .int v4_26)] [] σ_26 (f_X9_fewestSounds_L26 nm v2 x9 (v4_26, σ_26)) KK26
    unfold f_X9_fewestSounds_L26
    refine J_iload hX dX9_fewestSounds_26 rfl ?_
    refine J_aload_n hX dX9_fewestSounds_28 rfl ?_
    refine J_getr hX hE 0 1 rfl rfl fl_X9_14 dX9_fewestSounds_29 ?_
    refine J_cVP hX hE 3 (C_X4_size hG (hE.sb [3, 4] sb_15) σ_26) mw_X4_size ml_X9_55 rfl rfl rfl ⟨Nat.le_of_ble_eq_true rfl, Nat.le_of_ble_eq_true rfl⟩ rfl rfl (Nat.le_of_ble_eq_true rfl) dX9_fewestSounds_32 (fun q11 => ?_)
    refine J_icmp_ge hX dX9_fewestSounds_35 (tgt := 82) rfl (fun _ => ?_) (fun _ => ?_)
    · refine hQ26 _ _ _ _ _ ?_
      refine J_aload_n hX dX9_fewestSounds_82 rfl ?_
      refine J_iload_n hX dX9_fewestSounds_83 rfl ?_
      refine J_cVI hX hE 0 (C_X9_fewestThatHold hG hE x9 σ_26) mw_X9_fewestThatHold ml_X9_65 rfl rfl rfl ⟨Nat.le_of_ble_eq_true rfl, Nat.le_of_ble_eq_true rfl⟩ rfl rfl (Nat.le_of_ble_eq_true rfl) dX9_fewestSounds_84 (fun q12 s13 => ?_)
      exact J_iret hX hM dX9_fewestSounds_87
    · refine J_aload_n hX dX9_fewestSounds_38 rfl ?_
      refine J_getr hX hE 0 1 rfl rfl fl_X9_14 dX9_fewestSounds_39 ?_
      refine J_iload hX dX9_fewestSounds_42 rfl ?_
      refine J_cVP hX hE 3 (C_X4_at hG (hE.sb [3, 4] sb_15) v4_26 σ_26) mw_X4_at ml_X9_59 rfl rfl rfl ⟨Nat.le_of_ble_eq_true rfl, Nat.le_of_ble_eq_true rfl⟩ rfl rfl (Nat.le_of_ble_eq_true rfl) dX9_fewestSounds_44 (fun q14 => ?_)
      refine J_istore hX dX9_fewestSounds_47 (Nat.le_of_ble_eq_true rfl) (lv' := [(0, .ref (jad G (nm 0))), (2, .int v2), (3, .int x9), (4, .int v4_26), (5, .int q14)]) rfl ?_
      refine J_iload hX dX9_fewestSounds_49 rfl ?_
      refine J_iload_n hX dX9_fewestSounds_51 rfl ?_
      refine J_iconst hX dX9_fewestSounds_52 k_im1 ?_
      refine J_ixor hX dX9_fewestSounds_53 ?_
      refine J_iand hX dX9_fewestSounds_54 ?_
      refine J_if_ne hX dX9_fewestSounds_55 (tgt := 76) rfl (fun _ => ?_) (fun _ => ?_)
      · refine J_iinc hX dX9_fewestSounds_76 rfl (congrArg (_ + ·) k_i1) (Nat.le_of_ble_eq_true rfl) (lv' := [(0, .ref (jad G (nm 0))), (2, .int v2), (3, .int x9), (4, .int (v4_26 + 1)), (5, .int q14)]) rfl ?_
        refine J_goto hX dX9_fewestSounds_79 (tgt := 26) rfl ?_
        exact J_keep [0, 1, 2, 3] rfl (hN26 (v4_26 + 1, σ_26))
      · refine J_iload hX dX9_fewestSounds_58 rfl ?_
        refine J_iload_n hX dX9_fewestSounds_60 rfl ?_
        refine J_iand hX dX9_fewestSounds_61 ?_
        refine J_if_eq hX dX9_fewestSounds_62 (tgt := 76) rfl (fun _ => ?_) (fun _ => ?_)
        · refine J_iinc hX dX9_fewestSounds_76 rfl (congrArg (_ + ·) k_i1) (Nat.le_of_ble_eq_true rfl) (lv' := [(0, .ref (jad G (nm 0))), (2, .int v2), (3, .int x9), (4, .int (v4_26 + 1)), (5, .int q14)]) rfl ?_
          refine J_goto hX dX9_fewestSounds_79 (tgt := 26) rfl ?_
          exact J_keep [0, 1, 2, 3] rfl (hN26 (v4_26 + 1, σ_26))
        · refine J_aload_n hX dX9_fewestSounds_65 rfl ?_
          refine J_getr hX hE 0 3 rfl rfl fl_X9_24 dX9_fewestSounds_66 ?_
          refine J_iload hX dX9_fewestSounds_69 rfl ?_
          refine J_iload_n hX dX9_fewestSounds_71 rfl ?_
          refine J_iand hX dX9_fewestSounds_72 ?_
          refine J_cVV hX hE 6 (C_X4_putIfLargest hG (hE.sb [6, 7] sb_18) (q14 &&& x9) σ_26) mw_X4_putIfLargest ml_X9_62 rfl rfl rfl ⟨Nat.le_of_ble_eq_true rfl, Nat.le_of_ble_eq_true rfl⟩ rfl rfl (Nat.le_of_ble_eq_true rfl) dX9_fewestSounds_73 (fun s15 => ?_)
          refine J_iinc hX dX9_fewestSounds_76 rfl (congrArg (_ + ·) k_i1) (Nat.le_of_ble_eq_true rfl) (lv' := [(0, .ref (jad G (nm 0))), (2, .int v2), (3, .int x9), (4, .int (v4_26 + 1)), (5, .int q14)]) rfl ?_
          refine J_goto hX dX9_fewestSounds_79 (tgt := 26) rfl ?_
          exact J_keep [0, 1, 2, 3] rfl (hN26 (v4_26 + 1, s15))
  · refine J_iconst hX dX9_fewestSounds_8 k_im1 ?_
    exact J_iret hX hM dX9_fewestSounds_9
theorem mw_X9_fewestSounds : jMV Y_X9_fewestSounds 2 := ⟨⟨tw_tb (List.mem_of_getElem? (i := 863) (by decide +kernel)) (by decide +kernel), tw_tb (List.mem_of_getElem? (i := 864) (by decide +kernel)) (by decide +kernel), tw_tb (List.mem_of_getElem? (i := 10) (by decide +kernel)) (by decide +kernel), tw_tb (List.mem_of_getElem? (i := 865) (by decide +kernel)) (by decide +kernel)⟩, ⟨rfl, rfl⟩, by decide +kernel, by decide +kernel, by decide +kernel⟩
-- X10_isTooNear
noncomputable def f_X10_isTooNear (nm : Nat → Nat) (v1 : Int32) (v2 : Int32) (v3 : Int32) (σ : jS) : Option (Int32 × jS) :=
  (f_X4_at (jn nm [77, 78]) 8 v1 σ).bind (fun q1 =>
    (f_X4_at (jn nm [77, 78]) 8 v2 σ).bind (fun q2 =>
      (f_X9_fewestSounds (jn nm [83, 81, 82, 84, 85, 86, 87, 88, 89, 90]) q1 q2 σ).bind (fun x => match x with
      | (q3, s4) =>
        if q3 = (-1) then
          some (0, s4)
        else
          if v3 ≤ q3 then
            some (0, s4)
          else
            some (1, s4))))
abbrev Y_X10_isTooNear : jY := (yX10_isTooNear, cX10_isTooNear, 5, some .boolean, { frames := 4, cells := 0, slots := 0, locals := 93 })
theorem C_X10_isTooNear {l : Launch} {G : jG} {nm : Nat → Nat} (hG : jWL G) (hE : jE G nm LS_X10) (v1 : Int32) (v2 : Int32) (v3 : Int32) (σ : jS) : jC r_I l G Y_X10_isTooNear [.ref (jad G (nm 0)), .int v1, .int v2, .int v3] σ (f_X10_isTooNear nm v1 v2 v3 σ) := by
  refine jw_met hG pn_X10 (Nat.le_of_ble_eq_true rfl) ⟨rfl, rfl⟩ ?_
  intro X hX hM
  have hX : jB X l G cX10_isTooNear RX10 5 { frames := 4, cells := 0, slots := 0, locals := 93 } := hX
  have hM : jM X (some .boolean) := hM
  show J X 0 [(0, .ref (jad G (nm 0))), (1, .int v1), (2, .int v2), (3, .int v3)] [] σ (f_X10_isTooNear nm v1 v2 v3 σ) (jk r_I X)
  unfold f_X10_isTooNear
  refine J_aload_n hX dX10_isTooNear_0 rfl ?_
  refine J_getr hX hE 0 12 rfl rfl fl_X10_80 dX10_isTooNear_1 ?_
  refine J_aload_n hX dX10_isTooNear_4 rfl ?_
  refine J_getr hX hE 0 9 rfl rfl fl_X10_62 dX10_isTooNear_5 ?_
  refine J_iload_n hX dX10_isTooNear_8 rfl ?_
  refine J_cVP hX hE 77 (C_X4_at hG (hE.sb [77, 78] sb_19) v1 σ) mw_X4_at ml_X10_174 rfl rfl rfl ⟨Nat.le_of_ble_eq_true rfl, Nat.le_of_ble_eq_true rfl⟩ rfl rfl (Nat.le_of_ble_eq_true rfl) dX10_isTooNear_9 (fun q5 => ?_)
  refine J_aload_n hX dX10_isTooNear_12 rfl ?_
  refine J_getr hX hE 0 9 rfl rfl fl_X10_62 dX10_isTooNear_13 ?_
  refine J_iload_n hX dX10_isTooNear_16 rfl ?_
  refine J_cVP hX hE 77 (C_X4_at hG (hE.sb [77, 78] sb_19) v2 σ) mw_X4_at ml_X10_174 rfl rfl rfl ⟨Nat.le_of_ble_eq_true rfl, Nat.le_of_ble_eq_true rfl⟩ rfl rfl (Nat.le_of_ble_eq_true rfl) dX10_isTooNear_17 (fun q6 => ?_)
  refine J_cVI hX hE 83 (C_X9_fewestSounds hG (hE.sb [83, 81, 82, 84, 85, 86, 87, 88, 89, 90] sb_20) q5 q6 σ) mw_X9_fewestSounds ml_X10_270 rfl rfl rfl ⟨Nat.le_of_ble_eq_true rfl, Nat.le_of_ble_eq_true rfl⟩ rfl rfl (Nat.le_of_ble_eq_true rfl) dX10_isTooNear_20 (fun q7 s8 => ?_)
  refine J_istore hX dX10_isTooNear_23 (Nat.le_of_ble_eq_true rfl) (lv' := [(0, .ref (jad G (nm 0))), (1, .int v1), (2, .int v2), (3, .int v3), (4, .int q7)]) rfl ?_
  refine J_iload hX dX10_isTooNear_25 rfl ?_
  refine J_iconst hX dX10_isTooNear_27 k_im1 ?_
  refine J_icmp_eq hX dX10_isTooNear_28 (tgt := 41) rfl (fun _ => ?_) (fun _ => ?_)
  · refine J_iconst hX dX10_isTooNear_41 k_i0 ?_
    exact J_zret hX hM jn_0 dX10_isTooNear_42
  · refine J_iload hX dX10_isTooNear_31 rfl ?_
    refine J_iload_n hX dX10_isTooNear_33 rfl ?_
    refine J_icmp_ge hX dX10_isTooNear_34 (tgt := 41) rfl (fun _ => ?_) (fun _ => ?_)
    · refine J_iconst hX dX10_isTooNear_41 k_i0 ?_
      exact J_zret hX hM jn_0 dX10_isTooNear_42
    · refine J_iconst hX dX10_isTooNear_37 k_i1 ?_
      refine J_goto hX dX10_isTooNear_38 (tgt := 42) rfl ?_
      exact J_zret hX hM jn_1 dX10_isTooNear_42
theorem mw_X10_isTooNear : jMV Y_X10_isTooNear 3 := ⟨⟨tw_tb (List.mem_of_getElem? (i := 889) (by decide +kernel)) (by decide +kernel), tw_pv (List.mem_of_getElem? (i := 22) (by decide +kernel)) (by decide +kernel), tw_tb (List.mem_of_getElem? (i := 1) (by decide +kernel)) (by decide +kernel), tw_tb (List.mem_of_getElem? (i := 890) (by decide +kernel)) (by decide +kernel)⟩, ⟨rfl, rfl⟩, by decide +kernel, by decide +kernel, by decide +kernel⟩
-- X10_apart
noncomputable def f_X10_apart_L63 (nm : Nat → Nat) (v4 : Int32) (v5 : Int32) (v7 : Int32) (s : (Int32 × Int32 × jS)) : Option ((Int32 × Int32 × jS) ⊕ ((Int32 × jS) ⊕ (Int32 × jS))) :=
  match s with
  | (v6, v8, σ) =>
    (f_X4_size (jn nm [77, 78]) 8 σ).bind (fun q6 =>
      if q6 ≤ v8 then
        some (.inr (.inl (v6, σ)))
      else
        if v7 = v8 then
          some (.inl (v6, v8 + 1, σ))
        else
          (f_X10_isTooNear nm v7 v8 v4 σ).bind (fun x => match x with
          | (q7, s8) =>
            if q7 = 0 then
              some (.inl (v6, v8 + 1, s8))
            else
              if v6 = v5 then
                some (.inr (.inr ((100 * v7) + v8, s8)))
              else
                some (.inl (v6 + 1, v8 + 1, s8))))
noncomputable def f_X10_apart_L48 (nm : Nat → Nat) (v4 : Int32) (v5 : Int32) (s : (Int32 × Int32 × jS)) : Option ((Int32 × Int32 × jS) ⊕ ((Int32 × jS) ⊕ (Int32 × jS))) :=
  match s with
  | (v6, v7, σ) =>
    (f_X4_size (jn nm [77, 78]) 8 σ).bind (fun q5 =>
      if q5 ≤ v7 then
        some (.inr (.inl (v6, σ)))
      else
        (lp (f_X10_apart_L63 nm v4 v5 v7) fu (v6, 0, σ)).bind (fun x => match x with
        | .inl (e9, s10) =>
          some (.inl (e9, v7 + 1, s10))
        | .inr a => some (.inr (.inr a))))
noncomputable def f_X10_apart (nm : Nat → Nat) (v1 : Int64) (v3 : Int32) (v4 : Int32) (v5 : Int32) (σ : jS) : Option (Int32 × jS) :=
  (f_X10_isLoud v3).bind (fun q1 =>
    if q1 = 0 then
      some ((-1002), σ)
    else
      (f_X10_isWithin v4 1 9).bind (fun q2 =>
        if q2 = 0 then
          some ((-1002), σ)
        else
          (f_X1_listen (jn nm [81, 82, 57, 31, 32, 33, 34, 35, 36, 37, 38, 39, 40, 41, 42, 43, 44, 45, 46, 47, 58, 59, 60, 61]) v3 σ).bind (fun s3 =>
            (f_X9_gather (jn nm [83, 81, 82, 84, 85, 86, 87, 88, 89, 90]) v1 s3).bind (fun s4 =>
              (lp (f_X10_apart_L48 nm v4 v5) fu (0, 0, s4)).bind (fun x => match x with
              | .inl (e11, s12) =>
                if v5 = (-1) then
                  some (e11, s12)
                else
                  some ((-1), s12)
              | .inr a => some a)))))
abbrev Y_X10_apart : jY := (yX10_apart, cX10_apart, 9, some .int, { frames := 5, cells := 0, slots := 0, locals := 117 })
theorem C_X10_apart {l : Launch} {G : jG} {nm : Nat → Nat} (hG : jWL G) (hE : jE G nm LS_X10) (v1 : Int64) (v3 : Int32) (v4 : Int32) (v5 : Int32) (σ : jS) : jC r_I l G Y_X10_apart [.ref (jad G (nm 0)), .long v1, .int v3, .int v4, .int v5] σ (f_X10_apart nm v1 v3 v4 v5 σ) := by
  refine jw_met hG pn_X10 (Nat.le_of_ble_eq_true rfl) ⟨rfl, rfl⟩ ?_
  intro X hX hM
  have hX : jB X l G cX10_apart RX10 9 { frames := 5, cells := 0, slots := 0, locals := 117 } := hX
  have hM : jM X (some .int) := hM
  show J X 0 [(0, .ref (jad G (nm 0))), (1, .long v1), (3, .int v3), (4, .int v4), (5, .int v5)] [] σ (f_X10_apart nm v1 v3 v4 v5 σ) (jk r_I X)
  unfold f_X10_apart
  refine J_iload_n hX dX10_apart_0 rfl ?_
  refine J_cSP hX (C_X10_isLoud hG v3 σ) mw_X10_isLoud ml_X10_219 ⟨Nat.le_of_ble_eq_true rfl, Nat.le_of_ble_eq_true rfl⟩ rfl rfl (Nat.le_of_ble_eq_true rfl) dX10_apart_1 (fun q13 => ?_)
  refine J_if_eq hX dX10_apart_4 (tgt := 18) rfl (fun _ => ?_) (fun _ => ?_)
  · refine J_sipush hX dX10_apart_18 ks_m1002 ?_
    exact J_iret hX hM dX10_apart_21
  · refine J_iload hX dX10_apart_7 rfl ?_
    refine J_iconst hX dX10_apart_9 k_i1 ?_
    refine J_bipush hX dX10_apart_10 kb_9 ?_
    refine J_cSP hX (C_X10_isWithin hG v4 1 9 σ) mw_X10_isWithin ml_X10_211 ⟨Nat.le_of_ble_eq_true rfl, Nat.le_of_ble_eq_true rfl⟩ rfl rfl (Nat.le_of_ble_eq_true rfl) dX10_apart_12 (fun q14 => ?_)
    refine J_if_ne hX dX10_apart_15 (tgt := 22) rfl (fun _ => ?_) (fun _ => ?_)
    · refine J_aload_n hX dX10_apart_22 rfl ?_
      refine J_getr hX hE 0 11 rfl rfl fl_X10_71 dX10_apart_23 ?_
      refine J_aload_n hX dX10_apart_26 rfl ?_
      refine J_getr hX hE 0 5 rfl rfl fl_X10_49 dX10_apart_27 ?_
      refine J_iload_n hX dX10_apart_30 rfl ?_
      refine J_cVV hX hE 81 (C_X1_listen hG (hE.sb [81, 82, 57, 31, 32, 33, 34, 35, 36, 37, 38, 39, 40, 41, 42, 43, 44, 45, 46, 47, 58, 59, 60, 61] sb_21) v3 σ) mw_X1_listen ml_X10_262 rfl rfl rfl ⟨Nat.le_of_ble_eq_true rfl, Nat.le_of_ble_eq_true rfl⟩ rfl rfl (Nat.le_of_ble_eq_true rfl) dX10_apart_31 (fun s15 => ?_)
      refine J_aload_n hX dX10_apart_34 rfl ?_
      refine J_getr hX hE 0 12 rfl rfl fl_X10_80 dX10_apart_35 ?_
      refine J_lload_n hX dX10_apart_38 rfl ?_
      refine J_cVV hX hE 83 (C_X9_gather hG (hE.sb [83, 81, 82, 84, 85, 86, 87, 88, 89, 90] sb_20) v1 s15) mw_X9_gather ml_X10_266 rfl rfl rfl ⟨Nat.le_of_ble_eq_true rfl, Nat.le_of_ble_eq_true rfl⟩ rfl rfl (Nat.le_of_ble_eq_true rfl) dX10_apart_39 (fun s16 => ?_)
      refine J_iconst hX dX10_apart_42 k_i0 ?_
      refine J_istore hX dX10_apart_43 (Nat.le_of_ble_eq_true rfl) (lv' := [(0, .ref (jad G (nm 0))), (1, .long v1), (3, .int v3), (4, .int v4), (5, .int v5), (6, .int 0)]) rfl ?_
      refine J_iconst hX dX10_apart_45 k_i0 ?_
      refine J_istore hX dX10_apart_46 (Nat.le_of_ble_eq_true rfl) (lv' := [(0, .ref (jad G (nm 0))), (1, .long v1), (3, .int v3), (4, .int v4), (5, .int v5), (6, .int 0), (7, .int 0)]) rfl ?_
      refine J_keep [0, 3, 4, 5, 6] (lv' := [(0, .ref (jad G (nm 0))), (4, .int v4), (5, .int v5), (6, .int 0), (7, .int 0)]) rfl ?_
      refine J_lp (pc := 48) (s0 := (0, 0, s16)) (fun (s : (Int32 × Int32 × jS)) => [(0, .ref (jad G (nm 0))), (4, .int v4), (5, .int v5), (6, .int (s.1)), (7, .int (s.2.1))]) (fun (s : (Int32 × Int32 × jS)) => s.2.2) ?_
      intro KK48 hN48 hQ48 z48
      obtain ⟨v6_48, v7_48, σ_48⟩ := z48
      show J X 48 [(0, .ref (jad G (nm 0))), (4, .int v4), (5, .int v5), (6, .int v6_48), (7, .int v7_48)] [] σ_48 (f_X10_apart_L48 nm v4 v5 (v6_48, v7_48, σ_48)) KK48
      unfold f_X10_apart_L48
      refine J_iload hX dX10_apart_48 rfl ?_
      refine J_aload_n hX dX10_apart_50 rfl ?_
      refine J_getr hX hE 0 9 rfl rfl fl_X10_62 dX10_apart_51 ?_
      refine J_cVP hX hE 77 (C_X4_size hG (hE.sb [77, 78] sb_19) σ_48) mw_X4_size ml_X10_106 rfl rfl rfl ⟨Nat.le_of_ble_eq_true rfl, Nat.le_of_ble_eq_true rfl⟩ rfl rfl (Nat.le_of_ble_eq_true rfl) dX10_apart_54 (fun q17 => ?_)
      refine J_icmp_ge hX dX10_apart_57 (tgt := 129) rfl (fun _ => ?_) (fun _ => ?_)
      · refine hQ48 _ _ _ _ _ ?_
        refine J_iload hX dX10_apart_129 rfl ?_
        refine J_iconst hX dX10_apart_131 k_im1 ?_
        refine J_icmp_ne hX dX10_apart_132 (tgt := 140) rfl (fun _ => ?_) (fun _ => ?_)
        · refine J_iconst hX dX10_apart_140 k_im1 ?_
          exact J_iret hX hM dX10_apart_141
        · refine J_iload hX dX10_apart_135 rfl ?_
          refine J_goto hX dX10_apart_137 (tgt := 141) rfl ?_
          exact J_iret hX hM dX10_apart_141
      · refine J_iconst hX dX10_apart_60 k_i0 ?_
        refine J_istore hX dX10_apart_61 (Nat.le_of_ble_eq_true rfl) (lv' := [(0, .ref (jad G (nm 0))), (4, .int v4), (5, .int v5), (6, .int v6_48), (7, .int v7_48), (8, .int 0)]) rfl ?_
        refine J_keep [0, 1, 2, 3, 4, 5] (lv' := [(0, .ref (jad G (nm 0))), (4, .int v4), (5, .int v5), (6, .int v6_48), (7, .int v7_48), (8, .int 0)]) rfl ?_
        refine J_lp (pc := 63) (s0 := (v6_48, 0, σ_48)) (fun (s : (Int32 × Int32 × jS)) => [(0, .ref (jad G (nm 0))), (4, .int v4), (5, .int v5), (6, .int (s.1)), (7, .int v7_48), (8, .int (s.2.1))]) (fun (s : (Int32 × Int32 × jS)) => s.2.2) ?_
        intro KK63 hN63 hQ63 z63
        obtain ⟨v6_63, v8_63, σ_63⟩ := z63
        show J X 63 [(0, .ref (jad G (nm 0))), (4, .int v4), (5, .int v5), (6, .int v6_63), (7, .int v7_48), (8, .int v8_63)] [] σ_63 (f_X10_apart_L63 nm v4 v5 v7_48 (v6_63, v8_63, σ_63)) KK63
        unfold f_X10_apart_L63
        refine J_iload hX dX10_apart_63 rfl ?_
        refine J_aload_n hX dX10_apart_65 rfl ?_
        refine J_getr hX hE 0 9 rfl rfl fl_X10_62 dX10_apart_66 ?_
        refine J_cVP hX hE 77 (C_X4_size hG (hE.sb [77, 78] sb_19) σ_63) mw_X4_size ml_X10_106 rfl rfl rfl ⟨Nat.le_of_ble_eq_true rfl, Nat.le_of_ble_eq_true rfl⟩ rfl rfl (Nat.le_of_ble_eq_true rfl) dX10_apart_69 (fun q18 => ?_)
        refine J_icmp_ge hX dX10_apart_72 (tgt := 123) rfl (fun _ => ?_) (fun _ => ?_)
        · refine hQ63 _ _ _ _ _ ?_
          refine J_iinc hX dX10_apart_123 rfl (congrArg (_ + ·) k_i1) (Nat.le_of_ble_eq_true rfl) (lv' := [(0, .ref (jad G (nm 0))), (4, .int v4), (5, .int v5), (6, .int v6_63), (7, .int (v7_48 + 1)), (8, .int v8_63)]) rfl ?_
          refine J_goto hX dX10_apart_126 (tgt := 48) rfl ?_
          exact J_keep [0, 1, 2, 3, 4] rfl (hN48 (v6_63, v7_48 + 1, σ_63))
        · refine J_iload hX dX10_apart_75 rfl ?_
          refine J_iload hX dX10_apart_77 rfl ?_
          refine J_icmp_eq hX dX10_apart_79 (tgt := 117) rfl (fun _ => ?_) (fun _ => ?_)
          · refine J_iinc hX dX10_apart_117 rfl (congrArg (_ + ·) k_i1) (Nat.le_of_ble_eq_true rfl) (lv' := [(0, .ref (jad G (nm 0))), (4, .int v4), (5, .int v5), (6, .int v6_63), (7, .int v7_48), (8, .int (v8_63 + 1))]) rfl ?_
            refine J_goto hX dX10_apart_120 (tgt := 63) rfl ?_
            exact J_keep [0, 1, 2, 3, 4, 5] rfl (hN63 (v6_63, v8_63 + 1, σ_63))
          · refine J_aload_n hX dX10_apart_82 rfl ?_
            refine J_iload hX dX10_apart_83 rfl ?_
            refine J_iload hX dX10_apart_85 rfl ?_
            refine J_iload hX dX10_apart_87 rfl ?_
            refine J_cVI hX hE 0 (C_X10_isTooNear hG hE v7_48 v8_63 v4 σ_63) mw_X10_isTooNear ml_X10_274 rfl rfl rfl ⟨Nat.le_of_ble_eq_true rfl, Nat.le_of_ble_eq_true rfl⟩ rfl rfl (Nat.le_of_ble_eq_true rfl) dX10_apart_89 (fun q19 s20 => ?_)
            refine J_if_ne hX dX10_apart_92 (tgt := 98) rfl (fun _ => ?_) (fun _ => ?_)
            · refine J_iload hX dX10_apart_98 rfl ?_
              refine J_iload hX dX10_apart_100 rfl ?_
              refine J_icmp_ne hX dX10_apart_102 (tgt := 114) rfl (fun _ => ?_) (fun _ => ?_)
              · refine J_iinc hX dX10_apart_114 rfl (congrArg (_ + ·) k_i1) (Nat.le_of_ble_eq_true rfl) (lv' := [(0, .ref (jad G (nm 0))), (4, .int v4), (5, .int v5), (6, .int (v6_63 + 1)), (7, .int v7_48), (8, .int v8_63)]) rfl ?_
                refine J_iinc hX dX10_apart_117 rfl (congrArg (_ + ·) k_i1) (Nat.le_of_ble_eq_true rfl) (lv' := [(0, .ref (jad G (nm 0))), (4, .int v4), (5, .int v5), (6, .int (v6_63 + 1)), (7, .int v7_48), (8, .int (v8_63 + 1))]) rfl ?_
                refine J_goto hX dX10_apart_120 (tgt := 63) rfl ?_
                exact J_keep [0, 1, 2, 3, 4, 5] rfl (hN63 (v6_63 + 1, v8_63 + 1, s20))
              · refine J_bipush hX dX10_apart_105 kb_100 ?_
                refine J_iload hX dX10_apart_107 rfl ?_
                refine J_imul hX dX10_apart_109 ?_
                refine J_iload hX dX10_apart_110 rfl ?_
                refine J_iadd hX dX10_apart_112 ?_
                refine hQ63 _ _ _ _ _ ?_
                refine hQ48 _ _ _ _ _ ?_
                exact J_iret hX hM dX10_apart_113
            · refine J_goto hX dX10_apart_95 (tgt := 117) rfl ?_
              refine J_iinc hX dX10_apart_117 rfl (congrArg (_ + ·) k_i1) (Nat.le_of_ble_eq_true rfl) (lv' := [(0, .ref (jad G (nm 0))), (4, .int v4), (5, .int v5), (6, .int v6_63), (7, .int v7_48), (8, .int (v8_63 + 1))]) rfl ?_
              refine J_goto hX dX10_apart_120 (tgt := 63) rfl ?_
              exact J_keep [0, 1, 2, 3, 4, 5] rfl (hN63 (v6_63, v8_63 + 1, s20))
    · refine J_sipush hX dX10_apart_18 ks_m1002 ?_
      exact J_iret hX hM dX10_apart_21
theorem mw_X10_apart : jMV Y_X10_apart 4 := ⟨⟨tw_tb (List.mem_of_getElem? (i := 884) (by decide +kernel)) (by decide +kernel), tw_tb (List.mem_of_getElem? (i := 885) (by decide +kernel)) (by decide +kernel), tw_tb (List.mem_of_getElem? (i := 1) (by decide +kernel)) (by decide +kernel), tw_tb (List.mem_of_getElem? (i := 886) (by decide +kernel)) (by decide +kernel)⟩, ⟨rfl, rfl⟩, by decide +kernel, by decide +kernel, by decide +kernel⟩
-- X10_clear
noncomputable def f_X10_clear (nm : Nat → Nat) (σ : jS) : Option (Int32 × jS) :=
  (f_X4_size (jn nm [79, 80]) 40 σ).bind (fun q1 =>
    (f_X4_empty (jn nm [79, 80]) 40 σ).bind (fun s2 =>
      some (q1, s2)))
abbrev Y_X10_clear : jY := (yX10_clear, cX10_clear, 2, some .int, { frames := 1, cells := 0, slots := 0, locals := 20 })
theorem C_X10_clear {l : Launch} {G : jG} {nm : Nat → Nat} (hG : jWL G) (hE : jE G nm LS_X10) (σ : jS) : jC r_I l G Y_X10_clear [.ref (jad G (nm 0))] σ (f_X10_clear nm σ) := by
  refine jw_met hG pn_X10 (Nat.le_of_ble_eq_true rfl) ⟨rfl, rfl⟩ ?_
  intro X hX hM
  have hX : jB X l G cX10_clear RX10 2 { frames := 1, cells := 0, slots := 0, locals := 20 } := hX
  have hM : jM X (some .int) := hM
  show J X 0 [(0, .ref (jad G (nm 0)))] [] σ (f_X10_clear nm σ) (jk r_I X)
  unfold f_X10_clear
  refine J_aload_n hX dX10_clear_0 rfl ?_
  refine J_getr hX hE 0 10 rfl rfl fl_X10_65 dX10_clear_1 ?_
  refine J_cVP hX hE 79 (C_X4_size hG (hE.sb [79, 80] sb_22) σ) mw_X4_size ml_X10_106 rfl rfl rfl ⟨Nat.le_of_ble_eq_true rfl, Nat.le_of_ble_eq_true rfl⟩ rfl rfl (Nat.le_of_ble_eq_true rfl) dX10_clear_4 (fun q3 => ?_)
  refine J_istore_n hX dX10_clear_7 (Nat.le_of_ble_eq_true rfl) (lv' := [(0, .ref (jad G (nm 0))), (1, .int q3)]) rfl ?_
  refine J_aload_n hX dX10_clear_8 rfl ?_
  refine J_getr hX hE 0 10 rfl rfl fl_X10_65 dX10_clear_9 ?_
  refine J_cVV hX hE 79 (C_X4_empty hG (hE.sb [79, 80] sb_22) σ) mw_X4_empty ml_X10_120 rfl rfl rfl ⟨Nat.le_of_ble_eq_true rfl, Nat.le_of_ble_eq_true rfl⟩ rfl rfl (Nat.le_of_ble_eq_true rfl) dX10_clear_12 (fun s4 => ?_)
  refine J_iload_n hX dX10_clear_15 rfl ?_
  exact J_iret hX hM dX10_clear_16
theorem mw_X10_clear : jMV Y_X10_clear 0 := ⟨⟨tw_tb (List.mem_of_getElem? (i := 1016) (by decide +kernel)) (by decide +kernel), tw_tb (List.mem_of_getElem? (i := 1017) (by decide +kernel)) (by decide +kernel), tw_tb (List.mem_of_getElem? (i := 1) (by decide +kernel)) (by decide +kernel), tw_tb (List.mem_of_getElem? (i := 1018) (by decide +kernel)) (by decide +kernel)⟩, ⟨rfl, rfl⟩, by decide +kernel, by decide +kernel, by decide +kernel⟩
-- X2_darken
noncomputable def f_X2_darken_L2 (nm : Nat → Nat) (s : (Int32 × jS)) : Option ((Int32 × jS) ⊕ jS) :=
  match s with
  | (v1, σ) =>
    if 10 ≤ v1 then
      some (.inr σ)
    else
      gd (vp_in v1 10) (bd (s_i σ (nm 19) v1.toNatClampNeg 0) (fun s1 =>
        gd (vp_in v1 10) (bd (s_i s1 (nm 20) v1.toNatClampNeg 0) (fun s2 =>
          gd (vp_in v1 10) (bd (s_i s2 (nm 21) v1.toNatClampNeg (-1)) (fun s3 =>
            some (.inl (v1 + 1, s3))))))))
noncomputable def f_X2_darken (nm : Nat → Nat) (σ : jS) : Option jS :=
  (lp (f_X2_darken_L2 nm) fu (0, σ)).bind (fun s4 =>
    bd (s_i s4 (nm 0) 5 0) (fun s5 =>
      some s5))
abbrev Y_X2_darken : jY := (yX2_darken, cX2_darken, 2, none, { frames := 0, cells := 0, slots := 0, locals := 0 })
theorem C_X2_darken {l : Launch} {G : jG} {nm : Nat → Nat} (hG : jWL G) (hE : jE G nm LS_X2) (σ : jS) : jC r_V l G Y_X2_darken [.ref (jad G (nm 0))] σ (f_X2_darken nm σ) := by
  refine jw_met hG pn_X2 (Nat.le_of_ble_eq_true rfl) ⟨rfl, rfl⟩ ?_
  intro X hX hM
  have hX : jB X l G cX2_darken RX2 2 { frames := 0, cells := 0, slots := 0, locals := 0 } := hX
  have hM : jM X (none) := hM
  show J X 0 [(0, .ref (jad G (nm 0)))] [] σ (f_X2_darken nm σ) (jk r_V X)
  unfold f_X2_darken
  refine J_iconst hX dX2_darken_0 k_i0 ?_
  refine J_istore_n hX dX2_darken_1 (Nat.le_of_ble_eq_true rfl) (lv' := [(0, .ref (jad G (nm 0))), (1, .int 0)]) rfl ?_
  refine J_keep [0, 1] (lv' := [(0, .ref (jad G (nm 0))), (1, .int 0)]) rfl ?_
  refine J_lp (pc := 2) (s0 := (0, σ)) (fun (s : (Int32 × jS)) => [(0, .ref (jad G (nm 0))), (1, .int (s.1))]) (fun (s : (Int32 × jS)) => s.2) ?_
  intro KK2 hN2 hQ2 z2
  obtain ⟨v1_2, σ_2⟩ := z2
  show J X 2 [(0, .ref (jad G (nm 0))), (1, .int v1_2)] [] σ_2 (f_X2_darken_L2 nm (v1_2, σ_2)) KK2
  unfold f_X2_darken_L2
  refine J_iload_n hX dX2_darken_2 rfl ?_
  refine J_bipush hX dX2_darken_3 kb_10 ?_
  refine J_icmp_ge hX dX2_darken_5 (tgt := 35) rfl (fun _ => ?_) (fun _ => ?_)
  · refine hQ2 _ _ _ _ _ ?_
    refine J_aload_n hX dX2_darken_35 rfl ?_
    refine J_iconst hX dX2_darken_36 k_i0 ?_
    refine J_puti hX hE 0 5 rfl rfl fp_X2_50 dX2_darken_37 ?_
    refine J_bdS (fun s6 => ?_)
    exact J_vret hX hM dX2_darken_40
  · refine J_aload_n hX dX2_darken_8 rfl ?_
    refine J_getr hX hE 0 2 rfl rfl fl_X2_15 dX2_darken_9 ?_
    refine J_iload_n hX dX2_darken_12 rfl ?_
    refine J_iconst hX dX2_darken_13 k_i0 ?_
    refine J_iast hX hE 19 rfl dX2_darken_14 (fun _ => ?_)
    refine J_bdS (fun s7 => ?_)
    refine J_aload_n hX dX2_darken_15 rfl ?_
    refine J_getr hX hE 0 3 rfl rfl fl_X2_18 dX2_darken_16 ?_
    refine J_iload_n hX dX2_darken_19 rfl ?_
    refine J_iconst hX dX2_darken_20 k_i0 ?_
    refine J_iast hX hE 20 rfl dX2_darken_21 (fun _ => ?_)
    refine J_bdS (fun s8 => ?_)
    refine J_aload_n hX dX2_darken_22 rfl ?_
    refine J_getr hX hE 0 4 rfl rfl fl_X2_21 dX2_darken_23 ?_
    refine J_iload_n hX dX2_darken_26 rfl ?_
    refine J_iconst hX dX2_darken_27 k_im1 ?_
    refine J_iast hX hE 21 rfl dX2_darken_28 (fun _ => ?_)
    refine J_bdS (fun s9 => ?_)
    refine J_iinc hX dX2_darken_29 rfl (congrArg (_ + ·) k_i1) (Nat.le_of_ble_eq_true rfl) (lv' := [(0, .ref (jad G (nm 0))), (1, .int (v1_2 + 1))]) rfl ?_
    refine J_goto hX dX2_darken_32 (tgt := 2) rfl ?_
    exact J_keep [0, 1] rfl (hN2 (v1_2 + 1, s9))
theorem mw_X2_darken : jMV Y_X2_darken 0 := ⟨⟨tw_tb (List.mem_of_getElem? (i := 352) (by decide +kernel)) (by decide +kernel), tw_tb (List.mem_of_getElem? (i := 353) (by decide +kernel)) (by decide +kernel), tw_tb (List.mem_of_getElem? (i := 8) (by decide +kernel)) (by decide +kernel), tw_tb (List.mem_of_getElem? (i := 354) (by decide +kernel)) (by decide +kernel)⟩, ⟨rfl, rfl⟩, by decide +kernel, by decide +kernel, by decide +kernel⟩
-- X10_dark
noncomputable def f_X10_dark (nm : Nat → Nat) (σ : jS) : Option (Int32 × jS) :=
  bd (g_i σ (nm 57) 5) (fun x1 =>
    (f_X2_darken (jn nm [57, 31, 32, 33, 34, 35, 36, 37, 38, 39, 40, 41, 42, 43, 44, 45, 46, 47, 58, 59, 60, 61]) σ).bind (fun s2 =>
      some (x1, s2)))
abbrev Y_X10_dark : jY := (yX10_dark, cX10_dark, 2, some .int, { frames := 1, cells := 0, slots := 0, locals := 21 })
theorem C_X10_dark {l : Launch} {G : jG} {nm : Nat → Nat} (hG : jWL G) (hE : jE G nm LS_X10) (σ : jS) : jC r_I l G Y_X10_dark [.ref (jad G (nm 0))] σ (f_X10_dark nm σ) := by
  refine jw_met hG pn_X10 (Nat.le_of_ble_eq_true rfl) ⟨rfl, rfl⟩ ?_
  intro X hX hM
  have hX : jB X l G cX10_dark RX10 2 { frames := 1, cells := 0, slots := 0, locals := 21 } := hX
  have hM : jM X (some .int) := hM
  show J X 0 [(0, .ref (jad G (nm 0)))] [] σ (f_X10_dark nm σ) (jk r_I X)
  unfold f_X10_dark
  refine J_aload_n hX dX10_dark_0 rfl ?_
  refine J_getr hX hE 0 5 rfl rfl fl_X10_49 dX10_dark_1 ?_
  refine J_geti hX hE 57 5 rfl rfl fl_X10_158 dX10_dark_4 ?_
  refine J_bdI (fun x3 => ?_)
  refine J_istore_n hX dX10_dark_7 (Nat.le_of_ble_eq_true rfl) (lv' := [(0, .ref (jad G (nm 0))), (1, .int x3)]) rfl ?_
  refine J_aload_n hX dX10_dark_8 rfl ?_
  refine J_getr hX hE 0 5 rfl rfl fl_X10_49 dX10_dark_9 ?_
  refine J_cVV hX hE 57 (C_X2_darken hG (hE.sb [57, 31, 32, 33, 34, 35, 36, 37, 38, 39, 40, 41, 42, 43, 44, 45, 46, 47, 58, 59, 60, 61] sb_23) σ) mw_X2_darken ml_X10_240 rfl rfl rfl ⟨Nat.le_of_ble_eq_true rfl, Nat.le_of_ble_eq_true rfl⟩ rfl rfl (Nat.le_of_ble_eq_true rfl) dX10_dark_12 (fun s4 => ?_)
  refine J_iload_n hX dX10_dark_15 rfl ?_
  exact J_iret hX hM dX10_dark_16
theorem mw_X10_dark : jMV Y_X10_dark 0 := ⟨⟨tw_tb (List.mem_of_getElem? (i := 729) (by decide +kernel)) (by decide +kernel), tw_tb (List.mem_of_getElem? (i := 730) (by decide +kernel)) (by decide +kernel), tw_tb (List.mem_of_getElem? (i := 1) (by decide +kernel)) (by decide +kernel), tw_tb (List.mem_of_getElem? (i := 731) (by decide +kernel)) (by decide +kernel)⟩, ⟨rfl, rfl⟩, by decide +kernel, by decide +kernel, by decide +kernel⟩
-- X2_woken
noncomputable def f_X2_woken_J49 (nm : Nat → Nat) (v1 : Int32) (v2 : Int32) (v3 : Int32) (v4 : Int32) (v5 : Int32) (t0 : Int32) (σ : jS) : Option ((Int32 × Int32) ⊕ Int32) :=
  if t0 = 0 then
    some (.inl (v4, v5 + 1))
  else
    (f_X4_at (jn nm [2, 3]) 10 v5 σ).bind (fun q5 =>
      if v3 ≤ (iabs (q5 - v1)) then
        some (.inl (v4, v5 + 1))
      else
        bd (v4 ||| (1 <<< (v5 &&& 31))) (fun x6 =>
          some (.inl (x6, v5 + 1))))
noncomputable def f_X2_woken_L6 (nm : Nat → Nat) (v1 : Int32) (v2 : Int32) (v3 : Int32) (σ : jS) (s : (Int32 × Int32)) : Option ((Int32 × Int32) ⊕ Int32) :=
  match s with
  | (v4, v5) =>
    (f_X6_lamps (jn nm [1, 2, 3, 4, 5, 6, 7, 8, 9, 10, 11, 12, 13, 14, 15, 16, 17]) σ).bind (fun q1 =>
      if q1 ≤ v5 then
        some (.inr v4)
      else
        (f_X2_ear nm v5 σ).bind (fun q2 =>
          (f_X4_at (jn nm [6, 7]) 10 v5 σ).bind (fun q3 =>
            (if q3 < (iabs (q2 - v2)) then
              some 0
            else
              some 1).bind (fun y4 =>
              f_X2_woken_J49 nm v1 v2 v3 v4 v5 y4 σ))))
noncomputable def f_X2_woken (nm : Nat → Nat) (v1 : Int32) (v2 : Int32) (v3 : Int32) (σ : jS) : Option Int32 :=
  (lp (f_X2_woken_L6 nm v1 v2 v3 σ) fu (0, 0)).bind (fun e7 =>
    some e7)
abbrev Y_X2_woken : jY := (yX2_woken, cX2_woken, 7, some .int, { frames := 2, cells := 0, slots := 0, locals := 42 })
theorem C_X2_woken {l : Launch} {G : jG} {nm : Nat → Nat} (hG : jWL G) (hE : jE G nm LS_X2) (v1 : Int32) (v2 : Int32) (v3 : Int32) (σ : jS) : jC (r_P σ) l G Y_X2_woken [.ref (jad G (nm 0)), .int v1, .int v2, .int v3] σ (f_X2_woken nm v1 v2 v3 σ) := by
  refine jw_met hG pn_X2 (Nat.le_of_ble_eq_true rfl) ⟨rfl, rfl⟩ ?_
  intro X hX hM
  have hX : jB X l G cX2_woken RX2 7 { frames := 2, cells := 0, slots := 0, locals := 42 } := hX
  have hM : jM X (some .int) := hM
  show J X 0 [(0, .ref (jad G (nm 0))), (1, .int v1), (2, .int v2), (3, .int v3)] [] σ (f_X2_woken nm v1 v2 v3 σ) (jk (r_P σ) X)
  unfold f_X2_woken
  refine J_iconst hX dX2_woken_0 k_i0 ?_
  refine J_istore hX dX2_woken_1 (Nat.le_of_ble_eq_true rfl) (lv' := [(0, .ref (jad G (nm 0))), (1, .int v1), (2, .int v2), (3, .int v3), (4, .int 0)]) rfl ?_
  refine J_iconst hX dX2_woken_3 k_i0 ?_
  refine J_istore hX dX2_woken_4 (Nat.le_of_ble_eq_true rfl) (lv' := [(0, .ref (jad G (nm 0))), (1, .int v1), (2, .int v2), (3, .int v3), (4, .int 0), (5, .int 0)]) rfl ?_
  refine J_keep [0, 1, 2, 3, 4, 5] (lv' := [(0, .ref (jad G (nm 0))), (1, .int v1), (2, .int v2), (3, .int v3), (4, .int 0), (5, .int 0)]) rfl ?_
  refine J_lp (pc := 6) (s0 := (0, 0)) (fun (s : (Int32 × Int32)) => [(0, .ref (jad G (nm 0))), (1, .int v1), (2, .int v2), (3, .int v3), (4, .int (s.1)), (5, .int (s.2))]) (fun (s : (Int32 × Int32)) => σ) ?_
  intro KK6 hN6 hQ6 z6
  obtain ⟨v4_6, v5_6⟩ := z6
  show J X 6 [(0, .ref (jad G (nm 0))), (1, .int v1), (2, .int v2), (3, .int v3), (4, .int v4_6), (5, .int v5_6)] [] σ (f_X2_woken_L6 nm v1 v2 v3 σ (v4_6, v5_6)) KK6
  have hJ49 : ∀ (v4_j49 : Int32) (v5_j49 : Int32) (t0_j49 : Int32), J X 49 [(0, .ref (jad G (nm 0))), (1, .int v1), (2, .int v2), (3, .int v3), (4, .int v4_j49), (5, .int v5_j49)] [.int t0_j49] σ (f_X2_woken_J49 nm v1 v2 v3 v4_j49 v5_j49 t0_j49 σ) KK6 := by
    intro v4_j49 v5_j49 t0_j49
    unfold f_X2_woken_J49
    refine J_istore hX dX2_woken_49 (Nat.le_of_ble_eq_true rfl) (lv' := [(0, .ref (jad G (nm 0))), (1, .int v1), (2, .int v2), (3, .int v3), (4, .int v4_j49), (5, .int v5_j49), (6, .int t0_j49)]) rfl ?_
    refine J_iload hX dX2_woken_51 rfl ?_
    refine J_if_eq hX dX2_woken_53 (tgt := 86) rfl (fun _ => ?_) (fun _ => ?_)
    · refine J_iinc hX dX2_woken_86 rfl (congrArg (_ + ·) k_i1) (Nat.le_of_ble_eq_true rfl) (lv' := [(0, .ref (jad G (nm 0))), (1, .int v1), (2, .int v2), (3, .int v3), (4, .int v4_j49), (5, .int (v5_j49 + 1)), (6, .int t0_j49)]) rfl ?_
      refine J_goto hX dX2_woken_89 (tgt := 6) rfl ?_
      exact J_keep [0, 1, 2, 3, 4, 5] rfl (hN6 (v4_j49, v5_j49 + 1))
    · refine J_aload_n hX dX2_woken_56 rfl ?_
      refine J_getr hX hE 0 0 rfl rfl fl_X2_24 dX2_woken_57 ?_
      refine J_getr hX hE 1 0 rfl rfl fl_X2_77 dX2_woken_60 ?_
      refine J_iload hX dX2_woken_63 rfl ?_
      refine J_cVP hX hE 2 (C_X4_at hG (hE.sb [2, 3] sb_26) v5_j49 σ) mw_X4_at ml_X2_34 rfl rfl rfl ⟨Nat.le_of_ble_eq_true rfl, Nat.le_of_ble_eq_true rfl⟩ rfl rfl (Nat.le_of_ble_eq_true rfl) dX2_woken_65 (fun q8 => ?_)
      refine J_iload_n hX dX2_woken_68 rfl ?_
      refine J_isub hX dX2_woken_69 ?_
      refine J_mabs2 hX mm_X2_69 (Nat.le_of_ble_eq_true rfl) (Nat.le_of_ble_eq_true rfl) dX2_woken_70 ?_
      refine J_iload_n hX dX2_woken_73 rfl ?_
      refine J_icmp_ge hX dX2_woken_74 (tgt := 86) rfl (fun _ => ?_) (fun _ => ?_)
      · refine J_iinc hX dX2_woken_86 rfl (congrArg (_ + ·) k_i1) (Nat.le_of_ble_eq_true rfl) (lv' := [(0, .ref (jad G (nm 0))), (1, .int v1), (2, .int v2), (3, .int v3), (4, .int v4_j49), (5, .int (v5_j49 + 1)), (6, .int t0_j49)]) rfl ?_
        refine J_goto hX dX2_woken_89 (tgt := 6) rfl ?_
        exact J_keep [0, 1, 2, 3, 4, 5] rfl (hN6 (v4_j49, v5_j49 + 1))
      · refine J_iload hX dX2_woken_77 rfl ?_
        refine J_iconst hX dX2_woken_79 k_i1 ?_
        refine J_iload hX dX2_woken_80 rfl ?_
        refine J_ishl hX dX2_woken_82 ?_
        refine J_ior hX dX2_woken_83 ?_
        refine J_bdI (fun x9 => ?_)
        refine J_istore hX dX2_woken_84 (Nat.le_of_ble_eq_true rfl) (lv' := [(0, .ref (jad G (nm 0))), (1, .int v1), (2, .int v2), (3, .int v3), (4, .int x9), (5, .int v5_j49), (6, .int t0_j49)]) rfl ?_
        refine J_iinc hX dX2_woken_86 rfl (congrArg (_ + ·) k_i1) (Nat.le_of_ble_eq_true rfl) (lv' := [(0, .ref (jad G (nm 0))), (1, .int v1), (2, .int v2), (3, .int v3), (4, .int x9), (5, .int (v5_j49 + 1)), (6, .int t0_j49)]) rfl ?_
        refine J_goto hX dX2_woken_89 (tgt := 6) rfl ?_
        exact J_keep [0, 1, 2, 3, 4, 5] rfl (hN6 (x9, v5_j49 + 1))
  unfold f_X2_woken_L6
  refine J_iload hX dX2_woken_6 rfl ?_
  refine J_aload_n hX dX2_woken_8 rfl ?_
  refine J_getr hX hE 0 0 rfl rfl fl_X2_24 dX2_woken_9 ?_
  refine J_cVP hX hE 1 (C_X6_lamps hG (hE.sb [1, 2, 3, 4, 5, 6, 7, 8, 9, 10, 11, 12, 13, 14, 15, 16, 17] sb_24) σ) mw_X6_lamps ml_X2_62 rfl rfl rfl ⟨Nat.le_of_ble_eq_true rfl, Nat.le_of_ble_eq_true rfl⟩ rfl rfl (Nat.le_of_ble_eq_true rfl) dX2_woken_12 (fun q10 => ?_)
  refine J_icmp_ge hX dX2_woken_15 (tgt := 92) rfl (fun _ => ?_) (fun _ => ?_)
  · refine hQ6 _ _ _ _ _ ?_
    refine J_iload hX dX2_woken_92 rfl ?_
    exact J_iretP hX hM dX2_woken_94
  · refine J_aload_n hX dX2_woken_18 rfl ?_
    refine J_iload hX dX2_woken_19 rfl ?_
    refine J_cVP hX hE 0 (C_X2_ear hG hE v5_6 σ) mw_X2_ear ml_X2_66 rfl rfl rfl ⟨Nat.le_of_ble_eq_true rfl, Nat.le_of_ble_eq_true rfl⟩ rfl rfl (Nat.le_of_ble_eq_true rfl) dX2_woken_21 (fun q11 => ?_)
    refine J_iload_n hX dX2_woken_24 rfl ?_
    refine J_isub hX dX2_woken_25 ?_
    refine J_mabs2 hX mm_X2_69 (Nat.le_of_ble_eq_true rfl) (Nat.le_of_ble_eq_true rfl) dX2_woken_26 ?_
    refine J_aload_n hX dX2_woken_29 rfl ?_
    refine J_getr hX hE 0 0 rfl rfl fl_X2_24 dX2_woken_30 ?_
    refine J_getr hX hE 1 2 rfl rfl fl_X2_74 dX2_woken_33 ?_
    refine J_iload hX dX2_woken_36 rfl ?_
    refine J_cVP hX hE 6 (C_X4_at hG (hE.sb [6, 7] sb_25) v5_6 σ) mw_X4_at ml_X2_34 rfl rfl rfl ⟨Nat.le_of_ble_eq_true rfl, Nat.le_of_ble_eq_true rfl⟩ rfl rfl (Nat.le_of_ble_eq_true rfl) dX2_woken_38 (fun q12 => ?_)
    refine J_blk ?_
    intro KB41 hB41
    refine J_icmp_gt hX dX2_woken_41 (tgt := 48) rfl (fun _ => ?_) (fun _ => ?_)
    · refine J_iconst hX dX2_woken_48 k_i0 ?_
      refine hB41 _ _ _ _ _ ?_
      exact J_keep [0, 1, 2, 3, 4, 5] rfl (hJ49 v4_6 v5_6 0)
    · refine J_iconst hX dX2_woken_44 k_i1 ?_
      refine J_goto hX dX2_woken_45 (tgt := 49) rfl ?_
      refine hB41 _ _ _ _ _ ?_
      exact J_keep [0, 1, 2, 3, 4, 5] rfl (hJ49 v4_6 v5_6 1)
theorem mw_X2_woken : jMV Y_X2_woken 3 := ⟨⟨tw_tb (List.mem_of_getElem? (i := 678) (by decide +kernel)) (by decide +kernel), tw_tb (List.mem_of_getElem? (i := 679) (by decide +kernel)) (by decide +kernel), tw_tb (List.mem_of_getElem? (i := 8) (by decide +kernel)) (by decide +kernel), tw_tb (List.mem_of_getElem? (i := 680) (by decide +kernel)) (by decide +kernel)⟩, ⟨rfl, rfl⟩, by decide +kernel, by decide +kernel, by decide +kernel⟩
-- X8_wokenBy
noncomputable def f_X8_wokenBy_L7 (nm : Nat → Nat) (σ : jS) (s : (Int32 × Int32 × Int32)) : Option ((Int32 × Int32 × Int32) ⊕ Int32) :=
  match s with
  | (v2, v3, v4) =>
    (f_X4_size (jn nm [7, 8]) 59 σ).bind (fun q1 =>
      if q1 ≤ v4 then
        some (.inr v3)
      else
        (f_X4_at (jn nm [7, 8]) 59 v4 σ).bind (fun q2 =>
          if q2 = 64 then
            some (.inl (v2 + 1, v3, v4 + 1))
          else
            (f_X4_at (jn nm [7, 8]) 59 v4 σ).bind (fun q3 =>
              (f_X2_woken (jn nm [9, 10, 11, 12, 13, 14, 15, 16, 17, 18, 19, 20, 21, 22, 23, 24, 25, 26, 27, 28, 29, 30]) v2 q3 (g_i σ (nm 10) 10) σ).bind (fun q4 =>
                bd (v3 ||| q4) (fun x5 =>
                  some (.inl (v2, x5, v4 + 1)))))))
noncomputable def f_X8_wokenBy (nm : Nat → Nat) (σ : jS) : Option Int32 :=
  (lp (f_X8_wokenBy_L7 nm σ) fu (0, 0, 0)).bind (fun e6 =>
    some e6)
abbrev Y_X8_wokenBy : jY := (yX8_wokenBy, cX8_wokenBy, 5, some .int, { frames := 3, cells := 0, slots := 0, locals := 68 })
theorem C_X8_wokenBy {l : Launch} {G : jG} {nm : Nat → Nat} (hG : jWL G) (hE : jE G nm LS_X8_X2) (σ : jS) : jC (r_P σ) l G Y_X8_wokenBy [.ref (jad G (nm 0)), .ref (jad G (nm 9))] σ (f_X8_wokenBy nm σ) := by
  refine jw_met hG pn_X8 (Nat.le_of_ble_eq_true rfl) ⟨rfl, rfl⟩ ?_
  intro X hX hM
  have hX : jB X l G cX8_wokenBy RX8 5 { frames := 3, cells := 0, slots := 0, locals := 68 } := hX
  have hM : jM X (some .int) := hM
  show J X 0 [(0, .ref (jad G (nm 0))), (1, .ref (jad G (nm 9)))] [] σ (f_X8_wokenBy nm σ) (jk (r_P σ) X)
  unfold f_X8_wokenBy
  refine J_iconst hX dX8_wokenBy_0 k_i0 ?_
  refine J_istore_n hX dX8_wokenBy_1 (Nat.le_of_ble_eq_true rfl) (lv' := [(0, .ref (jad G (nm 0))), (1, .ref (jad G (nm 9))), (2, .int 0)]) rfl ?_
  refine J_iconst hX dX8_wokenBy_2 k_i0 ?_
  refine J_istore_n hX dX8_wokenBy_3 (Nat.le_of_ble_eq_true rfl) (lv' := [(0, .ref (jad G (nm 0))), (1, .ref (jad G (nm 9))), (2, .int 0), (3, .int 0)]) rfl ?_
  refine J_iconst hX dX8_wokenBy_4 k_i0 ?_
  refine J_istore hX dX8_wokenBy_5 (Nat.le_of_ble_eq_true rfl) (lv' := [(0, .ref (jad G (nm 0))), (1, .ref (jad G (nm 9))), (2, .int 0), (3, .int 0), (4, .int 0)]) rfl ?_
  refine J_keep [0, 1, 2, 3, 4] (lv' := [(0, .ref (jad G (nm 0))), (1, .ref (jad G (nm 9))), (2, .int 0), (3, .int 0), (4, .int 0)]) rfl ?_
  refine J_lp (pc := 7) (s0 := (0, 0, 0)) (fun (s : (Int32 × Int32 × Int32)) => [(0, .ref (jad G (nm 0))), (1, .ref (jad G (nm 9))), (2, .int (s.1)), (3, .int (s.2.1)), (4, .int (s.2.2))]) (fun (s : (Int32 × Int32 × Int32)) => σ) ?_
  intro KK7 hN7 hQ7 z7
  obtain ⟨v2_7, v3_7, v4_7⟩ := z7
  show J X 7 [(0, .ref (jad G (nm 0))), (1, .ref (jad G (nm 9))), (2, .int v2_7), (3, .int v3_7), (4, .int v4_7)] [] σ (f_X8_wokenBy_L7 nm σ (v2_7, v3_7, v4_7)) KK7
  unfold f_X8_wokenBy_L7
  refine J_iload hX dX8_wokenBy_7 rfl ?_
  refine J_aload_n hX dX8_wokenBy_9 rfl ?_
  refine J_getr hX hE 0 4 rfl rfl fl_X8_28 dX8_wokenBy_10 ?_
  refine J_cVP hX hE 7 (C_X4_size hG (hE.sb [7, 8] sb_27) σ) mw_X4_size ml_X8_39 rfl rfl rfl ⟨Nat.le_of_ble_eq_true rfl, Nat.le_of_ble_eq_true rfl⟩ rfl rfl (Nat.le_of_ble_eq_true rfl) dX8_wokenBy_13 (fun q7 => ?_)
  refine J_icmp_ge hX dX8_wokenBy_16 (tgt := 69) rfl (fun _ => ?_) (fun _ => ?_)
  · refine hQ7 _ _ _ _ _ ?_
    refine J_iload_n hX dX8_wokenBy_69 rfl ?_
    exact J_iretP hX hM dX8_wokenBy_70
  · refine J_aload_n hX dX8_wokenBy_19 rfl ?_
    refine J_getr hX hE 0 4 rfl rfl fl_X8_28 dX8_wokenBy_20 ?_
    refine J_iload hX dX8_wokenBy_23 rfl ?_
    refine J_cVP hX hE 7 (C_X4_at hG (hE.sb [7, 8] sb_27) v4_7 σ) mw_X4_at ml_X8_43 rfl rfl rfl ⟨Nat.le_of_ble_eq_true rfl, Nat.le_of_ble_eq_true rfl⟩ rfl rfl (Nat.le_of_ble_eq_true rfl) dX8_wokenBy_25 (fun q8 => ?_)
    refine J_bipush hX dX8_wokenBy_28 kb_64 ?_
    refine J_icmp_ne hX dX8_wokenBy_30 (tgt := 39) rfl (fun _ => ?_) (fun _ => ?_)
    · refine J_iload_n hX dX8_wokenBy_39 rfl ?_
      refine J_aload_n hX dX8_wokenBy_40 rfl ?_
      refine J_iload_n hX dX8_wokenBy_41 rfl ?_
      refine J_aload_n hX dX8_wokenBy_42 rfl ?_
      refine J_getr hX hE 0 4 rfl rfl fl_X8_28 dX8_wokenBy_43 ?_
      refine J_iload hX dX8_wokenBy_46 rfl ?_
      refine J_cVP hX hE 7 (C_X4_at hG (hE.sb [7, 8] sb_27) v4_7 σ) mw_X4_at ml_X8_43 rfl rfl rfl ⟨Nat.le_of_ble_eq_true rfl, Nat.le_of_ble_eq_true rfl⟩ rfl rfl (Nat.le_of_ble_eq_true rfl) dX8_wokenBy_48 (fun q9 => ?_)
      refine J_aload_n hX dX8_wokenBy_51 rfl ?_
      refine J_getr hX hE 9 0 rfl rfl fl_X8_50 dX8_wokenBy_52 ?_
      refine J_geti hX hE 10 10 rfl rfl fl_X8_56 dX8_wokenBy_55 ?_
      refine J_cVP hX hE 9 (C_X2_woken hG (hE.sb [9, 10, 11, 12, 13, 14, 15, 16, 17, 18, 19, 20, 21, 22, 23, 24, 25, 26, 27, 28, 29, 30] sb_28) v2_7 q9 (g_i σ (nm 10) 10) σ) mw_X2_woken ml_X8_139 rfl rfl rfl ⟨Nat.le_of_ble_eq_true rfl, Nat.le_of_ble_eq_true rfl⟩ rfl rfl (Nat.le_of_ble_eq_true rfl) dX8_wokenBy_58 (fun q10 => ?_)
      refine J_ior hX dX8_wokenBy_61 ?_
      refine J_bdI (fun x11 => ?_)
      refine J_istore_n hX dX8_wokenBy_62 (Nat.le_of_ble_eq_true rfl) (lv' := [(0, .ref (jad G (nm 0))), (1, .ref (jad G (nm 9))), (2, .int v2_7), (3, .int x11), (4, .int v4_7)]) rfl ?_
      refine J_iinc hX dX8_wokenBy_63 rfl (congrArg (_ + ·) k_i1) (Nat.le_of_ble_eq_true rfl) (lv' := [(0, .ref (jad G (nm 0))), (1, .ref (jad G (nm 9))), (2, .int v2_7), (3, .int x11), (4, .int (v4_7 + 1))]) rfl ?_
      refine J_goto hX dX8_wokenBy_66 (tgt := 7) rfl ?_
      exact J_keep [0, 1, 2, 3, 4] rfl (hN7 (v2_7, x11, v4_7 + 1))
    · refine J_iinc hX dX8_wokenBy_33 rfl (congrArg (_ + ·) k_i1) (Nat.le_of_ble_eq_true rfl) (lv' := [(0, .ref (jad G (nm 0))), (1, .ref (jad G (nm 9))), (2, .int (v2_7 + 1)), (3, .int v3_7), (4, .int v4_7)]) rfl ?_
      refine J_goto hX dX8_wokenBy_36 (tgt := 63) rfl ?_
      refine J_iinc hX dX8_wokenBy_63 rfl (congrArg (_ + ·) k_i1) (Nat.le_of_ble_eq_true rfl) (lv' := [(0, .ref (jad G (nm 0))), (1, .ref (jad G (nm 9))), (2, .int (v2_7 + 1)), (3, .int v3_7), (4, .int (v4_7 + 1))]) rfl ?_
      refine J_goto hX dX8_wokenBy_66 (tgt := 7) rfl ?_
      exact J_keep [0, 1, 2, 3, 4] rfl (hN7 (v2_7 + 1, v3_7, v4_7 + 1))
theorem mw_X8_wokenBy : jMV Y_X8_wokenBy 1 := ⟨⟨tw_tb (List.mem_of_getElem? (i := 1007) (by decide +kernel)) (by decide +kernel), tw_tb (List.mem_of_getElem? (i := 1008) (by decide +kernel)) (by decide +kernel), tw_tb (List.mem_of_getElem? (i := 11) (by decide +kernel)) (by decide +kernel), tw_tb (List.mem_of_getElem? (i := 1009) (by decide +kernel)) (by decide +kernel)⟩, ⟨rfl, rfl⟩, by decide +kernel, by decide +kernel, by decide +kernel⟩
-- X10_darkOnDay
noncomputable def f_X10_darkOnDay (nm : Nat → Nat) (v1 : Int32) (σ : jS) : Option (Int32 × jS) :=
  (f_X4_at (jn nm [55, 56]) 30 v1 σ).bind (fun q1 =>
    bd (s_i σ (nm 62) 6 q1) (fun s2 =>
      (f_X6_allLamps (jn nm [31, 32, 33, 34, 35, 36, 37, 38, 39, 40, 41, 42, 43, 44, 45, 46, 47]) s2).bind (fun q3 =>
        (f_X8_wokenBy (jn nm [91, 81, 82, 92, 93, 94, 95, 96, 97, 62, 31, 32, 33, 34, 35, 36, 37, 38, 39, 40, 41, 42, 43, 44, 45, 46, 47, 63, 64, 65, 66]) s2).bind (fun q4 =>
          some (q3 &&& (q4 ^^^ (-1)), s2)))))
abbrev Y_X10_darkOnDay : jY := (yX10_darkOnDay, cX10_darkOnDay, 2, some .int, { frames := 4, cells := 0, slots := 0, locals := 92 })
theorem C_X10_darkOnDay {l : Launch} {G : jG} {nm : Nat → Nat} (hG : jWL G) (hE : jE G nm LS_X10) (v1 : Int32) (σ : jS) : jC r_I l G Y_X10_darkOnDay [.ref (jad G (nm 0)), .int v1] σ (f_X10_darkOnDay nm v1 σ) := by
  refine jw_met hG pn_X10 (Nat.le_of_ble_eq_true rfl) ⟨rfl, rfl⟩ ?_
  intro X hX hM
  have hX : jB X l G cX10_darkOnDay RX10 2 { frames := 4, cells := 0, slots := 0, locals := 92 } := hX
  have hM : jM X (some .int) := hM
  show J X 0 [(0, .ref (jad G (nm 0))), (1, .int v1)] [] σ (f_X10_darkOnDay nm v1 σ) (jk r_I X)
  unfold f_X10_darkOnDay
  refine J_aload_n hX dX10_darkOnDay_0 rfl ?_
  refine J_getr hX hE 0 6 rfl rfl fl_X10_53 dX10_darkOnDay_1 ?_
  refine J_aload_n hX dX10_darkOnDay_4 rfl ?_
  refine J_getr hX hE 0 4 rfl rfl fl_X10_41 dX10_darkOnDay_5 ?_
  refine J_iload_n hX dX10_darkOnDay_8 rfl ?_
  refine J_cVP hX hE 55 (C_X4_at hG (hE.sb [55, 56] sb_29) v1 σ) mw_X4_at ml_X10_174 rfl rfl rfl ⟨Nat.le_of_ble_eq_true rfl, Nat.le_of_ble_eq_true rfl⟩ rfl rfl (Nat.le_of_ble_eq_true rfl) dX10_darkOnDay_9 (fun q5 => ?_)
  refine J_puti hX hE 62 6 rfl rfl fp_X10_161 dX10_darkOnDay_12 ?_
  refine J_bdS (fun s6 => ?_)
  refine J_aload_n hX dX10_darkOnDay_15 rfl ?_
  refine J_getr hX hE 0 2 rfl rfl fl_X10_30 dX10_darkOnDay_16 ?_
  refine J_cVP hX hE 31 (C_X6_allLamps hG (hE.sb [31, 32, 33, 34, 35, 36, 37, 38, 39, 40, 41, 42, 43, 44, 45, 46, 47] sb_6) s6) mw_X6_allLamps ml_X10_307 rfl rfl rfl ⟨Nat.le_of_ble_eq_true rfl, Nat.le_of_ble_eq_true rfl⟩ rfl rfl (Nat.le_of_ble_eq_true rfl) dX10_darkOnDay_19 (fun q7 => ?_)
  refine J_aload_n hX dX10_darkOnDay_22 rfl ?_
  refine J_getr hX hE 0 13 rfl rfl fl_X10_87 dX10_darkOnDay_23 ?_
  refine J_aload_n hX dX10_darkOnDay_26 rfl ?_
  refine J_getr hX hE 0 6 rfl rfl fl_X10_53 dX10_darkOnDay_27 ?_
  refine J_cVP hX hE 91 (C_X8_wokenBy hG (hE.sb [91, 81, 82, 92, 93, 94, 95, 96, 97, 62, 31, 32, 33, 34, 35, 36, 37, 38, 39, 40, 41, 42, 43, 44, 45, 46, 47, 63, 64, 65, 66] sb_30) s6) mw_X8_wokenBy ml_X10_310 rfl rfl rfl ⟨Nat.le_of_ble_eq_true rfl, Nat.le_of_ble_eq_true rfl⟩ rfl rfl (Nat.le_of_ble_eq_true rfl) dX10_darkOnDay_30 (fun q8 => ?_)
  refine J_iconst hX dX10_darkOnDay_33 k_im1 ?_
  refine J_ixor hX dX10_darkOnDay_34 ?_
  refine J_iand hX dX10_darkOnDay_35 ?_
  exact J_iret hX hM dX10_darkOnDay_36
theorem mw_X10_darkOnDay : jMV Y_X10_darkOnDay 1 := ⟨⟨tw_tb (List.mem_of_getElem? (i := 1004) (by decide +kernel)) (by decide +kernel), tw_pv (List.mem_of_getElem? (i := 33) (by decide +kernel)) (by decide +kernel), tw_tb (List.mem_of_getElem? (i := 1) (by decide +kernel)) (by decide +kernel), tw_tb (List.mem_of_getElem? (i := 1005) (by decide +kernel)) (by decide +kernel)⟩, ⟨rfl, rfl⟩, by decide +kernel, by decide +kernel, by decide +kernel⟩
-- X5_faultPlace
noncomputable def f_X5_faultPlace (nm : Nat → Nat) (σ : jS) : Option Int32 :=
  some (g_i σ (nm 29) 5)
abbrev Y_X5_faultPlace : jY := (yX5_faultPlace, cX5_faultPlace, 1, some .int, { frames := 0, cells := 0, slots := 0, locals := 0 })
theorem C_X5_faultPlace {l : Launch} {G : jG} {nm : Nat → Nat} (hG : jWL G) (hE : jE G nm LS_X5) (σ : jS) : jC (r_P σ) l G Y_X5_faultPlace [.ref (jad G (nm 0))] σ (f_X5_faultPlace nm σ) := by
  refine jw_met hG pn_X5 (Nat.le_of_ble_eq_true rfl) ⟨rfl, rfl⟩ ?_
  intro X hX hM
  have hX : jB X l G cX5_faultPlace RX5 1 { frames := 0, cells := 0, slots := 0, locals := 0 } := hX
  have hM : jM X (some .int) := hM
  show J X 0 [(0, .ref (jad G (nm 0)))] [] σ (f_X5_faultPlace nm σ) (jk (r_P σ) X)
  unfold f_X5_faultPlace
  refine J_aload_n hX dX5_faultPlace_0 rfl ?_
  refine J_getr hX hE 0 1 rfl rfl fl_X5_42 dX5_faultPlace_1 ?_
  refine J_geti hX hE 29 5 rfl rfl fl_X5_46 dX5_faultPlace_4 ?_
  exact J_iretP hX hM dX5_faultPlace_7
theorem mw_X5_faultPlace : jMV Y_X5_faultPlace 0 := ⟨⟨tw_tb (List.mem_of_getElem? (i := 631) (by decide +kernel)) (by decide +kernel), tw_tb (List.mem_of_getElem? (i := 632) (by decide +kernel)) (by decide +kernel), tw_tb (List.mem_of_getElem? (i := 4) (by decide +kernel)) (by decide +kernel), tw_tb (List.mem_of_getElem? (i := 633) (by decide +kernel)) (by decide +kernel)⟩, ⟨rfl, rfl⟩, by decide +kernel, by decide +kernel, by decide +kernel⟩
-- X10_fault
noncomputable def f_X10_fault (nm : Nat → Nat) (σ : jS) : Option Int32 :=
  (f_X5_faultPlace (jn nm [3, 1, 2, 4, 5, 6, 7, 8, 9, 10, 11, 12, 13, 14, 15, 16, 17, 18, 19, 20, 21, 22, 23, 24, 25, 26, 27, 28, 29, 30]) σ).bind (fun q1 =>
    some q1)
abbrev Y_X10_fault : jY := (yX10_fault, cX10_fault, 1, some .int, { frames := 1, cells := 0, slots := 0, locals := 20 })
theorem C_X10_fault {l : Launch} {G : jG} {nm : Nat → Nat} (hG : jWL G) (hE : jE G nm LS_X10) (σ : jS) : jC (r_P σ) l G Y_X10_fault [.ref (jad G (nm 0))] σ (f_X10_fault nm σ) := by
  refine jw_met hG pn_X10 (Nat.le_of_ble_eq_true rfl) ⟨rfl, rfl⟩ ?_
  intro X hX hM
  have hX : jB X l G cX10_fault RX10 1 { frames := 1, cells := 0, slots := 0, locals := 20 } := hX
  have hM : jM X (some .int) := hM
  show J X 0 [(0, .ref (jad G (nm 0)))] [] σ (f_X10_fault nm σ) (jk (r_P σ) X)
  unfold f_X10_fault
  refine J_aload_n hX dX10_fault_0 rfl ?_
  refine J_getr hX hE 0 1 rfl rfl fl_X10_23 dX10_fault_1 ?_
  refine J_cVP hX hE 3 (C_X5_faultPlace hG (hE.sb [3, 1, 2, 4, 5, 6, 7, 8, 9, 10, 11, 12, 13, 14, 15, 16, 17, 18, 19, 20, 21, 22, 23, 24, 25, 26, 27, 28, 29, 30] sb_31) σ) mw_X5_faultPlace ml_X10_136 rfl rfl rfl ⟨Nat.le_of_ble_eq_true rfl, Nat.le_of_ble_eq_true rfl⟩ rfl rfl (Nat.le_of_ble_eq_true rfl) dX10_fault_4 (fun q2 => ?_)
  exact J_iretP hX hM dX10_fault_7
theorem mw_X10_fault : jMV Y_X10_fault 0 := ⟨⟨tw_tb (List.mem_of_getElem? (i := 627) (by decide +kernel)) (by decide +kernel), tw_tb (List.mem_of_getElem? (i := 628) (by decide +kernel)) (by decide +kernel), tw_tb (List.mem_of_getElem? (i := 1) (by decide +kernel)) (by decide +kernel), tw_tb (List.mem_of_getElem? (i := 629) (by decide +kernel)) (by decide +kernel)⟩, ⟨rfl, rfl⟩, by decide +kernel, by decide +kernel, by decide +kernel⟩
-- X10_feed
noncomputable def f_X10_feed_L39 (nm : Nat → Nat) (v2 : Int64) (s : (Int32 × jS)) : Option ((Int32 × jS) ⊕ jS) :=
  match s with
  | (v4, σ) =>
    if v4 < 0 then
      some (.inr σ)
    else
      (f_X4_put (jn nm [1, 2]) 400 ((((v2.toUInt64 >>> ((8 * v4).toInt64.toUInt64 &&& Int64.toUInt64 63)).toInt64).toInt32) &&& 255) σ).bind (fun s3 =>
        some (.inl (v4 + (-1), s3)))
noncomputable def f_X10_feed (nm : Nat → Nat) (v1 : Int32) (v2 : Int64) (σ : jS) : Option (Int32 × jS) :=
  if v1 < 1 then
    some ((-1002), σ)
  else
    if v1 ≤ 8 then
      (f_X4_size (jn nm [1, 2]) 400 σ).bind (fun q1 =>
        if (q1 + v1) ≤ 400 then
          bd (v1 - 1) (fun x2 =>
            (lp (f_X10_feed_L39 nm v2) fu (x2, σ)).bind (fun s4 =>
              (f_X4_size (jn nm [1, 2]) 400 s4).bind (fun q5 =>
                some (q5, s4))))
        else
          some ((-1004), σ))
    else
      some ((-1002), σ)
abbrev Y_X10_feed : jY := (yX10_feed, cX10_feed, 5, some .int, { frames := 1, cells := 0, slots := 0, locals := 21 })
theorem C_X10_feed {l : Launch} {G : jG} {nm : Nat → Nat} (hG : jWL G) (hE : jE G nm LS_X10) (v1 : Int32) (v2 : Int64) (σ : jS) : jC r_I l G Y_X10_feed [.ref (jad G (nm 0)), .int v1, .long v2] σ (f_X10_feed nm v1 v2 σ) := by
  refine jw_met hG pn_X10 (Nat.le_of_ble_eq_true rfl) ⟨rfl, rfl⟩ ?_
  intro X hX hM
  have hX : jB X l G cX10_feed RX10 5 { frames := 1, cells := 0, slots := 0, locals := 21 } := hX
  have hM : jM X (some .int) := hM
  show J X 0 [(0, .ref (jad G (nm 0))), (1, .int v1), (2, .long v2)] [] σ (f_X10_feed nm v1 v2 σ) (jk r_I X)
  unfold f_X10_feed
  refine J_iload_n hX dX10_feed_0 rfl ?_
  refine J_iconst hX dX10_feed_1 k_i1 ?_
  refine J_icmp_lt hX dX10_feed_2 (tgt := 11) rfl (fun _ => ?_) (fun _ => ?_)
  · refine J_sipush hX dX10_feed_11 ks_m1002 ?_
    exact J_iret hX hM dX10_feed_14
  · refine J_iload_n hX dX10_feed_5 rfl ?_
    refine J_bipush hX dX10_feed_6 kb_8 ?_
    refine J_icmp_le hX dX10_feed_8 (tgt := 15) rfl (fun _ => ?_) (fun _ => ?_)
    · refine J_aload_n hX dX10_feed_15 rfl ?_
      refine J_getr hX hE 0 0 rfl rfl fl_X10_14 dX10_feed_16 ?_
      refine J_cVP hX hE 1 (C_X4_size hG (hE.sb [1, 2] sb_32) σ) mw_X4_size ml_X10_106 rfl rfl rfl ⟨Nat.le_of_ble_eq_true rfl, Nat.le_of_ble_eq_true rfl⟩ rfl rfl (Nat.le_of_ble_eq_true rfl) dX10_feed_19 (fun q6 => ?_)
      refine J_iload_n hX dX10_feed_22 rfl ?_
      refine J_iadd hX dX10_feed_23 ?_
      refine J_sipush hX dX10_feed_24 ks_400 ?_
      refine J_icmp_le hX dX10_feed_27 (tgt := 34) rfl (fun _ => ?_) (fun _ => ?_)
      · refine J_iload_n hX dX10_feed_34 rfl ?_
        refine J_iconst hX dX10_feed_35 k_i1 ?_
        refine J_isub hX dX10_feed_36 ?_
        refine J_bdI (fun x7 => ?_)
        refine J_istore hX dX10_feed_37 (Nat.le_of_ble_eq_true rfl) (lv' := [(0, .ref (jad G (nm 0))), (1, .int v1), (2, .long v2), (4, .int x7)]) rfl ?_
        refine J_keep [0, 2, 3] (lv' := [(0, .ref (jad G (nm 0))), (2, .long v2), (4, .int x7)]) rfl ?_
        refine J_lp (pc := 39) (s0 := (x7, σ)) (fun (s : (Int32 × jS)) => [(0, .ref (jad G (nm 0))), (2, .long v2), (4, .int (s.1))]) (fun (s : (Int32 × jS)) => s.2) ?_
        intro KK39 hN39 hQ39 z39
        obtain ⟨v4_39, σ_39⟩ := z39
        show J X 39 [(0, .ref (jad G (nm 0))), (2, .long v2), (4, .int v4_39)] [] σ_39 (f_X10_feed_L39 nm v2 (v4_39, σ_39)) KK39
        unfold f_X10_feed_L39
        refine J_iload hX dX10_feed_39 rfl ?_
        refine J_if_lt hX dX10_feed_41 (tgt := 69) rfl (fun _ => ?_) (fun _ => ?_)
        · refine hQ39 _ _ _ _ _ ?_
          refine J_aload_n hX dX10_feed_69 rfl ?_
          refine J_getr hX hE 0 0 rfl rfl fl_X10_14 dX10_feed_70 ?_
          refine J_cVP hX hE 1 (C_X4_size hG (hE.sb [1, 2] sb_32) σ_39) mw_X4_size ml_X10_106 rfl rfl rfl ⟨Nat.le_of_ble_eq_true rfl, Nat.le_of_ble_eq_true rfl⟩ rfl rfl (Nat.le_of_ble_eq_true rfl) dX10_feed_73 (fun q8 => ?_)
          exact J_iret hX hM dX10_feed_76
        · refine J_aload_n hX dX10_feed_44 rfl ?_
          refine J_getr hX hE 0 0 rfl rfl fl_X10_14 dX10_feed_45 ?_
          refine J_lload_n hX dX10_feed_48 rfl ?_
          refine J_bipush hX dX10_feed_49 kb_8 ?_
          refine J_iload hX dX10_feed_51 rfl ?_
          refine J_imul hX dX10_feed_53 ?_
          refine J_lushr hX dX10_feed_54 ?_
          refine J_l2i hX dX10_feed_55 ?_
          refine J_sipush hX dX10_feed_56 ks_255 ?_
          refine J_iand hX dX10_feed_59 ?_
          refine J_cVV hX hE 1 (C_X4_put hG (hE.sb [1, 2] sb_32) ((((v2.toUInt64 >>> ((8 * v4_39).toInt64.toUInt64 &&& Int64.toUInt64 63)).toInt64).toInt32) &&& 255) σ_39) mw_X4_put ml_X10_110 rfl rfl rfl ⟨Nat.le_of_ble_eq_true rfl, Nat.le_of_ble_eq_true rfl⟩ rfl rfl (Nat.le_of_ble_eq_true rfl) dX10_feed_60 (fun s9 => ?_)
          refine J_iinc hX dX10_feed_63 rfl (congrArg (_ + ·) k_im1) (Nat.le_of_ble_eq_true rfl) (lv' := [(0, .ref (jad G (nm 0))), (2, .long v2), (4, .int (v4_39 + (-1)))]) rfl ?_
          refine J_goto hX dX10_feed_66 (tgt := 39) rfl ?_
          exact J_keep [0, 1, 2] rfl (hN39 (v4_39 + (-1), s9))
      · refine J_sipush hX dX10_feed_30 ks_m1004 ?_
        exact J_iret hX hM dX10_feed_33
    · refine J_sipush hX dX10_feed_11 ks_m1002 ?_
      exact J_iret hX hM dX10_feed_14
theorem mw_X10_feed : jMV Y_X10_feed 2 := ⟨⟨tw_tb (List.mem_of_getElem? (i := 402) (by decide +kernel)) (by decide +kernel), tw_tb (List.mem_of_getElem? (i := 403) (by decide +kernel)) (by decide +kernel), tw_tb (List.mem_of_getElem? (i := 1) (by decide +kernel)) (by decide +kernel), tw_tb (List.mem_of_getElem? (i := 404) (by decide +kernel)) (by decide +kernel)⟩, ⟨rfl, rfl⟩, by decide +kernel, by decide +kernel, by decide +kernel⟩
-- X10_isKnown
noncomputable def f_X10_isKnown (nm : Nat → Nat) (v1 : Int32) (σ : jS) : Option Int32 :=
  (f_X6_allLamps (jn nm [31, 32, 33, 34, 35, 36, 37, 38, 39, 40, 41, 42, 43, 44, 45, 46, 47]) σ).bind (fun q1 =>
    if (v1 &&& (q1 ^^^ (-1))) = 0 then
      some 1
    else
      some 0)
abbrev Y_X10_isKnown : jY := (yX10_isKnown, cX10_isKnown, 2, some .boolean, { frames := 2, cells := 0, slots := 0, locals := 40 })
theorem C_X10_isKnown {l : Launch} {G : jG} {nm : Nat → Nat} (hG : jWL G) (hE : jE G nm LS_X10) (v1 : Int32) (σ : jS) : jC (r_P σ) l G Y_X10_isKnown [.ref (jad G (nm 0)), .int v1] σ (f_X10_isKnown nm v1 σ) := by
  refine jw_met hG pn_X10 (Nat.le_of_ble_eq_true rfl) ⟨rfl, rfl⟩ ?_
  intro X hX hM
  have hX : jB X l G cX10_isKnown RX10 2 { frames := 2, cells := 0, slots := 0, locals := 40 } := hX
  have hM : jM X (some .boolean) := hM
  show J X 0 [(0, .ref (jad G (nm 0))), (1, .int v1)] [] σ (f_X10_isKnown nm v1 σ) (jk (r_P σ) X)
  unfold f_X10_isKnown
  refine J_iload_n hX dX10_isKnown_0 rfl ?_
  refine J_aload_n hX dX10_isKnown_1 rfl ?_
  refine J_getr hX hE 0 2 rfl rfl fl_X10_30 dX10_isKnown_2 ?_
  refine J_cVP hX hE 31 (C_X6_allLamps hG (hE.sb [31, 32, 33, 34, 35, 36, 37, 38, 39, 40, 41, 42, 43, 44, 45, 46, 47] sb_6) σ) mw_X6_allLamps ml_X10_307 rfl rfl rfl ⟨Nat.le_of_ble_eq_true rfl, Nat.le_of_ble_eq_true rfl⟩ rfl rfl (Nat.le_of_ble_eq_true rfl) dX10_isKnown_5 (fun q2 => ?_)
  refine J_iconst hX dX10_isKnown_8 k_im1 ?_
  refine J_ixor hX dX10_isKnown_9 ?_
  refine J_iand hX dX10_isKnown_10 ?_
  refine J_if_ne hX dX10_isKnown_11 (tgt := 18) rfl (fun _ => ?_) (fun _ => ?_)
  · refine J_iconst hX dX10_isKnown_18 k_i0 ?_
    exact J_zretP hX hM jn_0 dX10_isKnown_19
  · refine J_iconst hX dX10_isKnown_14 k_i1 ?_
    refine J_goto hX dX10_isKnown_15 (tgt := 19) rfl ?_
    exact J_zretP hX hM jn_1 dX10_isKnown_19
theorem mw_X10_isKnown : jMV Y_X10_isKnown 1 := ⟨⟨tw_tb (List.mem_of_getElem? (i := 833) (by decide +kernel)) (by decide +kernel), tw_pv (List.mem_of_getElem? (i := 18) (by decide +kernel)) (by decide +kernel), tw_tb (List.mem_of_getElem? (i := 1) (by decide +kernel)) (by decide +kernel), tw_tb (List.mem_of_getElem? (i := 834) (by decide +kernel)) (by decide +kernel)⟩, ⟨rfl, rfl⟩, by decide +kernel, by decide +kernel, by decide +kernel⟩
-- X9_reach
noncomputable def f_X9_reach_L5 (nm : Nat → Nat) (v1 : Int32) (v2 : Int32) (σ : jS) (s : (Int32 × Int32)) : Option ((Int32 × Int32) ⊕ Int32) :=
  match s with
  | (v3, v4) =>
    if 50 ≤ v4 then
      some (.inr v3)
    else
      (f_X1_at (jn nm [1, 2]) v4 v1 σ).bind (fun q1 =>
        if (q1 &&& (v2 ^^^ (-1))) = 0 then
          bd (v3 ||| q1) (fun x2 =>
            some (.inl (x2, v4 + 1)))
        else
          some (.inl (v3, v4 + 1)))
noncomputable def f_X9_reach (nm : Nat → Nat) (v1 : Int32) (v2 : Int32) (σ : jS) : Option Int32 :=
  (lp (f_X9_reach_L5 nm v1 v2 σ) fu (0, 0)).bind (fun e3 =>
    some e3)
abbrev Y_X9_reach : jY := (yX9_reach, cX9_reach, 6, some .int, { frames := 2, cells := 0, slots := 0, locals := 45 })
theorem C_X9_reach {l : Launch} {G : jG} {nm : Nat → Nat} (hG : jWL G) (hE : jE G nm LS_X9) (v1 : Int32) (v2 : Int32) (σ : jS) : jC (r_P σ) l G Y_X9_reach [.ref (jad G (nm 0)), .int v1, .int v2] σ (f_X9_reach nm v1 v2 σ) := by
  refine jw_met hG pn_X9 (Nat.le_of_ble_eq_true rfl) ⟨rfl, rfl⟩ ?_
  intro X hX hM
  have hX : jB X l G cX9_reach RX9 6 { frames := 2, cells := 0, slots := 0, locals := 45 } := hX
  have hM : jM X (some .int) := hM
  show J X 0 [(0, .ref (jad G (nm 0))), (1, .int v1), (2, .int v2)] [] σ (f_X9_reach nm v1 v2 σ) (jk (r_P σ) X)
  unfold f_X9_reach
  refine J_iconst hX dX9_reach_0 k_i0 ?_
  refine J_istore_n hX dX9_reach_1 (Nat.le_of_ble_eq_true rfl) (lv' := [(0, .ref (jad G (nm 0))), (1, .int v1), (2, .int v2), (3, .int 0)]) rfl ?_
  refine J_iconst hX dX9_reach_2 k_i0 ?_
  refine J_istore hX dX9_reach_3 (Nat.le_of_ble_eq_true rfl) (lv' := [(0, .ref (jad G (nm 0))), (1, .int v1), (2, .int v2), (3, .int 0), (4, .int 0)]) rfl ?_
  refine J_keep [0, 1, 2, 3, 4] (lv' := [(0, .ref (jad G (nm 0))), (1, .int v1), (2, .int v2), (3, .int 0), (4, .int 0)]) rfl ?_
  refine J_lp (pc := 5) (s0 := (0, 0)) (fun (s : (Int32 × Int32)) => [(0, .ref (jad G (nm 0))), (1, .int v1), (2, .int v2), (3, .int (s.1)), (4, .int (s.2))]) (fun (s : (Int32 × Int32)) => σ) ?_
  intro KK5 hN5 hQ5 z5
  obtain ⟨v3_5, v4_5⟩ := z5
  show J X 5 [(0, .ref (jad G (nm 0))), (1, .int v1), (2, .int v2), (3, .int v3_5), (4, .int v4_5)] [] σ (f_X9_reach_L5 nm v1 v2 σ (v3_5, v4_5)) KK5
  unfold f_X9_reach_L5
  refine J_iload hX dX9_reach_5 rfl ?_
  refine J_bipush hX dX9_reach_7 kb_50 ?_
  refine J_icmp_ge hX dX9_reach_9 (tgt := 44) rfl (fun _ => ?_) (fun _ => ?_)
  · refine hQ5 _ _ _ _ _ ?_
    refine J_iload_n hX dX9_reach_44 rfl ?_
    exact J_iretP hX hM dX9_reach_45
  · refine J_aload_n hX dX9_reach_12 rfl ?_
    refine J_getr hX hE 0 0 rfl rfl fl_X9_33 dX9_reach_13 ?_
    refine J_iload hX dX9_reach_16 rfl ?_
    refine J_iload_n hX dX9_reach_18 rfl ?_
    refine J_cVP hX hE 1 (C_X1_at hG (hE.sb [1, 2] sb_17) v4_5 v1 σ) mw_X1_at ml_X9_46 rfl rfl rfl ⟨Nat.le_of_ble_eq_true rfl, Nat.le_of_ble_eq_true rfl⟩ rfl rfl (Nat.le_of_ble_eq_true rfl) dX9_reach_19 (fun q4 => ?_)
    refine J_istore hX dX9_reach_22 (Nat.le_of_ble_eq_true rfl) (lv' := [(0, .ref (jad G (nm 0))), (1, .int v1), (2, .int v2), (3, .int v3_5), (4, .int v4_5), (5, .int q4)]) rfl ?_
    refine J_iload hX dX9_reach_24 rfl ?_
    refine J_iload_n hX dX9_reach_26 rfl ?_
    refine J_iconst hX dX9_reach_27 k_im1 ?_
    refine J_ixor hX dX9_reach_28 ?_
    refine J_iand hX dX9_reach_29 ?_
    refine J_if_ne hX dX9_reach_30 (tgt := 38) rfl (fun _ => ?_) (fun _ => ?_)
    · refine J_iinc hX dX9_reach_38 rfl (congrArg (_ + ·) k_i1) (Nat.le_of_ble_eq_true rfl) (lv' := [(0, .ref (jad G (nm 0))), (1, .int v1), (2, .int v2), (3, .int v3_5), (4, .int (v4_5 + 1)), (5, .int q4)]) rfl ?_
      refine J_goto hX dX9_reach_41 (tgt := 5) rfl ?_
      exact J_keep [0, 1, 2, 3, 4] rfl (hN5 (v3_5, v4_5 + 1))
    · refine J_iload_n hX dX9_reach_33 rfl ?_
      refine J_iload hX dX9_reach_34 rfl ?_
      refine J_ior hX dX9_reach_36 ?_
      refine J_bdI (fun x5 => ?_)
      refine J_istore_n hX dX9_reach_37 (Nat.le_of_ble_eq_true rfl) (lv' := [(0, .ref (jad G (nm 0))), (1, .int v1), (2, .int v2), (3, .int x5), (4, .int v4_5), (5, .int q4)]) rfl ?_
      refine J_iinc hX dX9_reach_38 rfl (congrArg (_ + ·) k_i1) (Nat.le_of_ble_eq_true rfl) (lv' := [(0, .ref (jad G (nm 0))), (1, .int v1), (2, .int v2), (3, .int x5), (4, .int (v4_5 + 1)), (5, .int q4)]) rfl ?_
      refine J_goto hX dX9_reach_41 (tgt := 5) rfl ?_
      exact J_keep [0, 1, 2, 3, 4] rfl (hN5 (x5, v4_5 + 1))
theorem mw_X9_reach : jMV Y_X9_reach 2 := ⟨⟨tw_tb (List.mem_of_getElem? (i := 901) (by decide +kernel)) (by decide +kernel), tw_pv (List.mem_of_getElem? (i := 23) (by decide +kernel)) (by decide +kernel), tw_tb (List.mem_of_getElem? (i := 10) (by decide +kernel)) (by decide +kernel), tw_tb (List.mem_of_getElem? (i := 902) (by decide +kernel)) (by decide +kernel)⟩, ⟨rfl, rfl⟩, by decide +kernel, by decide +kernel, by decide +kernel⟩
-- X9_fewestNotes
noncomputable def f_X9_fewestNotes_L26 (nm : Nat → Nat) (v2 : Int32) (v3 : Int32) (s : (Int32 × jS)) : Option ((Int32 × jS) ⊕ jS) :=
  match s with
  | (v4, σ) =>
    if 64 ≤ v4 then
      some (.inr σ)
    else
      (f_X9_reach nm v4 v2 σ).bind (fun q3 =>
        gd (vp_in v4 64) (bd (s_i σ (nm 9) v4.toNatClampNeg (q3 &&& v3)) (fun s4 =>
          gd (vp_in v4 64) (
            if (g_i s4 (nm 9) v4.toNatClampNeg) = 0 then
              some (.inl (v4 + 1, s4))
            else
              gd (vp_in v4 64) (
                (f_X4_putIfLargest (jn nm [6, 7]) 256 (g_i s4 (nm 9) v4.toNatClampNeg) s4).bind (fun s5 =>
                  some (.inl (v4 + 1, s5))))))))
noncomputable def f_X9_fewestNotes (nm : Nat → Nat) (v1 : Int32) (v2 : Int32) (σ : jS) : Option (Int32 × jS) :=
  if (v1 &&& (v2 ^^^ (-1))) = 0 then
    bd (v2 &&& (v1 ^^^ (-1))) (fun x1 =>
      (f_X4_empty (jn nm [6, 7]) 256 σ).bind (fun s2 =>
        (lp (f_X9_fewestNotes_L26 nm v2 x1) fu (0, s2)).bind (fun s6 =>
          (f_X9_fewestThatHold nm x1 s6).bind (fun x => match x with
          | (q7, s8) =>
            some (q7, s8)))))
  else
    some ((-1), σ)
abbrev Y_X9_fewestNotes : jY := (yX9_fewestNotes, cX9_fewestNotes, 5, some .int, { frames := 3, cells := 0, slots := 0, locals := 70 })
theorem C_X9_fewestNotes {l : Launch} {G : jG} {nm : Nat → Nat} (hG : jWL G) (hE : jE G nm LS_X9) (v1 : Int32) (v2 : Int32) (σ : jS) : jC r_I l G Y_X9_fewestNotes [.ref (jad G (nm 0)), .int v1, .int v2] σ (f_X9_fewestNotes nm v1 v2 σ) := by
  refine jw_met hG pn_X9 (Nat.le_of_ble_eq_true rfl) ⟨rfl, rfl⟩ ?_
  intro X hX hM
  have hX : jB X l G cX9_fewestNotes RX9 5 { frames := 3, cells := 0, slots := 0, locals := 70 } := hX
  have hM : jM X (some .int) := hM
  show J X 0 [(0, .ref (jad G (nm 0))), (1, .int v1), (2, .int v2)] [] σ (f_X9_fewestNotes nm v1 v2 σ) (jk r_I X)
  unfold f_X9_fewestNotes
  refine J_iload_n hX dX9_fewestNotes_0 rfl ?_
  refine J_iload_n hX dX9_fewestNotes_1 rfl ?_
  refine J_iconst hX dX9_fewestNotes_2 k_im1 ?_
  refine J_ixor hX dX9_fewestNotes_3 ?_
  refine J_iand hX dX9_fewestNotes_4 ?_
  refine J_if_eq hX dX9_fewestNotes_5 (tgt := 10) rfl (fun _ => ?_) (fun _ => ?_)
  · refine J_iload_n hX dX9_fewestNotes_10 rfl ?_
    refine J_iload_n hX dX9_fewestNotes_11 rfl ?_
    refine J_iconst hX dX9_fewestNotes_12 k_im1 ?_
    refine J_ixor hX dX9_fewestNotes_13 ?_
    refine J_iand hX dX9_fewestNotes_14 ?_
    refine J_bdI (fun x9 => ?_)
    refine J_istore_n hX dX9_fewestNotes_15 (Nat.le_of_ble_eq_true rfl) (lv' := [(0, .ref (jad G (nm 0))), (1, .int v1), (2, .int v2), (3, .int x9)]) rfl ?_
    refine J_aload_n hX dX9_fewestNotes_16 rfl ?_
    refine J_getr hX hE 0 3 rfl rfl fl_X9_24 dX9_fewestNotes_17 ?_
    refine J_cVV hX hE 6 (C_X4_empty hG (hE.sb [6, 7] sb_18) σ) mw_X4_empty ml_X9_37 rfl rfl rfl ⟨Nat.le_of_ble_eq_true rfl, Nat.le_of_ble_eq_true rfl⟩ rfl rfl (Nat.le_of_ble_eq_true rfl) dX9_fewestNotes_20 (fun s10 => ?_)
    refine J_iconst hX dX9_fewestNotes_23 k_i0 ?_
    refine J_istore hX dX9_fewestNotes_24 (Nat.le_of_ble_eq_true rfl) (lv' := [(0, .ref (jad G (nm 0))), (1, .int v1), (2, .int v2), (3, .int x9), (4, .int 0)]) rfl ?_
    refine J_keep [0, 2, 3, 4] (lv' := [(0, .ref (jad G (nm 0))), (2, .int v2), (3, .int x9), (4, .int 0)]) rfl ?_
    refine J_lp (pc := 26) (s0 := (0, s10)) (fun (s : (Int32 × jS)) => [(0, .ref (jad G (nm 0))), (2, .int v2), (3, .int x9), (4, .int (s.1))]) (fun (s : (Int32 × jS)) => s.2) ?_
    intro KK26 hN26 hQ26 z26
    obtain ⟨v4_26, σ_26⟩ := z26
    show J X 26 [(0, .ref (jad G (nm 0))), (2, .int v2), (3, .int x9), (4, .int v4_26)] [] σ_26 (f_X9_fewestNotes_L26 nm v2 x9 (v4_26, σ_26)) KK26
    unfold f_X9_fewestNotes_L26
    refine J_iload hX dX9_fewestNotes_26 rfl ?_
    refine J_bipush hX dX9_fewestNotes_28 kb_64 ?_
    refine J_icmp_ge hX dX9_fewestNotes_30 (tgt := 79) rfl (fun _ => ?_) (fun _ => ?_)
    · refine hQ26 _ _ _ _ _ ?_
      refine J_aload_n hX dX9_fewestNotes_79 rfl ?_
      refine J_iload_n hX dX9_fewestNotes_80 rfl ?_
      refine J_cVI hX hE 0 (C_X9_fewestThatHold hG hE x9 σ_26) mw_X9_fewestThatHold ml_X9_65 rfl rfl rfl ⟨Nat.le_of_ble_eq_true rfl, Nat.le_of_ble_eq_true rfl⟩ rfl rfl (Nat.le_of_ble_eq_true rfl) dX9_fewestNotes_81 (fun q11 s12 => ?_)
      exact J_iret hX hM dX9_fewestNotes_84
    · refine J_aload_n hX dX9_fewestNotes_33 rfl ?_
      refine J_getr hX hE 0 5 rfl rfl fl_X9_30 dX9_fewestNotes_34 ?_
      refine J_iload hX dX9_fewestNotes_37 rfl ?_
      refine J_aload_n hX dX9_fewestNotes_39 rfl ?_
      refine J_iload hX dX9_fewestNotes_40 rfl ?_
      refine J_iload_n hX dX9_fewestNotes_42 rfl ?_
      refine J_cVP hX hE 0 (C_X9_reach hG hE v4_26 v2 σ_26) mw_X9_reach ml_X9_68 rfl rfl rfl ⟨Nat.le_of_ble_eq_true rfl, Nat.le_of_ble_eq_true rfl⟩ rfl rfl (Nat.le_of_ble_eq_true rfl) dX9_fewestNotes_43 (fun q13 => ?_)
      refine J_iload_n hX dX9_fewestNotes_46 rfl ?_
      refine J_iand hX dX9_fewestNotes_47 ?_
      refine J_iast hX hE 9 rfl dX9_fewestNotes_48 (fun _ => ?_)
      refine J_bdS (fun s14 => ?_)
      refine J_aload_n hX dX9_fewestNotes_49 rfl ?_
      refine J_getr hX hE 0 5 rfl rfl fl_X9_30 dX9_fewestNotes_50 ?_
      refine J_iload hX dX9_fewestNotes_53 rfl ?_
      refine J_iald hX hE 9 rfl dX9_fewestNotes_55 (fun _ => ?_)
      refine J_if_eq hX dX9_fewestNotes_56 (tgt := 73) rfl (fun _ => ?_) (fun _ => ?_)
      · refine J_iinc hX dX9_fewestNotes_73 rfl (congrArg (_ + ·) k_i1) (Nat.le_of_ble_eq_true rfl) (lv' := [(0, .ref (jad G (nm 0))), (2, .int v2), (3, .int x9), (4, .int (v4_26 + 1))]) rfl ?_
        refine J_goto hX dX9_fewestNotes_76 (tgt := 26) rfl ?_
        exact J_keep [0, 1, 2, 3] rfl (hN26 (v4_26 + 1, s14))
      · refine J_aload_n hX dX9_fewestNotes_59 rfl ?_
        refine J_getr hX hE 0 3 rfl rfl fl_X9_24 dX9_fewestNotes_60 ?_
        refine J_aload_n hX dX9_fewestNotes_63 rfl ?_
        refine J_getr hX hE 0 5 rfl rfl fl_X9_30 dX9_fewestNotes_64 ?_
        refine J_iload hX dX9_fewestNotes_67 rfl ?_
        refine J_iald hX hE 9 rfl dX9_fewestNotes_69 (fun _ => ?_)
        refine J_cVV hX hE 6 (C_X4_putIfLargest hG (hE.sb [6, 7] sb_18) (g_i s14 (nm 9) v4_26.toNatClampNeg) s14) mw_X4_putIfLargest ml_X9_62 rfl rfl rfl ⟨Nat.le_of_ble_eq_true rfl, Nat.le_of_ble_eq_true rfl⟩ rfl rfl (Nat.le_of_ble_eq_true rfl) dX9_fewestNotes_70 (fun s15 => ?_)
        refine J_iinc hX dX9_fewestNotes_73 rfl (congrArg (_ + ·) k_i1) (Nat.le_of_ble_eq_true rfl) (lv' := [(0, .ref (jad G (nm 0))), (2, .int v2), (3, .int x9), (4, .int (v4_26 + 1))]) rfl ?_
        refine J_goto hX dX9_fewestNotes_76 (tgt := 26) rfl ?_
        exact J_keep [0, 1, 2, 3] rfl (hN26 (v4_26 + 1, s15))
  · refine J_iconst hX dX9_fewestNotes_8 k_im1 ?_
    exact J_iret hX hM dX9_fewestNotes_9
theorem mw_X9_fewestNotes : jMV Y_X9_fewestNotes 2 := ⟨⟨tw_tb (List.mem_of_getElem? (i := 896) (by decide +kernel)) (by decide +kernel), tw_tb (List.mem_of_getElem? (i := 897) (by decide +kernel)) (by decide +kernel), tw_tb (List.mem_of_getElem? (i := 10) (by decide +kernel)) (by decide +kernel), tw_tb (List.mem_of_getElem? (i := 898) (by decide +kernel)) (by decide +kernel)⟩, ⟨rfl, rfl⟩, by decide +kernel, by decide +kernel, by decide +kernel⟩
-- X9_firstUseful
noncomputable def f_X9_firstUseful_L2 (nm : Nat → Nat) (v1 : Int32) (σ : jS) (v2 : Int32) : Option (Int32 ⊕ (Unit ⊕ Int32)) :=
  if 64 ≤ v2 then
    some (.inr (.inl ()))
  else
    gd (vp_in v2 64) (
      (f_X9_leastFor nm (v1 &&& ((g_i σ (nm 9) v2.toNatClampNeg) ^^^ (-1))) σ).bind (fun q1 =>
        (f_X9_leastFor nm v1 σ).bind (fun q2 =>
          if q2 ≤ q1 then
            some (.inl (v2 + 1))
          else
            some (.inr (.inr v2)))))
noncomputable def f_X9_firstUseful (nm : Nat → Nat) (v1 : Int32) (σ : jS) : Option Int32 :=
  (lp (f_X9_firstUseful_L2 nm v1 σ) fu 0).bind (fun x => match x with
  | .inl _ =>
    some (-1)
  | .inr a => some a)
abbrev Y_X9_firstUseful : jY := (yX9_firstUseful, cX9_firstUseful, 3, some .int, { frames := 1, cells := 0, slots := 0, locals := 21 })
theorem C_X9_firstUseful {l : Launch} {G : jG} {nm : Nat → Nat} (hG : jWL G) (hE : jE G nm LS_X9) (v1 : Int32) (σ : jS) : jC (r_P σ) l G Y_X9_firstUseful [.ref (jad G (nm 0)), .int v1] σ (f_X9_firstUseful nm v1 σ) := by
  refine jw_met hG pn_X9 (Nat.le_of_ble_eq_true rfl) ⟨rfl, rfl⟩ ?_
  intro X hX hM
  have hX : jB X l G cX9_firstUseful RX9 3 { frames := 1, cells := 0, slots := 0, locals := 21 } := hX
  have hM : jM X (some .int) := hM
  show J X 0 [(0, .ref (jad G (nm 0))), (1, .int v1)] [] σ (f_X9_firstUseful nm v1 σ) (jk (r_P σ) X)
  unfold f_X9_firstUseful
  refine J_iconst hX dX9_firstUseful_0 k_i0 ?_
  refine J_istore_n hX dX9_firstUseful_1 (Nat.le_of_ble_eq_true rfl) (lv' := [(0, .ref (jad G (nm 0))), (1, .int v1), (2, .int 0)]) rfl ?_
  refine J_keep [0, 1, 2] (lv' := [(0, .ref (jad G (nm 0))), (1, .int v1), (2, .int 0)]) rfl ?_
  refine J_lp (pc := 2) (s0 := 0) (fun (s : Int32) => [(0, .ref (jad G (nm 0))), (1, .int v1), (2, .int s)]) (fun (s : Int32) => σ) ?_
  intro KK2 hN2 hQ2 z2
  obtain ⟨v2_2, rfl⟩ : ∃ y, y = z2 := ⟨_, rfl⟩
  show J X 2 [(0, .ref (jad G (nm 0))), (1, .int v1), (2, .int v2_2)] [] σ (f_X9_firstUseful_L2 nm v1 σ v2_2) KK2
  unfold f_X9_firstUseful_L2
  refine J_iload_n hX dX9_firstUseful_2 rfl ?_
  refine J_bipush hX dX9_firstUseful_3 kb_64 ?_
  refine J_icmp_ge hX dX9_firstUseful_5 (tgt := 38) rfl (fun _ => ?_) (fun _ => ?_)
  · refine hQ2 _ _ _ _ _ ?_
    refine J_iconst hX dX9_firstUseful_38 k_im1 ?_
    exact J_iretP hX hM dX9_firstUseful_39
  · refine J_aload_n hX dX9_firstUseful_8 rfl ?_
    refine J_iload_n hX dX9_firstUseful_9 rfl ?_
    refine J_aload_n hX dX9_firstUseful_10 rfl ?_
    refine J_getr hX hE 0 5 rfl rfl fl_X9_30 dX9_firstUseful_11 ?_
    refine J_iload_n hX dX9_firstUseful_14 rfl ?_
    refine J_iald hX hE 9 rfl dX9_firstUseful_15 (fun _ => ?_)
    refine J_iconst hX dX9_firstUseful_16 k_im1 ?_
    refine J_ixor hX dX9_firstUseful_17 ?_
    refine J_iand hX dX9_firstUseful_18 ?_
    refine J_cVP hX hE 0 (C_X9_leastFor hG hE (v1 &&& ((g_i σ (nm 9) v2_2.toNatClampNeg) ^^^ (-1))) σ) mw_X9_leastFor ml_X9_74 rfl rfl rfl ⟨Nat.le_of_ble_eq_true rfl, Nat.le_of_ble_eq_true rfl⟩ rfl rfl (Nat.le_of_ble_eq_true rfl) dX9_firstUseful_19 (fun q3 => ?_)
    refine J_aload_n hX dX9_firstUseful_22 rfl ?_
    refine J_iload_n hX dX9_firstUseful_23 rfl ?_
    refine J_cVP hX hE 0 (C_X9_leastFor hG hE v1 σ) mw_X9_leastFor ml_X9_74 rfl rfl rfl ⟨Nat.le_of_ble_eq_true rfl, Nat.le_of_ble_eq_true rfl⟩ rfl rfl (Nat.le_of_ble_eq_true rfl) dX9_firstUseful_24 (fun q4 => ?_)
    refine J_icmp_ge hX dX9_firstUseful_27 (tgt := 32) rfl (fun _ => ?_) (fun _ => ?_)
    · refine J_iinc hX dX9_firstUseful_32 rfl (congrArg (_ + ·) k_i1) (Nat.le_of_ble_eq_true rfl) (lv' := [(0, .ref (jad G (nm 0))), (1, .int v1), (2, .int (v2_2 + 1))]) rfl ?_
      refine J_goto hX dX9_firstUseful_35 (tgt := 2) rfl ?_
      exact J_keep [0, 1, 2] rfl (hN2 (v2_2 + 1))
    · refine J_iload_n hX dX9_firstUseful_30 rfl ?_
      refine hQ2 _ _ _ _ _ ?_
      exact J_iretP hX hM dX9_firstUseful_31
theorem mw_X9_firstUseful : jMV Y_X9_firstUseful 1 := ⟨⟨tw_tb (List.mem_of_getElem? (i := 909) (by decide +kernel)) (by decide +kernel), tw_pv (List.mem_of_getElem? (i := 24) (by decide +kernel)) (by decide +kernel), tw_tb (List.mem_of_getElem? (i := 10) (by decide +kernel)) (by decide +kernel), tw_tb (List.mem_of_getElem? (i := 910) (by decide +kernel)) (by decide +kernel)⟩, ⟨rfl, rfl⟩, by decide +kernel, by decide +kernel, by decide +kernel⟩
-- X9_noteOfFewest
noncomputable def f_X9_noteOfFewest_L8 (nm : Nat → Nat) (v2 : Int32) (σ : jS) (s : (Int32 × Int32 × Int32)) : Option ((Int32 × Int32 × Int32) ⊕ (Int32 ⊕ Int32)) :=
  match s with
  | (v3, v4, v5) =>
    if v2 < v5 then
      some (.inr (.inl v4))
    else
      (f_X9_firstUseful nm v3 σ).bind (fun q1 =>
        if q1 = (-1) then
          some (.inr (.inr (-1)))
        else
          gd (vp_in q1 64) (
            bd (v3 &&& ((g_i σ (nm 9) q1.toNatClampNeg) ^^^ (-1))) (fun x2 =>
              some (.inl (x2, q1, v5 + 1)))))
noncomputable def f_X9_noteOfFewest (nm : Nat → Nat) (v1 : Int32) (v2 : Int32) (σ : jS) : Option Int32 :=
  (lp (f_X9_noteOfFewest_L8 nm v2 σ) fu (v1, (-1), 0)).bind (fun x => match x with
  | .inl e3 =>
    some e3
  | .inr a => some a)
abbrev Y_X9_noteOfFewest : jY := (yX9_noteOfFewest, cX9_noteOfFewest, 6, some .int, { frames := 2, cells := 0, slots := 0, locals := 43 })
theorem C_X9_noteOfFewest {l : Launch} {G : jG} {nm : Nat → Nat} (hG : jWL G) (hE : jE G nm LS_X9) (v1 : Int32) (v2 : Int32) (σ : jS) : jC (r_P σ) l G Y_X9_noteOfFewest [.ref (jad G (nm 0)), .int v1, .int v2] σ (f_X9_noteOfFewest nm v1 v2 σ) := by
  refine jw_met hG pn_X9 (Nat.le_of_ble_eq_true rfl) ⟨rfl, rfl⟩ ?_
  intro X hX hM
  have hX : jB X l G cX9_noteOfFewest RX9 6 { frames := 2, cells := 0, slots := 0, locals := 43 } := hX
  have hM : jM X (some .int) := hM
  show J X 0 [(0, .ref (jad G (nm 0))), (1, .int v1), (2, .int v2)] [] σ (f_X9_noteOfFewest nm v1 v2 σ) (jk (r_P σ) X)
  unfold f_X9_noteOfFewest
  refine J_iload_n hX dX9_noteOfFewest_0 rfl ?_
  refine J_istore_n hX dX9_noteOfFewest_1 (Nat.le_of_ble_eq_true rfl) (lv' := [(0, .ref (jad G (nm 0))), (1, .int v1), (2, .int v2), (3, .int v1)]) rfl ?_
  refine J_iconst hX dX9_noteOfFewest_2 k_im1 ?_
  refine J_istore hX dX9_noteOfFewest_3 (Nat.le_of_ble_eq_true rfl) (lv' := [(0, .ref (jad G (nm 0))), (1, .int v1), (2, .int v2), (3, .int v1), (4, .int (-1))]) rfl ?_
  refine J_iconst hX dX9_noteOfFewest_5 k_i0 ?_
  refine J_istore hX dX9_noteOfFewest_6 (Nat.le_of_ble_eq_true rfl) (lv' := [(0, .ref (jad G (nm 0))), (1, .int v1), (2, .int v2), (3, .int v1), (4, .int (-1)), (5, .int 0)]) rfl ?_
  refine J_keep [0, 2, 3, 4, 5] (lv' := [(0, .ref (jad G (nm 0))), (2, .int v2), (3, .int v1), (4, .int (-1)), (5, .int 0)]) rfl ?_
  refine J_lp (pc := 8) (s0 := (v1, (-1), 0)) (fun (s : (Int32 × Int32 × Int32)) => [(0, .ref (jad G (nm 0))), (2, .int v2), (3, .int (s.1)), (4, .int (s.2.1)), (5, .int (s.2.2))]) (fun (s : (Int32 × Int32 × Int32)) => σ) ?_
  intro KK8 hN8 hQ8 z8
  obtain ⟨v3_8, v4_8, v5_8⟩ := z8
  show J X 8 [(0, .ref (jad G (nm 0))), (2, .int v2), (3, .int v3_8), (4, .int v4_8), (5, .int v5_8)] [] σ (f_X9_noteOfFewest_L8 nm v2 σ (v3_8, v4_8, v5_8)) KK8
  unfold f_X9_noteOfFewest_L8
  refine J_iload hX dX9_noteOfFewest_8 rfl ?_
  refine J_iload_n hX dX9_noteOfFewest_10 rfl ?_
  refine J_icmp_gt hX dX9_noteOfFewest_11 (tgt := 47) rfl (fun _ => ?_) (fun _ => ?_)
  · refine hQ8 _ _ _ _ _ ?_
    refine J_iload hX dX9_noteOfFewest_47 rfl ?_
    exact J_iretP hX hM dX9_noteOfFewest_49
  · refine J_aload_n hX dX9_noteOfFewest_14 rfl ?_
    refine J_iload_n hX dX9_noteOfFewest_15 rfl ?_
    refine J_cVP hX hE 0 (C_X9_firstUseful hG hE v3_8 σ) mw_X9_firstUseful ml_X9_71 rfl rfl rfl ⟨Nat.le_of_ble_eq_true rfl, Nat.le_of_ble_eq_true rfl⟩ rfl rfl (Nat.le_of_ble_eq_true rfl) dX9_noteOfFewest_16 (fun q4 => ?_)
    refine J_istore hX dX9_noteOfFewest_19 (Nat.le_of_ble_eq_true rfl) (lv' := [(0, .ref (jad G (nm 0))), (2, .int v2), (3, .int v3_8), (4, .int q4), (5, .int v5_8)]) rfl ?_
    refine J_iload hX dX9_noteOfFewest_21 rfl ?_
    refine J_iconst hX dX9_noteOfFewest_23 k_im1 ?_
    refine J_icmp_ne hX dX9_noteOfFewest_24 (tgt := 29) rfl (fun _ => ?_) (fun _ => ?_)
    · refine J_iload_n hX dX9_noteOfFewest_29 rfl ?_
      refine J_aload_n hX dX9_noteOfFewest_30 rfl ?_
      refine J_getr hX hE 0 5 rfl rfl fl_X9_30 dX9_noteOfFewest_31 ?_
      refine J_iload hX dX9_noteOfFewest_34 rfl ?_
      refine J_iald hX hE 9 rfl dX9_noteOfFewest_36 (fun _ => ?_)
      refine J_iconst hX dX9_noteOfFewest_37 k_im1 ?_
      refine J_ixor hX dX9_noteOfFewest_38 ?_
      refine J_iand hX dX9_noteOfFewest_39 ?_
      refine J_bdI (fun x5 => ?_)
      refine J_istore_n hX dX9_noteOfFewest_40 (Nat.le_of_ble_eq_true rfl) (lv' := [(0, .ref (jad G (nm 0))), (2, .int v2), (3, .int x5), (4, .int q4), (5, .int v5_8)]) rfl ?_
      refine J_iinc hX dX9_noteOfFewest_41 rfl (congrArg (_ + ·) k_i1) (Nat.le_of_ble_eq_true rfl) (lv' := [(0, .ref (jad G (nm 0))), (2, .int v2), (3, .int x5), (4, .int q4), (5, .int (v5_8 + 1))]) rfl ?_
      refine J_goto hX dX9_noteOfFewest_44 (tgt := 8) rfl ?_
      exact J_keep [0, 1, 2, 3, 4] rfl (hN8 (x5, q4, v5_8 + 1))
    · refine J_iconst hX dX9_noteOfFewest_27 k_im1 ?_
      refine hQ8 _ _ _ _ _ ?_
      exact J_iretP hX hM dX9_noteOfFewest_28
theorem mw_X9_noteOfFewest : jMV Y_X9_noteOfFewest 2 := ⟨⟨tw_tb (List.mem_of_getElem? (i := 904) (by decide +kernel)) (by decide +kernel), tw_tb (List.mem_of_getElem? (i := 905) (by decide +kernel)) (by decide +kernel), tw_tb (List.mem_of_getElem? (i := 10) (by decide +kernel)) (by decide +kernel), tw_tb (List.mem_of_getElem? (i := 906) (by decide +kernel)) (by decide +kernel)⟩, ⟨rfl, rfl⟩, by decide +kernel, by decide +kernel, by decide +kernel⟩
-- X10_fewest
noncomputable def f_X10_fewest (nm : Nat → Nat) (v1 : Int32) (v2 : Int32) (v3 : Int32) (v4 : Int32) (σ : jS) : Option (Int32 × jS) :=
  (f_X10_isKnown nm v1 σ).bind (fun q1 =>
    if q1 = 0 then
      some ((-1001), σ)
    else
      (f_X10_isKnown nm v2 σ).bind (fun q2 =>
        if q2 = 0 then
          some ((-1001), σ)
        else
          (f_X10_isLoud v3).bind (fun q3 =>
            if q3 = 0 then
              some ((-1002), σ)
            else
              (f_X1_listen (jn nm [81, 82, 57, 31, 32, 33, 34, 35, 36, 37, 38, 39, 40, 41, 42, 43, 44, 45, 46, 47, 58, 59, 60, 61]) v3 σ).bind (fun s4 =>
                (f_X9_fewestNotes (jn nm [83, 81, 82, 84, 85, 86, 87, 88, 89, 90]) v1 v2 s4).bind (fun x => match x with
                | (q5, s6) =>
                  if v4 = (-1) then
                    some (q5, s6)
                  else
                    if v4 < 0 then
                      some ((-1), s6)
                    else
                      if q5 ≤ v4 then
                        some ((-1), s6)
                      else
                        (f_X9_noteOfFewest (jn nm [83, 81, 82, 84, 85, 86, 87, 88, 89, 90]) (v2 &&& (v1 ^^^ (-1))) v4 s6).bind (fun q7 =>
                          some (q7, s6)))))))
abbrev Y_X10_fewest : jY := (yX10_fewest, cX10_fewest, 6, some .int, { frames := 4, cells := 0, slots := 0, locals := 94 })
theorem C_X10_fewest {l : Launch} {G : jG} {nm : Nat → Nat} (hG : jWL G) (hE : jE G nm LS_X10) (v1 : Int32) (v2 : Int32) (v3 : Int32) (v4 : Int32) (σ : jS) : jC r_I l G Y_X10_fewest [.ref (jad G (nm 0)), .int v1, .int v2, .int v3, .int v4] σ (f_X10_fewest nm v1 v2 v3 v4 σ) := by
  refine jw_met hG pn_X10 (Nat.le_of_ble_eq_true rfl) ⟨rfl, rfl⟩ ?_
  intro X hX hM
  have hX : jB X l G cX10_fewest RX10 6 { frames := 4, cells := 0, slots := 0, locals := 94 } := hX
  have hM : jM X (some .int) := hM
  show J X 0 [(0, .ref (jad G (nm 0))), (1, .int v1), (2, .int v2), (3, .int v3), (4, .int v4)] [] σ (f_X10_fewest nm v1 v2 v3 v4 σ) (jk r_I X)
  unfold f_X10_fewest
  refine J_aload_n hX dX10_fewest_0 rfl ?_
  refine J_iload_n hX dX10_fewest_1 rfl ?_
  refine J_cVP hX hE 0 (C_X10_isKnown hG hE v1 σ) mw_X10_isKnown ml_X10_252 rfl rfl rfl ⟨Nat.le_of_ble_eq_true rfl, Nat.le_of_ble_eq_true rfl⟩ rfl rfl (Nat.le_of_ble_eq_true rfl) dX10_fewest_2 (fun q8 => ?_)
  refine J_if_eq hX dX10_fewest_5 (tgt := 16) rfl (fun _ => ?_) (fun _ => ?_)
  · refine J_sipush hX dX10_fewest_16 ks_m1001 ?_
    exact J_iret hX hM dX10_fewest_19
  · refine J_aload_n hX dX10_fewest_8 rfl ?_
    refine J_iload_n hX dX10_fewest_9 rfl ?_
    refine J_cVP hX hE 0 (C_X10_isKnown hG hE v2 σ) mw_X10_isKnown ml_X10_252 rfl rfl rfl ⟨Nat.le_of_ble_eq_true rfl, Nat.le_of_ble_eq_true rfl⟩ rfl rfl (Nat.le_of_ble_eq_true rfl) dX10_fewest_10 (fun q9 => ?_)
    refine J_if_ne hX dX10_fewest_13 (tgt := 20) rfl (fun _ => ?_) (fun _ => ?_)
    · refine J_iload_n hX dX10_fewest_20 rfl ?_
      refine J_cSP hX (C_X10_isLoud hG v3 σ) mw_X10_isLoud ml_X10_219 ⟨Nat.le_of_ble_eq_true rfl, Nat.le_of_ble_eq_true rfl⟩ rfl rfl (Nat.le_of_ble_eq_true rfl) dX10_fewest_21 (fun q10 => ?_)
      refine J_if_ne hX dX10_fewest_24 (tgt := 31) rfl (fun _ => ?_) (fun _ => ?_)
      · refine J_aload_n hX dX10_fewest_31 rfl ?_
        refine J_getr hX hE 0 11 rfl rfl fl_X10_71 dX10_fewest_32 ?_
        refine J_aload_n hX dX10_fewest_35 rfl ?_
        refine J_getr hX hE 0 5 rfl rfl fl_X10_49 dX10_fewest_36 ?_
        refine J_iload_n hX dX10_fewest_39 rfl ?_
        refine J_cVV hX hE 81 (C_X1_listen hG (hE.sb [81, 82, 57, 31, 32, 33, 34, 35, 36, 37, 38, 39, 40, 41, 42, 43, 44, 45, 46, 47, 58, 59, 60, 61] sb_21) v3 σ) mw_X1_listen ml_X10_262 rfl rfl rfl ⟨Nat.le_of_ble_eq_true rfl, Nat.le_of_ble_eq_true rfl⟩ rfl rfl (Nat.le_of_ble_eq_true rfl) dX10_fewest_40 (fun s11 => ?_)
        refine J_aload_n hX dX10_fewest_43 rfl ?_
        refine J_getr hX hE 0 12 rfl rfl fl_X10_80 dX10_fewest_44 ?_
        refine J_iload_n hX dX10_fewest_47 rfl ?_
        refine J_iload_n hX dX10_fewest_48 rfl ?_
        refine J_cVI hX hE 83 (C_X9_fewestNotes hG (hE.sb [83, 81, 82, 84, 85, 86, 87, 88, 89, 90] sb_20) v1 v2 s11) mw_X9_fewestNotes ml_X10_277 rfl rfl rfl ⟨Nat.le_of_ble_eq_true rfl, Nat.le_of_ble_eq_true rfl⟩ rfl rfl (Nat.le_of_ble_eq_true rfl) dX10_fewest_49 (fun q12 s13 => ?_)
        refine J_istore hX dX10_fewest_52 (Nat.le_of_ble_eq_true rfl) (lv' := [(0, .ref (jad G (nm 0))), (1, .int v1), (2, .int v2), (3, .int v3), (4, .int v4), (5, .int q12)]) rfl ?_
        refine J_iload hX dX10_fewest_54 rfl ?_
        refine J_iconst hX dX10_fewest_56 k_im1 ?_
        refine J_icmp_ne hX dX10_fewest_57 (tgt := 63) rfl (fun _ => ?_) (fun _ => ?_)
        · refine J_iload hX dX10_fewest_63 rfl ?_
          refine J_if_lt hX dX10_fewest_65 (tgt := 92) rfl (fun _ => ?_) (fun _ => ?_)
          · refine J_iconst hX dX10_fewest_92 k_im1 ?_
            exact J_iret hX hM dX10_fewest_93
          · refine J_iload hX dX10_fewest_68 rfl ?_
            refine J_iload hX dX10_fewest_70 rfl ?_
            refine J_icmp_ge hX dX10_fewest_72 (tgt := 92) rfl (fun _ => ?_) (fun _ => ?_)
            · refine J_iconst hX dX10_fewest_92 k_im1 ?_
              exact J_iret hX hM dX10_fewest_93
            · refine J_aload_n hX dX10_fewest_75 rfl ?_
              refine J_getr hX hE 0 12 rfl rfl fl_X10_80 dX10_fewest_76 ?_
              refine J_iload_n hX dX10_fewest_79 rfl ?_
              refine J_iload_n hX dX10_fewest_80 rfl ?_
              refine J_iconst hX dX10_fewest_81 k_im1 ?_
              refine J_ixor hX dX10_fewest_82 ?_
              refine J_iand hX dX10_fewest_83 ?_
              refine J_iload hX dX10_fewest_84 rfl ?_
              refine J_cVP hX hE 83 (C_X9_noteOfFewest hG (hE.sb [83, 81, 82, 84, 85, 86, 87, 88, 89, 90] sb_20) (v2 &&& (v1 ^^^ (-1))) v4 s13) mw_X9_noteOfFewest ml_X10_280 rfl rfl rfl ⟨Nat.le_of_ble_eq_true rfl, Nat.le_of_ble_eq_true rfl⟩ rfl rfl (Nat.le_of_ble_eq_true rfl) dX10_fewest_86 (fun q14 => ?_)
              refine J_goto hX dX10_fewest_89 (tgt := 93) rfl ?_
              exact J_iret hX hM dX10_fewest_93
        · refine J_iload hX dX10_fewest_60 rfl ?_
          exact J_iret hX hM dX10_fewest_62
      · refine J_sipush hX dX10_fewest_27 ks_m1002 ?_
        exact J_iret hX hM dX10_fewest_30
    · refine J_sipush hX dX10_fewest_16 ks_m1001 ?_
      exact J_iret hX hM dX10_fewest_19
theorem mw_X10_fewest : jMV Y_X10_fewest 4 := ⟨⟨tw_tb (List.mem_of_getElem? (i := 892) (by decide +kernel)) (by decide +kernel), tw_tb (List.mem_of_getElem? (i := 893) (by decide +kernel)) (by decide +kernel), tw_tb (List.mem_of_getElem? (i := 1) (by decide +kernel)) (by decide +kernel), tw_tb (List.mem_of_getElem? (i := 894) (by decide +kernel)) (by decide +kernel)⟩, ⟨rfl, rfl⟩, by decide +kernel, by decide +kernel, by decide +kernel⟩
-- X10_file
noncomputable def f_X10_file (nm : Nat → Nat) (v1 : Int32) (v2 : Int32) (σ : jS) : Option (Int32 × jS) :=
  (f_X10_isLamp nm v1 σ).bind (fun q1 =>
    if q1 = 0 then
      some ((-1001), σ)
    else
      gd (vp_in v1 10) (
        bd (g_i σ (nm 58) v1.toNatClampNeg) (fun x2 =>
          if v2 ≤ x2 then
            some ((-1002), σ)
          else
            if v2 < 64 then
              gd (vp_in v1 10) (bd (s_i σ (nm 58) v1.toNatClampNeg v2) (fun s3 =>
                bd (s_i s3 (nm 91) 7 0) (fun s4 =>
                  some (v2 - x2, s4))))
            else
              some ((-1002), σ))))
abbrev Y_X10_file : jY := (yX10_file, cX10_file, 4, some .int, { frames := 3, cells := 0, slots := 0, locals := 61 })
theorem C_X10_file {l : Launch} {G : jG} {nm : Nat → Nat} (hG : jWL G) (hE : jE G nm LS_X10) (v1 : Int32) (v2 : Int32) (σ : jS) : jC r_I l G Y_X10_file [.ref (jad G (nm 0)), .int v1, .int v2] σ (f_X10_file nm v1 v2 σ) := by
  refine jw_met hG pn_X10 (Nat.le_of_ble_eq_true rfl) ⟨rfl, rfl⟩ ?_
  intro X hX hM
  have hX : jB X l G cX10_file RX10 4 { frames := 3, cells := 0, slots := 0, locals := 61 } := hX
  have hM : jM X (some .int) := hM
  show J X 0 [(0, .ref (jad G (nm 0))), (1, .int v1), (2, .int v2)] [] σ (f_X10_file nm v1 v2 σ) (jk r_I X)
  unfold f_X10_file
  refine J_aload_n hX dX10_file_0 rfl ?_
  refine J_iload_n hX dX10_file_1 rfl ?_
  refine J_cVP hX hE 0 (C_X10_isLamp hG hE v1 σ) mw_X10_isLamp ml_X10_167 rfl rfl rfl ⟨Nat.le_of_ble_eq_true rfl, Nat.le_of_ble_eq_true rfl⟩ rfl rfl (Nat.le_of_ble_eq_true rfl) dX10_file_2 (fun q5 => ?_)
  refine J_if_ne hX dX10_file_5 (tgt := 12) rfl (fun _ => ?_) (fun _ => ?_)
  · refine J_aload_n hX dX10_file_12 rfl ?_
    refine J_getr hX hE 0 5 rfl rfl fl_X10_49 dX10_file_13 ?_
    refine J_getr hX hE 57 1 rfl rfl fl_X10_178 dX10_file_16 ?_
    refine J_iload_n hX dX10_file_19 rfl ?_
    refine J_iald hX hE 58 rfl dX10_file_20 (fun _ => ?_)
    refine J_bdI (fun x6 => ?_)
    refine J_istore_n hX dX10_file_21 (Nat.le_of_ble_eq_true rfl) (lv' := [(0, .ref (jad G (nm 0))), (1, .int v1), (2, .int v2), (3, .int x6)]) rfl ?_
    refine J_iload_n hX dX10_file_22 rfl ?_
    refine J_iload_n hX dX10_file_23 rfl ?_
    refine J_icmp_le hX dX10_file_24 (tgt := 33) rfl (fun _ => ?_) (fun _ => ?_)
    · refine J_sipush hX dX10_file_33 ks_m1002 ?_
      exact J_iret hX hM dX10_file_36
    · refine J_iload_n hX dX10_file_27 rfl ?_
      refine J_bipush hX dX10_file_28 kb_64 ?_
      refine J_icmp_lt hX dX10_file_30 (tgt := 37) rfl (fun _ => ?_) (fun _ => ?_)
      · refine J_aload_n hX dX10_file_37 rfl ?_
        refine J_getr hX hE 0 5 rfl rfl fl_X10_49 dX10_file_38 ?_
        refine J_getr hX hE 57 1 rfl rfl fl_X10_178 dX10_file_41 ?_
        refine J_iload_n hX dX10_file_44 rfl ?_
        refine J_iload_n hX dX10_file_45 rfl ?_
        refine J_iast hX hE 58 rfl dX10_file_46 (fun _ => ?_)
        refine J_bdS (fun s7 => ?_)
        refine J_aload_n hX dX10_file_47 rfl ?_
        refine J_getr hX hE 0 13 rfl rfl fl_X10_87 dX10_file_48 ?_
        refine J_iconst hX dX10_file_51 k_i0 ?_
        refine J_putz hX hE 91 7 jn_0 jf_0 rfl rfl fp_X10_125 dX10_file_52 ?_
        refine J_bdS (fun s8 => ?_)
        refine J_iload_n hX dX10_file_55 rfl ?_
        refine J_iload_n hX dX10_file_56 rfl ?_
        refine J_isub hX dX10_file_57 ?_
        exact J_iret hX hM dX10_file_58
      · refine J_sipush hX dX10_file_33 ks_m1002 ?_
        exact J_iret hX hM dX10_file_36
  · refine J_sipush hX dX10_file_8 ks_m1001 ?_
    exact J_iret hX hM dX10_file_11
theorem mw_X10_file : jMV Y_X10_file 2 := ⟨⟨tw_tb (List.mem_of_getElem? (i := 929) (by decide +kernel)) (by decide +kernel), tw_tb (List.mem_of_getElem? (i := 930) (by decide +kernel)) (by decide +kernel), tw_tb (List.mem_of_getElem? (i := 1) (by decide +kernel)) (by decide +kernel), tw_tb (List.mem_of_getElem? (i := 931) (by decide +kernel)) (by decide +kernel)⟩, ⟨rfl, rfl⟩, by decide +kernel, by decide +kernel, by decide +kernel⟩
-- X8_lastUseful
noncomputable def f_X8_lastUseful_L4 (nm : Nat → Nat) (σ : jS) (s : (Int32 × Int32)) : Option ((Int32 × Int32) ⊕ Int32) :=
  match s with
  | (v1, v2) =>
    (f_X6_lamps nm σ).bind (fun q1 =>
      if q1 ≤ v2 then
        some (.inr v1)
      else
        (f_X4_at (jn nm [1, 2]) 10 v2 σ).bind (fun q2 =>
          bd (imax v1 ((q2 - (g_i σ (nm 0) 10)) + 1)) (fun x3 =>
            some (.inl (x3, v2 + 1)))))
noncomputable def f_X8_lastUseful (nm : Nat → Nat) (σ : jS) : Option Int32 :=
  (lp (f_X8_lastUseful_L4 nm σ) fu (0, 0)).bind (fun e4 =>
    some e4)
abbrev Y_X8_lastUseful : jY := (yX8_lastUseful, cX8_lastUseful, 3, some .int, { frames := 2, cells := 0, slots := 0, locals := 40 })
theorem C_X8_lastUseful {l : Launch} {G : jG} {nm : Nat → Nat} (hG : jWL G) (hE : jE G nm LS_X6) (σ : jS) : jC (r_P σ) l G Y_X8_lastUseful [.ref (jad G (nm 0))] σ (f_X8_lastUseful nm σ) := by
  refine jw_met hG pn_X8 (Nat.le_of_ble_eq_true rfl) ⟨rfl, rfl⟩ ?_
  intro X hX hM
  have hX : jB X l G cX8_lastUseful RX8 3 { frames := 2, cells := 0, slots := 0, locals := 40 } := hX
  have hM : jM X (some .int) := hM
  show J X 0 [(0, .ref (jad G (nm 0)))] [] σ (f_X8_lastUseful nm σ) (jk (r_P σ) X)
  unfold f_X8_lastUseful
  refine J_iconst hX dX8_lastUseful_0 k_i0 ?_
  refine J_istore_n hX dX8_lastUseful_1 (Nat.le_of_ble_eq_true rfl) (lv' := [(0, .ref (jad G (nm 0))), (1, .int 0)]) rfl ?_
  refine J_iconst hX dX8_lastUseful_2 k_i0 ?_
  refine J_istore_n hX dX8_lastUseful_3 (Nat.le_of_ble_eq_true rfl) (lv' := [(0, .ref (jad G (nm 0))), (1, .int 0), (2, .int 0)]) rfl ?_
  refine J_keep [0, 1, 2] (lv' := [(0, .ref (jad G (nm 0))), (1, .int 0), (2, .int 0)]) rfl ?_
  refine J_lp (pc := 4) (s0 := (0, 0)) (fun (s : (Int32 × Int32)) => [(0, .ref (jad G (nm 0))), (1, .int (s.1)), (2, .int (s.2))]) (fun (s : (Int32 × Int32)) => σ) ?_
  intro KK4 hN4 hQ4 z4
  obtain ⟨v1_4, v2_4⟩ := z4
  show J X 4 [(0, .ref (jad G (nm 0))), (1, .int v1_4), (2, .int v2_4)] [] σ (f_X8_lastUseful_L4 nm σ (v1_4, v2_4)) KK4
  unfold f_X8_lastUseful_L4
  refine J_iload_n hX dX8_lastUseful_4 rfl ?_
  refine J_aload_n hX dX8_lastUseful_5 rfl ?_
  refine J_cVP hX hE 0 (C_X6_lamps hG hE σ) mw_X6_lamps ml_X8_95 rfl rfl rfl ⟨Nat.le_of_ble_eq_true rfl, Nat.le_of_ble_eq_true rfl⟩ rfl rfl (Nat.le_of_ble_eq_true rfl) dX8_lastUseful_6 (fun q5 => ?_)
  refine J_icmp_ge hX dX8_lastUseful_9 (tgt := 38) rfl (fun _ => ?_) (fun _ => ?_)
  · refine hQ4 _ _ _ _ _ ?_
    refine J_iload_n hX dX8_lastUseful_38 rfl ?_
    exact J_iretP hX hM dX8_lastUseful_39
  · refine J_iload_n hX dX8_lastUseful_12 rfl ?_
    refine J_aload_n hX dX8_lastUseful_13 rfl ?_
    refine J_getr hX hE 0 0 rfl rfl fl_X8_98 dX8_lastUseful_14 ?_
    refine J_iload_n hX dX8_lastUseful_17 rfl ?_
    refine J_cVP hX hE 1 (C_X4_at hG (hE.sb [1, 2] sb_0) v2_4 σ) mw_X4_at ml_X8_43 rfl rfl rfl ⟨Nat.le_of_ble_eq_true rfl, Nat.le_of_ble_eq_true rfl⟩ rfl rfl (Nat.le_of_ble_eq_true rfl) dX8_lastUseful_18 (fun q6 => ?_)
    refine J_aload_n hX dX8_lastUseful_21 rfl ?_
    refine J_geti hX hE 0 10 rfl rfl fl_X8_56 dX8_lastUseful_22 ?_
    refine J_isub hX dX8_lastUseful_25 ?_
    refine J_iconst hX dX8_lastUseful_26 k_i1 ?_
    refine J_iadd hX dX8_lastUseful_27 ?_
    refine J_mmax2 hX mm_X8_101 (Nat.le_of_ble_eq_true rfl) (Nat.le_of_ble_eq_true rfl) dX8_lastUseful_28 ?_
    refine J_bdI (fun x7 => ?_)
    refine J_istore_n hX dX8_lastUseful_31 (Nat.le_of_ble_eq_true rfl) (lv' := [(0, .ref (jad G (nm 0))), (1, .int x7), (2, .int v2_4)]) rfl ?_
    refine J_iinc hX dX8_lastUseful_32 rfl (congrArg (_ + ·) k_i1) (Nat.le_of_ble_eq_true rfl) (lv' := [(0, .ref (jad G (nm 0))), (1, .int x7), (2, .int (v2_4 + 1))]) rfl ?_
    refine J_goto hX dX8_lastUseful_35 (tgt := 4) rfl ?_
    exact J_keep [0, 1, 2] rfl (hN4 (x7, v2_4 + 1))
theorem mw_X8_lastUseful : jMS Y_X8_lastUseful 1 := ⟨⟨tw_tb (List.mem_of_getElem? (i := 764) (by decide +kernel)) (by decide +kernel), tw_tb (List.mem_of_getElem? (i := 11) (by decide +kernel)) (by decide +kernel), tw_tb (List.mem_of_getElem? (i := 765) (by decide +kernel)) (by decide +kernel)⟩, ⟨rfl, rfl⟩, by decide +kernel, by decide +kernel, by decide +kernel⟩
-- X8_behindAt
noncomputable def f_X8_behindAt_L4 (nm : Nat → Nat) (v1 : Int32) (σ : jS) (s : (Int32 × Int32)) : Option ((Int32 × Int32) ⊕ Int32) :=
  match s with
  | (v2, v3) =>
    (f_X6_lamps nm σ).bind (fun q1 =>
      if q1 ≤ v3 then
        some (.inr v2)
      else
        (f_X4_at (jn nm [1, 2]) 10 v3 σ).bind (fun q2 =>
          if (v1 - q2) < (g_i σ (nm 0) 10) then
            some (.inl (v2, v3 + 1))
          else
            bd (v2 ||| (1 <<< (v3 &&& 31))) (fun x3 =>
              some (.inl (x3, v3 + 1)))))
noncomputable def f_X8_behindAt (nm : Nat → Nat) (v1 : Int32) (σ : jS) : Option Int32 :=
  (lp (f_X8_behindAt_L4 nm v1 σ) fu (0, 0)).bind (fun e4 =>
    some e4)
abbrev Y_X8_behindAt : jY := (yX8_behindAt, cX8_behindAt, 4, some .int, { frames := 2, cells := 0, slots := 0, locals := 40 })
theorem C_X8_behindAt {l : Launch} {G : jG} {nm : Nat → Nat} (hG : jWL G) (hE : jE G nm LS_X6) (v1 : Int32) (σ : jS) : jC (r_P σ) l G Y_X8_behindAt [.ref (jad G (nm 0)), .int v1] σ (f_X8_behindAt nm v1 σ) := by
  refine jw_met hG pn_X8 (Nat.le_of_ble_eq_true rfl) ⟨rfl, rfl⟩ ?_
  intro X hX hM
  have hX : jB X l G cX8_behindAt RX8 4 { frames := 2, cells := 0, slots := 0, locals := 40 } := hX
  have hM : jM X (some .int) := hM
  show J X 0 [(0, .ref (jad G (nm 0))), (1, .int v1)] [] σ (f_X8_behindAt nm v1 σ) (jk (r_P σ) X)
  unfold f_X8_behindAt
  refine J_iconst hX dX8_behindAt_0 k_i0 ?_
  refine J_istore_n hX dX8_behindAt_1 (Nat.le_of_ble_eq_true rfl) (lv' := [(0, .ref (jad G (nm 0))), (1, .int v1), (2, .int 0)]) rfl ?_
  refine J_iconst hX dX8_behindAt_2 k_i0 ?_
  refine J_istore_n hX dX8_behindAt_3 (Nat.le_of_ble_eq_true rfl) (lv' := [(0, .ref (jad G (nm 0))), (1, .int v1), (2, .int 0), (3, .int 0)]) rfl ?_
  refine J_keep [0, 1, 2, 3] (lv' := [(0, .ref (jad G (nm 0))), (1, .int v1), (2, .int 0), (3, .int 0)]) rfl ?_
  refine J_lp (pc := 4) (s0 := (0, 0)) (fun (s : (Int32 × Int32)) => [(0, .ref (jad G (nm 0))), (1, .int v1), (2, .int (s.1)), (3, .int (s.2))]) (fun (s : (Int32 × Int32)) => σ) ?_
  intro KK4 hN4 hQ4 z4
  obtain ⟨v2_4, v3_4⟩ := z4
  show J X 4 [(0, .ref (jad G (nm 0))), (1, .int v1), (2, .int v2_4), (3, .int v3_4)] [] σ (f_X8_behindAt_L4 nm v1 σ (v2_4, v3_4)) KK4
  unfold f_X8_behindAt_L4
  refine J_iload_n hX dX8_behindAt_4 rfl ?_
  refine J_aload_n hX dX8_behindAt_5 rfl ?_
  refine J_cVP hX hE 0 (C_X6_lamps hG hE σ) mw_X6_lamps ml_X8_95 rfl rfl rfl ⟨Nat.le_of_ble_eq_true rfl, Nat.le_of_ble_eq_true rfl⟩ rfl rfl (Nat.le_of_ble_eq_true rfl) dX8_behindAt_6 (fun q5 => ?_)
  refine J_icmp_ge hX dX8_behindAt_9 (tgt := 41) rfl (fun _ => ?_) (fun _ => ?_)
  · refine hQ4 _ _ _ _ _ ?_
    refine J_iload_n hX dX8_behindAt_41 rfl ?_
    exact J_iretP hX hM dX8_behindAt_42
  · refine J_iload_n hX dX8_behindAt_12 rfl ?_
    refine J_aload_n hX dX8_behindAt_13 rfl ?_
    refine J_getr hX hE 0 0 rfl rfl fl_X8_98 dX8_behindAt_14 ?_
    refine J_iload_n hX dX8_behindAt_17 rfl ?_
    refine J_cVP hX hE 1 (C_X4_at hG (hE.sb [1, 2] sb_0) v3_4 σ) mw_X4_at ml_X8_43 rfl rfl rfl ⟨Nat.le_of_ble_eq_true rfl, Nat.le_of_ble_eq_true rfl⟩ rfl rfl (Nat.le_of_ble_eq_true rfl) dX8_behindAt_18 (fun q6 => ?_)
    refine J_isub hX dX8_behindAt_21 ?_
    refine J_aload_n hX dX8_behindAt_22 rfl ?_
    refine J_geti hX hE 0 10 rfl rfl fl_X8_56 dX8_behindAt_23 ?_
    refine J_icmp_lt hX dX8_behindAt_26 (tgt := 35) rfl (fun _ => ?_) (fun _ => ?_)
    · refine J_iinc hX dX8_behindAt_35 rfl (congrArg (_ + ·) k_i1) (Nat.le_of_ble_eq_true rfl) (lv' := [(0, .ref (jad G (nm 0))), (1, .int v1), (2, .int v2_4), (3, .int (v3_4 + 1))]) rfl ?_
      refine J_goto hX dX8_behindAt_38 (tgt := 4) rfl ?_
      exact J_keep [0, 1, 2, 3] rfl (hN4 (v2_4, v3_4 + 1))
    · refine J_iload_n hX dX8_behindAt_29 rfl ?_
      refine J_iconst hX dX8_behindAt_30 k_i1 ?_
      refine J_iload_n hX dX8_behindAt_31 rfl ?_
      refine J_ishl hX dX8_behindAt_32 ?_
      refine J_ior hX dX8_behindAt_33 ?_
      refine J_bdI (fun x7 => ?_)
      refine J_istore_n hX dX8_behindAt_34 (Nat.le_of_ble_eq_true rfl) (lv' := [(0, .ref (jad G (nm 0))), (1, .int v1), (2, .int x7), (3, .int v3_4)]) rfl ?_
      refine J_iinc hX dX8_behindAt_35 rfl (congrArg (_ + ·) k_i1) (Nat.le_of_ble_eq_true rfl) (lv' := [(0, .ref (jad G (nm 0))), (1, .int v1), (2, .int x7), (3, .int (v3_4 + 1))]) rfl ?_
      refine J_goto hX dX8_behindAt_38 (tgt := 4) rfl ?_
      exact J_keep [0, 1, 2, 3] rfl (hN4 (x7, v3_4 + 1))
theorem mw_X8_behindAt : jMS Y_X8_behindAt 2 := ⟨⟨tw_tb (List.mem_of_getElem? (i := 770) (by decide +kernel)) (by decide +kernel), tw_tb (List.mem_of_getElem? (i := 11) (by decide +kernel)) (by decide +kernel), tw_tb (List.mem_of_getElem? (i := 771) (by decide +kernel)) (by decide +kernel)⟩, ⟨rfl, rfl⟩, by decide +kernel, by decide +kernel, by decide +kernel⟩
-- X8_gatherLargest
noncomputable def f_X8_gatherLargest_L9 (nm : Nat → Nat) (v1 : Int32) (s : (Int32 × jS)) : Option ((Int32 × jS) ⊕ jS) :=
  match s with
  | (v2, σ) =>
    if 64 ≤ v2 then
      some (.inr σ)
    else
      (f_X1_at (jn nm [1, 2]) v1 v2 σ).bind (fun q2 =>
        if q2 = 0 then
          some (.inl (v2 + 1, σ))
        else
          (f_X4_putIfLargest (jn nm [5, 6]) 64 q2 σ).bind (fun s3 =>
            some (.inl (v2 + 1, s3))))
noncomputable def f_X8_gatherLargest (nm : Nat → Nat) (v1 : Int32) (σ : jS) : Option jS :=
  (f_X4_empty (jn nm [5, 6]) 64 σ).bind (fun s1 =>
    (lp (f_X8_gatherLargest_L9 nm v1) fu (0, s1)).bind (fun s4 =>
      some s4))
abbrev Y_X8_gatherLargest : jY := (yX8_gatherLargest, cX8_gatherLargest, 4, none, { frames := 2, cells := 0, slots := 0, locals := 45 })
theorem C_X8_gatherLargest {l : Launch} {G : jG} {nm : Nat → Nat} (hG : jWL G) (hE : jE G nm LS_X8) (v1 : Int32) (σ : jS) : jC r_V l G Y_X8_gatherLargest [.ref (jad G (nm 0)), .int v1] σ (f_X8_gatherLargest nm v1 σ) := by
  refine jw_met hG pn_X8 (Nat.le_of_ble_eq_true rfl) ⟨rfl, rfl⟩ ?_
  intro X hX hM
  have hX : jB X l G cX8_gatherLargest RX8 4 { frames := 2, cells := 0, slots := 0, locals := 45 } := hX
  have hM : jM X (none) := hM
  show J X 0 [(0, .ref (jad G (nm 0))), (1, .int v1)] [] σ (f_X8_gatherLargest nm v1 σ) (jk r_V X)
  unfold f_X8_gatherLargest
  refine J_aload_n hX dX8_gatherLargest_0 rfl ?_
  refine J_getr hX hE 0 3 rfl rfl fl_X8_24 dX8_gatherLargest_1 ?_
  refine J_cVV hX hE 5 (C_X4_empty hG (hE.sb [5, 6] sb_33) σ) mw_X4_empty ml_X8_110 rfl rfl rfl ⟨Nat.le_of_ble_eq_true rfl, Nat.le_of_ble_eq_true rfl⟩ rfl rfl (Nat.le_of_ble_eq_true rfl) dX8_gatherLargest_4 (fun s5 => ?_)
  refine J_iconst hX dX8_gatherLargest_7 k_i0 ?_
  refine J_istore_n hX dX8_gatherLargest_8 (Nat.le_of_ble_eq_true rfl) (lv' := [(0, .ref (jad G (nm 0))), (1, .int v1), (2, .int 0)]) rfl ?_
  refine J_keep [0, 1, 2] (lv' := [(0, .ref (jad G (nm 0))), (1, .int v1), (2, .int 0)]) rfl ?_
  refine J_lp (pc := 9) (s0 := (0, s5)) (fun (s : (Int32 × jS)) => [(0, .ref (jad G (nm 0))), (1, .int v1), (2, .int (s.1))]) (fun (s : (Int32 × jS)) => s.2) ?_
  intro KK9 hN9 hQ9 z9
  obtain ⟨v2_9, σ_9⟩ := z9
  show J X 9 [(0, .ref (jad G (nm 0))), (1, .int v1), (2, .int v2_9)] [] σ_9 (f_X8_gatherLargest_L9 nm v1 (v2_9, σ_9)) KK9
  unfold f_X8_gatherLargest_L9
  refine J_iload_n hX dX8_gatherLargest_9 rfl ?_
  refine J_bipush hX dX8_gatherLargest_10 kb_64 ?_
  refine J_icmp_ge hX dX8_gatherLargest_12 (tgt := 43) rfl (fun _ => ?_) (fun _ => ?_)
  · refine hQ9 _ _ _ _ _ ?_
    exact J_vret hX hM dX8_gatherLargest_43
  · refine J_aload_n hX dX8_gatherLargest_15 rfl ?_
    refine J_getr hX hE 0 0 rfl rfl fl_X8_31 dX8_gatherLargest_16 ?_
    refine J_iload_n hX dX8_gatherLargest_19 rfl ?_
    refine J_iload_n hX dX8_gatherLargest_20 rfl ?_
    refine J_cVP hX hE 1 (C_X1_at hG (hE.sb [1, 2] sb_34) v1 v2_9 σ_9) mw_X1_at ml_X8_113 rfl rfl rfl ⟨Nat.le_of_ble_eq_true rfl, Nat.le_of_ble_eq_true rfl⟩ rfl rfl (Nat.le_of_ble_eq_true rfl) dX8_gatherLargest_21 (fun q6 => ?_)
    refine J_istore_n hX dX8_gatherLargest_24 (Nat.le_of_ble_eq_true rfl) (lv' := [(0, .ref (jad G (nm 0))), (1, .int v1), (2, .int v2_9), (3, .int q6)]) rfl ?_
    refine J_iload_n hX dX8_gatherLargest_25 rfl ?_
    refine J_if_eq hX dX8_gatherLargest_26 (tgt := 37) rfl (fun _ => ?_) (fun _ => ?_)
    · refine J_iinc hX dX8_gatherLargest_37 rfl (congrArg (_ + ·) k_i1) (Nat.le_of_ble_eq_true rfl) (lv' := [(0, .ref (jad G (nm 0))), (1, .int v1), (2, .int (v2_9 + 1)), (3, .int q6)]) rfl ?_
      refine J_goto hX dX8_gatherLargest_40 (tgt := 9) rfl ?_
      exact J_keep [0, 1, 2] rfl (hN9 (v2_9 + 1, σ_9))
    · refine J_aload_n hX dX8_gatherLargest_29 rfl ?_
      refine J_getr hX hE 0 3 rfl rfl fl_X8_24 dX8_gatherLargest_30 ?_
      refine J_iload_n hX dX8_gatherLargest_33 rfl ?_
      refine J_cVV hX hE 5 (C_X4_putIfLargest hG (hE.sb [5, 6] sb_33) q6 σ_9) mw_X4_putIfLargest ml_X8_115 rfl rfl rfl ⟨Nat.le_of_ble_eq_true rfl, Nat.le_of_ble_eq_true rfl⟩ rfl rfl (Nat.le_of_ble_eq_true rfl) dX8_gatherLargest_34 (fun s7 => ?_)
      refine J_iinc hX dX8_gatherLargest_37 rfl (congrArg (_ + ·) k_i1) (Nat.le_of_ble_eq_true rfl) (lv' := [(0, .ref (jad G (nm 0))), (1, .int v1), (2, .int (v2_9 + 1)), (3, .int q6)]) rfl ?_
      refine J_goto hX dX8_gatherLargest_40 (tgt := 9) rfl ?_
      exact J_keep [0, 1, 2] rfl (hN9 (v2_9 + 1, s7))
theorem mw_X8_gatherLargest : jMV Y_X8_gatherLargest 1 := ⟨⟨tw_tb (List.mem_of_getElem? (i := 774) (by decide +kernel)) (by decide +kernel), tw_pv (List.mem_of_getElem? (i := 12) (by decide +kernel)) (by decide +kernel), tw_tb (List.mem_of_getElem? (i := 11) (by decide +kernel)) (by decide +kernel), tw_tb (List.mem_of_getElem? (i := 775) (by decide +kernel)) (by decide +kernel)⟩, ⟨rfl, rfl⟩, by decide +kernel, by decide +kernel, by decide +kernel⟩
-- X8_nearTo
noncomputable def f_X8_nearTo_L4 (nm : Nat → Nat) (v1 : Int32) (σ : jS) (s : (Int32 × Int32)) : Option ((Int32 × Int32) ⊕ Int32) :=
  match s with
  | (v2, v3) =>
    (f_X6_lamps nm σ).bind (fun q1 =>
      if q1 ≤ v3 then
        some (.inr v2)
      else
        (f_X4_at (jn nm [1, 2]) 10 v3 σ).bind (fun q2 =>
          if (g_i σ (nm 0) 10) ≤ (iabs (v1 - q2)) then
            some (.inl (v2, v3 + 1))
          else
            bd (v2 ||| (1 <<< (v3 &&& 31))) (fun x3 =>
              some (.inl (x3, v3 + 1)))))
noncomputable def f_X8_nearTo (nm : Nat → Nat) (v1 : Int32) (σ : jS) : Option Int32 :=
  (lp (f_X8_nearTo_L4 nm v1 σ) fu (0, 0)).bind (fun e4 =>
    some e4)
abbrev Y_X8_nearTo : jY := (yX8_nearTo, cX8_nearTo, 4, some .int, { frames := 2, cells := 0, slots := 0, locals := 40 })
theorem C_X8_nearTo {l : Launch} {G : jG} {nm : Nat → Nat} (hG : jWL G) (hE : jE G nm LS_X6) (v1 : Int32) (σ : jS) : jC (r_P σ) l G Y_X8_nearTo [.ref (jad G (nm 0)), .int v1] σ (f_X8_nearTo nm v1 σ) := by
  refine jw_met hG pn_X8 (Nat.le_of_ble_eq_true rfl) ⟨rfl, rfl⟩ ?_
  intro X hX hM
  have hX : jB X l G cX8_nearTo RX8 4 { frames := 2, cells := 0, slots := 0, locals := 40 } := hX
  have hM : jM X (some .int) := hM
  show J X 0 [(0, .ref (jad G (nm 0))), (1, .int v1)] [] σ (f_X8_nearTo nm v1 σ) (jk (r_P σ) X)
  unfold f_X8_nearTo
  refine J_iconst hX dX8_nearTo_0 k_i0 ?_
  refine J_istore_n hX dX8_nearTo_1 (Nat.le_of_ble_eq_true rfl) (lv' := [(0, .ref (jad G (nm 0))), (1, .int v1), (2, .int 0)]) rfl ?_
  refine J_iconst hX dX8_nearTo_2 k_i0 ?_
  refine J_istore_n hX dX8_nearTo_3 (Nat.le_of_ble_eq_true rfl) (lv' := [(0, .ref (jad G (nm 0))), (1, .int v1), (2, .int 0), (3, .int 0)]) rfl ?_
  refine J_keep [0, 1, 2, 3] (lv' := [(0, .ref (jad G (nm 0))), (1, .int v1), (2, .int 0), (3, .int 0)]) rfl ?_
  refine J_lp (pc := 4) (s0 := (0, 0)) (fun (s : (Int32 × Int32)) => [(0, .ref (jad G (nm 0))), (1, .int v1), (2, .int (s.1)), (3, .int (s.2))]) (fun (s : (Int32 × Int32)) => σ) ?_
  intro KK4 hN4 hQ4 z4
  obtain ⟨v2_4, v3_4⟩ := z4
  show J X 4 [(0, .ref (jad G (nm 0))), (1, .int v1), (2, .int v2_4), (3, .int v3_4)] [] σ (f_X8_nearTo_L4 nm v1 σ (v2_4, v3_4)) KK4
  unfold f_X8_nearTo_L4
  refine J_iload_n hX dX8_nearTo_4 rfl ?_
  refine J_aload_n hX dX8_nearTo_5 rfl ?_
  refine J_cVP hX hE 0 (C_X6_lamps hG hE σ) mw_X6_lamps ml_X8_95 rfl rfl rfl ⟨Nat.le_of_ble_eq_true rfl, Nat.le_of_ble_eq_true rfl⟩ rfl rfl (Nat.le_of_ble_eq_true rfl) dX8_nearTo_6 (fun q5 => ?_)
  refine J_icmp_ge hX dX8_nearTo_9 (tgt := 44) rfl (fun _ => ?_) (fun _ => ?_)
  · refine hQ4 _ _ _ _ _ ?_
    refine J_iload_n hX dX8_nearTo_44 rfl ?_
    exact J_iretP hX hM dX8_nearTo_45
  · refine J_iload_n hX dX8_nearTo_12 rfl ?_
    refine J_aload_n hX dX8_nearTo_13 rfl ?_
    refine J_getr hX hE 0 0 rfl rfl fl_X8_98 dX8_nearTo_14 ?_
    refine J_iload_n hX dX8_nearTo_17 rfl ?_
    refine J_cVP hX hE 1 (C_X4_at hG (hE.sb [1, 2] sb_0) v3_4 σ) mw_X4_at ml_X8_43 rfl rfl rfl ⟨Nat.le_of_ble_eq_true rfl, Nat.le_of_ble_eq_true rfl⟩ rfl rfl (Nat.le_of_ble_eq_true rfl) dX8_nearTo_18 (fun q6 => ?_)
    refine J_isub hX dX8_nearTo_21 ?_
    refine J_mabs2 hX mm_X8_107 (Nat.le_of_ble_eq_true rfl) (Nat.le_of_ble_eq_true rfl) dX8_nearTo_22 ?_
    refine J_aload_n hX dX8_nearTo_25 rfl ?_
    refine J_geti hX hE 0 10 rfl rfl fl_X8_56 dX8_nearTo_26 ?_
    refine J_icmp_ge hX dX8_nearTo_29 (tgt := 38) rfl (fun _ => ?_) (fun _ => ?_)
    · refine J_iinc hX dX8_nearTo_38 rfl (congrArg (_ + ·) k_i1) (Nat.le_of_ble_eq_true rfl) (lv' := [(0, .ref (jad G (nm 0))), (1, .int v1), (2, .int v2_4), (3, .int (v3_4 + 1))]) rfl ?_
      refine J_goto hX dX8_nearTo_41 (tgt := 4) rfl ?_
      exact J_keep [0, 1, 2, 3] rfl (hN4 (v2_4, v3_4 + 1))
    · refine J_iload_n hX dX8_nearTo_32 rfl ?_
      refine J_iconst hX dX8_nearTo_33 k_i1 ?_
      refine J_iload_n hX dX8_nearTo_34 rfl ?_
      refine J_ishl hX dX8_nearTo_35 ?_
      refine J_ior hX dX8_nearTo_36 ?_
      refine J_bdI (fun x7 => ?_)
      refine J_istore_n hX dX8_nearTo_37 (Nat.le_of_ble_eq_true rfl) (lv' := [(0, .ref (jad G (nm 0))), (1, .int v1), (2, .int x7), (3, .int v3_4)]) rfl ?_
      refine J_iinc hX dX8_nearTo_38 rfl (congrArg (_ + ·) k_i1) (Nat.le_of_ble_eq_true rfl) (lv' := [(0, .ref (jad G (nm 0))), (1, .int v1), (2, .int x7), (3, .int (v3_4 + 1))]) rfl ?_
      refine J_goto hX dX8_nearTo_41 (tgt := 4) rfl ?_
      exact J_keep [0, 1, 2, 3] rfl (hN4 (x7, v3_4 + 1))
theorem mw_X8_nearTo : jMS Y_X8_nearTo 2 := ⟨⟨tw_tb (List.mem_of_getElem? (i := 787) (by decide +kernel)) (by decide +kernel), tw_tb (List.mem_of_getElem? (i := 11) (by decide +kernel)) (by decide +kernel), tw_tb (List.mem_of_getElem? (i := 788) (by decide +kernel)) (by decide +kernel)⟩, ⟨rfl, rfl⟩, by decide +kernel, by decide +kernel, by decide +kernel⟩
-- X8_minutesFrom
noncomputable def f_X8_minutesFrom_J32 (nm : Nat → Nat) (v1 : Int32) (v2 : Int32) (σ : jS) : Option Int32 :=
  some 0
noncomputable def f_X8_minutesFrom_J33 (nm : Nat → Nat) (v1 : Int32) (v2 : Int32) (t0 : Int32) (σ : jS) : Option Int32 :=
  if t0 = 0 then
    some 100000
  else
    gd (vp_in v1 50) (
      if ((g_i σ (nm 4) v1.toNatClampNeg) &&& (v2 ^^^ (-1))) = 0 then
        gd (vp_in ((v1 * 1024) + v2) 51200) (
          some (g_i σ (nm 3) ((v1 * 1024) + v2).toNatClampNeg))
      else
        some 100000)
noncomputable def f_X8_minutesFrom (nm : Nat → Nat) (v1 : Int32) (v2 : Int32) (σ : jS) : Option Int32 :=
  (f_X10_isWithin v1 0 (imin (g_i σ (nm 0) 5) 49)).bind (fun q1 =>
    (if q1 = 0 then
      f_X8_minutesFrom_J32 nm v1 v2 σ
    else
      (f_X10_isWithin v2 0 1023).bind (fun q2 =>
        if q2 = 0 then
          f_X8_minutesFrom_J32 nm v1 v2 σ
        else
          some 1)).bind (fun y3 =>
      f_X8_minutesFrom_J33 nm v1 v2 y3 σ))
abbrev Y_X8_minutesFrom : jY := (yX8_minutesFrom, cX8_minutesFrom, 4, some .int, { frames := 1, cells := 0, slots := 0, locals := 22 })
theorem C_X8_minutesFrom {l : Launch} {G : jG} {nm : Nat → Nat} (hG : jWL G) (hE : jE G nm LS_X8) (v1 : Int32) (v2 : Int32) (σ : jS) : jC (r_P σ) l G Y_X8_minutesFrom [.ref (jad G (nm 0)), .int v1, .int v2] σ (f_X8_minutesFrom nm v1 v2 σ) := by
  refine jw_met hG pn_X8 (Nat.le_of_ble_eq_true rfl) ⟨rfl, rfl⟩ ?_
  intro X hX hM
  have hX : jB X l G cX8_minutesFrom RX8 4 { frames := 1, cells := 0, slots := 0, locals := 22 } := hX
  have hM : jM X (some .int) := hM
  show J X 0 [(0, .ref (jad G (nm 0))), (1, .int v1), (2, .int v2)] [] σ (f_X8_minutesFrom nm v1 v2 σ) (jk (r_P σ) X)
  have hJ33 : ∀ (v1 : Int32) (v2 : Int32) (t0 : Int32), J X 33 [(0, .ref (jad G (nm 0))), (1, .int v1), (2, .int v2)] [.int t0] σ (f_X8_minutesFrom_J33 nm v1 v2 t0 σ) (jk (r_P σ) X) := by
    intro v1 v2 t0
    unfold f_X8_minutesFrom_J33
    refine J_istore_n hX dX8_minutesFrom_33 (Nat.le_of_ble_eq_true rfl) (lv' := [(0, .ref (jad G (nm 0))), (1, .int v1), (2, .int v2), (3, .int t0)]) rfl ?_
    refine J_iload_n hX dX8_minutesFrom_34 rfl ?_
    refine J_if_eq hX dX8_minutesFrom_35 (tgt := 66) rfl (fun _ => ?_) (fun _ => ?_)
    · refine J_ldc hX wc_X8_127 dX8_minutesFrom_66 ?_
      exact J_iretP hX hM dX8_minutesFrom_68
    · refine J_aload_n hX dX8_minutesFrom_38 rfl ?_
      refine J_getr hX hE 0 2 rfl rfl fl_X8_16 dX8_minutesFrom_39 ?_
      refine J_iload_n hX dX8_minutesFrom_42 rfl ?_
      refine J_iald hX hE 4 rfl dX8_minutesFrom_43 (fun _ => ?_)
      refine J_iload_n hX dX8_minutesFrom_44 rfl ?_
      refine J_iconst hX dX8_minutesFrom_45 k_im1 ?_
      refine J_ixor hX dX8_minutesFrom_46 ?_
      refine J_iand hX dX8_minutesFrom_47 ?_
      refine J_if_ne hX dX8_minutesFrom_48 (tgt := 66) rfl (fun _ => ?_) (fun _ => ?_)
      · refine J_ldc hX wc_X8_127 dX8_minutesFrom_66 ?_
        exact J_iretP hX hM dX8_minutesFrom_68
      · refine J_aload_n hX dX8_minutesFrom_51 rfl ?_
        refine J_getr hX hE 0 1 rfl rfl fl_X8_10 dX8_minutesFrom_52 ?_
        refine J_iload_n hX dX8_minutesFrom_55 rfl ?_
        refine J_sipush hX dX8_minutesFrom_56 ks_1024 ?_
        refine J_imul hX dX8_minutesFrom_59 ?_
        refine J_iload_n hX dX8_minutesFrom_60 rfl ?_
        refine J_iadd hX dX8_minutesFrom_61 ?_
        refine J_iald hX hE 3 rfl dX8_minutesFrom_62 (fun _ => ?_)
        refine J_goto hX dX8_minutesFrom_63 (tgt := 68) rfl ?_
        exact J_iretP hX hM dX8_minutesFrom_68
  unfold f_X8_minutesFrom
  refine J_iload_n hX dX8_minutesFrom_0 rfl ?_
  refine J_iconst hX dX8_minutesFrom_1 k_i0 ?_
  refine J_aload_n hX dX8_minutesFrom_2 rfl ?_
  refine J_geti hX hE 0 5 rfl rfl fl_X8_72 dX8_minutesFrom_3 ?_
  refine J_bipush hX dX8_minutesFrom_6 kb_49 ?_
  refine J_mmin2 hX mm_X8_124 (Nat.le_of_ble_eq_true rfl) (Nat.le_of_ble_eq_true rfl) dX8_minutesFrom_8 ?_
  refine J_cNP hX (C_X10_isWithin hG v1 0 (imin (g_i σ (nm 0) 5) 49) σ) mw_X10_isWithin (host := "LampsListen") mn_X8_128 ⟨Nat.le_of_ble_eq_true rfl, Nat.le_of_ble_eq_true rfl⟩ rfl rfl (Nat.le_of_ble_eq_true rfl) dX8_minutesFrom_11 (fun q4 => ?_)
  refine J_blk ?_
  intro KB14 hB14
  have hJ32 : J X 32 [(0, .ref (jad G (nm 0))), (1, .int v1), (2, .int v2)] [] σ (f_X8_minutesFrom_J32 nm v1 v2 σ) KB14 := by
    unfold f_X8_minutesFrom_J32
    refine J_iconst hX dX8_minutesFrom_32 k_i0 ?_
    refine hB14 _ _ _ _ _ ?_
    exact J_keep [0, 1, 2] rfl (hJ33 v1 v2 0)
  refine J_if_eq hX dX8_minutesFrom_14 (tgt := 32) rfl (fun _ => ?_) (fun _ => ?_)
  · exact J_keep [0, 1, 2] rfl (hJ32 )
  · refine J_iload_n hX dX8_minutesFrom_17 rfl ?_
    refine J_iconst hX dX8_minutesFrom_18 k_i0 ?_
    refine J_sipush hX dX8_minutesFrom_19 ks_1023 ?_
    refine J_cNP hX (C_X10_isWithin hG v2 0 1023 σ) mw_X10_isWithin (host := "LampsListen") mn_X8_128 ⟨Nat.le_of_ble_eq_true rfl, Nat.le_of_ble_eq_true rfl⟩ rfl rfl (Nat.le_of_ble_eq_true rfl) dX8_minutesFrom_22 (fun q5 => ?_)
    refine J_if_eq hX dX8_minutesFrom_25 (tgt := 32) rfl (fun _ => ?_) (fun _ => ?_)
    · exact J_keep [0, 1, 2] rfl (hJ32 )
    · refine J_iconst hX dX8_minutesFrom_28 k_i1 ?_
      refine J_goto hX dX8_minutesFrom_29 (tgt := 33) rfl ?_
      refine hB14 _ _ _ _ _ ?_
      exact J_keep [0, 1, 2] rfl (hJ33 v1 v2 1)
theorem mw_X8_minutesFrom : jMV Y_X8_minutesFrom 2 := ⟨⟨tw_tb (List.mem_of_getElem? (i := 804) (by decide +kernel)) (by decide +kernel), tw_pv (List.mem_of_getElem? (i := 15) (by decide +kernel)) (by decide +kernel), tw_tb (List.mem_of_getElem? (i := 11) (by decide +kernel)) (by decide +kernel), tw_tb (List.mem_of_getElem? (i := 805) (by decide +kernel)) (by decide +kernel)⟩, ⟨rfl, rfl⟩, by decide +kernel, by decide +kernel, by decide +kernel⟩
-- X8_fewestFrom
noncomputable def f_X8_fewestFrom_L14 (nm : Nat → Nat) (v1 : Int32) (v2 : Int32) (σ : jS) (s : (Int32 × Int32)) : Option ((Int32 × Int32) ⊕ Int32) :=
  match s with
  | (v3, v4) =>
    (f_X4_size (jn nm [5, 6]) 64 σ).bind (fun q3 =>
      if q3 ≤ v4 then
        some (.inr v3)
      else
        (f_X4_at (jn nm [5, 6]) 64 v4 σ).bind (fun q4 =>
          bd (v2 ||| q4) (fun x5 =>
            if x5 = v2 then
              some (.inl (v3, v4 + 1))
            else
              (f_X8_minutesFrom nm v1 x5 σ).bind (fun q6 =>
                bd (imin v3 (q6 + 1)) (fun x7 =>
                  some (.inl (x7, v4 + 1)))))))
noncomputable def f_X8_fewestFrom (nm : Nat → Nat) (v1 : Int32) (v2 : Int32) (σ : jS) : Option Int32 :=
  (f_X8_minutesFrom nm (v1 + 1) v2 σ).bind (fun q1 =>
    bd (q1 + 1) (fun x2 =>
      (lp (f_X8_fewestFrom_L14 nm v1 v2 σ) fu (x2, 0)).bind (fun e8 =>
        some (imin e8 100000))))
abbrev Y_X8_fewestFrom : jY := (yX8_fewestFrom, cX8_fewestFrom, 6, some .int, { frames := 2, cells := 0, slots := 0, locals := 45 })
theorem C_X8_fewestFrom {l : Launch} {G : jG} {nm : Nat → Nat} (hG : jWL G) (hE : jE G nm LS_X8) (v1 : Int32) (v2 : Int32) (σ : jS) : jC (r_P σ) l G Y_X8_fewestFrom [.ref (jad G (nm 0)), .int v1, .int v2] σ (f_X8_fewestFrom nm v1 v2 σ) := by
  refine jw_met hG pn_X8 (Nat.le_of_ble_eq_true rfl) ⟨rfl, rfl⟩ ?_
  intro X hX hM
  have hX : jB X l G cX8_fewestFrom RX8 6 { frames := 2, cells := 0, slots := 0, locals := 45 } := hX
  have hM : jM X (some .int) := hM
  show J X 0 [(0, .ref (jad G (nm 0))), (1, .int v1), (2, .int v2)] [] σ (f_X8_fewestFrom nm v1 v2 σ) (jk (r_P σ) X)
  unfold f_X8_fewestFrom
  refine J_aload_n hX dX8_fewestFrom_0 rfl ?_
  refine J_iload_n hX dX8_fewestFrom_1 rfl ?_
  refine J_iconst hX dX8_fewestFrom_2 k_i1 ?_
  refine J_iadd hX dX8_fewestFrom_3 ?_
  refine J_iload_n hX dX8_fewestFrom_4 rfl ?_
  refine J_cVP hX hE 0 (C_X8_minutesFrom hG hE (v1 + 1) v2 σ) mw_X8_minutesFrom ml_X8_121 rfl rfl rfl ⟨Nat.le_of_ble_eq_true rfl, Nat.le_of_ble_eq_true rfl⟩ rfl rfl (Nat.le_of_ble_eq_true rfl) dX8_fewestFrom_5 (fun q9 => ?_)
  refine J_iconst hX dX8_fewestFrom_8 k_i1 ?_
  refine J_iadd hX dX8_fewestFrom_9 ?_
  refine J_bdI (fun x10 => ?_)
  refine J_istore_n hX dX8_fewestFrom_10 (Nat.le_of_ble_eq_true rfl) (lv' := [(0, .ref (jad G (nm 0))), (1, .int v1), (2, .int v2), (3, .int x10)]) rfl ?_
  refine J_iconst hX dX8_fewestFrom_11 k_i0 ?_
  refine J_istore hX dX8_fewestFrom_12 (Nat.le_of_ble_eq_true rfl) (lv' := [(0, .ref (jad G (nm 0))), (1, .int v1), (2, .int v2), (3, .int x10), (4, .int 0)]) rfl ?_
  refine J_keep [0, 1, 2, 3, 4] (lv' := [(0, .ref (jad G (nm 0))), (1, .int v1), (2, .int v2), (3, .int x10), (4, .int 0)]) rfl ?_
  refine J_lp (pc := 14) (s0 := (x10, 0)) (fun (s : (Int32 × Int32)) => [(0, .ref (jad G (nm 0))), (1, .int v1), (2, .int v2), (3, .int (s.1)), (4, .int (s.2))]) (fun (s : (Int32 × Int32)) => σ) ?_
  intro KK14 hN14 hQ14 z14
  obtain ⟨v3_14, v4_14⟩ := z14
  show J X 14 [(0, .ref (jad G (nm 0))), (1, .int v1), (2, .int v2), (3, .int v3_14), (4, .int v4_14)] [] σ (f_X8_fewestFrom_L14 nm v1 v2 σ (v3_14, v4_14)) KK14
  unfold f_X8_fewestFrom_L14
  refine J_iload hX dX8_fewestFrom_14 rfl ?_
  refine J_aload_n hX dX8_fewestFrom_16 rfl ?_
  refine J_getr hX hE 0 3 rfl rfl fl_X8_24 dX8_fewestFrom_17 ?_
  refine J_cVP hX hE 5 (C_X4_size hG (hE.sb [5, 6] sb_33) σ) mw_X4_size ml_X8_39 rfl rfl rfl ⟨Nat.le_of_ble_eq_true rfl, Nat.le_of_ble_eq_true rfl⟩ rfl rfl (Nat.le_of_ble_eq_true rfl) dX8_fewestFrom_20 (fun q11 => ?_)
  refine J_icmp_ge hX dX8_fewestFrom_23 (tgt := 65) rfl (fun _ => ?_) (fun _ => ?_)
  · refine hQ14 _ _ _ _ _ ?_
    refine J_iload_n hX dX8_fewestFrom_65 rfl ?_
    refine J_ldc hX wc_X8_127 dX8_fewestFrom_66 ?_
    refine J_mmin2 hX mm_X8_124 (Nat.le_of_ble_eq_true rfl) (Nat.le_of_ble_eq_true rfl) dX8_fewestFrom_68 ?_
    exact J_iretP hX hM dX8_fewestFrom_71
  · refine J_iload_n hX dX8_fewestFrom_26 rfl ?_
    refine J_aload_n hX dX8_fewestFrom_27 rfl ?_
    refine J_getr hX hE 0 3 rfl rfl fl_X8_24 dX8_fewestFrom_28 ?_
    refine J_iload hX dX8_fewestFrom_31 rfl ?_
    refine J_cVP hX hE 5 (C_X4_at hG (hE.sb [5, 6] sb_33) v4_14 σ) mw_X4_at ml_X8_43 rfl rfl rfl ⟨Nat.le_of_ble_eq_true rfl, Nat.le_of_ble_eq_true rfl⟩ rfl rfl (Nat.le_of_ble_eq_true rfl) dX8_fewestFrom_33 (fun q12 => ?_)
    refine J_ior hX dX8_fewestFrom_36 ?_
    refine J_bdI (fun x13 => ?_)
    refine J_istore hX dX8_fewestFrom_37 (Nat.le_of_ble_eq_true rfl) (lv' := [(0, .ref (jad G (nm 0))), (1, .int v1), (2, .int v2), (3, .int v3_14), (4, .int v4_14), (5, .int x13)]) rfl ?_
    refine J_iload hX dX8_fewestFrom_39 rfl ?_
    refine J_iload_n hX dX8_fewestFrom_41 rfl ?_
    refine J_icmp_eq hX dX8_fewestFrom_42 (tgt := 59) rfl (fun _ => ?_) (fun _ => ?_)
    · refine J_iinc hX dX8_fewestFrom_59 rfl (congrArg (_ + ·) k_i1) (Nat.le_of_ble_eq_true rfl) (lv' := [(0, .ref (jad G (nm 0))), (1, .int v1), (2, .int v2), (3, .int v3_14), (4, .int (v4_14 + 1)), (5, .int x13)]) rfl ?_
      refine J_goto hX dX8_fewestFrom_62 (tgt := 14) rfl ?_
      exact J_keep [0, 1, 2, 3, 4] rfl (hN14 (v3_14, v4_14 + 1))
    · refine J_iload_n hX dX8_fewestFrom_45 rfl ?_
      refine J_aload_n hX dX8_fewestFrom_46 rfl ?_
      refine J_iload_n hX dX8_fewestFrom_47 rfl ?_
      refine J_iload hX dX8_fewestFrom_48 rfl ?_
      refine J_cVP hX hE 0 (C_X8_minutesFrom hG hE v1 x13 σ) mw_X8_minutesFrom ml_X8_121 rfl rfl rfl ⟨Nat.le_of_ble_eq_true rfl, Nat.le_of_ble_eq_true rfl⟩ rfl rfl (Nat.le_of_ble_eq_true rfl) dX8_fewestFrom_50 (fun q14 => ?_)
      refine J_iconst hX dX8_fewestFrom_53 k_i1 ?_
      refine J_iadd hX dX8_fewestFrom_54 ?_
      refine J_mmin2 hX mm_X8_124 (Nat.le_of_ble_eq_true rfl) (Nat.le_of_ble_eq_true rfl) dX8_fewestFrom_55 ?_
      refine J_bdI (fun x15 => ?_)
      refine J_istore_n hX dX8_fewestFrom_58 (Nat.le_of_ble_eq_true rfl) (lv' := [(0, .ref (jad G (nm 0))), (1, .int v1), (2, .int v2), (3, .int x15), (4, .int v4_14), (5, .int x13)]) rfl ?_
      refine J_iinc hX dX8_fewestFrom_59 rfl (congrArg (_ + ·) k_i1) (Nat.le_of_ble_eq_true rfl) (lv' := [(0, .ref (jad G (nm 0))), (1, .int v1), (2, .int v2), (3, .int x15), (4, .int (v4_14 + 1)), (5, .int x13)]) rfl ?_
      refine J_goto hX dX8_fewestFrom_62 (tgt := 14) rfl ?_
      exact J_keep [0, 1, 2, 3, 4] rfl (hN14 (x15, v4_14 + 1))
theorem mw_X8_fewestFrom : jMV Y_X8_fewestFrom 2 := ⟨⟨tw_tb (List.mem_of_getElem? (i := 800) (by decide +kernel)) (by decide +kernel), tw_pv (List.mem_of_getElem? (i := 14) (by decide +kernel)) (by decide +kernel), tw_tb (List.mem_of_getElem? (i := 11) (by decide +kernel)) (by decide +kernel), tw_tb (List.mem_of_getElem? (i := 801) (by decide +kernel)) (by decide +kernel)⟩, ⟨rfl, rfl⟩, by decide +kernel, by decide +kernel, by decide +kernel⟩
-- X8_countMinutesAt
noncomputable def f_X8_countMinutesAt_J67 (nm : Nat → Nat) (v1 : Int32) (v2 : Int32) (v3 : Int32) (v4 : Int32) (v5 : Int32) (t1 : Int32) (t2 : Int32) (σ : jS) : Option jS :=
  gd (vp_in t1 51200) (bd (s_i σ (nm 3) t1.toNatClampNeg t2) (fun s4 =>
    some s4))
noncomputable def f_X8_countMinutesAt_J68 (nm : Nat → Nat) (v1 : Int32) (v2 : Int32) (v3 : Int32) (v4 : Int32) (v5 : Int32) (σ : jS) : Option ((Int32 × Int32 × jS) ⊕ jS) :=
  if v4 = 0 then
    some (.inl ((-1), v5 + 1, σ))
  else
    bd ((v4 - 1) &&& v2) (fun x6 =>
      some (.inl (x6, v5 + 1, σ)))
noncomputable def f_X8_countMinutesAt_L6 (nm : Nat → Nat) (v1 : Int32) (v2 : Int32) (v3 : Int32) (s : (Int32 × Int32 × jS)) : Option ((Int32 × Int32 × jS) ⊕ jS) :=
  match s with
  | (v4, v5, σ) =>
    if 1024 ≤ v5 then
      some (.inr σ)
    else
      if v4 < 0 then
        some (.inr σ)
      else
        gd (vp_in v1 50) (
          bd ((g_i σ (nm 4) v1.toNatClampNeg) ||| v4) (fun x1 =>
            (if 1024 ≤ x1 then
              some σ
            else
              (if x1 = v3 then
                some 0
              else
                (f_X8_fewestFrom nm v1 x1 σ).bind (fun q2 =>
                  some q2)).bind (fun y3 =>
                f_X8_countMinutesAt_J67 nm v1 v2 v3 v4 v5 ((v1 * 1024) + x1) y3 σ)).bind (fun s5 =>
              f_X8_countMinutesAt_J68 nm v1 v2 v3 v4 v5 s5)))
noncomputable def f_X8_countMinutesAt (nm : Nat → Nat) (v1 : Int32) (v2 : Int32) (v3 : Int32) (σ : jS) : Option jS :=
  (lp (f_X8_countMinutesAt_L6 nm v1 v2 v3) fu (v2, 0, σ)).bind (fun s7 =>
    some s7)
abbrev Y_X8_countMinutesAt : jY := (yX8_countMinutesAt, cX8_countMinutesAt, 7, none, { frames := 3, cells := 0, slots := 0, locals := 70 })
theorem C_X8_countMinutesAt {l : Launch} {G : jG} {nm : Nat → Nat} (hG : jWL G) (hE : jE G nm LS_X8) (v1 : Int32) (v2 : Int32) (v3 : Int32) (σ : jS) : jC r_V l G Y_X8_countMinutesAt [.ref (jad G (nm 0)), .int v1, .int v2, .int v3] σ (f_X8_countMinutesAt nm v1 v2 v3 σ) := by
  refine jw_met hG pn_X8 (Nat.le_of_ble_eq_true rfl) ⟨rfl, rfl⟩ ?_
  intro X hX hM
  have hX : jB X l G cX8_countMinutesAt RX8 7 { frames := 3, cells := 0, slots := 0, locals := 70 } := hX
  have hM : jM X (none) := hM
  show J X 0 [(0, .ref (jad G (nm 0))), (1, .int v1), (2, .int v2), (3, .int v3)] [] σ (f_X8_countMinutesAt nm v1 v2 v3 σ) (jk r_V X)
  unfold f_X8_countMinutesAt
  refine J_iload_n hX dX8_countMinutesAt_0 rfl ?_
  refine J_istore hX dX8_countMinutesAt_1 (Nat.le_of_ble_eq_true rfl) (lv' := [(0, .ref (jad G (nm 0))), (1, .int v1), (2, .int v2), (3, .int v3), (4, .int v2)]) rfl ?_
  refine J_iconst hX dX8_countMinutesAt_3 k_i0 ?_
  refine J_istore hX dX8_countMinutesAt_4 (Nat.le_of_ble_eq_true rfl) (lv' := [(0, .ref (jad G (nm 0))), (1, .int v1), (2, .int v2), (3, .int v3), (4, .int v2), (5, .int 0)]) rfl ?_
  refine J_keep [0, 1, 2, 3, 4, 5] (lv' := [(0, .ref (jad G (nm 0))), (1, .int v1), (2, .int v2), (3, .int v3), (4, .int v2), (5, .int 0)]) rfl ?_
  refine J_lp (pc := 6) (s0 := (v2, 0, σ)) (fun (s : (Int32 × Int32 × jS)) => [(0, .ref (jad G (nm 0))), (1, .int v1), (2, .int v2), (3, .int v3), (4, .int (s.1)), (5, .int (s.2.1))]) (fun (s : (Int32 × Int32 × jS)) => s.2.2) ?_
  intro KK6 hN6 hQ6 z6
  obtain ⟨v4_6, v5_6, σ_6⟩ := z6
  show J X 6 [(0, .ref (jad G (nm 0))), (1, .int v1), (2, .int v2), (3, .int v3), (4, .int v4_6), (5, .int v5_6)] [] σ_6 (f_X8_countMinutesAt_L6 nm v1 v2 v3 (v4_6, v5_6, σ_6)) KK6
  have hJ68 : ∀ (v4_j68 : Int32) (v5_j68 : Int32) (σ_j68 : jS), J X 68 [(0, .ref (jad G (nm 0))), (1, .int v1), (2, .int v2), (3, .int v3), (4, .int v4_j68), (5, .int v5_j68)] [] σ_j68 (f_X8_countMinutesAt_J68 nm v1 v2 v3 v4_j68 v5_j68 σ_j68) KK6 := by
    intro v4_j68 v5_j68 σ_j68
    unfold f_X8_countMinutesAt_J68
    refine J_iload hX dX8_countMinutesAt_68 rfl ?_
    refine J_if_ne hX dX8_countMinutesAt_70 (tgt := 77) rfl (fun _ => ?_) (fun _ => ?_)
    · refine J_iload hX dX8_countMinutesAt_77 rfl ?_
      refine J_iconst hX dX8_countMinutesAt_79 k_i1 ?_
      refine J_isub hX dX8_countMinutesAt_80 ?_
      refine J_iload_n hX dX8_countMinutesAt_81 rfl ?_
      refine J_iand hX dX8_countMinutesAt_82 ?_
      refine J_bdI (fun x8 => ?_)
      refine J_istore hX dX8_countMinutesAt_83 (Nat.le_of_ble_eq_true rfl) (lv' := [(0, .ref (jad G (nm 0))), (1, .int v1), (2, .int v2), (3, .int v3), (4, .int x8), (5, .int v5_j68)]) rfl ?_
      refine J_iinc hX dX8_countMinutesAt_85 rfl (congrArg (_ + ·) k_i1) (Nat.le_of_ble_eq_true rfl) (lv' := [(0, .ref (jad G (nm 0))), (1, .int v1), (2, .int v2), (3, .int v3), (4, .int x8), (5, .int (v5_j68 + 1))]) rfl ?_
      refine J_goto hX dX8_countMinutesAt_88 (tgt := 6) rfl ?_
      exact J_keep [0, 1, 2, 3, 4, 5] rfl (hN6 (x8, v5_j68 + 1, σ_j68))
    · refine J_iconst hX dX8_countMinutesAt_73 k_im1 ?_
      refine J_goto hX dX8_countMinutesAt_74 (tgt := 83) rfl ?_
      refine J_istore hX dX8_countMinutesAt_83 (Nat.le_of_ble_eq_true rfl) (lv' := [(0, .ref (jad G (nm 0))), (1, .int v1), (2, .int v2), (3, .int v3), (4, .int (-1)), (5, .int v5_j68)]) rfl ?_
      refine J_iinc hX dX8_countMinutesAt_85 rfl (congrArg (_ + ·) k_i1) (Nat.le_of_ble_eq_true rfl) (lv' := [(0, .ref (jad G (nm 0))), (1, .int v1), (2, .int v2), (3, .int v3), (4, .int (-1)), (5, .int (v5_j68 + 1))]) rfl ?_
      refine J_goto hX dX8_countMinutesAt_88 (tgt := 6) rfl ?_
      exact J_keep [0, 1, 2, 3, 4, 5] rfl (hN6 ((-1), v5_j68 + 1, σ_j68))
  unfold f_X8_countMinutesAt_L6
  refine J_iload hX dX8_countMinutesAt_6 rfl ?_
  refine J_sipush hX dX8_countMinutesAt_8 ks_1024 ?_
  refine J_icmp_ge hX dX8_countMinutesAt_11 (tgt := 91) rfl (fun _ => ?_) (fun _ => ?_)
  · refine hQ6 _ _ _ _ _ ?_
    exact J_vret hX hM dX8_countMinutesAt_91
  · refine J_iload hX dX8_countMinutesAt_14 rfl ?_
    refine J_if_lt hX dX8_countMinutesAt_16 (tgt := 91) rfl (fun _ => ?_) (fun _ => ?_)
    · refine hQ6 _ _ _ _ _ ?_
      exact J_vret hX hM dX8_countMinutesAt_91
    · refine J_aload_n hX dX8_countMinutesAt_19 rfl ?_
      refine J_getr hX hE 0 2 rfl rfl fl_X8_16 dX8_countMinutesAt_20 ?_
      refine J_iload_n hX dX8_countMinutesAt_23 rfl ?_
      refine J_iald hX hE 4 rfl dX8_countMinutesAt_24 (fun _ => ?_)
      refine J_iload hX dX8_countMinutesAt_25 rfl ?_
      refine J_ior hX dX8_countMinutesAt_27 ?_
      refine J_bdI (fun x9 => ?_)
      refine J_istore hX dX8_countMinutesAt_28 (Nat.le_of_ble_eq_true rfl) (lv' := [(0, .ref (jad G (nm 0))), (1, .int v1), (2, .int v2), (3, .int v3), (4, .int v4_6), (5, .int v5_6), (6, .int x9)]) rfl ?_
      refine J_iload hX dX8_countMinutesAt_30 rfl ?_
      refine J_sipush hX dX8_countMinutesAt_32 ks_1024 ?_
      refine J_blk ?_
      intro KB35 hB35
      have hJ67 : ∀ (t1_j67 : Int32) (t2_j67 : Int32) (σ_j67 : jS), J X 67 [(0, .ref (jad G (nm 0))), (1, .int v1), (2, .int v2), (3, .int v3), (4, .int v4_6), (5, .int v5_6)] [.int t2_j67, .int t1_j67, .ref (jad G (nm 3))] σ_j67 (f_X8_countMinutesAt_J67 nm v1 v2 v3 v4_6 v5_6 t1_j67 t2_j67 σ_j67) KB35 := by
        intro t1_j67 t2_j67 σ_j67
        unfold f_X8_countMinutesAt_J67
        refine J_iast hX hE 3 rfl dX8_countMinutesAt_67 (fun _ => ?_)
        refine J_bdS (fun s10 => ?_)
        refine hB35 _ _ _ _ _ ?_
        exact J_keep [0, 1, 2, 3, 4, 5] rfl (hJ68 v4_6 v5_6 s10)
      refine J_icmp_ge hX dX8_countMinutesAt_35 (tgt := 68) rfl (fun _ => ?_) (fun _ => ?_)
      · refine hB35 _ _ _ _ _ ?_
        exact J_keep [0, 1, 2, 3, 4, 5] rfl (hJ68 v4_6 v5_6 σ_6)
      · refine J_aload_n hX dX8_countMinutesAt_38 rfl ?_
        refine J_getr hX hE 0 1 rfl rfl fl_X8_10 dX8_countMinutesAt_39 ?_
        refine J_iload_n hX dX8_countMinutesAt_42 rfl ?_
        refine J_sipush hX dX8_countMinutesAt_43 ks_1024 ?_
        refine J_imul hX dX8_countMinutesAt_46 ?_
        refine J_iload hX dX8_countMinutesAt_47 rfl ?_
        refine J_iadd hX dX8_countMinutesAt_49 ?_
        refine J_iload hX dX8_countMinutesAt_50 rfl ?_
        refine J_iload_n hX dX8_countMinutesAt_52 rfl ?_
        refine J_blk ?_
        intro KB53 hB53
        refine J_icmp_ne hX dX8_countMinutesAt_53 (tgt := 60) rfl (fun _ => ?_) (fun _ => ?_)
        · refine J_aload_n hX dX8_countMinutesAt_60 rfl ?_
          refine J_iload_n hX dX8_countMinutesAt_61 rfl ?_
          refine J_iload hX dX8_countMinutesAt_62 rfl ?_
          refine J_cVP hX hE 0 (C_X8_fewestFrom hG hE v1 x9 σ_6) mw_X8_fewestFrom ml_X8_118 rfl rfl rfl ⟨Nat.le_of_ble_eq_true rfl, Nat.le_of_ble_eq_true rfl⟩ rfl rfl (Nat.le_of_ble_eq_true rfl) dX8_countMinutesAt_64 (fun q11 => ?_)
          refine hB53 _ _ _ _ _ ?_
          exact J_keep [0, 1, 2, 3, 4, 5] rfl (hJ67 ((v1 * 1024) + x9) q11 σ_6)
        · refine J_iconst hX dX8_countMinutesAt_56 k_i0 ?_
          refine J_goto hX dX8_countMinutesAt_57 (tgt := 67) rfl ?_
          refine hB53 _ _ _ _ _ ?_
          exact J_keep [0, 1, 2, 3, 4, 5] rfl (hJ67 ((v1 * 1024) + x9) 0 σ_6)
theorem mw_X8_countMinutesAt : jMV Y_X8_countMinutesAt 3 := ⟨⟨tw_tb (List.mem_of_getElem? (i := 796) (by decide +kernel)) (by decide +kernel), tw_pv (List.mem_of_getElem? (i := 13) (by decide +kernel)) (by decide +kernel), tw_tb (List.mem_of_getElem? (i := 11) (by decide +kernel)) (by decide +kernel), tw_tb (List.mem_of_getElem? (i := 797) (by decide +kernel)) (by decide +kernel)⟩, ⟨rfl, rfl⟩, by decide +kernel, by decide +kernel, by decide +kernel⟩
-- X8_firstHum
noncomputable def f_X8_firstHum_L3 (nm : Nat → Nat) (v1 : Int32) (v2 : Int32) (v3 : Int32) (σ : jS) (v4 : Int32) : Option (Int32 ⊕ (Unit ⊕ Int32)) :=
  if 64 ≤ v4 then
    some (.inr (.inl ()))
  else
    (f_X1_at (jn nm [1, 2]) v1 v4 σ).bind (fun q1 =>
      (f_X8_minutesFrom nm v1 (v2 ||| q1) σ).bind (fun q2 =>
        if q2 = v3 then
          some (.inr (.inr v4))
        else
          some (.inl (v4 + 1))))
noncomputable def f_X8_firstHum (nm : Nat → Nat) (v1 : Int32) (v2 : Int32) (v3 : Int32) (σ : jS) : Option Int32 :=
  (lp (f_X8_firstHum_L3 nm v1 v2 v3 σ) fu 0).bind (fun x => match x with
  | .inl _ =>
    some (-1)
  | .inr a => some a)
abbrev Y_X8_firstHum : jY := (yX8_firstHum, cX8_firstHum, 5, some .int, { frames := 2, cells := 0, slots := 0, locals := 45 })
theorem C_X8_firstHum {l : Launch} {G : jG} {nm : Nat → Nat} (hG : jWL G) (hE : jE G nm LS_X8) (v1 : Int32) (v2 : Int32) (v3 : Int32) (σ : jS) : jC (r_P σ) l G Y_X8_firstHum [.ref (jad G (nm 0)), .int v1, .int v2, .int v3] σ (f_X8_firstHum nm v1 v2 v3 σ) := by
  refine jw_met hG pn_X8 (Nat.le_of_ble_eq_true rfl) ⟨rfl, rfl⟩ ?_
  intro X hX hM
  have hX : jB X l G cX8_firstHum RX8 5 { frames := 2, cells := 0, slots := 0, locals := 45 } := hX
  have hM : jM X (some .int) := hM
  show J X 0 [(0, .ref (jad G (nm 0))), (1, .int v1), (2, .int v2), (3, .int v3)] [] σ (f_X8_firstHum nm v1 v2 v3 σ) (jk (r_P σ) X)
  unfold f_X8_firstHum
  refine J_iconst hX dX8_firstHum_0 k_i0 ?_
  refine J_istore hX dX8_firstHum_1 (Nat.le_of_ble_eq_true rfl) (lv' := [(0, .ref (jad G (nm 0))), (1, .int v1), (2, .int v2), (3, .int v3), (4, .int 0)]) rfl ?_
  refine J_keep [0, 1, 2, 3, 4] (lv' := [(0, .ref (jad G (nm 0))), (1, .int v1), (2, .int v2), (3, .int v3), (4, .int 0)]) rfl ?_
  refine J_lp (pc := 3) (s0 := 0) (fun (s : Int32) => [(0, .ref (jad G (nm 0))), (1, .int v1), (2, .int v2), (3, .int v3), (4, .int s)]) (fun (s : Int32) => σ) ?_
  intro KK3 hN3 hQ3 z3
  obtain ⟨v4_3, rfl⟩ : ∃ y, y = z3 := ⟨_, rfl⟩
  show J X 3 [(0, .ref (jad G (nm 0))), (1, .int v1), (2, .int v2), (3, .int v3), (4, .int v4_3)] [] σ (f_X8_firstHum_L3 nm v1 v2 v3 σ v4_3) KK3
  unfold f_X8_firstHum_L3
  refine J_iload hX dX8_firstHum_3 rfl ?_
  refine J_bipush hX dX8_firstHum_5 kb_64 ?_
  refine J_icmp_ge hX dX8_firstHum_7 (tgt := 40) rfl (fun _ => ?_) (fun _ => ?_)
  · refine hQ3 _ _ _ _ _ ?_
    refine J_iconst hX dX8_firstHum_40 k_im1 ?_
    exact J_iretP hX hM dX8_firstHum_41
  · refine J_aload_n hX dX8_firstHum_10 rfl ?_
    refine J_iload_n hX dX8_firstHum_11 rfl ?_
    refine J_iload_n hX dX8_firstHum_12 rfl ?_
    refine J_aload_n hX dX8_firstHum_13 rfl ?_
    refine J_getr hX hE 0 0 rfl rfl fl_X8_31 dX8_firstHum_14 ?_
    refine J_iload_n hX dX8_firstHum_17 rfl ?_
    refine J_iload hX dX8_firstHum_18 rfl ?_
    refine J_cVP hX hE 1 (C_X1_at hG (hE.sb [1, 2] sb_34) v1 v4_3 σ) mw_X1_at ml_X8_113 rfl rfl rfl ⟨Nat.le_of_ble_eq_true rfl, Nat.le_of_ble_eq_true rfl⟩ rfl rfl (Nat.le_of_ble_eq_true rfl) dX8_firstHum_20 (fun q3 => ?_)
    refine J_ior hX dX8_firstHum_23 ?_
    refine J_cVP hX hE 0 (C_X8_minutesFrom hG hE v1 (v2 ||| q3) σ) mw_X8_minutesFrom ml_X8_121 rfl rfl rfl ⟨Nat.le_of_ble_eq_true rfl, Nat.le_of_ble_eq_true rfl⟩ rfl rfl (Nat.le_of_ble_eq_true rfl) dX8_firstHum_24 (fun q4 => ?_)
    refine J_iload_n hX dX8_firstHum_27 rfl ?_
    refine J_icmp_ne hX dX8_firstHum_28 (tgt := 34) rfl (fun _ => ?_) (fun _ => ?_)
    · refine J_iinc hX dX8_firstHum_34 rfl (congrArg (_ + ·) k_i1) (Nat.le_of_ble_eq_true rfl) (lv' := [(0, .ref (jad G (nm 0))), (1, .int v1), (2, .int v2), (3, .int v3), (4, .int (v4_3 + 1))]) rfl ?_
      refine J_goto hX dX8_firstHum_37 (tgt := 3) rfl ?_
      exact J_keep [0, 1, 2, 3, 4] rfl (hN3 (v4_3 + 1))
    · refine J_iload hX dX8_firstHum_31 rfl ?_
      refine hQ3 _ _ _ _ _ ?_
      exact J_iretP hX hM dX8_firstHum_33
theorem mw_X8_firstHum : jMV Y_X8_firstHum 3 := ⟨⟨tw_tb (List.mem_of_getElem? (i := 816) (by decide +kernel)) (by decide +kernel), tw_pv (List.mem_of_getElem? (i := 17) (by decide +kernel)) (by decide +kernel), tw_tb (List.mem_of_getElem? (i := 11) (by decide +kernel)) (by decide +kernel), tw_tb (List.mem_of_getElem? (i := 817) (by decide +kernel)) (by decide +kernel)⟩, ⟨rfl, rfl⟩, by decide +kernel, by decide +kernel, by decide +kernel⟩
-- X8_writeSteps
noncomputable def f_X8_writeSteps_L38 (nm : Nat → Nat) (s : (Int32 × Int32 × Int32 × jS)) : Option ((Int32 × Int32 × Int32 × jS) ⊕ jS) :=
  match s with
  | (v2, v3, v4, σ) =>
    if (g_i σ (nm 0) 6) = 0 then
      some (.inr σ)
    else
      if v4 < 0 then
        some (.inr σ)
      else
        (f_X8_firstHum nm v2 v3 v4 σ).bind (fun q6 =>
          if q6 = (-1) then
            (f_X4_put (jn nm [7, 8]) 59 64 σ).bind (fun s10 =>
              some (.inl (v2 + 1, v3, v4 + (-1), s10)))
          else
            (f_X4_put (jn nm [7, 8]) 59 q6 σ).bind (fun s7 =>
              (f_X1_at (jn nm [1, 2]) v2 q6 s7).bind (fun q8 =>
                bd (v3 ||| q8) (fun x9 =>
                  some (.inl (v2, x9, v4 + (-1), s7))))))
noncomputable def f_X8_writeSteps_J26 (nm : Nat → Nat) (v1 : Int32) (t1 : Int32) (σ : jS) : Option jS :=
  gd (jz t1) (bd (s_i σ (nm 0) 6 t1) (fun s4 =>
    bd (v1 - 1) (fun x5 =>
      (lp (f_X8_writeSteps_L38 nm) fu (0, 0, x5, s4)).bind (fun s11 =>
        some s11))))
noncomputable def f_X8_writeSteps (nm : Nat → Nat) (σ : jS) : Option jS :=
  (f_X4_empty (jn nm [7, 8]) 59 σ).bind (fun s1 =>
    (f_X8_minutesFrom nm 0 0 s1).bind (fun q2 =>
      (if 100000 ≤ q2 then
        some 0
      else
        some 1).bind (fun y3 =>
        f_X8_writeSteps_J26 nm q2 y3 s1)))
abbrev Y_X8_writeSteps : jY := (yX8_writeSteps, cX8_writeSteps, 6, none, { frames := 3, cells := 0, slots := 0, locals := 69 })
theorem C_X8_writeSteps {l : Launch} {G : jG} {nm : Nat → Nat} (hG : jWL G) (hE : jE G nm LS_X8) (σ : jS) : jC r_V l G Y_X8_writeSteps [.ref (jad G (nm 0))] σ (f_X8_writeSteps nm σ) := by
  refine jw_met hG pn_X8 (Nat.le_of_ble_eq_true rfl) ⟨rfl, rfl⟩ ?_
  intro X hX hM
  have hX : jB X l G cX8_writeSteps RX8 6 { frames := 3, cells := 0, slots := 0, locals := 69 } := hX
  have hM : jM X (none) := hM
  show J X 0 [(0, .ref (jad G (nm 0)))] [] σ (f_X8_writeSteps nm σ) (jk r_V X)
  have hJ26 : ∀ (v1 : Int32) (t1 : Int32) (σ : jS), J X 26 [(0, .ref (jad G (nm 0))), (1, .int v1)] [.int t1, .ref (jad G (nm 0))] σ (f_X8_writeSteps_J26 nm v1 t1 σ) (jk r_V X) := by
    intro v1 t1 σ
    unfold f_X8_writeSteps_J26
    refine J_gd (fun hz => ?_)
    refine J_putz hX hE 0 6 (jz_nar hz) (jz_fit hz) rfl rfl fp_X8_35 dX8_writeSteps_26 ?_
    refine J_bdS (fun s12 => ?_)
    refine J_iconst hX dX8_writeSteps_29 k_i0 ?_
    refine J_istore_n hX dX8_writeSteps_30 (Nat.le_of_ble_eq_true rfl) (lv' := [(0, .ref (jad G (nm 0))), (1, .int v1), (2, .int 0)]) rfl ?_
    refine J_iconst hX dX8_writeSteps_31 k_i0 ?_
    refine J_istore_n hX dX8_writeSteps_32 (Nat.le_of_ble_eq_true rfl) (lv' := [(0, .ref (jad G (nm 0))), (1, .int v1), (2, .int 0), (3, .int 0)]) rfl ?_
    refine J_iload_n hX dX8_writeSteps_33 rfl ?_
    refine J_iconst hX dX8_writeSteps_34 k_i1 ?_
    refine J_isub hX dX8_writeSteps_35 ?_
    refine J_bdI (fun x13 => ?_)
    refine J_istore hX dX8_writeSteps_36 (Nat.le_of_ble_eq_true rfl) (lv' := [(0, .ref (jad G (nm 0))), (1, .int v1), (2, .int 0), (3, .int 0), (4, .int x13)]) rfl ?_
    refine J_keep [0, 2, 3, 4] (lv' := [(0, .ref (jad G (nm 0))), (2, .int 0), (3, .int 0), (4, .int x13)]) rfl ?_
    refine J_lp (pc := 38) (s0 := (0, 0, x13, s12)) (fun (s : (Int32 × Int32 × Int32 × jS)) => [(0, .ref (jad G (nm 0))), (2, .int (s.1)), (3, .int (s.2.1)), (4, .int (s.2.2.1))]) (fun (s : (Int32 × Int32 × Int32 × jS)) => s.2.2.2) ?_
    intro KK38 hN38 hQ38 z38
    obtain ⟨v2_38, v3_38, v4_38, σ_38⟩ := z38
    show J X 38 [(0, .ref (jad G (nm 0))), (2, .int v2_38), (3, .int v3_38), (4, .int v4_38)] [] σ_38 (f_X8_writeSteps_L38 nm (v2_38, v3_38, v4_38, σ_38)) KK38
    unfold f_X8_writeSteps_L38
    refine J_aload_n hX dX8_writeSteps_38 rfl ?_
    refine J_geti hX hE 0 6 rfl rfl fl_X8_35 dX8_writeSteps_39 ?_
    refine J_if_eq hX dX8_writeSteps_42 (tgt := 109) rfl (fun _ => ?_) (fun _ => ?_)
    · refine hQ38 _ _ _ _ _ ?_
      exact J_vret hX hM dX8_writeSteps_109
    · refine J_iload hX dX8_writeSteps_45 rfl ?_
      refine J_if_lt hX dX8_writeSteps_47 (tgt := 109) rfl (fun _ => ?_) (fun _ => ?_)
      · refine hQ38 _ _ _ _ _ ?_
        exact J_vret hX hM dX8_writeSteps_109
      · refine J_aload_n hX dX8_writeSteps_50 rfl ?_
        refine J_iload_n hX dX8_writeSteps_51 rfl ?_
        refine J_iload_n hX dX8_writeSteps_52 rfl ?_
        refine J_iload hX dX8_writeSteps_53 rfl ?_
        refine J_cVP hX hE 0 (C_X8_firstHum hG hE v2_38 v3_38 v4_38 σ_38) mw_X8_firstHum ml_X8_132 rfl rfl rfl ⟨Nat.le_of_ble_eq_true rfl, Nat.le_of_ble_eq_true rfl⟩ rfl rfl (Nat.le_of_ble_eq_true rfl) dX8_writeSteps_55 (fun q14 => ?_)
        refine J_istore hX dX8_writeSteps_58 (Nat.le_of_ble_eq_true rfl) (lv' := [(0, .ref (jad G (nm 0))), (2, .int v2_38), (3, .int v3_38), (4, .int v4_38), (5, .int q14)]) rfl ?_
        refine J_iload hX dX8_writeSteps_60 rfl ?_
        refine J_iconst hX dX8_writeSteps_62 k_im1 ?_
        refine J_icmp_ne hX dX8_writeSteps_63 (tgt := 81) rfl (fun _ => ?_) (fun _ => ?_)
        · refine J_aload_n hX dX8_writeSteps_81 rfl ?_
          refine J_getr hX hE 0 4 rfl rfl fl_X8_28 dX8_writeSteps_82 ?_
          refine J_iload hX dX8_writeSteps_85 rfl ?_
          refine J_cVV hX hE 7 (C_X4_put hG (hE.sb [7, 8] sb_35) q14 σ_38) mw_X4_put ml_X8_136 rfl rfl rfl ⟨Nat.le_of_ble_eq_true rfl, Nat.le_of_ble_eq_true rfl⟩ rfl rfl (Nat.le_of_ble_eq_true rfl) dX8_writeSteps_87 (fun s15 => ?_)
          refine J_iload_n hX dX8_writeSteps_90 rfl ?_
          refine J_aload_n hX dX8_writeSteps_91 rfl ?_
          refine J_getr hX hE 0 0 rfl rfl fl_X8_31 dX8_writeSteps_92 ?_
          refine J_iload_n hX dX8_writeSteps_95 rfl ?_
          refine J_iload hX dX8_writeSteps_96 rfl ?_
          refine J_cVP hX hE 1 (C_X1_at hG (hE.sb [1, 2] sb_34) v2_38 q14 s15) mw_X1_at ml_X8_113 rfl rfl rfl ⟨Nat.le_of_ble_eq_true rfl, Nat.le_of_ble_eq_true rfl⟩ rfl rfl (Nat.le_of_ble_eq_true rfl) dX8_writeSteps_98 (fun q16 => ?_)
          refine J_ior hX dX8_writeSteps_101 ?_
          refine J_bdI (fun x17 => ?_)
          refine J_istore_n hX dX8_writeSteps_102 (Nat.le_of_ble_eq_true rfl) (lv' := [(0, .ref (jad G (nm 0))), (2, .int v2_38), (3, .int x17), (4, .int v4_38), (5, .int q14)]) rfl ?_
          refine J_iinc hX dX8_writeSteps_103 rfl (congrArg (_ + ·) k_im1) (Nat.le_of_ble_eq_true rfl) (lv' := [(0, .ref (jad G (nm 0))), (2, .int v2_38), (3, .int x17), (4, .int (v4_38 + (-1))), (5, .int q14)]) rfl ?_
          refine J_goto hX dX8_writeSteps_106 (tgt := 38) rfl ?_
          exact J_keep [0, 1, 2, 3] rfl (hN38 (v2_38, x17, v4_38 + (-1), s15))
        · refine J_aload_n hX dX8_writeSteps_66 rfl ?_
          refine J_getr hX hE 0 4 rfl rfl fl_X8_28 dX8_writeSteps_67 ?_
          refine J_bipush hX dX8_writeSteps_70 kb_64 ?_
          refine J_cVV hX hE 7 (C_X4_put hG (hE.sb [7, 8] sb_35) 64 σ_38) mw_X4_put ml_X8_136 rfl rfl rfl ⟨Nat.le_of_ble_eq_true rfl, Nat.le_of_ble_eq_true rfl⟩ rfl rfl (Nat.le_of_ble_eq_true rfl) dX8_writeSteps_72 (fun s18 => ?_)
          refine J_iinc hX dX8_writeSteps_75 rfl (congrArg (_ + ·) k_i1) (Nat.le_of_ble_eq_true rfl) (lv' := [(0, .ref (jad G (nm 0))), (2, .int (v2_38 + 1)), (3, .int v3_38), (4, .int v4_38), (5, .int q14)]) rfl ?_
          refine J_goto hX dX8_writeSteps_78 (tgt := 103) rfl ?_
          refine J_iinc hX dX8_writeSteps_103 rfl (congrArg (_ + ·) k_im1) (Nat.le_of_ble_eq_true rfl) (lv' := [(0, .ref (jad G (nm 0))), (2, .int (v2_38 + 1)), (3, .int v3_38), (4, .int (v4_38 + (-1))), (5, .int q14)]) rfl ?_
          refine J_goto hX dX8_writeSteps_106 (tgt := 38) rfl ?_
          exact J_keep [0, 1, 2, 3] rfl (hN38 (v2_38 + 1, v3_38, v4_38 + (-1), s18))
  unfold f_X8_writeSteps
  refine J_aload_n hX dX8_writeSteps_0 rfl ?_
  refine J_getr hX hE 0 4 rfl rfl fl_X8_28 dX8_writeSteps_1 ?_
  refine J_cVV hX hE 7 (C_X4_empty hG (hE.sb [7, 8] sb_35) σ) mw_X4_empty ml_X8_110 rfl rfl rfl ⟨Nat.le_of_ble_eq_true rfl, Nat.le_of_ble_eq_true rfl⟩ rfl rfl (Nat.le_of_ble_eq_true rfl) dX8_writeSteps_4 (fun s19 => ?_)
  refine J_aload_n hX dX8_writeSteps_7 rfl ?_
  refine J_iconst hX dX8_writeSteps_8 k_i0 ?_
  refine J_iconst hX dX8_writeSteps_9 k_i0 ?_
  refine J_cVP hX hE 0 (C_X8_minutesFrom hG hE 0 0 s19) mw_X8_minutesFrom ml_X8_121 rfl rfl rfl ⟨Nat.le_of_ble_eq_true rfl, Nat.le_of_ble_eq_true rfl⟩ rfl rfl (Nat.le_of_ble_eq_true rfl) dX8_writeSteps_10 (fun q20 => ?_)
  refine J_istore_n hX dX8_writeSteps_13 (Nat.le_of_ble_eq_true rfl) (lv' := [(0, .ref (jad G (nm 0))), (1, .int q20)]) rfl ?_
  refine J_aload_n hX dX8_writeSteps_14 rfl ?_
  refine J_iload_n hX dX8_writeSteps_15 rfl ?_
  refine J_ldc hX wc_X8_127 dX8_writeSteps_16 ?_
  refine J_blk ?_
  intro KB18 hB18
  refine J_icmp_ge hX dX8_writeSteps_18 (tgt := 25) rfl (fun _ => ?_) (fun _ => ?_)
  · refine J_iconst hX dX8_writeSteps_25 k_i0 ?_
    refine hB18 _ _ _ _ _ ?_
    exact J_keep [0, 1] rfl (hJ26 q20 0 s19)
  · refine J_iconst hX dX8_writeSteps_21 k_i1 ?_
    refine J_goto hX dX8_writeSteps_22 (tgt := 26) rfl ?_
    refine hB18 _ _ _ _ _ ?_
    exact J_keep [0, 1] rfl (hJ26 q20 1 s19)
theorem mw_X8_writeSteps : jMV Y_X8_writeSteps 0 := ⟨⟨tw_tb (List.mem_of_getElem? (i := 812) (by decide +kernel)) (by decide +kernel), tw_pv (List.mem_of_getElem? (i := 16) (by decide +kernel)) (by decide +kernel), tw_tb (List.mem_of_getElem? (i := 11) (by decide +kernel)) (by decide +kernel), tw_tb (List.mem_of_getElem? (i := 813) (by decide +kernel)) (by decide +kernel)⟩, ⟨rfl, rfl⟩, by decide +kernel, by decide +kernel, by decide +kernel⟩
