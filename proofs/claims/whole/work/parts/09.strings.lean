/-! String constants: their length, their letters -/
abbrev jsV (G : jG) (i : Nat) : Nat := G.2.2.2.2.2.2.1 i
theorem pn_J0 : plainName RJ0 = true := by decide +kernel
theorem pn_J1 : plainName RJ1 = true := by decide +kernel
theorem pn_J3 : plainName RJ3 = true := by decide +kernel
section
variable {α : Type} {X : jX} {l : Launch} {G : jG} {cc : ByteArray} {own : String} {nL : Nat} {R : Room} {pc : Nat} {lv lv' : List (Nat × Value)} {rest : List Value} {σ : jS} {T A B : Option α} {K : α → Prop} {index : Nat}
theorem J_gstZ (hX : jB X l G cc own nL R) (hl : Cond.fieldLink own index "java/lang/String" "COMPACT_STRINGS" "Z" ∈ tw) (hd : decode cc pc = .ok (.getstatic index, 3)) (k : J X (pc + 3) lv (.int 1 :: rest) σ T K) : J X pc lv rest σ T K := by
  obtain ⟨p, l, e, R, s, m, args, below, meth, c, G, nL, Po, Q, cells, slots⟩ := X
  obtain ⟨rfl, rfl, rfl, rfl, hx, hb, hml, hown, hts, hK, hWL, hB, hc, hs⟩ := hX
  intro hF ls H locs hls hP hS
  exact va_gets hx hb hK.2.2.2.2.1 hS hown (hts _ hl) (fun _ h => h) hd (k hF ls H locs hls hP hS)
theorem J_gstQ (hX : jB X l G cc own nL R) (hl : Cond.fieldLink own index "jdk/internal/util/Preconditions" "SIOOBE_FORMATTER" "Ljava/util/function/BiFunction;" ∈ tw) (hd : decode cc pc = .ok (.getstatic index, 3)) (k : ∀ v : Value, (v = .null ∨ ∃ a, v = .ref a) → J X (pc + 3) lv (v :: rest) σ T K) : J X pc lv rest σ T K := by
  obtain ⟨p, l, e, R, s, m, args, below, meth, c, G, nL, Po, Q, cells, slots⟩ := X
  obtain ⟨rfl, rfl, rfl, rfl, hx, hb, hml, hown, hts, hK, hWL, hB, hc, hs⟩ := hX
  intro hF ls H locs hls hP hS
  rcases hK.2.2.2.2.2 with hz | ⟨t, hz⟩
  · exact va_gets hx hb hz hS hown (hts _ hl) (fun _ h => h) hd (k _ (Or.inl rfl) hF ls H locs hls hP hS)
  · exact va_gets hx hb hz hS hown (hts _ hl) (fun _ h => h) hd (k _ (Or.inr ⟨t, rfl⟩) hF ls H locs hls hP hS)
theorem J_gfV (hX : jB X l G cc own nL R) {i : Nat} (hi : i < 7) (hl : Cond.fieldLink own index "java/lang/String" "value" "[B" ∈ tw) (hd : decode cc pc = .ok (.getfield index, 3)) (k : J X (pc + 3) lv (.ref (jsV G i) :: rest) σ T K) : J X pc lv (.ref (jsK G i) :: rest) σ T K := by
  obtain ⟨p, l, e, R, s, m, args, below, meth, c, G, nL, Po, Q, cells, slots⟩ := X
  obtain ⟨rfl, rfl, rfl, rfl, hx, hb, hml, hown, hts, hK, hWL, hB, hc, hs⟩ := hX
  intro hF ls H locs hls hP hS
  exact vk_getf hx hb (hK.2.2.2.1.1 i hi).2.2.1 hS hown (hts _ hl) (fun _ h => h) hd (k hF ls H locs hls hP hS)
theorem J_gfC (hX : jB X l G cc own nL R) {i : Nat} (hi : i < 7) (hl : Cond.fieldLink own index "java/lang/String" "coder" "B" ∈ tw) (hd : decode cc pc = .ok (.getfield index, 3)) (k : J X (pc + 3) lv (.int 0 :: rest) σ T K) : J X pc lv (.ref (jsK G i) :: rest) σ T K := by
  obtain ⟨p, l, e, R, s, m, args, below, meth, c, G, nL, Po, Q, cells, slots⟩ := X
  obtain ⟨rfl, rfl, rfl, rfl, hx, hb, hml, hown, hts, hK, hWL, hB, hc, hs⟩ := hX
  intro hF ls H locs hls hP hS
  exact vk_getf hx hb (hK.2.2.2.1.1 i hi).2.1 hS hown (hts _ hl) (fun _ h => h) hd (k hF ls H locs hls hP hS)
theorem J_alenT (hX : jB X l G cc own nL R) {i : Nat} (hi : i < 7) (hd : decode cc pc = .ok (.arraylength, 1)) (k : J X (pc + 1) lv (.int (nI (jw_len.getD i 0)) :: rest) σ T K) : J X pc lv (.ref (jsV G i) :: rest) σ T K := by
  obtain ⟨p, l, e, R, s, m, args, below, meth, c, G, nL, Po, Q, cells, slots⟩ := X
  obtain ⟨rfl, rfl, rfl, rfl, hx, hb, hml, hown, hts, hK, hWL, hB, hc, hs⟩ := hX
  intro hF ls H locs hls hP hS
  exact va_tlen hx hb (hK.2.2.2.1.1 i hi).2.2.2 hS rfl hd (k hF ls H locs hls hP hS)
theorem J_balT (hX : jB X l G cc own nL R) {i : Nat} (hi : i < 7) {j : Int32} (hj : vp_in j (jw_len.getD i 0)) (hd : decode cc pc = .ok (.baload, 1)) (k : J X (pc + 1) lv (.int ((jw_byt.getD i []).getD j.toNatClampNeg 0) :: rest) σ T K) : J X pc lv (.int j :: .ref (jsV G i) :: rest) σ T K := by
  obtain ⟨p, l, e, R, s, m, args, below, meth, c, G, nL, Po, Q, cells, slots⟩ := X
  obtain ⟨rfl, rfl, rfl, rfl, hx, hb, hml, hown, hts, hK, hWL, hB, hc, hs⟩ := hX
  intro hF ls H locs hls hP hS
  exact va_tb hx hb (hK.2.2.2.1.1 i hi).2.2.2 hS hj rfl hd (k hF ls H locs hls hP hS)
theorem J_cTP {f : Option Int32} {k : Int32 → Option α} {st0 As : List Value} {Y : jY} {i : Nat} (hX : jB X l G cc own nL R) (hm : jC (r_P σ) l G Y (.ref (jsK G i) :: As) σ f) (h7 : ∀ q, f = some q → i < 7) (hcls : Y.1.cls = "java/lang/String") {n : Nat} (hv : jMV Y n) (hl : Cond.methodLink own index Y.1 ∈ tw) (hro : jRo Y R) (hn : As.length = n) (hst : st0 = As.reverse ++ .ref (jsK G i) :: rest) (hw : (rest.map fun v => v.category).sum ≤ 8) (hd : decode cc pc = .ok (.invokevirtual index, 3))
    (kont : ∀ q, J X (pc + 3) lv (.int q :: rest) σ (k q) K) : J X pc lv st0 σ (f.bind k) K := by
  obtain ⟨p, l, e, R, s, m, args, below, meth, c, G, nL, Po, Q, cells, slots⟩ := X
  obtain ⟨rfl, rfl, rfl, rfl, hx, hb, hml, hown, hts, hK, hWL, hB, hc, hs⟩ := hX
  intro hF ls H locs hls hP hS
  obtain ⟨q, hq, hF⟩ := jFo_bind hF
  obtain ⟨⟨w1, w2, w3, w4⟩, ⟨z1, z2⟩, y1, y2, y3⟩ := hv
  have hg : GoodIn tw (wsV own index Y.1.cls Y.1 (jws Y)) := tw_good (by
    intro w h
    simp only [wsV, jws, List.mem_append, List.mem_cons, List.not_mem_nil, or_false] at h
    rcases h with (rfl | rfl | rfl | rfl) | rfl | h
    · exact hl
    · exact w1
    · exact w2
    · exact w3
    · exact w4
    · exact h)
  have hcw := cwV (R := R) (s := s) (args := args) (own := own) (C := Y.1.cls) (index := index) (y := Y.1) (bytes := Y.2.1) (maxL := Y.2.2.1) (ret := Y.2.2.2.1) (rm := Y.2.2.2.2) (mc := 0) (ms := 0) n hts hg rfl z1 z2 ⟨rfl, y1, y2, y3⟩ hro
  have hrv := vk_recv hK.2.2.2.1 (h7 q hq) hS
  rw [← hcls] at hrv
  have hrun := va_runV (p := p) (l := l) (e := e) (below := below) (meth := meth) (locs := locs) (cells := cells) (slots := slots) (As := As) (rest := rest) (g := F0 m pc ls st0) ⟨hx, hb, hml, hown, hts⟩ (hm q hq) hcw ⟨jPc_blind _ _, hrv, jPc_at hP hK hS hB⟩ rfl hn hls.1 hst (lv_room hw) hd ⟨hc, hs⟩
  refine jw_call hrun hS (fun r τ H1 locs1 hpo hP1 hS1 => ?_)
  obtain ⟨q', h1, h2⟩ := hpo
  have hqq : q = q' := Option.some.inj (hq.symm.trans h1)
  subst hqq
  cases h2
  exact kont q hF ls H1 locs1 hls hP1 hS1
theorem J_if_eq2 (hX : jB X l G cc own nL R) {x : Int32} {off : Int} (tgt : Nat) (hd : decode cc pc = .ok (.ifCond .eq off, 3)) (ht : (pc : Int) + off = (tgt : Int)) (hx : ¬ x = 0) (k : J X (pc + 3) lv rest σ T K) : J X pc lv (.int x :: rest) σ T K := by
  have h := J_if_eq hX hd ht (A := none) (fun h => absurd h hx) (fun _ => k)
  rwa [if_neg hx] at h
theorem J_if_ne2 (hX : jB X l G cc own nL R) {x : Int32} {off : Int} (tgt : Nat) (hd : decode cc pc = .ok (.ifCond .ne off, 3)) (ht : (pc : Int) + off = (tgt : Int)) (hx : x = 0) (k : J X (pc + 3) lv rest σ T K) : J X pc lv (.int x :: rest) σ T K := by
  have h := J_if_ne hX hd ht (A := none) (fun h => absurd hx h) (fun _ => k)
  rwa [if_pos hx] at h
theorem J_if_lt2 (hX : jB X l G cc own nL R) {x : Int32} {off : Int} (tgt : Nat) (hd : decode cc pc = .ok (.ifCond .lt off, 3)) (ht : (pc : Int) + off = (tgt : Int)) (hx : ¬ x < 0) (k : J X (pc + 3) lv rest σ T K) : J X pc lv (.int x :: rest) σ T K := by
  have h := J_if_lt hX hd ht (A := none) (fun h => absurd h hx) (fun _ => k)
  rwa [if_neg hx] at h
theorem J_icmp_lt2 (hX : jB X l G cc own nL R) {x y : Int32} {off : Int} (tgt : Nat) (hd : decode cc pc = .ok (.if_icmp .lt off, 3)) (ht : (pc : Int) + off = (tgt : Int)) (hx : x < y) (k : J X tgt lv rest σ T K) : J X pc lv (.int y :: .int x :: rest) σ T K := by
  have h := J_icmp_lt hX hd ht (fun _ => k) (B := none) (fun h => absurd hx h)
  rwa [if_pos hx] at h
theorem J_zretP2 (hX : jB X l G cc own nL R) {ty : FieldType} (hM : jM X (some ty)) {v : Int32} (hn : narrow ty (.int v) = .int v) (hd : decode cc pc = .ok (.ireturn, 1)) : J X pc lv [.int v] σ (some v) (jk (r_P σ) X) := by
  rintro ⟨a, h1, h2⟩
  cases h1
  exact J_zret hX hM hn hd ⟨(v, σ), rfl, h2⟩
theorem J_cSVp {f : Option jS} {k : jS → Option α} {st0 As : List Value} {Y : jY} (hX : jB X l G cc own nL R) (hm : jC r_V l G Y As σ f) {n : Nat} (hv : jMS Y n) (hl : Cond.methodLink own index Y.1 ∈ tw) (hro : jRo Y R) (hn : As.length = n) (hst : st0 = As.reverse ++ rest) (hw : (rest.map fun v => v.category).sum ≤ 8) (hd : decode cc pc = .ok (.invokestatic index, 3)) (hf : f = some σ) (kont : J X (pc + 3) lv rest σ (k σ) K) : J X pc lv st0 σ (f.bind k) K := by
  have e : f.bind k = f.bind (fun q => @ite _ (q = σ) (Classical.propDecidable _) (k σ) none) := by rw [hf]; simp
  rw [e]
  refine J_cSV hX hm hv hl hro hn hst hw hd (fun τ => ?_)
  by_cases h : τ = σ
  · subst h; rw [if_pos rfl]; exact kont
  · rw [if_neg h]; exact J_none
end

theorem wk_cs : Cond.fieldLink RJ0 38 "java/lang/String" "COMPACT_STRINGS" "Z" ∈ tw := tw_tb (List.mem_of_getElem? (i := 471) (by decide +kernel)) (by decide +kernel)
theorem wk_val : Cond.fieldLink RJ0 9 "java/lang/String" "value" "[B" ∈ tw := tw_tb (List.mem_of_getElem? (i := 1518) (by decide +kernel)) (by decide +kernel)
theorem wk_cod : Cond.fieldLink RJ0 15 "java/lang/String" "coder" "B" ∈ tw := tw_tb (List.mem_of_getElem? (i := 1519) (by decide +kernel)) (by decide +kernel)
theorem wk_sio : Cond.fieldLink RJ0 1053 "jdk/internal/util/Preconditions" "SIOOBE_FORMATTER" "Ljava/util/function/BiFunction;" ∈ tw := tw_tb (List.mem_of_getElem? (i := 487) (by decide +kernel)) (by decide +kernel)
theorem jn_b0 : narrow .byte (.int 0) = .int 0 := by decide +kernel
abbrev Y_J0_coder_7d493 : jY := (yJ0_coder_7d493, cJ0_coder_7d493, 1, some .byte, { frames := 0, cells := 0, slots := 0, locals := 0 })
theorem C_coder {l : Launch} {G : jG} (hG : jWL G) (w : Nat) (σ : jS) : jC (r_P σ) l G Y_J0_coder_7d493 [.ref (jsK G w)] σ (gd (w < 7) (some 0)) := by
  refine jw_met hG pn_J0 (Nat.le_of_ble_eq_true rfl) ⟨rfl, rfl⟩ ?_
  intro X hX hM
  have hX : jB X l G cJ0_coder_7d493 RJ0 1 { frames := 0, cells := 0, slots := 0, locals := 0 } := hX
  have hM : jM X (some .byte) := hM
  show J X 0 [(0, .ref (jsK G w))] [] σ (gd (w < 7) (some 0)) (jk (r_P σ) X)
  refine J_gd (fun hw => ?_)
  refine J_gstZ hX wk_cs dJ0_coder_7d493_0 ?_
  refine J_if_eq2 hX 13 dJ0_coder_7d493_3 rfl (by decide) ?_
  refine J_aload_n hX dJ0_coder_7d493_6 rfl ?_
  refine J_gfC hX hw wk_cod dJ0_coder_7d493_7 ?_
  refine J_goto hX dJ0_coder_7d493_10 (tgt := 14) rfl ?_
  exact J_zretP2 hX hM jn_b0 dJ0_coder_7d493_14
theorem mw_J0_coder_7d493 : jMV Y_J0_coder_7d493 0 := ⟨⟨tw_tb (List.mem_of_getElem? (i := 468) (by decide +kernel)) (by decide +kernel), tw_tb (List.mem_of_getElem? (i := 469) (by decide +kernel)) (by decide +kernel), tw_tb (List.mem_of_getElem? (i := 14) (by decide +kernel)) (by decide +kernel), tw_tb (List.mem_of_getElem? (i := 470) (by decide +kernel)) (by decide +kernel)⟩, ⟨rfl, rfl⟩, by decide +kernel, by decide +kernel, by decide +kernel⟩
theorem ml_J0_335 : Cond.methodLink RJ0 335 yJ0_coder_7d493 ∈ tw := tw_tb (List.mem_of_getElem? (i := 467) (by decide +kernel)) (by decide +kernel)
abbrev Y_J0_length_8abf5 : jY := (yJ0_length_8abf5, cJ0_length_8abf5, 1, some .int, { frames := 1, cells := 0, slots := 0, locals := 20 })
noncomputable def f_strlen (w : Nat) : Option Int32 := gd (w < 7) (some (nI (jw_len.getD w 0)))
theorem f_strlen_lt {w : Nat} (q : Int32) (h : f_strlen w = some q) : w < 7 := by
  unfold f_strlen at h
  by_cases hw : w < 7
  · exact hw
  · rw [gd_f hw] at h; cases h
theorem C_strlen {l : Launch} {G : jG} (hG : jWL G) (w : Nat) (σ : jS) : jC (r_P σ) l G Y_J0_length_8abf5 [.ref (jsK G w)] σ (f_strlen w) := by
  by_cases hw : w < 7
  · have e : f_strlen w = (gd (w < 7) (some 0)).bind (fun q : Int32 => some (nI (jw_len.getD w 0) >>> (q &&& 31))) := by
      unfold f_strlen
      rw [gd_t hw, gd_t hw]
      show some (nI (jw_len.getD w 0)) = some (nI (jw_len.getD w 0) >>> ((0 : Int32) &&& 31))
      have : ∀ x : Int32, x >>> ((0 : Int32) &&& 31) = x := by
        intro x
        have h0 : ((0 : Int32) &&& 31) = 0 := by decide
        rw [h0]
        simp
      rw [this]
    rw [e]
    refine jw_met hG pn_J0 (Nat.le_of_ble_eq_true rfl) ⟨rfl, rfl⟩ ?_
    intro X hX hM
    have hX : jB X l G cJ0_length_8abf5 RJ0 1 { frames := 1, cells := 0, slots := 0, locals := 20 } := hX
    have hM : jM X (some .int) := hM
    show J X 0 [(0, .ref (jsK G w))] [] σ ((gd (w < 7) (some 0)).bind (fun q : Int32 => some (nI (jw_len.getD w 0) >>> (q &&& 31)))) (jk (r_P σ) X)
    refine J_aload_n hX dJ0_length_8abf5_0 rfl ?_
    refine J_gfV hX hw wk_val dJ0_length_8abf5_1 ?_
    refine J_alenT hX hw dJ0_length_8abf5_4 ?_
    refine J_aload_n hX dJ0_length_8abf5_5 rfl ?_
    refine J_cTP hX (C_coder hG w σ) (fun _ _ => hw) rfl mw_J0_coder_7d493 ml_J0_335 ⟨Nat.le_of_ble_eq_true rfl, Nat.le_of_ble_eq_true rfl⟩ rfl rfl (Nat.le_of_ble_eq_true rfl) dJ0_length_8abf5_6 (fun q => ?_)
    refine J_ishr hX dJ0_length_8abf5_9 ?_
    exact J_iretP hX hM dJ0_length_8abf5_10
  · intro q hq
    exact absurd (f_strlen_lt q hq) hw
theorem mw_J0_length_8abf5 : jMV Y_J0_length_8abf5 0 := ⟨⟨tw_tb (List.mem_of_getElem? (i := 464) (by decide +kernel)) (by decide +kernel), tw_tb (List.mem_of_getElem? (i := 465) (by decide +kernel)) (by decide +kernel), tw_tb (List.mem_of_getElem? (i := 14) (by decide +kernel)) (by decide +kernel), tw_tb (List.mem_of_getElem? (i := 466) (by decide +kernel)) (by decide +kernel)⟩, ⟨rfl, rfl⟩, by decide +kernel, by decide +kernel, by decide +kernel⟩
abbrev Y_J0_isLatin1_aae02 : jY := (yJ0_isLatin1_aae02, cJ0_isLatin1_aae02, 1, some .boolean, { frames := 0, cells := 0, slots := 0, locals := 0 })
theorem C_isLatin1 {l : Launch} {G : jG} (hG : jWL G) (w : Nat) (σ : jS) : jC (r_P σ) l G Y_J0_isLatin1_aae02 [.ref (jsK G w)] σ (gd (w < 7) (some 1)) := by
  refine jw_met hG pn_J0 (Nat.le_of_ble_eq_true rfl) ⟨rfl, rfl⟩ ?_
  intro X hX hM
  have hX : jB X l G cJ0_isLatin1_aae02 RJ0 1 { frames := 0, cells := 0, slots := 0, locals := 0 } := hX
  have hM : jM X (some .boolean) := hM
  show J X 0 [(0, .ref (jsK G w))] [] σ (gd (w < 7) (some 1)) (jk (r_P σ) X)
  refine J_gd (fun hw => ?_)
  refine J_gstZ hX wk_cs dJ0_isLatin1_aae02_0 ?_
  refine J_if_eq2 hX 17 dJ0_isLatin1_aae02_3 rfl (by decide) ?_
  refine J_aload_n hX dJ0_isLatin1_aae02_6 rfl ?_
  refine J_gfC hX hw wk_cod dJ0_isLatin1_aae02_7 ?_
  refine J_if_ne2 hX 17 dJ0_isLatin1_aae02_10 rfl rfl ?_
  refine J_iconst hX dJ0_isLatin1_aae02_13 k_i1 ?_
  refine J_goto hX dJ0_isLatin1_aae02_14 (tgt := 18) rfl ?_
  exact J_zretP hX hM jn_1 dJ0_isLatin1_aae02_18
theorem mw_J0_isLatin1_aae02 : jMV Y_J0_isLatin1_aae02 0 := ⟨⟨tw_tb (List.mem_of_getElem? (i := 478) (by decide +kernel)) (by decide +kernel), tw_tb (List.mem_of_getElem? (i := 479) (by decide +kernel)) (by decide +kernel), tw_tb (List.mem_of_getElem? (i := 14) (by decide +kernel)) (by decide +kernel), tw_tb (List.mem_of_getElem? (i := 480) (by decide +kernel)) (by decide +kernel)⟩, ⟨rfl, rfl⟩, by decide +kernel, by decide +kernel, by decide +kernel⟩
abbrev Y_J3_checkIndex_8e157 : jY := (yJ3_checkIndex_8e157, cJ3_checkIndex_8e157, 3, some .int, { frames := 0, cells := 0, slots := 0, locals := 0 })
theorem C_check3 {l : Launch} {G : jG} (hG : jWL G) (i n : Int32) (v : Value) (hv : v = .null ∨ ∃ a, v = .ref a) (σ : jS) : jC (r_P σ) l G Y_J3_checkIndex_8e157 [.int i, .int n, v] σ (gd (0 ≤ i ∧ i < n) (some i)) := by
  rcases hv with rfl | ⟨a, rfl⟩
  · refine jw_met hG pn_J3 (Nat.le_of_ble_eq_true rfl) ⟨rfl, rfl⟩ ?_
    intro X hX hM
    have hX : jB X l G cJ3_checkIndex_8e157 RJ3 3 { frames := 0, cells := 0, slots := 0, locals := 0 } := hX
    have hM : jM X (some .int) := hM
    show J X 0 [(0, .int i), (1, .int n), (2, .null)] [] σ (gd (0 ≤ i ∧ i < n) (some i)) (jk (r_P σ) X)
    refine J_gd (fun h => ?_)
    refine J_iload_n hX dJ3_checkIndex_8e157_0 rfl ?_
    refine J_if_lt2 hX 9 dJ3_checkIndex_8e157_1 rfl (Int32.not_lt.mpr h.1) ?_
    refine J_iload_n hX dJ3_checkIndex_8e157_4 rfl ?_
    refine J_iload_n hX dJ3_checkIndex_8e157_5 rfl ?_
    refine J_icmp_lt2 hX 16 dJ3_checkIndex_8e157_6 rfl h.2 ?_
    refine J_iload_n hX dJ3_checkIndex_8e157_16 rfl ?_
    exact J_iretP hX hM dJ3_checkIndex_8e157_17
  · refine jw_met hG pn_J3 (Nat.le_of_ble_eq_true rfl) ⟨rfl, rfl⟩ ?_
    intro X hX hM
    have hX : jB X l G cJ3_checkIndex_8e157 RJ3 3 { frames := 0, cells := 0, slots := 0, locals := 0 } := hX
    have hM : jM X (some .int) := hM
    show J X 0 [(0, .int i), (1, .int n), (2, .ref a)] [] σ (gd (0 ≤ i ∧ i < n) (some i)) (jk (r_P σ) X)
    refine J_gd (fun h => ?_)
    refine J_iload_n hX dJ3_checkIndex_8e157_0 rfl ?_
    refine J_if_lt2 hX 9 dJ3_checkIndex_8e157_1 rfl (Int32.not_lt.mpr h.1) ?_
    refine J_iload_n hX dJ3_checkIndex_8e157_4 rfl ?_
    refine J_iload_n hX dJ3_checkIndex_8e157_5 rfl ?_
    refine J_icmp_lt2 hX 16 dJ3_checkIndex_8e157_6 rfl h.2 ?_
    refine J_iload_n hX dJ3_checkIndex_8e157_16 rfl ?_
    exact J_iretP hX hM dJ3_checkIndex_8e157_17
theorem mw_J3_checkIndex_8e157 : jMS Y_J3_checkIndex_8e157 3 := ⟨⟨tw_tb (List.mem_of_getElem? (i := 490) (by decide +kernel)) (by decide +kernel), tw_tb (List.mem_of_getElem? (i := 16) (by decide +kernel)) (by decide +kernel), tw_tb (List.mem_of_getElem? (i := 491) (by decide +kernel)) (by decide +kernel)⟩, ⟨rfl, rfl⟩, by decide +kernel, by decide +kernel, by decide +kernel⟩
theorem ml_J0_1059 : Cond.methodLink RJ0 1059 yJ3_checkIndex_8e157 ∈ tw := tw_tb (List.mem_of_getElem? (i := 489) (by decide +kernel)) (by decide +kernel)
abbrev Y_J0_checkIndex_df160 : jY := (yJ0_checkIndex_df160, cJ0_checkIndex_df160, 2, none, { frames := 1, cells := 0, slots := 0, locals := 22 })
theorem C_check2 {l : Launch} {G : jG} (hG : jWL G) (i n : Int32) (σ : jS) : jC r_V l G Y_J0_checkIndex_df160 [.int i, .int n] σ ((gd (0 ≤ i ∧ i < n) (some i)).bind (fun _ => some σ)) := by
  refine jw_met hG pn_J0 (Nat.le_of_ble_eq_true rfl) ⟨rfl, rfl⟩ ?_
  intro X hX hM
  have hX : jB X l G cJ0_checkIndex_df160 RJ0 2 { frames := 1, cells := 0, slots := 0, locals := 22 } := hX
  have hM : jM X (none) := hM
  show J X 0 [(0, .int i), (1, .int n)] [] σ ((gd (0 ≤ i ∧ i < n) (some i)).bind (fun _ => some σ)) (jk r_V X)
  refine J_iload_n hX dJ0_checkIndex_df160_0 rfl ?_
  refine J_iload_n hX dJ0_checkIndex_df160_1 rfl ?_
  refine J_gstQ hX wk_sio dJ0_checkIndex_df160_2 (fun v hv => ?_)
  refine J_cSP hX (C_check3 hG i n v hv σ) mw_J3_checkIndex_8e157 ml_J0_1059 ⟨Nat.le_of_ble_eq_true rfl, Nat.le_of_ble_eq_true rfl⟩ rfl rfl (Nat.le_of_ble_eq_true rfl) dJ0_checkIndex_df160_5 (fun q => ?_)
  refine J_pop hX dJ0_checkIndex_df160_8 rfl ?_
  exact J_vret hX hM dJ0_checkIndex_df160_9
theorem mw_J0_checkIndex_df160 : jMS Y_J0_checkIndex_df160 2 := ⟨⟨tw_tb (List.mem_of_getElem? (i := 485) (by decide +kernel)) (by decide +kernel), tw_tb (List.mem_of_getElem? (i := 14) (by decide +kernel)) (by decide +kernel), tw_tb (List.mem_of_getElem? (i := 486) (by decide +kernel)) (by decide +kernel)⟩, ⟨rfl, rfl⟩, by decide +kernel, by decide +kernel, by decide +kernel⟩
theorem ml_J1_9 : Cond.methodLink RJ1 9 yJ0_checkIndex_df160 ∈ tw := tw_tb (List.mem_of_getElem? (i := 484) (by decide +kernel)) (by decide +kernel)
def chr (w : Nat) (k : Int32) : Int32 := (((jw_byt.getD w []).getD k.toNatClampNeg 0 &&& 255).toUInt32 % 65536).toInt32
noncomputable def f_chr (w : Nat) (k : Int32) : Option Int32 := gd (w < 7 ∧ vp_in k (jw_len.getD w 0) ∧ (0 ≤ k ∧ k < nI (jw_len.getD w 0)) ∧ narrow .char (.int (chr w k)) = .int (chr w k)) (some (chr w k))
abbrev Y_J1_charAt_3b067 : jY := (yJ1_charAt_3b067, cJ1_charAt_3b067, 2, some .char, { frames := 2, cells := 0, slots := 0, locals := 43 })
theorem C_lchar {l : Launch} {G : jG} (hG : jWL G) (w : Nat) (k : Int32) (σ : jS) : jC (r_P σ) l G Y_J1_charAt_3b067 [.ref (jsV G w), .int k] σ (f_chr w k) := by
  have e : f_chr w k = gd (w < 7 ∧ vp_in k (jw_len.getD w 0) ∧ (0 ≤ k ∧ k < nI (jw_len.getD w 0)) ∧ narrow .char (.int (chr w k)) = .int (chr w k)) (((gd (0 ≤ k ∧ k < nI (jw_len.getD w 0)) (some k)).bind (fun _ => some σ)).bind (fun _ => some (chr w k))) := by
    unfold f_chr
    by_cases h : w < 7 ∧ vp_in k (jw_len.getD w 0) ∧ (0 ≤ k ∧ k < nI (jw_len.getD w 0)) ∧ narrow .char (.int (chr w k)) = .int (chr w k)
    · rw [gd_t h, gd_t h, gd_t h.2.2.1]; rfl
    · rw [gd_f h, gd_f h]
  rw [e]
  refine jw_met hG pn_J1 (Nat.le_of_ble_eq_true rfl) ⟨rfl, rfl⟩ ?_
  intro X hX hM
  have hX : jB X l G cJ1_charAt_3b067 RJ1 2 { frames := 2, cells := 0, slots := 0, locals := 43 } := hX
  have hM : jM X (some .char) := hM
  show J X 0 [(0, .ref (jsV G w)), (1, .int k)] [] σ (gd (w < 7 ∧ vp_in k (jw_len.getD w 0) ∧ (0 ≤ k ∧ k < nI (jw_len.getD w 0)) ∧ narrow .char (.int (chr w k)) = .int (chr w k)) (((gd (0 ≤ k ∧ k < nI (jw_len.getD w 0)) (some k)).bind (fun _ => some σ)).bind (fun _ => some (chr w k)))) (jk (r_P σ) X)
  refine J_gd (fun h => ?_)
  refine J_iload_n hX dJ1_charAt_3b067_0 rfl ?_
  refine J_aload_n hX dJ1_charAt_3b067_1 rfl ?_
  refine J_alenT hX h.1 dJ1_charAt_3b067_2 ?_
  refine J_cSVp hX (C_check2 hG k (nI (jw_len.getD w 0)) σ) mw_J0_checkIndex_df160 ml_J1_9 ⟨Nat.le_of_ble_eq_true rfl, Nat.le_of_ble_eq_true rfl⟩ rfl rfl (Nat.le_of_ble_eq_true rfl) dJ1_charAt_3b067_3 (by rw [gd_t h.2.2.1]; rfl) ?_
  refine J_aload_n hX dJ1_charAt_3b067_6 rfl ?_
  refine J_iload_n hX dJ1_charAt_3b067_7 rfl ?_
  refine J_balT hX h.1 h.2.1 dJ1_charAt_3b067_8 ?_
  refine J_sipush hX dJ1_charAt_3b067_9 ks_255 ?_
  refine J_iand hX dJ1_charAt_3b067_12 ?_
  refine J_i2c hX dJ1_charAt_3b067_13 ?_
  exact J_zretP2 hX hM h.2.2.2 dJ1_charAt_3b067_14
theorem mw_J1_charAt_3b067 : jMS Y_J1_charAt_3b067 2 := ⟨⟨tw_tb (List.mem_of_getElem? (i := 482) (by decide +kernel)) (by decide +kernel), tw_tb (List.mem_of_getElem? (i := 15) (by decide +kernel)) (by decide +kernel), tw_tb (List.mem_of_getElem? (i := 483) (by decide +kernel)) (by decide +kernel)⟩, ⟨rfl, rfl⟩, by decide +kernel, by decide +kernel, by decide +kernel⟩
theorem ml_J0_492 : Cond.methodLink RJ0 492 yJ0_isLatin1_aae02 ∈ tw := tw_tb (List.mem_of_getElem? (i := 477) (by decide +kernel)) (by decide +kernel)
theorem ml_J0_495 : Cond.methodLink RJ0 495 yJ1_charAt_3b067 ∈ tw := tw_tb (List.mem_of_getElem? (i := 481) (by decide +kernel)) (by decide +kernel)
abbrev Y_J0_charAt_5068e : jY := (yJ0_charAt_5068e, cJ0_charAt_5068e, 2, some .char, { frames := 3, cells := 0, slots := 0, locals := 64 })
noncomputable def f_charAt (w : Nat) (k : Int32) : Option Int32 := f_chr w k
theorem f_charAt_lt {w : Nat} {k : Int32} (q : Int32) (h : f_charAt w k = some q) : w < 7 := by
  unfold f_charAt f_chr at h
  by_cases hw : w < 7 ∧ vp_in k (jw_len.getD w 0) ∧ (0 ≤ k ∧ k < nI (jw_len.getD w 0)) ∧ narrow .char (.int (chr w k)) = .int (chr w k)
  · exact hw.1
  · rw [gd_f hw] at h; cases h
theorem C_charAt {l : Launch} {G : jG} (hG : jWL G) (w : Nat) (k : Int32) (σ : jS) : jC (r_P σ) l G Y_J0_charAt_5068e [.ref (jsK G w), .int k] σ (f_charAt w k) := by
  by_cases hw : w < 7
  · have e : f_charAt w k = (gd (w < 7) (some 1)).bind (fun q : Int32 => if q = 0 then none else (f_chr w k).bind (fun c => gd (narrow .char (.int c) = .int c) (some c))) := by
      unfold f_charAt
      rw [gd_t hw]
      show f_chr w k = if (1 : Int32) = 0 then none else (f_chr w k).bind (fun c => gd (narrow .char (.int c) = .int c) (some c))
      rw [if_neg (by decide)]
      unfold f_chr
      by_cases h : w < 7 ∧ vp_in k (jw_len.getD w 0) ∧ (0 ≤ k ∧ k < nI (jw_len.getD w 0)) ∧ narrow .char (.int (chr w k)) = .int (chr w k)
      · rw [gd_t h]
        show some (chr w k) = gd (narrow .char (.int (chr w k)) = .int (chr w k)) (some (chr w k))
        rw [gd_t h.2.2.2]
      · rw [gd_f h]; rfl
    rw [e]
    refine jw_met hG pn_J0 (Nat.le_of_ble_eq_true rfl) ⟨rfl, rfl⟩ ?_
    intro X hX hM
    have hX : jB X l G cJ0_charAt_5068e RJ0 2 { frames := 3, cells := 0, slots := 0, locals := 64 } := hX
    have hM : jM X (some .char) := hM
    show J X 0 [(0, .ref (jsK G w)), (1, .int k)] [] σ ((gd (w < 7) (some 1)).bind (fun q : Int32 => if q = 0 then none else (f_chr w k).bind (fun c => gd (narrow .char (.int c) = .int c) (some c)))) (jk (r_P σ) X)
    refine J_aload_n hX dJ0_charAt_5068e_0 rfl ?_
    refine J_cTP hX (C_isLatin1 hG w σ) (fun _ _ => hw) rfl mw_J0_isLatin1_aae02 ml_J0_492 ⟨Nat.le_of_ble_eq_true rfl, Nat.le_of_ble_eq_true rfl⟩ rfl rfl (Nat.le_of_ble_eq_true rfl) dJ0_charAt_5068e_1 (fun q => ?_)
    refine J_if_eq hX dJ0_charAt_5068e_4 (tgt := 16) rfl (fun _ => J_none) (fun _ => ?_)
    refine J_aload_n hX dJ0_charAt_5068e_7 rfl ?_
    refine J_gfV hX hw wk_val dJ0_charAt_5068e_8 ?_
    refine J_iload_n hX dJ0_charAt_5068e_11 rfl ?_
    refine J_cSP hX (C_lchar hG w k σ) mw_J1_charAt_3b067 ml_J0_495 ⟨Nat.le_of_ble_eq_true rfl, Nat.le_of_ble_eq_true rfl⟩ rfl rfl (Nat.le_of_ble_eq_true rfl) dJ0_charAt_5068e_12 (fun c => ?_)
    refine J_gd (fun h => ?_)
    exact J_zretP2 hX hM h dJ0_charAt_5068e_15
  · intro q hq
    exact absurd (f_charAt_lt q hq) hw
theorem mw_J0_charAt_5068e : jMV Y_J0_charAt_5068e 1 := ⟨⟨tw_tb (List.mem_of_getElem? (i := 474) (by decide +kernel)) (by decide +kernel), tw_tb (List.mem_of_getElem? (i := 475) (by decide +kernel)) (by decide +kernel), tw_tb (List.mem_of_getElem? (i := 14) (by decide +kernel)) (by decide +kernel), tw_tb (List.mem_of_getElem? (i := 476) (by decide +kernel)) (by decide +kernel)⟩, ⟨rfl, rfl⟩, by decide +kernel, by decide +kernel, by decide +kernel⟩
