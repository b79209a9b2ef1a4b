def ne : Nat → List jSh → List (Nat × jSh)
  | _, [] => []
  | n, c :: r => (n, c) :: ne (n + 1) r
def CX : List (Nat × jSh) := ne 0 LS_X10
def Gc (G : jG) (C : List (Nat × jSh)) (ad : Nat → Nat) : jG := (G.1, G.2.1, G.2.2.1, C, G.2.2.2.2.1, G.2.2.2.2.2.1, G.2.2.2.2.2.2.1, ad)
def σz : jS := (fun a k => if a = 30 ∧ k = 5 then -1 else 0, fun _ _ => 0)
def ad1 (h0 : Nat) (q : Nat → Nat) : Nat → Nat := fun k => match k with
  | 0 => h0
  | k + 1 => q k
theorem jWL_of {G : jG} {σ : jS} (h : va_D (jA G) (jw_ws G σ)) : jWL G := ⟨fun i j p q hp hq e => h.1 i j _ _ (jw_ws_at σ hp) (jw_ws_at σ hq) e, fun i p hp => h.2 i _ (jw_ws_at σ hp)⟩
def nw_X10 (cI cZ : ClassId) (h0 : Nat) (q : Nat → Nat) : va_W := (h0, .inr (10, [.ref (q 0), .ref (q 2), .ref (q 30), .ref (q 47), .ref (q 54), .ref (q 56), .ref (q 61), .ref (q 66), .ref (q 71), .ref (q 76), .ref (q 78), .ref (q 80), .ref (q 82), .ref (q 90), .ref (q 97)])) :: ((((((((((((((([] ++ nw_X4 cI (q 0) 400 (fun k => q (1 + k))) ++ nw_X5 cI cZ (q 2) (q 0) (fun k => q (3 + k))) ++ nw_X6 cI cZ (q 30) (fun k => q (31 + k))) ++ nw_X7 cI cZ (q 47) (fun k => q (48 + k))) ++ nw_X4 cI (q 54) 30 (fun k => q (55 + k))) ++ nw_X2 cI cZ (q 56) (q 30) (fun k => q (57 + k))) ++ nw_X2 cI cZ (q 61) (q 30) (fun k => q (62 + k))) ++ nw_X2 cI cZ (q 66) (q 30) (fun k => q (67 + k))) ++ nw_X2 cI cZ (q 71) (q 30) (fun k => q (72 + k))) ++ nw_X4 cI (q 76) 8 (fun k => q (77 + k))) ++ nw_X4 cI (q 78) 40 (fun k => q (79 + k))) ++ nw_X1 cI cZ (q 80) (fun k => q (81 + k))) ++ nw_X9 cI cZ (q 82) (q 80) (fun k => q (83 + k))) ++ nw_X8 cI cZ (q 90) (q 80) (fun k => q (91 + k))) ++ nw_X0 cI cZ (q 97) (q 56) (fun k => q (98 + k)))
def EL_X10 (cI cZ : ClassId) (h0 : Nat) (q : Nat → Nat) : va_W := [(h0, .inr (10, [.ref (q 0), .ref (q 2), .ref (q 30), .ref (q 47), .ref (q 54), .ref (q 56), .ref (q 61), .ref (q 66), .ref (q 71), .ref (q 76), .ref (q 78), .ref (q 80), .ref (q 82), .ref (q 90), .ref (q 97)])), (q 0, .inr (4, [.ref (q 1), .int 0])), (q 1, .inl (cI, 400, .inl (fun _ => 0))), (q 2, .inr (5, [.ref (q 0), .ref (q 29), .ref (q 3), .ref (q 20), .ref (q 27)])), (q 3, .inr (6, [.ref (q 4), .ref (q 6), .ref (q 8), .ref (q 10), .ref (q 12), .ref (q 14), .ref (q 16), .ref (q 18), .int 0, .int 0, .int 0])), (q 4, .inr (4, [.ref (q 5), .int 0])), (q 5, .inl (cI, 10, .inl (fun _ => 0))), (q 6, .inr (4, [.ref (q 7), .int 0])), (q 7, .inl (cI, 10, .inl (fun _ => 0))), (q 8, .inr (4, [.ref (q 9), .int 0])), (q 9, .inl (cI, 10, .inl (fun _ => 0))), (q 10, .inr (4, [.ref (q 11), .int 0])), (q 11, .inl (cI, 10, .inl (fun _ => 0))), (q 12, .inr (4, [.ref (q 13), .int 0])), (q 13, .inl (cI, 8, .inl (fun _ => 0))), (q 14, .inr (4, [.ref (q 15), .int 0])), (q 15, .inl (cI, 8, .inl (fun _ => 0))), (q 16, .inr (4, [.ref (q 17), .int 0])), (q 17, .inl (cI, 8, .inl (fun _ => 0))), (q 18, .inr (4, [.ref (q 19), .int 0])), (q 19, .inl (cI, 8, .inl (fun _ => 0))), (q 20, .inr (7, [.ref (q 21), .ref (q 23), .ref (q 25)])), (q 21, .inr (4, [.ref (q 22), .int 0])), (q 22, .inl (cI, 30, .inl (fun _ => 0))), (q 23, .inr (4, [.ref (q 24), .int 0])), (q 24, .inl (cI, 30, .inl (fun _ => 0))), (q 25, .inr (4, [.ref (q 26), .int 0])), (q 26, .inl (cI, 30, .inl (fun _ => 0))), (q 27, .inr (4, [.ref (q 28), .int 0])), (q 28, .inl (cI, 30, .inl (fun _ => 0))), (q 29, .inr (3, [.ref (q 0), .int 0, .int 0, .int 0, .int 0, .int (-1)])), (q 30, .inr (6, [.ref (q 31), .ref (q 33), .ref (q 35), .ref (q 37), .ref (q 39), .ref (q 41), .ref (q 43), .ref (q 45), .int 0, .int 0, .int 0])), (q 31, .inr (4, [.ref (q 32), .int 0])), (q 32, .inl (cI, 10, .inl (fun _ => 0))), (q 33, .inr (4, [.ref (q 34), .int 0])), (q 34, .inl (cI, 10, .inl (fun _ => 0))), (q 35, .inr (4, [.ref (q 36), .int 0])), (q 36, .inl (cI, 10, .inl (fun _ => 0))), (q 37, .inr (4, [.ref (q 38), .int 0])), (q 38, .inl (cI, 10, .inl (fun _ => 0))), (q 39, .inr (4, [.ref (q 40), .int 0])), (q 40, .inl (cI, 8, .inl (fun _ => 0))), (q 41, .inr (4, [.ref (q 42), .int 0])), (q 42, .inl (cI, 8, .inl (fun _ => 0))), (q 43, .inr (4, [.ref (q 44), .int 0])), (q 44, .inl (cI, 8, .inl (fun _ => 0))), (q 45, .inr (4, [.ref (q 46), .int 0])), (q 46, .inl (cI, 8, .inl (fun _ => 0))), (q 47, .inr (7, [.ref (q 48), .ref (q 50), .ref (q 52)])), (q 48, .inr (4, [.ref (q 49), .int 0])), (q 49, .inl (cI, 30, .inl (fun _ => 0))), (q 50, .inr (4, [.ref (q 51), .int 0])), (q 51, .inl (cI, 30, .inl (fun _ => 0))), (q 52, .inr (4, [.ref (q 53), .int 0])), (q 53, .inl (cI, 30, .inl (fun _ => 0))), (q 54, .inr (4, [.ref (q 55), .int 0])), (q 55, .inl (cI, 30, .inl (fun _ => 0))), (q 56, .inr (2, [.ref (q 30), .ref (q 57), .ref (q 58), .ref (q 59), .ref (q 60), .int 0, .int 0, .int 0, .int 0, .int 0])), (q 57, .inl (cI, 10, .inl (fun _ => 0))), (q 58, .inl (cI, 10, .inl (fun _ => 0))), (q 59, .inl (cI, 10, .inl (fun _ => 0))), (q 60, .inl (cI, 10, .inl (fun _ => 0))), (q 61, .inr (2, [.ref (q 30), .ref (q 62), .ref (q 63), .ref (q 64), .ref (q 65), .int 0, .int 0, .int 0, .int 0, .int 0])), (q 62, .inl (cI, 10, .inl (fun _ => 0))), (q 63, .inl (cI, 10, .inl (fun _ => 0))), (q 64, .inl (cI, 10, .inl (fun _ => 0))), (q 65, .inl (cI, 10, .inl (fun _ => 0))), (q 66, .inr (2, [.ref (q 30), .ref (q 67), .ref (q 68), .ref (q 69), .ref (q 70), .int 0, .int 0, .int 0, .int 0, .int 0])), (q 67, .inl (cI, 10, .inl (fun _ => 0))), (q 68, .inl (cI, 10, .inl (fun _ => 0))), (q 69, .inl (cI, 10, .inl (fun _ => 0))), (q 70, .inl (cI, 10, .inl (fun _ => 0))), (q 71, .inr (2, [.ref (q 30), .ref (q 72), .ref (q 73), .ref (q 74), .ref (q 75), .int 0, .int 0, .int 0, .int 0, .int 0])), (q 72, .inl (cI, 10, .inl (fun _ => 0))), (q 73, .inl (cI, 10, .inl (fun _ => 0))), (q 74, .inl (cI, 10, .inl (fun _ => 0))), (q 75, .inl (cI, 10, .inl (fun _ => 0))), (q 76, .inr (4, [.ref (q 77), .int 0])), (q 77, .inl (cI, 8, .inl (fun _ => 0))), (q 78, .inr (4, [.ref (q 79), .int 0])), (q 79, .inl (cI, 40, .inl (fun _ => 0))), (q 80, .inr (1, [.ref (q 81)])), (q 81, .inl (cI, 3200, .inl (fun _ => 0))), (q 82, .inr (9, [.ref (q 80), .ref (q 83), .ref (q 85), .ref (q 86), .ref (q 88), .ref (q 89)])), (q 83, .inr (4, [.ref (q 84), .int 0])), (q 84, .inl (cI, 1024, .inl (fun _ => 0))), (q 85, .inl (cI, 1024, .inl (fun _ => 0))), (q 86, .inr (4, [.ref (q 87), .int 0])), (q 87, .inl (cI, 256, .inl (fun _ => 0))), (q 88, .inl (cI, 1024, .inl (fun _ => 0))), (q 89, .inl (cI, 64, .inl (fun _ => 0))), (q 90, .inr (8, [.ref (q 80), .ref (q 91), .ref (q 92), .ref (q 93), .ref (q 95), .int 0, .int 0, .int 0])), (q 91, .inl (cI, 51200, .inl (fun _ => 0))), (q 92, .inl (cI, 50, .inl (fun _ => 0))), (q 93, .inr (4, [.ref (q 94), .int 0])), (q 94, .inl (cI, 64, .inl (fun _ => 0))), (q 95, .inr (4, [.ref (q 96), .int 0])), (q 96, .inl (cI, 59, .inl (fun _ => 0))), (q 97, .inr (0, [.ref (q 56), .ref (q 98), .ref (q 99)])), (q 98, .inl (cI, 10, .inl (fun _ => 0))), (q 99, .inl (cI, 1024, .inl (fun _ => 0)))]
set_option maxHeartbeats 20000000 in
set_option maxRecDepth 100000 in
theorem nwX10_a (cI cZ : ClassId) (h0 : Nat) (q : Nat → Nat) : nw_X10 cI cZ h0 q = EL_X10 cI cZ h0 q := by
  simp only [nw_X10, nw_X0, nw_X1, nw_X2, nw_X3, nw_X4, nw_X5, nw_X6, nw_X7, nw_X8, nw_X9, EL_X10, List.nil_append, List.cons_append, Nat.reduceAdd]
set_option maxHeartbeats 20000000 in
set_option maxRecDepth 100000 in
theorem nwX10_b (G : jG) (h0 : Nat) (q : Nat → Nat) : jw_ws (Gc G CX (ad1 h0 q)) σz = EL_X10 G.2.1 G.2.2.1 h0 q := by
  have hz : ∀ a, a ≠ 30 → g_i σz a = fun _ => 0 := by
    intro a ha
    funext k
    show (if a = 30 ∧ k = 5 then (-1 : Int32) else 0) = 0
    rw [if_neg (fun z => ha z.1)]
  have hr0 : g_i σz 30 1 = 0 := rfl
  have hr1 : g_i σz 30 2 = 0 := rfl
  have hr2 : g_i σz 30 3 = 0 := rfl
  have hr3 : g_i σz 30 4 = 0 := rfl
  have hr4 : g_i σz 30 5 = -1 := rfl
  simp only [jw_ws, Gc, CX, ne, LS_X10, List.map_cons, List.map_nil, jw_e, jw_fs, jw_v, jad, ad1, EL_X10, Nat.reduceAdd, hr0, hr1, hr2, hr3, hr4]
  simp [hz, ne_eq, Nat.reduceEqDiff, not_false_eq_true]
theorem nwX10_eq (G : jG) (h0 : Nat) (q : Nat → Nat) : nw_X10 G.2.1 G.2.2.1 h0 q = jw_ws (Gc G CX (ad1 h0 q)) σz := (nwX10_a _ _ h0 q).trans (nwX10_b G h0 q).symm
def nJX (X : nX) (G' : jG) (cells slots : Nat) : jX := match X with
  | (p, l, e, R, s, m, args, below, meth, c, G, nL, Q) => (p, l, e, R, s, m, args, below, meth, c, G', nL, (fun _ _ => True), Q, cells, slots)
theorem N_toJ {X : nX} {l : Launch} {G : jG} {cc : ByteArray} {own : String} {nL : Nat} {R : Room} {pc : Nat} {lv : List (Nat × Value)} {st : List Value} {ws : va_W} {cells slots : Nat} {σ : jS} (C : List (Nat × jSh)) (ad : Nat → Nat) (hX : nB X l G cc own nL R) (hc : cells ≤ R.cells) (hs : slots ≤ R.slots) (he : ws = jw_ws (Gc G C ad) σ) (k : jWL (Gc G C ad) → jB (nJX X (Gc G C ad) cells slots) l (Gc G C ad) cc own nL R → j0 (nJX X (Gc G C ad) cells slots) pc lv st σ) : NJ X pc lv st ws cells slots := by
  obtain ⟨p, l, e, R, s, m, args, below, meth, c, G, nL, Q⟩ := X
  obtain ⟨rfl, rfl, rfl, rfl, hx, hb, hml, hown, hts, hK, hB⟩ := hX
  intro ls H locs hl hP hD hS
  subst he
  have hWL := jWL_of (G := Gc G C ad) hD
  exact k hWL ⟨rfl, rfl, rfl, rfl, hx, hb, hml, hown, hts, hK, hWL, hB, hc, hs⟩ ls H locs hl hP hS
theorem N_cret {X : nX} {l : Launch} {G : jG} {cc : ByteArray} {own : String} {nL : Nat} {R : Room} {pc : Nat} {lv : List (Nat × Value)} {cells slots : Nat} {σ τ : jS} {C : List (Nat × jSh)} {ad : Nat → Nat} (hX : nB X l G cc own nL R) {post : va_W → Prop} {mc ms : Nat} (hM : nM X G post mc ms) (hp : post (jw_ws (Gc G C ad) τ)) (hWL : jWL (Gc G C ad)) (hc : cells ≤ mc) (hs : slots ≤ ms) (hd : decode cc pc = .ok (.return_, 1)) : J (nJX X (Gc G C ad) cells slots) pc lv [] σ (some σ) (fun t => t = τ) := by
  obtain ⟨p, l, e, R, s, m, args, below, meth, c, G, nL, Q⟩ := X
  obtain ⟨rfl, rfl, rfl, rfl, hx, hb, hml, hown, hts, hK, hB⟩ := hX
  obtain ⟨hr, hlocks, rfl⟩ := hM
  rintro ⟨a, h1, h2⟩ ls H locs hl hP hS
  cases h1
  cases h2
  refine W.widen hc hs ?_
  exact W.vret hx hb hr (fun t ht hW => ⟨⟨jw_ws (Gc G C ad) σ, rfl, hp, by rw [ht]; exact hP, jw_D hWL σ⟩, hS.F ht⟩) hS.2.2 hd hlocks
theorem jE_X (G : jG) (ad : Nat → Nat) : jE (Gc G CX ad) nmX LS_X10 := by
  have h9 : (List.range 101).all (fun k => decide (CX[k]? = (LS_X10[k]?).map (fun c => (nmX k, jw_ren nmX c)))) = true := by decide +kernel
  have h : ∀ k, k < 101 → CX[k]? = (LS_X10[k]?).map (fun c => (nmX k, jw_ren nmX c)) := fun k hk => of_decide_eq_true (List.all_eq_true.mp h9 k (List.mem_range.mpr hk))
  have hl : LS_X10.length = 101 := by decide +kernel
  intro k c hk
  have hk1 : k < 101 := by rw [← hl]; exact (List.getElem?_eq_some_iff.mp hk).1
  exact ⟨k, by show CX[k]? = _; rw [h k hk1, hk]; rfl⟩
theorem N_getM {X : nX} {l : Launch} {G : jG} {cc : ByteArray} {own : String} {nL : Nat} {R : Room} {pc : Nat} {lv : List (Nat × Value)} {rest : List Value} {cells slots index : Nat} (hX : nB X l G cc own nL R) {A L M : va_W} {h0 ci j : Nat} {fs : List Value} {v : Value} (hf : jFL own index ci j) (hj : fs[j]? = some v) (hd : decode cc pc = .ok (.getfield index, 3)) (k : NJ X (pc + 3) lv (v :: rest) ((A ++ ((h0, .inr (ci, fs)) :: L)) ++ M) cells slots) : NJ X pc lv (.ref h0 :: rest) ((A ++ ((h0, .inr (ci, fs)) :: L)) ++ M) cells slots := by
  have e : (A ++ ((h0, .inr (ci, fs)) :: L)) ++ M = A ++ ((h0, .inr (ci, fs)) :: (L ++ M)) := by rw [List.append_assoc, List.cons_append]
  rw [e] at k ⊢
  exact N_get hX hf hj hd k
theorem ml_X10_100 : Cond.methodLink RX10 100 yX6_fillUntold ∈ tw := tw_tb (List.mem_of_getElem? (i := 339) (by decide +kernel)) (by decide +kernel)
def Y_i10 : jY := (yX10_init, cX10_init, 1, none, { frames := 4, cells := 100, slots := 60150, locals := 86 })
theorem mi_X10 : jMI Y_i10 0 := ⟨⟨tw_tb (List.mem_of_getElem? (i := 23) (by decide +kernel)) (by decide +kernel), tw_tb (List.mem_of_getElem? (i := 1) (by decide +kernel)) (by decide +kernel), tw_tb (List.mem_of_getElem? (i := 24) (by decide +kernel)) (by decide +kernel)⟩, rfl, rfl, by decide +kernel, by decide +kernel, by decide +kernel⟩
set_option maxHeartbeats 20000000 in
theorem C_i10 {l : Launch} {G : jG} (h0 : Nat) {τ1 τ2 : jS} (h1 : f_X6_fillUntold (jn nmX [31, 32, 33, 34, 35, 36, 37, 38, 39, 40, 41, 42, 43, 44, 45, 46, 47]) σz = some τ1) (h2 : f_X2_startOn (jn nmX [57, 31, 32, 33, 34, 35, 36, 37, 38, 39, 40, 41, 42, 43, 44, 45, 46, 47, 58, 59, 60, 61]) τ1 = some τ2) : nC l G Y_i10 [.ref h0] ([] ++ [(h0, .inr (10, [.null, .null, .null, .null, .null, .null, .null, .null, .null, .null, .null, .null, .null, .null, .null]))]) (fun ws' => ∃ ad : Nat → Nat, ad 0 = h0 ∧ ws' = jw_ws (Gc G CX ad) τ2) 100 60150 := by
  refine nw_met pn_X10 rfl rfl (Nat.le_of_ble_eq_true rfl) ?_
  intro X hX hM hI
  have hX : nB X l G cX10_init RX10 1 { frames := 4, cells := 100, slots := 60150, locals := 86 } := hX
  show NJ X 0 [(0, .ref h0)] [] ([] ++ [(h0, .inr (10, [.null, .null, .null, .null, .null, .null, .null, .null, .null, .null, .null, .null, .null, .null, .null]))]) 0 0
  refine N_aload_n hX dX10_init_0 rfl ?_
  refine N_obj hX wo_X10 wk_oi wk_oc (Nat.le_of_ble_eq_true rfl) (Nat.le_of_ble_eq_true rfl) dX10_init_1 ?_
  refine N_aload_n hX dX10_init_4 rfl ?_
  refine N_new hX nn_X10_9 (Nat.le_of_ble_eq_true rfl) (Nat.le_of_ble_eq_true rfl) dX10_init_5 (fun q5 => ?_)
  refine N_dup hX dX10_init_8 rfl ?_
  refine N_sipush hX dX10_init_9 ks_400 ?_
  refine N_callI hX (C_i4 _ _ 400 400 (by decide +kernel) (by decide) (Nat.le_of_ble_eq_true rfl)) (mi_X4 400) mi_L_X10_11 rfl rfl ⟨(Nat.le_of_ble_eq_true rfl), (Nat.le_of_ble_eq_true rfl)⟩ rfl rfl (Nat.le_of_ble_eq_true rfl) (Nat.le_of_ble_eq_true rfl) (Nat.le_of_ble_eq_true rfl) dX10_init_12 (fun ws' hp => ?_)
  obtain ⟨w12, rfl⟩ := hp
  refine N_as ?_
  refine N_putF2 hX hI ff_X10_14 rfl rfl (Nat.le_of_ble_eq_true rfl) dX10_init_15 (fs' := [.ref q5, .null, .null, .null, .null, .null, .null, .null, .null, .null, .null, .null, .null, .null, .null]) rfl ?_
  refine N_aload_n hX dX10_init_18 rfl ?_
  refine N_new hX nn_X10_18 (Nat.le_of_ble_eq_true rfl) (Nat.le_of_ble_eq_true rfl) dX10_init_19 (fun q19 => ?_)
  refine N_dup hX dX10_init_22 rfl ?_
  refine N_aload_n hX dX10_init_23 rfl ?_
  refine N_getM hX fl_X10_14 (fs := [.ref q5, .null, .null, .null, .null, .null, .null, .null, .null, .null, .null, .null, .null, .null, .null]) rfl dX10_init_24 ?_
  refine N_callI hX (C_i5 _ _ q5) mi_X5 mi_L_X10_20 rfl rfl ⟨(Nat.le_of_ble_eq_true rfl), (Nat.le_of_ble_eq_true rfl)⟩ rfl rfl (Nat.le_of_ble_eq_true rfl) (Nat.le_of_ble_eq_true rfl) (Nat.le_of_ble_eq_true rfl) dX10_init_27 (fun ws' hp => ?_)
  obtain ⟨w27, rfl⟩ := hp
  refine N_as ?_
  refine N_putF2 hX hI ff_X10_23 rfl rfl (Nat.le_of_ble_eq_true rfl) dX10_init_30 (fs' := [.ref q5, .ref q19, .null, .null, .null, .null, .null, .null, .null, .null, .null, .null, .null, .null, .null]) rfl ?_
  refine N_aload_n hX dX10_init_33 rfl ?_
  refine N_new hX nn_X10_27 (Nat.le_of_ble_eq_true rfl) (Nat.le_of_ble_eq_true rfl) dX10_init_34 (fun q34 => ?_)
  refine N_dup hX dX10_init_37 rfl ?_
  refine N_callIN (host := "LampsListen") hX (C_i6 _ _) mi_X6 mn_X10_29 rfl rfl ⟨(Nat.le_of_ble_eq_true rfl), (Nat.le_of_ble_eq_true rfl)⟩ rfl rfl (Nat.le_of_ble_eq_true rfl) (Nat.le_of_ble_eq_true rfl) (Nat.le_of_ble_eq_true rfl) dX10_init_38 (fun ws' hp => ?_)
  obtain ⟨w38, rfl⟩ := hp
  refine N_as ?_
  refine N_putF2 hX hI ff_X10_30 rfl rfl (Nat.le_of_ble_eq_true rfl) dX10_init_41 (fs' := [.ref q5, .ref q19, .ref q34, .null, .null, .null, .null, .null, .null, .null, .null, .null, .null, .null, .null]) rfl ?_
  refine N_aload_n hX dX10_init_44 rfl ?_
  refine N_new hX nn_X10_34 (Nat.le_of_ble_eq_true rfl) (Nat.le_of_ble_eq_true rfl) dX10_init_45 (fun q45 => ?_)
  refine N_dup hX dX10_init_48 rfl ?_
  refine N_callIN (host := "LampsListen") hX (C_i7 _ _) mi_X7 mn_X10_36 rfl rfl ⟨(Nat.le_of_ble_eq_true rfl), (Nat.le_of_ble_eq_true rfl)⟩ rfl rfl (Nat.le_of_ble_eq_true rfl) (Nat.le_of_ble_eq_true rfl) (Nat.le_of_ble_eq_true rfl) dX10_init_49 (fun ws' hp => ?_)
  obtain ⟨w49, rfl⟩ := hp
  refine N_as ?_
  refine N_putF2 hX hI ff_X10_37 rfl rfl (Nat.le_of_ble_eq_true rfl) dX10_init_52 (fs' := [.ref q5, .ref q19, .ref q34, .ref q45, .null, .null, .null, .null, .null, .null, .null, .null, .null, .null, .null]) rfl ?_
  refine N_aload_n hX dX10_init_55 rfl ?_
  refine N_new hX nn_X10_9 (Nat.le_of_ble_eq_true rfl) (Nat.le_of_ble_eq_true rfl) dX10_init_56 (fun q56 => ?_)
  refine N_dup hX dX10_init_59 rfl ?_
  refine N_bipush hX dX10_init_60 kb_30 ?_
  refine N_callI hX (C_i4 _ _ 30 30 (by decide +kernel) (by decide) (Nat.le_of_ble_eq_true rfl)) (mi_X4 30) mi_L_X10_11 rfl rfl ⟨(Nat.le_of_ble_eq_true rfl), (Nat.le_of_ble_eq_true rfl)⟩ rfl rfl (Nat.le_of_ble_eq_true rfl) (Nat.le_of_ble_eq_true rfl) (Nat.le_of_ble_eq_true rfl) dX10_init_62 (fun ws' hp => ?_)
  obtain ⟨w62, rfl⟩ := hp
  refine N_as ?_
  refine N_putF2 hX hI ff_X10_41 rfl rfl (Nat.le_of_ble_eq_true rfl) dX10_init_65 (fs' := [.ref q5, .ref q19, .ref q34, .ref q45, .ref q56, .null, .null, .null, .null, .null, .null, .null, .null, .null, .null]) rfl ?_
  refine N_aload_n hX dX10_init_68 rfl ?_
  refine N_new hX nn_X10_44 (Nat.le_of_ble_eq_true rfl) (Nat.le_of_ble_eq_true rfl) dX10_init_69 (fun q69 => ?_)
  refine N_dup hX dX10_init_72 rfl ?_
  refine N_aload_n hX dX10_init_73 rfl ?_
  refine N_getM hX fl_X10_30 (fs := [.ref q5, .ref q19, .ref q34, .ref q45, .ref q56, .null, .null, .null, .null, .null, .null, .null, .null, .null, .null]) rfl dX10_init_74 ?_
  refine N_callI hX (C_i2 _ _ q34) mi_X2 mi_L_X10_46 rfl rfl ⟨(Nat.le_of_ble_eq_true rfl), (Nat.le_of_ble_eq_true rfl)⟩ rfl rfl (Nat.le_of_ble_eq_true rfl) (Nat.le_of_ble_eq_true rfl) (Nat.le_of_ble_eq_true rfl) dX10_init_77 (fun ws' hp => ?_)
  obtain ⟨w77, rfl⟩ := hp
  refine N_as ?_
  refine N_putF2 hX hI ff_X10_49 rfl rfl (Nat.le_of_ble_eq_true rfl) dX10_init_80 (fs' := [.ref q5, .ref q19, .ref q34, .ref q45, .ref q56, .ref q69, .null, .null, .null, .null, .null, .null, .null, .null, .null]) rfl ?_
  refine N_aload_n hX dX10_init_83 rfl ?_
  refine N_new hX nn_X10_44 (Nat.le_of_ble_eq_true rfl) (Nat.le_of_ble_eq_true rfl) dX10_init_84 (fun q84 => ?_)
  refine N_dup hX dX10_init_87 rfl ?_
  refine N_aload_n hX dX10_init_88 rfl ?_
  refine N_getM hX fl_X10_30 (fs := [.ref q5, .ref q19, .ref q34, .ref q45, .ref q56, .ref q69, .null, .null, .null, .null, .null, .null, .null, .null, .null]) rfl dX10_init_89 ?_
  refine N_callI hX (C_i2 _ _ q34) mi_X2 mi_L_X10_46 rfl rfl ⟨(Nat.le_of_ble_eq_true rfl), (Nat.le_of_ble_eq_true rfl)⟩ rfl rfl (Nat.le_of_ble_eq_true rfl) (Nat.le_of_ble_eq_true rfl) (Nat.le_of_ble_eq_true rfl) dX10_init_92 (fun ws' hp => ?_)
  obtain ⟨w92, rfl⟩ := hp
  refine N_as ?_
  refine N_putF2 hX hI ff_X10_53 rfl rfl (Nat.le_of_ble_eq_true rfl) dX10_init_95 (fs' := [.ref q5, .ref q19, .ref q34, .ref q45, .ref q56, .ref q69, .ref q84, .null, .null, .null, .null, .null, .null, .null, .null]) rfl ?_
  refine N_aload_n hX dX10_init_98 rfl ?_
  refine N_new hX nn_X10_44 (Nat.le_of_ble_eq_true rfl) (Nat.le_of_ble_eq_true rfl) dX10_init_99 (fun q99 => ?_)
  refine N_dup hX dX10_init_102 rfl ?_
  refine N_aload_n hX dX10_init_103 rfl ?_
  refine N_getM hX fl_X10_30 (fs := [.ref q5, .ref q19, .ref q34, .ref q45, .ref q56, .ref q69, .ref q84, .null, .null, .null, .null, .null, .null, .null, .null]) rfl dX10_init_104 ?_
  refine N_callI hX (C_i2 _ _ q34) mi_X2 mi_L_X10_46 rfl rfl ⟨(Nat.le_of_ble_eq_true rfl), (Nat.le_of_ble_eq_true rfl)⟩ rfl rfl (Nat.le_of_ble_eq_true rfl) (Nat.le_of_ble_eq_true rfl) (Nat.le_of_ble_eq_true rfl) dX10_init_107 (fun ws' hp => ?_)
  obtain ⟨w107, rfl⟩ := hp
  refine N_as ?_
  refine N_putF2 hX hI ff_X10_56 rfl rfl (Nat.le_of_ble_eq_true rfl) dX10_init_110 (fs' := [.ref q5, .ref q19, .ref q34, .ref q45, .ref q56, .ref q69, .ref q84, .ref q99, .null, .null, .null, .null, .null, .null, .null]) rfl ?_
  refine N_aload_n hX dX10_init_113 rfl ?_
  refine N_new hX nn_X10_44 (Nat.le_of_ble_eq_true rfl) (Nat.le_of_ble_eq_true rfl) dX10_init_114 (fun q114 => ?_)
  refine N_dup hX dX10_init_117 rfl ?_
  refine N_aload_n hX dX10_init_118 rfl ?_
  refine N_getM hX fl_X10_30 (fs := [.ref q5, .ref q19, .ref q34, .ref q45, .ref q56, .ref q69, .ref q84, .ref q99, .null, .null, .null, .null, .null, .null, .null]) rfl dX10_init_119 ?_
  refine N_callI hX (C_i2 _ _ q34) mi_X2 mi_L_X10_46 rfl rfl ⟨(Nat.le_of_ble_eq_true rfl), (Nat.le_of_ble_eq_true rfl)⟩ rfl rfl (Nat.le_of_ble_eq_true rfl) (Nat.le_of_ble_eq_true rfl) (Nat.le_of_ble_eq_true rfl) dX10_init_122 (fun ws' hp => ?_)
  obtain ⟨w122, rfl⟩ := hp
  refine N_as ?_
  refine N_putF2 hX hI ff_X10_59 rfl rfl (Nat.le_of_ble_eq_true rfl) dX10_init_125 (fs' := [.ref q5, .ref q19, .ref q34, .ref q45, .ref q56, .ref q69, .ref q84, .ref q99, .ref q114, .null, .null, .null, .null, .null, .null]) rfl ?_
  refine N_aload_n hX dX10_init_128 rfl ?_
  refine N_new hX nn_X10_9 (Nat.le_of_ble_eq_true rfl) (Nat.le_of_ble_eq_true rfl) dX10_init_129 (fun q129 => ?_)
  refine N_dup hX dX10_init_132 rfl ?_
  refine N_bipush hX dX10_init_133 kb_8 ?_
  refine N_callI hX (C_i4 _ _ 8 8 (by decide +kernel) (by decide) (Nat.le_of_ble_eq_true rfl)) (mi_X4 8) mi_L_X10_11 rfl rfl ⟨(Nat.le_of_ble_eq_true rfl), (Nat.le_of_ble_eq_true rfl)⟩ rfl rfl (Nat.le_of_ble_eq_true rfl) (Nat.le_of_ble_eq_true rfl) (Nat.le_of_ble_eq_true rfl) dX10_init_135 (fun ws' hp => ?_)
  obtain ⟨w135, rfl⟩ := hp
  refine N_as ?_
  refine N_putF2 hX hI ff_X10_62 rfl rfl (Nat.le_of_ble_eq_true rfl) dX10_init_138 (fs' := [.ref q5, .ref q19, .ref q34, .ref q45, .ref q56, .ref q69, .ref q84, .ref q99, .ref q114, .ref q129, .null, .null, .null, .null, .null]) rfl ?_
  refine N_aload_n hX dX10_init_141 rfl ?_
  refine N_new hX nn_X10_9 (Nat.le_of_ble_eq_true rfl) (Nat.le_of_ble_eq_true rfl) dX10_init_142 (fun q142 => ?_)
  refine N_dup hX dX10_init_145 rfl ?_
  refine N_bipush hX dX10_init_146 kb_40 ?_
  refine N_callI hX (C_i4 _ _ 40 40 (by decide +kernel) (by decide) (Nat.le_of_ble_eq_true rfl)) (mi_X4 40) mi_L_X10_11 rfl rfl ⟨(Nat.le_of_ble_eq_true rfl), (Nat.le_of_ble_eq_true rfl)⟩ rfl rfl (Nat.le_of_ble_eq_true rfl) (Nat.le_of_ble_eq_true rfl) (Nat.le_of_ble_eq_true rfl) dX10_init_148 (fun ws' hp => ?_)
  obtain ⟨w148, rfl⟩ := hp
  refine N_as ?_
  refine N_putF2 hX hI ff_X10_65 rfl rfl (Nat.le_of_ble_eq_true rfl) dX10_init_151 (fs' := [.ref q5, .ref q19, .ref q34, .ref q45, .ref q56, .ref q69, .ref q84, .ref q99, .ref q114, .ref q129, .ref q142, .null, .null, .null, .null]) rfl ?_
  refine N_aload_n hX dX10_init_154 rfl ?_
  refine N_new hX nn_X10_68 (Nat.le_of_ble_eq_true rfl) (Nat.le_of_ble_eq_true rfl) dX10_init_155 (fun q155 => ?_)
  refine N_dup hX dX10_init_158 rfl ?_
  refine N_callIN (host := "LampsListen") hX (C_i1 _ _) mi_X1 mn_X10_70 rfl rfl ⟨(Nat.le_of_ble_eq_true rfl), (Nat.le_of_ble_eq_true rfl)⟩ rfl rfl (Nat.le_of_ble_eq_true rfl) (Nat.le_of_ble_eq_true rfl) (Nat.le_of_ble_eq_true rfl) dX10_init_159 (fun ws' hp => ?_)
  obtain ⟨w159, rfl⟩ := hp
  refine N_as ?_
  refine N_putF2 hX hI ff_X10_71 rfl rfl (Nat.le_of_ble_eq_true rfl) dX10_init_162 (fs' := [.ref q5, .ref q19, .ref q34, .ref q45, .ref q56, .ref q69, .ref q84, .ref q99, .ref q114, .ref q129, .ref q142, .ref q155, .null, .null, .null]) rfl ?_
  refine N_aload_n hX dX10_init_165 rfl ?_
  refine N_new hX nn_X10_75 (Nat.le_of_ble_eq_true rfl) (Nat.le_of_ble_eq_true rfl) dX10_init_166 (fun q166 => ?_)
  refine N_dup hX dX10_init_169 rfl ?_
  refine N_aload_n hX dX10_init_170 rfl ?_
  refine N_getM hX fl_X10_71 (fs := [.ref q5, .ref q19, .ref q34, .ref q45, .ref q56, .ref q69, .ref q84, .ref q99, .ref q114, .ref q129, .ref q142, .ref q155, .null, .null, .null]) rfl dX10_init_171 ?_
  refine N_callI hX (C_i9 _ _ q155) mi_X9 mi_L_X10_77 rfl rfl ⟨(Nat.le_of_ble_eq_true rfl), (Nat.le_of_ble_eq_true rfl)⟩ rfl rfl (Nat.le_of_ble_eq_true rfl) (Nat.le_of_ble_eq_true rfl) (Nat.le_of_ble_eq_true rfl) dX10_init_174 (fun ws' hp => ?_)
  obtain ⟨w174, rfl⟩ := hp
  refine N_as ?_
  refine N_putF2 hX hI ff_X10_80 rfl rfl (Nat.le_of_ble_eq_true rfl) dX10_init_177 (fs' := [.ref q5, .ref q19, .ref q34, .ref q45, .ref q56, .ref q69, .ref q84, .ref q99, .ref q114, .ref q129, .ref q142, .ref q155, .ref q166, .null, .null]) rfl ?_
  refine N_aload_n hX dX10_init_180 rfl ?_
  refine N_new hX nn_X10_84 (Nat.le_of_ble_eq_true rfl) (Nat.le_of_ble_eq_true rfl) dX10_init_181 (fun q181 => ?_)
  refine N_dup hX dX10_init_184 rfl ?_
  refine N_aload_n hX dX10_init_185 rfl ?_
  refine N_getM hX fl_X10_71 (fs := [.ref q5, .ref q19, .ref q34, .ref q45, .ref q56, .ref q69, .ref q84, .ref q99, .ref q114, .ref q129, .ref q142, .ref q155, .ref q166, .null, .null]) rfl dX10_init_186 ?_
  refine N_callI hX (C_i8 _ _ q155) mi_X8 mi_L_X10_86 rfl rfl ⟨(Nat.le_of_ble_eq_true rfl), (Nat.le_of_ble_eq_true rfl)⟩ rfl rfl (Nat.le_of_ble_eq_true rfl) (Nat.le_of_ble_eq_true rfl) (Nat.le_of_ble_eq_true rfl) dX10_init_189 (fun ws' hp => ?_)
  obtain ⟨w189, rfl⟩ := hp
  refine N_as ?_
  refine N_putF2 hX hI ff_X10_87 rfl rfl (Nat.le_of_ble_eq_true rfl) dX10_init_192 (fs' := [.ref q5, .ref q19, .ref q34, .ref q45, .ref q56, .ref q69, .ref q84, .ref q99, .ref q114, .ref q129, .ref q142, .ref q155, .ref q166, .ref q181, .null]) rfl ?_
  refine N_aload_n hX dX10_init_195 rfl ?_
  refine N_new hX nn_X10_91 (Nat.le_of_ble_eq_true rfl) (Nat.le_of_ble_eq_true rfl) dX10_init_196 (fun q196 => ?_)
  refine N_dup hX dX10_init_199 rfl ?_
  refine N_aload_n hX dX10_init_200 rfl ?_
  refine N_getM hX fl_X10_49 (fs := [.ref q5, .ref q19, .ref q34, .ref q45, .ref q56, .ref q69, .ref q84, .ref q99, .ref q114, .ref q129, .ref q142, .ref q155, .ref q166, .ref q181, .null]) rfl dX10_init_201 ?_
  refine N_callI hX (C_i0 _ _ q69) mi_X0 mi_L_X10_93 rfl rfl ⟨(Nat.le_of_ble_eq_true rfl), (Nat.le_of_ble_eq_true rfl)⟩ rfl rfl (Nat.le_of_ble_eq_true rfl) (Nat.le_of_ble_eq_true rfl) (Nat.le_of_ble_eq_true rfl) dX10_init_204 (fun ws' hp => ?_)
  obtain ⟨w204, rfl⟩ := hp
  refine N_as ?_
  refine N_putF2 hX hI ff_X10_96 rfl rfl (Nat.le_of_ble_eq_true rfl) dX10_init_207 (fs' := [.ref q5, .ref q19, .ref q34, .ref q45, .ref q56, .ref q69, .ref q84, .ref q99, .ref q114, .ref q129, .ref q142, .ref q155, .ref q166, .ref q181, .ref q196]) rfl ?_
  obtain ⟨q, hq⟩ : ∃ q : Nat → Nat, q = fun k => [q5, w12 0, q19, w27 0, w27 1, w27 2, w27 3, w27 4, w27 5, w27 6, w27 7, w27 8, w27 9, w27 10, w27 11, w27 12, w27 13, w27 14, w27 15, w27 16, w27 17, w27 18, w27 19, w27 20, w27 21, w27 22, w27 23, w27 24, w27 25, w27 26, q34, w38 0, w38 1, w38 2, w38 3, w38 4, w38 5, w38 6, w38 7, w38 8, w38 9, w38 10, w38 11, w38 12, w38 13, w38 14, w38 15, q45, w49 0, w49 1, w49 2, w49 3, w49 4, w49 5, q56, w62 0, q69, w77 0, w77 1, w77 2, w77 3, q84, w92 0, w92 1, w92 2, w92 3, q99, w107 0, w107 1, w107 2, w107 3, q114, w122 0, w122 1, w122 2, w122 3, q129, w135 0, q142, w148 0, q155, w159 0, q166, w174 0, w174 1, w174 2, w174 3, w174 4, w174 5, w174 6, q181, w189 0, w189 1, w189 2, w189 3, w189 4, w189 5, q196, w204 0, w204 1].getD k 0 := ⟨_, rfl⟩
  refine N_toJ CX (ad1 h0 q) (σ := σz) hX (Nat.le_of_ble_eq_true rfl) (Nat.le_of_ble_eq_true rfl) (Eq.trans (b := [] ++ nw_X10 G.2.1 G.2.2.1 h0 q) (by rw [hq]; rfl) (nwX10_eq G h0 q)) (fun hG hX1 => ?_)
  have hE := jE_X G (ad1 h0 q)
  generalize had : ad1 h0 q = ad at hG hX1 hE ⊢
  have e0 : jad (Gc G CX ad) (nmX 0) = h0 := by rw [← had]; rfl
  have key : J (nJX X (Gc G CX ad) 100 60150) 210 [(0, .ref (jad (Gc G CX ad) (nmX 0)))] [] σz ((f_X6_fillUntold (jn nmX [31, 32, 33, 34, 35, 36, 37, 38, 39, 40, 41, 42, 43, 44, 45, 46, 47]) σz).bind (fun s1 => (f_X2_startOn (jn nmX [57, 31, 32, 33, 34, 35, 36, 37, 38, 39, 40, 41, 42, 43, 44, 45, 46, 47, 58, 59, 60, 61]) s1).bind (fun s2 => some s2))) (fun t => t = τ2) := by
    refine J_aload_n hX1 dX10_init_210 rfl ?_
    refine J_getr hX1 hE 0 2 rfl rfl fl_X10_30 dX10_init_211 ?_
    refine J_cVV hX1 hE 31 (C_X6_fillUntold hG (hE.sb [31, 32, 33, 34, 35, 36, 37, 38, 39, 40, 41, 42, 43, 44, 45, 46, 47] sb_6) σz) mw_X6_fillUntold ml_X10_100 rfl rfl rfl ⟨(Nat.le_of_ble_eq_true rfl), (Nat.le_of_ble_eq_true rfl)⟩ rfl rfl (Nat.le_of_ble_eq_true rfl) dX10_init_214 (fun s1 => ?_)
    refine J_aload_n hX1 dX10_init_217 rfl ?_
    refine J_getr hX1 hE 0 5 rfl rfl fl_X10_49 dX10_init_218 ?_
    refine J_cVV hX1 hE 57 (C_X2_startOn hG (hE.sb [57, 31, 32, 33, 34, 35, 36, 37, 38, 39, 40, 41, 42, 43, 44, 45, 46, 47, 58, 59, 60, 61] sb_23) s1) mw_X2_startOn ml_X10_103 rfl rfl rfl ⟨(Nat.le_of_ble_eq_true rfl), (Nat.le_of_ble_eq_true rfl)⟩ rfl rfl (Nat.le_of_ble_eq_true rfl) dX10_init_221 (fun s2 => ?_)
    exact N_cret hX hM ⟨ad, e0, rfl⟩ hG (Nat.le_refl _) (Nat.le_refl _) dX10_init_224
  rw [e0] at key
  exact key ⟨τ2, by rw [h1]; show (f_X2_startOn _ τ1).bind _ = _; rw [h2]; rfl, rfl⟩
