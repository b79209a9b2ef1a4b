def CM : List (Nat × jSh) := ne 101 (LS_X11.map (jw_ren nmM))
def CW : List (Nat × jSh) := CX ++ CM
def mi0 (k : Nat) : Int32 := match k with
  | 5 => 20
  | 6 => 30
  | 7 => 5
  | 20 => -1
  | _ => 0
def σ2 (τ : jS) : jS := (fun a k => if a < 101 then τ.1 a k else if a = 101 then mi0 k else 0, fun a k => if a < 101 then τ.2 a k else 0)
def ad2 (ad : Nat → Nat) (h : Nat) (q : Nat → Nat) : Nat → Nat := fun k => if k < 101 then ad k else if k = 101 then h else q (k - 102)
def ne_ok (p : Nat × jSh) : Bool := decide (p.1 < 101) && (match p.2 with
  | .inl _ => true
  | .inr (_, sl) => sl.all (fun t => match t with
    | .inl b => decide (b < 101)
    | .inr _ => true))
theorem jw_fs_cg {ad ad' : Nat → Nat} {σ σ' : jS} {a : Nat} (h2 : ∀ k, g_i σ a k = g_i σ' a k) (h3 : ∀ k, g_l σ a k = g_l σ' a k) : ∀ (sl : List (Nat ⊕ Nat)) (n : Nat), (∀ b, Sum.inl b ∈ sl → ad b = ad' b) → jw_fs ad σ a n sl = jw_fs ad' σ' a n sl
  | [], _, _ => rfl
  | t :: r, n, h => by
    unfold jw_fs
    rw [jw_fs_cg h2 h3 r (n + 1) (fun b hb => h b (List.mem_cons_of_mem _ hb))]
    congr 1
    rcases t with b | k
    · show Value.ref (ad b) = Value.ref (ad' b)
      rw [h b List.mem_cons_self]
    · match k with
      | 0 => show Value.int _ = Value.int _; rw [h2]
      | 1 => show Value.long _ = Value.long _; rw [h3]
      | _ + 2 => rfl
theorem jw_e_cg {ad ad' : Nat → Nat} {cI cZ : ClassId} {σ σ' : jS} {p : Nat × jSh} (h1 : ad p.1 = ad' p.1) (h2 : ∀ k, g_i σ p.1 k = g_i σ' p.1 k) (h3 : ∀ k, g_l σ p.1 k = g_l σ' p.1 k) (h4 : ∀ ci sl, p.2 = .inr (ci, sl) → ∀ b, Sum.inl b ∈ sl → ad b = ad' b) : jw_e ad cI cZ σ p = jw_e ad' cI cZ σ' p := by
  obtain ⟨a, c⟩ := p
  have hg : g_i σ a = g_i σ' a := funext h2
  rcases c with ⟨n, k⟩ | ⟨ci, sl⟩
  · match n with
    | 0 => simp only [jw_e]; rw [hg]; exact congrArg (fun z => (z, _)) h1
    | n + 1 => simp only [jw_e]; rw [hg]; exact congrArg (fun z => (z, _)) h1
  · simp only [jw_e]
    rw [jw_fs_cg h2 h3 sl 0 (h4 ci sl rfl)]
    exact congrArg (fun z => (z, _)) h1
theorem CX_ok : CX.all ne_ok = true := by decide +kernel
def EL_X11 (cI cZ : ClassId) (h0 : Nat) (q : Nat → Nat) : va_W := [(h0, .inr (11, [.int 0, .ref (q 0), .ref (q 1), .ref (q 2), .ref (q 3), .int 20, .int 30, .int 5, .int 0, .ref (q 4), .int 0, .ref (q 5), .int 0, .ref (q 6), .int 0, .int 0, .int 0, .int 0, .ref (q 7), .int 0, .int (-1), .int 0, .long 0, .int 0, .int 0, .int 0, .int 0, .ref (q 8), .int 0, .ref (q 9), .ref (q 10), .int 0, .int 0, .ref (q 11), .ref (q 12), .ref (q 13), .int 0, .int 0, .int 0, .ref (q 14), .ref (q 15), .ref (q 16), .ref (q 17), .ref (q 18), .ref (q 19), .ref (q 20), .ref (q 21), .int 0, .ref (q 22), .ref (q 23), .ref (q 24), .ref (q 25)])), (q 0, .inl (cI, 40, .inl (fun _ => 0))), (q 1, .inl (cI, 10, .inl (fun _ => 0))), (q 2, .inl (cI, 10, .inl (fun _ => 0))), (q 3, .inl (cI, 10, .inl (fun _ => 0))), (q 4, .inl (cI, 32, .inl (fun _ => 0))), (q 5, .inl (cI, 90, .inl (fun _ => 0))), (q 6, .inl (cI, 30, .inl (fun _ => 0))), (q 7, .inl (cI, 400, .inl (fun _ => 0))), (q 8, .inl (cI, 40, .inl (fun _ => 0))), (q 9, .inl (cI, 32, .inl (fun _ => 0))), (q 10, .inl (cI, 3, .inl (fun _ => 0))), (q 11, .inl (cI, 90, .inl (fun _ => 0))), (q 12, .inl (cI, 51200, .inl (fun _ => 0))), (q 13, .inl (cI, 3200, .inl (fun _ => 0))), (q 14, .inl (cI, 8, .inl (fun _ => 0))), (q 15, .inl (cZ, 1024, .inl (fun _ => 0))), (q 16, .inl (cI, 1024, .inl (fun _ => 0))), (q 17, .inl (cI, 64, .inl (fun _ => 0))), (q 18, .inl (cI, 66560, .inl (fun _ => 0))), (q 19, .inl (cI, 10, .inl (fun _ => 0))), (q 20, .inl (cI, 10, .inl (fun _ => 0))), (q 21, .inl (cI, 1024, .inl (fun _ => 0))), (q 22, .inl (cI, 40, .inl (fun _ => 0))), (q 23, .inl (cI, 32, .inl (fun _ => 0))), (q 24, .inl (cI, 100, .inl (fun _ => 0))), (q 25, .inl (cZ, 2, .inl (fun _ => 0)))]
set_option maxHeartbeats 20000000 in
set_option maxRecDepth 100000 in
theorem nwX11_a (cI cZ : ClassId) (h0 : Nat) (q : Nat → Nat) : nw_X11 cI cZ h0 q = EL_X11 cI cZ h0 q := by
  simp only [nw_X11, EL_X11, List.nil_append, List.cons_append, Nat.reduceAdd]
set_option maxHeartbeats 20000000 in
set_option maxRecDepth 100000 in
theorem nwX11_b (cI cZ : ClassId) (ad : Nat → Nat) (h0 : Nat) (q : Nat → Nat) (τ : jS) : CM.map (jw_e (ad2 ad h0 q) cI cZ (σ2 τ)) = EL_X11 cI cZ h0 q := by
  have hz : ∀ a, 101 < a → g_i (σ2 τ) a = fun _ => 0 := by
    intro a ha
    funext k
    show (if a < 101 then τ.1 a k else if a = 101 then mi0 k else 0) = 0
    rw [if_neg (by omega), if_neg (by omega)]
  have hm : ∀ k, g_i (σ2 τ) 101 k = mi0 k := fun k => rfl
  have hl : ∀ k, g_l (σ2 τ) 101 k = 0 := fun k => rfl
  simp only [CM, ne, LS_X11, nmM, List.map_cons, List.map_nil, jw_ren, jw_rt, jw_e, jw_fs, jw_v, EL_X11, Nat.reduceAdd, hm, hl, mi0]
  simp [hz, ad2]
theorem nwX11_eq (G : jG) (ad : Nat → Nat) (h0 : Nat) (q : Nat → Nat) (τ : jS) : jw_ws (Gc G CX ad) τ ++ nw_X11 G.2.1 G.2.2.1 h0 q = jw_ws (Gc G CW (ad2 ad h0 q)) (σ2 τ) := by
  show List.map (jw_e ad G.2.1 G.2.2.1 τ) CX ++ _ = List.map (jw_e (ad2 ad h0 q) G.2.1 G.2.2.1 (σ2 τ)) (CX ++ CM)
  rw [List.map_append, nwX11_b, nwX11_a]
  suffices hmap : List.map (jw_e ad G.2.1 G.2.2.1 τ) CX = List.map (jw_e (ad2 ad h0 q) G.2.1 G.2.2.1 (σ2 τ)) CX by rw [hmap]
  refine List.map_congr_left (fun p hp => ?_)
  have hk := List.all_eq_true.mp CX_ok p hp
  obtain ⟨a, c⟩ := p
  unfold ne_ok at hk
  rw [Bool.and_eq_true] at hk
  have ha : a < 101 := of_decide_eq_true hk.1
  refine jw_e_cg ?_ ?_ ?_ ?_
  · show ad a = if a < 101 then ad a else _
    rw [if_pos ha]
  · intro k
    show τ.1 a k = if a < 101 then τ.1 a k else _
    rw [if_pos ha]
  · intro k
    show τ.2 a k = if a < 101 then τ.2 a k else _
    rw [if_pos ha]
  · intro ci sl e b hb
    have e : c = .inr (ci, sl) := e
    subst e
    have hb1 := List.all_eq_true.mp hk.2 _ hb
    have hb2 : b < 101 := of_decide_eq_true hb1
    show ad b = if b < 101 then ad b else _
    rw [if_pos hb2]
theorem jE_WX (G : jG) (ad : Nat → Nat) : jE (Gc G CW ad) nmX LS_X10 := by
  have h9 : (List.range 101).all (fun k => decide (CW[k]? = (LS_X10[k]?).map (fun c => (nmX k, jw_ren nmX c)))) = true := by decide +kernel
  have h : ∀ k, k < 101 → CW[k]? = (LS_X10[k]?).map (fun c => (nmX k, jw_ren nmX c)) := fun k hk => of_decide_eq_true (List.all_eq_true.mp h9 k (List.mem_range.mpr hk))
  have hl : LS_X10.length = 101 := by decide +kernel
  intro k c hk
  have hk1 : k < 101 := by rw [← hl]; exact (List.getElem?_eq_some_iff.mp hk).1
  exact ⟨k, by show CW[k]? = _; rw [h k hk1, hk]; rfl⟩
theorem jE_WM (G : jG) (ad : Nat → Nat) : jE (Gc G CW ad) nmM LS_X11 := by
  have h9 : (List.range 27).all (fun k => decide (CW[101 + k]? = (LS_X11[k]?).map (fun c => (nmM k, jw_ren nmM c)))) = true := by decide +kernel
  have h : ∀ k, k < 27 → CW[101 + k]? = (LS_X11[k]?).map (fun c => (nmM k, jw_ren nmM c)) := fun k hk => of_decide_eq_true (List.all_eq_true.mp h9 k (List.mem_range.mpr hk))
  have hl : LS_X11.length = 27 := by decide +kernel
  intro k c hk
  have hk1 : k < 27 := by rw [← hl]; exact (List.getElem?_eq_some_iff.mp hk).1
  exact ⟨101 + k, by show CW[101 + k]? = _; rw [h k hk1, hk]; rfl⟩
def tmS (i : Nat) : Term := .string "LampsListen$Scribe" (jw_sl.getD i (0, "")).1
theorem start_G {s : State} {args : Array Value} (hts : ∀ w ∈ lw_tbl, w.before args s = true) (hgv : (Jvm.Cond.and given_1 narrow_1).before args s = true) : ∃ G : jG, G.2.2.2.2.1 = s.heap.size ∧ jw_K G s := by
  have hfl := flat_of_before _ hgv
  have htb : ∀ w ∈ tables_1, w.before args s = true := fun w hw => hts w (List.mem_append_right _ hw)
  have htw : ∀ w ∈ tw, w.before args s = true := fun w hw => hts w (List.mem_filter.mp hw).1
  have hcl : ∀ c : Nat, ∃ d : ClassId × (Nat → Nat), ∀ q, vwCl[c]? = some q → u_Kn s q.1 q.2.1 q.2.2 d.1 d.2 := by
    intro c
    match c with
    | 0 =>
      obtain ⟨cC, iS, h⟩ := u_known htw wi_X0 (htw (Cond.instantiable RX0 3) (tw_tb (List.mem_of_getElem? (i := 323) (by decide +kernel)) (by decide +kernel)))
      exact ⟨(cC, iS), fun q hq => by cases hq; exact h⟩
    | 1 =>
      obtain ⟨cC, iS, h⟩ := u_known htw wi_X1 (htw (Cond.instantiable RX1 1) (tw_tb (List.mem_of_getElem? (i := 251) (by decide +kernel)) (by decide +kernel)))
      exact ⟨(cC, iS), fun q hq => by cases hq; exact h⟩
    | 2 =>
      obtain ⟨cC, iS, h⟩ := u_known htw wi_X2 (htw (Cond.instantiable RX2 10) (tw_tb (List.mem_of_getElem? (i := 202) (by decide +kernel)) (by decide +kernel)))
      exact ⟨(cC, iS), fun q hq => by cases hq; exact h⟩
    | 3 =>
      obtain ⟨cC, iS, h⟩ := u_known htw wi_X3 (htw (Cond.instantiable RX3 6) (tw_tb (List.mem_of_getElem? (i := 155) (by decide +kernel)) (by decide +kernel)))
      exact ⟨(cC, iS), fun q hq => by cases hq; exact h⟩
    | 4 =>
      obtain ⟨cC, iS, h⟩ := u_known htw wi_X4 (htw (Cond.instantiable RX4 2) (tw_tb (List.mem_of_getElem? (i := 29) (by decide +kernel)) (by decide +kernel)))
      exact ⟨(cC, iS), fun q hq => by cases hq; exact h⟩
    | 5 =>
      obtain ⟨cC, iS, h⟩ := u_known htw wi_X5 (htw (Cond.instantiable RX5 5) (tw_tb (List.mem_of_getElem? (i := 46) (by decide +kernel)) (by decide +kernel)))
      exact ⟨(cC, iS), fun q hq => by cases hq; exact h⟩
    | 6 =>
      obtain ⟨cC, iS, h⟩ := u_known htw wi_X6 (htw (Cond.instantiable RX6 11) (tw_tb (List.mem_of_getElem? (i := 52) (by decide +kernel)) (by decide +kernel)))
      exact ⟨(cC, iS), fun q hq => by cases hq; exact h⟩
    | 7 =>
      obtain ⟨cC, iS, h⟩ := u_known htw wi_X7 (htw (Cond.instantiable RX7 3) (tw_tb (List.mem_of_getElem? (i := 131) (by decide +kernel)) (by decide +kernel)))
      exact ⟨(cC, iS), fun q hq => by cases hq; exact h⟩
    | 8 =>
      obtain ⟨cC, iS, h⟩ := u_known htw wi_X8 (htw (Cond.instantiable RX8 8) (tw_tb (List.mem_of_getElem? (i := 288) (by decide +kernel)) (by decide +kernel)))
      exact ⟨(cC, iS), fun q hq => by cases hq; exact h⟩
    | 9 =>
      obtain ⟨cC, iS, h⟩ := u_known htw wi_X9 (htw (Cond.instantiable RX9 6) (tw_tb (List.mem_of_getElem? (i := 261) (by decide +kernel)) (by decide +kernel)))
      exact ⟨(cC, iS), fun q hq => by cases hq; exact h⟩
    | 10 =>
      obtain ⟨cC, iS, h⟩ := u_known htw wi_X10 (htw (Cond.instantiable RX10 15) (tw_tb (List.mem_of_getElem? (i := 21) (by decide +kernel)) (by decide +kernel)))
      exact ⟨(cC, iS), fun q hq => by cases hq; exact h⟩
    | 11 =>
      obtain ⟨cC, iS, h⟩ := u_known htw wi_X11 (htw (Cond.instantiable RX11 52) (tw_tb (List.mem_of_getElem? (i := 1040) (by decide +kernel)) (by decide +kernel)))
      exact ⟨(cC, iS), fun q hq => by cases hq; exact h⟩
    | n + 12 => exact ⟨(0, fun _ => 0), fun q hq => by cases hq⟩
  obtain ⟨d, hd⟩ := Classical.axiomOfChoice hcl
  obtain ⟨cI, kI, pI, i1, i2, i3⟩ := Cond.arrayClass_spec (args := args) (first := s) (o := none) (s := s) (idx := []) (type := .int) (htw _ wk_aI)
  obtain ⟨cZ, kZ, pZ, z1, z2, z3⟩ := Cond.arrayClass_spec (args := args) (first := s) (o := none) (s := s) (idx := []) (type := .boolean) (htw _ wk_aZ)
  have hA : ∀ a : Nat, a < s.heap.size → ¬ s.heap.size ≤ a := fun a h => Nat.not_le.mpr h
  have hex : ∀ i, i < 7 → Cond.exactly (tmS i) "java/lang/String" ∈ flatC (Jvm.Cond.and given_1 narrow_1) := by decide +kernel
  have hco : ∀ i, i < 7 → Cond.eq (.field (tmS i) "java/lang/String" "coder" "B") (.int 0) ∈ flatC (Jvm.Cond.and given_1 narrow_1) := by decide +kernel
  have har : ∀ i, i < 7 → Cond.arrayOf (.field (tmS i) "java/lang/String" "value" "[B") .byte ∈ flatC (Jvm.Cond.and given_1 narrow_1) := by decide +kernel
  have hle : ∀ i, i < 7 → Cond.eq (.length (.field (tmS i) "java/lang/String" "value" "[B")) (.int (Int32.ofNat (jw_len.getD i 0))) ∈ flatC (Jvm.Cond.and given_1 narrow_1) := by decide +kernel
  have hel : ∀ i, i < 7 → ∀ j, j < jw_len.getD i 0 → Cond.eq (.elem (.field (tmS i) "java/lang/String" "value" "[B") (.int (Int32.ofNat j))) (.int ((jw_byt.getD i []).getD j 0)) ∈ flatC (Jvm.Cond.and given_1 narrow_1) := by decide +kernel
  have hne : ∀ i, i < 7 → ∀ j, j < 7 → i ≠ j → Cond.not (Cond.eq (tmS i) (tmS j)) ∈ flatC (Jvm.Cond.and given_1 narrow_1) ∨ Cond.not (Cond.eq (tmS j) (tmS i)) ∈ flatC (Jvm.Cond.and given_1 narrow_1) := by decide +kernel
  obtain ⟨adK, adV, hS, hev⟩ := vk_Sof (args := args) (s := s) (N := 7) (tm := tmS) (len := jw_len) (byt := jw_byt) (A := fun q => s.heap.size ≤ q) (by decide +kernel) (fun i hi => hfl _ (hex i hi)) (fun i hi => hfl _ (hco i hi)) (fun i hi => hfl _ (har i hi)) (fun i hi => hfl _ (hle i hi)) (fun i hi j hj => hfl _ (hel i hi j hj)) (fun i j hi hj h => by
    rcases hne i hi j hj h with h | h
    · exact Or.inl (hfl _ h)
    · exact Or.inr (hfl _ h)) hA
  refine ⟨((fun c => (d c).1, fun c => (d c).2), cI, cZ, [], s.heap.size, adK, adV, fun _ => 0), rfl, ⟨fun c q hq => hd c q hq, fun k q hk => ?_⟩, ?_, ?_, hS, ?_, ?_⟩
  · match k with
    | 0 => cases hk; exact ⟨fun n z => ⟨fun k h => (by cases h), kI, i2, pI, i3⟩, i1⟩
    | 1 => cases hk; exact ⟨fun n z => ⟨fun k h => (by cases h), kZ, z2, pZ, z3⟩, z1⟩
    | n + 2 => cases hk
  · have hnl : ∀ q ∈ jw_nl, Cond.methodLinkNest q.1 q.2.1 q.2.2.1 q.2.2.2 ∈ tables_1 := by decide +kernel
    exact fun q hq => va_Nw.of rfl (htb _ (hnl q hq))
  · intro i q hq
    have hsl : ∀ i, i < 7 → Cond.stringRef "LampsListen$Scribe" (jw_sl.getD i (0, "")).1 (jw_sl.getD i (0, "")).2 ∈ tables_1 := by decide +kernel
    have hi : i < 7 := (List.getElem?_eq_some_iff.mp hq).1
    have hqe : jw_sl.getD i (0, "") = q := by rw [List.getD_eq_getElem?_getD, hq]; rfl
    have h1 := htb _ (hsl i hi)
    have h2 := hev i hi
    unfold tmS at h2
    rw [hqe] at h1 h2
    exact vk_R.of h1 h2
  · exact va_Zof (htb _ (List.mem_of_getElem? (i := 472) (by decide +kernel))) (htb _ (List.mem_of_getElem? (i := 14) (by decide +kernel))) (va_eqt (hfl (Cond.eq (.static "java/lang/String" "COMPACT_STRINGS" "Z") (.int 1)) (by decide +kernel))) hA
  · exact va_Zqof (htb _ (List.mem_of_getElem? (i := 488) (by decide +kernel))) (htb _ (List.mem_of_getElem? (i := 16) (by decide +kernel))) (hfl (Cond.isRef (.static "jdk/internal/util/Preconditions" "SIOOBE_FORMATTER" "Ljava/util/function/BiFunction;")) (by decide +kernel)) hA
theorem nn_L_7 : jNw RL 7 10 15 [.null, .null, .null, .null, .null, .null, .null, .null, .null, .null, .null, .null, .null, .null, .null] := ⟨RX10, TX10, tyX10, rfl, wi_X10, tyX10_ok, tw_tb (List.mem_of_getElem? (i := 20) (by decide +kernel)) (by decide +kernel), tw_tb (List.mem_of_getElem? (i := 21) (by decide +kernel)) (by decide +kernel), tw_tb (List.mem_of_getElem? (i := 1) (by decide +kernel)) (by decide +kernel), by decide +kernel⟩
theorem nn_L_10 : jNw RL 10 11 52 [.int 0, .null, .null, .null, .null, .int 0, .int 0, .int 0, .int 0, .null, .int 0, .null, .int 0, .null, .int 0, .int 0, .int 0, .int 0, .null, .int 0, .int 0, .int 0, .long 0, .int 0, .int 0, .int 0, .int 0, .null, .int 0, .null, .null, .int 0, .int 0, .null, .null, .null, .int 0, .int 0, .int 0, .null, .null, .null, .null, .null, .null, .null, .null, .int 0, .null, .null, .null, .null] := ⟨RX11, TX11, tyX11, rfl, wi_X11, tyX11_ok, tw_tb (List.mem_of_getElem? (i := 1039) (by decide +kernel)) (by decide +kernel), tw_tb (List.mem_of_getElem? (i := 1040) (by decide +kernel)) (by decide +kernel), tw_tb (List.mem_of_getElem? (i := 13) (by decide +kernel)) (by decide +kernel), by decide +kernel⟩
theorem ml_L_9 : Cond.methodLink RL 9 yX10_init ∈ tw := tw_tb (List.mem_of_getElem? (i := 22) (by decide +kernel)) (by decide +kernel)
theorem ml_L_12 : Cond.methodLink RL 12 yX11_init ∈ tw := tw_tb (List.mem_of_getElem? (i := 1041) (by decide +kernel)) (by decide +kernel)
/-- all that the law needs of the functions: pure -/
def LawOk : Prop := ∃ τ1 τ2 : jS, f_X6_fillUntold (jn nmX [31, 32, 33, 34, 35, 36, 37, 38, 39, 40, 41, 42, 43, 44, 45, 46, 47]) σz = some τ1 ∧ f_X2_startOn (jn nmX [57, 31, 32, 33, 34, 35, 36, 37, 38, 39, 40, 41, 42, 43, 44, 45, 46, 47, 58, 59, 60, 61]) τ1 = some τ2 ∧ ∀ (L : Nat) (xs : Nat → Int32), L ≤ 3072 → f_L_law L xs (σ2 τ2) = some 1
theorem start_W (hok : LawOk) {p : Program} {e : Env} {s : State} {m : MethodId} {below : List Frame} {meth : Method} {c : Code} (l : Launch) {b L : Nat} {xs : Nat → Int32} (hL : L ≤ 3072) (hx : p.tables.exec = Jvm.exec) (hb : c.code = code) (hr : meth.sig.returnType = ret) (hml : c.maxLocals = 4) (hown : s.vm.findClass RL = some m.cls) (hts : ∀ w ∈ lw_tbl, w.before #[Value.ref b] s = true) (hXs : va_X b L xs s s.heap) (hbl : b < s.heap.size) (hlocks : meth.locks = false) (hgv : (Jvm.Cond.and given_1 narrow_1).before #[Value.ref b] s = true) : W p l e room_1 s m #[Value.ref b] below meth c s.heap [] 0 0 (lw_Z below #[Value.ref b] s) (entryFrame m ([Value.ref b] : List Value).toArray 4) := by
  obtain ⟨G, hbase, hK⟩ := start_G hts hgv
  obtain ⟨τ1, τ2, h1, h2, h3⟩ := hok
  have htw : ∀ w ∈ tw, w.before #[Value.ref b] s = true := fun w hw => hts w (List.mem_filter.mp hw).1
  have key : NJ (p, l, e, room_1, s, m, #[Value.ref b], below, meth, c, G, 4, lw_Z below #[Value.ref b] s) 0 [(0, .ref b)] [] [] 0 0 := by
    have hX : nB (p, l, e, room_1, s, m, #[Value.ref b], below, meth, c, G, 4, lw_Z below #[Value.ref b] s) l G cL_law RL 4 room_1 := ⟨rfl, rfl, rfl, rfl, hx, hb, hml, hown, htw, hK, Nat.le_of_eq hbase⟩
    refine N_new hX nn_L_7 (Nat.le_of_ble_eq_true rfl) (Nat.le_of_ble_eq_true rfl) dL_law_0 (fun q0 => ?_)
    refine N_dup hX dL_law_3 rfl ?_
    refine N_callI hX (C_i10 q0 h1 h2) mi_X10 ml_L_9 rfl rfl ⟨(Nat.le_of_ble_eq_true rfl), (Nat.le_of_ble_eq_true rfl)⟩ rfl rfl (Nat.le_of_ble_eq_true rfl) (Nat.le_of_ble_eq_true rfl) (Nat.le_of_ble_eq_true rfl) dL_law_4 (fun ws' hp => ?_)
    obtain ⟨ad, had, rfl⟩ := hp
    refine N_astore_n hX dL_law_7 (Nat.le_of_ble_eq_true rfl) (lv' := [(0, .ref b), (1, .ref q0)]) rfl ?_
    refine N_new hX nn_L_10 (Nat.le_of_ble_eq_true rfl) (Nat.le_of_ble_eq_true rfl) dL_law_8 (fun q8 => ?_)
    refine N_dup hX dL_law_11 rfl ?_
    refine N_callI hX (C_i11 _ q8) mi_X11 ml_L_12 rfl rfl ⟨(Nat.le_of_ble_eq_true rfl), (Nat.le_of_ble_eq_true rfl)⟩ rfl rfl (Nat.le_of_ble_eq_true rfl) (Nat.le_of_ble_eq_true rfl) (Nat.le_of_ble_eq_true rfl) dL_law_12 (fun ws' hp => ?_)
    obtain ⟨q, rfl⟩ := hp
    refine N_astore_n hX dL_law_15 (Nat.le_of_ble_eq_true rfl) (lv' := [(0, .ref b), (1, .ref q0), (2, .ref q8)]) rfl ?_
    refine N_toJ CW (ad2 ad q8 q) (σ := σ2 τ2) hX (Nat.le_of_ble_eq_true rfl) (Nat.le_of_ble_eq_true rfl) (nwX11_eq G ad q8 q τ2) (fun hG hX1 => ?_)
    have e0 : jad (Gc G CW (ad2 ad q8 q)) (nmX 0) = q0 := had
    have e1 : jad (Gc G CW (ad2 ad q8 q)) (nmM 0) = q8 := rfl
    have hk := C_law (b := b) (L := L) (xs := xs) hG hX1 ⟨hXs, hbl, hbase, rfl, rfl, hr, hlocks, (Nat.le_of_ble_eq_true rfl), (Nat.le_of_ble_eq_true rfl)⟩ (jE_WX G _) (jE_WM G _) (σ2 τ2)
    rw [e0, e1] at hk
    exact hk ⟨1, h3 L xs hL, rfl⟩
  rw [lg_entry_eq]
  exact key _ _ _ (lv_entry [Value.ref b] (n := 4) (Nat.le_of_ble_eq_true rfl)) (fun k q h => (by cases h)) ⟨fun i j p q h => (by cases h), fun k q h => (by cases h)⟩ va_S.rf
