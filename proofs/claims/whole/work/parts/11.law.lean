def nmX : Nat → Nat := fun k => k
def nmM : Nat → Nat := fun k => 101 + k
theorem kb_6 : (Int8.ofInt 6).toInt32 = 6 := by decide
theorem k_i6 : Int32.ofInt 6 = 6 := by decide
/-! the law's own ends -/
def lw_P (b : Addr) (xs : List Int32) (args : Array Value) (s : State) : Prop := args = #[.ref b] ∧ s.IntsAt b xs ∧ xs.length ≤ 3072 ∧ (Jvm.Cond.and given_1 narrow_1).before args s = true
def lw_Q (_ : Array Value) (s : State) (o : Outcome) (t : State) : Prop := o = .returned (some (.int 1)) ∧ Framed s o t [] 600000 7302249
def lw_Z (below : List Frame) (a : Array Value) (s : State) : State → Prop := fun t => ∃ o, t.status = .running ∧ Ended t below o ∧ lw_Q a s o t
theorem lw_ret {p : Program} {l : Launch} {e : Env} {s : State} {m : MethodId} {below : List Frame} {meth : Method} {c : Code} {b : Nat} (hx : p.tables.exec = Jvm.exec) (hb : c.code = code) (hr : meth.sig.returnType = ret) (hlocks : meth.locks = false) {pc : Nat} {H : Heap} {ls : Array Slot} (hdg : decode code pc = .ok (.ireturn, 1)) : W p l e room_1 s m #[Value.ref b] below meth c H [] 600000 7302249 (lw_Z below #[Value.ref b] s) (F0 m pc ls [.int 1]) := by
  intro T hT X
  obtain ⟨fs, hret, hrun, hended, hW, hframe⟩ := X.leave (v := some (.int 1)) (hlocks := hlocks) (fun h => by rw [hr] at h; cases h)
  have hmeth' : T.vm.method? m = some meth := X.method'
  refine ⟨T.setFrames fs, ?_, .returned (some (.int 1)), hrun, hended, rfl, ⟨_, rfl⟩, hW, hframe⟩
  jvm_step X.here [X.here.top, hx, hb, hdg, hmeth', hr, ret, narrow_b1]
  (try refine ⟨rfl, ?_⟩); (try refine ⟨rfl, ?_⟩)
  first | (intro acts; rw [hret _ acts rfl rfl rfl]) | rw [hret _ _ rfl rfl rfl]
  exact Steps.refl _
def jLaw (X : jX) (b L : Nat) (xs : Nat → Int32) : Prop := match X with
  | (p, l, e, R, s, m, args, below, meth, c, G, nL, Po, Q, cells, slots) => va_X b L xs s s.heap ∧ b < s.heap.size ∧ G.2.2.2.2.1 = s.heap.size ∧ args = #[Value.ref b] ∧ Q = lw_Z below #[Value.ref b] s ∧ meth.sig.returnType = ret ∧ meth.locks = false ∧ cells ≤ 600000 ∧ slots ≤ 7302249
section
variable {α : Type} {X : jX} {l : Launch} {G : jG} {cc : ByteArray} {own : String} {nL : Nat} {R : Room} {pc : Nat} {lv lv' : List (Nat × Value)} {rest : List Value} {σ : jS} {T A B : Option α} {K : α → Prop} {b L : Nat} {xs : Nat → Int32}
theorem J_slen (hX : jB X l G cc own nL R) (hS : jLaw X b L xs) (hd : decode cc pc = .ok (.arraylength, 1)) (k : J X (pc + 1) lv (.int (nI L) :: rest) σ T K) : J X pc lv (.ref b :: rest) σ T K := by
  obtain ⟨p, l, e, R, s, m, args, below, meth, c, G, nL, Po, Q, cells, slots⟩ := X
  obtain ⟨rfl, rfl, rfl, rfl, hx, hb, hml, hown, hts, hK, hWL, hB, hc, hs⟩ := hX
  obtain ⟨hXs, hbl, hbase, rfl, rfl, hr, hlocks, hc6, hs6⟩ := hS
  intro hF ls H locs hls hP hS
  exact va_slen hx hb hXs hbl (fun h => absurd (hbase ▸ h : s.heap.size ≤ b) (Nat.not_le.mpr hbl)) hS hd (k hF ls H locs hls hP hS)
theorem J_sld (hX : jB X l G cc own nL R) (hS : jLaw X b L xs) {i : Int32} (hd : decode cc pc = .ok (.iaload, 1)) (k : vp_in i L → J X (pc + 1) lv (.int (xs i.toNatClampNeg) :: rest) σ A K) : J X pc lv (.int i :: .ref b :: rest) σ (gd (vp_in i L) A) K := by
  obtain ⟨p, l, e, R, s, m, args, below, meth, c, G, nL, Po, Q, cells, slots⟩ := X
  obtain ⟨rfl, rfl, rfl, rfl, hx, hb, hml, hown, hts, hK, hWL, hB, hc, hs⟩ := hX
  obtain ⟨hXs, hbl, hbase, rfl, rfl, hr, hlocks, hc6, hs6⟩ := hS
  intro hF ls H locs hls hP hS
  obtain ⟨hg, hF⟩ := jFo_gd hF
  exact va_sld hx hb hXs hbl (fun h => absurd (hbase ▸ h : s.heap.size ≤ b) (Nat.not_le.mpr hbl)) hS hg hd (k hg hF ls H locs hls hP hS)
theorem J_lawret (hX : jB X l G cL_law own nL room_1) (hS : jLaw X b L xs) {v : Int32} (hd : decode cL_law pc = .ok (.ireturn, 1)) : J X pc lv [.int v] σ (some v) (fun v => v = 1) := by
  obtain ⟨p, l, e, R, s, m, args, below, meth, c, G, nL, Po, Q, cells, slots⟩ := X
  obtain ⟨rfl, rfl, rfl, rfl, hx, hb, hml, hown, hts, hK, hWL, hB, hc, hs⟩ := hX
  obtain ⟨hXs, hbl, hbase, rfl, rfl, hr, hlocks, hc6, hs6⟩ := hS
  rintro ⟨a, h1, h2⟩ ls H locs hls hP hS
  cases h1
  cases h2
  refine va_forget (fun q hq => by have h := hS.2.2 q hq; exact (hbase ▸ h : s.heap.size ≤ q.base)) ?_
  refine W.widen hc6 hs6 ?_
  exact lw_ret hx hb hr hlocks hd
end
theorem jt_out34 {x : Int32} (h0 : ¬ x = 0) (h1 : ¬ x = 1) (h2 : ¬ x = 2) (h3 : ¬ x = 3) (h4 : ¬ x = 4) (h5 : ¬ x = 5) (h6 : ¬ x = 6) (h7 : ¬ x = 7) (h8 : ¬ x = 8) (h9 : ¬ x = 9) (h10 : ¬ x = 10) (h11 : ¬ x = 11) (h12 : ¬ x = 12) (h13 : ¬ x = 13) (h14 : ¬ x = 14) (h15 : ¬ x = 15) (h16 : ¬ x = 16) (h17 : ¬ x = 17) (h18 : ¬ x = 18) (h19 : ¬ x = 19) (h20 : ¬ x = 20) (h21 : ¬ x = 21) (h22 : ¬ x = 22) (h23 : ¬ x = 23) (h24 : ¬ x = 24) (h25 : ¬ x = 25) (h26 : ¬ x = 26) (h27 : ¬ x = 27) (h28 : ¬ x = 28) (h29 : ¬ x = 29) (h30 : ¬ x = 30) (h31 : ¬ x = 31) (h32 : ¬ x = 32) (h33 : ¬ x = 33) : x.toInt < 0 ∨ 33 < x.toInt := by
  have a0 := jt_ne h0 (n := 0) rfl
  have a1 := jt_ne h1 (n := 1) rfl
  have a2 := jt_ne h2 (n := 2) rfl
  have a3 := jt_ne h3 (n := 3) rfl
  have a4 := jt_ne h4 (n := 4) rfl
  have a5 := jt_ne h5 (n := 5) rfl
  have a6 := jt_ne h6 (n := 6) rfl
  have a7 := jt_ne h7 (n := 7) rfl
  have a8 := jt_ne h8 (n := 8) rfl
  have a9 := jt_ne h9 (n := 9) rfl
  have a10 := jt_ne h10 (n := 10) rfl
  have a11 := jt_ne h11 (n := 11) rfl
  have a12 := jt_ne h12 (n := 12) rfl
  have a13 := jt_ne h13 (n := 13) rfl
  have a14 := jt_ne h14 (n := 14) rfl
  have a15 := jt_ne h15 (n := 15) rfl
  have a16 := jt_ne h16 (n := 16) rfl
  have a17 := jt_ne h17 (n := 17) rfl
  have a18 := jt_ne h18 (n := 18) rfl
  have a19 := jt_ne h19 (n := 19) rfl
  have a20 := jt_ne h20 (n := 20) rfl
  have a21 := jt_ne h21 (n := 21) rfl
  have a22 := jt_ne h22 (n := 22) rfl
  have a23 := jt_ne h23 (n := 23) rfl
  have a24 := jt_ne h24 (n := 24) rfl
  have a25 := jt_ne h25 (n := 25) rfl
  have a26 := jt_ne h26 (n := 26) rfl
  have a27 := jt_ne h27 (n := 27) rfl
  have a28 := jt_ne h28 (n := 28) rfl
  have a29 := jt_ne h29 (n := 29) rfl
  have a30 := jt_ne h30 (n := 30) rfl
  have a31 := jt_ne h31 (n := 31) rfl
  have a32 := jt_ne h32 (n := 32) rfl
  have a33 := jt_ne h33 (n := 33) rfl
  omega
theorem ml_L_15 : Cond.methodLink RL 15 yX10_feed ∈ tw := tw_tb (List.mem_of_getElem? (i := 401) (by decide +kernel)) (by decide +kernel)
theorem ml_L_19 : Cond.methodLink RL 19 yX11_feed ∈ tw := tw_tb (List.mem_of_getElem? (i := 1205) (by decide +kernel)) (by decide +kernel)
theorem ml_L_20 : Cond.methodLink RL 20 yX10_quay ∈ tw := tw_tb (List.mem_of_getElem? (i := 413) (by decide +kernel)) (by decide +kernel)
theorem ml_L_24 : Cond.methodLink RL 24 yX11_quay ∈ tw := tw_tb (List.mem_of_getElem? (i := 1214) (by decide +kernel)) (by decide +kernel)
theorem ml_L_25 : Cond.methodLink RL 25 yX10_night ∈ tw := tw_tb (List.mem_of_getElem? (i := 576) (by decide +kernel)) (by decide +kernel)
theorem ml_L_28 : Cond.methodLink RL 28 yX11_night ∈ tw := tw_tb (List.mem_of_getElem? (i := 1275) (by decide +kernel)) (by decide +kernel)
theorem ml_L_29 : Cond.methodLink RL 29 yX10_month ∈ tw := tw_tb (List.mem_of_getElem? (i := 615) (by decide +kernel)) (by decide +kernel)
theorem ml_L_32 : Cond.methodLink RL 32 yX11_month ∈ tw := tw_tb (List.mem_of_getElem? (i := 1283) (by decide +kernel)) (by decide +kernel)
theorem ml_L_33 : Cond.methodLink RL 33 yX10_fault ∈ tw := tw_tb (List.mem_of_getElem? (i := 626) (by decide +kernel)) (by decide +kernel)
theorem ml_L_36 : Cond.methodLink RL 36 yX11_fault ∈ tw := tw_tb (List.mem_of_getElem? (i := 1291) (by decide +kernel)) (by decide +kernel)
theorem ml_L_37 : Cond.methodLink RL 37 yX10_told ∈ tw := tw_tb (List.mem_of_getElem? (i := 634) (by decide +kernel)) (by decide +kernel)
theorem ml_L_41 : Cond.methodLink RL 41 yX11_told ∈ tw := tw_tb (List.mem_of_getElem? (i := 1295) (by decide +kernel)) (by decide +kernel)
theorem ml_L_42 : Cond.methodLink RL 42 yX10_lamp ∈ tw := tw_tb (List.mem_of_getElem? (i := 641) (by decide +kernel)) (by decide +kernel)
theorem ml_L_46 : Cond.methodLink RL 46 yX11_lamp ∈ tw := tw_tb (List.mem_of_getElem? (i := 1299) (by decide +kernel)) (by decide +kernel)
theorem ml_L_47 : Cond.methodLink RL 47 yX10_singer ∈ tw := tw_tb (List.mem_of_getElem? (i := 658) (by decide +kernel)) (by decide +kernel)
theorem ml_L_50 : Cond.methodLink RL 50 yX11_singer ∈ tw := tw_tb (List.mem_of_getElem? (i := 1311) (by decide +kernel)) (by decide +kernel)
theorem ml_L_51 : Cond.methodLink RL 51 yX10_weather ∈ tw := tw_tb (List.mem_of_getElem? (i := 662) (by decide +kernel)) (by decide +kernel)
theorem ml_L_54 : Cond.methodLink RL 54 yX11_weather ∈ tw := tw_tb (List.mem_of_getElem? (i := 1316) (by decide +kernel)) (by decide +kernel)
theorem ml_L_55 : Cond.methodLink RL 55 yX10_wakes ∈ tw := tw_tb (List.mem_of_getElem? (i := 667) (by decide +kernel)) (by decide +kernel)
theorem ml_L_59 : Cond.methodLink RL 59 yX11_wakes ∈ tw := tw_tb (List.mem_of_getElem? (i := 1322) (by decide +kernel)) (by decide +kernel)
theorem ml_L_60 : Cond.methodLink RL 60 yX10_hum ∈ tw := tw_tb (List.mem_of_getElem? (i := 686) (by decide +kernel)) (by decide +kernel)
theorem ml_L_63 : Cond.methodLink RL 63 yX11_hum ∈ tw := tw_tb (List.mem_of_getElem? (i := 1341) (by decide +kernel)) (by decide +kernel)
theorem ml_L_64 : Cond.methodLink RL 64 yX10_run ∈ tw := tw_tb (List.mem_of_getElem? (i := 694) (by decide +kernel)) (by decide +kernel)
theorem ml_L_67 : Cond.methodLink RL 67 yX11_run ∈ tw := tw_tb (List.mem_of_getElem? (i := 1349) (by decide +kernel)) (by decide +kernel)
theorem ml_L_68 : Cond.methodLink RL 68 yX10_lit ∈ tw := tw_tb (List.mem_of_getElem? (i := 720) (by decide +kernel)) (by decide +kernel)
theorem ml_L_71 : Cond.methodLink RL 71 yX11_lit ∈ tw := tw_tb (List.mem_of_getElem? (i := 1370) (by decide +kernel)) (by decide +kernel)
theorem ml_L_72 : Cond.methodLink RL 72 yX10_dark ∈ tw := tw_tb (List.mem_of_getElem? (i := 728) (by decide +kernel)) (by decide +kernel)
theorem ml_L_75 : Cond.methodLink RL 75 yX11_dark ∈ tw := tw_tb (List.mem_of_getElem? (i := 1374) (by decide +kernel)) (by decide +kernel)
theorem ml_L_76 : Cond.methodLink RL 76 yX10_sweep ∈ tw := tw_tb (List.mem_of_getElem? (i := 733) (by decide +kernel)) (by decide +kernel)
theorem ml_L_79 : Cond.methodLink RL 79 yX11_sweep ∈ tw := tw_tb (List.mem_of_getElem? (i := 1378) (by decide +kernel)) (by decide +kernel)
theorem ml_L_80 : Cond.methodLink RL 80 yX10_round ∈ tw := tw_tb (List.mem_of_getElem? (i := 737) (by decide +kernel)) (by decide +kernel)
theorem ml_L_83 : Cond.methodLink RL 83 yX11_round ∈ tw := tw_tb (List.mem_of_getElem? (i := 1382) (by decide +kernel)) (by decide +kernel)
theorem ml_L_84 : Cond.methodLink RL 84 yX10_signal ∈ tw := tw_tb (List.mem_of_getElem? (i := 827) (by decide +kernel)) (by decide +kernel)
theorem ml_L_87 : Cond.methodLink RL 87 yX11_signal ∈ tw := tw_tb (List.mem_of_getElem? (i := 1406) (by decide +kernel)) (by decide +kernel)
theorem ml_L_88 : Cond.methodLink RL 88 yX10_forget ∈ tw := tw_tb (List.mem_of_getElem? (i := 841) (by decide +kernel)) (by decide +kernel)
theorem ml_L_91 : Cond.methodLink RL 91 yX11_forget ∈ tw := tw_tb (List.mem_of_getElem? (i := 1414) (by decide +kernel)) (by decide +kernel)
theorem ml_L_92 : Cond.methodLink RL 92 yX10_shows ∈ tw := tw_tb (List.mem_of_getElem? (i := 845) (by decide +kernel)) (by decide +kernel)
theorem ml_L_95 : Cond.methodLink RL 95 yX11_shows ∈ tw := tw_tb (List.mem_of_getElem? (i := 1418) (by decide +kernel)) (by decide +kernel)
theorem ml_L_96 : Cond.methodLink RL 96 yX10_lured ∈ tw := tw_tb (List.mem_of_getElem? (i := 849) (by decide +kernel)) (by decide +kernel)
theorem ml_L_100 : Cond.methodLink RL 100 yX11_lured ∈ tw := tw_tb (List.mem_of_getElem? (i := 1422) (by decide +kernel)) (by decide +kernel)
theorem ml_L_101 : Cond.methodLink RL 101 yX10_apart ∈ tw := tw_tb (List.mem_of_getElem? (i := 883) (by decide +kernel)) (by decide +kernel)
theorem ml_L_105 : Cond.methodLink RL 105 yX11_apart ∈ tw := tw_tb (List.mem_of_getElem? (i := 1433) (by decide +kernel)) (by decide +kernel)
theorem ml_L_106 : Cond.methodLink RL 106 yX10_fewest ∈ tw := tw_tb (List.mem_of_getElem? (i := 891) (by decide +kernel)) (by decide +kernel)
theorem ml_L_110 : Cond.methodLink RL 110 yX11_fewest ∈ tw := tw_tb (List.mem_of_getElem? (i := 1437) (by decide +kernel)) (by decide +kernel)
theorem ml_L_111 : Cond.methodLink RL 111 yX10_who ∈ tw := tw_tb (List.mem_of_getElem? (i := 911) (by decide +kernel)) (by decide +kernel)
theorem ml_L_114 : Cond.methodLink RL 114 yX11_who ∈ tw := tw_tb (List.mem_of_getElem? (i := 1445) (by decide +kernel)) (by decide +kernel)
theorem ml_L_115 : Cond.methodLink RL 115 yX10_where ∈ tw := tw_tb (List.mem_of_getElem? (i := 919) (by decide +kernel)) (by decide +kernel)
theorem ml_L_118 : Cond.methodLink RL 118 yX11_where ∈ tw := tw_tb (List.mem_of_getElem? (i := 1449) (by decide +kernel)) (by decide +kernel)
theorem ml_L_119 : Cond.methodLink RL 119 yX10_file ∈ tw := tw_tb (List.mem_of_getElem? (i := 928) (by decide +kernel)) (by decide +kernel)
theorem ml_L_122 : Cond.methodLink RL 122 yX11_file ∈ tw := tw_tb (List.mem_of_getElem? (i := 1453) (by decide +kernel)) (by decide +kernel)
theorem ml_L_123 : Cond.methodLink RL 123 yX10_alone ∈ tw := tw_tb (List.mem_of_getElem? (i := 932) (by decide +kernel)) (by decide +kernel)
theorem ml_L_126 : Cond.methodLink RL 126 yX11_alone ∈ tw := tw_tb (List.mem_of_getElem? (i := 1457) (by decide +kernel)) (by decide +kernel)
theorem ml_L_127 : Cond.methodLink RL 127 yX10_tuned ∈ tw := tw_tb (List.mem_of_getElem? (i := 962) (by decide +kernel)) (by decide +kernel)
theorem ml_L_130 : Cond.methodLink RL 130 yX11_tuned ∈ tw := tw_tb (List.mem_of_getElem? (i := 1473) (by decide +kernel)) (by decide +kernel)
theorem ml_L_131 : Cond.methodLink RL 131 yX10_flat ∈ tw := tw_tb (List.mem_of_getElem? (i := 994) (by decide +kernel)) (by decide +kernel)
theorem ml_L_134 : Cond.methodLink RL 134 yX11_flat ∈ tw := tw_tb (List.mem_of_getElem? (i := 1485) (by decide +kernel)) (by decide +kernel)
theorem ml_L_135 : Cond.methodLink RL 135 yX10_log ∈ tw := tw_tb (List.mem_of_getElem? (i := 1011) (by decide +kernel)) (by decide +kernel)
theorem ml_L_138 : Cond.methodLink RL 138 yX11_log ∈ tw := tw_tb (List.mem_of_getElem? (i := 1493) (by decide +kernel)) (by decide +kernel)
theorem ml_L_139 : Cond.methodLink RL 139 yX10_clear ∈ tw := tw_tb (List.mem_of_getElem? (i := 1015) (by decide +kernel)) (by decide +kernel)
theorem ml_L_142 : Cond.methodLink RL 142 yX11_clear ∈ tw := tw_tb (List.mem_of_getElem? (i := 1497) (by decide +kernel)) (by decide +kernel)
theorem ml_L_143 : Cond.methodLink RL 143 yX10_judge ∈ tw := tw_tb (List.mem_of_getElem? (i := 1019) (by decide +kernel)) (by decide +kernel)
theorem ml_L_146 : Cond.methodLink RL 146 yX11_judge ∈ tw := tw_tb (List.mem_of_getElem? (i := 1501) (by decide +kernel)) (by decide +kernel)
theorem ml_L_147 : Cond.methodLink RL 147 yX10_seed ∈ tw := tw_tb (List.mem_of_getElem? (i := 1023) (by decide +kernel)) (by decide +kernel)
theorem ml_L_150 : Cond.methodLink RL 150 yX11_seed ∈ tw := tw_tb (List.mem_of_getElem? (i := 1505) (by decide +kernel)) (by decide +kernel)
theorem ml_L_151 : Cond.methodLink RL 151 yX10_keep ∈ tw := tw_tb (List.mem_of_getElem? (i := 1027) (by decide +kernel)) (by decide +kernel)
theorem ml_L_154 : Cond.methodLink RL 154 yX11_keep ∈ tw := tw_tb (List.mem_of_getElem? (i := 1509) (by decide +kernel)) (by decide +kernel)
theorem ml_L_155 : Cond.methodLink RL 155 yX10_goBack ∈ tw := tw_tb (List.mem_of_getElem? (i := 1035) (by decide +kernel)) (by decide +kernel)
theorem ml_L_158 : Cond.methodLink RL 158 yX11_goBack ∈ tw := tw_tb (List.mem_of_getElem? (i := 1513) (by decide +kernel)) (by decide +kernel)
theorem wl_L_13 : Cond.constantLong RL 13 4294967295 ∈ tw := tw_tb (List.mem_of_getElem? (i := 1517) (by decide +kernel)) (by decide +kernel)
noncomputable def f_L_law_J1153 (L : Nat) (xs : Nat → Int32) (v3 : Int32) (σ : jS) : Option ((Int32 × jS) ⊕ (jS ⊕ Int32)) :=
  gd (vp_in (v3 + 1) L) (
    (f_X10_goBack nmX (xs (v3 + 1).toNatClampNeg) σ).bind (fun x => match x with
    | (q1, s2) =>
      gd (vp_in (v3 + 1) L) (
        (f_X11_goBack nmM (xs (v3 + 1).toNatClampNeg) s2).bind (fun x => match x with
        | (q3, s4) =>
          if q1 = q3 then
            some (.inl (v3 + 6, s4))
          else
            some (.inr (.inr 0))))))
noncomputable def f_L_law_J1130 (L : Nat) (xs : Nat → Int32) (v3 : Int32) (σ : jS) : Option ((Int32 × jS) ⊕ (jS ⊕ Int32)) :=
  gd (vp_in (v3 + 1) L) (
    (f_X10_keep nmX (xs (v3 + 1).toNatClampNeg) σ).bind (fun x => match x with
    | (q5, s6) =>
      gd (vp_in (v3 + 1) L) (
        (f_X11_keep nmM (xs (v3 + 1).toNatClampNeg) s6).bind (fun x => match x with
        | (q7, s8) =>
          if q5 = q7 then
            some (.inl (v3 + 6, s8))
          else
            some (.inr (.inr 0))))))
noncomputable def f_L_law_J1107 (L : Nat) (xs : Nat → Int32) (v3 : Int32) (σ : jS) : Option ((Int32 × jS) ⊕ (jS ⊕ Int32)) :=
  gd (vp_in (v3 + 1) L) (
    (f_X10_seed nmX (xs (v3 + 1).toNatClampNeg) σ).bind (fun x => match x with
    | (q9, s10) =>
      gd (vp_in (v3 + 1) L) (
        (f_X11_seed nmM (xs (v3 + 1).toNatClampNeg) s10).bind (fun x => match x with
        | (q11, s12) =>
          if q9 = q11 then
            some (.inl (v3 + 6, s12))
          else
            some (.inr (.inr 0))))))
noncomputable def f_L_law_J1094 (L : Nat) (xs : Nat → Int32) (v3 : Int32) (σ : jS) : Option ((Int32 × jS) ⊕ (jS ⊕ Int32)) :=
  (f_X10_judge nmX σ).bind (fun x => match x with
  | (q13, s14) =>
    (f_X11_judge nmM s14).bind (fun x => match x with
    | (q15, s16) =>
      if q13 = q15 then
        some (.inl (v3 + 6, s16))
      else
        some (.inr (.inr 0))))
noncomputable def f_L_law_J1081 (L : Nat) (xs : Nat → Int32) (v3 : Int32) (σ : jS) : Option ((Int32 × jS) ⊕ (jS ⊕ Int32)) :=
  (f_X10_clear nmX σ).bind (fun x => match x with
  | (q17, s18) =>
    (f_X11_clear nmM s18).bind (fun x => match x with
    | (q19, s20) =>
      if q17 = q19 then
        some (.inl (v3 + 6, s20))
      else
        some (.inr (.inr 0))))
noncomputable def f_L_law_J1058 (L : Nat) (xs : Nat → Int32) (v3 : Int32) (σ : jS) : Option ((Int32 × jS) ⊕ (jS ⊕ Int32)) :=
  gd (vp_in (v3 + 1) L) (
    (f_X10_log nmX (xs (v3 + 1).toNatClampNeg) σ).bind (fun x => match x with
    | (q21, s22) =>
      gd (vp_in (v3 + 1) L) (
        (f_X11_log nmM (xs (v3 + 1).toNatClampNeg) s22).bind (fun x => match x with
        | (q23, s24) =>
          if q21 = q23 then
            some (.inl (v3 + 6, s24))
          else
            some (.inr (.inr 0))))))
noncomputable def f_L_law_J1035 (L : Nat) (xs : Nat → Int32) (v3 : Int32) (σ : jS) : Option ((Int32 × jS) ⊕ (jS ⊕ Int32)) :=
  gd (vp_in (v3 + 1) L) (
    (f_X10_flat nmX (xs (v3 + 1).toNatClampNeg) σ).bind (fun x => match x with
    | (q25, s26) =>
      gd (vp_in (v3 + 1) L) (
        (f_X11_flat nmM (xs (v3 + 1).toNatClampNeg) s26).bind (fun x => match x with
        | (q27, s28) =>
          if q25 = q27 then
            some (.inl (v3 + 6, s28))
          else
            some (.inr (.inr 0))))))
noncomputable def f_L_law_J982 (L : Nat) (xs : Nat → Int32) (v3 : Int32) (σ : jS) : Option ((Int32 × jS) ⊕ (jS ⊕ Int32)) :=
  gd (vp_in (v3 + 1) L) (
    gd (vp_in (v3 + 2) L) (
      gd (vp_in (v3 + 3) L) (
        gd (vp_in (v3 + 4) L) (
          (f_X10_tuned nmX (xs (v3 + 1).toNatClampNeg) (xs (v3 + 2).toNatClampNeg) (xs (v3 + 3).toNatClampNeg) (xs (v3 + 4).toNatClampNeg) σ).bind (fun x => match x with
          | (q29, s30) =>
            gd (vp_in (v3 + 1) L) (
              gd (vp_in (v3 + 2) L) (
                gd (vp_in (v3 + 3) L) (
                  gd (vp_in (v3 + 4) L) (
                    (f_X11_tuned nmM (xs (v3 + 1).toNatClampNeg) (xs (v3 + 2).toNatClampNeg) (xs (v3 + 3).toNatClampNeg) (xs (v3 + 4).toNatClampNeg) s30).bind (fun x => match x with
                    | (q31, s32) =>
                      if q29 = q31 then
                        some (.inl (v3 + 6, s32))
                      else
                        some (.inr (.inr 0))))))))))))
noncomputable def f_L_law_J959 (L : Nat) (xs : Nat → Int32) (v3 : Int32) (σ : jS) : Option ((Int32 × jS) ⊕ (jS ⊕ Int32)) :=
  gd (vp_in (v3 + 1) L) (
    (f_X10_alone nmX (xs (v3 + 1).toNatClampNeg) σ).bind (fun x => match x with
    | (q33, s34) =>
      gd (vp_in (v3 + 1) L) (
        (f_X11_alone nmM (xs (v3 + 1).toNatClampNeg) s34).bind (fun x => match x with
        | (q35, s36) =>
          if q33 = q35 then
            some (.inl (v3 + 6, s36))
          else
            some (.inr (.inr 0))))))
noncomputable def f_L_law_J926 (L : Nat) (xs : Nat → Int32) (v3 : Int32) (σ : jS) : Option ((Int32 × jS) ⊕ (jS ⊕ Int32)) :=
  gd (vp_in (v3 + 1) L) (
    gd (vp_in (v3 + 2) L) (
      (f_X10_file nmX (xs (v3 + 1).toNatClampNeg) (xs (v3 + 2).toNatClampNeg) σ).bind (fun x => match x with
      | (q37, s38) =>
        gd (vp_in (v3 + 1) L) (
          gd (vp_in (v3 + 2) L) (
            (f_X11_file nmM (xs (v3 + 1).toNatClampNeg) (xs (v3 + 2).toNatClampNeg) s38).bind (fun x => match x with
            | (q39, s40) =>
              if q37 = q39 then
                some (.inl (v3 + 6, s40))
              else
                some (.inr (.inr 0))))))))
noncomputable def f_L_law_J893 (L : Nat) (xs : Nat → Int32) (v3 : Int32) (σ : jS) : Option ((Int32 × jS) ⊕ (jS ⊕ Int32)) :=
  gd (vp_in (v3 + 1) L) (
    gd (vp_in (v3 + 2) L) (
      (f_X10_where nmX (xs (v3 + 1).toNatClampNeg) (xs (v3 + 2).toNatClampNeg) σ).bind (fun x => match x with
      | (q41, s42) =>
        gd (vp_in (v3 + 1) L) (
          gd (vp_in (v3 + 2) L) (
            (f_X11_where nmM (xs (v3 + 1).toNatClampNeg) (xs (v3 + 2).toNatClampNeg) s42).bind (fun q43 =>
              if q41 = q43 then
                some (.inl (v3 + 6, s42))
              else
                some (.inr (.inr 0))))))))
noncomputable def f_L_law_J870 (L : Nat) (xs : Nat → Int32) (v3 : Int32) (σ : jS) : Option ((Int32 × jS) ⊕ (jS ⊕ Int32)) :=
  gd (vp_in (v3 + 1) L) (
    (f_X10_who nmX (xs (v3 + 1).toNatClampNeg) σ).bind (fun q44 =>
      gd (vp_in (v3 + 1) L) (
        (f_X11_who nmM (xs (v3 + 1).toNatClampNeg) σ).bind (fun q45 =>
          if q44 = q45 then
            some (.inl (v3 + 6, σ))
          else
            some (.inr (.inr 0))))))
noncomputable def f_L_law_J817 (L : Nat) (xs : Nat → Int32) (v3 : Int32) (σ : jS) : Option ((Int32 × jS) ⊕ (jS ⊕ Int32)) :=
  gd (vp_in (v3 + 1) L) (
    gd (vp_in (v3 + 2) L) (
      gd (vp_in (v3 + 3) L) (
        gd (vp_in (v3 + 4) L) (
          (f_X10_fewest nmX (xs (v3 + 1).toNatClampNeg) (xs (v3 + 2).toNatClampNeg) (xs (v3 + 3).toNatClampNeg) (xs (v3 + 4).toNatClampNeg) σ).bind (fun x => match x with
          | (q46, s47) =>
            gd (vp_in (v3 + 1) L) (
              gd (vp_in (v3 + 2) L) (
                gd (vp_in (v3 + 3) L) (
                  gd (vp_in (v3 + 4) L) (
                    (f_X11_fewest nmM (xs (v3 + 1).toNatClampNeg) (xs (v3 + 2).toNatClampNeg) (xs (v3 + 3).toNatClampNeg) (xs (v3 + 4).toNatClampNeg) s47).bind (fun x => match x with
                    | (q48, s49) =>
                      if q46 = q48 then
                        some (.inl (v3 + 6, s49))
                      else
                        some (.inr (.inr 0))))))))))))
noncomputable def f_L_law_J734 (L : Nat) (xs : Nat → Int32) (v3 : Int32) (σ : jS) : Option ((Int32 × jS) ⊕ (jS ⊕ Int32)) :=
  gd (vp_in (v3 + 1) L) (
    gd (vp_in (v3 + 2) L) (
      gd (vp_in (v3 + 3) L) (
        gd (vp_in (v3 + 4) L) (
          gd (vp_in (v3 + 5) L) (
            (f_X10_apart nmX ((((xs (v3 + 1).toNatClampNeg).toInt64) <<< ((32 : Int32).toInt64 &&& 63)) ||| (((xs (v3 + 2).toNatClampNeg).toInt64) &&& 4294967295)) (xs (v3 + 3).toNatClampNeg) (xs (v3 + 4).toNatClampNeg) (xs (v3 + 5).toNatClampNeg) σ).bind (fun x => match x with
            | (q50, s51) =>
              gd (vp_in (v3 + 1) L) (
                gd (vp_in (v3 + 2) L) (
                  gd (vp_in (v3 + 3) L) (
                    gd (vp_in (v3 + 4) L) (
                      gd (vp_in (v3 + 5) L) (
                        (f_X11_apart nmM ((((xs (v3 + 1).toNatClampNeg).toInt64) <<< ((32 : Int32).toInt64 &&& 63)) ||| (((xs (v3 + 2).toNatClampNeg).toInt64) &&& 4294967295)) (xs (v3 + 3).toNatClampNeg) (xs (v3 + 4).toNatClampNeg) (xs (v3 + 5).toNatClampNeg) s51).bind (fun x => match x with
                        | (q52, s53) =>
                          if q50 = q52 then
                            some (.inl (v3 + 6, s53))
                          else
                            some (.inr (.inr 0))))))))))))))
noncomputable def f_L_law_J651 (L : Nat) (xs : Nat → Int32) (v3 : Int32) (σ : jS) : Option ((Int32 × jS) ⊕ (jS ⊕ Int32)) :=
  gd (vp_in (v3 + 1) L) (
    gd (vp_in (v3 + 2) L) (
      gd (vp_in (v3 + 3) L) (
        gd (vp_in (v3 + 4) L) (
          gd (vp_in (v3 + 5) L) (
            (f_X10_lured nmX (xs (v3 + 1).toNatClampNeg) (xs (v3 + 2).toNatClampNeg) ((((xs (v3 + 3).toNatClampNeg).toInt64) <<< ((32 : Int32).toInt64 &&& 63)) ||| (((xs (v3 + 4).toNatClampNeg).toInt64) &&& 4294967295)) (xs (v3 + 5).toNatClampNeg) σ).bind (fun x => match x with
            | (q54, s55) =>
              gd (vp_in (v3 + 1) L) (
                gd (vp_in (v3 + 2) L) (
                  gd (vp_in (v3 + 3) L) (
                    gd (vp_in (v3 + 4) L) (
                      gd (vp_in (v3 + 5) L) (
                        (f_X11_lured nmM (xs (v3 + 1).toNatClampNeg) (xs (v3 + 2).toNatClampNeg) ((((xs (v3 + 3).toNatClampNeg).toInt64) <<< ((32 : Int32).toInt64 &&& 63)) ||| (((xs (v3 + 4).toNatClampNeg).toInt64) &&& 4294967295)) (xs (v3 + 5).toNatClampNeg) s55).bind (fun x => match x with
                        | (q56, s57) =>
                          if q54 = q56 then
                            some (.inl (v3 + 6, s57))
                          else
                            some (.inr (.inr 0))))))))))))))
noncomputable def f_L_law_J638 (L : Nat) (xs : Nat → Int32) (v3 : Int32) (σ : jS) : Option ((Int32 × jS) ⊕ (jS ⊕ Int32)) :=
  (f_X10_shows nmX σ).bind (fun q58 =>
    (f_X11_shows nmM σ).bind (fun q59 =>
      if q58 = q59 then
        some (.inl (v3 + 6, σ))
      else
        some (.inr (.inr 0))))
noncomputable def f_L_law_J625 (L : Nat) (xs : Nat → Int32) (v3 : Int32) (σ : jS) : Option ((Int32 × jS) ⊕ (jS ⊕ Int32)) :=
  (f_X10_forget nmX σ).bind (fun x => match x with
  | (q60, s61) =>
    (f_X11_forget nmM s61).bind (fun x => match x with
    | (q62, s63) =>
      if q60 = q62 then
        some (.inl (v3 + 6, s63))
      else
        some (.inr (.inr 0))))
noncomputable def f_L_law_J602 (L : Nat) (xs : Nat → Int32) (v3 : Int32) (σ : jS) : Option ((Int32 × jS) ⊕ (jS ⊕ Int32)) :=
  gd (vp_in (v3 + 1) L) (
    (f_X10_signal nmX (xs (v3 + 1).toNatClampNeg) σ).bind (fun x => match x with
    | (q64, s65) =>
      gd (vp_in (v3 + 1) L) (
        (f_X11_signal nmM (xs (v3 + 1).toNatClampNeg) s65).bind (fun x => match x with
        | (q66, s67) =>
          if q64 = q66 then
            some (.inl (v3 + 6, s67))
          else
            some (.inr (.inr 0))))))
noncomputable def f_L_law_J579 (L : Nat) (xs : Nat → Int32) (v3 : Int32) (σ : jS) : Option ((Int32 × jS) ⊕ (jS ⊕ Int32)) :=
  gd (vp_in (v3 + 1) L) (
    (f_X10_round nmX (xs (v3 + 1).toNatClampNeg) σ).bind (fun x => match x with
    | (q68, s69) =>
      gd (vp_in (v3 + 1) L) (
        (f_X11_round nmM (xs (v3 + 1).toNatClampNeg) s69).bind (fun x => match x with
        | (q70, s71) =>
          if q68 = q70 then
            some (.inl (v3 + 6, s71))
          else
            some (.inr (.inr 0))))))
noncomputable def f_L_law_J556 (L : Nat) (xs : Nat → Int32) (v3 : Int32) (σ : jS) : Option ((Int32 × jS) ⊕ (jS ⊕ Int32)) :=
  gd (vp_in (v3 + 1) L) (
    (f_X10_sweep nmX (xs (v3 + 1).toNatClampNeg) σ).bind (fun x => match x with
    | (q72, s73) =>
      gd (vp_in (v3 + 1) L) (
        (f_X11_sweep nmM (xs (v3 + 1).toNatClampNeg) s73).bind (fun x => match x with
        | (q74, s75) =>
          if q72 = q74 then
            some (.inl (v3 + 6, s75))
          else
            some (.inr (.inr 0))))))
noncomputable def f_L_law_J543 (L : Nat) (xs : Nat → Int32) (v3 : Int32) (σ : jS) : Option ((Int32 × jS) ⊕ (jS ⊕ Int32)) :=
  (f_X10_dark nmX σ).bind (fun x => match x with
  | (q76, s77) =>
    (f_X11_dark nmM s77).bind (fun x => match x with
    | (q78, s79) =>
      if q76 = q78 then
        some (.inl (v3 + 6, s79))
      else
        some (.inr (.inr 0))))
noncomputable def f_L_law_J520 (L : Nat) (xs : Nat → Int32) (v3 : Int32) (σ : jS) : Option ((Int32 × jS) ⊕ (jS ⊕ Int32)) :=
  gd (vp_in (v3 + 1) L) (
    (f_X10_lit nmX (xs (v3 + 1).toNatClampNeg) σ).bind (fun q80 =>
      gd (vp_in (v3 + 1) L) (
        (f_X11_lit nmM (xs (v3 + 1).toNatClampNeg) σ).bind (fun q81 =>
          if q80 = q81 then
            some (.inl (v3 + 6, σ))
          else
            some (.inr (.inr 0))))))
noncomputable def f_L_law_J497 (L : Nat) (xs : Nat → Int32) (v3 : Int32) (σ : jS) : Option ((Int32 × jS) ⊕ (jS ⊕ Int32)) :=
  gd (vp_in (v3 + 1) L) (
    (f_X10_run nmX (xs (v3 + 1).toNatClampNeg) σ).bind (fun x => match x with
    | (q82, s83) =>
      gd (vp_in (v3 + 1) L) (
        (f_X11_run nmM (xs (v3 + 1).toNatClampNeg) s83).bind (fun x => match x with
        | (q84, s85) =>
          if q82 = q84 then
            some (.inl (v3 + 6, s85))
          else
            some (.inr (.inr 0))))))
noncomputable def f_L_law_J464 (L : Nat) (xs : Nat → Int32) (v3 : Int32) (σ : jS) : Option ((Int32 × jS) ⊕ (jS ⊕ Int32)) :=
  gd (vp_in (v3 + 1) L) (
    gd (vp_in (v3 + 2) L) (
      (f_X10_hum nmX (xs (v3 + 1).toNatClampNeg) (xs (v3 + 2).toNatClampNeg) σ).bind (fun x => match x with
      | (q86, s87) =>
        gd (vp_in (v3 + 1) L) (
          gd (vp_in (v3 + 2) L) (
            (f_X11_hum nmM (xs (v3 + 1).toNatClampNeg) (xs (v3 + 2).toNatClampNeg) s87).bind (fun x => match x with
            | (q88, s89) =>
              if q86 = q88 then
                some (.inl (v3 + 6, s89))
              else
                some (.inr (.inr 0))))))))
noncomputable def f_L_law_J421 (L : Nat) (xs : Nat → Int32) (v3 : Int32) (σ : jS) : Option ((Int32 × jS) ⊕ (jS ⊕ Int32)) :=
  gd (vp_in (v3 + 1) L) (
    gd (vp_in (v3 + 2) L) (
      gd (vp_in (v3 + 3) L) (
        (f_X10_wakes nmX (xs (v3 + 1).toNatClampNeg) (xs (v3 + 2).toNatClampNeg) (xs (v3 + 3).toNatClampNeg) σ).bind (fun q90 =>
          gd (vp_in (v3 + 1) L) (
            gd (vp_in (v3 + 2) L) (
              gd (vp_in (v3 + 3) L) (
                (f_X11_wakes nmM (xs (v3 + 1).toNatClampNeg) (xs (v3 + 2).toNatClampNeg) (xs (v3 + 3).toNatClampNeg) σ).bind (fun q91 =>
                  if q90 = q91 then
                    some (.inl (v3 + 6, σ))
                  else
                    some (.inr (.inr 0))))))))))
noncomputable def f_L_law_J388 (L : Nat) (xs : Nat → Int32) (v3 : Int32) (σ : jS) : Option ((Int32 × jS) ⊕ (jS ⊕ Int32)) :=
  gd (vp_in (v3 + 1) L) (
    gd (vp_in (v3 + 2) L) (
      (f_X10_weather nmX (xs (v3 + 1).toNatClampNeg) (xs (v3 + 2).toNatClampNeg) σ).bind (fun x => match x with
      | (q92, s93) =>
        gd (vp_in (v3 + 1) L) (
          gd (vp_in (v3 + 2) L) (
            (f_X11_weather nmM (xs (v3 + 1).toNatClampNeg) (xs (v3 + 2).toNatClampNeg) s93).bind (fun x => match x with
            | (q94, s95) =>
              if q92 = q94 then
                some (.inl (v3 + 6, s95))
              else
                some (.inr (.inr 0))))))))
noncomputable def f_L_law_J355 (L : Nat) (xs : Nat → Int32) (v3 : Int32) (σ : jS) : Option ((Int32 × jS) ⊕ (jS ⊕ Int32)) :=
  gd (vp_in (v3 + 1) L) (
    gd (vp_in (v3 + 2) L) (
      (f_X10_singer nmX (xs (v3 + 1).toNatClampNeg) (xs (v3 + 2).toNatClampNeg) σ).bind (fun q96 =>
        gd (vp_in (v3 + 1) L) (
          gd (vp_in (v3 + 2) L) (
            (f_X11_singer nmM (xs (v3 + 1).toNatClampNeg) (xs (v3 + 2).toNatClampNeg) σ).bind (fun q97 =>
              if q96 = q97 then
                some (.inl (v3 + 6, σ))
              else
                some (.inr (.inr 0))))))))
noncomputable def f_L_law_J322 (L : Nat) (xs : Nat → Int32) (v3 : Int32) (σ : jS) : Option ((Int32 × jS) ⊕ (jS ⊕ Int32)) :=
  gd (vp_in (v3 + 1) L) (
    gd (vp_in (v3 + 2) L) (
      (f_X10_lamp nmX (xs (v3 + 1).toNatClampNeg) (xs (v3 + 2).toNatClampNeg) σ).bind (fun q98 =>
        gd (vp_in (v3 + 1) L) (
          gd (vp_in (v3 + 2) L) (
            (f_X11_lamp nmM (xs (v3 + 1).toNatClampNeg) (xs (v3 + 2).toNatClampNeg) σ).bind (fun q99 =>
              if q98 = q99 then
                some (.inl (v3 + 6, σ))
              else
                some (.inr (.inr 0))))))))
noncomputable def f_L_law_J299 (L : Nat) (xs : Nat → Int32) (v3 : Int32) (σ : jS) : Option ((Int32 × jS) ⊕ (jS ⊕ Int32)) :=
  gd (vp_in (v3 + 1) L) (
    (f_X10_told nmX (xs (v3 + 1).toNatClampNeg) σ).bind (fun q100 =>
      gd (vp_in (v3 + 1) L) (
        (f_X11_told nmM (xs (v3 + 1).toNatClampNeg) σ).bind (fun q101 =>
          if q100 = q101 then
            some (.inl (v3 + 6, σ))
          else
            some (.inr (.inr 0))))))
noncomputable def f_L_law_J286 (L : Nat) (xs : Nat → Int32) (v3 : Int32) (σ : jS) : Option ((Int32 × jS) ⊕ (jS ⊕ Int32)) :=
  (f_X10_fault nmX σ).bind (fun q102 =>
    (f_X11_fault nmM σ).bind (fun q103 =>
      if q102 = q103 then
        some (.inl (v3 + 6, σ))
      else
        some (.inr (.inr 0))))
noncomputable def f_L_law_J273 (L : Nat) (xs : Nat → Int32) (v3 : Int32) (σ : jS) : Option ((Int32 × jS) ⊕ (jS ⊕ Int32)) :=
  (f_X10_month nmX σ).bind (fun x => match x with
  | (q104, s105) =>
    (f_X11_month nmM s105).bind (fun x => match x with
    | (q106, s107) =>
      if q104 = q106 then
        some (.inl (v3 + 6, s107))
      else
        some (.inr (.inr 0))))
noncomputable def f_L_law_J260 (L : Nat) (xs : Nat → Int32) (v3 : Int32) (σ : jS) : Option ((Int32 × jS) ⊕ (jS ⊕ Int32)) :=
  (f_X10_night nmX σ).bind (fun x => match x with
  | (q108, s109) =>
    (f_X11_night nmM s109).bind (fun x => match x with
    | (q110, s111) =>
      if q108 = q110 then
        some (.inl (v3 + 6, s111))
      else
        some (.inr (.inr 0))))
noncomputable def f_L_law_J247 (L : Nat) (xs : Nat → Int32) (v3 : Int32) (σ : jS) : Option ((Int32 × jS) ⊕ (jS ⊕ Int32)) :=
  (f_X10_quay nmX σ).bind (fun x => match x with
  | (q112, s113) =>
    (f_X11_quay nmM s113).bind (fun x => match x with
    | (q114, s115) =>
      if q112 = q114 then
        some (.inl (v3 + 6, s115))
      else
        some (.inr (.inr 0))))
noncomputable def f_L_law_J184 (L : Nat) (xs : Nat → Int32) (v3 : Int32) (σ : jS) : Option ((Int32 × jS) ⊕ (jS ⊕ Int32)) :=
  gd (vp_in (v3 + 1) L) (
    gd (vp_in (v3 + 2) L) (
      gd (vp_in (v3 + 3) L) (
        (f_X10_feed nmX (xs (v3 + 1).toNatClampNeg) ((((xs (v3 + 2).toNatClampNeg).toInt64) <<< ((32 : Int32).toInt64 &&& 63)) ||| (((xs (v3 + 3).toNatClampNeg).toInt64) &&& 4294967295)) σ).bind (fun x => match x with
        | (q116, s117) =>
          gd (vp_in (v3 + 1) L) (
            gd (vp_in (v3 + 2) L) (
              gd (vp_in (v3 + 3) L) (
                (f_X11_feed nmM (xs (v3 + 1).toNatClampNeg) ((((xs (v3 + 2).toNatClampNeg).toInt64) <<< ((32 : Int32).toInt64 &&& 63)) ||| (((xs (v3 + 3).toNatClampNeg).toInt64) &&& 4294967295)) s117).bind (fun x => match x with
                | (q118, s119) =>
                  if q116 = q118 then
                    some (.inl (v3 + 6, s119))
                  else
                    some (.inr (.inr 0))))))))))
noncomputable def f_L_law_L18 (L : Nat) (xs : Nat → Int32) (s : (Int32 × jS)) : Option ((Int32 × jS) ⊕ (jS ⊕ Int32)) :=
  match s with
  | (v3, σ) =>
    if ((nI L) - 6) < v3 then
      some (.inr (.inl σ))
    else
      gd (vp_in v3 L) (
        if ((xs v3.toNatClampNeg) &&& 63) = 0 then
          f_L_law_J184 L xs v3 σ
        else
          if ((xs v3.toNatClampNeg) &&& 63) = 1 then
            f_L_law_J247 L xs v3 σ
          else
            if ((xs v3.toNatClampNeg) &&& 63) = 2 then
              f_L_law_J260 L xs v3 σ
            else
              if ((xs v3.toNatClampNeg) &&& 63) = 3 then
                f_L_law_J273 L xs v3 σ
              else
                if ((xs v3.toNatClampNeg) &&& 63) = 4 then
                  f_L_law_J286 L xs v3 σ
                else
                  if ((xs v3.toNatClampNeg) &&& 63) = 5 then
                    f_L_law_J299 L xs v3 σ
                  else
                    if ((xs v3.toNatClampNeg) &&& 63) = 6 then
                      f_L_law_J322 L xs v3 σ
                    else
                      if ((xs v3.toNatClampNeg) &&& 63) = 7 then
                        f_L_law_J355 L xs v3 σ
                      else
                        if ((xs v3.toNatClampNeg) &&& 63) = 8 then
                          f_L_law_J388 L xs v3 σ
                        else
                          if ((xs v3.toNatClampNeg) &&& 63) = 9 then
                            f_L_law_J421 L xs v3 σ
                          else
                            if ((xs v3.toNatClampNeg) &&& 63) = 10 then
                              f_L_law_J464 L xs v3 σ
                            else
                              if ((xs v3.toNatClampNeg) &&& 63) = 11 then
                                f_L_law_J497 L xs v3 σ
                              else
                                if ((xs v3.toNatClampNeg) &&& 63) = 12 then
                                  f_L_law_J520 L xs v3 σ
                                else
                                  if ((xs v3.toNatClampNeg) &&& 63) = 13 then
                                    f_L_law_J543 L xs v3 σ
                                  else
                                    if ((xs v3.toNatClampNeg) &&& 63) = 14 then
                                      f_L_law_J556 L xs v3 σ
                                    else
                                      if ((xs v3.toNatClampNeg) &&& 63) = 15 then
                                        f_L_law_J579 L xs v3 σ
                                      else
                                        if ((xs v3.toNatClampNeg) &&& 63) = 16 then
                                          f_L_law_J602 L xs v3 σ
                                        else
                                          if ((xs v3.toNatClampNeg) &&& 63) = 17 then
                                            f_L_law_J625 L xs v3 σ
                                          else
                                            if ((xs v3.toNatClampNeg) &&& 63) = 18 then
                                              f_L_law_J638 L xs v3 σ
                                            else
                                              if ((xs v3.toNatClampNeg) &&& 63) = 19 then
                                                f_L_law_J651 L xs v3 σ
                                              else
                                                if ((xs v3.toNatClampNeg) &&& 63) = 20 then
                                                  f_L_law_J734 L xs v3 σ
                                                else
                                                  if ((xs v3.toNatClampNeg) &&& 63) = 21 then
                                                    f_L_law_J817 L xs v3 σ
                                                  else
                                                    if ((xs v3.toNatClampNeg) &&& 63) = 22 then
                                                      f_L_law_J870 L xs v3 σ
                                                    else
                                                      if ((xs v3.toNatClampNeg) &&& 63) = 23 then
                                                        f_L_law_J893 L xs v3 σ
                                                      else
                                                        if ((xs v3.toNatClampNeg) &&& 63) = 24 then
                                                          f_L_law_J926 L xs v3 σ
                                                        else
                                                          if ((xs v3.toNatClampNeg) &&& 63) = 25 then
                                                            f_L_law_J959 L xs v3 σ
                                                          else
                                                            if ((xs v3.toNatClampNeg) &&& 63) = 26 then
                                                              f_L_law_J982 L xs v3 σ
                                                            else
                                                              if ((xs v3.toNatClampNeg) &&& 63) = 27 then
                                                                f_L_law_J1035 L xs v3 σ
                                                              else
                                                                if ((xs v3.toNatClampNeg) &&& 63) = 28 then
                                                                  f_L_law_J1058 L xs v3 σ
                                                                else
                                                                  if ((xs v3.toNatClampNeg) &&& 63) = 29 then
                                                                    f_L_law_J1081 L xs v3 σ
                                                                  else
                                                                    if ((xs v3.toNatClampNeg) &&& 63) = 30 then
                                                                      f_L_law_J1094 L xs v3 σ
                                                                    else
                                                                      if ((xs v3.toNatClampNeg) &&& 63) = 31 then
                                                                        f_L_law_J1107 L xs v3 σ
                                                                      else
                                                                        if ((xs v3.toNatClampNeg) &&& 63) = 32 then
                                                                          f_L_law_J1130 L xs v3 σ
                                                                        else
                                                                          if ((xs v3.toNatClampNeg) &&& 63) = 33 then
                                                                            f_L_law_J1153 L xs v3 σ
                                                                          else
                                                                            some (.inl (v3 + 6, σ)))
noncomputable def f_L_law (L : Nat) (xs : Nat → Int32) (σ : jS) : Option Int32 :=
  (lp (f_L_law_L18 L xs) fu (0, σ)).bind (fun x => match x with
  | .inl s120 =>
    some 1
  | .inr a => some a)
theorem C_law {X : jX} {l : Launch} {G : jG} {b L : Nat} {xs : Nat → Int32} (hG : jWL G) (hX : jB X l G cL_law RL 4 room_1) (hS : jLaw X b L xs) (hEX : jE G nmX LS_X10) (hEM : jE G nmM LS_X11) (σ : jS) : J X 16 [(0, .ref b), (1, .ref (jad G (nmX 0))), (2, .ref (jad G (nmM 0)))] [] σ (f_L_law L xs σ) (fun v => v = 1) := by
  unfold f_L_law
  refine J_iconst hX dL_law_16 k_i0 ?_
  refine J_istore_n hX dL_law_17 (Nat.le_of_ble_eq_true rfl) (lv' := [(0, .ref b), (1, .ref (jad G (nmX 0))), (2, .ref (jad G (nmM 0))), (3, .int 0)]) rfl ?_
  refine J_keep [0, 1, 2, 3] (lv' := [(0, .ref b), (1, .ref (jad G (nmX 0))), (2, .ref (jad G (nmM 0))), (3, .int 0)]) rfl ?_
  refine J_lp (pc := 18) (s0 := (0, σ)) (fun (s : (Int32 × jS)) => [(0, .ref b), (1, .ref (jad G (nmX 0))), (2, .ref (jad G (nmM 0))), (3, .int (s.1))]) (fun (s : (Int32 × jS)) => s.2) ?_
  intro KK18 hN18 hQ18 z18
  obtain ⟨v3_18, σ_18⟩ := z18
  show J X 18 [(0, .ref b), (1, .ref (jad G (nmX 0))), (2, .ref (jad G (nmM 0))), (3, .int v3_18)] [] σ_18 (f_L_law_L18 L xs (v3_18, σ_18)) KK18
  have hJ1153 : ∀ (v3_j1153 : Int32) (σ_j1153 : jS), J X 1153 [(0, .ref b), (1, .ref (jad G (nmX 0))), (2, .ref (jad G (nmM 0))), (3, .int v3_j1153)] [] σ_j1153 (f_L_law_J1153 L xs v3_j1153 σ_j1153) KK18 := by
    intro v3_j1153 σ_j1153
    unfold f_L_law_J1153
    refine J_aload_n hX dL_law_1153 rfl ?_
    refine J_aload_n hX dL_law_1154 rfl ?_
    refine J_iload_n hX dL_law_1155 rfl ?_
    refine J_iconst hX dL_law_1156 k_i1 ?_
    refine J_iadd hX dL_law_1157 ?_
    refine J_sld hX hS dL_law_1158 (fun _ => ?_)
    refine J_cVI hX hEX 0 (C_X10_goBack hG hEX (xs (v3_j1153 + 1).toNatClampNeg) σ_j1153) mw_X10_goBack ml_L_155 rfl rfl rfl ⟨Nat.le_of_ble_eq_true rfl, Nat.le_of_ble_eq_true rfl⟩ rfl rfl (Nat.le_of_ble_eq_true rfl) dL_law_1159 (fun q121 s122 => ?_)
    refine J_aload_n hX dL_law_1162 rfl ?_
    refine J_aload_n hX dL_law_1163 rfl ?_
    refine J_iload_n hX dL_law_1164 rfl ?_
    refine J_iconst hX dL_law_1165 k_i1 ?_
    refine J_iadd hX dL_law_1166 ?_
    refine J_sld hX hS dL_law_1167 (fun _ => ?_)
    refine J_cVI hX hEM 0 (C_X11_goBack hG hEM (xs (v3_j1153 + 1).toNatClampNeg) s122) mw_X11_goBack ml_L_158 rfl rfl rfl ⟨Nat.le_of_ble_eq_true rfl, Nat.le_of_ble_eq_true rfl⟩ rfl rfl (Nat.le_of_ble_eq_true rfl) dL_law_1168 (fun q123 s124 => ?_)
    refine J_icmp_eq hX dL_law_1171 (tgt := 1176) rfl (fun _ => ?_) (fun _ => ?_)
    · refine J_iinc hX dL_law_1176 rfl (congrArg (_ + ·) k_i6) (Nat.le_of_ble_eq_true rfl) (lv' := [(0, .ref b), (1, .ref (jad G (nmX 0))), (2, .ref (jad G (nmM 0))), (3, .int (v3_j1153 + 6))]) rfl ?_
      refine J_goto hX dL_law_1179 (tgt := 18) rfl ?_
      exact J_keep [0, 1, 2, 3] rfl (hN18 (v3_j1153 + 6, s124))
    · refine J_iconst hX dL_law_1174 k_i0 ?_
      refine hQ18 _ _ _ _ _ ?_
      exact J_lawret hX hS dL_law_1175
  have hJ1130 : ∀ (v3_j1130 : Int32) (σ_j1130 : jS), J X 1130 [(0, .ref b), (1, .ref (jad G (nmX 0))), (2, .ref (jad G (nmM 0))), (3, .int v3_j1130)] [] σ_j1130 (f_L_law_J1130 L xs v3_j1130 σ_j1130) KK18 := by
    intro v3_j1130 σ_j1130
    unfold f_L_law_J1130
    refine J_aload_n hX dL_law_1130 rfl ?_
    refine J_aload_n hX dL_law_1131 rfl ?_
    refine J_iload_n hX dL_law_1132 rfl ?_
    refine J_iconst hX dL_law_1133 k_i1 ?_
    refine J_iadd hX dL_law_1134 ?_
    refine J_sld hX hS dL_law_1135 (fun _ => ?_)
    refine J_cVI hX hEX 0 (C_X10_keep hG hEX (xs (v3_j1130 + 1).toNatClampNeg) σ_j1130) mw_X10_keep ml_L_151 rfl rfl rfl ⟨Nat.le_of_ble_eq_true rfl, Nat.le_of_ble_eq_true rfl⟩ rfl rfl (Nat.le_of_ble_eq_true rfl) dL_law_1136 (fun q125 s126 => ?_)
    refine J_aload_n hX dL_law_1139 rfl ?_
    refine J_aload_n hX dL_law_1140 rfl ?_
    refine J_iload_n hX dL_law_1141 rfl ?_
    refine J_iconst hX dL_law_1142 k_i1 ?_
    refine J_iadd hX dL_law_1143 ?_
    refine J_sld hX hS dL_law_1144 (fun _ => ?_)
    refine J_cVI hX hEM 0 (C_X11_keep hG hEM (xs (v3_j1130 + 1).toNatClampNeg) s126) mw_X11_keep ml_L_154 rfl rfl rfl ⟨Nat.le_of_ble_eq_true rfl, Nat.le_of_ble_eq_true rfl⟩ rfl rfl (Nat.le_of_ble_eq_true rfl) dL_law_1145 (fun q127 s128 => ?_)
    refine J_icmp_eq hX dL_law_1148 (tgt := 1176) rfl (fun _ => ?_) (fun _ => ?_)
    · refine J_iinc hX dL_law_1176 rfl (congrArg (_ + ·) k_i6) (Nat.le_of_ble_eq_true rfl) (lv' := [(0, .ref b), (1, .ref (jad G (nmX 0))), (2, .ref (jad G (nmM 0))), (3, .int (v3_j1130 + 6))]) rfl ?_
      refine J_goto hX dL_law_1179 (tgt := 18) rfl ?_
      exact J_keep [0, 1, 2, 3] rfl (hN18 (v3_j1130 + 6, s128))
    · refine J_iconst hX dL_law_1151 k_i0 ?_
      refine hQ18 _ _ _ _ _ ?_
      exact J_lawret hX hS dL_law_1152
  have hJ1107 : ∀ (v3_j1107 : Int32) (σ_j1107 : jS), J X 1107 [(0, .ref b), (1, .ref (jad G (nmX 0))), (2, .ref (jad G (nmM 0))), (3, .int v3_j1107)] [] σ_j1107 (f_L_law_J1107 L xs v3_j1107 σ_j1107) KK18 := by
    intro v3_j1107 σ_j1107
    unfold f_L_law_J1107
    refine J_aload_n hX dL_law_1107 rfl ?_
    refine J_aload_n hX dL_law_1108 rfl ?_
    refine J_iload_n hX dL_law_1109 rfl ?_
    refine J_iconst hX dL_law_1110 k_i1 ?_
    refine J_iadd hX dL_law_1111 ?_
    refine J_sld hX hS dL_law_1112 (fun _ => ?_)
    refine J_cVI hX hEX 0 (C_X10_seed hG hEX (xs (v3_j1107 + 1).toNatClampNeg) σ_j1107) mw_X10_seed ml_L_147 rfl rfl rfl ⟨Nat.le_of_ble_eq_true rfl, Nat.le_of_ble_eq_true rfl⟩ rfl rfl (Nat.le_of_ble_eq_true rfl) dL_law_1113 (fun q129 s130 => ?_)
    refine J_aload_n hX dL_law_1116 rfl ?_
    refine J_aload_n hX dL_law_1117 rfl ?_
    refine J_iload_n hX dL_law_1118 rfl ?_
    refine J_iconst hX dL_law_1119 k_i1 ?_
    refine J_iadd hX dL_law_1120 ?_
    refine J_sld hX hS dL_law_1121 (fun _ => ?_)
    refine J_cVI hX hEM 0 (C_X11_seed hG hEM (xs (v3_j1107 + 1).toNatClampNeg) s130) mw_X11_seed ml_L_150 rfl rfl rfl ⟨Nat.le_of_ble_eq_true rfl, Nat.le_of_ble_eq_true rfl⟩ rfl rfl (Nat.le_of_ble_eq_true rfl) dL_law_1122 (fun q131 s132 => ?_)
    refine J_icmp_eq hX dL_law_1125 (tgt := 1176) rfl (fun _ => ?_) (fun _ => ?_)
    · refine J_iinc hX dL_law_1176 rfl (congrArg (_ + ·) k_i6) (Nat.le_of_ble_eq_true rfl) (lv' := [(0, .ref b), (1, .ref (jad G (nmX 0))), (2, .ref (jad G (nmM 0))), (3, .int (v3_j1107 + 6))]) rfl ?_
      refine J_goto hX dL_law_1179 (tgt := 18) rfl ?_
      exact J_keep [0, 1, 2, 3] rfl (hN18 (v3_j1107 + 6, s132))
    · refine J_iconst hX dL_law_1128 k_i0 ?_
      refine hQ18 _ _ _ _ _ ?_
      exact J_lawret hX hS dL_law_1129
  have hJ1094 : ∀ (v3_j1094 : Int32) (σ_j1094 : jS), J X 1094 [(0, .ref b), (1, .ref (jad G (nmX 0))), (2, .ref (jad G (nmM 0))), (3, .int v3_j1094)] [] σ_j1094 (f_L_law_J1094 L xs v3_j1094 σ_j1094) KK18 := by
    intro v3_j1094 σ_j1094
    unfold f_L_law_J1094
    refine J_aload_n hX dL_law_1094 rfl ?_
    refine J_cVI hX hEX 0 (C_X10_judge hG hEX σ_j1094) mw_X10_judge ml_L_143 rfl rfl rfl ⟨Nat.le_of_ble_eq_true rfl, Nat.le_of_ble_eq_true rfl⟩ rfl rfl (Nat.le_of_ble_eq_true rfl) dL_law_1095 (fun q133 s134 => ?_)
    refine J_aload_n hX dL_law_1098 rfl ?_
    refine J_cVI hX hEM 0 (C_X11_judge hG hEM s134) mw_X11_judge ml_L_146 rfl rfl rfl ⟨Nat.le_of_ble_eq_true rfl, Nat.le_of_ble_eq_true rfl⟩ rfl rfl (Nat.le_of_ble_eq_true rfl) dL_law_1099 (fun q135 s136 => ?_)
    refine J_icmp_eq hX dL_law_1102 (tgt := 1176) rfl (fun _ => ?_) (fun _ => ?_)
    · refine J_iinc hX dL_law_1176 rfl (congrArg (_ + ·) k_i6) (Nat.le_of_ble_eq_true rfl) (lv' := [(0, .ref b), (1, .ref (jad G (nmX 0))), (2, .ref (jad G (nmM 0))), (3, .int (v3_j1094 + 6))]) rfl ?_
      refine J_goto hX dL_law_1179 (tgt := 18) rfl ?_
      exact J_keep [0, 1, 2, 3] rfl (hN18 (v3_j1094 + 6, s136))
    · refine J_iconst hX dL_law_1105 k_i0 ?_
      refine hQ18 _ _ _ _ _ ?_
      exact J_lawret hX hS dL_law_1106
  have hJ1081 : ∀ (v3_j1081 : Int32) (σ_j1081 : jS), J X 1081 [(0, .ref b), (1, .ref (jad G (nmX 0))), (2, .ref (jad G (nmM 0))), (3, .int v3_j1081)] [] σ_j1081 (f_L_law_J1081 L xs v3_j1081 σ_j1081) KK18 := by
    intro v3_j1081 σ_j1081
    unfold f_L_law_J1081
    refine J_aload_n hX dL_law_1081 rfl ?_
    refine J_cVI hX hEX 0 (C_X10_clear hG hEX σ_j1081) mw_X10_clear ml_L_139 rfl rfl rfl ⟨Nat.le_of_ble_eq_true rfl, Nat.le_of_ble_eq_true rfl⟩ rfl rfl (Nat.le_of_ble_eq_true rfl) dL_law_1082 (fun q137 s138 => ?_)
    refine J_aload_n hX dL_law_1085 rfl ?_
    refine J_cVI hX hEM 0 (C_X11_clear hG hEM s138) mw_X11_clear ml_L_142 rfl rfl rfl ⟨Nat.le_of_ble_eq_true rfl, Nat.le_of_ble_eq_true rfl⟩ rfl rfl (Nat.le_of_ble_eq_true rfl) dL_law_1086 (fun q139 s140 => ?_)
    refine J_icmp_eq hX dL_law_1089 (tgt := 1176) rfl (fun _ => ?_) (fun _ => ?_)
    · refine J_iinc hX dL_law_1176 rfl (congrArg (_ + ·) k_i6) (Nat.le_of_ble_eq_true rfl) (lv' := [(0, .ref b), (1, .ref (jad G (nmX 0))), (2, .ref (jad G (nmM 0))), (3, .int (v3_j1081 + 6))]) rfl ?_
      refine J_goto hX dL_law_1179 (tgt := 18) rfl ?_
      exact J_keep [0, 1, 2, 3] rfl (hN18 (v3_j1081 + 6, s140))
    · refine J_iconst hX dL_law_1092 k_i0 ?_
      refine hQ18 _ _ _ _ _ ?_
      exact J_lawret hX hS dL_law_1093
  have hJ1058 : ∀ (v3_j1058 : Int32) (σ_j1058 : jS), J X 1058 [(0, .ref b), (1, .ref (jad G (nmX 0))), (2, .ref (jad G (nmM 0))), (3, .int v3_j1058)] [] σ_j1058 (f_L_law_J1058 L xs v3_j1058 σ_j1058) KK18 := by
    intro v3_j1058 σ_j1058
    unfold f_L_law_J1058
    refine J_aload_n hX dL_law_1058 rfl ?_
    refine J_aload_n hX dL_law_1059 rfl ?_
    refine J_iload_n hX dL_law_1060 rfl ?_
    refine J_iconst hX dL_law_1061 k_i1 ?_
    refine J_iadd hX dL_law_1062 ?_
    refine J_sld hX hS dL_law_1063 (fun _ => ?_)
    refine J_cVI hX hEX 0 (C_X10_log hG hEX (xs (v3_j1058 + 1).toNatClampNeg) σ_j1058) mw_X10_log ml_L_135 rfl rfl rfl ⟨Nat.le_of_ble_eq_true rfl, Nat.le_of_ble_eq_true rfl⟩ rfl rfl (Nat.le_of_ble_eq_true rfl) dL_law_1064 (fun q141 s142 => ?_)
    refine J_aload_n hX dL_law_1067 rfl ?_
    refine J_aload_n hX dL_law_1068 rfl ?_
    refine J_iload_n hX dL_law_1069 rfl ?_
    refine J_iconst hX dL_law_1070 k_i1 ?_
    refine J_iadd hX dL_law_1071 ?_
    refine J_sld hX hS dL_law_1072 (fun _ => ?_)
    refine J_cVI hX hEM 0 (C_X11_log hG hEM (xs (v3_j1058 + 1).toNatClampNeg) s142) mw_X11_log ml_L_138 rfl rfl rfl ⟨Nat.le_of_ble_eq_true rfl, Nat.le_of_ble_eq_true rfl⟩ rfl rfl (Nat.le_of_ble_eq_true rfl) dL_law_1073 (fun q143 s144 => ?_)
    refine J_icmp_eq hX dL_law_1076 (tgt := 1176) rfl (fun _ => ?_) (fun _ => ?_)
    · refine J_iinc hX dL_law_1176 rfl (congrArg (_ + ·) k_i6) (Nat.le_of_ble_eq_true rfl) (lv' := [(0, .ref b), (1, .ref (jad G (nmX 0))), (2, .ref (jad G (nmM 0))), (3, .int (v3_j1058 + 6))]) rfl ?_
      refine J_goto hX dL_law_1179 (tgt := 18) rfl ?_
      exact J_keep [0, 1, 2, 3] rfl (hN18 (v3_j1058 + 6, s144))
    · refine J_iconst hX dL_law_1079 k_i0 ?_
      refine hQ18 _ _ _ _ _ ?_
      exact J_lawret hX hS dL_law_1080
  have hJ1035 : ∀ (v3_j1035 : Int32) (σ_j1035 : jS), J X 1035 [(0, .ref b), (1, .ref (jad G (nmX 0))), (2, .ref (jad G (nmM 0))), (3, .int v3_j1035)] [] σ_j1035 (f_L_law_J1035 L xs v3_j1035 σ_j1035) KK18 := by
    intro v3_j1035 σ_j1035
    unfold f_L_law_J1035
    refine J_aload_n hX dL_law_1035 rfl ?_
    refine J_aload_n hX dL_law_1036 rfl ?_
    refine J_iload_n hX dL_law_1037 rfl ?_
    refine J_iconst hX dL_law_1038 k_i1 ?_
    refine J_iadd hX dL_law_1039 ?_
    refine J_sld hX hS dL_law_1040 (fun _ => ?_)
    refine J_cVI hX hEX 0 (C_X10_flat hG hEX (xs (v3_j1035 + 1).toNatClampNeg) σ_j1035) mw_X10_flat ml_L_131 rfl rfl rfl ⟨Nat.le_of_ble_eq_true rfl, Nat.le_of_ble_eq_true rfl⟩ rfl rfl (Nat.le_of_ble_eq_true rfl) dL_law_1041 (fun q145 s146 => ?_)
    refine J_aload_n hX dL_law_1044 rfl ?_
    refine J_aload_n hX dL_law_1045 rfl ?_
    refine J_iload_n hX dL_law_1046 rfl ?_
    refine J_iconst hX dL_law_1047 k_i1 ?_
    refine J_iadd hX dL_law_1048 ?_
    refine J_sld hX hS dL_law_1049 (fun _ => ?_)
    refine J_cVI hX hEM 0 (C_X11_flat hG hEM (xs (v3_j1035 + 1).toNatClampNeg) s146) mw_X11_flat ml_L_134 rfl rfl rfl ⟨Nat.le_of_ble_eq_true rfl, Nat.le_of_ble_eq_true rfl⟩ rfl rfl (Nat.le_of_ble_eq_true rfl) dL_law_1050 (fun q147 s148 => ?_)
    refine J_icmp_eq hX dL_law_1053 (tgt := 1176) rfl (fun _ => ?_) (fun _ => ?_)
    · refine J_iinc hX dL_law_1176 rfl (congrArg (_ + ·) k_i6) (Nat.le_of_ble_eq_true rfl) (lv' := [(0, .ref b), (1, .ref (jad G (nmX 0))), (2, .ref (jad G (nmM 0))), (3, .int (v3_j1035 + 6))]) rfl ?_
      refine J_goto hX dL_law_1179 (tgt := 18) rfl ?_
      exact J_keep [0, 1, 2, 3] rfl (hN18 (v3_j1035 + 6, s148))
    · refine J_iconst hX dL_law_1056 k_i0 ?_
      refine hQ18 _ _ _ _ _ ?_
      exact J_lawret hX hS dL_law_1057
  have hJ982 : ∀ (v3_j982 : Int32) (σ_j982 : jS), J X 982 [(0, .ref b), (1, .ref (jad G (nmX 0))), (2, .ref (jad G (nmM 0))), (3, .int v3_j982)] [] σ_j982 (f_L_law_J982 L xs v3_j982 σ_j982) KK18 := by
    intro v3_j982 σ_j982
    unfold f_L_law_J982
    refine J_aload_n hX dL_law_982 rfl ?_
    refine J_aload_n hX dL_law_983 rfl ?_
    refine J_iload_n hX dL_law_984 rfl ?_
    refine J_iconst hX dL_law_985 k_i1 ?_
    refine J_iadd hX dL_law_986 ?_
    refine J_sld hX hS dL_law_987 (fun _ => ?_)
    refine J_aload_n hX dL_law_988 rfl ?_
    refine J_iload_n hX dL_law_989 rfl ?_
    refine J_iconst hX dL_law_990 k_i2 ?_
    refine J_iadd hX dL_law_991 ?_
    refine J_sld hX hS dL_law_992 (fun _ => ?_)
    refine J_aload_n hX dL_law_993 rfl ?_
    refine J_iload_n hX dL_law_994 rfl ?_
    refine J_iconst hX dL_law_995 k_i3 ?_
    refine J_iadd hX dL_law_996 ?_
    refine J_sld hX hS dL_law_997 (fun _ => ?_)
    refine J_aload_n hX dL_law_998 rfl ?_
    refine J_iload_n hX dL_law_999 rfl ?_
    refine J_iconst hX dL_law_1000 k_i4 ?_
    refine J_iadd hX dL_law_1001 ?_
    refine J_sld hX hS dL_law_1002 (fun _ => ?_)
    refine J_cVI hX hEX 0 (C_X10_tuned hG hEX (xs (v3_j982 + 1).toNatClampNeg) (xs (v3_j982 + 2).toNatClampNeg) (xs (v3_j982 + 3).toNatClampNeg) (xs (v3_j982 + 4).toNatClampNeg) σ_j982) mw_X10_tuned ml_L_127 rfl rfl rfl ⟨Nat.le_of_ble_eq_true rfl, Nat.le_of_ble_eq_true rfl⟩ rfl rfl (Nat.le_of_ble_eq_true rfl) dL_law_1003 (fun q149 s150 => ?_)
    refine J_aload_n hX dL_law_1006 rfl ?_
    refine J_aload_n hX dL_law_1007 rfl ?_
    refine J_iload_n hX dL_law_1008 rfl ?_
    refine J_iconst hX dL_law_1009 k_i1 ?_
    refine J_iadd hX dL_law_1010 ?_
    refine J_sld hX hS dL_law_1011 (fun _ => ?_)
    refine J_aload_n hX dL_law_1012 rfl ?_
    refine J_iload_n hX dL_law_1013 rfl ?_
    refine J_iconst hX dL_law_1014 k_i2 ?_
    refine J_iadd hX dL_law_1015 ?_
    refine J_sld hX hS dL_law_1016 (fun _ => ?_)
    refine J_aload_n hX dL_law_1017 rfl ?_
    refine J_iload_n hX dL_law_1018 rfl ?_
    refine J_iconst hX dL_law_1019 k_i3 ?_
    refine J_iadd hX dL_law_1020 ?_
    refine J_sld hX hS dL_law_1021 (fun _ => ?_)
    refine J_aload_n hX dL_law_1022 rfl ?_
    refine J_iload_n hX dL_law_1023 rfl ?_
    refine J_iconst hX dL_law_1024 k_i4 ?_
    refine J_iadd hX dL_law_1025 ?_
    refine J_sld hX hS dL_law_1026 (fun _ => ?_)
    refine J_cVI hX hEM 0 (C_X11_tuned hG hEM (xs (v3_j982 + 1).toNatClampNeg) (xs (v3_j982 + 2).toNatClampNeg) (xs (v3_j982 + 3).toNatClampNeg) (xs (v3_j982 + 4).toNatClampNeg) s150) mw_X11_tuned ml_L_130 rfl rfl rfl ⟨Nat.le_of_ble_eq_true rfl, Nat.le_of_ble_eq_true rfl⟩ rfl rfl (Nat.le_of_ble_eq_true rfl) dL_law_1027 (fun q151 s152 => ?_)
    refine J_icmp_eq hX dL_law_1030 (tgt := 1176) rfl (fun _ => ?_) (fun _ => ?_)
    · refine J_iinc hX dL_law_1176 rfl (congrArg (_ + ·) k_i6) (Nat.le_of_ble_eq_true rfl) (lv' := [(0, .ref b), (1, .ref (jad G (nmX 0))), (2, .ref (jad G (nmM 0))), (3, .int (v3_j982 + 6))]) rfl ?_
      refine J_goto hX dL_law_1179 (tgt := 18) rfl ?_
      exact J_keep [0, 1, 2, 3] rfl (hN18 (v3_j982 + 6, s152))
    · refine J_iconst hX dL_law_1033 k_i0 ?_
      refine hQ18 _ _ _ _ _ ?_
      exact J_lawret hX hS dL_law_1034
  have hJ959 : ∀ (v3_j959 : Int32) (σ_j959 : jS), J X 959 [(0, .ref b), (1, .ref (jad G (nmX 0))), (2, .ref (jad G (nmM 0))), (3, .int v3_j959)] [] σ_j959 (f_L_law_J959 L xs v3_j959 σ_j959) KK18 := by
    intro v3_j959 σ_j959
    unfold f_L_law_J959
    refine J_aload_n hX dL_law_959 rfl ?_
    refine J_aload_n hX dL_law_960 rfl ?_
    refine J_iload_n hX dL_law_961 rfl ?_
    refine J_iconst hX dL_law_962 k_i1 ?_
    refine J_iadd hX dL_law_963 ?_
    refine J_sld hX hS dL_law_964 (fun _ => ?_)
    refine J_cVI hX hEX 0 (C_X10_alone hG hEX (xs (v3_j959 + 1).toNatClampNeg) σ_j959) mw_X10_alone ml_L_123 rfl rfl rfl ⟨Nat.le_of_ble_eq_true rfl, Nat.le_of_ble_eq_true rfl⟩ rfl rfl (Nat.le_of_ble_eq_true rfl) dL_law_965 (fun q153 s154 => ?_)
    refine J_aload_n hX dL_law_968 rfl ?_
    refine J_aload_n hX dL_law_969 rfl ?_
    refine J_iload_n hX dL_law_970 rfl ?_
    refine J_iconst hX dL_law_971 k_i1 ?_
    refine J_iadd hX dL_law_972 ?_
    refine J_sld hX hS dL_law_973 (fun _ => ?_)
    refine J_cVI hX hEM 0 (C_X11_alone hG hEM (xs (v3_j959 + 1).toNatClampNeg) s154) mw_X11_alone ml_L_126 rfl rfl rfl ⟨Nat.le_of_ble_eq_true rfl, Nat.le_of_ble_eq_true rfl⟩ rfl rfl (Nat.le_of_ble_eq_true rfl) dL_law_974 (fun q155 s156 => ?_)
    refine J_icmp_eq hX dL_law_977 (tgt := 1176) rfl (fun _ => ?_) (fun _ => ?_)
    · refine J_iinc hX dL_law_1176 rfl (congrArg (_ + ·) k_i6) (Nat.le_of_ble_eq_true rfl) (lv' := [(0, .ref b), (1, .ref (jad G (nmX 0))), (2, .ref (jad G (nmM 0))), (3, .int (v3_j959 + 6))]) rfl ?_
      refine J_goto hX dL_law_1179 (tgt := 18) rfl ?_
      exact J_keep [0, 1, 2, 3] rfl (hN18 (v3_j959 + 6, s156))
    · refine J_iconst hX dL_law_980 k_i0 ?_
      refine hQ18 _ _ _ _ _ ?_
      exact J_lawret hX hS dL_law_981
  have hJ926 : ∀ (v3_j926 : Int32) (σ_j926 : jS), J X 926 [(0, .ref b), (1, .ref (jad G (nmX 0))), (2, .ref (jad G (nmM 0))), (3, .int v3_j926)] [] σ_j926 (f_L_law_J926 L xs v3_j926 σ_j926) KK18 := by
    intro v3_j926 σ_j926
    unfold f_L_law_J926
    refine J_aload_n hX dL_law_926 rfl ?_
    refine J_aload_n hX dL_law_927 rfl ?_
    refine J_iload_n hX dL_law_928 rfl ?_
    refine J_iconst hX dL_law_929 k_i1 ?_
    refine J_iadd hX dL_law_930 ?_
    refine J_sld hX hS dL_law_931 (fun _ => ?_)
    refine J_aload_n hX dL_law_932 rfl ?_
    refine J_iload_n hX dL_law_933 rfl ?_
    refine J_iconst hX dL_law_934 k_i2 ?_
    refine J_iadd hX dL_law_935 ?_
    refine J_sld hX hS dL_law_936 (fun _ => ?_)
    refine J_cVI hX hEX 0 (C_X10_file hG hEX (xs (v3_j926 + 1).toNatClampNeg) (xs (v3_j926 + 2).toNatClampNeg) σ_j926) mw_X10_file ml_L_119 rfl rfl rfl ⟨Nat.le_of_ble_eq_true rfl, Nat.le_of_ble_eq_true rfl⟩ rfl rfl (Nat.le_of_ble_eq_true rfl) dL_law_937 (fun q157 s158 => ?_)
    refine J_aload_n hX dL_law_940 rfl ?_
    refine J_aload_n hX dL_law_941 rfl ?_
    refine J_iload_n hX dL_law_942 rfl ?_
    refine J_iconst hX dL_law_943 k_i1 ?_
    refine J_iadd hX dL_law_944 ?_
    refine J_sld hX hS dL_law_945 (fun _ => ?_)
    refine J_aload_n hX dL_law_946 rfl ?_
    refine J_iload_n hX dL_law_947 rfl ?_
    refine J_iconst hX dL_law_948 k_i2 ?_
    refine J_iadd hX dL_law_949 ?_
    refine J_sld hX hS dL_law_950 (fun _ => ?_)
    refine J_cVI hX hEM 0 (C_X11_file hG hEM (xs (v3_j926 + 1).toNatClampNeg) (xs (v3_j926 + 2).toNatClampNeg) s158) mw_X11_file ml_L_122 rfl rfl rfl ⟨Nat.le_of_ble_eq_true rfl, Nat.le_of_ble_eq_true rfl⟩ rfl rfl (Nat.le_of_ble_eq_true rfl) dL_law_951 (fun q159 s160 => ?_)
    refine J_icmp_eq hX dL_law_954 (tgt := 1176) rfl (fun _ => ?_) (fun _ => ?_)
    · refine J_iinc hX dL_law_1176 rfl (congrArg (_ + ·) k_i6) (Nat.le_of_ble_eq_true rfl) (lv' := [(0, .ref b), (1, .ref (jad G (nmX 0))), (2, .ref (jad G (nmM 0))), (3, .int (v3_j926 + 6))]) rfl ?_
      refine J_goto hX dL_law_1179 (tgt := 18) rfl ?_
      exact J_keep [0, 1, 2, 3] rfl (hN18 (v3_j926 + 6, s160))
    · refine J_iconst hX dL_law_957 k_i0 ?_
      refine hQ18 _ _ _ _ _ ?_
      exact J_lawret hX hS dL_law_958
  have hJ893 : ∀ (v3_j893 : Int32) (σ_j893 : jS), J X 893 [(0, .ref b), (1, .ref (jad G (nmX 0))), (2, .ref (jad G (nmM 0))), (3, .int v3_j893)] [] σ_j893 (f_L_law_J893 L xs v3_j893 σ_j893) KK18 := by
    intro v3_j893 σ_j893
    unfold f_L_law_J893
    refine J_aload_n hX dL_law_893 rfl ?_
    refine J_aload_n hX dL_law_894 rfl ?_
    refine J_iload_n hX dL_law_895 rfl ?_
    refine J_iconst hX dL_law_896 k_i1 ?_
    refine J_iadd hX dL_law_897 ?_
    refine J_sld hX hS dL_law_898 (fun _ => ?_)
    refine J_aload_n hX dL_law_899 rfl ?_
    refine J_iload_n hX dL_law_900 rfl ?_
    refine J_iconst hX dL_law_901 k_i2 ?_
    refine J_iadd hX dL_law_902 ?_
    refine J_sld hX hS dL_law_903 (fun _ => ?_)
    refine J_cVI hX hEX 0 (C_X10_where hG hEX (xs (v3_j893 + 1).toNatClampNeg) (xs (v3_j893 + 2).toNatClampNeg) σ_j893) mw_X10_where ml_L_115 rfl rfl rfl ⟨Nat.le_of_ble_eq_true rfl, Nat.le_of_ble_eq_true rfl⟩ rfl rfl (Nat.le_of_ble_eq_true rfl) dL_law_904 (fun q161 s162 => ?_)
    refine J_aload_n hX dL_law_907 rfl ?_
    refine J_aload_n hX dL_law_908 rfl ?_
    refine J_iload_n hX dL_law_909 rfl ?_
    refine J_iconst hX dL_law_910 k_i1 ?_
    refine J_iadd hX dL_law_911 ?_
    refine J_sld hX hS dL_law_912 (fun _ => ?_)
    refine J_aload_n hX dL_law_913 rfl ?_
    refine J_iload_n hX dL_law_914 rfl ?_
    refine J_iconst hX dL_law_915 k_i2 ?_
    refine J_iadd hX dL_law_916 ?_
    refine J_sld hX hS dL_law_917 (fun _ => ?_)
    refine J_cVP hX hEM 0 (C_X11_where hG hEM (xs (v3_j893 + 1).toNatClampNeg) (xs (v3_j893 + 2).toNatClampNeg) s162) mw_X11_where ml_L_118 rfl rfl rfl ⟨Nat.le_of_ble_eq_true rfl, Nat.le_of_ble_eq_true rfl⟩ rfl rfl (Nat.le_of_ble_eq_true rfl) dL_law_918 (fun q163 => ?_)
    refine J_icmp_eq hX dL_law_921 (tgt := 1176) rfl (fun _ => ?_) (fun _ => ?_)
    · refine J_iinc hX dL_law_1176 rfl (congrArg (_ + ·) k_i6) (Nat.le_of_ble_eq_true rfl) (lv' := [(0, .ref b), (1, .ref (jad G (nmX 0))), (2, .ref (jad G (nmM 0))), (3, .int (v3_j893 + 6))]) rfl ?_
      refine J_goto hX dL_law_1179 (tgt := 18) rfl ?_
      exact J_keep [0, 1, 2, 3] rfl (hN18 (v3_j893 + 6, s162))
    · refine J_iconst hX dL_law_924 k_i0 ?_
      refine hQ18 _ _ _ _ _ ?_
      exact J_lawret hX hS dL_law_925
  have hJ870 : ∀ (v3_j870 : Int32) (σ_j870 : jS), J X 870 [(0, .ref b), (1, .ref (jad G (nmX 0))), (2, .ref (jad G (nmM 0))), (3, .int v3_j870)] [] σ_j870 (f_L_law_J870 L xs v3_j870 σ_j870) KK18 := by
    intro v3_j870 σ_j870
    unfold f_L_law_J870
    refine J_aload_n hX dL_law_870 rfl ?_
    refine J_aload_n hX dL_law_871 rfl ?_
    refine J_iload_n hX dL_law_872 rfl ?_
    refine J_iconst hX dL_law_873 k_i1 ?_
    refine J_iadd hX dL_law_874 ?_
    refine J_sld hX hS dL_law_875 (fun _ => ?_)
    refine J_cVP hX hEX 0 (C_X10_who hG hEX (xs (v3_j870 + 1).toNatClampNeg) σ_j870) mw_X10_who ml_L_111 rfl rfl rfl ⟨Nat.le_of_ble_eq_true rfl, Nat.le_of_ble_eq_true rfl⟩ rfl rfl (Nat.le_of_ble_eq_true rfl) dL_law_876 (fun q164 => ?_)
    refine J_aload_n hX dL_law_879 rfl ?_
    refine J_aload_n hX dL_law_880 rfl ?_
    refine J_iload_n hX dL_law_881 rfl ?_
    refine J_iconst hX dL_law_882 k_i1 ?_
    refine J_iadd hX dL_law_883 ?_
    refine J_sld hX hS dL_law_884 (fun _ => ?_)
    refine J_cVP hX hEM 0 (C_X11_who hG hEM (xs (v3_j870 + 1).toNatClampNeg) σ_j870) mw_X11_who ml_L_114 rfl rfl rfl ⟨Nat.le_of_ble_eq_true rfl, Nat.le_of_ble_eq_true rfl⟩ rfl rfl (Nat.le_of_ble_eq_true rfl) dL_law_885 (fun q165 => ?_)
    refine J_icmp_eq hX dL_law_888 (tgt := 1176) rfl (fun _ => ?_) (fun _ => ?_)
    · refine J_iinc hX dL_law_1176 rfl (congrArg (_ + ·) k_i6) (Nat.le_of_ble_eq_true rfl) (lv' := [(0, .ref b), (1, .ref (jad G (nmX 0))), (2, .ref (jad G (nmM 0))), (3, .int (v3_j870 + 6))]) rfl ?_
      refine J_goto hX dL_law_1179 (tgt := 18) rfl ?_
      exact J_keep [0, 1, 2, 3] rfl (hN18 (v3_j870 + 6, σ_j870))
    · refine J_iconst hX dL_law_891 k_i0 ?_
      refine hQ18 _ _ _ _ _ ?_
      exact J_lawret hX hS dL_law_892
  have hJ817 : ∀ (v3_j817 : Int32) (σ_j817 : jS), J X 817 [(0, .ref b), (1, .ref (jad G (nmX 0))), (2, .ref (jad G (nmM 0))), (3, .int v3_j817)] [] σ_j817 (f_L_law_J817 L xs v3_j817 σ_j817) KK18 := by
    intro v3_j817 σ_j817
    unfold f_L_law_J817
    refine J_aload_n hX dL_law_817 rfl ?_
    refine J_aload_n hX dL_law_818 rfl ?_
    refine J_iload_n hX dL_law_819 rfl ?_
    refine J_iconst hX dL_law_820 k_i1 ?_
    refine J_iadd hX dL_law_821 ?_
    refine J_sld hX hS dL_law_822 (fun _ => ?_)
    refine J_aload_n hX dL_law_823 rfl ?_
    refine J_iload_n hX dL_law_824 rfl ?_
    refine J_iconst hX dL_law_825 k_i2 ?_
    refine J_iadd hX dL_law_826 ?_
    refine J_sld hX hS dL_law_827 (fun _ => ?_)
    refine J_aload_n hX dL_law_828 rfl ?_
    refine J_iload_n hX dL_law_829 rfl ?_
    refine J_iconst hX dL_law_830 k_i3 ?_
    refine J_iadd hX dL_law_831 ?_
    refine J_sld hX hS dL_law_832 (fun _ => ?_)
    refine J_aload_n hX dL_law_833 rfl ?_
    refine J_iload_n hX dL_law_834 rfl ?_
    refine J_iconst hX dL_law_835 k_i4 ?_
    refine J_iadd hX dL_law_836 ?_
    refine J_sld hX hS dL_law_837 (fun _ => ?_)
    refine J_cVI hX hEX 0 (C_X10_fewest hG hEX (xs (v3_j817 + 1).toNatClampNeg) (xs (v3_j817 + 2).toNatClampNeg) (xs (v3_j817 + 3).toNatClampNeg) (xs (v3_j817 + 4).toNatClampNeg) σ_j817) mw_X10_fewest ml_L_106 rfl rfl rfl ⟨Nat.le_of_ble_eq_true rfl, Nat.le_of_ble_eq_true rfl⟩ rfl rfl (Nat.le_of_ble_eq_true rfl) dL_law_838 (fun q166 s167 => ?_)
    refine J_aload_n hX dL_law_841 rfl ?_
    refine J_aload_n hX dL_law_842 rfl ?_
    refine J_iload_n hX dL_law_843 rfl ?_
    refine J_iconst hX dL_law_844 k_i1 ?_
    refine J_iadd hX dL_law_845 ?_
    refine J_sld hX hS dL_law_846 (fun _ => ?_)
    refine J_aload_n hX dL_law_847 rfl ?_
    refine J_iload_n hX dL_law_848 rfl ?_
    refine J_iconst hX dL_law_849 k_i2 ?_
    refine J_iadd hX dL_law_850 ?_
    refine J_sld hX hS dL_law_851 (fun _ => ?_)
    refine J_aload_n hX dL_law_852 rfl ?_
    refine J_iload_n hX dL_law_853 rfl ?_
    refine J_iconst hX dL_law_854 k_i3 ?_
    refine J_iadd hX dL_law_855 ?_
    refine J_sld hX hS dL_law_856 (fun _ => ?_)
    refine J_aload_n hX dL_law_857 rfl ?_
    refine J_iload_n hX dL_law_858 rfl ?_
    refine J_iconst hX dL_law_859 k_i4 ?_
    refine J_iadd hX dL_law_860 ?_
    refine J_sld hX hS dL_law_861 (fun _ => ?_)
    refine J_cVI hX hEM 0 (C_X11_fewest hG hEM (xs (v3_j817 + 1).toNatClampNeg) (xs (v3_j817 + 2).toNatClampNeg) (xs (v3_j817 + 3).toNatClampNeg) (xs (v3_j817 + 4).toNatClampNeg) s167) mw_X11_fewest ml_L_110 rfl rfl rfl ⟨Nat.le_of_ble_eq_true rfl, Nat.le_of_ble_eq_true rfl⟩ rfl rfl (Nat.le_of_ble_eq_true rfl) dL_law_862 (fun q168 s169 => ?_)
    refine J_icmp_eq hX dL_law_865 (tgt := 1176) rfl (fun _ => ?_) (fun _ => ?_)
    · refine J_iinc hX dL_law_1176 rfl (congrArg (_ + ·) k_i6) (Nat.le_of_ble_eq_true rfl) (lv' := [(0, .ref b), (1, .ref (jad G (nmX 0))), (2, .ref (jad G (nmM 0))), (3, .int (v3_j817 + 6))]) rfl ?_
      refine J_goto hX dL_law_1179 (tgt := 18) rfl ?_
      exact J_keep [0, 1, 2, 3] rfl (hN18 (v3_j817 + 6, s169))
    · refine J_iconst hX dL_law_868 k_i0 ?_
      refine hQ18 _ _ _ _ _ ?_
      exact J_lawret hX hS dL_law_869
  have hJ734 : ∀ (v3_j734 : Int32) (σ_j734 : jS), J X 734 [(0, .ref b), (1, .ref (jad G (nmX 0))), (2, .ref (jad G (nmM 0))), (3, .int v3_j734)] [] σ_j734 (f_L_law_J734 L xs v3_j734 σ_j734) KK18 := by
    intro v3_j734 σ_j734
    unfold f_L_law_J734
    refine J_aload_n hX dL_law_734 rfl ?_
    refine J_aload_n hX dL_law_735 rfl ?_
    refine J_iload_n hX dL_law_736 rfl ?_
    refine J_iconst hX dL_law_737 k_i1 ?_
    refine J_iadd hX dL_law_738 ?_
    refine J_sld hX hS dL_law_739 (fun _ => ?_)
    refine J_i2l hX dL_law_740 ?_
    refine J_bipush hX dL_law_741 kb_32 ?_
    refine J_lshl hX dL_law_743 ?_
    refine J_aload_n hX dL_law_744 rfl ?_
    refine J_iload_n hX dL_law_745 rfl ?_
    refine J_iconst hX dL_law_746 k_i2 ?_
    refine J_iadd hX dL_law_747 ?_
    refine J_sld hX hS dL_law_748 (fun _ => ?_)
    refine J_i2l hX dL_law_749 ?_
    refine J_ldc2 hX wl_L_13 dL_law_750 ?_
    refine J_land hX dL_law_753 ?_
    refine J_lor hX dL_law_754 ?_
    refine J_aload_n hX dL_law_755 rfl ?_
    refine J_iload_n hX dL_law_756 rfl ?_
    refine J_iconst hX dL_law_757 k_i3 ?_
    refine J_iadd hX dL_law_758 ?_
    refine J_sld hX hS dL_law_759 (fun _ => ?_)
    refine J_aload_n hX dL_law_760 rfl ?_
    refine J_iload_n hX dL_law_761 rfl ?_
    refine J_iconst hX dL_law_762 k_i4 ?_
    refine J_iadd hX dL_law_763 ?_
    refine J_sld hX hS dL_law_764 (fun _ => ?_)
    refine J_aload_n hX dL_law_765 rfl ?_
    refine J_iload_n hX dL_law_766 rfl ?_
    refine J_iconst hX dL_law_767 k_i5 ?_
    refine J_iadd hX dL_law_768 ?_
    refine J_sld hX hS dL_law_769 (fun _ => ?_)
    refine J_cVI hX hEX 0 (C_X10_apart hG hEX ((((xs (v3_j734 + 1).toNatClampNeg).toInt64) <<< ((32 : Int32).toInt64 &&& 63)) ||| (((xs (v3_j734 + 2).toNatClampNeg).toInt64) &&& 4294967295)) (xs (v3_j734 + 3).toNatClampNeg) (xs (v3_j734 + 4).toNatClampNeg) (xs (v3_j734 + 5).toNatClampNeg) σ_j734) mw_X10_apart ml_L_101 rfl rfl rfl ⟨Nat.le_of_ble_eq_true rfl, Nat.le_of_ble_eq_true rfl⟩ rfl rfl (Nat.le_of_ble_eq_true rfl) dL_law_770 (fun q170 s171 => ?_)
    refine J_aload_n hX dL_law_773 rfl ?_
    refine J_aload_n hX dL_law_774 rfl ?_
    refine J_iload_n hX dL_law_775 rfl ?_
    refine J_iconst hX dL_law_776 k_i1 ?_
    refine J_iadd hX dL_law_777 ?_
    refine J_sld hX hS dL_law_778 (fun _ => ?_)
    refine J_i2l hX dL_law_779 ?_
    refine J_bipush hX dL_law_780 kb_32 ?_
    refine J_lshl hX dL_law_782 ?_
    refine J_aload_n hX dL_law_783 rfl ?_
    refine J_iload_n hX dL_law_784 rfl ?_
    refine J_iconst hX dL_law_785 k_i2 ?_
    refine J_iadd hX dL_law_786 ?_
    refine J_sld hX hS dL_law_787 (fun _ => ?_)
    refine J_i2l hX dL_law_788 ?_
    refine J_ldc2 hX wl_L_13 dL_law_789 ?_
    refine J_land hX dL_law_792 ?_
    refine J_lor hX dL_law_793 ?_
    refine J_aload_n hX dL_law_794 rfl ?_
    refine J_iload_n hX dL_law_795 rfl ?_
    refine J_iconst hX dL_law_796 k_i3 ?_
    refine J_iadd hX dL_law_797 ?_
    refine J_sld hX hS dL_law_798 (fun _ => ?_)
    refine J_aload_n hX dL_law_799 rfl ?_
    refine J_iload_n hX dL_law_800 rfl ?_
    refine J_iconst hX dL_law_801 k_i4 ?_
    refine J_iadd hX dL_law_802 ?_
    refine J_sld hX hS dL_law_803 (fun _ => ?_)
    refine J_aload_n hX dL_law_804 rfl ?_
    refine J_iload_n hX dL_law_805 rfl ?_
    refine J_iconst hX dL_law_806 k_i5 ?_
    refine J_iadd hX dL_law_807 ?_
    refine J_sld hX hS dL_law_808 (fun _ => ?_)
    refine J_cVI hX hEM 0 (C_X11_apart hG hEM ((((xs (v3_j734 + 1).toNatClampNeg).toInt64) <<< ((32 : Int32).toInt64 &&& 63)) ||| (((xs (v3_j734 + 2).toNatClampNeg).toInt64) &&& 4294967295)) (xs (v3_j734 + 3).toNatClampNeg) (xs (v3_j734 + 4).toNatClampNeg) (xs (v3_j734 + 5).toNatClampNeg) s171) mw_X11_apart ml_L_105 rfl rfl rfl ⟨Nat.le_of_ble_eq_true rfl, Nat.le_of_ble_eq_true rfl⟩ rfl rfl (Nat.le_of_ble_eq_true rfl) dL_law_809 (fun q172 s173 => ?_)
    refine J_icmp_eq hX dL_law_812 (tgt := 1176) rfl (fun _ => ?_) (fun _ => ?_)
    · refine J_iinc hX dL_law_1176 rfl (congrArg (_ + ·) k_i6) (Nat.le_of_ble_eq_true rfl) (lv' := [(0, .ref b), (1, .ref (jad G (nmX 0))), (2, .ref (jad G (nmM 0))), (3, .int (v3_j734 + 6))]) rfl ?_
      refine J_goto hX dL_law_1179 (tgt := 18) rfl ?_
      exact J_keep [0, 1, 2, 3] rfl (hN18 (v3_j734 + 6, s173))
    · refine J_iconst hX dL_law_815 k_i0 ?_
      refine hQ18 _ _ _ _ _ ?_
      exact J_lawret hX hS dL_law_816
  have hJ651 : ∀ (v3_j651 : Int32) (σ_j651 : jS), J X 651 [(0, .ref b), (1, .ref (jad G (nmX 0))), (2, .ref (jad G (nmM 0))), (3, .int v3_j651)] [] σ_j651 (f_L_law_J651 L xs v3_j651 σ_j651) KK18 := by
    intro v3_j651 σ_j651
    unfold f_L_law_J651
    refine J_aload_n hX dL_law_651 rfl ?_
    refine J_aload_n hX dL_law_652 rfl ?_
    refine J_iload_n hX dL_law_653 rfl ?_
    refine J_iconst hX dL_law_654 k_i1 ?_
    refine J_iadd hX dL_law_655 ?_
    refine J_sld hX hS dL_law_656 (fun _ => ?_)
    refine J_aload_n hX dL_law_657 rfl ?_
    refine J_iload_n hX dL_law_658 rfl ?_
    refine J_iconst hX dL_law_659 k_i2 ?_
    refine J_iadd hX dL_law_660 ?_
    refine J_sld hX hS dL_law_661 (fun _ => ?_)
    refine J_aload_n hX dL_law_662 rfl ?_
    refine J_iload_n hX dL_law_663 rfl ?_
    refine J_iconst hX dL_law_664 k_i3 ?_
    refine J_iadd hX dL_law_665 ?_
    refine J_sld hX hS dL_law_666 (fun _ => ?_)
    refine J_i2l hX dL_law_667 ?_
    refine J_bipush hX dL_law_668 kb_32 ?_
    refine J_lshl hX dL_law_670 ?_
    refine J_aload_n hX dL_law_671 rfl ?_
    refine J_iload_n hX dL_law_672 rfl ?_
    refine J_iconst hX dL_law_673 k_i4 ?_
    refine J_iadd hX dL_law_674 ?_
    refine J_sld hX hS dL_law_675 (fun _ => ?_)
    refine J_i2l hX dL_law_676 ?_
    refine J_ldc2 hX wl_L_13 dL_law_677 ?_
    refine J_land hX dL_law_680 ?_
    refine J_lor hX dL_law_681 ?_
    refine J_aload_n hX dL_law_682 rfl ?_
    refine J_iload_n hX dL_law_683 rfl ?_
    refine J_iconst hX dL_law_684 k_i5 ?_
    refine J_iadd hX dL_law_685 ?_
    refine J_sld hX hS dL_law_686 (fun _ => ?_)
    refine J_cVI hX hEX 0 (C_X10_lured hG hEX (xs (v3_j651 + 1).toNatClampNeg) (xs (v3_j651 + 2).toNatClampNeg) ((((xs (v3_j651 + 3).toNatClampNeg).toInt64) <<< ((32 : Int32).toInt64 &&& 63)) ||| (((xs (v3_j651 + 4).toNatClampNeg).toInt64) &&& 4294967295)) (xs (v3_j651 + 5).toNatClampNeg) σ_j651) mw_X10_lured ml_L_96 rfl rfl rfl ⟨Nat.le_of_ble_eq_true rfl, Nat.le_of_ble_eq_true rfl⟩ rfl rfl (Nat.le_of_ble_eq_true rfl) dL_law_687 (fun q174 s175 => ?_)
    refine J_aload_n hX dL_law_690 rfl ?_
    refine J_aload_n hX dL_law_691 rfl ?_
    refine J_iload_n hX dL_law_692 rfl ?_
    refine J_iconst hX dL_law_693 k_i1 ?_
    refine J_iadd hX dL_law_694 ?_
    refine J_sld hX hS dL_law_695 (fun _ => ?_)
    refine J_aload_n hX dL_law_696 rfl ?_
    refine J_iload_n hX dL_law_697 rfl ?_
    refine J_iconst hX dL_law_698 k_i2 ?_
    refine J_iadd hX dL_law_699 ?_
    refine J_sld hX hS dL_law_700 (fun _ => ?_)
    refine J_aload_n hX dL_law_701 rfl ?_
    refine J_iload_n hX dL_law_702 rfl ?_
    refine J_iconst hX dL_law_703 k_i3 ?_
    refine J_iadd hX dL_law_704 ?_
    refine J_sld hX hS dL_law_705 (fun _ => ?_)
    refine J_i2l hX dL_law_706 ?_
    refine J_bipush hX dL_law_707 kb_32 ?_
    refine J_lshl hX dL_law_709 ?_
    refine J_aload_n hX dL_law_710 rfl ?_
    refine J_iload_n hX dL_law_711 rfl ?_
    refine J_iconst hX dL_law_712 k_i4 ?_
    refine J_iadd hX dL_law_713 ?_
    refine J_sld hX hS dL_law_714 (fun _ => ?_)
    refine J_i2l hX dL_law_715 ?_
    refine J_ldc2 hX wl_L_13 dL_law_716 ?_
    refine J_land hX dL_law_719 ?_
    refine J_lor hX dL_law_720 ?_
    refine J_aload_n hX dL_law_721 rfl ?_
    refine J_iload_n hX dL_law_722 rfl ?_
    refine J_iconst hX dL_law_723 k_i5 ?_
    refine J_iadd hX dL_law_724 ?_
    refine J_sld hX hS dL_law_725 (fun _ => ?_)
    refine J_cVI hX hEM 0 (C_X11_lured hG hEM (xs (v3_j651 + 1).toNatClampNeg) (xs (v3_j651 + 2).toNatClampNeg) ((((xs (v3_j651 + 3).toNatClampNeg).toInt64) <<< ((32 : Int32).toInt64 &&& 63)) ||| (((xs (v3_j651 + 4).toNatClampNeg).toInt64) &&& 4294967295)) (xs (v3_j651 + 5).toNatClampNeg) s175) mw_X11_lured ml_L_100 rfl rfl rfl ⟨Nat.le_of_ble_eq_true rfl, Nat.le_of_ble_eq_true rfl⟩ rfl rfl (Nat.le_of_ble_eq_true rfl) dL_law_726 (fun q176 s177 => ?_)
    refine J_icmp_eq hX dL_law_729 (tgt := 1176) rfl (fun _ => ?_) (fun _ => ?_)
    · refine J_iinc hX dL_law_1176 rfl (congrArg (_ + ·) k_i6) (Nat.le_of_ble_eq_true rfl) (lv' := [(0, .ref b), (1, .ref (jad G (nmX 0))), (2, .ref (jad G (nmM 0))), (3, .int (v3_j651 + 6))]) rfl ?_
      refine J_goto hX dL_law_1179 (tgt := 18) rfl ?_
      exact J_keep [0, 1, 2, 3] rfl (hN18 (v3_j651 + 6, s177))
    · refine J_iconst hX dL_law_732 k_i0 ?_
      refine hQ18 _ _ _ _ _ ?_
      exact J_lawret hX hS dL_law_733
  have hJ638 : ∀ (v3_j638 : Int32) (σ_j638 : jS), J X 638 [(0, .ref b), (1, .ref (jad G (nmX 0))), (2, .ref (jad G (nmM 0))), (3, .int v3_j638)] [] σ_j638 (f_L_law_J638 L xs v3_j638 σ_j638) KK18 := by
    intro v3_j638 σ_j638
    unfold f_L_law_J638
    refine J_aload_n hX dL_law_638 rfl ?_
    refine J_cVP hX hEX 0 (C_X10_shows hG hEX σ_j638) mw_X10_shows ml_L_92 rfl rfl rfl ⟨Nat.le_of_ble_eq_true rfl, Nat.le_of_ble_eq_true rfl⟩ rfl rfl (Nat.le_of_ble_eq_true rfl) dL_law_639 (fun q178 => ?_)
    refine J_aload_n hX dL_law_642 rfl ?_
    refine J_cVP hX hEM 0 (C_X11_shows hG hEM σ_j638) mw_X11_shows ml_L_95 rfl rfl rfl ⟨Nat.le_of_ble_eq_true rfl, Nat.le_of_ble_eq_true rfl⟩ rfl rfl (Nat.le_of_ble_eq_true rfl) dL_law_643 (fun q179 => ?_)
    refine J_icmp_eq hX dL_law_646 (tgt := 1176) rfl (fun _ => ?_) (fun _ => ?_)
    · refine J_iinc hX dL_law_1176 rfl (congrArg (_ + ·) k_i6) (Nat.le_of_ble_eq_true rfl) (lv' := [(0, .ref b), (1, .ref (jad G (nmX 0))), (2, .ref (jad G (nmM 0))), (3, .int (v3_j638 + 6))]) rfl ?_
      refine J_goto hX dL_law_1179 (tgt := 18) rfl ?_
      exact J_keep [0, 1, 2, 3] rfl (hN18 (v3_j638 + 6, σ_j638))
    · refine J_iconst hX dL_law_649 k_i0 ?_
      refine hQ18 _ _ _ _ _ ?_
      exact J_lawret hX hS dL_law_650
  have hJ625 : ∀ (v3_j625 : Int32) (σ_j625 : jS), J X 625 [(0, .ref b), (1, .ref (jad G (nmX 0))), (2, .ref (jad G (nmM 0))), (3, .int v3_j625)] [] σ_j625 (f_L_law_J625 L xs v3_j625 σ_j625) KK18 := by
    intro v3_j625 σ_j625
    unfold f_L_law_J625
    refine J_aload_n hX dL_law_625 rfl ?_
    refine J_cVI hX hEX 0 (C_X10_forget hG hEX σ_j625) mw_X10_forget ml_L_88 rfl rfl rfl ⟨Nat.le_of_ble_eq_true rfl, Nat.le_of_ble_eq_true rfl⟩ rfl rfl (Nat.le_of_ble_eq_true rfl) dL_law_626 (fun q180 s181 => ?_)
    refine J_aload_n hX dL_law_629 rfl ?_
    refine J_cVI hX hEM 0 (C_X11_forget hG hEM s181) mw_X11_forget ml_L_91 rfl rfl rfl ⟨Nat.le_of_ble_eq_true rfl, Nat.le_of_ble_eq_true rfl⟩ rfl rfl (Nat.le_of_ble_eq_true rfl) dL_law_630 (fun q182 s183 => ?_)
    refine J_icmp_eq hX dL_law_633 (tgt := 1176) rfl (fun _ => ?_) (fun _ => ?_)
    · refine J_iinc hX dL_law_1176 rfl (congrArg (_ + ·) k_i6) (Nat.le_of_ble_eq_true rfl) (lv' := [(0, .ref b), (1, .ref (jad G (nmX 0))), (2, .ref (jad G (nmM 0))), (3, .int (v3_j625 + 6))]) rfl ?_
      refine J_goto hX dL_law_1179 (tgt := 18) rfl ?_
      exact J_keep [0, 1, 2, 3] rfl (hN18 (v3_j625 + 6, s183))
    · refine J_iconst hX dL_law_636 k_i0 ?_
      refine hQ18 _ _ _ _ _ ?_
      exact J_lawret hX hS dL_law_637
  have hJ602 : ∀ (v3_j602 : Int32) (σ_j602 : jS), J X 602 [(0, .ref b), (1, .ref (jad G (nmX 0))), (2, .ref (jad G (nmM 0))), (3, .int v3_j602)] [] σ_j602 (f_L_law_J602 L xs v3_j602 σ_j602) KK18 := by
    intro v3_j602 σ_j602
    unfold f_L_law_J602
    refine J_aload_n hX dL_law_602 rfl ?_
    refine J_aload_n hX dL_law_603 rfl ?_
    refine J_iload_n hX dL_law_604 rfl ?_
    refine J_iconst hX dL_law_605 k_i1 ?_
    refine J_iadd hX dL_law_606 ?_
    refine J_sld hX hS dL_law_607 (fun _ => ?_)
    refine J_cVI hX hEX 0 (C_X10_signal hG hEX (xs (v3_j602 + 1).toNatClampNeg) σ_j602) mw_X10_signal ml_L_84 rfl rfl rfl ⟨Nat.le_of_ble_eq_true rfl, Nat.le_of_ble_eq_true rfl⟩ rfl rfl (Nat.le_of_ble_eq_true rfl) dL_law_608 (fun q184 s185 => ?_)
    refine J_aload_n hX dL_law_611 rfl ?_
    refine J_aload_n hX dL_law_612 rfl ?_
    refine J_iload_n hX dL_law_613 rfl ?_
    refine J_iconst hX dL_law_614 k_i1 ?_
    refine J_iadd hX dL_law_615 ?_
    refine J_sld hX hS dL_law_616 (fun _ => ?_)
    refine J_cVI hX hEM 0 (C_X11_signal hG hEM (xs (v3_j602 + 1).toNatClampNeg) s185) mw_X11_signal ml_L_87 rfl rfl rfl ⟨Nat.le_of_ble_eq_true rfl, Nat.le_of_ble_eq_true rfl⟩ rfl rfl (Nat.le_of_ble_eq_true rfl) dL_law_617 (fun q186 s187 => ?_)
    refine J_icmp_eq hX dL_law_620 (tgt := 1176) rfl (fun _ => ?_) (fun _ => ?_)
    · refine J_iinc hX dL_law_1176 rfl (congrArg (_ + ·) k_i6) (Nat.le_of_ble_eq_true rfl) (lv' := [(0, .ref b), (1, .ref (jad G (nmX 0))), (2, .ref (jad G (nmM 0))), (3, .int (v3_j602 + 6))]) rfl ?_
      refine J_goto hX dL_law_1179 (tgt := 18) rfl ?_
      exact J_keep [0, 1, 2, 3] rfl (hN18 (v3_j602 + 6, s187))
    · refine J_iconst hX dL_law_623 k_i0 ?_
      refine hQ18 _ _ _ _ _ ?_
      exact J_lawret hX hS dL_law_624
  have hJ579 : ∀ (v3_j579 : Int32) (σ_j579 : jS), J X 579 [(0, .ref b), (1, .ref (jad G (nmX 0))), (2, .ref (jad G (nmM 0))), (3, .int v3_j579)] [] σ_j579 (f_L_law_J579 L xs v3_j579 σ_j579) KK18 := by
    intro v3_j579 σ_j579
    unfold f_L_law_J579
    refine J_aload_n hX dL_law_579 rfl ?_
    refine J_aload_n hX dL_law_580 rfl ?_
    refine J_iload_n hX dL_law_581 rfl ?_
    refine J_iconst hX dL_law_582 k_i1 ?_
    refine J_iadd hX dL_law_583 ?_
    refine J_sld hX hS dL_law_584 (fun _ => ?_)
    refine J_cVI hX hEX 0 (C_X10_round hG hEX (xs (v3_j579 + 1).toNatClampNeg) σ_j579) mw_X10_round ml_L_80 rfl rfl rfl ⟨Nat.le_of_ble_eq_true rfl, Nat.le_of_ble_eq_true rfl⟩ rfl rfl (Nat.le_of_ble_eq_true rfl) dL_law_585 (fun q188 s189 => ?_)
    refine J_aload_n hX dL_law_588 rfl ?_
    refine J_aload_n hX dL_law_589 rfl ?_
    refine J_iload_n hX dL_law_590 rfl ?_
    refine J_iconst hX dL_law_591 k_i1 ?_
    refine J_iadd hX dL_law_592 ?_
    refine J_sld hX hS dL_law_593 (fun _ => ?_)
    refine J_cVI hX hEM 0 (C_X11_round hG hEM (xs (v3_j579 + 1).toNatClampNeg) s189) mw_X11_round ml_L_83 rfl rfl rfl ⟨Nat.le_of_ble_eq_true rfl, Nat.le_of_ble_eq_true rfl⟩ rfl rfl (Nat.le_of_ble_eq_true rfl) dL_law_594 (fun q190 s191 => ?_)
    refine J_icmp_eq hX dL_law_597 (tgt := 1176) rfl (fun _ => ?_) (fun _ => ?_)
    · refine J_iinc hX dL_law_1176 rfl (congrArg (_ + ·) k_i6) (Nat.le_of_ble_eq_true rfl) (lv' := [(0, .ref b), (1, .ref (jad G (nmX 0))), (2, .ref (jad G (nmM 0))), (3, .int (v3_j579 + 6))]) rfl ?_
      refine J_goto hX dL_law_1179 (tgt := 18) rfl ?_
      exact J_keep [0, 1, 2, 3] rfl (hN18 (v3_j579 + 6, s191))
    · refine J_iconst hX dL_law_600 k_i0 ?_
      refine hQ18 _ _ _ _ _ ?_
      exact J_lawret hX hS dL_law_601
  have hJ556 : ∀ (v3_j556 : Int32) (σ_j556 : jS), J X 556 [(0, .ref b), (1, .ref (jad G (nmX 0))), (2, .ref (jad G (nmM 0))), (3, .int v3_j556)] [] σ_j556 (f_L_law_J556 L xs v3_j556 σ_j556) KK18 := by
    intro v3_j556 σ_j556
    unfold f_L_law_J556
    refine J_aload_n hX dL_law_556 rfl ?_
    refine J_aload_n hX dL_law_557 rfl ?_
    refine J_iload_n hX dL_law_558 rfl ?_
    refine J_iconst hX dL_law_559 k_i1 ?_
    refine J_iadd hX dL_law_560 ?_
    refine J_sld hX hS dL_law_561 (fun _ => ?_)
    refine J_cVI hX hEX 0 (C_X10_sweep hG hEX (xs (v3_j556 + 1).toNatClampNeg) σ_j556) mw_X10_sweep ml_L_76 rfl rfl rfl ⟨Nat.le_of_ble_eq_true rfl, Nat.le_of_ble_eq_true rfl⟩ rfl rfl (Nat.le_of_ble_eq_true rfl) dL_law_562 (fun q192 s193 => ?_)
    refine J_aload_n hX dL_law_565 rfl ?_
    refine J_aload_n hX dL_law_566 rfl ?_
    refine J_iload_n hX dL_law_567 rfl ?_
    refine J_iconst hX dL_law_568 k_i1 ?_
    refine J_iadd hX dL_law_569 ?_
    refine J_sld hX hS dL_law_570 (fun _ => ?_)
    refine J_cVI hX hEM 0 (C_X11_sweep hG hEM (xs (v3_j556 + 1).toNatClampNeg) s193) mw_X11_sweep ml_L_79 rfl rfl rfl ⟨Nat.le_of_ble_eq_true rfl, Nat.le_of_ble_eq_true rfl⟩ rfl rfl (Nat.le_of_ble_eq_true rfl) dL_law_571 (fun q194 s195 => ?_)
    refine J_icmp_eq hX dL_law_574 (tgt := 1176) rfl (fun _ => ?_) (fun _ => ?_)
    · refine J_iinc hX dL_law_1176 rfl (congrArg (_ + ·) k_i6) (Nat.le_of_ble_eq_true rfl) (lv' := [(0, .ref b), (1, .ref (jad G (nmX 0))), (2, .ref (jad G (nmM 0))), (3, .int (v3_j556 + 6))]) rfl ?_
      refine J_goto hX dL_law_1179 (tgt := 18) rfl ?_
      exact J_keep [0, 1, 2, 3] rfl (hN18 (v3_j556 + 6, s195))
    · refine J_iconst hX dL_law_577 k_i0 ?_
      refine hQ18 _ _ _ _ _ ?_
      exact J_lawret hX hS dL_law_578
  have hJ543 : ∀ (v3_j543 : Int32) (σ_j543 : jS), J X 543 [(0, .ref b), (1, .ref (jad G (nmX 0))), (2, .ref (jad G (nmM 0))), (3, .int v3_j543)] [] σ_j543 (f_L_law_J543 L xs v3_j543 σ_j543) KK18 := by
    intro v3_j543 σ_j543
    unfold f_L_law_J543
    refine J_aload_n hX dL_law_543 rfl ?_
    refine J_cVI hX hEX 0 (C_X10_dark hG hEX σ_j543) mw_X10_dark ml_L_72 rfl rfl rfl ⟨Nat.le_of_ble_eq_true rfl, Nat.le_of_ble_eq_true rfl⟩ rfl rfl (Nat.le_of_ble_eq_true rfl) dL_law_544 (fun q196 s197 => ?_)
    refine J_aload_n hX dL_law_547 rfl ?_
    refine J_cVI hX hEM 0 (C_X11_dark hG hEM s197) mw_X11_dark ml_L_75 rfl rfl rfl ⟨Nat.le_of_ble_eq_true rfl, Nat.le_of_ble_eq_true rfl⟩ rfl rfl (Nat.le_of_ble_eq_true rfl) dL_law_548 (fun q198 s199 => ?_)
    refine J_icmp_eq hX dL_law_551 (tgt := 1176) rfl (fun _ => ?_) (fun _ => ?_)
    · refine J_iinc hX dL_law_1176 rfl (congrArg (_ + ·) k_i6) (Nat.le_of_ble_eq_true rfl) (lv' := [(0, .ref b), (1, .ref (jad G (nmX 0))), (2, .ref (jad G (nmM 0))), (3, .int (v3_j543 + 6))]) rfl ?_
      refine J_goto hX dL_law_1179 (tgt := 18) rfl ?_
      exact J_keep [0, 1, 2, 3] rfl (hN18 (v3_j543 + 6, s199))
    · refine J_iconst hX dL_law_554 k_i0 ?_
      refine hQ18 _ _ _ _ _ ?_
      exact J_lawret hX hS dL_law_555
  have hJ520 : ∀ (v3_j520 : Int32) (σ_j520 : jS), J X 520 [(0, .ref b), (1, .ref (jad G (nmX 0))), (2, .ref (jad G (nmM 0))), (3, .int v3_j520)] [] σ_j520 (f_L_law_J520 L xs v3_j520 σ_j520) KK18 := by
    intro v3_j520 σ_j520
    unfold f_L_law_J520
    refine J_aload_n hX dL_law_520 rfl ?_
    refine J_aload_n hX dL_law_521 rfl ?_
    refine J_iload_n hX dL_law_522 rfl ?_
    refine J_iconst hX dL_law_523 k_i1 ?_
    refine J_iadd hX dL_law_524 ?_
    refine J_sld hX hS dL_law_525 (fun _ => ?_)
    refine J_cVP hX hEX 0 (C_X10_lit hG hEX (xs (v3_j520 + 1).toNatClampNeg) σ_j520) mw_X10_lit ml_L_68 rfl rfl rfl ⟨Nat.le_of_ble_eq_true rfl, Nat.le_of_ble_eq_true rfl⟩ rfl rfl (Nat.le_of_ble_eq_true rfl) dL_law_526 (fun q200 => ?_)
    refine J_aload_n hX dL_law_529 rfl ?_
    refine J_aload_n hX dL_law_530 rfl ?_
    refine J_iload_n hX dL_law_531 rfl ?_
    refine J_iconst hX dL_law_532 k_i1 ?_
    refine J_iadd hX dL_law_533 ?_
    refine J_sld hX hS dL_law_534 (fun _ => ?_)
    refine J_cVP hX hEM 0 (C_X11_lit hG hEM (xs (v3_j520 + 1).toNatClampNeg) σ_j520) mw_X11_lit ml_L_71 rfl rfl rfl ⟨Nat.le_of_ble_eq_true rfl, Nat.le_of_ble_eq_true rfl⟩ rfl rfl (Nat.le_of_ble_eq_true rfl) dL_law_535 (fun q201 => ?_)
    refine J_icmp_eq hX dL_law_538 (tgt := 1176) rfl (fun _ => ?_) (fun _ => ?_)
    · refine J_iinc hX dL_law_1176 rfl (congrArg (_ + ·) k_i6) (Nat.le_of_ble_eq_true rfl) (lv' := [(0, .ref b), (1, .ref (jad G (nmX 0))), (2, .ref (jad G (nmM 0))), (3, .int (v3_j520 + 6))]) rfl ?_
      refine J_goto hX dL_law_1179 (tgt := 18) rfl ?_
      exact J_keep [0, 1, 2, 3] rfl (hN18 (v3_j520 + 6, σ_j520))
    · refine J_iconst hX dL_law_541 k_i0 ?_
      refine hQ18 _ _ _ _ _ ?_
      exact J_lawret hX hS dL_law_542
  have hJ497 : ∀ (v3_j497 : Int32) (σ_j497 : jS), J X 497 [(0, .ref b), (1, .ref (jad G (nmX 0))), (2, .ref (jad G (nmM 0))), (3, .int v3_j497)] [] σ_j497 (f_L_law_J497 L xs v3_j497 σ_j497) KK18 := by
    intro v3_j497 σ_j497
    unfold f_L_law_J497
    refine J_aload_n hX dL_law_497 rfl ?_
    refine J_aload_n hX dL_law_498 rfl ?_
    refine J_iload_n hX dL_law_499 rfl ?_
    refine J_iconst hX dL_law_500 k_i1 ?_
    refine J_iadd hX dL_law_501 ?_
    refine J_sld hX hS dL_law_502 (fun _ => ?_)
    refine J_cVI hX hEX 0 (C_X10_run hG hEX (xs (v3_j497 + 1).toNatClampNeg) σ_j497) mw_X10_run ml_L_64 rfl rfl rfl ⟨Nat.le_of_ble_eq_true rfl, Nat.le_of_ble_eq_true rfl⟩ rfl rfl (Nat.le_of_ble_eq_true rfl) dL_law_503 (fun q202 s203 => ?_)
    refine J_aload_n hX dL_law_506 rfl ?_
    refine J_aload_n hX dL_law_507 rfl ?_
    refine J_iload_n hX dL_law_508 rfl ?_
    refine J_iconst hX dL_law_509 k_i1 ?_
    refine J_iadd hX dL_law_510 ?_
    refine J_sld hX hS dL_law_511 (fun _ => ?_)
    refine J_cVI hX hEM 0 (C_X11_run hG hEM (xs (v3_j497 + 1).toNatClampNeg) s203) mw_X11_run ml_L_67 rfl rfl rfl ⟨Nat.le_of_ble_eq_true rfl, Nat.le_of_ble_eq_true rfl⟩ rfl rfl (Nat.le_of_ble_eq_true rfl) dL_law_512 (fun q204 s205 => ?_)
    refine J_icmp_eq hX dL_law_515 (tgt := 1176) rfl (fun _ => ?_) (fun _ => ?_)
    · refine J_iinc hX dL_law_1176 rfl (congrArg (_ + ·) k_i6) (Nat.le_of_ble_eq_true rfl) (lv' := [(0, .ref b), (1, .ref (jad G (nmX 0))), (2, .ref (jad G (nmM 0))), (3, .int (v3_j497 + 6))]) rfl ?_
      refine J_goto hX dL_law_1179 (tgt := 18) rfl ?_
      exact J_keep [0, 1, 2, 3] rfl (hN18 (v3_j497 + 6, s205))
    · refine J_iconst hX dL_law_518 k_i0 ?_
      refine hQ18 _ _ _ _ _ ?_
      exact J_lawret hX hS dL_law_519
  have hJ464 : ∀ (v3_j464 : Int32) (σ_j464 : jS), J X 464 [(0, .ref b), (1, .ref (jad G (nmX 0))), (2, .ref (jad G (nmM 0))), (3, .int v3_j464)] [] σ_j464 (f_L_law_J464 L xs v3_j464 σ_j464) KK18 := by
    intro v3_j464 σ_j464
    unfold f_L_law_J464
    refine J_aload_n hX dL_law_464 rfl ?_
    refine J_aload_n hX dL_law_465 rfl ?_
    refine J_iload_n hX dL_law_466 rfl ?_
    refine J_iconst hX dL_law_467 k_i1 ?_
    refine J_iadd hX dL_law_468 ?_
    refine J_sld hX hS dL_law_469 (fun _ => ?_)
    refine J_aload_n hX dL_law_470 rfl ?_
    refine J_iload_n hX dL_law_471 rfl ?_
    refine J_iconst hX dL_law_472 k_i2 ?_
    refine J_iadd hX dL_law_473 ?_
    refine J_sld hX hS dL_law_474 (fun _ => ?_)
    refine J_cVI hX hEX 0 (C_X10_hum hG hEX (xs (v3_j464 + 1).toNatClampNeg) (xs (v3_j464 + 2).toNatClampNeg) σ_j464) mw_X10_hum ml_L_60 rfl rfl rfl ⟨Nat.le_of_ble_eq_true rfl, Nat.le_of_ble_eq_true rfl⟩ rfl rfl (Nat.le_of_ble_eq_true rfl) dL_law_475 (fun q206 s207 => ?_)
    refine J_aload_n hX dL_law_478 rfl ?_
    refine J_aload_n hX dL_law_479 rfl ?_
    refine J_iload_n hX dL_law_480 rfl ?_
    refine J_iconst hX dL_law_481 k_i1 ?_
    refine J_iadd hX dL_law_482 ?_
    refine J_sld hX hS dL_law_483 (fun _ => ?_)
    refine J_aload_n hX dL_law_484 rfl ?_
    refine J_iload_n hX dL_law_485 rfl ?_
    refine J_iconst hX dL_law_486 k_i2 ?_
    refine J_iadd hX dL_law_487 ?_
    refine J_sld hX hS dL_law_488 (fun _ => ?_)
    refine J_cVI hX hEM 0 (C_X11_hum hG hEM (xs (v3_j464 + 1).toNatClampNeg) (xs (v3_j464 + 2).toNatClampNeg) s207) mw_X11_hum ml_L_63 rfl rfl rfl ⟨Nat.le_of_ble_eq_true rfl, Nat.le_of_ble_eq_true rfl⟩ rfl rfl (Nat.le_of_ble_eq_true rfl) dL_law_489 (fun q208 s209 => ?_)
    refine J_icmp_eq hX dL_law_492 (tgt := 1176) rfl (fun _ => ?_) (fun _ => ?_)
    · refine J_iinc hX dL_law_1176 rfl (congrArg (_ + ·) k_i6) (Nat.le_of_ble_eq_true rfl) (lv' := [(0, .ref b), (1, .ref (jad G (nmX 0))), (2, .ref (jad G (nmM 0))), (3, .int (v3_j464 + 6))]) rfl ?_
      refine J_goto hX dL_law_1179 (tgt := 18) rfl ?_
      exact J_keep [0, 1, 2, 3] rfl (hN18 (v3_j464 + 6, s209))
    · refine J_iconst hX dL_law_495 k_i0 ?_
      refine hQ18 _ _ _ _ _ ?_
      exact J_lawret hX hS dL_law_496
  have hJ421 : ∀ (v3_j421 : Int32) (σ_j421 : jS), J X 421 [(0, .ref b), (1, .ref (jad G (nmX 0))), (2, .ref (jad G (nmM 0))), (3, .int v3_j421)] [] σ_j421 (f_L_law_J421 L xs v3_j421 σ_j421) KK18 := by
    intro v3_j421 σ_j421
    unfold f_L_law_J421
    refine J_aload_n hX dL_law_421 rfl ?_
    refine J_aload_n hX dL_law_422 rfl ?_
    refine J_iload_n hX dL_law_423 rfl ?_
    refine J_iconst hX dL_law_424 k_i1 ?_
    refine J_iadd hX dL_law_425 ?_
    refine J_sld hX hS dL_law_426 (fun _ => ?_)
    refine J_aload_n hX dL_law_427 rfl ?_
    refine J_iload_n hX dL_law_428 rfl ?_
    refine J_iconst hX dL_law_429 k_i2 ?_
    refine J_iadd hX dL_law_430 ?_
    refine J_sld hX hS dL_law_431 (fun _ => ?_)
    refine J_aload_n hX dL_law_432 rfl ?_
    refine J_iload_n hX dL_law_433 rfl ?_
    refine J_iconst hX dL_law_434 k_i3 ?_
    refine J_iadd hX dL_law_435 ?_
    refine J_sld hX hS dL_law_436 (fun _ => ?_)
    refine J_cVP hX hEX 0 (C_X10_wakes hG hEX (xs (v3_j421 + 1).toNatClampNeg) (xs (v3_j421 + 2).toNatClampNeg) (xs (v3_j421 + 3).toNatClampNeg) σ_j421) mw_X10_wakes ml_L_55 rfl rfl rfl ⟨Nat.le_of_ble_eq_true rfl, Nat.le_of_ble_eq_true rfl⟩ rfl rfl (Nat.le_of_ble_eq_true rfl) dL_law_437 (fun q210 => ?_)
    refine J_aload_n hX dL_law_440 rfl ?_
    refine J_aload_n hX dL_law_441 rfl ?_
    refine J_iload_n hX dL_law_442 rfl ?_
    refine J_iconst hX dL_law_443 k_i1 ?_
    refine J_iadd hX dL_law_444 ?_
    refine J_sld hX hS dL_law_445 (fun _ => ?_)
    refine J_aload_n hX dL_law_446 rfl ?_
    refine J_iload_n hX dL_law_447 rfl ?_
    refine J_iconst hX dL_law_448 k_i2 ?_
    refine J_iadd hX dL_law_449 ?_
    refine J_sld hX hS dL_law_450 (fun _ => ?_)
    refine J_aload_n hX dL_law_451 rfl ?_
    refine J_iload_n hX dL_law_452 rfl ?_
    refine J_iconst hX dL_law_453 k_i3 ?_
    refine J_iadd hX dL_law_454 ?_
    refine J_sld hX hS dL_law_455 (fun _ => ?_)
    refine J_cVP hX hEM 0 (C_X11_wakes hG hEM (xs (v3_j421 + 1).toNatClampNeg) (xs (v3_j421 + 2).toNatClampNeg) (xs (v3_j421 + 3).toNatClampNeg) σ_j421) mw_X11_wakes ml_L_59 rfl rfl rfl ⟨Nat.le_of_ble_eq_true rfl, Nat.le_of_ble_eq_true rfl⟩ rfl rfl (Nat.le_of_ble_eq_true rfl) dL_law_456 (fun q211 => ?_)
    refine J_icmp_eq hX dL_law_459 (tgt := 1176) rfl (fun _ => ?_) (fun _ => ?_)
    · refine J_iinc hX dL_law_1176 rfl (congrArg (_ + ·) k_i6) (Nat.le_of_ble_eq_true rfl) (lv' := [(0, .ref b), (1, .ref (jad G (nmX 0))), (2, .ref (jad G (nmM 0))), (3, .int (v3_j421 + 6))]) rfl ?_
      refine J_goto hX dL_law_1179 (tgt := 18) rfl ?_
      exact J_keep [0, 1, 2, 3] rfl (hN18 (v3_j421 + 6, σ_j421))
    · refine J_iconst hX dL_law_462 k_i0 ?_
      refine hQ18 _ _ _ _ _ ?_
      exact J_lawret hX hS dL_law_463
  have hJ388 : ∀ (v3_j388 : Int32) (σ_j388 : jS), J X 388 [(0, .ref b), (1, .ref (jad G (nmX 0))), (2, .ref (jad G (nmM 0))), (3, .int v3_j388)] [] σ_j388 (f_L_law_J388 L xs v3_j388 σ_j388) KK18 := by
    intro v3_j388 σ_j388
    unfold f_L_law_J388
    refine J_aload_n hX dL_law_388 rfl ?_
    refine J_aload_n hX dL_law_389 rfl ?_
    refine J_iload_n hX dL_law_390 rfl ?_
    refine J_iconst hX dL_law_391 k_i1 ?_
    refine J_iadd hX dL_law_392 ?_
    refine J_sld hX hS dL_law_393 (fun _ => ?_)
    refine J_aload_n hX dL_law_394 rfl ?_
    refine J_iload_n hX dL_law_395 rfl ?_
    refine J_iconst hX dL_law_396 k_i2 ?_
    refine J_iadd hX dL_law_397 ?_
    refine J_sld hX hS dL_law_398 (fun _ => ?_)
    refine J_cVI hX hEX 0 (C_X10_weather hG hEX (xs (v3_j388 + 1).toNatClampNeg) (xs (v3_j388 + 2).toNatClampNeg) σ_j388) mw_X10_weather ml_L_51 rfl rfl rfl ⟨Nat.le_of_ble_eq_true rfl, Nat.le_of_ble_eq_true rfl⟩ rfl rfl (Nat.le_of_ble_eq_true rfl) dL_law_399 (fun q212 s213 => ?_)
    refine J_aload_n hX dL_law_402 rfl ?_
    refine J_aload_n hX dL_law_403 rfl ?_
    refine J_iload_n hX dL_law_404 rfl ?_
    refine J_iconst hX dL_law_405 k_i1 ?_
    refine J_iadd hX dL_law_406 ?_
    refine J_sld hX hS dL_law_407 (fun _ => ?_)
    refine J_aload_n hX dL_law_408 rfl ?_
    refine J_iload_n hX dL_law_409 rfl ?_
    refine J_iconst hX dL_law_410 k_i2 ?_
    refine J_iadd hX dL_law_411 ?_
    refine J_sld hX hS dL_law_412 (fun _ => ?_)
    refine J_cVI hX hEM 0 (C_X11_weather hG hEM (xs (v3_j388 + 1).toNatClampNeg) (xs (v3_j388 + 2).toNatClampNeg) s213) mw_X11_weather ml_L_54 rfl rfl rfl ⟨Nat.le_of_ble_eq_true rfl, Nat.le_of_ble_eq_true rfl⟩ rfl rfl (Nat.le_of_ble_eq_true rfl) dL_law_413 (fun q214 s215 => ?_)
    refine J_icmp_eq hX dL_law_416 (tgt := 1176) rfl (fun _ => ?_) (fun _ => ?_)
    · refine J_iinc hX dL_law_1176 rfl (congrArg (_ + ·) k_i6) (Nat.le_of_ble_eq_true rfl) (lv' := [(0, .ref b), (1, .ref (jad G (nmX 0))), (2, .ref (jad G (nmM 0))), (3, .int (v3_j388 + 6))]) rfl ?_
      refine J_goto hX dL_law_1179 (tgt := 18) rfl ?_
      exact J_keep [0, 1, 2, 3] rfl (hN18 (v3_j388 + 6, s215))
    · refine J_iconst hX dL_law_419 k_i0 ?_
      refine hQ18 _ _ _ _ _ ?_
      exact J_lawret hX hS dL_law_420
  have hJ355 : ∀ (v3_j355 : Int32) (σ_j355 : jS), J X 355 [(0, .ref b), (1, .ref (jad G (nmX 0))), (2, .ref (jad G (nmM 0))), (3, .int v3_j355)] [] σ_j355 (f_L_law_J355 L xs v3_j355 σ_j355) KK18 := by
    intro v3_j355 σ_j355
    unfold f_L_law_J355
    refine J_aload_n hX dL_law_355 rfl ?_
    refine J_aload_n hX dL_law_356 rfl ?_
    refine J_iload_n hX dL_law_357 rfl ?_
    refine J_iconst hX dL_law_358 k_i1 ?_
    refine J_iadd hX dL_law_359 ?_
    refine J_sld hX hS dL_law_360 (fun _ => ?_)
    refine J_aload_n hX dL_law_361 rfl ?_
    refine J_iload_n hX dL_law_362 rfl ?_
    refine J_iconst hX dL_law_363 k_i2 ?_
    refine J_iadd hX dL_law_364 ?_
    refine J_sld hX hS dL_law_365 (fun _ => ?_)
    refine J_cVP hX hEX 0 (C_X10_singer hG hEX (xs (v3_j355 + 1).toNatClampNeg) (xs (v3_j355 + 2).toNatClampNeg) σ_j355) mw_X10_singer ml_L_47 rfl rfl rfl ⟨Nat.le_of_ble_eq_true rfl, Nat.le_of_ble_eq_true rfl⟩ rfl rfl (Nat.le_of_ble_eq_true rfl) dL_law_366 (fun q216 => ?_)
    refine J_aload_n hX dL_law_369 rfl ?_
    refine J_aload_n hX dL_law_370 rfl ?_
    refine J_iload_n hX dL_law_371 rfl ?_
    refine J_iconst hX dL_law_372 k_i1 ?_
    refine J_iadd hX dL_law_373 ?_
    refine J_sld hX hS dL_law_374 (fun _ => ?_)
    refine J_aload_n hX dL_law_375 rfl ?_
    refine J_iload_n hX dL_law_376 rfl ?_
    refine J_iconst hX dL_law_377 k_i2 ?_
    refine J_iadd hX dL_law_378 ?_
    refine J_sld hX hS dL_law_379 (fun _ => ?_)
    refine J_cVP hX hEM 0 (C_X11_singer hG hEM (xs (v3_j355 + 1).toNatClampNeg) (xs (v3_j355 + 2).toNatClampNeg) σ_j355) mw_X11_singer ml_L_50 rfl rfl rfl ⟨Nat.le_of_ble_eq_true rfl, Nat.le_of_ble_eq_true rfl⟩ rfl rfl (Nat.le_of_ble_eq_true rfl) dL_law_380 (fun q217 => ?_)
    refine J_icmp_eq hX dL_law_383 (tgt := 1176) rfl (fun _ => ?_) (fun _ => ?_)
    · refine J_iinc hX dL_law_1176 rfl (congrArg (_ + ·) k_i6) (Nat.le_of_ble_eq_true rfl) (lv' := [(0, .ref b), (1, .ref (jad G (nmX 0))), (2, .ref (jad G (nmM 0))), (3, .int (v3_j355 + 6))]) rfl ?_
      refine J_goto hX dL_law_1179 (tgt := 18) rfl ?_
      exact J_keep [0, 1, 2, 3] rfl (hN18 (v3_j355 + 6, σ_j355))
    · refine J_iconst hX dL_law_386 k_i0 ?_
      refine hQ18 _ _ _ _ _ ?_
      exact J_lawret hX hS dL_law_387
  have hJ322 : ∀ (v3_j322 : Int32) (σ_j322 : jS), J X 322 [(0, .ref b), (1, .ref (jad G (nmX 0))), (2, .ref (jad G (nmM 0))), (3, .int v3_j322)] [] σ_j322 (f_L_law_J322 L xs v3_j322 σ_j322) KK18 := by
    intro v3_j322 σ_j322
    unfold f_L_law_J322
    refine J_aload_n hX dL_law_322 rfl ?_
    refine J_aload_n hX dL_law_323 rfl ?_
    refine J_iload_n hX dL_law_324 rfl ?_
    refine J_iconst hX dL_law_325 k_i1 ?_
    refine J_iadd hX dL_law_326 ?_
    refine J_sld hX hS dL_law_327 (fun _ => ?_)
    refine J_aload_n hX dL_law_328 rfl ?_
    refine J_iload_n hX dL_law_329 rfl ?_
    refine J_iconst hX dL_law_330 k_i2 ?_
    refine J_iadd hX dL_law_331 ?_
    refine J_sld hX hS dL_law_332 (fun _ => ?_)
    refine J_cVP hX hEX 0 (C_X10_lamp hG hEX (xs (v3_j322 + 1).toNatClampNeg) (xs (v3_j322 + 2).toNatClampNeg) σ_j322) mw_X10_lamp ml_L_42 rfl rfl rfl ⟨Nat.le_of_ble_eq_true rfl, Nat.le_of_ble_eq_true rfl⟩ rfl rfl (Nat.le_of_ble_eq_true rfl) dL_law_333 (fun q218 => ?_)
    refine J_aload_n hX dL_law_336 rfl ?_
    refine J_aload_n hX dL_law_337 rfl ?_
    refine J_iload_n hX dL_law_338 rfl ?_
    refine J_iconst hX dL_law_339 k_i1 ?_
    refine J_iadd hX dL_law_340 ?_
    refine J_sld hX hS dL_law_341 (fun _ => ?_)
    refine J_aload_n hX dL_law_342 rfl ?_
    refine J_iload_n hX dL_law_343 rfl ?_
    refine J_iconst hX dL_law_344 k_i2 ?_
    refine J_iadd hX dL_law_345 ?_
    refine J_sld hX hS dL_law_346 (fun _ => ?_)
    refine J_cVP hX hEM 0 (C_X11_lamp hG hEM (xs (v3_j322 + 1).toNatClampNeg) (xs (v3_j322 + 2).toNatClampNeg) σ_j322) mw_X11_lamp ml_L_46 rfl rfl rfl ⟨Nat.le_of_ble_eq_true rfl, Nat.le_of_ble_eq_true rfl⟩ rfl rfl (Nat.le_of_ble_eq_true rfl) dL_law_347 (fun q219 => ?_)
    refine J_icmp_eq hX dL_law_350 (tgt := 1176) rfl (fun _ => ?_) (fun _ => ?_)
    · refine J_iinc hX dL_law_1176 rfl (congrArg (_ + ·) k_i6) (Nat.le_of_ble_eq_true rfl) (lv' := [(0, .ref b), (1, .ref (jad G (nmX 0))), (2, .ref (jad G (nmM 0))), (3, .int (v3_j322 + 6))]) rfl ?_
      refine J_goto hX dL_law_1179 (tgt := 18) rfl ?_
      exact J_keep [0, 1, 2, 3] rfl (hN18 (v3_j322 + 6, σ_j322))
    · refine J_iconst hX dL_law_353 k_i0 ?_
      refine hQ18 _ _ _ _ _ ?_
      exact J_lawret hX hS dL_law_354
  have hJ299 : ∀ (v3_j299 : Int32) (σ_j299 : jS), J X 299 [(0, .ref b), (1, .ref (jad G (nmX 0))), (2, .ref (jad G (nmM 0))), (3, .int v3_j299)] [] σ_j299 (f_L_law_J299 L xs v3_j299 σ_j299) KK18 := by
    intro v3_j299 σ_j299
    unfold f_L_law_J299
    refine J_aload_n hX dL_law_299 rfl ?_
    refine J_aload_n hX dL_law_300 rfl ?_
    refine J_iload_n hX dL_law_301 rfl ?_
    refine J_iconst hX dL_law_302 k_i1 ?_
    refine J_iadd hX dL_law_303 ?_
    refine J_sld hX hS dL_law_304 (fun _ => ?_)
    refine J_cVP hX hEX 0 (C_X10_told hG hEX (xs (v3_j299 + 1).toNatClampNeg) σ_j299) mw_X10_told ml_L_37 rfl rfl rfl ⟨Nat.le_of_ble_eq_true rfl, Nat.le_of_ble_eq_true rfl⟩ rfl rfl (Nat.le_of_ble_eq_true rfl) dL_law_305 (fun q220 => ?_)
    refine J_aload_n hX dL_law_308 rfl ?_
    refine J_aload_n hX dL_law_309 rfl ?_
    refine J_iload_n hX dL_law_310 rfl ?_
    refine J_iconst hX dL_law_311 k_i1 ?_
    refine J_iadd hX dL_law_312 ?_
    refine J_sld hX hS dL_law_313 (fun _ => ?_)
    refine J_cVP hX hEM 0 (C_X11_told hG hEM (xs (v3_j299 + 1).toNatClampNeg) σ_j299) mw_X11_told ml_L_41 rfl rfl rfl ⟨Nat.le_of_ble_eq_true rfl, Nat.le_of_ble_eq_true rfl⟩ rfl rfl (Nat.le_of_ble_eq_true rfl) dL_law_314 (fun q221 => ?_)
    refine J_icmp_eq hX dL_law_317 (tgt := 1176) rfl (fun _ => ?_) (fun _ => ?_)
    · refine J_iinc hX dL_law_1176 rfl (congrArg (_ + ·) k_i6) (Nat.le_of_ble_eq_true rfl) (lv' := [(0, .ref b), (1, .ref (jad G (nmX 0))), (2, .ref (jad G (nmM 0))), (3, .int (v3_j299 + 6))]) rfl ?_
      refine J_goto hX dL_law_1179 (tgt := 18) rfl ?_
      exact J_keep [0, 1, 2, 3] rfl (hN18 (v3_j299 + 6, σ_j299))
    · refine J_iconst hX dL_law_320 k_i0 ?_
      refine hQ18 _ _ _ _ _ ?_
      exact J_lawret hX hS dL_law_321
  have hJ286 : ∀ (v3_j286 : Int32) (σ_j286 : jS), J X 286 [(0, .ref b), (1, .ref (jad G (nmX 0))), (2, .ref (jad G (nmM 0))), (3, .int v3_j286)] [] σ_j286 (f_L_law_J286 L xs v3_j286 σ_j286) KK18 := by
    intro v3_j286 σ_j286
    unfold f_L_law_J286
    refine J_aload_n hX dL_law_286 rfl ?_
    refine J_cVP hX hEX 0 (C_X10_fault hG hEX σ_j286) mw_X10_fault ml_L_33 rfl rfl rfl ⟨Nat.le_of_ble_eq_true rfl, Nat.le_of_ble_eq_true rfl⟩ rfl rfl (Nat.le_of_ble_eq_true rfl) dL_law_287 (fun q222 => ?_)
    refine J_aload_n hX dL_law_290 rfl ?_
    refine J_cVP hX hEM 0 (C_X11_fault hG hEM σ_j286) mw_X11_fault ml_L_36 rfl rfl rfl ⟨Nat.le_of_ble_eq_true rfl, Nat.le_of_ble_eq_true rfl⟩ rfl rfl (Nat.le_of_ble_eq_true rfl) dL_law_291 (fun q223 => ?_)
    refine J_icmp_eq hX dL_law_294 (tgt := 1176) rfl (fun _ => ?_) (fun _ => ?_)
    · refine J_iinc hX dL_law_1176 rfl (congrArg (_ + ·) k_i6) (Nat.le_of_ble_eq_true rfl) (lv' := [(0, .ref b), (1, .ref (jad G (nmX 0))), (2, .ref (jad G (nmM 0))), (3, .int (v3_j286 + 6))]) rfl ?_
      refine J_goto hX dL_law_1179 (tgt := 18) rfl ?_
      exact J_keep [0, 1, 2, 3] rfl (hN18 (v3_j286 + 6, σ_j286))
    · refine J_iconst hX dL_law_297 k_i0 ?_
      refine hQ18 _ _ _ _ _ ?_
      exact J_lawret hX hS dL_law_298
  have hJ273 : ∀ (v3_j273 : Int32) (σ_j273 : jS), J X 273 [(0, .ref b), (1, .ref (jad G (nmX 0))), (2, .ref (jad G (nmM 0))), (3, .int v3_j273)] [] σ_j273 (f_L_law_J273 L xs v3_j273 σ_j273) KK18 := by
    intro v3_j273 σ_j273
    unfold f_L_law_J273
    refine J_aload_n hX dL_law_273 rfl ?_
    refine J_cVI hX hEX 0 (C_X10_month hG hEX σ_j273) mw_X10_month ml_L_29 rfl rfl rfl ⟨Nat.le_of_ble_eq_true rfl, Nat.le_of_ble_eq_true rfl⟩ rfl rfl (Nat.le_of_ble_eq_true rfl) dL_law_274 (fun q224 s225 => ?_)
    refine J_aload_n hX dL_law_277 rfl ?_
    refine J_cVI hX hEM 0 (C_X11_month hG hEM s225) mw_X11_month ml_L_32 rfl rfl rfl ⟨Nat.le_of_ble_eq_true rfl, Nat.le_of_ble_eq_true rfl⟩ rfl rfl (Nat.le_of_ble_eq_true rfl) dL_law_278 (fun q226 s227 => ?_)
    refine J_icmp_eq hX dL_law_281 (tgt := 1176) rfl (fun _ => ?_) (fun _ => ?_)
    · refine J_iinc hX dL_law_1176 rfl (congrArg (_ + ·) k_i6) (Nat.le_of_ble_eq_true rfl) (lv' := [(0, .ref b), (1, .ref (jad G (nmX 0))), (2, .ref (jad G (nmM 0))), (3, .int (v3_j273 + 6))]) rfl ?_
      refine J_goto hX dL_law_1179 (tgt := 18) rfl ?_
      exact J_keep [0, 1, 2, 3] rfl (hN18 (v3_j273 + 6, s227))
    · refine J_iconst hX dL_law_284 k_i0 ?_
      refine hQ18 _ _ _ _ _ ?_
      exact J_lawret hX hS dL_law_285
  have hJ260 : ∀ (v3_j260 : Int32) (σ_j260 : jS), J X 260 [(0, .ref b), (1, .ref (jad G (nmX 0))), (2, .ref (jad G (nmM 0))), (3, .int v3_j260)] [] σ_j260 (f_L_law_J260 L xs v3_j260 σ_j260) KK18 := by
    intro v3_j260 σ_j260
    unfold f_L_law_J260
    refine J_aload_n hX dL_law_260 rfl ?_
    refine J_cVI hX hEX 0 (C_X10_night hG hEX σ_j260) mw_X10_night ml_L_25 rfl rfl rfl ⟨Nat.le_of_ble_eq_true rfl, Nat.le_of_ble_eq_true rfl⟩ rfl rfl (Nat.le_of_ble_eq_true rfl) dL_law_261 (fun q228 s229 => ?_)
    refine J_aload_n hX dL_law_264 rfl ?_
    refine J_cVI hX hEM 0 (C_X11_night hG hEM s229) mw_X11_night ml_L_28 rfl rfl rfl ⟨Nat.le_of_ble_eq_true rfl, Nat.le_of_ble_eq_true rfl⟩ rfl rfl (Nat.le_of_ble_eq_true rfl) dL_law_265 (fun q230 s231 => ?_)
    refine J_icmp_eq hX dL_law_268 (tgt := 1176) rfl (fun _ => ?_) (fun _ => ?_)
    · refine J_iinc hX dL_law_1176 rfl (congrArg (_ + ·) k_i6) (Nat.le_of_ble_eq_true rfl) (lv' := [(0, .ref b), (1, .ref (jad G (nmX 0))), (2, .ref (jad G (nmM 0))), (3, .int (v3_j260 + 6))]) rfl ?_
      refine J_goto hX dL_law_1179 (tgt := 18) rfl ?_
      exact J_keep [0, 1, 2, 3] rfl (hN18 (v3_j260 + 6, s231))
    · refine J_iconst hX dL_law_271 k_i0 ?_
      refine hQ18 _ _ _ _ _ ?_
      exact J_lawret hX hS dL_law_272
  have hJ247 : ∀ (v3_j247 : Int32) (σ_j247 : jS), J X 247 [(0, .ref b), (1, .ref (jad G (nmX 0))), (2, .ref (jad G (nmM 0))), (3, .int v3_j247)] [] σ_j247 (f_L_law_J247 L xs v3_j247 σ_j247) KK18 := by
    intro v3_j247 σ_j247
    unfold f_L_law_J247
    refine J_aload_n hX dL_law_247 rfl ?_
    refine J_cVI hX hEX 0 (C_X10_quay hG hEX σ_j247) mw_X10_quay ml_L_20 rfl rfl rfl ⟨Nat.le_of_ble_eq_true rfl, Nat.le_of_ble_eq_true rfl⟩ rfl rfl (Nat.le_of_ble_eq_true rfl) dL_law_248 (fun q232 s233 => ?_)
    refine J_aload_n hX dL_law_251 rfl ?_
    refine J_cVI hX hEM 0 (C_X11_quay hG hEM s233) mw_X11_quay ml_L_24 rfl rfl rfl ⟨Nat.le_of_ble_eq_true rfl, Nat.le_of_ble_eq_true rfl⟩ rfl rfl (Nat.le_of_ble_eq_true rfl) dL_law_252 (fun q234 s235 => ?_)
    refine J_icmp_eq hX dL_law_255 (tgt := 1176) rfl (fun _ => ?_) (fun _ => ?_)
    · refine J_iinc hX dL_law_1176 rfl (congrArg (_ + ·) k_i6) (Nat.le_of_ble_eq_true rfl) (lv' := [(0, .ref b), (1, .ref (jad G (nmX 0))), (2, .ref (jad G (nmM 0))), (3, .int (v3_j247 + 6))]) rfl ?_
      refine J_goto hX dL_law_1179 (tgt := 18) rfl ?_
      exact J_keep [0, 1, 2, 3] rfl (hN18 (v3_j247 + 6, s235))
    · refine J_iconst hX dL_law_258 k_i0 ?_
      refine hQ18 _ _ _ _ _ ?_
      exact J_lawret hX hS dL_law_259
  have hJ184 : ∀ (v3_j184 : Int32) (σ_j184 : jS), J X 184 [(0, .ref b), (1, .ref (jad G (nmX 0))), (2, .ref (jad G (nmM 0))), (3, .int v3_j184)] [] σ_j184 (f_L_law_J184 L xs v3_j184 σ_j184) KK18 := by
    intro v3_j184 σ_j184
    unfold f_L_law_J184
    refine J_aload_n hX dL_law_184 rfl ?_
    refine J_aload_n hX dL_law_185 rfl ?_
    refine J_iload_n hX dL_law_186 rfl ?_
    refine J_iconst hX dL_law_187 k_i1 ?_
    refine J_iadd hX dL_law_188 ?_
    refine J_sld hX hS dL_law_189 (fun _ => ?_)
    refine J_aload_n hX dL_law_190 rfl ?_
    refine J_iload_n hX dL_law_191 rfl ?_
    refine J_iconst hX dL_law_192 k_i2 ?_
    refine J_iadd hX dL_law_193 ?_
    refine J_sld hX hS dL_law_194 (fun _ => ?_)
    refine J_i2l hX dL_law_195 ?_
    refine J_bipush hX dL_law_196 kb_32 ?_
    refine J_lshl hX dL_law_198 ?_
    refine J_aload_n hX dL_law_199 rfl ?_
    refine J_iload_n hX dL_law_200 rfl ?_
    refine J_iconst hX dL_law_201 k_i3 ?_
    refine J_iadd hX dL_law_202 ?_
    refine J_sld hX hS dL_law_203 (fun _ => ?_)
    refine J_i2l hX dL_law_204 ?_
    refine J_ldc2 hX wl_L_13 dL_law_205 ?_
    refine J_land hX dL_law_208 ?_
    refine J_lor hX dL_law_209 ?_
    refine J_cVI hX hEX 0 (C_X10_feed hG hEX (xs (v3_j184 + 1).toNatClampNeg) ((((xs (v3_j184 + 2).toNatClampNeg).toInt64) <<< ((32 : Int32).toInt64 &&& 63)) ||| (((xs (v3_j184 + 3).toNatClampNeg).toInt64) &&& 4294967295)) σ_j184) mw_X10_feed ml_L_15 rfl rfl rfl ⟨Nat.le_of_ble_eq_true rfl, Nat.le_of_ble_eq_true rfl⟩ rfl rfl (Nat.le_of_ble_eq_true rfl) dL_law_210 (fun q236 s237 => ?_)
    refine J_aload_n hX dL_law_213 rfl ?_
    refine J_aload_n hX dL_law_214 rfl ?_
    refine J_iload_n hX dL_law_215 rfl ?_
    refine J_iconst hX dL_law_216 k_i1 ?_
    refine J_iadd hX dL_law_217 ?_
    refine J_sld hX hS dL_law_218 (fun _ => ?_)
    refine J_aload_n hX dL_law_219 rfl ?_
    refine J_iload_n hX dL_law_220 rfl ?_
    refine J_iconst hX dL_law_221 k_i2 ?_
    refine J_iadd hX dL_law_222 ?_
    refine J_sld hX hS dL_law_223 (fun _ => ?_)
    refine J_i2l hX dL_law_224 ?_
    refine J_bipush hX dL_law_225 kb_32 ?_
    refine J_lshl hX dL_law_227 ?_
    refine J_aload_n hX dL_law_228 rfl ?_
    refine J_iload_n hX dL_law_229 rfl ?_
    refine J_iconst hX dL_law_230 k_i3 ?_
    refine J_iadd hX dL_law_231 ?_
    refine J_sld hX hS dL_law_232 (fun _ => ?_)
    refine J_i2l hX dL_law_233 ?_
    refine J_ldc2 hX wl_L_13 dL_law_234 ?_
    refine J_land hX dL_law_237 ?_
    refine J_lor hX dL_law_238 ?_
    refine J_cVI hX hEM 0 (C_X11_feed hG hEM (xs (v3_j184 + 1).toNatClampNeg) ((((xs (v3_j184 + 2).toNatClampNeg).toInt64) <<< ((32 : Int32).toInt64 &&& 63)) ||| (((xs (v3_j184 + 3).toNatClampNeg).toInt64) &&& 4294967295)) s237) mw_X11_feed ml_L_19 rfl rfl rfl ⟨Nat.le_of_ble_eq_true rfl, Nat.le_of_ble_eq_true rfl⟩ rfl rfl (Nat.le_of_ble_eq_true rfl) dL_law_239 (fun q238 s239 => ?_)
    refine J_icmp_eq hX dL_law_242 (tgt := 1176) rfl (fun _ => ?_) (fun _ => ?_)
    · refine J_iinc hX dL_law_1176 rfl (congrArg (_ + ·) k_i6) (Nat.le_of_ble_eq_true rfl) (lv' := [(0, .ref b), (1, .ref (jad G (nmX 0))), (2, .ref (jad G (nmM 0))), (3, .int (v3_j184 + 6))]) rfl ?_
      refine J_goto hX dL_law_1179 (tgt := 18) rfl ?_
      exact J_keep [0, 1, 2, 3] rfl (hN18 (v3_j184 + 6, s239))
    · refine J_iconst hX dL_law_245 k_i0 ?_
      refine hQ18 _ _ _ _ _ ?_
      exact J_lawret hX hS dL_law_246
  unfold f_L_law_L18
  refine J_iload_n hX dL_law_18 rfl ?_
  refine J_aload_n hX dL_law_19 rfl ?_
  refine J_slen hX hS dL_law_20 ?_
  refine J_bipush hX dL_law_21 kb_6 ?_
  refine J_isub hX dL_law_23 ?_
  refine J_icmp_gt hX dL_law_24 (tgt := 1182) rfl (fun _ => ?_) (fun _ => ?_)
  · refine hQ18 _ _ _ _ _ ?_
    refine J_iconst hX dL_law_1182 k_i1 ?_
    exact J_lawret hX hS dL_law_1183
  · refine J_aload_n hX dL_law_27 rfl ?_
    refine J_iload_n hX dL_law_28 rfl ?_
    refine J_sld hX hS dL_law_29 (fun _ => ?_)
    refine J_bipush hX dL_law_30 kb_63 ?_
    refine J_iand hX dL_law_32 ?_
    refine J_case (fun _ => ?_) (fun h33_0 => ?_)
    · refine J_tin hX dL_law_33 (tgt := 184) (by decide) (by decide) (off := 151) rfl rfl ?_
      exact J_keep [0, 1, 2, 3] rfl (hJ184 v3_18 σ_18)
    · refine J_case (fun _ => ?_) (fun h33_1 => ?_)
      · refine J_tin hX dL_law_33 (tgt := 247) (by decide) (by decide) (off := 214) rfl rfl ?_
        exact J_keep [0, 1, 2, 3] rfl (hJ247 v3_18 σ_18)
      · refine J_case (fun _ => ?_) (fun h33_2 => ?_)
        · refine J_tin hX dL_law_33 (tgt := 260) (by decide) (by decide) (off := 227) rfl rfl ?_
          exact J_keep [0, 1, 2, 3] rfl (hJ260 v3_18 σ_18)
        · refine J_case (fun _ => ?_) (fun h33_3 => ?_)
          · refine J_tin hX dL_law_33 (tgt := 273) (by decide) (by decide) (off := 240) rfl rfl ?_
            exact J_keep [0, 1, 2, 3] rfl (hJ273 v3_18 σ_18)
          · refine J_case (fun _ => ?_) (fun h33_4 => ?_)
            · refine J_tin hX dL_law_33 (tgt := 286) (by decide) (by decide) (off := 253) rfl rfl ?_
              exact J_keep [0, 1, 2, 3] rfl (hJ286 v3_18 σ_18)
            · refine J_case (fun _ => ?_) (fun h33_5 => ?_)
              · refine J_tin hX dL_law_33 (tgt := 299) (by decide) (by decide) (off := 266) rfl rfl ?_
                exact J_keep [0, 1, 2, 3] rfl (hJ299 v3_18 σ_18)
              · refine J_case (fun _ => ?_) (fun h33_6 => ?_)
                · refine J_tin hX dL_law_33 (tgt := 322) (by decide) (by decide) (off := 289) rfl rfl ?_
                  exact J_keep [0, 1, 2, 3] rfl (hJ322 v3_18 σ_18)
                · refine J_case (fun _ => ?_) (fun h33_7 => ?_)
                  · refine J_tin hX dL_law_33 (tgt := 355) (by decide) (by decide) (off := 322) rfl rfl ?_
                    exact J_keep [0, 1, 2, 3] rfl (hJ355 v3_18 σ_18)
                  · refine J_case (fun _ => ?_) (fun h33_8 => ?_)
                    · refine J_tin hX dL_law_33 (tgt := 388) (by decide) (by decide) (off := 355) rfl rfl ?_
                      exact J_keep [0, 1, 2, 3] rfl (hJ388 v3_18 σ_18)
                    · refine J_case (fun _ => ?_) (fun h33_9 => ?_)
                      · refine J_tin hX dL_law_33 (tgt := 421) (by decide) (by decide) (off := 388) rfl rfl ?_
                        exact J_keep [0, 1, 2, 3] rfl (hJ421 v3_18 σ_18)
                      · refine J_case (fun _ => ?_) (fun h33_10 => ?_)
                        · refine J_tin hX dL_law_33 (tgt := 464) (by decide) (by decide) (off := 431) rfl rfl ?_
                          exact J_keep [0, 1, 2, 3] rfl (hJ464 v3_18 σ_18)
                        · refine J_case (fun _ => ?_) (fun h33_11 => ?_)
                          · refine J_tin hX dL_law_33 (tgt := 497) (by decide) (by decide) (off := 464) rfl rfl ?_
                            exact J_keep [0, 1, 2, 3] rfl (hJ497 v3_18 σ_18)
                          · refine J_case (fun _ => ?_) (fun h33_12 => ?_)
                            · refine J_tin hX dL_law_33 (tgt := 520) (by decide) (by decide) (off := 487) rfl rfl ?_
                              exact J_keep [0, 1, 2, 3] rfl (hJ520 v3_18 σ_18)
                            · refine J_case (fun _ => ?_) (fun h33_13 => ?_)
                              · refine J_tin hX dL_law_33 (tgt := 543) (by decide) (by decide) (off := 510) rfl rfl ?_
                                exact J_keep [0, 1, 2, 3] rfl (hJ543 v3_18 σ_18)
                              · refine J_case (fun _ => ?_) (fun h33_14 => ?_)
                                · refine J_tin hX dL_law_33 (tgt := 556) (by decide) (by decide) (off := 523) rfl rfl ?_
                                  exact J_keep [0, 1, 2, 3] rfl (hJ556 v3_18 σ_18)
                                · refine J_case (fun _ => ?_) (fun h33_15 => ?_)
                                  · refine J_tin hX dL_law_33 (tgt := 579) (by decide) (by decide) (off := 546) rfl rfl ?_
                                    exact J_keep [0, 1, 2, 3] rfl (hJ579 v3_18 σ_18)
                                  · refine J_case (fun _ => ?_) (fun h33_16 => ?_)
                                    · refine J_tin hX dL_law_33 (tgt := 602) (by decide) (by decide) (off := 569) rfl rfl ?_
                                      exact J_keep [0, 1, 2, 3] rfl (hJ602 v3_18 σ_18)
                                    · refine J_case (fun _ => ?_) (fun h33_17 => ?_)
                                      · refine J_tin hX dL_law_33 (tgt := 625) (by decide) (by decide) (off := 592) rfl rfl ?_
                                        exact J_keep [0, 1, 2, 3] rfl (hJ625 v3_18 σ_18)
                                      · refine J_case (fun _ => ?_) (fun h33_18 => ?_)
                                        · refine J_tin hX dL_law_33 (tgt := 638) (by decide) (by decide) (off := 605) rfl rfl ?_
                                          exact J_keep [0, 1, 2, 3] rfl (hJ638 v3_18 σ_18)
                                        · refine J_case (fun _ => ?_) (fun h33_19 => ?_)
                                          · refine J_tin hX dL_law_33 (tgt := 651) (by decide) (by decide) (off := 618) rfl rfl ?_
                                            exact J_keep [0, 1, 2, 3] rfl (hJ651 v3_18 σ_18)
                                          · refine J_case (fun _ => ?_) (fun h33_20 => ?_)
                                            · refine J_tin hX dL_law_33 (tgt := 734) (by decide) (by decide) (off := 701) rfl rfl ?_
                                              exact J_keep [0, 1, 2, 3] rfl (hJ734 v3_18 σ_18)
                                            · refine J_case (fun _ => ?_) (fun h33_21 => ?_)
                                              · refine J_tin hX dL_law_33 (tgt := 817) (by decide) (by decide) (off := 784) rfl rfl ?_
                                                exact J_keep [0, 1, 2, 3] rfl (hJ817 v3_18 σ_18)
                                              · refine J_case (fun _ => ?_) (fun h33_22 => ?_)
                                                · refine J_tin hX dL_law_33 (tgt := 870) (by decide) (by decide) (off := 837) rfl rfl ?_
                                                  exact J_keep [0, 1, 2, 3] rfl (hJ870 v3_18 σ_18)
                                                · refine J_case (fun _ => ?_) (fun h33_23 => ?_)
                                                  · refine J_tin hX dL_law_33 (tgt := 893) (by decide) (by decide) (off := 860) rfl rfl ?_
                                                    exact J_keep [0, 1, 2, 3] rfl (hJ893 v3_18 σ_18)
                                                  · refine J_case (fun _ => ?_) (fun h33_24 => ?_)
                                                    · refine J_tin hX dL_law_33 (tgt := 926) (by decide) (by decide) (off := 893) rfl rfl ?_
                                                      exact J_keep [0, 1, 2, 3] rfl (hJ926 v3_18 σ_18)
                                                    · refine J_case (fun _ => ?_) (fun h33_25 => ?_)
                                                      · refine J_tin hX dL_law_33 (tgt := 959) (by decide) (by decide) (off := 926) rfl rfl ?_
                                                        exact J_keep [0, 1, 2, 3] rfl (hJ959 v3_18 σ_18)
                                                      · refine J_case (fun _ => ?_) (fun h33_26 => ?_)
                                                        · refine J_tin hX dL_law_33 (tgt := 982) (by decide) (by decide) (off := 949) rfl rfl ?_
                                                          exact J_keep [0, 1, 2, 3] rfl (hJ982 v3_18 σ_18)
                                                        · refine J_case (fun _ => ?_) (fun h33_27 => ?_)
                                                          · refine J_tin hX dL_law_33 (tgt := 1035) (by decide) (by decide) (off := 1002) rfl rfl ?_
                                                            exact J_keep [0, 1, 2, 3] rfl (hJ1035 v3_18 σ_18)
                                                          · refine J_case (fun _ => ?_) (fun h33_28 => ?_)
                                                            · refine J_tin hX dL_law_33 (tgt := 1058) (by decide) (by decide) (off := 1025) rfl rfl ?_
                                                              exact J_keep [0, 1, 2, 3] rfl (hJ1058 v3_18 σ_18)
                                                            · refine J_case (fun _ => ?_) (fun h33_29 => ?_)
                                                              · refine J_tin hX dL_law_33 (tgt := 1081) (by decide) (by decide) (off := 1048) rfl rfl ?_
                                                                exact J_keep [0, 1, 2, 3] rfl (hJ1081 v3_18 σ_18)
                                                              · refine J_case (fun _ => ?_) (fun h33_30 => ?_)
                                                                · refine J_tin hX dL_law_33 (tgt := 1094) (by decide) (by decide) (off := 1061) rfl rfl ?_
                                                                  exact J_keep [0, 1, 2, 3] rfl (hJ1094 v3_18 σ_18)
                                                                · refine J_case (fun _ => ?_) (fun h33_31 => ?_)
                                                                  · refine J_tin hX dL_law_33 (tgt := 1107) (by decide) (by decide) (off := 1074) rfl rfl ?_
                                                                    exact J_keep [0, 1, 2, 3] rfl (hJ1107 v3_18 σ_18)
                                                                  · refine J_case (fun _ => ?_) (fun h33_32 => ?_)
                                                                    · refine J_tin hX dL_law_33 (tgt := 1130) (by decide) (by decide) (off := 1097) rfl rfl ?_
                                                                      exact J_keep [0, 1, 2, 3] rfl (hJ1130 v3_18 σ_18)
                                                                    · refine J_case (fun _ => ?_) (fun h33_33 => ?_)
                                                                      · refine J_tin hX dL_law_33 (tgt := 1153) (by decide) (by decide) (off := 1120) rfl rfl ?_
                                                                        exact J_keep [0, 1, 2, 3] rfl (hJ1153 v3_18 σ_18)
                                                                      · refine J_tout hX dL_law_33 (tgt := 1176) (jt_out34 h33_0 h33_1 h33_2 h33_3 h33_4 h33_5 h33_6 h33_7 h33_8 h33_9 h33_10 h33_11 h33_12 h33_13 h33_14 h33_15 h33_16 h33_17 h33_18 h33_19 h33_20 h33_21 h33_22 h33_23 h33_24 h33_25 h33_26 h33_27 h33_28 h33_29 h33_30 h33_31 h33_32 h33_33) rfl ?_
                                                                        refine J_iinc hX dL_law_1176 rfl (congrArg (_ + ·) k_i6) (Nat.le_of_ble_eq_true rfl) (lv' := [(0, .ref b), (1, .ref (jad G (nmX 0))), (2, .ref (jad G (nmM 0))), (3, .int (v3_18 + 6))]) rfl ?_
                                                                        refine J_goto hX dL_law_1179 (tgt := 18) rfl ?_
                                                                        exact J_keep [0, 1, 2, 3] rfl (hN18 (v3_18 + 6, σ_18))
