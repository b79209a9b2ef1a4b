theorem st_singer (a w : Int32) : sPP Rel (fun σ => f_X10_singer nmX a w σ) (fun σ => f_X11_singer nmM a w σ) := by
  rintro σ ⟨n, m, hSi, -⟩
  show ∃ r, f_X10_singer nmX a w σ = some r ∧ f_X11_singer nmM a w σ = some r
  have hm := hSi.1.2
  obtain ⟨r1, r2, r3, r4, r5⟩ := hSi.2.2.1
  have hsz : f_X6_singers (jn nmX [31, 32, 33, 34, 35, 36, 37, 38, 39, 40, 41, 42, 43, 44, 45, 46, 47]) σ = some (nI m) := by
    show some (g_i σ 40 1) = _
    rw [r1]
  have r5' : g_i σ (nmM 0) 8 = nI m := r5
  unfold f_X10_singer f_X11_singer
  by_cases ha : ∃ l, l < m ∧ a = nI l
  · obtain ⟨s, hs, rfl⟩ := ha
    obtain ⟨q1, q2, q3, q4⟩ := hSi.2.2.2.2.2.2.2 s hs
    have i1 : f_X11_in (nI s).toInt64 0 (nI m - 1).toInt64 = some 1 := in_yes (by rw [ti64, nI_ti (by omega)]; show (0 : Int) ≤ s; omega) (by rw [ti64, ti64, nI_ti (by omega), nI_sub1 (by omega)]; omega)
    rw [if_neg (nI_neg0 (by omega)), hsz, bnd, if_pos ((nI_lt' (by omega) (by omega)).mpr hs), r5', i1, bnd, if_neg i10]
    have a0 : f_X4_at (jn nmX [40, 41]) 8 (nI s) σ = some (g_i σ 41 s) := row_atI (n := m) r1 hm (by omega) hs
    have a1 : f_X4_at (jn nmX [42, 43]) 8 (nI s) σ = some (g_i σ 43 s) := row_atI (n := m) r2 hm (by omega) hs
    have a2 : f_X4_at (jn nmX [44, 45]) 8 (nI s) σ = some (g_i σ 45 s) := row_atI (n := m) r3 hm (by omega) hs
    have a3 : f_X4_at (jn nmX [46, 47]) 8 (nI s) σ = some (g_i σ 47 s) := row_atI (n := m) r4 hm (by omega) hs
    have key : ∀ c, c < 4 → (f_X11_in (nI c).toInt64 0 3).bind (fun q2 => if q2 = 0 then some (-1002) else gd (vp_in (4 * nI s + nI c) 32) (some (g_i σ (nmM 5) (4 * nI s + nI c).toNatClampNeg))) = some (g_i σ 106 (4 * s + c)) := by
      intro c hc
      rw [in_yes (by rw [ti64, nI_ti (by omega)]; show (0 : Int) ≤ c; omega) (by rw [ti64, nI_ti (by omega)]; show (c : Int) ≤ 3; omega), bnd, if_neg i10, gd_t (nI_41 (by omega) (by omega)), nI_41c (by omega)]
      rfl
    by_cases h0 : w = 0
    · subst h0
      rw [if_pos rfl, a0, bnd]
      exact ⟨_, rfl, (key 0 (by omega)).trans (congrArg some q1.2)⟩
    rw [if_neg h0]
    by_cases h1 : w = 1
    · subst h1
      rw [if_pos rfl, a1, bnd]
      exact ⟨_, rfl, (key 1 (by omega)).trans (congrArg some q2.2)⟩
    rw [if_neg h1]
    by_cases h2 : w = 2
    · subst h2
      rw [if_pos rfl, a2, bnd]
      exact ⟨_, rfl, (key 2 (by omega)).trans (congrArg some q3.2)⟩
    rw [if_neg h2]
    by_cases h3 : w = 3
    · subst h3
      rw [if_pos rfl, a3, bnd]
      exact ⟨_, rfl, (key 3 (by omega)).trans (congrArg some q4.2)⟩
    rw [if_neg h3]
    refine ⟨_, rfl, ?_⟩
    rw [in_no, bnd, if_pos rfl]
    rw [ti64]
    show ¬ ((0 : Int) ≤ w.toInt ∧ w.toInt ≤ 3)
    intro hh
    obtain ⟨j, hj, e⟩ := rg_nI (x := w) (hi := 3) hh
    have : j = 0 ∨ j = 1 ∨ j = 2 ∨ j = 3 := by omega
    rcases this with rfl | rfl | rfl | rfl
    · exact h0 e
    · exact h1 e
    · exact h2 e
    · exact h3 e
  · rw [nI_iff (by omega)] at ha
    have i1 : f_X11_in a.toInt64 0 (nI m - 1).toInt64 = some 0 := in_no (by
      rw [ti64, ti64, nI_sub1 (by omega)]
      show ¬ ((0 : Int) ≤ a.toInt ∧ a.toInt ≤ (m : Int) - 1)
      omega)
    rw [r5', i1, bnd, if_pos rfl]
    by_cases h0 : a < 0
    · rw [if_pos h0]; exact ⟨_, rfl, rfl⟩
    · rw [if_neg h0, hsz, bnd, if_neg]
      · exact ⟨_, rfl, rfl⟩
      · have h0 := mt lt0.mpr h0
        rw [Int32.lt_iff_toInt_lt, nI_ti (by omega)]; omega
/-- singer s could wake just S -/
def cw (σ : jS) (n s S : Nat) (hi : Int) : Prop := ∃ nt : Nat, (g_i σ 45 s).toInt ≤ nt ∧ (nt : Int) < hi ∧ bs (hd σ 57 (g_i σ 41 s).toInt nt (g_i σ 43 s).toInt) n = S
theorem cw_succ {σ : jS} {n s S j : Nat} (hj : (g_i σ 45 s).toInt ≤ j) : cw σ n s S ((j : Int) + 1) ↔ cw σ n s S j ∨ bs (hd σ 57 (g_i σ 41 s).toInt j (g_i σ 43 s).toInt) n = S := by
  constructor
  · rintro ⟨nt, h1, h2, h3⟩
    by_cases e : nt = j
    · subst e; exact Or.inr h3
    · exact Or.inl ⟨nt, h1, by omega, h3⟩
  · rintro (⟨nt, h1, h2, h3⟩ | h)
    · exact ⟨nt, h1, by omega, h3⟩
    · exact ⟨j, hj, by omega, h⟩
noncomputable def cwb (σ : jS) (n S : Nat) (s : Nat) : Bool := @decide (cw σ n s S ((g_i σ 47 s).toInt + 1)) (Classical.propDecidable _)
theorem cwb_t {σ : jS} {n S s : Nat} (h : cw σ n s S ((g_i σ 47 s).toInt + 1)) : cwb σ n S s = true := by unfold cwb; exact @decide_eq_true _ (Classical.propDecidable _) h
theorem cwb_f {σ : jS} {n S s : Nat} (h : ¬ cw σ n s S ((g_i σ 47 s).toInt + 1)) : cwb σ n S s = false := by unfold cwb; exact @decide_eq_false _ (Classical.propDecidable _) h
theorem bs_nI {f : Nat → Bool} {n S : Nat} (hn : n ≤ 10) (hS : S < 2 ^ n) : nI (bs f n) = nI S ↔ bs f n = S := by
  have h1 := bs_lt f n
  have h2 := pow10 hn
  exact nI_inj (by omega) (by omega)
theorem xcould {n m s S : Nat} {σ : jS} (hSi : RSite n m σ) (hN : RNow n σ) (hs : s < m) (hS : S < 2 ^ n) : f_X10_singerCouldWake nmX (nI s) (nI S) σ = some (if cwb σ n S s then 1 else 0) := by
  have hm := hSi.1.2
  obtain ⟨r1, r2, r3, r4, r5⟩ := hSi.2.2.1
  obtain ⟨q1, q2, q3, q4⟩ := hSi.2.2.2.2.2.2.2 s hs
  have a0 : f_X4_at (jn nmX [40, 41]) 8 (nI s) σ = some (g_i σ 41 s) := row_atI (n := m) r1 hm (by omega) hs
  have a1 : f_X4_at (jn nmX [42, 43]) 8 (nI s) σ = some (g_i σ 43 s) := row_atI (n := m) r2 hm (by omega) hs
  have a2 : f_X4_at (jn nmX [44, 45]) 8 (nI s) σ = some (g_i σ 45 s) := row_atI (n := m) r3 hm (by omega) hs
  have a3 : f_X4_at (jn nmX [46, 47]) 8 (nI s) σ = some (g_i σ 47 s) := row_atI (n := m) r4 hm (by omega) hs
  obtain ⟨lo, hlo, elo⟩ := rg_nI (hi := 63) q3.1
  obtain ⟨z1, z2⟩ := q4.1
  refine wp_eq ?_
  unfold f_X10_singerCouldWake
  refine wp_bindE a2 ?_
  rw [elo]
  have tlo : (g_i σ 45 s).toInt = lo := by rw [elo, nI_ti (by omega)]
  refine wp_bind ?_
  refine wp_lp (fun k v => ∃ j : Nat, v = nI j ∧ (lo : Int) ≤ j ∧ (j : Int) ≤ (g_i σ 47 s).toInt + 1 ∧ (k : Int) = 100 - j ∧ ¬ cw σ n s S j) (n := 100 - lo) (by omega) ⟨lo, rfl, by omega, by omega, by omega, ?_⟩ ?_
  · rintro ⟨nt, h1, h2, -⟩; omega
  rintro k v ⟨j, rfl, hj1, hj2, hk, hno⟩
  unfold f_X10_singerCouldWake_L12
  refine wp_bindE a3 ?_
  refine wp_ite (fun c => ?_) (fun c => ?_)
  · rw [Int32.lt_iff_toInt_lt, nI_ti (by omega)] at c
    have : (j : Int) = (g_i σ 47 s).toInt + 1 := by omega
    rw [this] at hno
    rw [cwb_f hno]
    exact wp_some (wp_some rfl)
  · rw [Int32.lt_iff_toInt_lt, nI_ti (by omega)] at c
    refine wp_bindE a0 ?_
    refine wp_bindE a1 ?_
    have hwk := woken_eq (p := g_i σ 41 s) (nt := nI j) (lo := g_i σ 43 s) momX (sok hSi hN.1) q1.1 (nI_rg (by omega) (by omega) (by omega)) q2.1
    rw [nI_ti (by omega)] at hwk
    refine wp_bindE hwk ?_
    refine wp_ite (fun e => ?_) (fun e => ?_)
    · rw [bs_nI hSi.1.1 hS] at e
      rw [cwb_t ⟨j, by omega, by omega, e⟩]
      exact wp_some (wp_some rfl)
    · rw [bs_nI hSi.1.1 hS] at e
      refine wp_some ⟨k - 1, by omega, j + 1, nI_1 j, by omega, by omega, by omega, ?_⟩
      have hs1 := cw_succ (σ := σ) (n := n) (s := s) (S := S) (j := j) (by omega)
      have ej : ((j + 1 : Nat) : Int) = (j : Int) + 1 := by omega
      rw [ej, hs1]
      rintro (h | h)
      · exact hno h
      · exact e h
theorem mcould {n m s S : Nat} {v2 : Int32} {σ : jS} (hSi : RSite n m σ) (hN : RNow n σ) (hs : s < m) (hS : S < 2 ^ n) : lp (f_X11_who_L39 nmM (nI S) v2 (nI s) σ) fu (0, g_i σ 45 s) = some (if cwb σ n S s then 1 else 0) := by
  have hm := hSi.1.2
  obtain ⟨q1, q2, q3, q4⟩ := hSi.2.2.2.2.2.2.2 s hs
  obtain ⟨lo, hlo, elo⟩ := rg_nI (hi := 63) q3.1
  obtain ⟨z1, z2⟩ := q4.1
  have tlo : (g_i σ 45 s).toInt = lo := by rw [elo, nI_ti (by omega)]
  refine wp_eq ?_
  rw [elo]
  refine wp_lp (fun k v => ∃ j : Nat, v.2 = nI j ∧ (lo : Int) ≤ j ∧ (j : Int) ≤ (g_i σ 47 s).toInt + 1 ∧ (k : Int) = 100 - j ∧ ((v.1 = 0 ∧ ¬ cw σ n s S j) ∨ (v.1 = 1 ∧ cw σ n s S j))) (n := 100 - lo) (by omega) ⟨lo, rfl, by omega, by omega, by omega, Or.inl ⟨rfl, ?_⟩⟩ ?_
  · rintro ⟨nt, h1, h2, -⟩; omega
  rintro k ⟨f, v⟩ ⟨j, hv, hj1, hj2, hk, hf⟩
  have hv : v = nI j := hv
  subst hv
  have hf : (f = 0 ∧ ¬ cw σ n s S j) ∨ (f = 1 ∧ cw σ n s S j) := hf
  have ej : ((j + 1 : Nat) : Int) = (j : Int) + 1 := by omega
  have hs1 := cw_succ (σ := σ) (n := n) (s := s) (S := S) (j := j) (by omega)
  unfold f_X11_who_L39
  have g3 : vp_in (4 * nI s + 3) 32 := nI_41 (c := 3) (by omega) (by omega)
  have c3 : (4 * nI s + 3).toNatClampNeg = 4 * s + 3 := nI_41c (c := 3) (by omega)
  have g1 : vp_in (4 * nI s + 1) 32 := nI_41 (c := 1) (by omega) (by omega)
  have c1 : (4 * nI s + 1).toNatClampNeg = 4 * s + 1 := nI_41c (c := 1) (by omega)
  have f3 : g_i σ (nmM 5) (4 * s + 3) = g_i σ 47 s := q4.2
  have f1 : g_i σ (nmM 5) (4 * s + 1) = g_i σ 43 s := q2.2
  have f0 : g_i σ (nmM 5) (4 * s) = g_i σ 41 s := q1.2
  refine wp_gd g3 ?_
  rw [c3, f3]
  refine wp_ite (fun c => ?_) (fun c => ?_)
  · rw [Int32.lt_iff_toInt_lt, nI_ti (by omega)] at c
    have : (j : Int) = (g_i σ 47 s).toInt + 1 := by omega
    rw [this] at hf
    rcases hf with ⟨rfl, hno⟩ | ⟨rfl, hy⟩
    · rw [cwb_f hno]; exact wp_some rfl
    · rw [cwb_t hy]; exact wp_some rfl
  · rw [Int32.lt_iff_toInt_lt, nI_ti (by omega)] at c
    rcases hf with ⟨rfl, hno⟩ | ⟨rfl, hy⟩
    · rw [if_pos rfl]
      refine wp_gd (nI_4 (by omega) (by omega)) ?_
      refine wp_gd g1 ?_
      rw [nI_4c (by omega), c1, f0, f1]
      have e : g_i σ (nmM 0) 15 = g_i σ 57 6 := hN.2.2.2.2.1
      have hwk := mwakes (p := g_i σ 41 s) (nt := nI j) (lo := g_i σ 43 s) hSi hN e q1.1 (nI_rg (by omega) (by omega) (by omega)) q2.1
      rw [nI_ti (by omega)] at hwk
      refine wp_bindE hwk ?_
      refine wp_ite (fun e => ?_) (fun e => ?_)
      · rw [bs_nI hSi.1.1 hS] at e
        refine wp_some ⟨k - 1, by omega, j + 1, nI_1 j, by omega, by omega, by omega, Or.inr ⟨rfl, ?_⟩⟩
        rw [ej, hs1]; exact Or.inr e
      · rw [bs_nI hSi.1.1 hS] at e
        refine wp_some ⟨k - 1, by omega, j + 1, nI_1 j, by omega, by omega, by omega, Or.inl ⟨rfl, ?_⟩⟩
        rw [ej, hs1]
        rintro (h | h)
        · exact hno h
        · exact e h
    · rw [if_neg i10]
      refine wp_some ⟨k - 1, by omega, j + 1, nI_1 j, by omega, by omega, by omega, Or.inr ⟨rfl, ?_⟩⟩
      rw [ej, hs1]; exact Or.inl hy
theorem st_who (a : Int32) : sPP Rel (fun σ => f_X10_who nmX a σ) (fun σ => f_X11_who nmM a σ) := by
  rintro σ ⟨n, m, hSi, hN, -⟩
  show ∃ r, f_X10_who nmX a σ = some r ∧ f_X11_who nmM a σ = some r
  have hn := hSi.1.1
  have hm := hSi.1.2
  have s1 := hSi.2.1.1
  have s5 := hSi.2.1.2.2.2.2
  obtain ⟨r1, r2, r3, r4, r5⟩ := hSi.2.2.1
  by_cases ha : ∃ S, S < 2 ^ n ∧ a = nI S
  · obtain ⟨S, hS, rfl⟩ := ha
    refine ⟨nI (bs (cwb σ n S) m), ?_, ?_⟩
    · unfold f_X10_who
      rw [xk_yes s1 hn hS, bnd, if_neg i10]
      refine wp_eq (wp_bind ?_)
      refine wp_up m (fun i s => s = (nI (bs (cwb σ n S) i), nI i)) (i := 0) (by omega) (by omega) rfl ?_
      rintro i s hi rfl
      unfold f_X10_who_L16
      have hsz : f_X6_singers (jn nmX [31, 32, 33, 34, 35, 36, 37, 38, 39, 40, 41, 42, 43, 44, 45, 46, 47]) σ = some (nI m) := by
        show some (g_i σ 40 1) = _
        rw [r1]
      show wp ((f_X6_singers _ σ).bind _) _
      refine wp_bindE hsz ?_
      refine wp_ite (fun c => ?_) (fun c => ?_)
      · rw [nI_le' (by omega) (by omega)] at c
        have : i = m := by omega
        subst this
        exact wp_some (wp_some rfl)
      · rw [nI_le' (by omega) (by omega)] at c
        refine wp_bindE (xcould hSi hN (by omega) hS) ?_
        cases hb : cwb σ n S i with
        | false =>
          rw [if_pos (by rfl)]
          refine wp_some ⟨by omega, ?_⟩
          rw [bs_f hb, nI_1]
        | true =>
          rw [if_neg (by decide)]
          refine wp_bd (fun v hv => wp_some ⟨by omega, ?_⟩)
          rw [hv, bs_t (by omega) hb, nI_1]
    · unfold f_X11_who
      rw [mk_yes s5 hn hS, bnd, if_neg i10]
      refine wp_eq (wp_bind ?_)
      refine wp_up m (fun i s => s = (nI (bs (cwb σ n S) i), nI i)) (i := 0) (by omega) (by omega) rfl ?_
      rintro i s hi rfl
      unfold f_X11_who_L16
      have r5' : g_i σ (nmM 0) 8 = nI m := r5
      show wp (if g_i σ (nmM 0) 8 ≤ nI i then _ else _) _
      rw [r5']
      refine wp_ite (fun c => ?_) (fun c => ?_)
      · rw [nI_le' (by omega) (by omega)] at c
        have : i = m := by omega
        subst this
        exact wp_some (wp_some rfl)
      · rw [nI_le' (by omega) (by omega)] at c
        have hi2 : i < m := by omega
        have g2 : vp_in (4 * nI i + 2) 32 := nI_41 (c := 2) (by omega) (by omega)
        have c2 : (4 * nI i + 2).toNatClampNeg = 4 * i + 2 := nI_41c (c := 2) (by omega)
        have f2 : g_i σ (nmM 5) (4 * i + 2) = g_i σ 45 i := (hSi.2.2.2.2.2.2.2 i hi2).2.2.1.2
        refine wp_gd g2 ?_
        rw [c2, f2]
        refine wp_bd (fun x hx => ?_)
        rw [hx]
        refine wp_bindE (mcould hSi hN hi2 hS) ?_
        cases hb : cwb σ n S i with
        | false =>
          rw [if_pos (by rfl)]
          refine wp_bd (fun v hv => wp_some ⟨by omega, ?_⟩)
          rw [hv, or_zero, bs_f hb, nI_1]
        | true =>
          rw [if_neg (by decide)]
          refine wp_bd (fun v hv => wp_some ⟨by omega, ?_⟩)
          rw [hv, bs_t (by omega) hb, nI_1]
  · refine ⟨-1001, ?_, ?_⟩
    · unfold f_X10_who
      rw [xk_no s1 hn ha, bnd, if_pos rfl]
    · unfold f_X11_who
      rw [mk_no s5 hn ha, bnd, if_pos rfl]
