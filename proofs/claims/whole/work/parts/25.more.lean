theorem tl9 : (9 : Int32).toInt = 9 := by decide
theorem tl0 : (0 : Int32).toInt = 0 := by decide
theorem tl50 : (50 : Int32).toInt = 50 := by decide
theorem tl49 : (49 : Int32).toInt = 49 := by decide
theorem tl63 : (63 : Int32).toInt = 63 := by decide
theorem tl64 : (64 : Int32).toInt = 64 := by decide
theorem tl1 : (1 : Int32).toInt = 1 := by decide
theorem st_weather (a v : Int32) : sII Rel (fun σ => f_X10_weather nmX a v σ) (fun σ => f_X11_weather nmM a v σ) := by
  rintro σ ⟨n, m, hSi, hN, hSo, hD, hSg, hL, hI0, hI1, hT, hF, hTo⟩
  have hno : ∀ σ, (a = 0 → ¬ rg v 0 9) → (a = 1 → ¬ rg v 0 50) → f_X11_weather nmM a v σ = some (-1002, σ) := by
    intro σ h0 h1
    unfold f_X11_weather
    by_cases ha0 : a = 0
    · rw [in_yes (by rw [ti64, ha0]; decide) (by rw [ti64, ha0]; decide), bnd, if_neg i10, if_pos ha0, bnd]
      unfold f_X11_weather_J26
      rw [in_no, bnd, if_pos rfl]
      rw [ti64]
      exact h0 ha0
    · by_cases ha1 : a = 1
      · rw [in_yes (by rw [ti64, ha1]; decide) (by rw [ti64, ha1]; decide), bnd, if_neg i10, if_neg ha0, bnd]
        unfold f_X11_weather_J26
        rw [in_no, bnd, if_pos rfl]
        rw [ti64]
        exact h1 ha1
      · rw [in_no, bnd, if_pos rfl]
        rw [ti64]
        show ¬ ((0 : Int) ≤ a.toInt ∧ a.toInt ≤ 1)
        intro hh
        obtain ⟨j, hj, e⟩ := rg_nI (x := a) (hi := 1) hh
        have : j = 0 ∨ j = 1 := by omega
        rcases this with rfl | rfl
        · exact ha0 e
        · exact ha1 e
  have hx0 : ∀ σ, (a = 0 → ¬ rg v 0 9) → (a = 1 → ¬ rg v 0 50) → f_X10_weather nmX a v σ = some (-1002, σ) := by
    intro σ h0 h1
    have hj : f_X10_weather_J40 nmX a v σ = some (-1002, σ) := by
      unfold f_X10_weather_J40
      by_cases ha1 : a = 1
      · rw [if_pos ha1, within_no (by rw [tl0, tl50]; exact h1 ha1), bnd, if_pos rfl]
      · rw [if_neg ha1]
    unfold f_X10_weather
    by_cases ha0 : a = 0
    · rw [if_pos ha0, within_no (by rw [tl0, tl9]; exact h0 ha0), bnd, if_pos rfl, hj]
    · rw [if_neg ha0, hj]
  obtain ⟨⟨m1, m2, m3, m4, m5⟩, n0, n1, n2, n3, n4, n5⟩ := hN
  by_cases h0 : a = 0 ∧ rg v 0 9
  · obtain ⟨rfl, hv⟩ := h0
    refine ⟨g_i σ 57 6, s_i (s_i σ 57 6 v) 91 7 0, s_i (s_i (s_i (s_i σ 57 6 v) 91 7 0) 101 15 v) 101 16 (g_i σ 101 16), ?_, ?_, n, m, hSi, ⟨⟨m1, m2, hv, m4, m5⟩, n0, n1, n2, rfl, n4, n5⟩, hSo, hD, hSg, hL, hI0, hI1, hT, hF, Or.inl rfl⟩
    · show f_X10_weather nmX 0 v σ = _
      unfold f_X10_weather
      rw [if_pos rfl, within_yes (by rw [tl0]; exact hv.1) (by rw [tl9]; exact hv.2), bnd, if_neg i10]
      rfl
    · generalize hσ1 : s_i (s_i σ 57 6 v) 91 7 0 = σ1
      show f_X11_weather nmM 0 v σ1 = _
      unfold f_X11_weather
      rw [in_yes (by decide) (by decide), bnd, if_neg i10, if_pos rfl, bnd]
      unfold f_X11_weather_J26
      rw [in_yes (by rw [ti64]; exact hv.1) (by rw [ti64]; exact hv.2), bnd, if_neg i10, if_pos rfl, bnd]
      unfold f_X11_weather_J51
      rw [if_pos rfl, bnd]
      unfold f_X11_weather_J65
      rw [bdx, if_neg (by decide), bnd]
      unfold f_X11_weather_J82
      rw [bdx]
      have e1 : g_i σ1 (nmM 0) 15 = g_i σ 57 6 := by rw [← hσ1]; exact n3
      have e2 : g_i (s_i σ1 (nmM 0) 15 v) (nmM 0) 16 = g_i σ 101 16 := by rw [← hσ1]; rfl
      rw [e1, e2]
      rfl
  · by_cases h1 : a = 1 ∧ rg v 0 50
    · obtain ⟨rfl, hv⟩ := h1
      refine ⟨g_i σ 57 7, s_i σ 57 7 v, s_i (s_i (s_i σ 57 7 v) 101 15 (g_i σ 101 15)) 101 16 v, ?_, ?_, n, m, hSi, ⟨⟨m1, m2, m3, hv, m5⟩, n0, n1, n2, n3, rfl, n5⟩, hSo, hD, hSg, hL, hI0, hI1, hT, hF, hTo⟩
      · show f_X10_weather nmX 1 v σ = _
        unfold f_X10_weather
        rw [if_neg (by decide)]
        unfold f_X10_weather_J40
        rw [if_pos rfl, within_yes (by rw [tl0]; exact hv.1) (by rw [tl50]; exact hv.2), bnd, if_neg i10]
        rfl
      · generalize hσ1 : s_i σ 57 7 v = σ1
        show f_X11_weather nmM 1 v σ1 = _
        unfold f_X11_weather
        rw [in_yes (by decide) (by decide), bnd, if_neg i10, if_neg (by decide), bnd]
        unfold f_X11_weather_J26
        rw [in_yes (by rw [ti64]; exact hv.1) (by rw [ti64]; exact hv.2), bnd, if_neg i10, if_neg (by decide), bnd]
        unfold f_X11_weather_J51
        rw [if_neg (by decide), bnd]
        unfold f_X11_weather_J65
        rw [bdx, if_pos rfl, bnd]
        unfold f_X11_weather_J82
        rw [bdx]
        have e1 : g_i σ1 (nmM 0) 16 = g_i σ 57 7 := by rw [← hσ1]; exact n4
        have e2 : g_i σ1 (nmM 0) 15 = g_i σ 101 15 := by rw [← hσ1]; rfl
        rw [e1, e2]
        rfl
    · exact ⟨-1002, σ, σ, hx0 σ (fun e z => h0 ⟨e, z⟩) (fun e z => h1 ⟨e, z⟩), hno σ (fun e z => h0 ⟨e, z⟩) (fun e z => h1 ⟨e, z⟩), n, m, hSi, ⟨⟨m1, m2, m3, m4, m5⟩, n0, n1, n2, n3, n4, n5⟩, hSo, hD, hSg, hL, hI0, hI1, hT, hF, hTo⟩
theorem nI_41 {l c N : Nat} (h : 4 * l + c < N) (hN : N < 100000) : vp_in (4 * nI l + nI c) N := by
  show vp_in (nI 4 * nI l + nI c) N
  rw [nI_mul, nI_add]; exact nI_in' h (by omega)
theorem nI_41c {l c : Nat} (h : 4 * l + c < 100000) : (4 * nI l + nI c).toNatClampNeg = 4 * l + c := by
  show (nI 4 * nI l + nI c).toNatClampNeg = _
  rw [nI_mul, nI_add, nI_cl (by omega)]
theorem st_file (a v : Int32) : sII Rel (fun σ => f_X10_file nmX a v σ) (fun σ => f_X11_file nmM a v σ) := by
  rintro σ ⟨n, m, hSi, hN, hSo, hD, hSg, hL, hI0, hI1, hT, hF, hTo⟩
  have hn := hSi.1.1
  have s1 := hSi.2.1.1
  have s5 := hSi.2.1.2.2.2.2
  by_cases ha : ∃ l, l < n ∧ a = nI l
  · obtain ⟨l, hl, rfl⟩ := ha
    have hin : vp_in (nI l) 10 := nI_in' (by omega) (by omega)
    have hin4 : vp_in (4 * nI l + 1) 40 := nI_41 (c := 1) (by omega) (by omega)
    have hc4 : (4 * nI l + 1).toNatClampNeg = 4 * l + 1 := nI_41c (c := 1) (by omega)
    obtain ⟨⟨m1, m2, m3, m4, m5⟩, n0, n1, n2⟩ := hN
    obtain ⟨w, hw, hwe⟩ := rg_nI (hi := 63) (m1 l hl)
    have hwe : g_i σ 58 l = nI w := hwe
    have e1 : ∀ τ : jS, g_i τ 102 (4 * l + 1) = g_i σ 102 (4 * l + 1) → g_i τ (nmM 1) (4 * l + 1) = nI w := fun τ h => (h.trans (n0 l hl)).trans hwe
    have hplus : (nI w + 1).toInt = (w : Int) + 1 := by
      rw [nI_1, nI_ti (by omega)]; omega
    by_cases hv : (w : Int) < v.toInt ∧ v.toInt < 64
    · have c1 : ¬ v ≤ nI w := by rw [Int32.le_iff_toInt_le, nI_ti (by omega)]; omega
      have c2 : v < 64 := by rw [Int32.lt_iff_toInt_lt, tl64]; exact hv.2
      refine ⟨v - nI w, s_i (s_i σ 58 l v) 91 7 0, s_i (s_i (s_i σ 58 l v) 91 7 0) 102 (4 * l + 1) v, ?_, ?_, n, m, ?_, ⟨⟨?_, m2, m3, m4, m5⟩, ?_, n1, n2⟩, hSo, hD, hSg, hL, hI0, hI1, hT, hF, Or.inl rfl⟩
      · show f_X10_file nmX (nI l) v σ = _
        unfold f_X10_file
        rw [xl_yes s1 hn hl, bnd, if_neg i10, gd_t hin, bdx, nI_cl (by omega)]
        have e : g_i σ (nmX 58) l = nI w := hwe
        rw [e, if_neg c1, if_pos c2, gd_t hin]
        rfl
      · generalize hσ1 : s_i (s_i σ 58 l v) 91 7 0 = σ1
        have s5' : g_i σ1 101 0 = nI n := by rw [← hσ1]; exact s5
        have e2 : g_i σ1 (nmM 1) (4 * l + 1) = nI w := e1 σ1 (by rw [← hσ1]; rfl)
        show f_X11_file nmM (nI l) v σ1 = _
        unfold f_X11_file
        rw [ml_yes s5' hn hl, bnd, if_neg i10, gd_t hin4, bdx, hc4, e2, in_yes (by rw [ti64, ti64, hplus]; omega) (by rw [ti64]; show v.toInt ≤ 63; omega), bnd, if_neg i10, gd_t hin4]
        rfl
      · obtain ⟨q1, q2, q3, q4, q5, q6, q7, q8⟩ := hSi
        refine ⟨q1, q2, q3, q4, q5, q6, fun k hk => ?_, q8⟩
        obtain ⟨⟨z1, z2⟩, ⟨z3, z4⟩, z5, z6⟩ := q7 k hk
        refine ⟨⟨z1, ?_⟩, ⟨z3, ?_⟩, z5, ?_⟩
        · exact (s_i_k (show 4 * k ≠ 4 * l + 1 by omega)).trans z2
        · exact (s_i_k (show 4 * k + 2 ≠ 4 * l + 1 by omega)).trans z4
        · exact (s_i_k (show 4 * k + 3 ≠ 4 * l + 1 by omega)).trans z6
      · intro k hk
        show rg (g_i (s_i σ 58 l v) 58 k) 0 63
        by_cases hkl : k = l
        · rw [hkl, s_i_eq]; exact ⟨by omega, by omega⟩
        · rw [s_i_k hkl]; exact m1 k hk
      · intro k hk
        show g_i (s_i (s_i (s_i σ 58 l v) 91 7 0) 102 (4 * l + 1) v) 102 (4 * k + 1) = g_i (s_i σ 58 l v) 58 k
        by_cases hkl : k = l
        · rw [hkl, s_i_eq, s_i_eq]
        · rw [s_i_k (show 4 * k + 1 ≠ 4 * l + 1 by omega), s_i_k hkl]; exact n0 k hk
    · refine ⟨-1002, σ, σ, ?_, ?_, n, m, hSi, ⟨⟨m1, m2, m3, m4, m5⟩, n0, n1, n2⟩, hSo, hD, hSg, hL, hI0, hI1, hT, hF, hTo⟩
      · show f_X10_file nmX (nI l) v σ = _
        unfold f_X10_file
        rw [xl_yes s1 hn hl, bnd, if_neg i10, gd_t hin, bdx, nI_cl (by omega)]
        have e : g_i σ (nmX 58) l = nI w := hwe
        rw [e]
        by_cases c1 : v ≤ nI w
        · rw [if_pos c1]
        · rw [if_neg c1, if_neg]
          rw [Int32.le_iff_toInt_le, nI_ti (by omega)] at c1
          rw [Int32.lt_iff_toInt_lt, tl64]; omega
      · show f_X11_file nmM (nI l) v σ = _
        unfold f_X11_file
        rw [ml_yes s5 hn hl, bnd, if_neg i10, gd_t hin4, bdx, hc4, e1 σ rfl, in_no, bnd, if_pos rfl]
        rw [ti64, ti64, hplus]
        show ¬ ((w : Int) + 1 ≤ v.toInt ∧ v.toInt ≤ 63)
        omega
  · refine ⟨-1001, σ, σ, ?_, ?_, n, m, hSi, hN, hSo, hD, hSg, hL, hI0, hI1, hT, hF, hTo⟩
    · show f_X10_file nmX a v σ = _
      unfold f_X10_file
      rw [xl_no s1 hn ha, bnd, if_pos rfl]
    · show f_X11_file nmM a v σ = _
      unfold f_X11_file
      rw [ml_no s5 hn ha, bnd, if_pos rfl]
