theorem spot_eq (p nt : Int32) : ∃ v, f_X10_isSpot p nt = some v ∧ f_X11_isSound p nt = some v ∧ ((v = 1 ∧ rg p 0 49 ∧ rg nt 0 63) ∨ (v = 0 ∧ ¬ (rg p 0 49 ∧ rg nt 0 63))) := by
  unfold f_X10_isSpot f_X11_isSound
  by_cases h1 : rg p 0 49
  · rw [within_yes (by rw [tl0]; exact h1.1) (by rw [tl49]; exact h1.2), in_yes (by rw [ti64]; exact h1.1) (by rw [ti64]; exact h1.2), bnd, bnd, if_neg i10, if_neg i10]
    by_cases h2 : rg nt 0 63
    · rw [within_yes (by rw [tl0]; exact h2.1) (by rw [tl63]; exact h2.2), in_yes (by rw [ti64]; exact h2.1) (by rw [ti64]; exact h2.2), bnd, if_neg i10]
      exact ⟨1, rfl, rfl, Or.inl ⟨rfl, h1, h2⟩⟩
    · rw [within_no (by rw [tl0, tl63]; exact h2), in_no (by rw [ti64]; exact h2), bnd, if_pos rfl]
      exact ⟨0, rfl, rfl, Or.inr ⟨rfl, fun z => h2 z.2⟩⟩
  · rw [within_no (by rw [tl0, tl49]; exact h1), in_no (by rw [ti64]; exact h1), bnd, bnd, if_pos rfl, if_pos rfl]
    exact ⟨0, rfl, rfl, Or.inr ⟨rfl, fun z => h1 z.1⟩⟩
theorem loud_eq (l : Int32) : ∃ v, f_X10_isLoud l = some v ∧ f_X11_isLoud l = some v ∧ ((v = 1 ∧ rg l 1 50) ∨ (v = 0 ∧ ¬ rg l 1 50)) := by
  unfold f_X10_isLoud f_X11_isLoud
  by_cases h1 : rg l 1 50
  · rw [within_yes (by rw [tl1]; exact h1.1) (by rw [tl50]; exact h1.2), in_yes (by rw [ti64]; exact h1.1) (by rw [ti64]; exact h1.2), bnd, gd_t jz1]
    exact ⟨1, rfl, rfl, Or.inl ⟨rfl, h1⟩⟩
  · rw [within_no (by rw [tl1, tl50]; exact h1), in_no (by rw [ti64]; exact h1), bnd, gd_t jz0]
    exact ⟨0, rfl, rfl, Or.inr ⟨rfl, h1⟩⟩
theorem momX : momNm (jn nmX [57, 31, 32, 33, 34, 35, 36, 37, 38, 39, 40, 41, 42, 43, 44, 45, 46, 47, 58, 59, 60, 61]) 57 := ⟨⟨rfl, rfl, rfl, rfl, rfl, rfl, rfl, rfl⟩, rfl, rfl, rfl, rfl⟩
theorem momT : momNm (jn nmX [62, 31, 32, 33, 34, 35, 36, 37, 38, 39, 40, 41, 42, 43, 44, 45, 46, 47, 63, 64, 65, 66]) 62 := ⟨⟨rfl, rfl, rfl, rfl, rfl, rfl, rfl, rfl⟩, rfl, rfl, rfl, rfl⟩
theorem sok {n m b : Nat} {σ : jS} (hS : RSite n m σ) (hM : RMom n b σ) : SoundOk σ b n := by
  obtain ⟨⟨h1, h2⟩, ⟨a1, a2, a3, a4, a5⟩, -, -, -, -, q, -⟩ := hS
  exact ⟨h1, a1, a3, a4, fun l hl => ⟨(q l hl).1.1, (q l hl).2.1.1, (q l hl).2.2.1, hM.1 l hl⟩, hM.2.2.1⟩
theorem mok {n m : Nat} {σ : jS} (hS : RSite n m σ) (hN : RNow n σ) : ∀ l, l < n → rg (g_i σ 102 (4 * l)) 0 49 ∧ rg (g_i σ 102 (4 * l + 1)) 0 63 ∧ rg (g_i σ 102 (4 * l + 2)) 0 9 ∧ rg (g_i σ 102 (4 * l + 3)) 0 5 := by
  intro l hl
  obtain ⟨q1, q2, q3⟩ := hS.2.2.2.2.2.2.1 l hl
  rw [q1.2, q2.2, q3.2, hN.2.1 l hl]
  exact ⟨q1.1, hN.1.1 l hl, q2.1, q3.1⟩
theorem hdm_hd {n m : Nat} {σ : jS} (hS : RSite n m σ) (hN : RNow n σ) {l : Nat} (hl : l < n) (cold p nt lo : Int) (hc : cold = (g_i σ 57 6).toInt) : hdm σ cold p nt lo l = hd σ 57 p nt lo l := by
  obtain ⟨q1, q2, q3⟩ := hS.2.2.2.2.2.2.1 l hl
  rw [hd_eq _ rfl q2.1.1]
  unfold hdm hdg
  rw [q1.2, q2.2, q3.2, hN.2.1 l hl, hc]
theorem mwakes {n m : Nat} {σ : jS} {p nt lo cold : Int32} (hS : RSite n m σ) (hN : RNow n σ) (hc : cold = g_i σ 57 6) (hp : rg p 0 49) (hnt : rg nt 0 63) (hlo : rg lo 1 50) : f_X11_wakesBy nmM p nt lo cold σ = some (nI (bs (hd σ 57 p.toInt nt.toInt lo.toInt) n)) := by
  subst hc
  rw [wakesBy_eq hS.1.1 hS.2.1.2.2.2.2 (mok hS hN) hN.1.2.2.1 hp hnt hlo]
  rw [bs_cong (fun l hl => hdm_hd hS hN hl _ _ _ _ rfl)]
theorem st_wakes (p nt lo : Int32) : sPP Rel (fun σ => f_X10_wakes nmX p nt lo σ) (fun σ => f_X11_wakes nmM p nt lo σ) := by
  rintro σ ⟨n, m, hSi, hN, -⟩
  show ∃ r, f_X10_wakes nmX p nt lo σ = some r ∧ f_X11_wakes nmM p nt lo σ = some r
  unfold f_X10_wakes f_X11_wakes
  obtain ⟨v, e1, e2, hv⟩ := spot_eq p nt
  obtain ⟨w, e3, e4, hw⟩ := loud_eq lo
  rw [e1, e2, bnd, bnd]
  rcases hv with ⟨rfl, hp, hnt⟩ | ⟨rfl, -⟩
  · rw [if_neg i10, if_neg i10, e3, e4, bnd, bnd]
    rcases hw with ⟨rfl, hlo⟩ | ⟨rfl, -⟩
    · rw [if_neg i10, if_neg i10, woken_eq momX (sok hSi hN.1) hp hnt hlo, bnd]
      have e : g_i σ (nmM 0) 15 = g_i σ 57 6 := hN.2.2.2.2.1
      rw [mwakes hSi hN e hp hnt hlo, bnd]
      exact ⟨_, rfl, rfl⟩
    · rw [if_pos rfl, if_pos rfl]; exact ⟨_, rfl, rfl⟩
  · rw [if_pos rfl, if_pos rfl]; exact ⟨_, rfl, rfl⟩
theorem burn_lit {n m : Nat} {σ : jS} (hS : RSite n m σ) (hN : RNow n σ) : bs (fun l => decide (0 < (g_i σ (57 + 2) l).toInt)) 10 = bs (litf σ 0) n := by
  rw [bs_ext (n := n) hS.1.1 (fun l h1 h2 => ?_)]
  · refine bs_cong (fun l hl => ?_)
    have := hS.1.1
    unfold litf
    rw [(hN.2.2.1 l (by omega)).1, decide_eq_true (show (0 : Int32) = 0 from rfl), Bool.true_or, Bool.and_true]
  · have e : g_i σ (57 + 2) l = 0 := (hN.1.2.1 l h2).2.2 h1
    rw [e]; rfl
theorem seen_lit {n m : Nat} {σ : jS} (hS : RSite n m σ) (hN : RNow n σ) : bs (seenf σ 57) 10 = bs (litf σ 1) n := by
  rw [bs_ext (n := n) hS.1.1 (fun l h1 h2 => ?_)]
  · refine bs_cong (fun l hl => ?_)
    have := hS.1.1
    unfold litf seenf
    rw [(hN.2.2.1 l (by omega)).1, (hN.2.2.1 l (by omega)).2.1, hS.2.2.2.2.1.2, decide_eq_false i10, Bool.false_or]
  · have e : g_i σ (57 + 2) l = 0 := (hN.1.2.1 l h2).2.2 h1
    unfold seenf
    rw [e]; rfl
theorem st_lit (a : Int32) : sPP Rel (fun σ => f_X10_lit nmX a σ) (fun σ => f_X11_lit nmM a σ) := by
  rintro σ ⟨n, m, hSi, hN, -⟩
  show ∃ r, f_X10_lit nmX a σ = some r ∧ f_X11_lit nmM a σ = some r
  unfold f_X10_lit f_X11_lit
  by_cases h0 : a = 0
  · rw [if_pos h0, if_pos h0, burning_eq momX, lit_eq hSi.2.1.2.2.2.2 hSi.1.1, bnd, bnd, burn_lit hSi hN]
    exact ⟨_, rfl, rfl⟩
  · rw [if_neg h0, if_neg h0]
    by_cases h1 : a = 1
    · rw [if_pos h1, if_pos h1, seen_eq momX, lit_eq hSi.2.1.2.2.2.2 hSi.1.1, bnd, bnd, seen_lit hSi hN]
      exact ⟨_, rfl, rfl⟩
    · rw [if_neg h1, if_neg h1]; exact ⟨_, rfl, rfl⟩
theorem m_sh {σ : jS} {c : Nat} {v : Int32} (h : g_i σ 101 38 = nI c) (hc : c ≤ 8) : wp ((lp (f_X11_shows_L8 nmM v σ) fu 0).bind (fun x => match x with
    | .inl _ => some (-1)
    | .inr a => some a)) (fst_at (g_i σ 116) v c) := by
  refine wp_bind ?_
  refine wp_up c (fun i s => s = nI i ∧ ∀ j, j < i → g_i σ 116 j ≠ v) (i := 0) (by omega) (by omega) ⟨rfl, fun j hj => absurd hj (Nat.not_lt_zero j)⟩ ?_
  rintro i s hi ⟨rfl, hm⟩
  unfold f_X11_shows_L8
  have h' : g_i σ (nmM 0) 38 = nI c := h
  rw [h']
  refine wp_ite (fun hc2 => ?_) (fun hc2 => ?_)
  · rw [nI_le' (by omega) (by omega)] at hc2
    exact wp_some (wp_some (Or.inr ⟨fun j hj => hm j (by omega), rfl⟩))
  · rw [nI_le' (by omega) (by omega)] at hc2
    refine wp_gd (nI_in' (by omega) (by omega)) ?_
    rw [nI_cl (by omega)]
    refine wp_ite (fun he => ?_) (fun he => ?_)
    · exact wp_some (wp_some (Or.inl ⟨i, by omega, he, hm, rfl⟩))
    · refine wp_some ⟨by omega, nI_1 i, fun j hj => ?_⟩
      by_cases hj2 : j = i
      · rw [hj2]; exact he
      · exact hm j (by omega)
theorem fst_cong {g h : Nat → Int32} {v : Int32} {n : Nat} {r : Int32} (e : ∀ k, k < n → g k = h k) (hf : fst_at g v n r) : fst_at h v n r := by
  rcases hf with ⟨k, hk, e1, m1, rfl⟩ | ⟨m1, rfl⟩
  · exact Or.inl ⟨k, hk, (e k hk).symm.trans e1, fun j hj z => m1 j hj ((e j (by omega)).trans z), rfl⟩
  · exact Or.inr ⟨fun j hj z => m1 j hj ((e j hj).trans z), rfl⟩
theorem st_shows : sPP Rel (fun σ => f_X10_shows nmX σ) (fun σ => f_X11_shows nmM σ) := by
  rintro σ ⟨n, m, hSi, hN, -, -, hSg, -⟩
  show ∃ r, f_X10_shows nmX σ = some r ∧ f_X11_shows nmM σ = some r
  obtain ⟨c, hc, ⟨l1, l2⟩, hv⟩ := hSg
  unfold f_X10_shows f_X11_shows
  rw [seen_eq momX, lit_eq hSi.2.1.2.2.2.2 hSi.1.1, bnd, bnd, seen_lit hSi hN]
  obtain ⟨r, e1, h1⟩ : wp (f_X4_indexOf (jn nmX [77, 78]) 8 (nI (bs (litf σ 1) n)) σ) (fst_at (g_i σ 78) (nI (bs (litf σ 1) n)) c) := row_ix l1 hc (by omega)
  obtain ⟨s, e2, h2⟩ := m_sh (v := nI (bs (litf σ 1) n)) l2 hc
  have hrs := fst_at_one h1 (fst_cong (fun k hk => (hv k hk).2) h2)
  subst hrs
  rw [e1, bnd]
  exact ⟨r, rfl, e2⟩
theorem st_lamp (a w : Int32) : sPP Rel (fun σ => f_X10_lamp nmX a w σ) (fun σ => f_X11_lamp nmM a w σ) := by
  rintro σ ⟨n, m, hSi, hN, -⟩
  show ∃ r, f_X10_lamp nmX a w σ = some r ∧ f_X11_lamp nmM a w σ = some r
  have hn := hSi.1.1
  have s1 := hSi.2.1.1
  have s5 := hSi.2.1.2.2.2.2
  unfold f_X10_lamp f_X11_lamp
  by_cases ha : ∃ l, l < n ∧ a = nI l
  · obtain ⟨l, hl, rfl⟩ := ha
    have hin : vp_in (nI l) 10 := nI_in' (by omega) (by omega)
    obtain ⟨q1, q2, q3⟩ := hSi.2.2.2.2.2.2.1 l hl
    have r0 : f_X4_at (jn nmX [32, 33]) 10 (nI l) σ = some (g_i σ 33 l) := row_atI (n := n) s1 hn (by omega) hl
    have r2 : f_X4_at (jn nmX [36, 37]) 10 (nI l) σ = some (g_i σ 37 l) := row_atI (n := n) hSi.2.1.2.2.1 hn (by omega) hl
    have r3 : f_X4_at (jn nmX [38, 39]) 10 (nI l) σ = some (g_i σ 39 l) := row_atI (n := n) hSi.2.1.2.2.2.1 hn (by omega) hl
    have hc4 : ∀ c, c < 4 → (4 * nI l + nI c).toNatClampNeg = 4 * l + c := fun c hc => nI_41c (by omega)
    have hi4 : ∀ c, c < 4 → vp_in (4 * nI l + nI c) 40 := fun c hc => nI_41 (by omega) (by omega)
    rw [xl_yes s1 hn hl, ml_yes s5 hn hl, bnd, bnd, if_neg i10, if_neg i10]
    by_cases h0 : w = 0
    · subst h0
      rw [if_pos rfl, if_pos rfl, r0, bnd]
      have e1 : (4 * nI l + 0).toNatClampNeg = 4 * l + 0 := hc4 0 (by omega)
      have e2 : vp_in (4 * nI l + 0) 40 := hi4 0 (by omega)
      rw [gd_t e2, e1]
      exact ⟨_, rfl, congrArg some q1.2⟩
    rw [if_neg h0, if_neg h0]
    by_cases h1 : w = 1
    · subst h1
      rw [if_pos rfl, if_pos rfl, gd_t hin, nI_cl (by omega)]
      have e1 : (4 * nI l + 1).toNatClampNeg = 4 * l + 1 := hc4 1 (by omega)
      have e2 : vp_in (4 * nI l + 1) 40 := hi4 1 (by omega)
      rw [gd_t e2, e1]
      exact ⟨_, rfl, congrArg some (hN.2.1 l hl)⟩
    rw [if_neg h1, if_neg h1]
    by_cases h2 : w = 2
    · subst h2
      rw [if_pos rfl, if_pos rfl, r2, bnd]
      have e1 : (4 * nI l + 2).toNatClampNeg = 4 * l + 2 := hc4 2 (by omega)
      have e2 : vp_in (4 * nI l + 2) 40 := hi4 2 (by omega)
      rw [gd_t e2, e1]
      exact ⟨_, rfl, congrArg some q2.2⟩
    rw [if_neg h2, if_neg h2]
    by_cases h3 : w = 3
    · subst h3
      rw [if_pos rfl, if_pos rfl, r3, bnd]
      have e1 : (4 * nI l + 3).toNatClampNeg = 4 * l + 3 := hc4 3 (by omega)
      have e2 : vp_in (4 * nI l + 3) 40 := hi4 3 (by omega)
      rw [gd_t e2, e1]
      exact ⟨_, rfl, congrArg some q3.2⟩
    rw [if_neg h3, if_neg h3]
    by_cases h4 : w = 4
    · rw [if_pos h4, if_pos h4]
      obtain ⟨v, hv, rfl, -⟩ := ear_eq momX (sok hSi hN.1) hl
      rw [hv, bnd]
      unfold f_X11_earOf
      have e1 : (4 * nI l + 1).toNatClampNeg = 4 * l + 1 := hc4 1 (by omega)
      have e2 : vp_in (4 * nI l + 1) 40 := hi4 1 (by omega)
      have e3 : (4 * nI l + 3).toNatClampNeg = 4 * l + 3 := hc4 3 (by omega)
      have e4 : vp_in (4 * nI l + 3) 40 := hi4 3 (by omega)
      rw [gd_t e2, gd_t e4, e1, e3, bnd]
      have f1 : g_i σ (nmM 1) (4 * l + 1) = g_i σ 58 l := hN.2.1 l hl
      have f2 : g_i σ (nmM 1) (4 * l + 3) = g_i σ 39 l := q3.2
      have f3 : g_i σ (nmM 0) 15 = g_i σ 57 6 := hN.2.2.2.2.1
      rw [f1, f2, f3]
      exact ⟨_, rfl, rfl⟩
    rw [if_neg h4, if_neg h4]
    obtain ⟨z1, z2, z3⟩ := hN.2.2.1 l (by omega)
    by_cases h5 : w = 5
    · rw [if_pos h5, if_pos h5, gd_t hin, gd_t hin, nI_cl (by omega)]
      exact ⟨_, rfl, congrArg some z1⟩
    rw [if_neg h5, if_neg h5]
    by_cases h6 : w = 6
    · rw [if_pos h6, if_pos h6, gd_t hin, gd_t hin, nI_cl (by omega)]
      exact ⟨_, rfl, congrArg some z2⟩
    rw [if_neg h6, if_neg h6]
    by_cases h7 : w = 7
    · rw [if_pos h7, if_pos h7, gd_t hin, gd_t hin, nI_cl (by omega)]
      exact ⟨_, rfl, congrArg some (z3 hl)⟩
    rw [if_neg h7, if_neg h7]
    exact ⟨_, rfl, rfl⟩
  · rw [xl_no s1 hn ha, ml_no s5 hn ha, bnd, bnd, if_pos rfl, if_pos rfl]
    exact ⟨_, rfl, rfl⟩
