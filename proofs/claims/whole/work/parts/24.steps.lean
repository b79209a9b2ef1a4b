theorem bnd {α β : Type} {a : α} {f : α → Option β} : (some a).bind f = f a := rfl
theorem bdx {α β : Type} {e : β} {k : β → Option α} : bd e k = k e := rfl
theorem i10 : ¬ (1 : Int32) = 0 := by decide
theorem st_log (a : Int32) : sII Rel (fun σ => f_X10_log nmX a σ) (fun σ => f_X11_log nmM a σ) := by
  rintro σ ⟨n, m, hSi, hN, hSo, hD, hSg, hL, hI0, hI1, hT, hF, hTo⟩
  have hn := hSi.1.1
  have s1 := hSi.2.1.1
  have s5 := hSi.2.1.2.2.2.2
  by_cases ha : ∃ S, S < 2 ^ n ∧ a = nI S
  · obtain ⟨S, hS, rfl⟩ := ha
    obtain ⟨c, hc, ⟨l1, l2⟩, hv⟩ := hL
    have hfull : f_X4_isFull (jn nmX [79, 80]) 40 σ = some (if c < 40 then 0 else 1) := row_full l1 hc (by omega)
    by_cases h40 : c < 40
    · have hput : f_X4_put (jn nmX [79, 80]) 40 (nI S) σ = some (s_i (s_i σ 80 c (nI S)) 79 1 (nI (c + 1))) := row_put (by decide) l1 h40 (by omega)
      refine ⟨nI (c + 1), s_i (s_i σ 80 c (nI S)) 79 1 (nI (c + 1)), s_i (s_i (s_i (s_i σ 80 c (nI S)) 79 1 (nI (c + 1))) 124 c (nI S)) 101 47 (nI (c + 1)), ?_, ?_, ?_⟩
      · show f_X10_log nmX (nI S) σ = _
        unfold f_X10_log
        rw [xk_yes s1 hn hS, bnd, if_neg i10, hfull, if_pos h40, bnd, if_pos rfl, hput]
        rfl
      · generalize hσ1 : s_i (s_i σ 80 c (nI S)) 79 1 (nI (c + 1)) = σ1
        have s5' : g_i σ1 101 0 = nI n := by rw [← hσ1]; exact s5
        have l2' : g_i σ1 (nmM 0) 47 = nI c := by rw [← hσ1]; exact l2
        show f_X11_log nmM (nI S) σ1 = _
        unfold f_X11_log
        rw [mk_yes s5' hn hS, bnd, if_neg i10, l2', if_neg (fun z => by have z := (nI_inj (by omega) (by omega)).mp (show nI c = nI 40 from z); omega), gd_t (nI_in' h40 (by omega)), nI_cl (by omega), bdx, bdx]
        have e : g_i (s_i σ1 (nmM 23) c (nI S)) (nmM 0) 47 = nI c := l2'
        rw [e, nI_1]
        rfl
      · refine ⟨n, m, hSi, hN, hSo, hD, hSg, ⟨c + 1, by omega, ⟨rfl, rfl⟩, fun k hk => ?_⟩, hI0, hI1, hT, hF, hTo⟩
        by_cases hkc : k = c
        · subst hkc
          exact (s_i_eq (s_i (s_i σ 80 k (nI S)) 79 1 (nI (k + 1))) 124 k (nI S)).trans (s_i_eq σ 80 k (nI S)).symm
        · exact (s_i_k hkc).trans ((hv k (by omega)).trans (s_i_k (σ := σ) hkc).symm)
    · refine ⟨-1004, σ, σ, ?_, ?_, n, m, hSi, hN, hSo, hD, hSg, ⟨c, hc, ⟨l1, l2⟩, hv⟩, hI0, hI1, hT, hF, hTo⟩
      · show f_X10_log nmX (nI S) σ = _
        unfold f_X10_log
        rw [xk_yes s1 hn hS, bnd, if_neg i10, hfull, if_neg h40, bnd, if_neg i10]
      · show f_X11_log nmM (nI S) σ = _
        have l2' : g_i σ (nmM 0) 47 = nI c := l2
        unfold f_X11_log
        rw [mk_yes s5 hn hS, bnd, if_neg i10, l2', if_pos (show nI c = (40 : Int32) from (nI_inj (a := c) (b := 40) (by omega) (by omega)).mpr (by omega))]
  · refine ⟨-1001, σ, σ, ?_, ?_, n, m, hSi, hN, hSo, hD, hSg, hL, hI0, hI1, hT, hF, hTo⟩
    · show f_X10_log nmX a σ = _
      unfold f_X10_log
      rw [xk_no s1 hn ha, bnd, if_pos rfl]
    · show f_X11_log nmM a σ = _
      unfold f_X11_log
      rw [mk_no s5 hn ha, bnd, if_pos rfl]
theorem m_ix {σ : jS} {c : Nat} {v : Int32} (h : g_i σ 101 38 = nI c) (hc : c ≤ 8) : wp (lp (f_X11_signal_L14 nmM v σ) fu 0) (fun x => ((∀ j, j < c → g_i σ 116 j ≠ v) ∧ x = .inl ()) ∨ ((∃ j, j < c ∧ g_i σ 116 j = v) ∧ x = .inr (-1003, σ))) := by
  refine wp_up c (fun i s => s = nI i ∧ ∀ j, j < i → g_i σ 116 j ≠ v) (i := 0) (by omega) (by omega) ⟨rfl, fun j hj => absurd hj (Nat.not_lt_zero j)⟩ ?_
  rintro i s hi ⟨rfl, hm⟩
  unfold f_X11_signal_L14
  have h' : g_i σ (nmM 0) 38 = nI c := h
  rw [h']
  refine wp_ite (fun hc2 => ?_) (fun hc2 => ?_)
  · rw [nI_le' (by omega) (by omega)] at hc2
    exact wp_some (Or.inl ⟨fun j hj => hm j (by omega), rfl⟩)
  · rw [nI_le' (by omega) (by omega)] at hc2
    refine wp_gd (nI_in' (by omega) (by omega)) ?_
    rw [nI_cl (by omega)]
    refine wp_ite (fun he => ?_) (fun he => ?_)
    · exact wp_some (Or.inr ⟨⟨i, by omega, he⟩, rfl⟩)
    · refine wp_some ⟨by omega, nI_1 i, fun j hj => ?_⟩
      by_cases hj2 : j = i
      · rw [hj2]; exact he
      · exact hm j (by omega)
theorem nI_ne_m1 {k : Nat} (hk : k < 2147483648) : ¬ nI k = -1 := by
  intro h
  have h2 : (nI k).toInt = (-1 : Int32).toInt := by rw [h]
  rw [nI_ti hk] at h2
  have h3 : (-1 : Int32).toInt = -1 := by decide
  omega
theorem st_signal (a : Int32) : sII Rel (fun σ => f_X10_signal nmX a σ) (fun σ => f_X11_signal nmM a σ) := by
  rintro σ ⟨n, m, hSi, hN, hSo, hD, hSg, hL, hI0, hI1, hT, hF, hTo⟩
  have hn := hSi.1.1
  have s1 := hSi.2.1.1
  have s5 := hSi.2.1.2.2.2.2
  by_cases ha : ∃ S, S < 2 ^ n ∧ a = nI S
  · obtain ⟨S, hS, rfl⟩ := ha
    have hp := pow10 hn
    obtain ⟨c, hc, ⟨l1, l2⟩, hv⟩ := hSg
    have hfull : f_X4_isFull (jn nmX [77, 78]) 8 σ = some (if c < 8 then 0 else 1) := row_full l1 hc (by omega)
    obtain ⟨ix, hix, hfa⟩ : wp (f_X4_indexOf (jn nmX [77, 78]) 8 (nI S) σ) (fst_at (g_i σ 78) (nI S) c) := row_ix l1 hc (by omega)
    rcases hfa with ⟨k, hk, he, -, rfl⟩ | ⟨hno, rfl⟩
    · refine ⟨-1003, σ, σ, ?_, ?_, n, m, hSi, hN, hSo, hD, ⟨c, hc, ⟨l1, l2⟩, hv⟩, hL, hI0, hI1, hT, hF, hTo⟩
      · show f_X10_signal nmX (nI S) σ = _
        unfold f_X10_signal
        rw [xk_yes s1 hn hS, bnd, if_neg i10, hix, bnd, if_neg (nI_ne_m1 (by omega))]
      · show f_X11_signal nmM (nI S) σ = _
        unfold f_X11_signal
        obtain ⟨x, hx, hq⟩ := m_ix (v := nI S) l2 hc
        rw [mk_yes s5 hn hS, bnd, if_neg i10, hx, bnd]
        rcases hq with ⟨h1, -⟩ | ⟨-, rfl⟩
        · exact absurd ((hv k hk).2.trans he) (h1 k hk)
        · rfl
    · by_cases h40 : c < 8
      · have hput : f_X4_put (jn nmX [77, 78]) 8 (nI S) σ = some (s_i (s_i σ 78 c (nI S)) 77 1 (nI (c + 1))) := row_put (by decide) l1 h40 (by omega)
        refine ⟨nI c, s_i (s_i σ 78 c (nI S)) 77 1 (nI (c + 1)), s_i (s_i (s_i (s_i σ 78 c (nI S)) 77 1 (nI (c + 1))) 116 c (nI S)) 101 38 (nI (c + 1)), ?_, ?_, ?_⟩
        · show f_X10_signal nmX (nI S) σ = _
          unfold f_X10_signal
          rw [xk_yes s1 hn hS, bnd, if_neg i10, hix, bnd, if_pos rfl, hfull, if_pos h40, bnd, if_pos rfl, hput, bnd]
          show some (nI (c + 1) - 1, _) = _
          rw [nI_pred]
        · generalize hσ1 : s_i (s_i σ 78 c (nI S)) 77 1 (nI (c + 1)) = σ1
          have s5' : g_i σ1 101 0 = nI n := by rw [← hσ1]; exact s5
          have l2' : g_i σ1 101 38 = nI c := by rw [← hσ1]; exact l2
          have hr' : ∀ j, j < c → g_i σ1 116 j ≠ nI S := by
            intro j hj; rw [← hσ1]
            exact fun z => hno j hj ((hv j hj).2.symm.trans z)
          show f_X11_signal nmM (nI S) σ1 = _
          unfold f_X11_signal
          obtain ⟨x, hx, hq⟩ := m_ix (v := nI S) l2' hc
          rw [mk_yes s5' hn hS, bnd, if_neg i10, hx, bnd]
          rcases hq with ⟨-, rfl⟩ | ⟨⟨j, hj, hje⟩, -⟩
          · have l2'' : g_i σ1 (nmM 0) 38 = nI c := l2'
            show (if g_i σ1 (nmM 0) 38 = 8 then _ else _) = _
            rw [l2'', if_neg (fun z => by have z := (nI_inj (by omega) (by omega)).mp (show nI c = nI 8 from z); omega), gd_t (nI_in' h40 (by omega)), nI_cl (by omega), bdx, bdx]
            have e : g_i (s_i σ1 (nmM 15) c (nI S)) (nmM 0) 38 = nI c := l2'
            rw [e, nI_1]
            show some (nI (c + 1) - 1, _) = _
            rw [nI_pred]
            rfl
          · exact absurd hje (hr' j hj)
        · refine ⟨n, m, hSi, hN, hSo, hD, ⟨c + 1, by omega, ⟨rfl, rfl⟩, fun k hk => ?_⟩, hL, hI0, hI1, hT, hF, hTo⟩
          by_cases hkc : k = c
          · subst hkc
            have e1 : g_i (s_i (s_i (s_i (s_i σ 78 k (nI S)) 77 1 (nI (k + 1))) 116 k (nI S)) 101 38 (nI (k + 1))) 78 k = nI S := s_i_eq σ 78 k (nI S)
            refine ⟨?_, (s_i_eq (s_i (s_i σ 78 k (nI S)) 77 1 (nI (k + 1))) 116 k (nI S)).trans e1.symm⟩
            rw [e1]
            refine nI_rg (by omega) (by omega) ?_
            have : ((2 ^ n : Nat) : Int) = (2 : Int) ^ n := by exact Int.natCast_pow 2 n
            omega
          · have e1 : g_i (s_i (s_i (s_i (s_i σ 78 c (nI S)) 77 1 (nI (c + 1))) 116 c (nI S)) 101 38 (nI (c + 1))) 78 k = g_i σ 78 k := s_i_k (σ := σ) hkc
            rw [e1]
            exact ⟨(hv k (by omega)).1, (s_i_k hkc).trans (hv k (by omega)).2⟩
      · refine ⟨-1004, σ, σ, ?_, ?_, n, m, hSi, hN, hSo, hD, ⟨c, hc, ⟨l1, l2⟩, hv⟩, hL, hI0, hI1, hT, hF, hTo⟩
        · show f_X10_signal nmX (nI S) σ = _
          unfold f_X10_signal
          rw [xk_yes s1 hn hS, bnd, if_neg i10, hix, bnd, if_pos rfl, hfull, if_neg h40, bnd, if_neg i10]
        · show f_X11_signal nmM (nI S) σ = _
          unfold f_X11_signal
          obtain ⟨x, hx, hq⟩ := m_ix (v := nI S) l2 hc
          rw [mk_yes s5 hn hS, bnd, if_neg i10, hx, bnd]
          rcases hq with ⟨-, rfl⟩ | ⟨⟨j, hj, hje⟩, -⟩
          · have l2'' : g_i σ (nmM 0) 38 = nI c := l2
            show (if g_i σ (nmM 0) 38 = 8 then _ else _) = _
            rw [l2'', if_pos (show nI c = (8 : Int32) from (nI_inj (a := c) (b := 8) (by omega) (by omega)).mpr (by omega))]
          · exact absurd ((hv j hj).2.symm.trans hje) (hno j hj)
  · refine ⟨-1001, σ, σ, ?_, ?_, n, m, hSi, hN, hSo, hD, hSg, hL, hI0, hI1, hT, hF, hTo⟩
    · show f_X10_signal nmX a σ = _
      unfold f_X10_signal
      rw [xk_no s1 hn ha, bnd, if_pos rfl]
    · show f_X11_signal nmM a σ = _
      unfold f_X11_signal
      rw [mk_no s5 hn ha, bnd, if_pos rfl]
theorem st_sweep (a : Int32) : sII Rel (fun σ => f_X10_sweep nmX a σ) (fun σ => f_X11_sweep nmM a σ) := by
  rintro σ ⟨n, m, hSi, hN, hSo, hD, hSg, hL, hI0, hI1, hT, hF, hTo⟩
  have hn := hSi.1.1
  have s1 := hSi.2.1.1
  have s5 := hSi.2.1.2.2.2.2
  by_cases ha : ∃ l, l < n ∧ a = nI l
  · obtain ⟨l, hl, rfl⟩ := ha
    have hin : vp_in (nI l) 10 := nI_in' (by omega) (by omega)
    obtain ⟨⟨m1, m2, m3, m4, m5⟩, n0, n1, n2⟩ := hN
    refine ⟨g_i σ 60 l, s_i σ 60 l 0, s_i (s_i σ 60 l 0) 104 l 0, ?_, ?_, n, m, hSi, ⟨⟨m1, ?_, m3, m4, m5⟩, n0, ?_, n2⟩, hSo, hD, hSg, hL, hI0, hI1, hT, hF, hTo⟩
    · show f_X10_sweep nmX (nI l) σ = _
      unfold f_X10_sweep
      rw [xl_yes s1 hn hl, bnd, if_neg i10, gd_t hin, bdx, gd_t hin, bdx, nI_cl (by omega)]
      rfl
    · generalize hσ1 : s_i σ 60 l 0 = σ1
      have s5' : g_i σ1 101 0 = nI n := by rw [← hσ1]; exact s5
      show f_X11_sweep nmM (nI l) σ1 = _
      unfold f_X11_sweep
      rw [ml_yes s5' hn hl, bnd, if_neg i10, gd_t hin, bdx, gd_t hin, bdx, nI_cl (by omega)]
      have e : g_i σ1 (nmM 3) l = g_i σ 60 l := by rw [← hσ1]; exact (n1 l (by omega)).2.1
      rw [e]
      rfl
    · intro k hk
      refine ⟨(m2 k hk).1, ?_, (m2 k hk).2.2⟩
      show rg (g_i (s_i σ 60 l 0) 60 k) 0 99
      by_cases hkl : k = l
      · rw [hkl, s_i_eq]; exact ⟨by decide, by decide⟩
      · rw [s_i_k hkl]; exact (m2 k hk).2.1
    · intro k hk
      refine ⟨(n1 k hk).1, ?_, (n1 k hk).2.2⟩
      show g_i (s_i (s_i σ 60 l 0) 104 l 0) 104 k = g_i (s_i σ 60 l 0) 60 k
      by_cases hkl : k = l
      · rw [hkl, s_i_eq, s_i_eq]
      · rw [s_i_k hkl, s_i_k hkl, s_i_k hkl]; exact (n1 k hk).2.1
  · refine ⟨-1001, σ, σ, ?_, ?_, n, m, hSi, hN, hSo, hD, hSg, hL, hI0, hI1, hT, hF, hTo⟩
    · show f_X10_sweep nmX a σ = _
      unfold f_X10_sweep
      rw [xl_no s1 hn ha, bnd, if_pos rfl]
    · show f_X11_sweep nmM a σ = _
      unfold f_X11_sweep
      rw [ml_no s5 hn ha, bnd, if_pos rfl]
