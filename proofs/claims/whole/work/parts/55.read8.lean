theorem tl48' : (48 : Int64).toInt = 48 := by decide
theorem tl57' : (57 : Int64).toInt = 57 := by decide
/-- digits, reference side -/
theorem mnum_lp {c q r : Nat} {lo hi : Int32} {σ : jS} (hc : c ≤ 400) (e1 : g_i σ 101 19 = nI c) (hq : q ≤ c) (ep : g_i σ 101 21 = nI q) (e24 : g_i σ 101 24 = 0) (hr : r = advF bDig (g_i σ 109) (c - q) q) : wp (lp (f_X11_takeNumber_L42 nmM lo hi) fu σ) (fun τ => ∃ w, (r - q ≤ 3 → w = nmF (g_i σ 109) (r - q) q 0) ∧ τ = s_i (s_i σ 101 24 w) 101 21 (nI r)) := by
  refine wp_lp (fun n s => ∃ t y, t + n = c ∧ q ≤ t ∧ s = s_i (s_i σ 101 24 y) 101 21 (nI t) ∧ advF bDig (g_i σ 109) n t = r ∧ (t - q ≤ 3 → ∃ Y, y = nI Y ∧ Y < 10 ^ (t - q)) ∧ (r - q ≤ 3 → nmF (g_i σ 109) (r - t) t y = nmF (g_i σ 109) (r - q) q 0)) (n := c - q) (by omega) ⟨q, 0, by omega, Nat.le_refl _, by rw [s_i_same e24, s_i_same ep], hr.symm, fun _ => ⟨0, rfl, Nat.pow_pos (by omega)⟩, fun _ => rfl⟩ ?_
  rintro n s ⟨t, y, ht, hqt, rfl, hadv, hY, hnm⟩
  have hb := advF_le bDig (g_i σ 109) n t
  unfold f_X11_takeNumber_L42
  have ez : g_i (s_i (s_i σ 101 24 y) 101 21 (nI t)) (nmM 0) 19 = nI c := (s_i_k (show (19 : Nat) ≠ 21 by decide)).trans ((s_i_k (show (19 : Nat) ≠ 24 by decide)).trans e1)
  have et : g_i (s_i (s_i σ 101 24 y) 101 21 (nI t)) (nmM 0) 21 = nI t := s_i_eq _ _ _ _
  have e4 : g_i (s_i (s_i σ 101 24 y) 101 21 (nI t)) (nmM 0) 24 = y := (s_i_k (show (24 : Nat) ≠ 21 by decide)).trans (s_i_eq _ _ _ _)
  rw [ez, et, e4]
  refine wp_ite (fun hc' => ?_) (fun hc' => ?_)
  · rw [nI_le' (by omega) (by omega)] at hc'
    have : n = 0 := by omega
    subst this
    have htr : t = r := hadv
    subst htr
    refine wp_some ⟨y, fun h => ?_, rfl⟩
    have := hnm h
    rw [Nat.sub_self] at this
    exact this
  · rw [nI_le' (by omega) (by omega)] at hc'
    obtain ⟨n, rfl⟩ : ∃ u, n = u + 1 := ⟨n - 1, by omega⟩
    refine wp_gd (nI_in' (by omega) (by omega)) ?_
    have ea : g_i (s_i (s_i σ 101 24 y) 101 21 (nI t)) (nmM 8) (nI t).toNatClampNeg = g_i σ 109 t := by rw [nI_cl (by omega)]; rfl
    rw [ea]
    have hadv : (if bDig (g_i σ 109 t) = true then advF bDig (g_i σ 109) n (t + 1) else t) = r := hadv
    by_cases hl : 48 ≤ (g_i σ 109 t).toInt ∧ (g_i σ 109 t).toInt ≤ 57
    · rw [if_pos (show bDig (g_i σ 109 t) = true from decide_eq_true hl)] at hadv
      have hb2 := advF_le bDig (g_i σ 109) n (t + 1)
      refine wp_bindE (in_yes (by rw [ti64, tl48']; exact hl.1) (by rw [ti64, tl57']; exact hl.2)) ?_
      rw [if_neg i10]
      have ey : (if y ≤ 10000 then gd (vp_in (nI t) 400) (some (((10 * y) + (g_i σ 109 t)) - 48)) else some y) = some (if y ≤ 10000 then ((10 * y) + (g_i σ 109 t)) - 48 else y) := by
        by_cases hg : y ≤ 10000
        · rw [if_pos hg, if_pos hg, gd_t (nI_in' (by omega) (by omega))]
        · rw [if_neg hg, if_neg hg]
      refine wp_bindE ey ?_
      obtain ⟨D, hD, eD⟩ := rg_nI (x := g_i σ 109 t) (hi := 57) ⟨by omega, hl.2⟩
      have hD48 : 48 ≤ D := by have := hl.1; rw [eD, nI_ti (by omega)] at this; omega
      have hstep : t - q ≤ 2 → ∃ Y, (if y ≤ 10000 then ((10 * y) + (g_i σ 109 t)) - 48 else y) = (y * 10 + g_i σ 109 t) - 48 ∧ (y * 10 + g_i σ 109 t) - 48 = nI Y ∧ Y < 10 ^ (t + 1 - q) := fun h2 => by
        obtain ⟨Y, rfl, hYb⟩ := hY (by omega)
        have hp : (10 : Nat) ^ (t + 1 - q) = 10 * 10 ^ (t - q) := by rw [Nat.sub_add_comm hqt, Nat.pow_succ, Nat.mul_comm]
        have hp2 : (10 : Nat) ^ (t - q) ≤ 10 ^ 2 := Nat.pow_le_pow_right (by omega) h2
        have hle : nI Y ≤ 10000 := by
          show nI Y ≤ nI 10000
          rw [nI_le' (by omega) (by omega)]; omega
        have hmul : (10 : Int32) * nI Y = nI (10 * Y) := nI_mul 10 Y
        refine ⟨10 * Y + D - 48, by rw [if_pos hle, Int32.mul_comm], ?_, by omega⟩
        rw [Int32.mul_comm, hmul, eD, nI_add]
        exact nI_sb (a := 10 * Y + D) (b := 48) (by omega)
      generalize hy' : (if y ≤ 10000 then ((10 * y) + (g_i σ 109 t)) - 48 else y) = y' at hstep ⊢
      unfold f_X11_takeNumber_J113
      refine wp_bd (fun s8 h8 => wp_bd (fun s9 h9 => wp_some ⟨n, by omega, t + 1, y', by omega, by omega, ?_, hadv, fun h => ?_, fun h => ?_⟩))
      · have q8 : s8 = s_i (s_i (s_i σ 101 24 y) 101 21 (nI t)) 101 24 y' := h8
        have q9 : s9 = s_i s8 101 21 (nI t + 1) := h9.trans (congrArg (fun z => s_i s8 101 21 (z + 1)) (by rw [q8]; exact (s_i_k (show (21 : Nat) ≠ 24 by decide)).trans (s_i_eq _ _ _ _)))
        rw [q9, q8, nI_1]
        refine s_i_ext (fun b j => ?_) rfl
        by_cases h1 : b = 101 ∧ j = 21
        · rw [h1.1, h1.2, s_i_eq, s_i_eq]
        · rw [s_i_ne h1, s_i_ne h1]
          by_cases h2 : b = 101 ∧ j = 24
          · rw [h2.1, h2.2, s_i_eq, s_i_eq]
          · rw [s_i_ne h2, s_i_ne h1, s_i_ne h2, s_i_ne h2]
      · obtain ⟨Y, a1, a2, a3⟩ := hstep (by omega)
        exact ⟨Y, a1.trans a2, a3⟩
      · obtain ⟨Y, a1, a2, a3⟩ := hstep (by omega)
        rw [← hnm h, a1, show r - t = (r - (t + 1)) + 1 by omega]; rfl
    · rw [if_neg (show ¬ bDig (g_i σ 109 t) = true from fun h => hl (of_decide_eq_true h))] at hadv
      subst hadv
      refine wp_bindE (in_no (by rw [ti64, tl48', tl57']; exact hl)) ?_
      rw [if_pos rfl]
      refine wp_some ⟨y, fun h => ?_, rfl⟩
      have := hnm h
      rw [Nat.sub_self] at this
      exact this
