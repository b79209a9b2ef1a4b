/-- a number, class side -/
theorem xnum {nm : Nat → Nat} {c p q r : Nat} {lo hi w : Int32} {σ S : jS} (h0 : nm 0 = 30) (h1 : nm 1 = 1) (h2 : nm 2 = 2) (hc : c ≤ 400) (e1 : g_i σ 1 1 = nI c) (hp : p ≤ c) (ep : g_i σ 30 1 = nI p) (hq : q = advF b32 (g_i σ 2) (c - p) p) (hr : r = advF bDig (g_i σ 2) (c - q) q) (hw : w = nmF (g_i σ 2) (min 3 (r - q)) q 0) (hS : S = s_i (s_i (s_i σ 30 1 (nI q)) 30 3 (nI q)) 30 1 (nI r)) : (p ≤ q ∧ q ≤ r ∧ r ≤ c) ∧ f_X3_readNumber nm lo hi σ = (if r = q then (f_X3_fail nm 1 (nI q) S).bind (fun s => some (w, s)) else if 3 < r - q ∨ ¬ (lo.toInt ≤ w.toInt ∧ w.toInt ≤ hi.toInt) then (f_X3_fail nm 2 (nI q) S).bind (fun s => some (w, s)) else some (w, S)) := by
  have a1 := advF_le b32 (g_i σ 2) (c - p) p
  have a2 := advF_le bDig (g_i σ 2) (c - q) q
  rw [← hq] at a1
  rw [← hr] at a2
  refine ⟨by omega, ?_⟩
  unfold f_X3_readNumber
  rw [xskip h0 h1 h2 hc e1 hp ep, bnd, bdx, ← hq, h0, s_i_eq]
  have k1 : g_i (s_i (s_i σ 30 1 (nI q)) 30 3 (nI q)) 30 1 = nI q := (s_i_k (show (1 : Nat) ≠ 3 by decide)).trans (s_i_eq _ _ _ _)
  have k2 : g_i (s_i (s_i σ 30 1 (nI q)) 30 3 (nI q)) 1 1 = nI c := e1
  have k3 : g_i (s_i (s_i σ 30 1 (nI q)) 30 3 (nI q)) 30 3 = nI q := s_i_eq _ _ _ _
  rw [xnum_lp (r := r) h0 h1 h2 hc k2 (by omega) k1 k3 hr, bnd]
  show f_X3_readNumber_J95 nm lo hi (nmF (g_i σ 2) (min 3 (r - q)) q 0) _ = _
  rw [← hw, ← hS]
  have g1 : g_i S 30 1 = nI r := by rw [hS]; exact s_i_eq _ _ _ _
  have g3 : g_i S 30 3 = nI q := by rw [hS]; exact (s_i_k (show (3 : Nat) ≠ 1 by decide)).trans k3
  have ef : ∀ v : Int32, (f_X3_failAtNumber nm v S) = f_X3_fail nm v (nI q) S := fun v => by
    unfold f_X3_failAtNumber
    rw [h0, g3]
    cases f_X3_fail nm v (nI q) S <;> rfl
  unfold f_X3_readNumber_J95
  rw [bdx, h0, g1, g3, nI_sb (by omega), ef]
  unfold f_X3_readNumber_J134
  rw [ef]
  by_cases hrq : r = q
  · rw [if_pos hrq, if_pos (by rw [hrq, Nat.sub_self]; rfl)]
  · have hz : ¬ nI (r - q) = 0 := fun h => by
      have h : nI (r - q) = nI 0 := h
      have := congrArg Int32.toInt h
      rw [nI_ti (by omega), nI_ti (by omega)] at this; omega
    rw [if_neg hrq, if_neg hz]
    by_cases h3 : 3 < r - q
    · rw [if_pos (Or.inl h3), if_pos]
      show nI 3 < nI (r - q)
      rw [Int32.lt_iff_toInt_lt, nI_ti (by omega), nI_ti (by omega)]; omega
    · rw [if_neg (show ¬ (3 : Int32) < nI (r - q) from fun h => by
        have h : nI 3 < nI (r - q) := h
        rw [Int32.lt_iff_toInt_lt, nI_ti (by omega), nI_ti (by omega)] at h; omega)]
      by_cases hwi : lo.toInt ≤ w.toInt ∧ w.toInt ≤ hi.toInt
      · rw [within_yes hwi.1 hwi.2, bnd, if_neg i10, if_neg (by intro h; rcases h with h | h; exact h3 h; exact h hwi)]
      · rw [within_no hwi, bnd, if_pos rfl, if_pos (Or.inr hwi)]
