/-- the byte that stands next, reference side -/
theorem mhere {c p q : Nat} {σ : jS} (hc : c ≤ 400) (e1 : g_i σ 101 19 = nI c) (hp : p ≤ c) (ep : g_i σ 101 21 = nI p) (hq : q = advF b32 (g_i σ 109) (c - p) p) : (p ≤ q ∧ q ≤ c) ∧ f_X11_here nmM σ = some (if q < c then g_i σ 109 q else -1, s_i σ 101 21 (nI q)) := by
  have a1 := advF_le b32 (g_i σ 109) (c - p) p
  rw [← hq] at a1
  refine ⟨by omega, ?_⟩
  unfold f_X11_here
  rw [mskip hc e1 hp ep, bnd, ← hq]
  unfold f_X11_here_J38
  have ez : g_i (s_i σ 101 21 (nI q)) (nmM 0) 19 = nI c := (s_i_k (show (19 : Nat) ≠ 21 by decide)).trans e1
  have eq : g_i (s_i σ 101 21 (nI q)) (nmM 0) 21 = nI q := s_i_eq _ _ _ _
  rw [ez, eq]
  by_cases hqc : q < c
  · rw [if_neg (by rw [nI_le' (by omega) (by omega)]; omega), if_pos hqc, gd_t (nI_in' (by omega) (by omega)), nI_cl (by omega)]
    rfl
  · rw [if_pos (by rw [nI_le' (by omega) (by omega)]; omega), if_neg hqc]
theorem mstop {c p q : Nat} {σ : jS} (hc : c ≤ 400) (e1 : g_i σ 101 19 = nI c) (hp : p ≤ c) (ep : g_i σ 101 21 = nI p) (hq : q = advF b32 (g_i σ 109) (c - p) p) : (p ≤ q ∧ q ≤ c) ∧ f_X11_takeStop nmM σ = (if q < c ∧ g_i σ 109 q = 59 then some (0, s_i σ 101 21 (nI (q + 1))) else some (1, s_i (s_i σ 101 21 (nI q)) 101 20 (nI q))) := by
  obtain ⟨hb, eh⟩ := mhere hc e1 hp ep hq
  refine ⟨hb, ?_⟩
  unfold f_X11_takeStop
  rw [eh, bnd]
  have eq : g_i (s_i σ 101 21 (nI q)) (nmM 0) 21 = nI q := s_i_eq _ _ _ _
  have ef : ∀ v : Int32, (f_X11_fails nmM 1 v (s_i σ 101 21 (nI q))) = some (1, s_i (s_i σ 101 21 (nI q)) 101 20 v) := fun v => rfl
  show (if (if q < c then g_i σ 109 q else -1) = 59 then _ else _) = _
  by_cases h : q < c ∧ g_i σ 109 q = 59
  · rw [if_pos h.1, if_pos h.2, if_pos h, bdx, eq, nI_1]
    show some ((0 : Int32), s_i (s_i σ 101 21 (nI q)) 101 21 (nI (q + 1))) = _
    rw [s_i_twice]
  · rw [if_neg h]
    have hne : ¬ (if q < c then g_i σ 109 q else -1) = 59 := by
      by_cases hqc : q < c
      · rw [if_pos hqc]; exact fun z => h ⟨hqc, z⟩
      · rw [if_neg hqc]; decide
    rw [if_neg hne, eq, ef]
    rfl
