theorem mword {c p q r : Nat} {σ : jS} (hc : c ≤ 400) (e1 : g_i σ 101 19 = nI c) (hp : p ≤ c) (ep : g_i σ 101 21 = nI p) (hq : q = advF b32 (g_i σ 109) (c - p) p) (hr : r = advF bLet (g_i σ 109) (c - q) q) : (p ≤ q ∧ q ≤ r ∧ r ≤ c) ∧ f_X11_readWord nmM σ = some (s_i (s_l (s_i σ 101 21 (nI q)) 101 22 (cdF (g_i σ 109) (r - q) q 0)) 101 23 (nI r)) := by
  obtain ⟨hb, eh⟩ := mhere hc e1 hp ep hq
  have a2 := advF_le bLet (g_i σ 109) (c - q) q
  rw [← hr] at a2
  refine ⟨by omega, ?_⟩
  unfold f_X11_readWord
  rw [eh, bnd]
  show bd (s_l (s_i σ 101 21 (nI q)) 101 22 0) _ = _
  rw [bdx, bdx]
  have eq : g_i (s_l (s_i σ 101 21 (nI q)) 101 22 0) (nmM 0) 21 = nI q := s_i_eq σ 101 21 (nI q)
  rw [eq]
  have k1 : g_i (s_i (s_l (s_i σ 101 21 (nI q)) 101 22 0) (nmM 0) 23 (nI q)) 101 19 = nI c := (s_i_k (show (19 : Nat) ≠ 23 by decide)).trans (show g_i (s_i σ 101 21 (nI q)) 101 19 = nI c from (s_i_k (show (19 : Nat) ≠ 21 by decide)).trans e1)
  have k2 : g_i (s_i (s_l (s_i σ 101 21 (nI q)) 101 22 0) (nmM 0) 23 (nI q)) 101 23 = nI q := s_i_eq _ _ _ _
  have k3 : g_l (s_i (s_l (s_i σ 101 21 (nI q)) 101 22 0) (nmM 0) 23 (nI q)) 101 22 = 0 := s_l_eq (s_i σ 101 21 (nI q)) 101 22 0
  rw [mword_lp (r := r) hc k1 hb.2 k2 k3 hr, bnd]
  show some (s_i (s_i (s_l (s_l (s_i σ 101 21 (nI q)) 101 22 0) 101 22 (cdF (g_i σ 109) (r - q) q 0)) 101 23 (nI q)) 101 23 (nI r)) = _
  rw [s_i_twice, s_l_twice]
