def bLet (x : Int32) : Bool := decide (97 ≤ x.toInt ∧ x.toInt ≤ 122)
theorem tl97 : (97 : Int32).toInt = 97 := by decide
theorem tl122 : (122 : Int32).toInt = 122 := by decide
/-- a word's letters, class side -/
theorem xword_lp {nm : Nat → Nat} {c p : Nat} {σ : jS} (h0 : nm 0 = 30) (h1 : nm 1 = 1) (h2 : nm 2 = 2) (hc : c ≤ 400) (e1 : g_i σ 1 1 = nI c) (hp : p ≤ c) (ep : g_i σ 30 1 = nI p) : lp (f_X3_readWord_L12 nm) fu σ = some (s_i σ 30 1 (nI (advF bLet (g_i σ 2) (c - p) p))) := by
  refine wp_eq ?_
  refine wp_lp (fun n s => ∃ q, q + n = c ∧ s = s_i σ 30 1 (nI q) ∧ advF bLet (g_i σ 2) n q = advF bLet (g_i σ 2) (c - p) p) (n := c - p) (by omega) ⟨p, by omega, (s_i_same ep).symm, rfl⟩ ?_
  rintro n s ⟨q, hq, rfl, hadv⟩
  unfold f_X3_readWord_L12
  have ez : f_X4_size (jn nm [1, 2]) 400 (s_i σ 30 1 (nI q)) = some (nI c) := by
    show some (g_i (s_i σ 30 1 (nI q)) (nm 1) 1) = _
    rw [h1]; exact congrArg some e1
  refine wp_bindE ez ?_
  rw [h0, s_i_eq]
  refine wp_ite (fun hc' => ?_) (fun hc' => ?_)
  · rw [nI_le' (by omega) (by omega)] at hc'
    have : n = 0 := by omega
    subst this
    refine wp_some ?_
    rw [← hadv]; rfl
  · rw [nI_le' (by omega) (by omega)] at hc'
    obtain ⟨n, rfl⟩ : ∃ u, n = u + 1 := ⟨n - 1, by omega⟩
    have ea : f_X4_at (jn nm [1, 2]) 400 (nI q) (s_i σ 30 1 (nI q)) = some (g_i σ 2 q) := by
      rw [row_atI (n := c) (show g_i (s_i σ 30 1 (nI q)) (nm 1) 1 = nI c by rw [h1]; exact e1) hc (by omega) (by omega)]
      show some (g_i (s_i σ 30 1 (nI q)) (nm 2) q) = _
      rw [h2]; rfl
    refine wp_bindE ea ?_
    have hadv : (if bLet (g_i σ 2 q) = true then advF bLet (g_i σ 2) n (q + 1) else q) = advF bLet (g_i σ 2) (c - p) p := hadv
    by_cases hl : 97 ≤ (g_i σ 2 q).toInt ∧ (g_i σ 2 q).toInt ≤ 122
    · refine wp_bindE (within_yes (by rw [tl97]; exact hl.1) (by rw [tl122]; exact hl.2)) ?_
      rw [if_neg i10]
      refine wp_bd (fun s3 h3 => wp_some ⟨n, by omega, q + 1, by omega, ?_, ?_⟩)
      · rw [h3, nI_1, s_i_twice]
      · rw [if_pos (show bLet (g_i σ 2 q) = true from decide_eq_true hl)] at hadv; exact hadv
    · refine wp_bindE (within_no (by rw [tl97, tl122]; exact hl)) ?_
      rw [if_pos rfl]
      refine wp_some ?_
      rw [if_neg (show ¬ bLet (g_i σ 2 q) = true from fun h => hl (of_decide_eq_true h))] at hadv
      rw [hadv]
theorem xword {nm : Nat → Nat} {c p q r : Nat} {σ : jS} (h0 : nm 0 = 30) (h1 : nm 1 = 1) (h2 : nm 2 = 2) (hc : c ≤ 400) (e1 : g_i σ 1 1 = nI c) (hp : p ≤ c) (ep : g_i σ 30 1 = nI p) (hq : q = advF b32 (g_i σ 2) (c - p) p) (hr : r = advF bLet (g_i σ 2) (c - q) q) : (p ≤ q ∧ q ≤ r ∧ r ≤ c) ∧ f_X3_readWord nm σ = some (s_i (s_i (s_i σ 30 1 (nI q)) 30 2 (nI q)) 30 1 (nI r)) := by
  have a1 := advF_le b32 (g_i σ 2) (c - p) p
  have a2 := advF_le bLet (g_i σ 2) (c - q) q
  rw [← hq] at a1
  rw [← hr] at a2
  refine ⟨by omega, ?_⟩
  unfold f_X3_readWord
  rw [xskip h0 h1 h2 hc e1 hp ep, bnd, bdx, ← hq, h0, s_i_eq]
  have k1 : g_i (s_i (s_i σ 30 1 (nI q)) 30 2 (nI q)) 30 1 = nI q := (s_i_k (show (1 : Nat) ≠ 2 by decide)).trans (s_i_eq _ _ _ _)
  have k2 : g_i (s_i (s_i σ 30 1 (nI q)) 30 2 (nI q)) 1 1 = nI c := e1
  have k3 : g_i (s_i (s_i σ 30 1 (nI q)) 30 2 (nI q)) 2 = g_i σ 2 := rfl
  rw [xword_lp h0 h1 h2 hc k2 (by omega) k1, k3, ← hr]
  rfl
/-- the end of a clause, class side: at q stands ';', or the fault 1 is told there -/
theorem xend {nm : Nat → Nat} {c p q : Nat} {σ : jS} (h0 : nm 0 = 30) (h1 : nm 1 = 1) (h2 : nm 2 = 2) (hc : c ≤ 400) (e1 : g_i σ 1 1 = nI c) (hp : p ≤ c) (ep : g_i σ 30 1 = nI p) (hq : q = advF b32 (g_i σ 2) (c - p) p) : (p ≤ q ∧ q ≤ c) ∧ f_X3_endClause nm σ = (if q < c ∧ g_i σ 2 q = 59 then some (s_i σ 30 1 (nI (q + 1))) else f_X3_fail nm 1 (nI q) (s_i σ 30 1 (nI q))) := by
  have a1 := advF_le b32 (g_i σ 2) (c - p) p
  rw [← hq] at a1
  refine ⟨by omega, ?_⟩
  have ez : f_X4_size (jn nm [1, 2]) 400 (s_i σ 30 1 (nI q)) = some (nI c) := by
    show some (g_i (s_i σ 30 1 (nI q)) (nm 1) 1) = _
    rw [h1]; exact congrArg some e1
  have ej : f_X3_endClause_J47 nm (s_i σ 30 1 (nI q)) = f_X3_fail nm 1 (nI q) (s_i σ 30 1 (nI q)) := by
    unfold f_X3_endClause_J47
    rw [h0, s_i_eq]
    cases f_X3_fail nm 1 (nI q) (s_i σ 30 1 (nI q)) <;> rfl
  unfold f_X3_endClause
  rw [xskip h0 h1 h2 hc e1 hp ep, bnd, ← hq, ez, bnd, h0, s_i_eq, ej]
  by_cases hqc : q < c
  · have ea : f_X4_at (jn nm [1, 2]) 400 (nI q) (s_i σ 30 1 (nI q)) = some (g_i σ 2 q) := by
      rw [row_atI (n := c) (show g_i (s_i σ 30 1 (nI q)) (nm 1) 1 = nI c by rw [h1]; exact e1) hc (by omega) hqc]
      show some (g_i (s_i σ 30 1 (nI q)) (nm 2) q) = _
      rw [h2]; rfl
    rw [if_neg (by rw [nI_le' (by omega) (by omega)]; omega), ea, bnd]
    by_cases h59 : g_i σ 2 q = 59
    · rw [if_pos h59, if_pos ⟨hqc, h59⟩, bdx, nI_1, s_i_twice]
    · rw [if_neg h59, if_neg (fun h => h59 h.2)]
  · rw [if_pos (by rw [nI_le' (by omega) (by omega)]; omega), if_neg (fun h => hqc h.1)]
