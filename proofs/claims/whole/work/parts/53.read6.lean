def bDig (x : Int32) : Bool := decide (48 ≤ x.toInt ∧ x.toInt ≤ 57)
theorem tl48 : (48 : Int32).toInt = 48 := by decide
theorem tl57 : (57 : Int32).toInt = 57 := by decide
/-- the number of the n digits from p on -/
def nmF (f : Nat → Int32) : Nat → Nat → Int32 → Int32
  | 0, _, x => x
  | n + 1, p, x => nmF f n (p + 1) ((x * 10 + f p) - 48)
theorem nI_sb {a b : Nat} (h : b ≤ a) : nI a - nI b = nI (a - b) := by
  have e : nI a = nI (a - b) + nI b := by rw [nI_add]; congr 1; omega
  rw [e, Int32.add_sub_cancel]
theorem xnum_lp {nm : Nat → Nat} {c q r : Nat} {lo hi : Int32} {σ : jS} (h0 : nm 0 = 30) (h1 : nm 1 = 1) (h2 : nm 2 = 2) (hc : c ≤ 400) (e1 : g_i σ 1 1 = nI c) (hq : q ≤ c) (ep : g_i σ 30 1 = nI q) (e3 : g_i σ 30 3 = nI q) (hr : r = advF bDig (g_i σ 2) (c - q) q) : lp (f_X3_readNumber_L14 nm lo hi) fu (0, σ) = some (nmF (g_i σ 2) (min 3 (r - q)) q 0, s_i σ 30 1 (nI r)) := by
  refine wp_eq ?_
  refine wp_lp (fun n s => ∃ t y, t + n = c ∧ q ≤ t ∧ s = (y, s_i σ 30 1 (nI t)) ∧ advF bDig (g_i σ 2) n t = r ∧ nmF (g_i σ 2) (min 3 (r - q) - (t - q)) t y = nmF (g_i σ 2) (min 3 (r - q)) q 0) (n := c - q) (by omega) ⟨q, 0, by omega, Nat.le_refl _, by rw [s_i_same ep], hr.symm, by rw [Nat.sub_self, Nat.sub_zero]⟩ ?_
  rintro n s ⟨t, y, ht, hqt, rfl, hadv, hnm⟩
  have hb := advF_le bDig (g_i σ 2) n t
  unfold f_X3_readNumber_L14
  have ez : f_X4_size (jn nm [1, 2]) 400 (s_i σ 30 1 (nI t)) = some (nI c) := by
    show some (g_i (s_i σ 30 1 (nI t)) (nm 1) 1) = _
    rw [h1]; exact congrArg some e1
  refine wp_bindE ez ?_
  have k3 : g_i (s_i σ 30 1 (nI t)) 30 3 = nI q := (s_i_k (show (3 : Nat) ≠ 1 by decide)).trans e3
  rw [h0, s_i_eq, k3]
  refine wp_ite (fun hc' => ?_) (fun hc' => ?_)
  · rw [nI_le' (by omega) (by omega)] at hc'
    have : n = 0 := by omega
    subst this
    have htr : t = r := hadv
    subst htr
    refine wp_some ?_
    rw [show min 3 (t - q) - (t - q) = 0 by omega] at hnm
    rw [← hnm]; rfl
  · rw [nI_le' (by omega) (by omega)] at hc'
    obtain ⟨n, rfl⟩ : ∃ u, n = u + 1 := ⟨n - 1, by omega⟩
    have ea : f_X4_at (jn nm [1, 2]) 400 (nI t) (s_i σ 30 1 (nI t)) = some (g_i σ 2 t) := by
      rw [row_atI (n := c) (show g_i (s_i σ 30 1 (nI t)) (nm 1) 1 = nI c by rw [h1]; exact e1) hc (by omega) (by omega)]
      show some (g_i (s_i σ 30 1 (nI t)) (nm 2) t) = _
      rw [h2]; rfl
    refine wp_bindE ea ?_
    have hadv : (if bDig (g_i σ 2 t) = true then advF bDig (g_i σ 2) n (t + 1) else t) = r := hadv
    by_cases hl : 48 ≤ (g_i σ 2 t).toInt ∧ (g_i σ 2 t).toInt ≤ 57
    · rw [if_pos (show bDig (g_i σ 2 t) = true from decide_eq_true hl)] at hadv
      have hb2 := advF_le bDig (g_i σ 2) n (t + 1)
      refine wp_bindE (within_yes (by rw [tl48]; exact hl.1) (by rw [tl57]; exact hl.2)) ?_
      rw [if_neg i10, nI_sb hqt]
      by_cases h3 : 3 ≤ t - q
      · have h3' : (3 : Int32) ≤ nI (t - q) := by
          show nI 3 ≤ _
          rw [nI_le' (by omega) (by omega)]; exact h3
        rw [if_pos h3']
        refine wp_bindE rfl ?_
        unfold f_X3_readNumber_J82
        refine wp_bd (fun s9 h9 => wp_some ⟨n, by omega, t + 1, y, by omega, by omega, ?_, hadv, ?_⟩)
        · rw [h9, h0, s_i_eq, nI_1, s_i_twice]
        · rw [← hnm, show min 3 (r - q) - (t + 1 - q) = 0 by omega, show min 3 (r - q) - (t - q) = 0 by omega]; rfl
      · have h3' : ¬ (3 : Int32) ≤ nI (t - q) := fun h => by
          have h : nI 3 ≤ nI (t - q) := h
          rw [nI_le' (by omega) (by omega)] at h; exact h3 h
        rw [if_neg h3', ea, bnd, bdx]
        refine wp_bindE rfl ?_
        unfold f_X3_readNumber_J82
        refine wp_bd (fun s9 h9 => wp_some ⟨n, by omega, t + 1, (y * 10 + g_i σ 2 t) - 48, by omega, by omega, ?_, hadv, ?_⟩)
        · rw [h9, h0, s_i_eq, nI_1, s_i_twice]
        · rw [← hnm, show min 3 (r - q) - (t - q) = (min 3 (r - q) - (t + 1 - q)) + 1 by omega]; rfl
    · rw [if_neg (show ¬ bDig (g_i σ 2 t) = true from fun h => hl (of_decide_eq_true h))] at hadv
      subst hadv
      refine wp_bindE (within_no (by rw [tl48, tl57]; exact hl)) ?_
      rw [if_pos rfl]
      refine wp_some ?_
      rw [show min 3 (t - q) - (t - q) = 0 by omega] at hnm
      rw [← hnm]; rfl
