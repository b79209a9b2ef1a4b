/-- the code of the n letters from p on -/
def cdF (f : Nat → Int32) : Nat → Nat → Int64 → Int64
  | 0, _, x => x
  | n + 1, p, x => cdF f n (p + 1) (if lg_cmp x 10000000000000 ≤ 0 then (27 * x + (f p).toInt64) - 96 else 20000000000000)
theorem tl97' : (97 : Int64).toInt = 97 := by decide
theorem tl122' : (122 : Int64).toInt = 122 := by decide
theorem s_l_same {σ : jS} {a k : Nat} {v : Int64} (h : g_l σ a k = v) : s_l σ a k v = σ := by
  obtain ⟨σ1, σ2⟩ := σ
  have h : σ2 a k = v := h
  have e : (fun b j => if b = a ∧ j = k then v else σ2 b j) = σ2 := by
    funext b j
    by_cases hb : b = a ∧ j = k
    · rw [if_pos hb, hb.1, hb.2, h]
    · rw [if_neg hb]
  show (σ1, fun b j => if b = a ∧ j = k then v else σ2 b j) = (σ1, σ2)
  rw [e]
theorem s_l_twice {σ : jS} {a k : Nat} {v w : Int64} : s_l (s_l σ a k v) a k w = s_l σ a k w := by
  obtain ⟨σ1, σ2⟩ := σ
  have e : (fun b j => if b = a ∧ j = k then w else (if b = a ∧ j = k then v else σ2 b j)) = (fun b j => if b = a ∧ j = k then w else σ2 b j) := by
    funext b j
    by_cases hb : b = a ∧ j = k
    · rw [if_pos hb, if_pos hb]
    · rw [if_neg hb, if_neg hb, if_neg hb]
  show (σ1, fun b j => if b = a ∧ j = k then w else (if b = a ∧ j = k then v else σ2 b j)) = (σ1, fun b j => if b = a ∧ j = k then w else σ2 b j)
  rw [e]
theorem s_l_eq (σ : jS) (a k : Nat) (v : Int64) : g_l (s_l σ a k v) a k = v := by rw [g_l_s, if_pos ⟨rfl, rfl⟩]
/-- a word's letters, reference side -/
theorem mword_lp {c p : Nat} {x : Int64} {σ : jS} (hc : c ≤ 400) (e1 : g_i σ 101 19 = nI c) (hp : p ≤ c) (ep : g_i σ 101 23 = nI p) (ex : g_l σ 101 22 = x) {r : Nat} (hr : r = advF bLet (g_i σ 109) (c - p) p) : lp (f_X11_readWord_L18 nmM) fu σ = some (s_i (s_l σ 101 22 (cdF (g_i σ 109) (r - p) p x)) 101 23 (nI r)) := by
  refine wp_eq ?_
  refine wp_lp (fun n s => ∃ q y, q + n = c ∧ s = s_i (s_l σ 101 22 y) 101 23 (nI q) ∧ advF bLet (g_i σ 109) n q = r ∧ cdF (g_i σ 109) (r - q) q y = cdF (g_i σ 109) (r - p) p x) (n := c - p) (by omega) ⟨p, x, by omega, by rw [s_l_same ex, s_i_same ep], hr.symm, rfl⟩ ?_
  rintro n s ⟨q, y, hq, rfl, hadv, hcd⟩
  unfold f_X11_readWord_L18
  have ez : g_i (s_i (s_l σ 101 22 y) 101 23 (nI q)) (nmM 0) 19 = nI c := (s_i_k (show (19 : Nat) ≠ 23 by decide)).trans e1
  have eq : g_i (s_i (s_l σ 101 22 y) 101 23 (nI q)) (nmM 0) 23 = nI q := s_i_eq _ _ _ _
  have el : g_l (s_i (s_l σ 101 22 y) 101 23 (nI q)) (nmM 0) 22 = y := s_l_eq σ 101 22 y
  rw [ez, eq, el]
  have hb := advF_le bLet (g_i σ 109) n q
  refine wp_ite (fun hc' => ?_) (fun hc' => ?_)
  · rw [nI_le' (by omega) (by omega)] at hc'
    have : n = 0 := by omega
    subst this
    have hqr : q = r := hadv
    subst hqr
    refine wp_some ?_
    rw [← hcd, Nat.sub_self]; rfl
  · rw [nI_le' (by omega) (by omega)] at hc'
    obtain ⟨n, rfl⟩ : ∃ u, n = u + 1 := ⟨n - 1, by omega⟩
    refine wp_gd (nI_in' (by omega) (by omega)) ?_
    have ea : g_i (s_i (s_l σ 101 22 y) 101 23 (nI q)) (nmM 8) (nI q).toNatClampNeg = g_i σ 109 q := by rw [nI_cl (by omega)]; rfl
    rw [ea]
    have hadv : (if bLet (g_i σ 109 q) = true then advF bLet (g_i σ 109) n (q + 1) else q) = r := hadv
    by_cases hl : 97 ≤ (g_i σ 109 q).toInt ∧ (g_i σ 109 q).toInt ≤ 122
    · rw [if_pos (show bLet (g_i σ 109 q) = true from decide_eq_true hl)] at hadv
      have hb2 := advF_le bLet (g_i σ 109) n (q + 1)
      obtain ⟨u, hu⟩ : ∃ u, r - q = u + 1 := ⟨r - q - 1, by omega⟩
      rw [hu] at hcd
      have hu2 : r - (q + 1) = u := by omega
      have hcd : cdF (g_i σ 109) u (q + 1) (if lg_cmp y 10000000000000 ≤ 0 then (27 * y + (g_i σ 109 q).toInt64) - 96 else 20000000000000) = _ := hcd
      refine wp_bindE (in_yes (by rw [ti64, tl97']; exact hl.1) (by rw [ti64, tl122']; exact hl.2)) ?_
      rw [if_neg i10]
      have ey : (if lg_cmp y 10000000000000 ≤ 0 then gd (vp_in (nI q) 400) (some ((27 * y + (g_i σ 109 q).toInt64) - 96)) else some 20000000000000) = some (if lg_cmp y 10000000000000 ≤ 0 then (27 * y + (g_i σ 109 q).toInt64) - 96 else 20000000000000) := by
        by_cases hg : lg_cmp y 10000000000000 ≤ 0
        · rw [if_pos hg, if_pos hg, gd_t (nI_in' (by omega) (by omega))]
        · rw [if_neg hg, if_neg hg]
      refine wp_bindE ey ?_
      generalize (if lg_cmp y 10000000000000 ≤ 0 then (27 * y + (g_i σ 109 q).toInt64) - 96 else 20000000000000) = y' at hcd ⊢
      unfold f_X11_readWord_J92
      refine wp_bd (fun s7 h7 => wp_bd (fun s8 h8 => wp_some ⟨n, by omega, q + 1, y', by omega, ?_, hadv, by rw [hu2]; exact hcd⟩))
      have q7 : s7 = s_i (s_l (s_l σ 101 22 y) 101 22 y') 101 23 (nI q) := h7
      have q8 : s8 = s_i s7 101 23 (nI q + 1) := h8.trans (congrArg (fun z => s_i s7 101 23 (z + 1)) (by rw [q7]; exact s_i_eq _ _ _ _))
      rw [q8, q7, nI_1, s_i_twice, s_l_twice]
    · rw [if_neg (show ¬ bLet (g_i σ 109 q) = true from fun h => hl (of_decide_eq_true h))] at hadv
      subst hadv
      refine wp_bindE (in_no (by rw [ti64, tl97', tl122']; exact hl)) ?_
      rw [if_pos rfl]
      refine wp_some ?_
      rw [← hcd, Nat.sub_self]; rfl
