/-! reading a text: the first place, from p on, where no P stands; n bytes are left -/
def advF (P : Int32 → Bool) (f : Nat → Int32) : Nat → Nat → Nat
  | 0, p => p
  | n + 1, p => if P (f p) = true then advF P f n (p + 1) else p
theorem advF_le (P : Int32 → Bool) (f : Nat → Int32) : ∀ n p, p ≤ advF P f n p ∧ advF P f n p ≤ p + n
  | 0, p => ⟨Nat.le_refl _, Nat.le_refl _⟩
  | n + 1, p => by
    unfold advF
    by_cases h : P (f p) = true
    · rw [if_pos h]
      have := advF_le P f n (p + 1)
      omega
    · rw [if_neg h]; omega
theorem advF_end (P : Int32 → Bool) (f : Nat → Int32) : ∀ n p, advF P f n p < p + n → P (f (advF P f n p)) = false
  | 0, p, h => by unfold advF at h; omega
  | n + 1, p, h => by
    unfold advF at h ⊢
    by_cases hp : P (f p) = true
    · rw [if_pos hp] at h ⊢
      exact advF_end P f n (p + 1) (by omega)
    · rw [if_neg hp]
      exact Bool.eq_false_iff.mpr hp
theorem advF_in (P : Int32 → Bool) (f : Nat → Int32) : ∀ n p k, p ≤ k → k < advF P f n p → P (f k) = true
  | 0, p, k, h1, h2 => by unfold advF at h2; omega
  | n + 1, p, k, h1, h2 => by
    unfold advF at h2
    by_cases hp : P (f p) = true
    · rw [if_pos hp] at h2
      by_cases hk : k = p
      · rw [hk]; exact hp
      · exact advF_in P f n (p + 1) k (by omega) h2
    · rw [if_neg hp] at h2; omega
theorem advF_cong {P : Int32 → Bool} {f g : Nat → Int32} : ∀ n p, (∀ k, p ≤ k → k < p + n → f k = g k) → advF P f n p = advF P g n p
  | 0, _, _ => rfl
  | n + 1, p, h => by
    unfold advF
    rw [h p (Nat.le_refl _) (by omega), advF_cong n (p + 1) (fun k h1 h2 => h k (by omega) (by omega))]
theorem s_i_ext {σ τ : jS} (h : ∀ a k, g_i σ a k = g_i τ a k) (h2 : σ.2 = τ.2) : σ = τ := by
  obtain ⟨σ1, σ2⟩ := σ
  obtain ⟨τ1, τ2⟩ := τ
  have h1 : σ1 = τ1 := funext (fun a => funext (fun k => h a k))
  have h2 : σ2 = τ2 := h2
  rw [h1, h2]
theorem s_i_same {σ : jS} {a k : Nat} {v : Int32} (h : g_i σ a k = v) : s_i σ a k v = σ := by
  refine s_i_ext (fun b j => ?_) rfl
  by_cases hb : b = a ∧ j = k
  · rw [hb.1, hb.2, s_i_eq, h]
  · rw [s_i_ne hb]
theorem s_i_twice {σ : jS} {a k : Nat} {v w : Int32} : s_i (s_i σ a k v) a k w = s_i σ a k w := by
  refine s_i_ext (fun b j => ?_) rfl
  by_cases hb : b = a ∧ j = k
  · rw [hb.1, hb.2, s_i_eq, s_i_eq]
  · rw [s_i_ne hb, s_i_ne hb, s_i_ne hb]
def b32 (x : Int32) : Bool := decide (x = 32)
/-- blanks, class side -/
theorem xskip {nm : Nat → Nat} {c p : Nat} {σ : jS} (h0 : nm 0 = 30) (h1 : nm 1 = 1) (h2 : nm 2 = 2) (hc : c ≤ 400) (e1 : g_i σ 1 1 = nI c) (hp : p ≤ c) (ep : g_i σ 30 1 = nI p) : f_X3_skipBlanks nm σ = some (s_i σ 30 1 (nI (advF b32 (g_i σ 2) (c - p) p))) := by
  refine wp_eq ?_
  unfold f_X3_skipBlanks
  refine wp_bind ?_
  refine wp_lp (fun n s => ∃ q, q + n = c ∧ s = s_i σ 30 1 (nI q) ∧ advF b32 (g_i σ 2) n q = advF b32 (g_i σ 2) (c - p) p) (n := c - p) (by omega) ⟨p, by omega, (s_i_same ep).symm, rfl⟩ ?_
  rintro n s ⟨q, hq, rfl, hadv⟩
  unfold f_X3_skipBlanks_L0
  have ez : f_X4_size (jn nm [1, 2]) 400 (s_i σ 30 1 (nI q)) = some (nI c) := by
    show some (g_i (s_i σ 30 1 (nI q)) (nm 1) 1) = _
    rw [h1]; exact congrArg some e1
  refine wp_bindE ez ?_
  rw [h0, s_i_eq]
  refine wp_ite (fun hc' => ?_) (fun hc' => ?_)
  · rw [nI_le' (by omega) (by omega)] at hc'
    have : n = 0 := by omega
    subst this
    refine wp_some (wp_some ?_)
    rw [← hadv]; rfl
  · rw [nI_le' (by omega) (by omega)] at hc'
    obtain ⟨n, rfl⟩ : ∃ u, n = u + 1 := ⟨n - 1, by omega⟩
    have ea : f_X4_at (jn nm [1, 2]) 400 (nI q) (s_i σ 30 1 (nI q)) = some (g_i σ 2 q) := by
      rw [row_atI (n := c) (show g_i (s_i σ 30 1 (nI q)) (nm 1) 1 = nI c by rw [h1]; exact e1) hc (by omega) (by omega)]
      show some (g_i (s_i σ 30 1 (nI q)) (nm 2) q) = _
      rw [h2]; rfl
    refine wp_bindE ea ?_
    have hadv : (if b32 (g_i σ 2 q) = true then advF b32 (g_i σ 2) n (q + 1) else q) = advF b32 (g_i σ 2) (c - p) p := hadv
    refine wp_ite (fun h32 => wp_bd (fun s3 h3 => wp_some ⟨n, by omega, q + 1, by omega, ?_, ?_⟩)) (fun h32 => wp_some (wp_some ?_))
    · rw [h3, nI_1, s_i_twice]
    · rw [if_pos (show b32 (g_i σ 2 q) = true from decide_eq_true h32)] at hadv; exact hadv
    · rw [if_neg (show ¬ b32 (g_i σ 2 q) = true from fun h => h32 (of_decide_eq_true h))] at hadv
      rw [hadv]
/-- blanks, reference side -/
theorem mskip {c p : Nat} {σ : jS} (hc : c ≤ 400) (e1 : g_i σ 101 19 = nI c) (hp : p ≤ c) (ep : g_i σ 101 21 = nI p) : lp (f_X11_here_L0 nmM) fu σ = some (s_i σ 101 21 (nI (advF b32 (g_i σ 109) (c - p) p))) := by
  refine wp_eq ?_
  refine wp_lp (fun n s => ∃ q, q + n = c ∧ s = s_i σ 101 21 (nI q) ∧ advF b32 (g_i σ 109) n q = advF b32 (g_i σ 109) (c - p) p) (n := c - p) (by omega) ⟨p, by omega, (s_i_same ep).symm, rfl⟩ ?_
  rintro n s ⟨q, hq, rfl, hadv⟩
  unfold f_X11_here_L0
  have ez : g_i (s_i σ 101 21 (nI q)) (nmM 0) 19 = nI c := (s_i_k (show (19 : Nat) ≠ 21 by decide)).trans e1
  have eq : g_i (s_i σ 101 21 (nI q)) (nmM 0) 21 = nI q := s_i_eq _ _ _ _
  rw [ez, eq]
  refine wp_ite (fun hc' => ?_) (fun hc' => ?_)
  · rw [nI_le' (by omega) (by omega)] at hc'
    have : n = 0 := by omega
    subst this
    refine wp_some ?_
    rw [← hadv]; rfl
  · rw [nI_le' (by omega) (by omega)] at hc'
    obtain ⟨n, rfl⟩ : ∃ u, n = u + 1 := ⟨n - 1, by omega⟩
    refine wp_gd (nI_in' (by omega) (by omega)) ?_
    have ea : g_i (s_i σ 101 21 (nI q)) (nmM 8) (nI q).toNatClampNeg = g_i σ 109 q := by rw [nI_cl (by omega)]; rfl
    rw [ea]
    have hadv : (if b32 (g_i σ 109 q) = true then advF b32 (g_i σ 109) n (q + 1) else q) = advF b32 (g_i σ 109) (c - p) p := hadv
    refine wp_ite (fun h32 => wp_bd (fun s3 h3 => wp_some ⟨n, by omega, q + 1, by omega, ?_, ?_⟩)) (fun h32 => wp_some ?_)
    · have h3 : s3 = s_i (s_i σ 101 21 (nI q)) 101 21 (nI q + 1) := h3
      rw [h3, nI_1, s_i_twice]
    · rw [if_pos (show b32 (g_i σ 109 q) = true from decide_eq_true h32)] at hadv; exact hadv
    · rw [if_neg (show ¬ b32 (g_i σ 109 q) = true from fun h => h32 (of_decide_eq_true h))] at hadv
      rw [hadv]
