/-! round: going back is never worth it -/
/-- on and on from q, S woken: within k minutes all are, at b or farther -/
def FP (W : Nat → Nat → Nat) (all b : Nat) : Nat → Nat → Nat → Prop
  | 0, q, S => S = all ∧ b ≤ q
  | k + 1, q, S => (S = all ∧ b ≤ q) ∨ (∃ nt, nt < 64 ∧ FP W all b k q (S ||| W q nt)) ∨ (q + 1 < 50 ∧ FP W all b k (q + 1) S)
theorem fp_up {W : Nat → Nat → Nat} {all b : Nat} : ∀ k q S, FP W all b k q S → FP W all b (k + 1) q S
  | 0, _, _, h => Or.inl h
  | k + 1, q, S, h => by
    rcases h with h | ⟨nt, h1, h2⟩ | ⟨h1, h2⟩
    · exact Or.inl h
    · exact Or.inr (Or.inl ⟨nt, h1, fp_up k _ _ h2⟩)
    · exact Or.inr (Or.inr ⟨h1, fp_up k _ _ h2⟩)
theorem fp_le {W : Nat → Nat → Nat} {all b k j q S : Nat} (hkj : k ≤ j) (h : FP W all b k q S) : FP W all b j q S := by
  obtain ⟨d, rfl⟩ : ∃ d, j = k + d := ⟨j - k, by omega⟩
  clear hkj
  induction d with
  | zero => exact h
  | succ d ih => exact fp_up _ _ _ ih
theorem fp_weak {W : Nat → Nat → Nat} {all b b' : Nat} (hb : b' ≤ b) : ∀ k q S, FP W all b k q S → FP W all b' k q S
  | 0, _, _, h => ⟨h.1, by have := h.2; omega⟩
  | k + 1, q, S, h => by
    rcases h with h | ⟨nt, h1, h2⟩ | ⟨h1, h2⟩
    · exact Or.inl ⟨h.1, by have := h.2; omega⟩
    · exact Or.inr (Or.inl ⟨nt, h1, fp_weak hb k _ _ h2⟩)
    · exact Or.inr (Or.inr ⟨h1, fp_weak hb k _ _ h2⟩)
theorem fp_rk {W : Nat → Nat → Nat} {all b : Nat} : ∀ k q S, FP W all b k q S → Rk W all k q S
  | 0, _, _, h => h.1
  | k + 1, q, S, h => by
    rcases h with h | ⟨nt, h1, h2⟩ | ⟨h1, h2⟩
    · exact Or.inl h.1
    · exact Or.inr (Or.inl ⟨nt, h1, fp_rk k _ _ h2⟩)
    · exact Or.inr (Or.inr (Or.inl ⟨h1, fp_rk k _ _ h2⟩))
theorem or_rc (a b c : Nat) : (a ||| b) ||| c = (a ||| c) ||| b := by rw [Nat.or_assoc, Nat.or_comm b c, ← Nat.or_assoc]
/-- a hum at p may be put in on the way -/
theorem fp_ins {W : Nat → Nat → Nat} {all b p nt : Nat} (hnt : nt < 64) (hpb : p ≤ b) : ∀ k q S, q ≤ p → FP W all b k q (S ||| W p nt) → FP W all b (k + 1) q S
  | 0, q, S, hq, h => by
    have hqp : q = p := by have := h.2; omega
    subst hqp
    exact Or.inr (Or.inl ⟨nt, hnt, h⟩)
  | k + 1, q, S, hq, h => by
    by_cases e : q = p
    · subst e
      exact Or.inr (Or.inl ⟨nt, hnt, h⟩)
    · rcases h with h | ⟨nt', h1, h2⟩ | ⟨h1, h2⟩
      · have := h.2; omega
      · rw [or_rc] at h2
        exact Or.inr (Or.inl ⟨nt', h1, fp_ins hnt hpb k q _ hq h2⟩)
      · exact Or.inr (Or.inr ⟨h1, fp_ins hnt hpb k (q + 1) S (by omega) h2⟩)
theorem fp_app {W : Nat → Nat → Nat} {all p : Nat} (hp : p + 1 < 50) : ∀ k q S, FP W all p k q S → FP W all (p + 1) (k + 1) q S
  | 0, q, S, h => by
    by_cases e : p + 1 ≤ q
    · exact Or.inl ⟨h.1, e⟩
    · have : q = p := by have := h.2; omega
      subst this
      exact Or.inr (Or.inr ⟨hp, h.1, Nat.le_refl _⟩)
  | k + 1, q, S, h => by
    rcases h with h | ⟨nt, h1, h2⟩ | ⟨h1, h2⟩
    · by_cases e : p + 1 ≤ q
      · exact Or.inl ⟨h.1, e⟩
      · have : q = p := by have := h.2; omega
        subst this
        exact Or.inr (Or.inr ⟨hp, Or.inl ⟨h.1, Nat.le_refl _⟩⟩)
    · exact Or.inr (Or.inl ⟨nt, h1, fp_app hp k _ _ h2⟩)
    · exact Or.inr (Or.inr ⟨h1, fp_app hp k _ _ h2⟩)
theorem fp_mv {W : Nat → Nat → Nat} {all p : Nat} (hp : p < 50) : ∀ d q, q + d = p → FP W all p d q all
  | 0, q, h => ⟨rfl, by omega⟩
  | d + 1, q, h => Or.inr (Or.inr ⟨by omega, fp_mv hp d (q + 1) (by omega)⟩)
theorem rk_fp {W : Nat → Nat → Nat} {all : Nat} : ∀ k p S, p < 50 → Rk W all k p S → FP W all p (k + p) 0 S
  | 0, p, S, hp, h => by
    have h : S = all := h
    rw [h, Nat.zero_add]
    exact fp_mv hp p 0 (by omega)
  | k + 1, p, S, hp, h => by
    rcases h with h | ⟨nt, h1, h2⟩ | ⟨h1, h2⟩ | ⟨h1, h2⟩
    · rw [h]
      exact fp_le (by omega) (fp_mv hp p 0 (by omega))
    · have := fp_ins h1 (Nat.le_refl p) _ 0 S (by omega) (rk_fp k p _ hp h2)
      rw [show k + 1 + p = k + p + 1 by omega]; exact this
    · have := fp_weak (show p ≤ p + 1 by omega) _ _ _ (rk_fp k (p + 1) S h1 h2)
      rw [show k + 1 + p = k + (p + 1) by omega]; exact this
    · have := fp_app (p := p - 1) (by omega) _ _ _ (rk_fp k (p - 1) S (by omega) h2)
      rw [show p - 1 + 1 = p by omega] at this
      exact fp_le (by omega) this
theorem rk_fw {W : Nat → Nat → Nat} {all : Nat} : ∀ k p S, p < 50 → Rk W all k p S → FP W all 0 k p S ∨ (1 ≤ k + p ∧ FP W all p (k + p - 1) 0 S)
  | 0, p, S, _, h => Or.inl ⟨h, Nat.zero_le _⟩
  | k + 1, p, S, hp, h => by
    rcases h with h | ⟨nt, h1, h2⟩ | ⟨h1, h2⟩ | ⟨h1, h2⟩
    · exact Or.inl (Or.inl ⟨h, Nat.zero_le _⟩)
    · rcases rk_fw k p _ hp h2 with h3 | ⟨h3, h4⟩
      · exact Or.inl (Or.inr (Or.inl ⟨nt, h1, h3⟩))
      · refine Or.inr ⟨by omega, ?_⟩
        have := fp_ins h1 (Nat.le_refl p) _ 0 S (by omega) h4
        rw [show k + 1 + p - 1 = k + p - 1 + 1 by omega]; exact this
    · rcases rk_fw k (p + 1) S h1 h2 with h3 | ⟨h3, h4⟩
      · exact Or.inl (Or.inr (Or.inr ⟨h1, h3⟩))
      · refine Or.inr ⟨by omega, ?_⟩
        have := fp_weak (show p ≤ p + 1 by omega) _ _ _ h4
        rw [show k + 1 + p - 1 = k + (p + 1) - 1 by omega]; exact this
    · refine Or.inr ⟨by omega, ?_⟩
      have := fp_app (p := p - 1) (by omega) _ _ _ (rk_fp k (p - 1) S (by omega) h2)
      rw [show p - 1 + 1 = p by omega] at this
      rw [show k + 1 + p - 1 = k + (p - 1) + 1 by omega]; exact this
/-- so far: k minutes on and on from (0, 0) to (p, S) -/
def Pf (W : Nat → Nat → Nat) : Nat → Nat → Nat → Prop
  | 0, p, S => p = 0 ∧ S = 0
  | k + 1, p, S => (∃ nt S', nt < 64 ∧ Pf W k p S' ∧ S = S' ||| W p nt) ∨ (∃ p', p = p' + 1 ∧ p < 50 ∧ Pf W k p' S)
theorem pf_le {W : Nat → Nat → Nat} : ∀ k p S, Pf W k p S → p ≤ k ∧ p < 50
  | 0, p, S, h => by have := h.1; omega
  | k + 1, p, S, h => by
    rcases h with ⟨nt, S', -, h, -⟩ | ⟨p', h1, h2, h⟩
    · have := pf_le k p S' h; omega
    · have := pf_le k p' S h; omega
theorem pf_fp {W : Nat → Nat → Nat} {all b : Nat} : ∀ k p S j, p ≤ b → Pf W k p S → FP W all b j 0 S → FP W all b (j + (k - p)) 0 0
  | 0, p, S, j, _, h, hf => by
    rw [h.2] at hf
    exact fp_le (by omega) hf
  | k + 1, p, S, j, hb, h, hf => by
    rcases h with ⟨nt, S', hnt, h, rfl⟩ | ⟨p', h1, h2, h⟩
    · have hl := pf_le k p S' h
      have := pf_fp k p S' (j + 1) hb h (fp_ins hnt hb j 0 S' (by omega) hf)
      rw [show j + (k + 1 - p) = j + 1 + (k - p) by omega]; exact this
    · have := pf_fp k p' S j (by omega) h hf
      rw [show j + (k + 1 - p) = j + (k - p') by omega]; exact this
/-- on a way of the fewest minutes nothing is gained by going back -/
theorem opt_fw {W : Nat → Nat → Nat} {all T k K p S : Nat} (hT : ∀ j, j < T → ¬ Rk W all j 0 0) (hk : k + K = T) (hp : Pf W k p S) (h : Rk W all K p S) : FP W all 0 K p S := by
  have hl := pf_le k p S hp
  rcases rk_fw K p S hl.2 h with h1 | ⟨h1, h2⟩
  · exact h1
  · have := fp_rk _ _ _ (pf_fp k p S _ (Nat.le_refl p) hp h2)
    exact absurd this (hT _ (by omega))
theorem rk_0 {W : Nat → Nat → Nat} {all k : Nat} (h : Rk W all k 0 0) : FP W all 0 k 0 0 := rk_fp k 0 0 (by omega) h
/-- more woken: no more minutes -/
theorem fp_mono {W : Nat → Nat → Nat} {all b : Nat} (hW : ∀ p t, sub (W p t) all) : ∀ k q S S', sub S S' → sub S' all → FP W all b k q S → FP W all b k q S'
  | 0, q, S, S', h1, h2, h => by
    obtain ⟨h0, h3⟩ := h
    rw [h0] at h1
    exact ⟨sub_antisymm h2 h1, h3⟩
  | k + 1, q, S, S', h1, h2, h => by
    rcases h with ⟨h0, h3⟩ | ⟨nt, h3, h4⟩ | ⟨h3, h4⟩
    · rw [h0] at h1
      exact Or.inl ⟨sub_antisymm h2 h1, h3⟩
    · refine Or.inr (Or.inl ⟨nt, h3, fp_mono hW k q _ _ ?_ (sub_or h2 (hW q nt)) h4⟩)
      refine sub_iff.mpr (fun i hi => ?_)
      rw [Nat.testBit_or] at hi ⊢
      rcases Bool.or_eq_true_iff.mp hi with z | z
      · rw [sub_iff.mp h1 i z]; rfl
      · rw [z, Bool.or_true]
    · exact Or.inr (Or.inr ⟨h3, fp_mono hW k _ _ _ h1 h2 h4⟩)
