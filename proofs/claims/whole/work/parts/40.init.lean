def wSt (b : Nat) : Nat → Nat → Bool := fun a k => a == b + 1 || a == b + 2 || a == b + 3 || a == b + 4 || (a == b && (k == 5 || k == 6 || k == 7))
/-- a moment that starts anew -/
theorem startOn_c {nm : Nat → Nat} {n b : Nat} (hm : momNm nm b) (hb : 47 < b) (h4 : nm 4 = 34) (h5 : nm 5 = 35) {σ : jS} (h34 : g_i σ 34 1 = nI n) (hn : n ≤ 10) : wp (f_X2_startOn nm σ) (fun τ => ux (wSt b) σ τ ∧ (∀ l, l < 10 → g_i τ (b + 1) l = (if l < n then g_i σ 35 l else 0) ∧ g_i τ (b + 2) l = 0 ∧ g_i τ (b + 3) l = 0 ∧ g_i τ (b + 4) l = -1) ∧ g_i τ b 5 = 0 ∧ g_i τ b 6 = 0 ∧ g_i τ b 7 = 0) := by
  unfold f_X2_startOn
  refine wp_bind ?_
  refine wp_up 10 (fun i s => s.1 = nI i ∧ ux (fun a _ => a == b + 1) σ s.2 ∧ ∀ l, l < i → g_i s.2 (b + 1) l = (if l < n then g_i σ 35 l else 0)) (i := 0) (by omega) (by omega) ⟨rfl, ux_refl _ _, fun l hl => absurd hl (Nat.not_lt_zero l)⟩ ?_
  rintro i ⟨v, υ⟩ hi ⟨hv, hu, hlo⟩
  have hv : v = nI i := hv
  subst hv
  have hu : ux (fun a _ => a == b + 1) σ υ := hu
  have hlo : ∀ l, l < i → g_i υ (b + 1) l = (if l < n then g_i σ 35 l else 0) := hlo
  unfold f_X2_startOn_L2
  show wp (if nI 10 ≤ nI i then _ else _) _
  refine wp_ite (fun hc => ?_) (fun hc => ?_)
  · rw [nI_le' (by omega) (by omega)] at hc
    refine wp_some (wp_bd (fun s4 e4 => wp_bd (fun s5 e5 => wp_bind (wp_mono (darken_c hm s5) ?_))))
    rintro τ ⟨hut, hvt, ht5⟩
    rw [hm.1.1] at e4 e5
    have hu5 : ux (wSt b) σ s5 := by
      rw [e5, e4]
      exact ux_s (ux_s (ux_w hu (fun a k h => by simp [wSt] at h ⊢; omega)) (by simp [wSt])) (by simp [wSt])
    refine wp_some ⟨fun a k h => (hut a k ?_).trans (hu5 a k h), fun l hl => ⟨?_, hvt l hl⟩, ht5, ?_, ?_⟩
    · simp [wSt, wDk] at h ⊢; omega
    · rw [hut (b + 1) l (by simp [wDk]), e5, e4, s_i_a (show b + 1 ≠ b by omega), s_i_a (show b + 1 ≠ b by omega)]
      exact hlo l (by omega)
    · rw [hut b 6 (by simp [wDk]), e5, e4, s_i_k (by decide), s_i_eq]
    · rw [hut b 7 (by simp [wDk]), e5, s_i_eq]
  · rw [nI_le' (by omega) (by omega)] at hc
    have hin : vp_in (nI i) 10 := nI_in' (by omega) (by omega)
    have e34 : g_i υ (jn nm [4, 5] 0) 1 = nI n := by
      show g_i υ (nm 4) 1 = nI n
      rw [h4, hu 34 1 (by simp; omega)]; exact h34
    refine wp_bindE (row_at e34 hn (by omega) (by omega)) (wp_gd hin (wp_bd (fun s2 h2 => wp_some ⟨by omega, nI_1 i, ?_, ?_⟩)))
    · rw [h2, hm.2.1]
      exact ux_s hu (by simp)
    · intro l hl
      show g_i s2 (b + 1) l = _
      have e35 : g_i υ (jn nm [4, 5] 1) i = g_i σ 35 i := by
        show g_i υ (nm 5) i = _
        rw [h5]; exact hu 35 i (by simp; omega)
      rw [h2, hm.2.1, nI_cl (by omega), e35]
      by_cases hli : l = i
      · subst hli
        exact s_i_eq _ _ _ _
      · rw [s_i_k hli]
        exact hlo l (by omega)
def τi : jS := s_i (s_i (s_i σz 31 8 20) 31 9 30) 31 10 5
theorem fill_i : f_X6_fillUntold (jn nmX [31, 32, 33, 34, 35, 36, 37, 38, 39, 40, 41, 42, 43, 44, 45, 46, 47]) σz = some τi := rfl
theorem rel_i : ∃ τ1 τ2 : jS, f_X6_fillUntold (jn nmX [31, 32, 33, 34, 35, 36, 37, 38, 39, 40, 41, 42, 43, 44, 45, 46, 47]) σz = some τ1 ∧ f_X2_startOn (jn nmX [57, 31, 32, 33, 34, 35, 36, 37, 38, 39, 40, 41, 42, 43, 44, 45, 46, 47, 58, 59, 60, 61]) τ1 = some τ2 ∧ Rel (σ2 τ2) := by
  obtain ⟨τ, ht, hu, hv, t5, t6, t7⟩ := startOn_c (n := 0) (σ := τi) momX (by omega) rfl rfl rfl (by omega)
  refine ⟨τi, τ, fill_i, ht, 0, 0, ?_, ?_, ?_, ?_, ?_, ?_, ?_, ?_, ?_, ?_, ?_⟩
  · have e8 : g_i (σ2 τ) 31 8 = 20 := hu 31 8 rfl
    have e9 : g_i (σ2 τ) 31 9 = 30 := hu 31 9 rfl
    have e10 : g_i (σ2 τ) 31 10 = 5 := hu 31 10 rfl
    refine ⟨⟨by omega, by omega⟩, ⟨hu 32 1 rfl, hu 34 1 rfl, hu 36 1 rfl, hu 38 1 rfl, rfl⟩, ⟨hu 40 1 rfl, hu 42 1 rfl, hu 44 1 rfl, hu 46 1 rfl, rfl⟩, ?_, ?_, ?_, fun l hl => absurd hl (Nat.not_lt_zero l), fun l hl => absurd hl (Nat.not_lt_zero l)⟩
    · rw [e8]; exact ⟨⟨by decide, by decide⟩, rfl⟩
    · rw [e9]; exact ⟨⟨by decide, by decide⟩, rfl⟩
    · rw [e10]; exact ⟨⟨by decide, by decide⟩, rfl⟩
  · have e59 : ∀ l, l < 10 → g_i (σ2 τ) 59 l = 0 := fun l hl => (hv l hl).2.1
    have e60 : ∀ l, l < 10 → g_i (σ2 τ) 60 l = 0 := fun l hl => (hv l hl).2.2.1
    have e5 : g_i (σ2 τ) 57 5 = 0 := t5
    have e6 : g_i (σ2 τ) 57 6 = 0 := t6
    have e7 : g_i (σ2 τ) 57 7 = 0 := t7
    have e8 : g_i (σ2 τ) 57 8 = 0 := hu 57 8 rfl
    refine ⟨⟨fun l hl => absurd hl (Nat.not_lt_zero l), fun l hl => ?_, ?_, ?_, ?_⟩, fun l hl => absurd hl (Nat.not_lt_zero l), fun l hl => ⟨?_, ?_, fun h => absurd h (Nat.not_lt_zero l)⟩, ?_, ?_, ?_, ?_⟩
    · show rg (g_i (σ2 τ) 59 l) 0 99 ∧ rg (g_i (σ2 τ) 60 l) 0 99 ∧ (0 ≤ l → g_i (σ2 τ) 59 l = 0)
      rw [e59 l hl, e60 l hl]; exact ⟨rg0, rg0, fun _ => rfl⟩
    · rw [e6]; exact ⟨by decide, by decide⟩
    · rw [e7]; exact ⟨by decide, by decide⟩
    · rw [e8]; decide
    · rw [e59 l hl]; rfl
    · rw [e60 l hl]; rfl
    · rw [e5]; rfl
    · rw [e6]; rfl
    · rw [e7]; rfl
    · rw [e8]; rfl
  · exact ⟨0, by omega, ⟨hu 49 1 rfl, hu 51 1 rfl, hu 53 1 rfl, rfl⟩, fun l hl => absurd hl (Nat.not_lt_zero l)⟩
  · exact ⟨0, by omega, ⟨hu 55 1 rfl, rfl⟩, fun l hl => absurd hl (Nat.not_lt_zero l)⟩
  · exact ⟨0, by omega, ⟨hu 77 1 rfl, rfl⟩, fun l hl => absurd hl (Nat.not_lt_zero l)⟩
  · exact ⟨0, by omega, ⟨hu 79 1 rfl, rfl⟩, fun l hl => absurd hl (Nat.not_lt_zero l)⟩
  · exact Or.inl ⟨hu 67 9 rfl, rfl⟩
  · exact Or.inl ⟨hu 72 9 rfl, rfl⟩
  · exact ⟨0, by omega, ⟨hu 1 1 rfl, rfl⟩, fun l hl => absurd hl (Nat.not_lt_zero l)⟩
  · exact (hu 30 5 rfl).symm
  · exact Or.inl (hu 91 7 rfl)
