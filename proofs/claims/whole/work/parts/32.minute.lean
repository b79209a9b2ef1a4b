/-! a minute: what burns, moths, leaders, the minute, the seed -/
abbrev Mo : Type := (Nat → Int32) × (Nat → Int32) × (Nat → Int32) × Int32 × Int32
def lgt (S : Nat) (bu who : Int32) (μ : Mo) : Mo := (fun l => if S.testBit l then bu else μ.1 l, μ.2.1, fun l => if S.testBit l then who else μ.2.2.1 l, μ.2.2.2)
def sgs (mi : Nat → Int32) (S : Nat → Nat) (who : Nat → Int32) (bu : Int32) (μ : Mo) : Nat → Mo
  | 0 => μ
  | k + 1 => if mi k = μ.2.2.2.1 then lgt (S k) bu (who k) (sgs mi S who bu μ k) else sgs mi S who bu μ k
def dr (x : Int32) : Int32 := (x * 1103515245 + 12345) &&& 2147483647
def drn (x n : Int32) : Int32 := x / 65536 - x / 65536 / n * n
def wnd (w : Int32) (Sw : Int32 → Int32 → Nat) (bu : Int32) (μ : Mo) : Mo := if w ≤ 0 then μ else lgt (Sw (drn (dr μ.2.2.2.2) (nI 50)) (drn (dr (dr μ.2.2.2.2)) (nI 64))) bu (-2) (μ.1, μ.2.1, μ.2.2.1, μ.2.2.2.1, dr (dr μ.2.2.2.2))
def brl (x : Int32) : Int32 := if x ≤ 0 then x else x - 1
def brm (x y : Int32) : Int32 := if x ≤ 0 then y else if 99 ≤ y then y else y + 1
def brn (μ : Mo) : Mo := (fun l => brl (μ.1 l), fun l => brm (brl (μ.1 l)) (μ.2.1 l), μ.2.2)
def mst (c : Nat) (mi : Nat → Int32) (S : Nat → Nat) (who : Nat → Int32) (w : Int32) (Sw : Int32 → Int32 → Nat) (bu : Int32) (μ : Mo) : Mo := match brn (wnd w Sw bu (sgs mi S who bu μ c)) with
  | (a, b, d, e, f) => (a, b, d, e + 1, f)
def mrel (b : Nat) (σ : jS) (μ : Mo) : Prop := (∀ l, l < 10 → g_i σ (b + 2) l = μ.1 l ∧ g_i σ (b + 3) l = μ.2.1 l ∧ g_i σ (b + 4) l = μ.2.2.1 l) ∧ g_i σ b 5 = μ.2.2.2.1 ∧ g_i σ b 8 = μ.2.2.2.2
def mrelM (n : Nat) (σ : jS) (μ : Mo) : Prop := (∀ l, l < 10 → g_i σ 103 l = μ.1 l ∧ g_i σ 104 l = μ.2.1 l ∧ (l < n → g_i σ 105 l = μ.2.2.1 l)) ∧ g_i σ 101 14 = μ.2.2.2.1 ∧ g_i σ 101 17 = μ.2.2.2.2
def wMi (b : Nat) : Nat → Nat → Bool := fun a k => a == b + 2 || a == b + 3 || a == b + 4 || (a == b && (k == 5 || k == 8))
def wMm : Nat → Nat → Bool := fun a k => a == 103 || a == 104 || a == 105 || (a == 101 && (k == 14 || k == 17))
/-! the draw -/
theorem dr_nI {d : Nat} (hd : d < 2147483648) : dr (nI d) = nI ((d * 1103515245 + 12345) % 2147483648) := by
  unfold dr
  show (nI d * nI 1103515245 + nI 12345) &&& nI 2147483647 = _
  rw [nI_mul, nI_add, nI_and]
  exact congrArg nI (Nat.and_two_pow_sub_one_eq_mod (d * 1103515245 + 12345) 31)
theorem dr_pos {x : Int32} (hx : 0 ≤ x.toInt) : ∃ d, d < 2147483648 ∧ dr x = nI d := by
  obtain ⟨j, hj, rfl⟩ := nI_all (x := x) (by rw [lt0]; omega)
  exact ⟨_, Nat.mod_lt _ (by decide), dr_nI hj⟩
theorem drn_rg {d n : Nat} (hd : d < 2147483648) (h0 : 0 < n) (hn : n < 2147483648) : ∃ j, j < n ∧ drn (nI d) (nI n) = nI j := by
  unfold drn
  show ∃ j, j < n ∧ nI d / nI 65536 - nI d / nI 65536 / nI n * nI n = nI j
  rw [pk_div (a := d) (d := 65536) hd (by omega) (by omega)]
  have : d / 65536 < 2147483648 := by omega
  rw [pk_rem this h0 hn]
  exact ⟨_, Nat.mod_lt _ h0, rfl⟩
theorem dr_long {d : Nat} (hd : d < 2147483648) : (((nI d).toInt64 * 1103515245 + 12345) - ((nI d).toInt64 * 1103515245 + 12345) / 2147483648 * 2147483648).toInt32 = dr (nI d) := by
  rw [dr_nI hd, nI_l hd]
  show (lN d * lN 1103515245 + lN 12345 - (lN d * lN 1103515245 + lN 12345) / lN 2147483648 * lN 2147483648).toInt32 = _
  rw [lN_mul, lN_add, pk_lRem (by omega) (by omega) (by omega), lN_i]
theorem xdraw {nm : Nat → Nat} {b : Nat} {n : Nat} {σ : jS} (hm : nm 0 = b) (hn : 0 < n) (hn2 : n < 1000) : f_X2_draw nm (nI n) σ = some (drn (dr (g_i σ b 8)) (nI n), s_i σ b 8 (dr (g_i σ b 8))) := by
  unfold f_X2_draw
  rw [bdx, hm, if_neg (show ¬ nI n ≤ 0 from nI_nle hn (by omega)), gd_t (by decide), gd_t (nI_ne0 hn (by omega)), s_i_eq]
  rfl
theorem mdraw {n : Nat} {σ : jS} (hs : 0 ≤ (g_i σ 101 17).toInt) (hn : 0 < n) (hn2 : n < 1000) : f_X11_draw nmM (nI n) σ = some (drn (dr (g_i σ 101 17)) (nI n), s_i σ 101 17 (dr (g_i σ 101 17))) := by
  obtain ⟨d, hd, e⟩ := nI_all (x := g_i σ 101 17) (by rw [lt0]; omega)
  have e' : g_i σ (nmM 0) 17 = nI d := e
  unfold f_X11_draw
  rw [gd_t (by decide), e', dr_long hd, bdx, gd_t (by decide), gd_t (nI_ne0 hn (by omega)), e]
  have e2 : g_i (s_i σ (nmM 0) 17 (dr (nI d))) (nmM 0) 17 = dr (nI d) := s_i_eq σ 101 17 _
  rw [e2]
  rfl
/-! burning down -/
theorem xburn {nm : Nat → Nat} {b : Nat} (hm : momNm nm b) {σ : jS} {μ : Mo} (hr : mrel b σ μ) : wp (f_X2_burnDown nm σ) (fun τ => ux (wMi b) σ τ ∧ mrel b τ (brn μ)) := by
  unfold f_X2_burnDown
  refine wp_bind ?_
  refine wp_up 10 (fun i s => s.1 = nI i ∧ ux (fun a _ => a == b + 2 || a == b + 3) σ s.2 ∧ (∀ l, l < i → g_i s.2 (b + 2) l = brl (μ.1 l) ∧ g_i s.2 (b + 3) l = brm (brl (μ.1 l)) (μ.2.1 l)) ∧ ∀ l, i ≤ l → l < 10 → g_i s.2 (b + 2) l = μ.1 l ∧ g_i s.2 (b + 3) l = μ.2.1 l) (i := 0) (by omega) (by omega) ⟨rfl, ux_refl _ _, fun l hl => absurd hl (Nat.not_lt_zero l), fun l _ hl => ⟨(hr.1 l hl).1, (hr.1 l hl).2.1⟩⟩ ?_
  rintro i ⟨v, υ⟩ hi ⟨hv, hu, hlo, hhi⟩
  have hv : v = nI i := hv
  subst hv
  have hu : ux (fun a _ => a == b + 2 || a == b + 3) σ υ := hu
  have hlo : ∀ l, l < i → g_i υ (b + 2) l = brl (μ.1 l) ∧ g_i υ (b + 3) l = brm (brl (μ.1 l)) (μ.2.1 l) := hlo
  have hhi : ∀ l, i ≤ l → l < 10 → g_i υ (b + 2) l = μ.1 l ∧ g_i υ (b + 3) l = μ.2.1 l := hhi
  unfold f_X2_burnDown_L2
  show wp (if nI 10 ≤ nI i then _ else _) _
  refine wp_ite (fun hc => ?_) (fun hc => ?_)
  · rw [nI_le' (by omega) (by omega)] at hc
    refine wp_some (wp_some ⟨ux_w hu (fun a k h => ?_), fun l hl => ⟨(hlo l (by omega)).1, (hlo l (by omega)).2, ?_⟩, ?_, ?_⟩)
    · simp [wMi] at h ⊢; omega
    · rw [hu (b + 4) l (by simp)]; exact (hr.1 l hl).2.2
    · rw [hu b 5 (by simp)]; exact hr.2.1
    · rw [hu b 8 (by simp)]; exact hr.2.2
  · rw [nI_le' (by omega) (by omega)] at hc
    have hin : vp_in (nI i) 10 := nI_in' (by omega) (by omega)
    obtain ⟨f1, f2⟩ := hhi i (Nat.le_refl _) (by omega)
    -- the lamp's own minutes
    have hJ : ∀ υ2, υ2 = s_i υ (b + 2) i (brl (μ.1 i)) ∨ (υ2 = υ ∧ brl (μ.1 i) = μ.1 i) → wp (f_X2_burnDown_J27 nm (nI i) υ2) (fun x => ∃ t, x = .inl t ∧ t.1 = nI (i + 1) ∧ ux (fun a _ => a == b + 2 || a == b + 3) σ t.2 ∧ (∀ l, l < i + 1 → g_i t.2 (b + 2) l = brl (μ.1 l) ∧ g_i t.2 (b + 3) l = brm (brl (μ.1 l)) (μ.2.1 l)) ∧ ∀ l, i + 1 ≤ l → l < 10 → g_i t.2 (b + 2) l = μ.1 l ∧ g_i t.2 (b + 3) l = μ.2.1 l) := by
      intro υ2 h2
      have g1 : g_i υ2 (b + 2) i = brl (μ.1 i) := by
        rcases h2 with rfl | ⟨rfl, e⟩
        · exact s_i_eq _ _ _ _
        · rw [f1, e]
      have g2 : ∀ l, g_i υ2 (b + 3) l = g_i υ (b + 3) l := by
        intro l
        rcases h2 with rfl | ⟨rfl, e⟩
        · exact s_i_a (show b + 3 ≠ b + 2 by omega)
        · rfl
      have g3 : ∀ l, l ≠ i → g_i υ2 (b + 2) l = g_i υ (b + 2) l := by
        intro l hl
        rcases h2 with rfl | ⟨rfl, e⟩
        · exact s_i_k hl
        · rfl
      have gu : ux (fun a _ => a == b + 2 || a == b + 3) σ υ2 := by
        rcases h2 with rfl | ⟨rfl, e⟩
        · exact ux_s hu (by simp)
        · exact hu
      have hend : ∀ υ3, (∀ l, l ≠ i → g_i υ3 (b + 3) l = g_i υ2 (b + 3) l) → (∀ l, g_i υ3 (b + 2) l = g_i υ2 (b + 2) l) → g_i υ3 (b + 3) i = brm (brl (μ.1 i)) (μ.2.1 i) → (∀ l, l < i + 1 → g_i υ3 (b + 2) l = brl (μ.1 l) ∧ g_i υ3 (b + 3) l = brm (brl (μ.1 l)) (μ.2.1 l)) ∧ ∀ l, i + 1 ≤ l → l < 10 → g_i υ3 (b + 2) l = μ.1 l ∧ g_i υ3 (b + 3) l = μ.2.1 l := by
        intro υ3 k1 k2 k3
        refine ⟨fun l hl => ?_, fun l hl h10 => ?_⟩
        · by_cases hli : l = i
          · subst hli; exact ⟨by rw [k2, g1], k3⟩
          · rw [k1 l hli, k2 l, g2 l, g3 l hli]; exact hlo l (by omega)
        · rw [k1 l (by omega), k2 l, g2 l, g3 l (by omega)]; exact hhi l (by omega) h10
      unfold f_X2_burnDown_J27
      refine wp_gd hin ?_
      rw [nI_cl (by omega), hm.2.2.1, hm.2.2.2.1, g1, g2, f2]
      refine wp_ite (fun c1 => ?_) (fun c1 => ?_)
      · refine wp_some ⟨_, rfl, nI_1 i, gu, hend _ (fun l _ => rfl) (fun l => rfl) ?_⟩
        show g_i υ2 (b + 3) i = _
        rw [g2, f2]; unfold brm; rw [if_pos c1]
      · refine wp_gd hin ?_
        refine wp_ite (fun c2 => ?_) (fun c2 => ?_)
        · refine wp_some ⟨_, rfl, nI_1 i, gu, hend _ (fun l _ => rfl) (fun l => rfl) ?_⟩
          show g_i υ2 (b + 3) i = _
          rw [g2, f2]; unfold brm; rw [if_neg c1, if_pos c2]
        · refine wp_gd hin (wp_gd hin (wp_bd (fun s3 h3 => wp_some ⟨_, rfl, nI_1 i, ?_, hend _ (fun l hl => ?_) (fun l => ?_) ?_⟩)))
          · rw [h3]; exact ux_s gu (by simp)
          · rw [h3]; exact s_i_k hl
          · rw [h3]; exact s_i_a (show b + 2 ≠ b + 3 by omega)
          · rw [h3]
            show g_i (s_i υ2 (b + 3) i _) (b + 3) i = _
            rw [s_i_eq]; unfold brm; rw [if_neg c1, if_neg c2]
    refine wp_gd hin ?_
    rw [nI_cl (by omega), hm.2.2.1, f1]
    by_cases c1 : μ.1 i ≤ 0
    · rw [if_pos c1]
      refine wp_bindE rfl (wp_mono (hJ υ (Or.inr ⟨rfl, by unfold brl; rw [if_pos c1]⟩)) (fun x hx => ?_))
      obtain ⟨t, rfl, h⟩ := hx
      exact ⟨by omega, h⟩
    · rw [if_neg c1, gd_t hin, gd_t hin, bdx]
      refine wp_bindE rfl (wp_mono (hJ _ (Or.inl (by unfold brl; rw [if_neg c1]))) (fun x hx => ?_))
      obtain ⟨t, rfl, h⟩ := hx
      exact ⟨by omega, h⟩
