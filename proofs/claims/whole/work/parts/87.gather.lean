/-! the sounded sets, class side -/
def bN (v : BitVec 64) (t : Nat) : Bool := v.getLsbD t
theorem bv_l (v : BitVec 64) (t : Nat) : (v >>> t) &&& 1#64 = if v.getLsbD t = true then 1#64 else 0#64 := by
  apply BitVec.eq_of_getLsbD_eq
  intro i hi
  have h1 : ∀ i, i < 64 → (1#64).getLsbD i = decide (i = 0) := by decide
  rw [BitVec.getLsbD_and, BitVec.getLsbD_ushiftRight, h1 i hi]
  by_cases e : i = 0
  · subst e
    cases hb : v.getLsbD t with
    | true => rw [if_pos rfl, h1 0 (by decide)]; simp [hb]
    | false => rw [if_neg (by decide)]; simp [hb]
  · rw [decide_eq_false e, Bool.and_false]
    cases hb : v.getLsbD t with
    | true => rw [if_pos rfl, h1 i hi, decide_eq_false e]
    | false => rw [if_neg (by decide)]; simp
theorem bv_s (v : BitVec 64) (t : Nat) (ht : t < 64) : (v.sshiftRight t) &&& 1#64 = (v >>> t) &&& 1#64 := by
  apply BitVec.eq_of_getLsbD_eq
  intro i hi
  have h1 : ∀ i, i < 64 → (1#64).getLsbD i = decide (i = 0) := by decide
  rw [BitVec.getLsbD_and, BitVec.getLsbD_and, BitVec.getLsbD_ushiftRight, BitVec.getLsbD_sshiftRight, h1 i hi]
  by_cases e : i = 0
  · subst e
    have a1 : ¬ 64 ≤ 0 := by omega
    have a2 : t + 0 < 64 := by omega
    simp [ht]
  · rw [decide_eq_false e, Bool.and_false, Bool.and_false]
theorem sh_x (v : Int64) {t : Nat} (ht : t < 64) : ((v.toUInt64 >>> ((nI t).toInt64.toUInt64 &&& Int64.toUInt64 63)).toInt64).toBitVec = v.toBitVec >>> t :=
  match t, ht with
  | 0, _ => rfl
  | 1, _ => rfl
  | 2, _ => rfl
  | 3, _ => rfl
  | 4, _ => rfl
  | 5, _ => rfl
  | 6, _ => rfl
  | 7, _ => rfl
  | 8, _ => rfl
  | 9, _ => rfl
  | 10, _ => rfl
  | 11, _ => rfl
  | 12, _ => rfl
  | 13, _ => rfl
  | 14, _ => rfl
  | 15, _ => rfl
  | 16, _ => rfl
  | 17, _ => rfl
  | 18, _ => rfl
  | 19, _ => rfl
  | 20, _ => rfl
  | 21, _ => rfl
  | 22, _ => rfl
  | 23, _ => rfl
  | 24, _ => rfl
  | 25, _ => rfl
  | 26, _ => rfl
  | 27, _ => rfl
  | 28, _ => rfl
  | 29, _ => rfl
  | 30, _ => rfl
  | 31, _ => rfl
  | 32, _ => rfl
  | 33, _ => rfl
  | 34, _ => rfl
  | 35, _ => rfl
  | 36, _ => rfl
  | 37, _ => rfl
  | 38, _ => rfl
  | 39, _ => rfl
  | 40, _ => rfl
  | 41, _ => rfl
  | 42, _ => rfl
  | 43, _ => rfl
  | 44, _ => rfl
  | 45, _ => rfl
  | 46, _ => rfl
  | 47, _ => rfl
  | 48, _ => rfl
  | 49, _ => rfl
  | 50, _ => rfl
  | 51, _ => rfl
  | 52, _ => rfl
  | 53, _ => rfl
  | 54, _ => rfl
  | 55, _ => rfl
  | 56, _ => rfl
  | 57, _ => rfl
  | 58, _ => rfl
  | 59, _ => rfl
  | 60, _ => rfl
  | 61, _ => rfl
  | 62, _ => rfl
  | 63, _ => rfl
  | n + 64, h => absurd h (by omega)
theorem sh_m (v : Int64) {t : Nat} (ht : t < 64) : (v >>> ((nI t).toInt64 &&& 63)).toBitVec = v.toBitVec.sshiftRight t :=
  match t, ht with
  | 0, _ => rfl
  | 1, _ => rfl
  | 2, _ => rfl
  | 3, _ => rfl
  | 4, _ => rfl
  | 5, _ => rfl
  | 6, _ => rfl
  | 7, _ => rfl
  | 8, _ => rfl
  | 9, _ => rfl
  | 10, _ => rfl
  | 11, _ => rfl
  | 12, _ => rfl
  | 13, _ => rfl
  | 14, _ => rfl
  | 15, _ => rfl
  | 16, _ => rfl
  | 17, _ => rfl
  | 18, _ => rfl
  | 19, _ => rfl
  | 20, _ => rfl
  | 21, _ => rfl
  | 22, _ => rfl
  | 23, _ => rfl
  | 24, _ => rfl
  | 25, _ => rfl
  | 26, _ => rfl
  | 27, _ => rfl
  | 28, _ => rfl
  | 29, _ => rfl
  | 30, _ => rfl
  | 31, _ => rfl
  | 32, _ => rfl
  | 33, _ => rfl
  | 34, _ => rfl
  | 35, _ => rfl
  | 36, _ => rfl
  | 37, _ => rfl
  | 38, _ => rfl
  | 39, _ => rfl
  | 40, _ => rfl
  | 41, _ => rfl
  | 42, _ => rfl
  | 43, _ => rfl
  | 44, _ => rfl
  | 45, _ => rfl
  | 46, _ => rfl
  | 47, _ => rfl
  | 48, _ => rfl
  | 49, _ => rfl
  | 50, _ => rfl
  | 51, _ => rfl
  | 52, _ => rfl
  | 53, _ => rfl
  | 54, _ => rfl
  | 55, _ => rfl
  | 56, _ => rfl
  | 57, _ => rfl
  | 58, _ => rfl
  | 59, _ => rfl
  | 60, _ => rfl
  | 61, _ => rfl
  | 62, _ => rfl
  | 63, _ => rfl
  | n + 64, h => absurd h (by omega)
theorem note_x (v : Int64) {t : Nat} (ht : t < 64) : (lg_cmp (((v.toUInt64 >>> ((nI t).toInt64.toUInt64 &&& Int64.toUInt64 63)).toInt64) &&& 1) 0 = 0) ↔ bN v.toBitVec t = false := by
  rw [lg_cmp_eq, ← Int64.toBitVec_inj, Int64.toBitVec_and, sh_x v ht]
  show (v.toBitVec >>> t) &&& 1#64 = 0#64 ↔ _
  rw [bv_l]
  unfold bN
  cases v.toBitVec.getLsbD t with
  | true => rw [if_pos rfl]; exact ⟨fun h => absurd h (by decide), fun h => by cases h⟩
  | false => rw [if_neg (by decide)]; exact ⟨fun _ => rfl, fun _ => rfl⟩
theorem note_m (v : Int64) {t : Nat} (ht : t < 64) : f_X11_isNote v (nI t) = some (if bN v.toBitVec t = true then 1 else 0) := by
  unfold f_X11_isNote
  have h : (lg_cmp ((v >>> ((nI t).toInt64 &&& 63)) &&& 1) 1 = 0) ↔ bN v.toBitVec t = true := by
    rw [lg_cmp_eq, ← Int64.toBitVec_inj, Int64.toBitVec_and, sh_m v ht]
    show (v.toBitVec.sshiftRight t) &&& 1#64 = 1#64 ↔ _
    rw [bv_s _ _ ht, bv_l]
    unfold bN
    cases v.toBitVec.getLsbD t with
    | true => rw [if_pos rfl]; exact ⟨fun _ => rfl, fun _ => rfl⟩
    | false => rw [if_neg (by decide)]; exact ⟨fun h => absurd h (by decide), fun h => by cases h⟩
  by_cases hb : bN v.toBitVec t = true
  · rw [if_pos (h.mpr hb), if_pos hb]
  · rw [if_neg (fun e => hb (h.mp e)), if_neg hb]
/-- the rows of the sets that sounds of these notes wake -/
def SOk (W : Nat → Nat → Nat) (nb : Nat → Bool) (done : Nat → Nat → Prop) (σ : jS) : Prop := ∃ m a, m ≤ 1024 ∧ RowS 84 85 a m σ ∧ (∀ i j, i < m → j < m → i ≠ j → a i ≠ a j) ∧ (∀ k, k < m → ∃ p t, p < 50 ∧ t < 64 ∧ nb t = true ∧ a k = W p t) ∧ (∀ p t, p < 50 → t < 64 → done p t → nb t = true → ∃ k, k < m ∧ a k = W p t) ∧ (∀ x, x < 1024 → (g_i σ 86 x = 0 ∧ ∀ k, k < m → a k ≠ x) ∨ (g_i σ 86 x = 1 ∧ ∃ k, k < m ∧ a k = x))
def wGa (a _k : Nat) : Bool := decide (84 ≤ a ∧ a ≤ 86)
theorem gather_c {nm : Nat → Nat} {W : Nat → Nat → Nat} {notes : Int64} {σ : jS} (hm : whNm nm) (hW : ∀ p t, p < 50 → t < 64 → g_i σ 82 (64 * p + t) = nI (W p t) ∧ W p t < 1024) : ∃ τ, f_X9_gather nm notes σ = some τ ∧ ux wGa σ τ ∧ SOk W (bN notes.toBitVec) (fun _ _ => True) τ := by
  obtain ⟨m2, m3, m4, m5, m6, m7, m8, m9⟩ := hm
  suffices wp (f_X9_gather nm notes σ) (fun τ => ux wGa σ τ ∧ SOk W (bN notes.toBitVec) (fun _ _ => True) τ) by
    obtain ⟨τ, e, h⟩ := this
    exact ⟨τ, e, h⟩
  unfold f_X9_gather
  have ee : f_X4_empty (jn nm [3, 4]) 1024 σ = some (s_i σ 84 1 0) := by
    show some (s_i σ (nm 3) 1 0) = _
    rw [m3]
  refine wp_bindE ee ?_
  obtain ⟨σ2, e2, u2, z2⟩ := fill_c0 (nm := jn nm [5]) (N := 1024) (cell := 86) (v := 0) (σ := s_i σ 84 1 0) m5 (by omega)
  refine wp_bindE e2 (wp_bind ?_)
  have ua : ux wGa σ σ2 := ux_tr (ux_s (ux_refl _ _) rfl) (ux_w u2 (fun a k hk => decide_eq_false (fun e => (of_decide_eq_false hk) (by omega))))
  have s0 : SOk W (bN notes.toBitVec) (fun p _ => p < 0) σ2 := by
    refine ⟨0, fun _ => 0, by omega, ⟨(u2 84 1 rfl).trans (s_i_eq _ _ _ _), fun k hk => absurd hk (Nat.not_lt_zero k)⟩, fun i j hi => absurd hi (Nat.not_lt_zero i), fun k hk => absurd hk (Nat.not_lt_zero k), fun p t _ _ h => absurd h (Nat.not_lt_zero p), fun x hx => Or.inl ⟨z2 x hx, fun k hk => absurd hk (Nat.not_lt_zero k)⟩⟩
  refine wp_up 50 (fun P s => s.1 = nI P ∧ ux wGa σ s.2 ∧ SOk W (bN notes.toBitVec) (fun p _ => p < P) s.2) (i := 0) (by omega) (by omega) ⟨rfl, ua, s0⟩ ?_
  rintro P ⟨v, τ⟩ hP ⟨hv, hu, hs⟩
  have hv : v = nI P := hv
  have hu : ux wGa σ τ := hu
  have hs : SOk W (bN notes.toBitVec) (fun p _ => p < P) τ := hs
  subst hv
  unfold f_X9_gather_L17
  show wp (if nI 50 ≤ nI P then some (Sum.inr τ) else (lp (f_X9_gather_L26 nm notes (nI P)) fu (0, τ)).bind _) _
  refine wp_ite (fun hc => ?_) (fun hc => ?_)
  · rw [nI_le' (by omega) (by omega)] at hc
    obtain ⟨m, a, h1, h2, h3, h4, h5, h6⟩ := hs
    exact wp_some (wp_some ⟨hu, m, a, h1, h2, h3, h4, fun p t hp ht _ hb => h5 p t hp ht (by omega) hb, h6⟩)
  · rw [nI_le' (by omega) (by omega)] at hc
    refine wp_bind ?_
    refine wp_up 64 (fun T s => s.1 = nI T ∧ ux wGa σ s.2 ∧ SOk W (bN notes.toBitVec) (fun p t => p < P ∨ (p = P ∧ t < T)) s.2) (i := 0) (by omega) (by omega) ⟨rfl, hu, by
      obtain ⟨m, a, h1, h2, h3, h4, h5, h6⟩ := hs
      exact ⟨m, a, h1, h2, h3, h4, fun p t hp ht hd hb => h5 p t hp ht (by rcases hd with h | h; exact h; exact absurd h.2 (Nat.not_lt_zero t)) hb, h6⟩⟩ ?_
    rintro T ⟨v, ρ⟩ hT ⟨hv, hur, hsr⟩
    have hv : v = nI T := hv
    have hur : ux wGa σ ρ := hur
    have hsr : SOk W (bN notes.toBitVec) (fun p t => p < P ∨ (p = P ∧ t < T)) ρ := hsr
    subst hv
    obtain ⟨m, a, h1, h2, h3, h4, h5, h6⟩ := hsr
    unfold f_X9_gather_L26
    show wp (if nI 64 ≤ nI T then some (Sum.inr ρ) else _) _
    refine wp_ite (fun hc2 => ?_) (fun hc2 => ?_)
    · rw [nI_le' (by omega) (by omega)] at hc2
      refine wp_some (wp_some ⟨by omega, nI_1 P, hur, m, a, h1, h2, h3, h4, fun p t hp ht hd hb => h5 p t hp ht ?_ hb, h6⟩)
      have hd : p < P + 1 := hd
      show p < P ∨ (p = P ∧ t < T)
      omega
    · rw [nI_le' (by omega) (by omega)] at hc2
      refine wp_bindE (hat_c (nm := jn nm [1, 2]) m2 (by omega) (by omega)) ?_
      obtain ⟨w1, w2⟩ := hW P T (by omega) (by omega)
      rw [hur 82 _ rfl, w1]
      have skip : ∀ (s : jS), s = ρ → (bN notes.toBitVec T = true → ∃ k, k < m ∧ a k = W P T) → T < 64 ∧ nI T + 1 = nI (T + 1) ∧ ux wGa σ s ∧ SOk W (bN notes.toBitVec) (fun p t => p < P ∨ (p = P ∧ t < T + 1)) s := fun s hs hk => by
        subst hs
        refine ⟨by omega, nI_1 T, hur, m, a, h1, h2, h3, h4, fun p t hp ht hd hb => ?_, h6⟩
        by_cases e : p = P ∧ t = T
        · rw [e.1, e.2]; rw [e.2] at hb; exact hk hb
        · refine h5 p t hp ht ?_ hb
          have hd : p < P ∨ (p = P ∧ t < T + 1) := hd
          show p < P ∨ (p = P ∧ t < T)
          omega
      refine wp_ite (fun hn => ?_) (fun hn => ?_)
      · have hn := (note_x notes (by omega)).mp hn
        exact wp_some (skip ρ rfl (fun h => by rw [hn] at h; cases h))
      · have hn : bN notes.toBitVec T = true := by
          cases h : bN notes.toBitVec T with
          | true => rfl
          | false => exact absurd ((note_x notes (by omega)).mpr h) hn
        rw [if_neg (nI_neg0 (by omega)), if_neg (show ¬ (1024 : Int32) ≤ nI (W P T) from fun e => by
          have e : nI 1024 ≤ nI (W P T) := e
          rw [nI_le' (by omega) (by omega)] at e; omega)]
        refine wp_gd (nI_in' (by omega) (by omega)) ?_
        rw [nI_cl (by omega), m5]
        rcases h6 (W P T) w2 with ⟨f1, f2⟩ | ⟨f1, f2⟩
        · rw [if_pos f1]
          have hlt : m < 1024 := by
            have := pigeon 1024 (m + 1) (fun i => if i < m then a i else W P T) (fun i hi => by
              show (if i < m then a i else W P T) < 1024
              by_cases e : i < m
              · rw [if_pos e]; exact (h2.2 i e).2
              · rw [if_neg e]; exact w2) (fun i j hi hj hij => by
              show (if i < m then a i else W P T) ≠ (if j < m then a j else W P T)
              by_cases e : i < m
              · rw [if_pos e]
                by_cases e2 : j < m
                · rw [if_pos e2]; exact h3 i j e e2 hij
                · rw [if_neg e2]; exact f2 i e
              · rw [if_neg e, if_pos (by omega)]
                exact fun z => f2 j (by omega) z.symm)
            omega
          refine wp_gd (nI_in' (by omega) (by omega)) (wp_bd (fun s4 h4' => ?_))
          have e84 : g_i s4 84 1 = nI m := by rw [h4']; exact (s_i_a (by decide)).trans h2.1
          have hput := row_put (nm := jn nm [3, 4]) (σ := s4) (n := m) (N := 1024) (v := nI (W P T)) (by show nm 3 ≠ nm 4; rw [m3, m4]; decide) (by show g_i s4 (nm 3) 1 = _; rw [m3]; exact e84) hlt (by omega)
          refine wp_bindE hput ?_
          show wp (some (Sum.inl (nI T + 1, s_i (s_i s4 (nm 4) m (nI (W P T))) (nm 3) 1 (nI (m + 1))))) _
          rw [m3, m4]
          have g85 : ∀ k, k < m → g_i s4 85 k = g_i ρ 85 k := fun k _ => by rw [h4']; exact s_i_a (by decide)
          refine wp_some ⟨by omega, nI_1 T, ?_, m + 1, fun i => if i < m then a i else W P T, by omega, ⟨s_i_eq _ _ _ _, fun k hk => ?_⟩, fun i j hi hj hij => ?_, fun k hk => ?_, fun p t hp ht hd hb => ?_, fun x hx => ?_⟩
          · rw [h4']
            exact ux_s (ux_s (ux_s hur rfl) rfl) rfl
          · show g_i (s_i (s_i s4 85 m (nI (W P T))) 84 1 (nI (m + 1))) 85 k = nI (if k < m then a k else W P T) ∧ (if k < m then a k else W P T) < 1024
            rw [s_i_a (by decide)]
            by_cases e : k < m
            · rw [if_pos e, s_i_k (by omega), g85 k e]; exact h2.2 k e
            · have : k = m := by omega
              rw [if_neg e, this, s_i_eq]; exact ⟨rfl, w2⟩
          · show (if i < m then a i else W P T) ≠ (if j < m then a j else W P T)
            by_cases e : i < m
            · rw [if_pos e]
              by_cases e2 : j < m
              · rw [if_pos e2]; exact h3 i j e e2 hij
              · rw [if_neg e2]; exact f2 i e
            · rw [if_neg e, if_pos (by omega)]
              exact fun z => f2 j (by omega) z.symm
          · show ∃ p t, p < 50 ∧ t < 64 ∧ _ ∧ (if k < m then a k else W P T) = W p t
            by_cases e : k < m
            · rw [if_pos e]; exact h4 k e
            · rw [if_neg e]; exact ⟨P, T, by omega, by omega, hn, rfl⟩
          · by_cases e : p = P ∧ t = T
            · exact ⟨m, by omega, by show (if m < m then a m else W P T) = _; rw [if_neg (by omega), e.1, e.2]⟩
            · have hd : p < P ∨ (p = P ∧ t < T + 1) := hd
              obtain ⟨k, hk, ek⟩ := h5 p t hp ht (by show p < P ∨ (p = P ∧ t < T); omega) hb
              exact ⟨k, by omega, by show (if k < m then a k else W P T) = _; rw [if_pos hk, ek]⟩
          · show (g_i (s_i (s_i s4 85 m (nI (W P T))) 84 1 (nI (m + 1))) 86 x = 0 ∧ ∀ k, k < m + 1 → (if k < m then a k else W P T) ≠ x) ∨ (g_i (s_i (s_i s4 85 m (nI (W P T))) 84 1 (nI (m + 1))) 86 x = 1 ∧ ∃ k, k < m + 1 ∧ (if k < m then a k else W P T) = x)
            rw [s_i_a (by decide), s_i_a (by decide), h4']
            by_cases e : x = W P T
            · refine Or.inr ⟨by rw [e]; exact s_i_eq _ _ _ _, m, by omega, by rw [if_neg (by omega), e]⟩
            · rw [s_i_k e]
              rcases h6 x hx with ⟨y1, y2⟩ | ⟨y1, k, hk, ek⟩
              · refine Or.inl ⟨y1, fun k hk => ?_⟩
                by_cases e2 : k < m
                · rw [if_pos e2]; exact y2 k e2
                · rw [if_neg e2]; exact fun z => e z.symm
              · exact Or.inr ⟨y1, k, by omega, by rw [if_pos hk, ek]⟩
        · rw [if_neg (by rw [f1]; decide)]
          exact wp_some (skip ρ rfl (fun _ => f2))
