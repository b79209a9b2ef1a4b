/-! clause after clause -/
def runP {S : Type} (cl : S → Nat → PE (S × Nat)) (F : Nat → Int32) (c : Nat) : Nat → S → Nat → PE S
  | 0, s, _ => .ok s
  | k + 1, s, p => if sk F c p < c then bP (cl s (sk F c p)) (fun a => runP cl F c k a.1 a.2) else .ok s
theorem runP_s {S : Type} (cl : S → Nat → PE (S × Nat)) (F : Nat → Int32) (c k : Nat) (s : S) (p : Nat) : runP cl F c (k + 1) s p = if sk F c p < c then bP (cl s (sk F c p)) (fun a => runP cl F c k a.1 a.2) else .ok s := rfl
def XO {S : Type} (c : Nat) (D : S → jS → Prop) : PE S → jS → Prop
  | .ok s, τ => (∃ p, XR c (.ok p) τ) ∧ D s τ
  | .error e, τ => XR c (.error e) τ
theorem xloop {S : Type} {F : Nat → Int32} {c : Nat} {f : Int32 × jS → Option ((Int32 × jS) ⊕ jS)} {cls : jS → Option jS} {nm : Nat → Nat} {cl : S → Nat → PE (S × Nat)} {D : S → jS → Prop} {W : Nat → Nat → Bool} (h0 : nm 0 = 30) (h1 : nm 1 = 1) (h2 : nm 2 = 2)
    (hf : ∀ v σ, f (v, σ) = if 400 ≤ v then some (.inr σ) else (f_X3_hasMore nm σ).bind (fun x => if x.1 = 0 then some (.inr x.2) else (cls x.2).bind (fun s5 => some (.inl (v + 1, s5)))))
    (hW : ∀ k, W 30 k = true) (hW1 : W 1 1 = false) (hW2 : ∀ k, W 2 k = false)
    (hD : ∀ s σ τ, ux w30 σ τ → D s σ → D s τ)
    (hcl : ∀ s p r s', p ≤ c → cl s p = .ok (s', r) → p < r ∧ r ≤ c)
    (hcls : ∀ s p σ, XC F c σ → p < c → sk F c p = p → XR c (.ok p) σ → D s σ → ∃ τ, cls σ = some τ ∧ ux W σ τ ∧ XR c (nx (cl s p)) τ ∧ (∀ s' r, cl s p = .ok (s', r) → D s' τ))
    {s0 : S} {σ0 : jS} (hC : XC F c σ0) (hR : XR c (.ok 0) σ0) (hDs : D s0 σ0) : ∃ τ, lp f fu (0, σ0) = some τ ∧ ux W σ0 τ ∧ XO c D (runP cl F c c s0 0) τ := by
  have hc := hC.1
  have hu30 : ∀ {σ τ : jS}, ux w30 σ τ → ux W σ τ := fun h => ux_w h (fun a k hk => by
    unfold w30
    refine decide_eq_false (fun ha => ?_)
    rw [ha, hW k] at hk; cases hk)
  suffices wp (lp f fu (0, σ0)) (fun τ => ux W σ0 τ ∧ XO c D (runP cl F c c s0 0) τ) by
    obtain ⟨τ, e, h⟩ := this
    exact ⟨τ, e, h⟩
  refine wp_lp (fun n x => ∃ i st, i + n = 401 ∧ x.1 = nI i ∧ i ≤ 400 ∧ ux W σ0 x.2 ∧ XR c st x.2 ∧ ((∃ p s, st = .ok p ∧ i ≤ p ∧ p ≤ c ∧ D s x.2 ∧ runP cl F c (c - i) s p = runP cl F c c s0 0) ∨ ∃ e, st = .error e ∧ runP cl F c c s0 0 = .error e)) (n := 401) (by omega) ⟨0, .ok 0, by omega, rfl, by omega, ux_refl _ _, hR, Or.inl ⟨0, s0, rfl, by omega, by omega, hDs, rfl⟩⟩ ?_
  rintro n ⟨v, σ⟩ ⟨i, st, hin, hv, hi, hu, hR, hcase⟩
  have hv : v = nI i := hv
  have hu : ux W σ0 σ := hu
  have hR : XR c st σ := hR
  subst hv
  have hC' : XC F c σ := hC.cg hu hW1 hW2
  rw [hf]
  refine wp_ite (fun h4 => ?_) (fun h4 => ?_)
  · have h4 : nI 400 ≤ nI i := h4
    rw [nI_le' (by omega) (by omega)] at h4
    refine wp_some ⟨hu, ?_⟩
    rcases hcase with ⟨p, s, rfl, hip, hpc, hDs, hrun⟩ | ⟨e, rfl, hrun⟩
    · rw [show c - i = 0 by omega] at hrun
      rw [← hrun]
      exact ⟨⟨p, hR⟩, hDs⟩
    · rw [hrun]; exact hR
  · have h4' : ¬ nI 400 ≤ nI i := h4
    rw [nI_le' (by omega) (by omega)] at h4'
    obtain ⟨τ, v, e, u, x, y1, y2⟩ := xmore h0 h1 h2 hC' hR
    refine wp_bindE e ?_
    have huτ : ux W σ0 τ := ux_tr hu (hu30 u)
    rcases hcase with ⟨p, s, rfl, hip, hpc, hDs, hrun⟩ | ⟨e, rfl, hrun⟩
    · have hDτ : D s τ := hD s σ τ u hDs
      have hl := sk_le F hpc
      have y1 := y1 p rfl
      have x : XR c (.ok (sk F c p)) τ := x
      show wp (if v = 0 then some (Sum.inr τ) else (cls τ).bind (fun s5 => some (Sum.inl (nI i + 1, s5)))) _
      by_cases hm : sk F c p < c
      · rw [if_pos hm] at y1
        rw [y1, if_neg i10]
        obtain ⟨υ, e2, u2, x2, d2⟩ := hcls s (sk F c p) τ (hC'.cg (hu30 u) hW1 hW2) hm (sk_sk F hpc) x hDτ
        refine wp_bindE e2 (wp_some ⟨n - 1, by omega, i + 1, nx (cl s (sk F c p)), by omega, nI_1 i, by omega, ux_tr huτ u2, x2, ?_⟩)
        rw [show c - i = (c - (i + 1)) + 1 by omega] at hrun
        rw [runP_s, if_pos hm] at hrun
        cases hcs : cl s (sk F c p) with
        | ok a =>
          obtain ⟨s', r⟩ := a
          have hr := hcl s (sk F c p) r s' hl.2 hcs
          refine Or.inl ⟨r, s', rfl, by omega, hr.2, d2 s' r hcs, ?_⟩
          rw [hcs] at hrun
          exact hrun
        | error e =>
          refine Or.inr ⟨e, rfl, ?_⟩
          rw [hcs] at hrun
          exact hrun.symm
      · rw [if_neg hm] at y1
        rw [y1, if_pos rfl]
        refine wp_some ⟨huτ, ?_⟩
        have : runP cl F c (c - i) s p = .ok s := by
          cases hk : c - i with
          | zero => rfl
          | succ k => rw [runP_s, if_neg hm]
        rw [← hrun, this]
        exact ⟨⟨_, x⟩, hDτ⟩
    · have y2 := y2 e rfl
      show wp (if v = 0 then some (Sum.inr τ) else (cls τ).bind (fun s5 => some (Sum.inl (nI i + 1, s5)))) _
      rw [y2, if_pos rfl, hrun]
      exact wp_some ⟨huτ, x⟩
def MOS {S : Type} (D : S → jS → Prop) (w : Int32) : PE S → Int32 × jS → Prop
  | .ok s, x => x.1 = 0 ∧ D s x.2 ∧ g_i x.2 101 20 = w
  | .error e, x => (1 ≤ e.1 ∧ e.1 ≤ 4) ∧ x.1 = nI e.1 ∧ g_i x.2 101 20 = nI e.2
theorem mloop {S : Type} {F : Nat → Int32} {c : Nat} {f : Int32 × jS → Option ((Int32 × jS) ⊕ (Int32 × jS))} {cls : jS → Option (Int32 × jS)} {cl : S → Nat → PE (S × Nat)} {D : S → jS → Prop} {W : Nat → Nat → Bool}
    (hf : ∀ v σ, f (v, σ) = if v = 0 then (f_X11_here nmM σ).bind (fun x => if x.1 < 0 then some (.inr (v, x.2)) else (cls x.2).bind (fun y => some (.inl (y.1, y.2)))) else some (.inr (v, σ)))
    (hW : ∀ a k, wM a k = true → W a k = true) (hW1 : W 101 19 = false) (hW2 : ∀ k, W 109 k = false)
    (hF : ∀ k, k < c → ¬ F k < 0)
    (hD : ∀ s σ τ, ux wM σ τ → D s σ → D s τ)
    (hcl : ∀ s p r s', p ≤ c → cl s p = .ok (s', r) → p < r ∧ r ≤ c)
    (hcls : ∀ s p σ, MC F c σ → p < c → sk F c p = p → g_i σ 101 21 = nI p → D s σ → ∃ x, cls σ = some x ∧ ux W σ x.2 ∧ MO (nx (cl s p)) x ∧ (∀ s' r, cl s p = .ok (s', r) → D s' x.2 ∧ g_i x.2 101 20 = g_i σ 101 20))
    {s0 : S} {σ0 : jS} (hC : MC F c σ0) (hR : g_i σ0 101 21 = nI 0) (hDs : D s0 σ0) : ∃ x, lp f fu (0, σ0) = some x ∧ ux W σ0 x.2 ∧ MOS D (g_i σ0 101 20) (runP cl F c c s0 0) x := by
  have hc := hC.1
  have huM : ∀ {σ τ : jS}, ux wM σ τ → ux W σ τ := fun h => ux_w h (fun a k hk => by
    cases hm : wM a k with
    | false => rfl
    | true => rw [hW a k hm] at hk; cases hk)
  suffices wp (lp f fu (0, σ0)) (fun x => ux W σ0 x.2 ∧ MOS D (g_i σ0 101 20) (runP cl F c c s0 0) x) by
    obtain ⟨τ, e, h⟩ := this
    exact ⟨τ, e, h⟩
  refine wp_lp (fun n x => ux W σ0 x.2 ∧ ((∃ i p s, i + n = 402 ∧ x.1 = 0 ∧ i ≤ p ∧ p ≤ c ∧ g_i x.2 101 21 = nI p ∧ g_i x.2 101 20 = g_i σ0 101 20 ∧ D s x.2 ∧ runP cl F c (c - i) s p = runP cl F c c s0 0) ∨ ∃ e, runP cl F c c s0 0 = .error e ∧ (1 ≤ e.1 ∧ e.1 ≤ 4) ∧ x.1 = nI e.1 ∧ g_i x.2 101 20 = nI e.2)) (n := 402) (by omega) ⟨ux_refl _ _, Or.inl ⟨0, 0, s0, by omega, rfl, by omega, by omega, hR, rfl, hDs, rfl⟩⟩ ?_
  rintro n ⟨v, σ⟩ ⟨hu, hcase⟩
  have hu : ux W σ0 σ := hu
  have hC' : MC F c σ := hC.cg hu hW1 hW2
  rw [hf]
  rcases hcase with ⟨i, p, s, hin, hv, hip, hpc, e21, e20, hDs, hrun⟩ | ⟨e, hrun, he, hv, e20⟩
  · have hv : v = 0 := hv
    have hDs : D s σ := hDs
    subst hv
    rw [if_pos rfl]
    have hl := sk_le F hpc
    obtain ⟨b, e, hb⟩ := mhereR hC' hpc e21
    refine wp_bindE e ?_
    generalize hτ : s_i σ 101 21 (nI (sk F c p)) = τ
    have uτ : ux wM σ τ := by rw [← hτ]; exact uxM (ux_refl _ _) (by omega) (by omega)
    have t21 : g_i τ 101 21 = nI (sk F c p) := by rw [← hτ]; exact s_i_eq _ _ _ _
    have t20 : g_i τ 101 20 = g_i σ0 101 20 := by rw [← hτ]; exact (s_i_k (by decide)).trans e20
    have hDτ : D s τ := hD s σ τ uτ hDs
    have huτ : ux W σ0 τ := ux_tr hu (huM uτ)
    show wp (if b < 0 then some (Sum.inr (0, τ)) else (cls τ).bind (fun y => some (Sum.inl (y.1, y.2)))) _
    by_cases hm : sk F c p < c
    · rw [if_pos hm] at hb
      rw [hb, if_neg (hF _ hm)]
      obtain ⟨⟨y1, y2⟩, e2, u2, m2, d2⟩ := hcls s (sk F c p) τ (hC'.cg (huM uτ) hW1 hW2) hm (sk_sk F hpc) t21 hDτ
      refine wp_bindE e2 (wp_some ⟨n - 1, by omega, ux_tr huτ u2, ?_⟩)
      rw [show c - i = (c - (i + 1)) + 1 by omega] at hrun
      rw [runP_s, if_pos hm] at hrun
      cases hcs : cl s (sk F c p) with
      | ok a =>
        obtain ⟨s', r⟩ := a
        have hr := hcl s (sk F c p) r s' hl.2 hcs
        rw [hcs] at hrun m2
        exact Or.inl ⟨i + 1, r, s', by omega, m2.1, by omega, hr.2, m2.2, (d2 s' r hcs).2.trans t20, (d2 s' r hcs).1, hrun⟩
      | error e =>
        rw [hcs] at hrun m2
        exact Or.inr ⟨e, hrun.symm, m2⟩
    · rw [if_neg hm] at hb
      rw [hb, if_pos (by decide)]
      refine wp_some ⟨huτ, ?_⟩
      have : runP cl F c (c - i) s p = .ok s := by
        cases hk : c - i with
        | zero => rfl
        | succ k => rw [runP_s, if_neg hm]
      rw [← hrun, this]
      exact ⟨rfl, hDτ, t20⟩
  · have hv : v = nI e.1 := hv
    have hz : ¬ v = 0 := by
      rw [hv]
      intro h
      have h := congrArg Int32.toInt h
      rw [nI_ti (by omega)] at h
      have h : (e.1 : Int) = 0 := h
      omega
    rw [if_neg hz, hrun]
    exact wp_some ⟨hu, he, hv, e20⟩
/-- a row's copy -/
def wRc (d0 d1 a k : Nat) : Bool := decide ((a = d0 ∧ k = 1) ∨ a = d1)
theorem row_copy {nm : Nat → Nat} {σ : jS} {N n d0 d1 s0 s1 : Nat} (e0 : nm 0 = d0) (e1 : nm 1 = d1) (e2 : nm 2 = s0) (e3 : nm 3 = s1) (hd : d0 ≠ d1) (h1 : s0 ≠ d0) (h2 : s0 ≠ d1) (h3 : s1 ≠ d0) (h4 : s1 ≠ d1) (hs : g_i σ s0 1 = nI n) (hn : n ≤ N) (hN : N < 100000) : ∃ τ, f_X4_copy nm N N σ = some τ ∧ ux (wRc d0 d1) σ τ ∧ g_i τ d0 1 = nI n ∧ ∀ k, k < n → g_i τ d1 k = g_i σ s1 k := by
  suffices wp (f_X4_copy nm N N σ) (fun τ => ux (wRc d0 d1) σ τ ∧ g_i τ d0 1 = nI n ∧ ∀ k, k < n → g_i τ d1 k = g_i σ s1 k) by
    obtain ⟨τ, e, h⟩ := this
    exact ⟨τ, e, h⟩
  unfold f_X4_copy
  refine wp_bd (fun s hs1 => wp_bind ?_)
  rw [e0] at hs1
  refine wp_up n (fun i x => x.1 = nI i ∧ ux (wRc d0 d1) σ x.2 ∧ g_i x.2 d0 1 = nI i ∧ ∀ k, k < i → g_i x.2 d1 k = g_i σ s1 k) (i := 0) (by omega) (by omega) ⟨rfl, by rw [hs1]; exact ux_s (ux_refl _ _) (decide_eq_true (Or.inl ⟨rfl, rfl⟩)), by rw [hs1]; exact s_i_eq _ _ _ _, fun k hk => absurd hk (Nat.not_lt_zero k)⟩ ?_
  rintro i ⟨v, τ⟩ hi ⟨hv, hu, hd1, hk⟩
  have hv : v = nI i := hv
  have hu : ux (wRc d0 d1) σ τ := hu
  have hd1 : g_i τ d0 1 = nI i := hd1
  subst hv
  unfold f_X4_copy_L7
  have es : g_i τ (nm 2) 1 = nI n := by rw [e2]; exact (hu s0 1 (decide_eq_false (by rintro (h | h); exact h1 h.1; exact h2 h))).trans hs
  show wp (if g_i τ (nm 2) 1 ≤ nI i then some (Sum.inr τ) else _) _
  rw [es]
  refine wp_ite (fun hc => ?_) (fun hc => ?_)
  · rw [nI_le' (by omega) (by omega)] at hc
    have : i = n := by omega
    subst this
    exact wp_some (wp_some ⟨hu, hd1, hk⟩)
  · rw [nI_le' (by omega) (by omega)] at hc
    refine wp_gd (nI_in' (by omega) (by omega)) ?_
    rw [nI_cl (by omega), e3]
    have ep := row_put (nm := jn nm [0, 1]) (σ := τ) (n := i) (N := N) (v := g_i τ s1 i) (by show nm 0 ≠ nm 1; rw [e0, e1]; exact hd) (by show g_i τ (nm 0) 1 = _; rw [e0]; exact hd1) (by omega) (by omega)
    refine wp_bindE ep (wp_some ⟨by omega, nI_1 i, ?_, ?_, ?_⟩)
    · show ux _ σ (s_i (s_i τ (nm 1) i _) (nm 0) 1 _)
      rw [e0, e1]
      exact ux_s (ux_s hu (decide_eq_true (Or.inr rfl))) (decide_eq_true (Or.inl ⟨rfl, rfl⟩))
    · show g_i (s_i (s_i τ (nm 1) i _) (nm 0) 1 _) d0 1 = _
      rw [e0]; exact s_i_eq _ _ _ _
    · intro k hk2
      show g_i (s_i (s_i τ (nm 1) i (g_i τ s1 i)) (nm 0) 1 _) d1 k = _
      rw [e0, e1, s_i_a (fun h => hd h.symm)]
      by_cases hki : k = i
      · rw [hki, s_i_eq]
        exact hu s1 i (decide_eq_false (by rintro (h | h); exact h3 h.1; exact h4 h))
      · rw [s_i_k hki]; exact hk k (by omega)
