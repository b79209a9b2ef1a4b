/-! flat: both -/
def fB (D : Nat → Nat) (k : Nat) : Bool := decide (D k ≠ 0)
/-- the first night of the first i on which one is dark -/
def FSn (D : Nat → Nat) (i : Nat) (f : Int32) : Prop := (f = -1 ∧ cntB (fB D) i = 0 ∧ ∀ j, j < i → D j = 0) ∨ (∃ j, j < i ∧ f = nI j ∧ 0 < cntB (fB D) i ∧ D j ≠ 0 ∧ ∀ j', j' < j → D j' = 0)
theorem cnt_0 {D : Nat → Nat} {i : Nat} (h : D i = 0) : cntB (fB D) (i + 1) = cntB (fB D) i := by
  show cntB (fB D) i + (if fB D i = true then 1 else 0) = _
  rw [if_neg (by unfold fB; rw [decide_eq_false (fun z => z h)]; decide), Nat.add_zero]
theorem cnt_1 {D : Nat → Nat} {i : Nat} (h : D i ≠ 0) : cntB (fB D) (i + 1) = cntB (fB D) i + 1 := by
  show cntB (fB D) i + (if fB D i = true then 1 else 0) = _
  rw [if_pos (by unfold fB; exact decide_eq_true h)]
theorem fs_0 {D : Nat → Nat} {i : Nat} {f : Int32} (h : D i = 0) (hf : FSn D i f) : FSn D (i + 1) f := by
  rcases hf with ⟨h1, h2, h3⟩ | ⟨j, h1, h2, h3, h4⟩
  · refine Or.inl ⟨h1, by rw [cnt_0 h]; exact h2, fun j hj => ?_⟩
    by_cases e : j = i
    · rw [e]; exact h
    · exact h3 j (by omega)
  · exact Or.inr ⟨j, by omega, h2, by rw [cnt_0 h]; exact h3, h4⟩
theorem fs_1 {D : Nat → Nat} {i : Nat} (h : D i ≠ 0) (h3 : ∀ j, j < i → D j = 0) : FSn D (i + 1) (nI i) := Or.inr ⟨i, by omega, rfl, by rw [cnt_1 h]; omega, h, h3⟩
theorem fs_2 {D : Nat → Nat} {i j : Nat} (h : D i ≠ 0) (hj : j < i) (h4 : D j ≠ 0 ∧ ∀ j', j' < j → D j' = 0) : FSn D (i + 1) (nI j) := Or.inr ⟨j, by omega, rfl, by rw [cnt_1 h]; omega, h4⟩
theorem fs_one {D : Nat → Nat} {i : Nat} {f g : Int32} (h1 : FSn D i f) (h2 : FSn D i g) : f = g := by
  rcases h1 with ⟨rfl, -, m1⟩ | ⟨k, hk, rfl, -, e1, m1⟩ <;> rcases h2 with ⟨rfl, -, m2⟩ | ⟨j, hj, rfl, -, e2, m2⟩
  · rfl
  · exact absurd (m1 j hj) e2
  · exact absurd (m2 k hk) e1
  · have : k = j := by
      rcases Nat.lt_trichotomy k j with h | h | h
      · exact absurd (m2 k h) e1
      · exact h
      · exact absurd (m1 j h) e2
    rw [this]
theorem xflat_lp {D : Nat → Nat} {c : Nat} {v1 : Int32} {σ ρ : jS} (hD : ∀ k, D k < 1024) (h55 : g_i σ 55 1 = nI c) (hc : c ≤ 30) (hTr : Tri σ ρ) (hstep : ∀ k ρ, k < c → Tri σ ρ → ∃ ρ', f_X10_darkOnDay nmX (nI k) ρ = some (nI (D k), ρ') ∧ Tri σ ρ') : ∃ f ρ', lp (f_X10_flat_L83 nmX v1) fu (-1, 0, 0, ρ) = some (f, nI (cntB (fB D) c), ρ') ∧ Tri σ ρ' ∧ FSn D c f := by
  suffices wp (lp (f_X10_flat_L83 nmX v1) fu (-1, 0, 0, ρ)) (fun y => y.2.1 = nI (cntB (fB D) c) ∧ Tri σ y.2.2 ∧ FSn D c y.1) by
    obtain ⟨⟨y1, y2, y3⟩, e, h1, h2⟩ := this
    have h1 : y2 = _ := h1
    subst h1
    exact ⟨y1, y3, e, h2⟩
  refine wp_up c (fun i s => s.2.1 = nI (cntB (fB D) i) ∧ s.2.2.1 = nI i ∧ Tri σ s.2.2.2 ∧ FSn D i s.1) (i := 0) (by omega) (by omega) ⟨rfl, rfl, hTr, Or.inl ⟨rfl, rfl, fun j hj => absurd hj (Nat.not_lt_zero j)⟩⟩ ?_
  rintro i ⟨v2, v3, v4, υ⟩ hi ⟨hv3, hv4, hu, hF⟩
  have hv3 : v3 = nI (cntB (fB D) i) := hv3
  have hv4 : v4 = nI i := hv4
  have hu : Tri σ υ := hu
  have hF : FSn D i v2 := hF
  subst hv3 hv4
  have hF : FSn D i v2 := hF
  have hcl := cntB_le (fB D) i
  unfold f_X10_flat_L83
  show wp (if g_i υ 55 1 ≤ nI i then some (Sum.inr (v2, nI (cntB (fB D) i), υ)) else _) _
  rw [hu.1 55 1 rfl, h55]
  refine wp_ite (fun hc' => ?_) (fun hc' => ?_)
  · rw [nI_le' (by omega) (by omega)] at hc'
    have : i = c := by omega
    subst this
    exact wp_some ⟨rfl, hu, hF⟩
  · rw [nI_le' (by omega) (by omega)] at hc'
    obtain ⟨ρ', e, hT'⟩ := hstep i υ (by omega) hu
    refine wp_bindE e ?_
    have hDi := hD i
    show wp (if nI (D i) = 0 then _ else _) _
    refine wp_ite (fun h0 => ?_) (fun h0 => ?_)
    · rw [nI_z (by omega)] at h0
      exact wp_some ⟨by omega, by rw [cnt_0 h0], nI_1 i, hT', fs_0 h0 hF⟩
    · have h0 : D i ≠ 0 := fun z => h0 (by rw [z]; rfl)
      rcases hF with ⟨f1, f2, f3⟩ | ⟨j, f1, f2, f3, f4⟩
      · rw [f2, if_pos (show nI 0 = (0 : Int32) from rfl)]
        exact wp_some ⟨by omega, by rw [cnt_1 h0, f2]; exact nI_1 0, nI_1 i, hT', fs_1 h0 f3⟩
      · rw [if_neg (fun z => by rw [nI_z (by omega)] at z; omega)]
        refine wp_some ⟨by omega, by rw [cnt_1 h0]; exact nI_1 _, nI_1 i, hT', ?_⟩
        show FSn D (i + 1) v2
        rw [f2]; exact fs_2 h0 f1 f4
theorem mflat_lp {D : Nat → Nat} {c : Nat} {v1 q : Int32} {ρ : jS} (hD : ∀ k, D k < 1024) (h12 : g_i ρ 101 12 = nI c) (hc : c ≤ 30) (hstep : ∀ k ρ', k < c → ux wSk ρ ρ' → ∃ ρ'', f_X11_darkOn nmM (nI k) q ρ' = some (nI (D k), ρ'') ∧ ux wSk ρ' ρ'') : ∃ f ρ', lp (f_X11_flat_L55 nmM v1 q) fu (-1, 0, 0, ρ) = some (f, nI (cntB (fB D) c), ρ') ∧ ux wSk ρ ρ' ∧ FSn D c f := by
  suffices wp (lp (f_X11_flat_L55 nmM v1 q) fu (-1, 0, 0, ρ)) (fun y => y.2.1 = nI (cntB (fB D) c) ∧ ux wSk ρ y.2.2 ∧ FSn D c y.1) by
    obtain ⟨⟨y1, y2, y3⟩, e, h1, h2⟩ := this
    have h1 : y2 = _ := h1
    subst h1
    exact ⟨y1, y3, e, h2⟩
  refine wp_up c (fun i s => s.2.1 = nI (cntB (fB D) i) ∧ s.2.2.1 = nI i ∧ ux wSk ρ s.2.2.2 ∧ FSn D i s.1) (i := 0) (by omega) (by omega) ⟨rfl, rfl, ux_refl _ _, Or.inl ⟨rfl, rfl, fun j hj => absurd hj (Nat.not_lt_zero j)⟩⟩ ?_
  rintro i ⟨v2, v3, v4, υ⟩ hi ⟨hv3, hv4, hu, hF⟩
  have hv3 : v3 = nI (cntB (fB D) i) := hv3
  have hv4 : v4 = nI i := hv4
  have hu : ux wSk ρ υ := hu
  have hF : FSn D i v2 := hF
  subst hv3 hv4
  have hF : FSn D i v2 := hF
  have hcl := cntB_le (fB D) i
  unfold f_X11_flat_L55
  show wp (if g_i υ 101 12 ≤ nI i then some (Sum.inr (v2, nI (cntB (fB D) i), υ)) else _) _
  rw [hu 101 12 rfl, h12]
  refine wp_ite (fun hc' => ?_) (fun hc' => ?_)
  · rw [nI_le' (by omega) (by omega)] at hc'
    have : i = c := by omega
    subst this
    exact wp_some ⟨rfl, hu, hF⟩
  · rw [nI_le' (by omega) (by omega)] at hc'
    obtain ⟨ρ', e, hT'⟩ := hstep i υ (by omega) hu
    refine wp_bindE e ?_
    have hDi := hD i
    show wp (if nI (D i) = 0 then _ else _) _
    refine wp_ite (fun h0 => ?_) (fun h0 => ?_)
    · rw [nI_z (by omega)] at h0
      exact wp_some ⟨by omega, by rw [cnt_0 h0], nI_1 i, ux_tr hu hT', fs_0 h0 hF⟩
    · have h0 : D i ≠ 0 := fun z => h0 (by rw [z]; rfl)
      rcases hF with ⟨f1, f2, f3⟩ | ⟨j, f1, f2, f3, f4⟩
      · rw [f1, if_neg (by decide)]
        exact wp_some ⟨by omega, by rw [cnt_1 h0]; exact nI_1 _, nI_1 i, ux_tr hu hT', fs_1 h0 f3⟩
      · rw [f2, if_pos (show (0 : Int32) ≤ nI j from (nI_le' (a := 0) (by omega) (by omega)).mpr (by omega))]
        exact wp_some ⟨by omega, by rw [cnt_1 h0]; exact nI_1 _, nI_1 i, ux_tr hu hT', fs_2 h0 f1 f4⟩
theorem DD_lt {σ : jS} {n K : Nat} (hn : n ≤ 10) (k : Nat) : DD σ n K k < 1024 := by
  have hpw := pow10 hn
  have hp0 := Nat.two_pow_pos n
  have h : sub (DD σ n K k) (2 ^ n - 1) := sub_iff.mpr (fun i hi => by
    unfold DD at hi
    rw [sd_bit] at hi
    exact (Bool.and_eq_true_iff.mp hi).1)
  have := sub_le h
  omega
theorem st_flat (a : Int32) : sII Rel (fun σ => f_X10_flat nmX a σ) (fun σ => f_X11_flat nmM a σ) := by
  intro σ hR
  show ∃ r σ1 τ, f_X10_flat nmX a σ = some (r, σ1) ∧ f_X11_flat nmM a σ1 = some (r, τ) ∧ Rel τ
  obtain ⟨-, -, -, -, -, ⟨c, hc, ⟨d1, d2⟩, dk⟩, -⟩ := id hR
  have hin : ∀ {ρ : jS}, g_i ρ 101 12 = nI c → ∀ j, j < c + 2 → f_X11_in ((nI j).toInt64) 0 ((1 + (g_i ρ (nmM 0) 12)).toInt64) = some 1 := fun {ρ} h j hj => by
    rw [show g_i ρ (nmM 0) 12 = nI c from h, one_n]
    exact in_yes (by rw [ti64, nI_ti (by omega)]; show (0 : Int) ≤ j; omega) (by rw [ti64, ti64, nI_ti (by omega), nI_ti (by omega)]; omega)
  by_cases hj : ∃ j, j < c + 2 ∧ a = nI j
  · obtain ⟨j, hj, rfl⟩ := hj
    have xJ : f_X10_flat nmX (nI j) σ = f_X10_flat_J26 nmX (nI j) σ := by
      unfold f_X10_flat
      rw [if_neg (nI_neg0 (by omega))]
      by_cases h1 : j ≤ 1
      · rw [if_pos (show nI j ≤ (1 : Int32) from (nI_le' (b := 1) (by omega) (by omega)).mpr h1)]
      · rw [if_neg (show ¬ nI j ≤ (1 : Int32) from fun z => h1 ((nI_le' (b := 1) (by omega) (by omega)).mp z))]
        show (if nI j - 2 < g_i σ 55 1 then f_X10_flat_J26 nmX (nI j) σ else some (-1002, σ)) = _
        rw [d1, show nI j - 2 = nI (j - 2) from nI_sb (a := j) (b := 2) (by omega), if_pos ((nI_lt' (by omega) (by omega)).mpr (by omega))]
    obtain ⟨σ1, n, m, e1, hR1, u1, hS, hN, hRT⟩ := xfind_c hR
    have hn := hS.1.1
    have d1' : g_i σ1 55 1 = nI c := (u1 55 1 rfl).trans d1
    have d2' : g_i σ1 101 12 = nI c := (u1 101 12 rfl).trans d2
    have dk' : ∀ k, k < c → rg (g_i σ1 56 k) 0 9 ∧ g_i σ1 108 k = g_i σ1 56 k := fun k hk => by
      rw [u1 56 k rfl, u1 108 k rfl]; exact dk k hk
    rw [xJ]
    unfold f_X10_flat_J26
    rw [e1, bnd]
    rcases hRT with ⟨c0, s0, hno⟩ | ⟨c1, K, hK, sz, hk, hmin, hG⟩
    · have x1 : f_X8_minutes (jn nmX [91, 81, 82, 92, 93, 94, 95, 96, 97]) σ1 = some (-1) := by
        unfold f_X8_minutes
        rw [if_pos (show g_i σ1 (jn nmX [91, 81, 82, 92, 93, 94, 95, 96, 97] 0) 6 = 0 from c0)]
      obtain ⟨d, τ, e2, u2, h36, h37, hw, hT, hd1, hd2⟩ := begin_c hS hN
      have hd : d = 1000000 := by
        rcases hd2 with ⟨-, a2, -⟩ | ⟨a1, -⟩
        · exact absurd a2 (hno d)
        · exact a1
      rw [if_neg (show ¬ d < 1000000 by omega)] at e2
      refine ⟨-1003, σ1, τ, ?_, ?_, rel_sc (rd_sc u2) hR1⟩
      · rw [x1, bnd, if_pos rfl]
      · unfold f_X11_flat
        rw [hin d2' j hj, bnd, if_neg i10, e2, bnd]
        show (if (0 : Int32) ≤ -1 then _ else some ((-1003 : Int32), τ)) = _
        rw [if_neg (by decide)]
    · have x1 : f_X8_minutes (jn nmX [91, 81, 82, 92, 93, 94, 95, 96, 97]) σ1 = some (nI K) := by
        unfold f_X8_minutes
        rw [show g_i σ1 (jn nmX [91, 81, 82, 92, 93, 94, 95, 96, 97] 0) 6 = 1 from c1, if_neg i10]
        show some (g_i σ1 96 1) = _
        rw [sz]
      rw [x1, bnd, if_neg (nI_ne_m1 (by omega))]
      obtain ⟨ρ0, ec, uc, hc1, -⟩ := copy_c (nm := jn nmX [62, 31, 32, 33, 34, 35, 36, 37, 38, 39, 40, 41, 42, 43, 44, 45, 46, 47, 63, 64, 65, 66, 57, 31, 32, 33, 34, 35, 36, 37, 38, 39, 40, 41, 42, 43, 44, 45, 46, 47, 58, 59, 60, 61]) (b := 62) (e := 57) (Or.inr (by omega)) rfl rfl rfl rfl rfl rfl rfl rfl rfl rfl σ1
      have hT0 : Tri σ1 ρ0 := ⟨uc, fun l hl => (hc1 l hl).1⟩
      rw [ec, bnd]
      have hVS := gs_vs hG
      have hM : MinR (Wn σ1 n) (2 ^ n - 1) K 0 0 := ⟨hk, hmin⟩
      have xstep : ∀ k ρ, k < c → Tri σ1 ρ → ∃ ρ', f_X10_darkOnDay nmX (nI k) ρ = some (nI (DD σ1 n K k), ρ') ∧ Tri σ1 ρ' := fun k ρ hk hTr => xdark_c hS hN hTr d1' hc hk (dk' k hk).1 sz hK hVS
      -- the reference on the class's store
      have mbeg : ∀ σ2, Tri σ1 σ2 → ∃ τ, f_X11_beginRound nmM σ2 = some (nI K, τ) ∧ ux wSc σ1 τ ∧ g_i τ 101 12 = nI c ∧ g_i σ2 101 12 = nI c ∧ ∀ k ρ', k < c → ux wSk τ ρ' → ∃ ρ'', f_X11_darkOn nmM (nI k) (nI K) ρ' = some (nI (DD σ1 n K k), ρ'') ∧ ux wSk ρ' ρ'' := fun σ2 hT2 => by
        have uS := cp_sc hT2.1
        obtain ⟨d, τ, e2, u2, -, -, hw, hT, hd1, hd2⟩ := begin_c (site_sc uS hS) (now_sc uS hN)
        have hWn : Wn σ2 n = Wn σ1 n := by rw [wn_wt, wn_wt, uS 31 10 rfl]; exact Wt_sc uS
        rw [hWn] at hw hT hd2
        have hd : d = K := ds_min hd2 hM
        subst hd
        rw [if_pos (show d < 1000000 by omega)] at e2
        have uA : ux wSc σ1 τ := ux_tr uS (rd_sc u2)
        refine ⟨τ, e2, uA, (uA 101 12 rfl).trans d2', (uS 101 12 rfl).trans d2', fun k ρ' hk hu => ?_⟩
        have uB : ux wSc σ1 ρ' := ux_tr uA (sk_sc hu)
        have e108 : g_i ρ' 108 k = g_i σ1 56 k := (uB 108 k rfl).trans (dk' k hk).2
        obtain ⟨ρ'', e3, u3⟩ := mdark_c (k := k) (W := Wn σ1 n) (st := g_i σ1 97) (ρ := ρ') (site_sc uB hS) (now_sc uB hN) (by omega) (by rw [e108]; exact (dk' k hk).1) (fun p t h1 h2 => by rw [hu 115 _ rfl]; exact hw p t h1 h2) (sk_tr hu hT) hK hM hG
        refine ⟨ρ'', ?_, u3⟩
        rw [e3, e108, Vf_cg uB (fun a k h1 h2 => decide_eq_false (by omega))]
        rfl
      have mfl : ∀ (σ2 τ : jS), g_i σ2 101 12 = nI c → f_X11_beginRound nmM σ2 = some (nI K, τ) → f_X11_flat nmM (nI j) σ2 = (if nI j ≤ 1 then (lp (f_X11_flat_L55 nmM (nI j) (nI K)) fu ((-1), 0, 0, τ)).bind (fun x => match x with
            | (e6, e7, s8) => if nI j = 0 then some (e6, s8) else some (e7, s8)) else (f_X11_darkOn nmM (nI j - 2) (nI K) τ).bind (fun x => match x with
            | (q9, s10) => some (q9, s10))) := fun σ2 τ h12 hb => by
        unfold f_X11_flat
        rw [hin h12 j hj, bnd, if_neg i10, hb, bnd]
        show (if nI 0 ≤ nI K then _ else some ((-1003 : Int32), τ)) = _
        rw [if_pos ((nI_le' (by omega) (by omega)).mpr (Nat.zero_le _))]
      by_cases h1 : j ≤ 1
      · have hle : nI j ≤ 1 := (nI_le' (b := 1) (by omega) (by omega)).mpr h1
        obtain ⟨f, σ2, el, hT2, hF⟩ := xflat_lp (v1 := nI j) (DD_lt hn) d1' hc hT0 xstep
        obtain ⟨τ, e2, uA, h12, h12', mstep⟩ := mbeg σ2 hT2
        obtain ⟨g, τ2, em, um, hGm⟩ := mflat_lp (v1 := nI j) (DD_lt hn) h12 hc mstep
        have hfg := fs_one hF hGm
        subst hfg
        refine ⟨if nI j = 0 then f else nI (cntB (fB (DD σ1 n K)) c), σ2, τ2, ?_, ?_, rel_sc (ux_tr uA (sk_sc um)) hR1⟩
        · rw [if_pos hle, el, bnd]
          show (if nI j = 0 then some (f, σ2) else some (nI (cntB (fB (DD σ1 n K)) c), σ2)) = _
          by_cases h0 : nI j = 0
          · rw [if_pos h0, if_pos h0]
          · rw [if_neg h0, if_neg h0]
        · rw [mfl σ2 τ h12' e2, if_pos hle, em, bnd]
          show (if nI j = 0 then some (f, τ2) else some (nI (cntB (fB (DD σ1 n K)) c), τ2)) = _
          by_cases h0 : nI j = 0
          · rw [if_pos h0, if_pos h0]
          · rw [if_neg h0, if_neg h0]
      · have hle : ¬ nI j ≤ 1 := fun z => h1 ((nI_le' (b := 1) (by omega) (by omega)).mp z)
        have e2j : nI j - 2 = nI (j - 2) := nI_sb (a := j) (b := 2) (by omega)
        obtain ⟨σ2, ed, hT2⟩ := xstep (j - 2) ρ0 (by omega) hT0
        obtain ⟨τ, e2, uA, h12, h12', mstep⟩ := mbeg σ2 hT2
        obtain ⟨τ2, em, um⟩ := mstep (j - 2) τ (by omega) (ux_refl _ _)
        refine ⟨nI (DD σ1 n K (j - 2)), σ2, τ2, ?_, ?_, rel_sc (ux_tr uA (sk_sc um)) hR1⟩
        · rw [if_neg hle, e2j, ed, bnd]
        · rw [mfl σ2 τ h12' e2, if_neg hle, e2j, em, bnd]
  · refine ⟨-1002, σ, σ, ?_, ?_, hR⟩
    · unfold f_X10_flat
      by_cases h0 : a < 0
      · rw [if_pos h0]
      · rw [if_neg h0]
        obtain ⟨j, hj', rfl⟩ := nI_all h0
        have hjc : c + 2 ≤ j := Nat.le_of_not_lt (fun z => hj ⟨j, z, rfl⟩)
        rw [if_neg (show ¬ nI j ≤ (1 : Int32) from fun z => by have := (nI_le' (b := 1) (by omega) (by omega)).mp z; omega)]
        show (if nI j - 2 < g_i σ 55 1 then f_X10_flat_J26 nmX (nI j) σ else some (-1002, σ)) = _
        rw [d1, show nI j - 2 = nI (j - 2) from nI_sb (a := j) (b := 2) (by omega), if_neg (fun z => by have := (nI_lt' (by omega) (by omega)).mp z; omega)]
    · unfold f_X11_flat
      rw [show g_i σ (nmM 0) 12 = nI c from d2, one_n]
      rw [nI_iff (by omega)] at hj
      rw [in_no (by rw [ti64, ti64, nI_ti (by omega)]; show ¬ ((0 : Int) ≤ a.toInt ∧ a.toInt ≤ ((1 + c : Nat) : Int)); omega), bnd, if_pos rfl]
