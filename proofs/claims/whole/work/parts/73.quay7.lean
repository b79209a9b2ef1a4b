/-! quay: the call -/
theorem mcopy40 {σ : jS} : ∃ τ, lp (f_X11_quay_L101 nmM) fu (0, σ) = some τ ∧ ux (fun a _ => decide (a = 102)) σ τ ∧ ∀ k, k < 40 → g_i τ 102 k = g_i σ 110 k := by
  suffices wp (lp (f_X11_quay_L101 nmM) fu (0, σ)) (fun τ => ux (fun a _ => decide (a = 102)) σ τ ∧ ∀ k, k < 40 → g_i τ 102 k = g_i σ 110 k) by
    obtain ⟨τ, e, h⟩ := this
    exact ⟨τ, e, h⟩
  refine wp_up 40 (fun i x => x.1 = nI i ∧ ux (fun a _ => decide (a = 102)) σ x.2 ∧ ∀ k, k < i → g_i x.2 102 k = g_i σ 110 k) (i := 0) (by omega) (by omega) ⟨rfl, ux_refl _ _, fun k hk => absurd hk (Nat.not_lt_zero k)⟩ ?_
  rintro i ⟨v, τ⟩ hi ⟨hv, hu, hk⟩
  have hv : v = nI i := hv
  have hu : ux (fun a _ => decide (a = 102)) σ τ := hu
  subst hv
  unfold f_X11_quay_L101
  show wp (if nI 40 ≤ nI i then some (Sum.inr τ) else _) _
  refine wp_ite (fun hc => ?_) (fun hc => ?_)
  · rw [nI_le' (by omega) (by omega)] at hc
    exact wp_some ⟨hu, fun k h => hk k (by omega)⟩
  · rw [nI_le' (by omega) (by omega)] at hc
    refine wp_gd (nI_in' (by omega) (by omega)) (wp_gd (nI_in' (by omega) (by omega)) ?_)
    rw [nI_cl (by omega)]
    refine wp_bd (fun s hs => wp_some ⟨by omega, nI_1 i, ?_, fun k h => ?_⟩)
    · rw [hs]; exact ux_s hu rfl
    · show g_i s 102 k = _
      rw [hs]
      show g_i (s_i τ 102 i (g_i τ 110 i)) 102 k = _
      by_cases hki : k = i
      · rw [hki, s_i_eq]; exact hu 110 i rfl
      · rw [s_i_k hki]; exact hk k (by omega)
theorem mcopy32 {σ : jS} : ∃ τ, lp (f_X11_quay_L127 nmM) fu (0, σ) = some τ ∧ ux (fun a _ => decide (a = 106)) σ τ ∧ ∀ k, k < 32 → g_i τ 106 k = g_i σ 111 k := by
  suffices wp (lp (f_X11_quay_L127 nmM) fu (0, σ)) (fun τ => ux (fun a _ => decide (a = 106)) σ τ ∧ ∀ k, k < 32 → g_i τ 106 k = g_i σ 111 k) by
    obtain ⟨τ, e, h⟩ := this
    exact ⟨τ, e, h⟩
  refine wp_up 32 (fun i x => x.1 = nI i ∧ ux (fun a _ => decide (a = 106)) σ x.2 ∧ ∀ k, k < i → g_i x.2 106 k = g_i σ 111 k) (i := 0) (by omega) (by omega) ⟨rfl, ux_refl _ _, fun k hk => absurd hk (Nat.not_lt_zero k)⟩ ?_
  rintro i ⟨v, τ⟩ hi ⟨hv, hu, hk⟩
  have hv : v = nI i := hv
  have hu : ux (fun a _ => decide (a = 106)) σ τ := hu
  subst hv
  unfold f_X11_quay_L127
  show wp (if nI 32 ≤ nI i then some (Sum.inr τ) else _) _
  refine wp_ite (fun hc => ?_) (fun hc => ?_)
  · rw [nI_le' (by omega) (by omega)] at hc
    exact wp_some ⟨hu, fun k h => hk k (by omega)⟩
  · rw [nI_le' (by omega) (by omega)] at hc
    refine wp_gd (nI_in' (by omega) (by omega)) (wp_gd (nI_in' (by omega) (by omega)) ?_)
    rw [nI_cl (by omega)]
    refine wp_bd (fun s hs => wp_some ⟨by omega, nI_1 i, ?_, fun k h => ?_⟩)
    · rw [hs]; exact ux_s hu rfl
    · show g_i s 106 k = _
      rw [hs]
      show g_i (s_i τ 106 i (g_i τ 111 i)) 106 k = _
      by_cases hki : k = i
      · rw [hki, s_i_eq]; exact hu 111 i rfl
      · rw [s_i_k hki]; exact hk k (by omega)
theorem neg10 : ∀ e, 1 ≤ e ∧ e ≤ 4 → ¬ (0 : Int32) ≤ -10 - nI e := fun e h => by
  have : e = 1 ∨ e = 2 ∨ e = 3 ∨ e = 4 := by omega
  rcases this with rfl | rfl | rfl | rfl <;> decide
theorem xquay {F : Nat → Int32} {c : Nat} {σ : jS} (hC : XC F c σ) : ∃ r τ, f_X10_quay nmX σ = some (r, τ) ∧ g_i τ 1 1 = 0 ∧ (∀ s, runP (quayP F c) F c c q0S 0 = .ok s → ux wQy σ τ ∧ r = nI s.1.1.1 ∧ g_i τ 30 5 = -1 ∧ (∃ υ, DQX s υ ∧ (g_i τ 32 1 = nI s.1.1.1 ∧ g_i τ 34 1 = nI s.1.1.1 ∧ g_i τ 36 1 = nI s.1.1.1 ∧ g_i τ 38 1 = nI s.1.1.1 ∧ g_i τ 40 1 = nI s.1.2.1 ∧ g_i τ 42 1 = nI s.1.2.1 ∧ g_i τ 44 1 = nI s.1.2.1 ∧ g_i τ 46 1 = nI s.1.2.1) ∧ (∀ k, k < s.1.1.1 → g_i τ 33 k = g_i υ 6 k ∧ g_i τ 35 k = g_i υ 8 k ∧ g_i τ 37 k = g_i υ 10 k ∧ g_i τ 39 k = g_i υ 12 k) ∧ (∀ k, k < s.1.2.1 → g_i τ 41 k = g_i υ 14 k ∧ g_i τ 43 k = g_i υ 16 k ∧ g_i τ 45 k = g_i υ 18 k ∧ g_i τ 47 k = g_i υ 20 k) ∧ g_i τ 31 8 = bv s.2 0 ∧ g_i τ 31 9 = bv s.2 1 ∧ g_i τ 31 10 = bv s.2 2) ∧ (∀ l, l < 10 → g_i τ 58 l = (if l < s.1.1.1 then g_i τ 35 l else 0) ∧ g_i τ 59 l = 0 ∧ g_i τ 60 l = 0 ∧ g_i τ 61 l = -1) ∧ (g_i τ 57 5 = 0 ∧ g_i τ 57 6 = 0 ∧ g_i τ 57 7 = 0) ∧ (g_i τ 49 1 = 0 ∧ g_i τ 51 1 = 0 ∧ g_i τ 53 1 = 0 ∧ g_i τ 77 1 = 0 ∧ g_i τ 79 1 = 0) ∧ g_i τ 67 9 = 0 ∧ g_i τ 72 9 = 0 ∧ g_i τ 91 7 = 0) ∧ (∀ e, runP (quayP F c) F c c q0S 0 = .error e → ux wQx σ τ ∧ (1 ≤ e.1 ∧ e.1 ≤ 4) ∧ r = -10 - nI e.1 ∧ g_i τ 30 5 = nI e.2) := by
  obtain ⟨r, τ1, e1, t1, ok1, er1⟩ := xreadQ hC
  unfold f_X10_quay
  show ∃ r τ, (f_X5_readQuay nmQ σ).bind _ = some (r, τ) ∧ _
  rw [e1, bnd]
  cases hr : runP (quayP F c) F c c q0S 0 with
  | error e =>
    obtain ⟨u1, h14, r1, f1⟩ := er1 e hr
    show ∃ r' τ, (if 0 ≤ r then _ else some (r, τ1)) = some (r', τ) ∧ _
    rw [if_neg (by rw [r1]; exact neg10 e.1 h14)]
    refine ⟨_, _, rfl, t1, fun s h => (by cases h), fun e' he' => ?_⟩
    have he' := Except.error.inj he'
    subst he'
    exact ⟨u1, h14, r1, f1⟩
  | ok s =>
    obtain ⟨u1, r1, f1, υ, hD, y1, y2, y3, y4, y5, y6⟩ := ok1 s hr
    have hn := hD.1.1
    obtain ⟨τ2, e2, u2, v2, t5, t6, t7⟩ := startOn_c (n := s.1.1.1) (σ := τ1) momX (by omega) rfl rfl y1.2.1 hn
    show ∃ r' τ, (if 0 ≤ r then (f_X2_startOn (jn nmX [57, 31, 32, 33, 34, 35, 36, 37, 38, 39, 40, 41, 42, 43, 44, 45, 46, 47, 58, 59, 60, 61]) τ1).bind (fun s3 => (f_X7_empty (jn nmX [48, 49, 50, 51, 52, 53, 54]) s3).bind (fun s4 => (f_X4_empty (jn nmX [77, 78]) 8 s4).bind (fun s5 => (f_X4_empty (jn nmX [79, 80]) 40 s5).bind (fun s6 => bd (s_i s6 67 9 0) (fun s7 => bd (s_i s7 72 9 0) (fun s8 => bd (s_i s8 91 7 0) (fun s9 => some (r, s9)))))))) else _) = some (r', τ) ∧ _
    rw [if_pos (by rw [r1]; exact (nI_le' (a := 0) (by omega) (by omega)).mpr (by omega)), e2, bnd]
    show ∃ r' τ, some (r, s_i (s_i (s_i (s_i (s_i (s_i (s_i (s_i τ2 49 1 0) 51 1 0) 53 1 0) 77 1 0) 79 1 0) 67 9 0) 72 9 0) 91 7 0) = some (r', τ) ∧ _
    generalize hT : s_i (s_i (s_i (s_i (s_i (s_i (s_i (s_i τ2 49 1 0) 51 1 0) 53 1 0) 77 1 0) 79 1 0) 67 9 0) 72 9 0) 91 7 0 = T
    have uT : ux (fun a k => decide (((a = 49 ∨ a = 51 ∨ a = 53 ∨ a = 77 ∨ a = 79) ∧ k = 1) ∨ ((a = 67 ∨ a = 72) ∧ k = 9) ∨ (a = 91 ∧ k = 7))) τ2 T := by rw [← hT]; exact ux_s (ux_s (ux_s (ux_s (ux_s (ux_s (ux_s (ux_s (ux_refl _ _) rfl) rfl) rfl) rfl) rfl) rfl) rfl) rfl
    have lo : ∀ a k, a < 48 → g_i T a k = g_i τ1 a k := fun a k ha => (uT a k (decide_eq_false (by omega))).trans (u2 a k (by simp [wSt]; omega))
    have mo : ∀ a k, 57 ≤ a → a ≤ 61 → g_i T a k = g_i τ2 a k := fun a k h1 h2 => uT a k (decide_eq_false (by omega))
    refine ⟨_, T, rfl, (lo 1 1 (by omega)).trans t1, fun s' hs' => ?_, fun e he => by cases he⟩
    have hs' := Except.ok.inj hs'
    subst hs'
    refine ⟨?_, r1, (lo 30 5 (by omega)).trans f1, ⟨υ, hD, ⟨(lo _ _ (by omega)).trans y1.1, (lo _ _ (by omega)).trans y1.2.1, (lo _ _ (by omega)).trans y1.2.2.1, (lo _ _ (by omega)).trans y1.2.2.2.1, (lo _ _ (by omega)).trans y1.2.2.2.2.1, (lo _ _ (by omega)).trans y1.2.2.2.2.2.1, (lo _ _ (by omega)).trans y1.2.2.2.2.2.2.1, (lo _ _ (by omega)).trans y1.2.2.2.2.2.2.2⟩, fun k hk => ?_, fun k hk => ?_, (lo _ _ (by omega)).trans y4, (lo _ _ (by omega)).trans y5, (lo _ _ (by omega)).trans y6⟩, fun l hl => ?_, ⟨(mo 57 5 (by omega) (by omega)).trans t5, (mo 57 6 (by omega) (by omega)).trans t6, (mo 57 7 (by omega) (by omega)).trans t7⟩, ?_, ?_, ?_, ?_⟩
    · refine ux_tr (ux_w u1 (fun a k hk => ?_)) (ux_tr (ux_w u2 (fun a k hk => ?_)) (ux_w uT (fun a k hk => ?_)))
      · obtain ⟨k1, k2⟩ := Bool.or_eq_false_iff.mp hk
        have k2 := of_decide_eq_false k2
        show (wQx a k || decide (31 ≤ a ∧ a ≤ 47)) = false
        rw [k1]
        exact decide_eq_false (by omega)
      · obtain ⟨k1, k2⟩ := Bool.or_eq_false_iff.mp hk
        have k2 := of_decide_eq_false k2
        simp [wSt]; omega
      · obtain ⟨k1, k2⟩ := Bool.or_eq_false_iff.mp hk
        have k2 := of_decide_eq_false k2
        exact decide_eq_false (by omega)
    · rw [lo 33 k (by omega), lo 35 k (by omega), lo 37 k (by omega), lo 39 k (by omega)]; exact y2 k hk
    · rw [lo 41 k (by omega), lo 43 k (by omega), lo 45 k (by omega), lo 47 k (by omega)]; exact y3 k hk
    · rw [mo 58 l (by omega) (by omega), mo 59 l (by omega) (by omega), mo 60 l (by omega) (by omega), mo 61 l (by omega) (by omega), lo 35 l (by omega)]
      exact v2 l hl
    · rw [← hT]; exact ⟨rfl, rfl, rfl, rfl, rfl⟩
    · rw [← hT]; rfl
    · rw [← hT]; rfl
    · rw [← hT]; rfl
def wQm (a k : Nat) : Bool := wQM a k || decide (a = 101 ∧ k = 19)
def wQn (a k : Nat) : Bool := wQm a k || decide ((a = 101 ∧ (k = 0 ∨ k = 5 ∨ k = 6 ∨ k = 7 ∨ k = 8 ∨ k = 10 ∨ k = 14 ∨ k = 15 ∨ k = 16 ∨ k = 38 ∨ k = 47)) ∨ (102 ≤ a ∧ a ≤ 106) ∨ a = 127)
theorem mquay {F : Nat → Int32} {c : Nat} {σ : jS} (hC : MC F c σ) (hF : ∀ k, k < c → ¬ F k < 0) : ∃ r τ, f_X11_quay nmM σ = some (r, τ) ∧ g_i τ 101 19 = 0 ∧ (∀ s, runP (quayP F c) F c c q0S 0 = .ok s → ux wQn σ τ ∧ r = nI s.1.1.1 ∧ g_i τ 101 20 = -1 ∧ (g_i τ 101 0 = nI s.1.1.1 ∧ g_i τ 101 8 = nI s.1.2.1) ∧ (∀ k, k < 4 * s.1.1.1 → g_i τ 102 k = s.1.1.2 k) ∧ (∀ k, k < 4 * s.1.2.1 → g_i τ 106 k = s.1.2.2 k) ∧ (g_i τ 101 5 = bv s.2 0 ∧ g_i τ 101 6 = bv s.2 1 ∧ g_i τ 101 7 = bv s.2 2) ∧ (g_i τ 101 10 = 0 ∧ g_i τ 101 38 = 0 ∧ g_i τ 101 47 = 0 ∧ g_i τ 101 15 = 0 ∧ g_i τ 101 16 = 0 ∧ g_i τ 127 0 = 0 ∧ g_i τ 127 1 = 0) ∧ (∀ l, l < 10 → g_i τ 103 l = 0 ∧ g_i τ 104 l = 0 ∧ g_i τ 105 l = -1) ∧ g_i τ 101 14 = 0) ∧ (∀ e, runP (quayP F c) F c c q0S 0 = .error e → ux wQm σ τ ∧ r = -10 - nI e.1 ∧ g_i τ 101 20 = nI e.2) := by
  have hc := hC.1
  have v03 : vp_in 0 3 := nI_in' (n := 0) (by omega) (by omega)
  have v13 : vp_in 1 3 := nI_in' (n := 1) (by omega) (by omega)
  have v23 : vp_in 2 3 := nI_in' (n := 2) (by omega) (by omega)
  have v02 : vp_in 0 2 := nI_in' (n := 0) (by omega) (by omega)
  have v12 : vp_in 1 2 := nI_in' (n := 1) (by omega) (by omega)
  unfold f_X11_quay
  rw [bdx, bdx, bdx, bdx, bdx, gd_t v03, bdx, gd_t v13, bdx, gd_t v23, bdx]
  show ∃ r τ, (lp (f_X11_quay_L50 nmM) fu (0, s_i (s_i (s_i (s_i (s_i (s_i (s_i (s_i σ 101 20 (-1)) 101 21 0) 101 26 0) 101 28 0) 101 31 0) 112 0 20) 112 1 30) 112 2 5)).bind _ = some (r, τ) ∧ _
  generalize hσ1 : s_i (s_i (s_i (s_i (s_i (s_i (s_i (s_i σ 101 20 (-1)) 101 21 0) 101 26 0) 101 28 0) 101 31 0) 112 0 20) 112 1 30) 112 2 5 = σ1
  have u1 : ux wQM σ σ1 := by rw [← hσ1]; exact ux_s (ux_s (ux_s (ux_s (ux_s (ux_s (ux_s (ux_s (ux_refl _ _) rfl) rfl) rfl) rfl) rfl) rfl) rfl) rfl
  have c1 : MC F c σ1 := hC.cg u1 rfl (fun _ => rfl)
  have a21 : g_i σ1 101 21 = nI 0 := by rw [← hσ1]; rfl
  have a20 : g_i σ1 101 20 = -1 := by rw [← hσ1]; rfl
  have d1 : DQM q0S σ1 := by
    rw [← hσ1]
    refine ⟨⟨by decide, by decide⟩, rfl, rfl, fun k hk => absurd hk (Nat.not_lt_zero k), fun k hk => absurd hk (Nat.not_lt_zero k), ⟨0, by decide, rfl, fun i hi => by rw [Nat.zero_testBit]; exact (decide_eq_false (fun h => h rfl)).symm⟩, fun i hi => ?_⟩
    have : i = 0 ∨ i = 1 ∨ i = 2 := by omega
    rcases this with rfl | rfl | rfl <;> rfl
  have hf : ∀ v σ, f_X11_quay_L50 nmM (v, σ) = if v = 0 then (f_X11_here nmM σ).bind (fun x => if x.1 < 0 then some (.inr (v, x.2)) else (f_X11_takeQuay nmM x.2).bind (fun y => some (.inl (y.1, y.2)))) else some (.inr (v, σ)) := fun v σ => rfl
  obtain ⟨⟨f, τ1⟩, e1, u2, x1⟩ := mloop (F := F) (c := c) (cl := quayP F c) (D := DQM) (W := wQM) hf (fun a k e => by unfold wQM; rw [e]; rfl) rfl (fun _ => rfl) hF (fun s σ τ u d => d.cg u rfl rfl rfl (fun _ => rfl) (fun _ => rfl) (fun _ => rfl)) quayP_cl (fun s p σ hC hp hs h21 hD => mquayC hC hp hs h21 hD) c1 a21 d1
  rw [e1, bnd]
  have u2 : ux wQM σ1 τ1 := u2
  show ∃ r τ, f_X11_quay_J69 nmM f τ1 = some (r, τ) ∧ _
  unfold f_X11_quay_J69
  rw [bdx]
  generalize hτ2 : s_i τ1 (nmM 0) 19 0 = τ2
  have hτ2 : s_i τ1 101 19 0 = τ2 := hτ2
  have u3 : ux wQm σ τ2 := by
    rw [← hτ2]
    refine ux_s (ux_w (ux_tr u1 u2) (fun a k hk => (Bool.or_eq_false_iff.mp hk).1)) rfl
  have q3 : ∀ a k, ¬ (a = 101 ∧ k = 19) → g_i τ2 a k = g_i τ1 a k := fun a k hk => by rw [← hτ2]; exact s_i_ne hk
  have t19 : g_i τ2 101 19 = 0 := by rw [← hτ2]; exact s_i_eq _ _ _ _
  cases hr : runP (quayP F c) F c c q0S 0 with
  | error e =>
    rw [hr] at x1
    obtain ⟨f0, f1, f20⟩ := x1
    have f1 : f = nI e.1 := f1
    rw [f1, if_neg (nl14 f0)]
    refine ⟨_, τ2, rfl, t19, fun s h => (by cases h), fun e' he' => ?_⟩
    have he' := Except.error.inj he'
    subst he'
    exact ⟨u3, rfl, (q3 101 20 (by decide)).trans f20⟩
  | ok s =>
    rw [hr] at x1
    obtain ⟨f0, ⟨⟨z1, z2⟩, z3, z4, z5, z6, -, z7⟩, z20⟩ := x1
    have f0 : f = 0 := f0
    rw [f0, if_pos (by decide), bdx, bdx]
    show ∃ r τ, (lp (f_X11_quay_L101 nmM) fu (0, s_i (s_i τ2 101 0 (g_i τ2 101 26)) 101 8 (g_i (s_i τ2 101 0 (g_i τ2 101 26)) 101 28))).bind _ = some (r, τ) ∧ _
    have h28 : g_i (s_i τ2 101 0 (g_i τ2 101 26)) 101 28 = nI s.1.2.1 := (s_i_k (by decide)).trans ((q3 101 28 (by decide)).trans z4)
    have h26 : g_i τ2 101 26 = nI s.1.1.1 := (q3 101 26 (by decide)).trans z3
    rw [h28, h26]
    generalize hτ3 : s_i (s_i τ2 101 0 (nI s.1.1.1)) 101 8 (nI s.1.2.1) = τ3
    have q4 : ∀ a k, a ≠ 101 → g_i τ3 a k = g_i τ2 a k := fun a k ha => by rw [← hτ3, s_i_a ha, s_i_a ha]
    have q4' : ∀ k, k ≠ 0 → k ≠ 8 → g_i τ3 101 k = g_i τ2 101 k := fun k h1 h2 => by rw [← hτ3, s_i_k h2, s_i_k h1]
    have t0 : g_i τ3 101 0 = nI s.1.1.1 := by rw [← hτ3]; exact (s_i_k (by decide)).trans (s_i_eq _ _ _ _)
    have t8 : g_i τ3 101 8 = nI s.1.2.1 := by rw [← hτ3]; exact s_i_eq _ _ _ _
    obtain ⟨τ4, e4, u4, y4⟩ := mcopy40 (σ := τ3)
    rw [e4, bnd]
    obtain ⟨τ5, e5, u5, y5⟩ := mcopy32 (σ := τ4)
    rw [e5, bnd, gd_t v03, bdx, gd_t v13, bdx, gd_t v23, bdx, bdx, bdx, bdx, bdx, bdx, gd_t v02, bdx, gd_t v12, bdx]
    show ∃ r τ, (f_X11_allOut nmM (s_i (s_i (s_i (s_i (s_i (s_i (s_i (s_i (s_i (s_i τ5 101 5 (g_i τ5 112 0)) 101 6 (g_i τ5 112 1)) 101 7 (g_i τ5 112 2)) 101 10 0) 101 38 0) 101 47 0) 101 15 0) 101 16 0) 127 0 0) 127 1 0)).bind _ = some (r, τ) ∧ _
    have o5 : ∀ a k, a ≠ 101 → a ≠ 102 → a ≠ 106 → g_i τ5 a k = g_i τ1 a k := fun a k h1 h2 h3 => (u5 a k (decide_eq_false h3)).trans ((u4 a k (decide_eq_false h2)).trans ((q4 a k h1).trans (q3 a k (by omega))))
    rw [show g_i τ5 112 0 = bv s.2 0 from (o5 112 0 (by decide) (by decide) (by decide)).trans (z7 0 (by decide)), show g_i τ5 112 1 = bv s.2 1 from (o5 112 1 (by decide) (by decide) (by decide)).trans (z7 1 (by decide)), show g_i τ5 112 2 = bv s.2 2 from (o5 112 2 (by decide) (by decide) (by decide)).trans (z7 2 (by decide))]
    generalize hT : s_i (s_i (s_i (s_i (s_i (s_i (s_i (s_i (s_i (s_i τ5 101 5 (bv s.2 0)) 101 6 (bv s.2 1)) 101 7 (bv s.2 2)) 101 10 0) 101 38 0) 101 47 0) 101 15 0) 101 16 0) 127 0 0) 127 1 0 = T
    have uT : ux (fun a k => decide ((a = 101 ∧ (k = 5 ∨ k = 6 ∨ k = 7 ∨ k = 10 ∨ k = 38 ∨ k = 47 ∨ k = 15 ∨ k = 16)) ∨ a = 127)) τ5 T := by rw [← hT]; exact ux_s (ux_s (ux_s (ux_s (ux_s (ux_s (ux_s (ux_s (ux_s (ux_s (ux_refl _ _) rfl) rfl) rfl) rfl) rfl) rfl) rfl) rfl) rfl) rfl
    have wT : (g_i T 101 5 = bv s.2 0 ∧ g_i T 101 6 = bv s.2 1 ∧ g_i T 101 7 = bv s.2 2) ∧ (g_i T 101 10 = 0 ∧ g_i T 101 38 = 0 ∧ g_i T 101 47 = 0 ∧ g_i T 101 15 = 0 ∧ g_i T 101 16 = 0 ∧ g_i T 127 0 = 0 ∧ g_i T 127 1 = 0) := by
      rw [← hT]; exact ⟨⟨rfl, rfl, rfl⟩, rfl, rfl, rfl, rfl, rfl, rfl, rfl⟩
    obtain ⟨τ6, e6, u6, y6, y14⟩ := allOut_c T
    rw [e6, bnd]
    obtain ⟨⟨w1, w2, w3⟩, w4, w5, w6, w7, w8, w9, w10⟩ := wT
    have s6 : ∀ k, k ≠ 14 → g_i τ6 101 k = g_i T 101 k := fun k hk => u6 101 k (by simp [wAo, hk])
    have s5 : ∀ k, k ≠ 0 → k ≠ 8 → k ≠ 19 → k ≠ 14 → ¬ (k = 5 ∨ k = 6 ∨ k = 7 ∨ k = 10 ∨ k = 38 ∨ k = 47 ∨ k = 15 ∨ k = 16) → g_i τ6 101 k = g_i τ1 101 k := fun k h1 h2 h3 h4 h5 => (s6 k h4).trans ((uT 101 k (decide_eq_false (by omega))).trans ((u5 101 k rfl).trans ((u4 101 k rfl).trans ((q4' k h1 h2).trans (q3 101 k (by omega))))))
    have s0 : g_i τ6 101 0 = nI s.1.1.1 := (s6 0 (by decide)).trans ((uT 101 0 rfl).trans ((u5 101 0 rfl).trans ((u4 101 0 rfl).trans t0)))
    refine ⟨_, τ6, rfl, (s6 19 (by decide)).trans ((uT 101 19 rfl).trans ((u5 101 19 rfl).trans ((u4 101 19 rfl).trans ((q4' 19 (by decide) (by decide)).trans t19)))), fun s' hs' => ?_, fun e he => by cases he⟩
    have hs' := Except.ok.inj hs'
    subst hs'
    refine ⟨fun a k hk => ?_, s0, (s5 20 (by decide) (by decide) (by decide) (by decide) (by decide)).trans (z20.trans a20), ⟨s0, (s6 8 (by decide)).trans ((uT 101 8 rfl).trans ((u5 101 8 rfl).trans ((u4 101 8 rfl).trans t8)))⟩, fun k hk => ?_, fun k hk => ?_, ⟨(s6 5 (by decide)).trans w1, (s6 6 (by decide)).trans w2, (s6 7 (by decide)).trans w3⟩, ⟨(s6 10 (by decide)).trans w4, (s6 38 (by decide)).trans w5, (s6 47 (by decide)).trans w6, (s6 15 (by decide)).trans w7, (s6 16 (by decide)).trans w8, (u6 127 0 rfl).trans w9, (u6 127 1 rfl).trans w10⟩, y6, y14⟩
    · obtain ⟨k1, k2⟩ := Bool.or_eq_false_iff.mp hk
      have k2 := of_decide_eq_false k2
      have h6 : g_i τ6 a k = g_i T a k := u6 a k (by simp [wAo]; omega)
      have h5 : g_i T a k = g_i τ5 a k := uT a k (decide_eq_false (by omega))
      have h4 : g_i τ5 a k = g_i τ4 a k := u5 a k (decide_eq_false (by omega))
      have h3 : g_i τ4 a k = g_i τ3 a k := u4 a k (decide_eq_false (by omega))
      have h2 : g_i τ3 a k = g_i τ2 a k := by rw [← hτ3, s_i_ne (by omega), s_i_ne (by omega)]
      exact h6.trans (h5.trans (h4.trans (h3.trans (h2.trans (u3 a k k1)))))
    · rw [u6 102 k rfl, uT 102 k rfl, u5 102 k rfl, y4 k (by omega), q4 110 k (by decide), q3 110 k (by omega)]
      exact z5 k hk
    · rw [u6 106 k rfl, uT 106 k rfl, y5 k (by omega), u4 111 k rfl, q4 111 k (by decide), q3 111 k (by omega)]
      exact z6 k hk
