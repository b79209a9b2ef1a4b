/-! apart: the loops; both -/
theorem rI_le {f : Nat → Bool} {i : Int32} {a : Nat} : ∀ k b c c', rI f i a k b c = .inl c' → c' ≤ c + k
  | 0, _, c, c', h => by
    have h : Sum.inl c = Sum.inl c' := h
    have := Sum.inl.inj h; omega
  | k + 1, b, c, c', h => by
    unfold rI at h
    by_cases hf : f b = true
    · rw [if_pos hf] at h
      by_cases hi : nI c = i
      · rw [if_pos hi] at h; cases h
      · rw [if_neg hi] at h
        have := rI_le k (b + 1) (c + 1) c' h; omega
    · rw [if_neg hf] at h
      have := rI_le k (b + 1) c c' h; omega
theorem rI_s (f : Nat → Bool) (i : Int32) (a k b c : Nat) : rI f i a (k + 1) b c = if f b = true then (if nI c = i then .inr (100 * a + b) else rI f i a k (b + 1) (c + 1)) else rI f i a k (b + 1) c := rfl
theorem n100 (a b : Nat) : (100 : Int32) * nI a + nI b = nI (100 * a + b) := by
  rw [show (100 : Int32) * nI a = nI (100 * a) from nI_mul 100 a, nI_add]
theorem xap_in {W : Nat → Nat → Nat} {nb : Nat → Bool} {s : Nat → Nat} {n c d a cnt : Nat} {i : Int32} {σ τ0 : jS} (hn : n ≤ 10) (hu0 : ux wFs σ τ0) (hS : SOk W nb (fun _ _ => True) σ) (hg : SgX n c s σ) (hd : 1 ≤ d ∧ d ≤ 9) (ha : a < c) (hcnt : cnt ≤ 64) : ∃ y, lp (f_X10_apart_L63 nmX (nI d) i (nI a)) fu (nI cnt, 0, τ0) = some y ∧ ((∃ c' τ, y = .inl (nI c', τ) ∧ ux wFs σ τ ∧ rI (NB W nb s d a) i a c 0 cnt = .inl c') ∨ (∃ x τ, y = .inr (nI x, τ) ∧ ux wFs σ τ ∧ rI (NB W nb s d a) i a c 0 cnt = .inr x)) := by
  suffices wp (lp (f_X10_apart_L63 nmX (nI d) i (nI a)) fu (nI cnt, 0, τ0)) (fun y => (∃ c' τ, y = .inl (nI c', τ) ∧ ux wFs σ τ ∧ rI (NB W nb s d a) i a c 0 cnt = .inl c') ∨ (∃ x τ, y = .inr (nI x, τ) ∧ ux wFs σ τ ∧ rI (NB W nb s d a) i a c 0 cnt = .inr x)) by
    obtain ⟨y, e, h⟩ := this
    exact ⟨y, e, h⟩
  obtain ⟨g1, g2, g3⟩ := hg
  refine wp_up c (fun b x => ∃ c0, x.1 = nI c0 ∧ c0 ≤ cnt + b ∧ x.2.1 = nI b ∧ ux wFs σ x.2.2 ∧ rI (NB W nb s d a) i a (c - b) b c0 = rI (NB W nb s d a) i a c 0 cnt) (i := 0) (by omega) (by omega) ⟨cnt, rfl, by omega, rfl, hu0, rfl⟩ ?_
  rintro b ⟨v6, v8, τ⟩ hb ⟨c0, q1, q2, q3, hu, hR⟩
  have q1 : v6 = nI c0 := q1
  have q3 : v8 = nI b := q3
  have hu : ux wFs σ τ := hu
  subst q1 q3
  unfold f_X10_apart_L63
  have e77 : f_X4_size (jn nmX [77, 78]) 8 τ = some (nI c) := congrArg some ((hu 77 1 rfl).trans g2)
  show wp ((f_X4_size (jn nmX [77, 78]) 8 τ).bind _) _
  refine wp_bindE e77 ?_
  refine wp_ite (fun hc => ?_) (fun hc => ?_)
  · rw [nI_le' (by omega) (by omega)] at hc
    have : b = c := by omega
    subst this
    rw [Nat.sub_self] at hR
    exact wp_some (Or.inl ⟨c0, τ, rfl, hu, hR.symm⟩)
  · rw [nI_le' (by omega) (by omega)] at hc
    rw [show c - b = (c - (b + 1)) + 1 by omega, rI_s] at hR
    by_cases hab : a = b
    · rw [if_pos (by rw [hab])]
      rw [NB_f (fun h => h.1 hab), if_neg (by decide)] at hR
      exact wp_some ⟨by omega, c0, rfl, by omega, nI_1 b, hu, hR⟩
    · rw [if_neg (fun e => hab ((nI_inj (by omega) (by omega)).mp e))]
      obtain ⟨ρ, er, ur⟩ := near_x (W := W) (nb := nb) (s := s) (d := d) hn (hS.cg hu (fun a k h1 h2 => decide_eq_false (by omega))) ⟨g1, (hu 77 1 rfl).trans g2, fun k hk => by rw [hu 78 k rfl]; exact g3 k hk⟩ hd ha (show b < c by omega) hab
      refine wp_bindE er ?_
      have hur := ux_tr hu ur
      cases hN : NB W nb s d a b with
      | false =>
        show wp (if (if false = true then (1 : Int32) else 0) = 0 then some (Sum.inl (nI c0, nI b + 1, ρ)) else _) _
        rw [if_pos (by decide)]
        rw [hN, if_neg (by decide)] at hR
        exact wp_some ⟨by omega, c0, rfl, by omega, nI_1 b, hur, hR⟩
      | true =>
        show wp (if (if true = true then (1 : Int32) else 0) = 0 then _ else if nI c0 = i then some (Sum.inr (Sum.inr (100 * nI a + nI b, ρ))) else some (Sum.inl (nI c0 + 1, nI b + 1, ρ))) _
        rw [if_neg (by decide)]
        rw [hN, if_pos rfl] at hR
        by_cases hi : nI c0 = i
        · rw [if_pos hi]
          rw [if_pos hi] at hR
          exact wp_some (Or.inr ⟨100 * a + b, ρ, by rw [n100], hur, hR.symm⟩)
        · rw [if_neg hi]
          rw [if_neg hi] at hR
          exact wp_some ⟨by omega, c0 + 1, nI_1 c0, by omega, nI_1 b, hur, hR⟩
theorem xap_out {W : Nat → Nat → Nat} {nb : Nat → Bool} {s : Nat → Nat} {n c d : Nat} {i : Int32} {σ : jS} (hn : n ≤ 10) (hS : SOk W nb (fun _ _ => True) σ) (hg : SgX n c s σ) (hd : 1 ≤ d ∧ d ≤ 9) : ∃ y, lp (f_X10_apart_L48 nmX (nI d) i) fu (0, 0, σ) = some y ∧ ((∃ c' τ, y = .inl (nI c', τ) ∧ ux wFs σ τ ∧ rO (NB W nb s d) i c c 0 0 = .inl c') ∨ (∃ x τ, y = .inr (nI x, τ) ∧ ux wFs σ τ ∧ rO (NB W nb s d) i c c 0 0 = .inr x)) := by
  suffices wp (lp (f_X10_apart_L48 nmX (nI d) i) fu (0, 0, σ)) (fun y => (∃ c' τ, y = .inl (nI c', τ) ∧ ux wFs σ τ ∧ rO (NB W nb s d) i c c 0 0 = .inl c') ∨ (∃ x τ, y = .inr (nI x, τ) ∧ ux wFs σ τ ∧ rO (NB W nb s d) i c c 0 0 = .inr x)) by
    obtain ⟨y, e, h⟩ := this
    exact ⟨y, e, h⟩
  have g1 := hg.1
  refine wp_up c (fun a x => ∃ c0, x.1 = nI c0 ∧ c0 ≤ a * c ∧ x.2.1 = nI a ∧ ux wFs σ x.2.2 ∧ rO (NB W nb s d) i c (c - a) a c0 = rO (NB W nb s d) i c c 0 0) (i := 0) (by omega) (by omega) ⟨0, rfl, by omega, rfl, ux_refl _ _, rfl⟩ ?_
  rintro a ⟨v6, v7, τ⟩ ha ⟨c0, q1, q2, q3, hu, hR⟩
  have q1 : v6 = nI c0 := q1
  have q3 : v7 = nI a := q3
  have hu : ux wFs σ τ := hu
  subst q1 q3
  unfold f_X10_apart_L48
  have e77 : f_X4_size (jn nmX [77, 78]) 8 τ = some (nI c) := congrArg some ((hu 77 1 rfl).trans hg.2.1)
  show wp ((f_X4_size (jn nmX [77, 78]) 8 τ).bind _) _
  refine wp_bindE e77 ?_
  refine wp_ite (fun hc => ?_) (fun hc => ?_)
  · rw [nI_le' (by omega) (by omega)] at hc
    have : a = c := by omega
    subst this
    rw [Nat.sub_self] at hR
    exact wp_some (Or.inl ⟨c0, τ, rfl, hu, hR.symm⟩)
  · rw [nI_le' (by omega) (by omega)] at hc
    have hac : a * c ≤ 7 * 8 := Nat.mul_le_mul (by omega) (by omega)
    obtain ⟨y, ey, hy⟩ := xap_in (cnt := c0) (i := i) hn hu hS hg hd (show a < c by omega) (by omega)
    refine wp_bindE ey ?_
    rw [show c - a = (c - (a + 1)) + 1 by omega] at hR
    rcases hy with ⟨c', ρ, rfl, hur, hr⟩ | ⟨x, ρ, rfl, hur, hr⟩
    · rw [rO_l hr] at hR
      have hle := rI_le _ _ _ _ hr
      have hm : (a + 1) * c = a * c + c := Nat.succ_mul a c
      exact wp_some ⟨by omega, c', rfl, by omega, nI_1 a, hur, hR⟩
    · rw [rO_r hr] at hR
      exact wp_some (Or.inr ⟨x, ρ, rfl, hur, hR.symm⟩)
def SgM (n c : Nat) (s : Nat → Nat) (σ : jS) : Prop := c ≤ 8 ∧ g_i σ 101 38 = nI c ∧ ∀ k, k < c → g_i σ 116 k = nI (s k) ∧ s k < 2 ^ n
theorem map_in {s : Nat → Nat} {n m c d a cnt : Nat} {notes : Int64} {lo i : Int32} {σ τ0 : jS} (hu0 : ux wLu σ τ0) (hS : RSite n m σ) (hN : RNow n σ) (hlo : rg lo 1 50) (hg : SgM n c s σ) (hd : 1 ≤ d ∧ d ≤ 9) (ha : a < c) (hcnt : cnt ≤ 64) : ∃ y, lp (f_X11_apart_L42 nmM notes lo (nI d) i (nI a)) fu (nI cnt, 0, τ0) = some y ∧ ((∃ c' τ, y = .inl (nI c', τ) ∧ ux wLu σ τ ∧ rI (NB (Wt σ n lo) (bN notes.toBitVec) s d a) i a c 0 cnt = .inl c') ∨ (∃ x τ, y = .inr (nI x, τ) ∧ ux wLu σ τ ∧ rI (NB (Wt σ n lo) (bN notes.toBitVec) s d a) i a c 0 cnt = .inr x)) := by
  suffices wp (lp (f_X11_apart_L42 nmM notes lo (nI d) i (nI a)) fu (nI cnt, 0, τ0)) (fun y => (∃ c' τ, y = .inl (nI c', τ) ∧ ux wLu σ τ ∧ rI (NB (Wt σ n lo) (bN notes.toBitVec) s d a) i a c 0 cnt = .inl c') ∨ (∃ x τ, y = .inr (nI x, τ) ∧ ux wLu σ τ ∧ rI (NB (Wt σ n lo) (bN notes.toBitVec) s d a) i a c 0 cnt = .inr x)) by
    obtain ⟨y, e, h⟩ := this
    exact ⟨y, e, h⟩
  obtain ⟨g1, g2, g3⟩ := hg
  refine wp_up c (fun b x => ∃ c0, x.1 = nI c0 ∧ c0 ≤ cnt + b ∧ x.2.1 = nI b ∧ ux wLu σ x.2.2 ∧ rI (NB (Wt σ n lo) (bN notes.toBitVec) s d a) i a (c - b) b c0 = rI (NB (Wt σ n lo) (bN notes.toBitVec) s d a) i a c 0 cnt) (i := 0) (by omega) (by omega) ⟨cnt, rfl, by omega, rfl, hu0, rfl⟩ ?_
  rintro b ⟨v6, v8, τ⟩ hb ⟨c0, q1, q2, q3, hu, hR⟩
  have q1 : v6 = nI c0 := q1
  have q3 : v8 = nI b := q3
  have hu : ux wLu σ τ := hu
  subst q1 q3
  unfold f_X11_apart_L42
  show wp (if g_i τ 101 38 ≤ nI b then some (Sum.inr (Sum.inl (nI c0, τ))) else _) _
  rw [show g_i τ 101 38 = nI c from (hu 101 38 rfl).trans g2]
  refine wp_ite (fun hc => ?_) (fun hc => ?_)
  · rw [nI_le' (by omega) (by omega)] at hc
    have : b = c := by omega
    subst this
    rw [Nat.sub_self] at hR
    exact wp_some (Or.inl ⟨c0, τ, rfl, hu, hR.symm⟩)
  · rw [nI_le' (by omega) (by omega)] at hc
    rw [show c - b = (c - (b + 1)) + 1 by omega, rI_s] at hR
    have hbc : b < c := by omega
    have mid : ∃ (r : Int32) (ρ : jS), (if nI a = nI b then some ((-1 : Int32), τ) else gd (vp_in (nI a) 8) (gd (vp_in (nI b) 8) ((f_X11_luredBy nmM (g_i τ (nmM 15) (nI a).toNatClampNeg) (g_i τ (nmM 15) (nI b).toNatClampNeg) notes lo τ).bind (fun x => some (x.1, x.2))))) = some (r, ρ) ∧ ux wLu σ ρ ∧ f_X11_in r.toInt64 0 (nI d - 1).toInt64 = some (if NB (Wt σ n lo) (bN notes.toBitVec) s d a b = true then 1 else 0) := by
      by_cases hab : a = b
      · rw [if_pos (by rw [hab])]
        refine ⟨_, _, rfl, hu, ?_⟩
        rw [NB_f (fun h => h.1 hab), if_neg (by decide)]
        have z : (-1 : Int32).toInt = -1 := by decide
        exact in_no (by
          rw [ti64, z]
          show ¬ ((0 : Int) ≤ -1 ∧ _)
          omega)
      · rw [if_neg (fun e => hab ((nI_inj (by omega) (by omega)).mp e)), gd_t (nI_in' (by omega) (by omega)), gd_t (nI_in' (by omega) (by omega)), nI_cl (by omega), nI_cl (by omega), show g_i τ (nmM 15) a = nI (s a) from (hu 116 a rfl).trans (g3 a ha).1, show g_i τ (nmM 15) b = nI (s b) from (hu 116 b rfl).trans (g3 b hbc).1]
        obtain ⟨r, ρ, e, u, h⟩ := near_m (s := s) (notes := notes) (site_sc (lu_sc hu) hS) (now_sc (lu_sc hu) hN) hlo hd (g3 a ha).2 (g3 b hbc).2 hab
        rw [Wt_sc (lu_sc hu)] at h
        exact ⟨r, ρ, by rw [e]; rfl, ux_tr hu u, h⟩
    obtain ⟨r, ρ, em, hur, hin⟩ := mid
    refine wp_bindE em ?_
    show wp (f_X11_apart_J82 nmM notes lo (nI d) i (nI c0) (nI a) (nI b) r ρ) _
    unfold f_X11_apart_J82
    refine wp_bindE hin ?_
    cases hN : NB (Wt σ n lo) (bN notes.toBitVec) s d a b with
    | false =>
      rw [if_pos (show (if false = true then (1 : Int32) else 0) = 0 by decide)]
      rw [hN, if_neg (by decide)] at hR
      exact wp_some ⟨by omega, c0, rfl, by omega, nI_1 b, hur, hR⟩
    | true =>
      rw [if_neg (show ¬ (if true = true then (1 : Int32) else 0) = 0 by decide)]
      rw [hN, if_pos rfl] at hR
      by_cases hi : nI c0 = i
      · rw [if_pos hi]
        rw [if_pos hi] at hR
        exact wp_some (Or.inr ⟨100 * a + b, ρ, by rw [n100], hur, hR.symm⟩)
      · rw [if_neg hi]
        rw [if_neg hi] at hR
        exact wp_some ⟨by omega, c0 + 1, nI_1 c0, by omega, nI_1 b, hur, hR⟩
theorem map_out {s : Nat → Nat} {n m c d : Nat} {notes : Int64} {lo i : Int32} {σ : jS} (hS : RSite n m σ) (hN : RNow n σ) (hlo : rg lo 1 50) (hg : SgM n c s σ) (hd : 1 ≤ d ∧ d ≤ 9) : ∃ y, lp (f_X11_apart_L30 nmM notes lo (nI d) i) fu (0, 0, σ) = some y ∧ ((∃ c' τ, y = .inl (nI c', τ) ∧ ux wLu σ τ ∧ rO (NB (Wt σ n lo) (bN notes.toBitVec) s d) i c c 0 0 = .inl c') ∨ (∃ x τ, y = .inr (nI x, τ) ∧ ux wLu σ τ ∧ rO (NB (Wt σ n lo) (bN notes.toBitVec) s d) i c c 0 0 = .inr x)) := by
  suffices wp (lp (f_X11_apart_L30 nmM notes lo (nI d) i) fu (0, 0, σ)) (fun y => (∃ c' τ, y = .inl (nI c', τ) ∧ ux wLu σ τ ∧ rO (NB (Wt σ n lo) (bN notes.toBitVec) s d) i c c 0 0 = .inl c') ∨ (∃ x τ, y = .inr (nI x, τ) ∧ ux wLu σ τ ∧ rO (NB (Wt σ n lo) (bN notes.toBitVec) s d) i c c 0 0 = .inr x)) by
    obtain ⟨y, e, h⟩ := this
    exact ⟨y, e, h⟩
  have g1 := hg.1
  refine wp_up c (fun a x => ∃ c0, x.1 = nI c0 ∧ c0 ≤ a * c ∧ x.2.1 = nI a ∧ ux wLu σ x.2.2 ∧ rO (NB (Wt σ n lo) (bN notes.toBitVec) s d) i c (c - a) a c0 = rO (NB (Wt σ n lo) (bN notes.toBitVec) s d) i c c 0 0) (i := 0) (by omega) (by omega) ⟨0, rfl, by omega, rfl, ux_refl _ _, rfl⟩ ?_
  rintro a ⟨v6, v7, τ⟩ ha ⟨c0, q1, q2, q3, hu, hR⟩
  have q1 : v6 = nI c0 := q1
  have q3 : v7 = nI a := q3
  have hu : ux wLu σ τ := hu
  subst q1 q3
  unfold f_X11_apart_L30
  show wp (if g_i τ 101 38 ≤ nI a then some (Sum.inr (Sum.inl (nI c0, τ))) else _) _
  rw [show g_i τ 101 38 = nI c from (hu 101 38 rfl).trans hg.2.1]
  refine wp_ite (fun hc => ?_) (fun hc => ?_)
  · rw [nI_le' (by omega) (by omega)] at hc
    have : a = c := by omega
    subst this
    rw [Nat.sub_self] at hR
    exact wp_some (Or.inl ⟨c0, τ, rfl, hu, hR.symm⟩)
  · rw [nI_le' (by omega) (by omega)] at hc
    have hac : a * c ≤ 7 * 8 := Nat.mul_le_mul (by omega) (by omega)
    obtain ⟨y, ey, hy⟩ := map_in (cnt := c0) (i := i) hu hS hN hlo hg hd (show a < c by omega) (by omega)
    refine wp_bindE ey ?_
    rw [show c - a = (c - (a + 1)) + 1 by omega] at hR
    rcases hy with ⟨c', ρ, rfl, hur, hr⟩ | ⟨x, ρ, rfl, hur, hr⟩
    · rw [rO_l hr] at hR
      have hle := rI_le _ _ _ _ hr
      have hm : (a + 1) * c = a * c + c := Nat.succ_mul a c
      exact wp_some ⟨by omega, c', rfl, by omega, nI_1 a, hur, hR⟩
    · rw [rO_r hr] at hR
      exact wp_some (Or.inr ⟨x, ρ, rfl, hur, hR.symm⟩)
theorem st_apart (notes : Int64) (l d i : Int32) : sII Rel (fun σ => f_X10_apart nmX notes l d i σ) (fun σ => f_X11_apart nmM notes l d i σ) := by
  intro σ hR
  have hR0 := hR
  obtain ⟨n, m, hS, hN, -, -, ⟨c, hc, ⟨c1, c2⟩, ck⟩, -⟩ := hR0
  have hp := pow10 hS.1.1
  show ∃ r σ1 τ, f_X10_apart nmX notes l d i σ = some (r, σ1) ∧ f_X11_apart nmM notes l d i σ1 = some (r, τ) ∧ Rel τ
  unfold f_X10_apart f_X11_apart
  obtain ⟨w, e5, e6, hw⟩ := loud_eq l
  rw [e5, bnd]
  have l1 : (1 : Int32).toInt = 1 := by decide
  have l9 : (9 : Int32).toInt = 9 := by decide
  rcases hw with ⟨rfl, hlo⟩ | ⟨rfl, -⟩
  · rw [if_neg i10]
    by_cases hd : ¬ (1 ≤ d.toInt ∧ d.toInt ≤ 9)
    · rw [within_no (by rw [l1, l9]; exact hd), bnd, if_pos rfl]
      refine ⟨_, σ, σ, rfl, ?_, hR⟩
      rw [e6, bnd, if_neg i10, in_no (by rw [ti64]; exact hd), bnd, if_pos rfl]
    have hd := Classical.not_not.mp hd
    rw [within_yes (by rw [l1]; exact hd.1) (by rw [l9]; exact hd.2), bnd, if_neg i10]
    have hin := in_yes (x := d.toInt64) (y := 1) (z := 9) (by rw [ti64]; exact hd.1) (by rw [ti64]; exact hd.2)
    obtain ⟨D, hD, rfl⟩ := rg_nI (x := d) (hi := 9) ⟨by omega, hd.2⟩
    rw [nI_ti (by omega)] at hd
    obtain ⟨τ1, τ2, q1, q2, u2, s2⟩ := lg_c (notes := notes) hS hN hlo
    rw [q1, bnd, q2, bnd]
    obtain ⟨s, hs⟩ : ∃ s : Nat → Nat, ∀ k, k < c → g_i σ 78 k = nI (s k) ∧ s k < 2 ^ n := by
      refine ⟨fun k => (g_i σ 78 k).toInt.toNat, fun k hk => ?_⟩
      have h := (ck k hk).1
      unfold rg at h
      have h1 := Nat.two_pow_pos n
      have e1 : ((2 : Int) ^ n) = ((2 ^ n : Nat) : Int) := by push_cast; rfl
      rw [e1] at h
      refine ⟨nI_oft h.1, ?_⟩
      show (g_i σ 78 k).toInt.toNat < 2 ^ n
      omega
    have hg : SgX n c s τ2 := ⟨hc, (u2 77 1 rfl).trans c1, fun k hk => by rw [u2 78 k rfl]; exact hs k hk⟩
    obtain ⟨y, ey, hy⟩ := xap_out (i := i) hS.1.1 s2 hg (show 1 ≤ D ∧ D ≤ 9 by omega)
    rw [ey, bnd]
    have fin : ∀ (τ3 : jS), ux wFs τ2 τ3 → ∃ y', lp (f_X11_apart_L30 nmM notes l (nI D) i) fu (0, 0, τ3) = some y' ∧ ((∃ c' τ, y' = .inl (nI c', τ) ∧ Rel τ ∧ rO (NB (Wt σ n l) (bN notes.toBitVec) s D) i c c 0 0 = .inl c') ∨ (∃ x τ, y' = .inr (nI x, τ) ∧ Rel τ ∧ rO (NB (Wt σ n l) (bN notes.toBitVec) s D) i c c 0 0 = .inr x)) := fun τ3 u3 => by
      have u03 : ux wSc σ τ3 := ux_tr u2 (fs_sc u3)
      obtain ⟨y', ey', hy'⟩ := map_out (s := s) (c := c) (i := i) (notes := notes) (site_sc u03 hS) (now_sc u03 hN) hlo ⟨hc, (u03 101 38 rfl).trans c2, fun k hk => by rw [u03 116 k rfl, (ck k hk).2]; exact hs k hk⟩ (show 1 ≤ D ∧ D ≤ 9 by omega)
      rw [Wt_sc u03] at hy'
      refine ⟨y', ey', ?_⟩
      rcases hy' with ⟨c', τ, e, u, h⟩ | ⟨x, τ, e, u, h⟩
      · exact Or.inl ⟨c', τ, e, rel_sc (ux_tr u03 (lu_sc u)) hR, h⟩
      · exact Or.inr ⟨x, τ, e, rel_sc (ux_tr u03 (lu_sc u)) hR, h⟩
    rcases hy with ⟨c', τ3, rfl, u3, h⟩ | ⟨x, τ3, rfl, u3, h⟩
    · obtain ⟨y', ey', hy'⟩ := fin τ3 u3
      rcases hy' with ⟨c'', τ4, rfl, hR4, h'⟩ | ⟨x, τ4, -, -, h'⟩
      · rw [h] at h'
        have := Sum.inl.inj h'
        subst this
        show ∃ r σ1 τ, (if i = -1 then some (nI c', τ3) else some (-1, τ3)) = some (r, σ1) ∧ _
        by_cases hi : i = -1
        · rw [if_pos hi]
          refine ⟨_, τ3, τ4, rfl, ?_, hR4⟩
          rw [e6, bnd, if_neg i10, hin, bnd, if_neg i10, ey', bnd]
          show (if i = -1 then some (nI c', τ4) else some (-1, τ4)) = _
          rw [if_pos hi]
        · rw [if_neg hi]
          refine ⟨_, τ3, τ4, rfl, ?_, hR4⟩
          rw [e6, bnd, if_neg i10, hin, bnd, if_neg i10, ey', bnd]
          show (if i = -1 then some (nI c', τ4) else some (-1, τ4)) = _
          rw [if_neg hi]
      · rw [h] at h'; cases h'
    · obtain ⟨y', ey', hy'⟩ := fin τ3 u3
      rcases hy' with ⟨c'', τ4, -, -, h'⟩ | ⟨x', τ4, rfl, hR4, h'⟩
      · rw [h] at h'; cases h'
      · rw [h] at h'
        have := Sum.inr.inj h'
        subst this
        refine ⟨nI x, τ3, τ4, rfl, ?_, hR4⟩
        rw [e6, bnd, if_neg i10, hin, bnd, if_neg i10, ey', bnd]
  · rw [if_pos rfl]
    refine ⟨_, σ, σ, rfl, ?_, hR⟩
    rw [e6, bnd, if_pos rfl]
