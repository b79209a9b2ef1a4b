/-! alone: the reference's order -/
theorem nI_41l {l c : Nat} : 4 * nI l + nI c = nI (4 * l + c) := by rw [show (4 : Int32) * nI l = nI (4 * l) from nI_mul 4 l, nI_add]
theorem msort_c {nL : Nat} {nt : Nat → Nat} {σ : jS} (hn : nL ≤ 10) (h0 : g_i σ 101 0 = nI nL) (hnt : ∀ l, l < nL → g_i σ 102 (4 * l + 1) = nI (nt l) ∧ nt l ≤ 63) : ∃ τ, lp (f_X11_fileAll_L2 nmM) fu (0, σ) = some τ ∧ ux (fun a _ => decide (a = 121)) σ τ ∧ ∃ ord, OrdOk nt nL ord ∧ ∀ i, i < nL → g_i τ 121 i = nI (ord i) := by
  suffices wp (lp (f_X11_fileAll_L2 nmM) fu (0, σ)) (fun τ => ux (fun a _ => decide (a = 121)) σ τ ∧ ∃ ord, OrdOk nt nL ord ∧ ∀ i, i < nL → g_i τ 121 i = nI (ord i)) by
    obtain ⟨τ, e, h⟩ := this
    exact ⟨τ, e, h⟩
  refine wp_up nL (fun l x => x.1 = nI l ∧ ux (fun a _ => decide (a = 121)) σ x.2 ∧ ∃ ord, OrdOk nt l ord ∧ ∀ i, i < l → g_i x.2 121 i = nI (ord i)) (i := 0) (by omega) (by omega) ⟨rfl, ux_refl _ _, fun i => i, ⟨fun i hi => absurd hi (Nat.not_lt_zero i), fun i j _ hj => absurd hj (Nat.not_lt_zero j), fun l hl => absurd hl (Nat.not_lt_zero l)⟩, fun i hi => absurd hi (Nat.not_lt_zero i)⟩ ?_
  rintro l ⟨v, τ⟩ hl ⟨hv, hu, ord, hO, hk⟩
  have hv : v = nI l := hv
  have hu : ux (fun a _ => decide (a = 121)) σ τ := hu
  have hk : ∀ i, i < l → g_i τ 121 i = nI (ord i) := hk
  subst hv
  unfold f_X11_fileAll_L2
  show wp (if g_i τ (nmM 0) 0 ≤ nI l then some (Sum.inr τ) else (lp (f_X11_fileAll_L12 nmM (nI l)) fu (nI l, τ)).bind _) _
  rw [show g_i τ (nmM 0) 0 = nI nL from (hu 101 0 rfl).trans h0]
  refine wp_ite (fun hc => ?_) (fun hc => ?_)
  · rw [nI_le' (by omega) (by omega)] at hc
    have : l = nL := by omega
    subst this
    exact wp_some ⟨hu, ord, hO, hk⟩
  · rw [nI_le' (by omega) (by omega)] at hc
    have hln : l < nL := by omega
    refine wp_bind ?_
    have hnl := hnt l hln
    have mono : ∀ i j, i ≤ j → j < l → nt (ord i) ≤ nt (ord j) := fun i j hij hj => by
      by_cases e : i = j
      · rw [e]; exact Nat.le_refl _
      · have := hO.2.1 i j (by omega) hj
        have a1 := hO.1 i (by omega)
        have a2 := hO.1 j hj
        unfold Kx at this; omega
    refine wp_lp (fun at' x => at' ≤ l ∧ x.1 = nI at' ∧ ux (fun a _ => decide (a = 121)) σ x.2 ∧ (∀ i, i < at' → g_i x.2 121 i = nI (ord i)) ∧ (∀ i, at' < i → i ≤ l → g_i x.2 121 i = nI (ord (i - 1))) ∧ ∀ i, at' ≤ i → i < l → nt l < nt (ord i)) (n := l) (by omega) ⟨Nat.le_refl _, rfl, hu, hk, fun i h1 h2 => by omega, fun i h1 h2 => by omega⟩ ?_
    rintro at' ⟨v, ρ⟩ ⟨hat, hv, hur, r1, r2, r3⟩
    have hv : v = nI at' := hv
    have hur : ux (fun a _ => decide (a = 121)) σ ρ := hur
    have r1 : ∀ i, i < at' → g_i ρ 121 i = nI (ord i) := r1
    have r2 : ∀ i, at' < i → i ≤ l → g_i ρ 121 i = nI (ord (i - 1)) := r2
    subst hv
    have fin : (at' = 0 ∨ nt (ord (at' - 1)) ≤ nt l) → ∃ t : Int32 × jS, f_X11_fileAll_J66 nmM (nI l) (nI at') ρ = some (.inl t) ∧ l < nL ∧ t.1 = nI (l + 1) ∧ ux (fun a _ => decide (a = 121)) σ t.2 ∧ ∃ ord, OrdOk nt (l + 1) ord ∧ ∀ i, i < l + 1 → g_i t.2 121 i = nI (ord i) := by
      intro hx
      unfold f_X11_fileAll_J66
      rw [gd_t (nI_in' (by omega) (by omega)), bdx]
      generalize h4 : s_i ρ (nmM 20) (nI at').toNatClampNeg (nI l) = s4
      refine ⟨_, rfl, hln, nI_1 l, ?_, fun i => if i < at' then ord i else if i = at' then l else ord (i - 1), ⟨fun i hi => ?_, fun i j hij hj => ?_, fun x hx2 => ?_⟩, fun i hi => ?_⟩
      · rw [← h4]; exact ux_s hur (decide_eq_true rfl)
      · show (if i < at' then ord i else if i = at' then l else ord (i - 1)) < l + 1
        by_cases h1 : i < at'
        · rw [if_pos h1]; have := hO.1 i (by omega); omega
        · rw [if_neg h1]
          by_cases h2 : i = at'
          · rw [if_pos h2]; omega
          · rw [if_neg h2]; have := hO.1 (i - 1) (by omega); omega
      · show Kx nt (if i < at' then ord i else if i = at' then l else ord (i - 1)) < Kx nt (if j < at' then ord j else if j = at' then l else ord (j - 1))
        have low : ∀ i, i < at' → Kx nt (ord i) < Kx nt l := fun i hi => by
          have a1 := hO.1 i (by omega)
          have a2 := mono i (at' - 1) (by omega) (by omega)
          unfold Kx
          rcases hx with hx | hx <;> omega
        have high : ∀ i, at' ≤ i → i < l → Kx nt l < Kx nt (ord i) := fun i h1 h2 => by
          have a1 := hO.1 i h2
          have a2 := r3 i h1 h2
          unfold Kx; omega
        by_cases i1 : i < at'
        · rw [if_pos i1]
          by_cases j1 : j < at'
          · rw [if_pos j1]; exact hO.2.1 i j hij (by omega)
          · rw [if_neg j1]
            by_cases j2 : j = at'
            · rw [if_pos j2]; exact low i i1
            · rw [if_neg j2]; exact hO.2.1 i (j - 1) (by omega) (by omega)
        · rw [if_neg i1, if_neg (show ¬ j < at' by omega), if_neg (show ¬ j = at' by omega)]
          by_cases i2 : i = at'
          · rw [if_pos i2]; exact high (j - 1) (by omega) (by omega)
          · rw [if_neg i2]; exact hO.2.1 (i - 1) (j - 1) (by omega) (by omega)
      · by_cases e : x = l
        · refine ⟨at', by omega, ?_⟩
          show (if at' < at' then ord at' else if at' = at' then l else ord (at' - 1)) = x
          rw [if_neg (by omega), if_pos rfl, e]
        · obtain ⟨i, hi, ei⟩ := hO.2.2 x (by omega)
          by_cases h1 : i < at'
          · refine ⟨i, by omega, ?_⟩
            show (if i < at' then ord i else _) = x
            rw [if_pos h1, ei]
          · refine ⟨i + 1, by omega, ?_⟩
            show (if i + 1 < at' then ord (i + 1) else if i + 1 = at' then l else ord (i + 1 - 1)) = x
            rw [if_neg (by omega), if_neg (by omega), show i + 1 - 1 = i by omega, ei]
      · show g_i s4 121 i = nI (if i < at' then ord i else if i = at' then l else ord (i - 1))
        rw [← h4, nI_cl (by omega)]
        show g_i (s_i ρ 121 at' (nI l)) 121 i = _
        by_cases h1 : i = at'
        · rw [h1, s_i_eq, if_neg (by omega), if_pos rfl]
        · rw [s_i_k h1]
          by_cases h2 : i < at'
          · rw [if_pos h2]; exact r1 i h2
          · rw [if_neg h2, if_neg h1]; exact r2 i (by omega) (by omega)
    unfold f_X11_fileAll_L12
    show wp (if nI at' ≤ 0 then some (Sum.inr (nI at', ρ)) else _) _
    refine wp_ite (fun hc0 => ?_) (fun hc0 => ?_)
    · have hc0 : nI at' ≤ nI 0 := hc0
      rw [nI_le' (by omega) (by omega)] at hc0
      obtain ⟨t, e, h⟩ := fin (Or.inl (by omega))
      exact wp_some (wp_of e h)
    · have hc0 : ¬ nI at' ≤ nI 0 := hc0
      rw [nI_le' (by omega) (by omega)] at hc0
      have hoa := hO.1 (at' - 1) (by omega)
      have e1 : nI at' - 1 = nI (at' - 1) := nI_sb (b := 1) (by omega)
      have e2 : g_i ρ (nmM 20) (at' - 1) = nI (ord (at' - 1)) := r1 (at' - 1) (by omega)
      have e3 : (4 : Int32) * nI (ord (at' - 1)) + 1 = nI (4 * ord (at' - 1) + 1) := nI_41l (c := 1)
      have e4 : (4 : Int32) * nI l + 1 = nI (4 * l + 1) := nI_41l (c := 1)
      have e5 : g_i ρ (nmM 1) (4 * ord (at' - 1) + 1) = nI (nt (ord (at' - 1))) := (hur 102 _ rfl).trans (hnt _ (by omega)).1
      have e6 : g_i ρ (nmM 1) (4 * l + 1) = nI (nt l) := (hur 102 _ rfl).trans hnl.1
      have hnb := (hnt (ord (at' - 1)) (by omega)).2
      rw [e1, nI_cl (show at' - 1 < 2147483648 by omega), e2, e3, e4, nI_cl (show 4 * ord (at' - 1) + 1 < 2147483648 by omega), nI_cl (show 4 * l + 1 < 2147483648 by omega), e5, e6]
      refine wp_gd (nI_in' (by omega) (by omega)) (wp_gd (nI_in' (by omega) (by omega)) (wp_gd (nI_in' (by omega) (by omega)) ?_))
      refine wp_ite (fun hle => ?_) (fun hle => ?_)
      · rw [nI_le' (by omega) (by omega)] at hle
        obtain ⟨t, e, h⟩ := fin (Or.inr hle)
        exact wp_some (wp_of e h)
      · rw [nI_le' (by omega) (by omega)] at hle
        refine wp_gd (nI_in' (by omega) (by omega)) (wp_gd (nI_in' (by omega) (by omega)) (wp_bd (fun s1 h1 => wp_some ⟨at' - 1, by omega, by omega, ?_, ?_, fun i hi => ?_, fun i hi1 hi2 => ?_, fun i hi1 hi2 => ?_⟩)))
        · show nI at' + (-1) = nI (at' - 1)
          rw [nI_a1]; exact e1
        · show ux _ σ s1
          rw [h1]; exact ux_s hur (decide_eq_true rfl)
        · show g_i s1 121 i = _
          rw [h1, nI_cl (by omega)]
          show g_i (s_i ρ 121 at' _) 121 i = _
          rw [s_i_k (by omega)]; exact r1 i (by omega)
        · show g_i s1 121 i = _
          rw [h1, nI_cl (by omega)]
          show g_i (s_i ρ 121 at' (nI (ord (at' - 1)))) 121 i = _
          by_cases e : i = at'
          · rw [e, s_i_eq]
          · rw [s_i_k e]; exact r2 i (by omega) hi2
        · by_cases e : i = at' - 1
          · rw [e]; omega
          · exact r3 i (by omega) hi2
/-- the lamps as the reference keeps them -/
def MOk (σ : jS) (nL : Nat) (pl wd fl : Nat → Int) (fr lo : Int) : Prop := nL ≤ 10 ∧ g_i σ 101 0 = nI nL ∧ (∀ l, l < nL → ((g_i σ 102 (4 * l)).toInt = pl l ∧ 0 ≤ pl l ∧ pl l ≤ 49) ∧ ((g_i σ 102 (4 * l + 2)).toInt = wd l ∧ 0 ≤ wd l ∧ wd l ≤ 9) ∧ ((g_i σ 102 (4 * l + 3)).toInt = fl l ∧ 0 ≤ fl l ∧ fl l ≤ 5)) ∧ ((g_i σ 101 15).toInt = fr ∧ 0 ≤ fr ∧ fr ≤ 9) ∧ ((g_i σ 101 7).toInt = lo ∧ 1 ≤ lo ∧ lo ≤ 50)
theorem MOk.cg {W : Nat → Nat → Bool} {σ τ : jS} {nL : Nat} {pl wd fl : Nat → Int} {fr lo : Int} (hu : ux W σ τ) (h1 : W 101 0 = false) (h2 : W 101 15 = false) (h3 : W 101 7 = false) (h4 : ∀ k, W 102 k = false) (h : MOk σ nL pl wd fl fr lo) : MOk τ nL pl wd fl fr lo := by
  obtain ⟨a, b, c, d, e⟩ := h
  refine ⟨a, (hu _ _ h1).trans b, fun l hl => ?_, ?_, ?_⟩
  · rw [hu 102 _ (h4 _), hu 102 _ (h4 _), hu 102 _ (h4 _)]; exact c l hl
  · rw [hu _ _ h2]; exact d
  · rw [hu _ _ h3]; exact e
theorem mtog {nL a b na nb : Nat} {pl wd fl : Nat → Int} {fr lo : Int} {σ : jS} (hM : MOk σ nL pl wd fl fr lo) (ha : a < nL) (hb : b < nL) (h1 : g_i σ 122 a = nI na) (h2 : g_i σ 122 b = nI nb) (hna : na ≤ 63) (hnb : nb ≤ 63) : f_X11_isTogether nmM (nI a) (nI b) σ = some (if TB pl wd fl fr lo a na b nb = true then 1 else 0) := by
  obtain ⟨hn, h0, hv, ⟨f1, f2, f3⟩, ⟨o1, o2, o3⟩⟩ := hM
  obtain ⟨⟨p1, p2, p3⟩, ⟨w1, w2, w3⟩, ⟨l1, l2, l3⟩⟩ := hv a ha
  obtain ⟨⟨p4, p5, p6⟩, ⟨w4, w5, w6⟩, ⟨l4, l5, l6⟩⟩ := hv b hb
  have g1 := mul_le2 l2 l3 f2 f3
  have g2 := mul_le2 l5 l6 f2 f3
  have k1 : (g_i σ 102 (4 * a + 3) * g_i σ 101 15).toInt = fl a * fr := by rw [ti_mul (by rw [l1, f1]; omega) (by rw [l1, f1]; omega), l1, f1]
  have k2 : (g_i σ 102 (4 * b + 3) * g_i σ 101 15).toInt = fl b * fr := by rw [ti_mul (by rw [l4, f1]; omega) (by rw [l4, f1]; omega), l4, f1]
  have x1 : (nI na - g_i σ 102 (4 * a + 3) * g_i σ 101 15).toInt = (na : Int) - fl a * fr := by rw [ti_sub (by rw [k1, nI_ti (by omega)]; omega) (by rw [k1, nI_ti (by omega)]; omega), k1, nI_ti (by omega)]
  have x2 : (nI nb - g_i σ 102 (4 * b + 3) * g_i σ 101 15).toInt = (nb : Int) - fl b * fr := by rw [ti_sub (by rw [k2, nI_ti (by omega)]; omega) (by rw [k2, nI_ti (by omega)]; omega), k2, nI_ti (by omega)]
  have q1 : (4 : Int32) * nI a + 3 = nI (4 * a + 3) := nI_41l (c := 3)
  have q2 : (4 : Int32) * nI b + 3 = nI (4 * b + 3) := nI_41l (c := 3)
  have q3 : (4 : Int32) * nI a + 2 = nI (4 * a + 2) := nI_41l (c := 2)
  have q4 : (4 : Int32) * nI b + 2 = nI (4 * b + 2) := nI_41l (c := 2)
  have q5 : (4 : Int32) * nI a = nI (4 * a) := nI_mul 4 a
  have q6 : (4 : Int32) * nI b = nI (4 * b) := nI_mul 4 b
  unfold f_X11_isTogether
  rw [q1, q2, gd_t (nI_in' (by omega) (by omega)), gd_t (nI_in' (by omega) (by omega)), bdx, gd_t (nI_in' (by omega) (by omega)), gd_t (nI_in' (by omega) (by omega)), bdx, nI_cl (show a < 2147483648 by omega), nI_cl (show b < 2147483648 by omega), nI_cl (show 4 * a + 3 < 2147483648 by omega), nI_cl (show 4 * b + 3 < 2147483648 by omega), show g_i σ (nmM 21) a = nI na from h1, show g_i σ (nmM 21) b = nI nb from h2]
  show (lp (f_X11_isTogether_L53 nmM (nI a) (nI b) (nI na - g_i σ 102 (4 * a + 3) * g_i σ 101 15) (nI nb - g_i σ 102 (4 * b + 3) * g_i σ 101 15) σ) fu (0, 0)).bind _ = _
  unfold TB
  generalize nI na - g_i σ 102 (4 * a + 3) * g_i σ 101 15 = X at x1 ⊢
  generalize nI nb - g_i σ 102 (4 * b + 3) * g_i σ 101 15 = Y at x2 ⊢
  generalize fl a * fr = A at g1 x1 ⊢
  generalize fl b * fr = B at g2 x2 ⊢
  have en : lp (f_X11_isTogether_L53 nmM (nI a) (nI b) X Y σ) fu (0, 0) = some (if anyB (fun n => decide (((X.toInt - n).natAbs : Int) ≤ wd a ∧ ((Y.toInt - n).natAbs : Int) ≤ wd b)) 64 = true then 1 else 0) := by
    refine wp_eq ?_
    refine wp_up 64 (fun i s => s = ((if anyB (fun n => decide (((X.toInt - n).natAbs : Int) ≤ wd a ∧ ((Y.toInt - n).natAbs : Int) ≤ wd b)) i = true then 1 else 0), nI i)) (i := 0) (by omega) (by omega) rfl ?_
    rintro i s hi rfl
    unfold f_X11_isTogether_L53
    show wp (if nI 64 ≤ nI i then some (Sum.inr (if anyB (fun n => decide (((X.toInt - n).natAbs : Int) ≤ wd a ∧ ((Y.toInt - n).natAbs : Int) ≤ wd b)) i = true then 1 else 0)) else if (if anyB (fun n => decide (((X.toInt - n).natAbs : Int) ≤ wd a ∧ ((Y.toInt - n).natAbs : Int) ≤ wd b)) i = true then (1 : Int32) else 0) = 0 then (f_X11_size (X - nI i)).bind _ else _) _
    refine wp_ite (fun hc => ?_) (fun hc => ?_)
    · rw [nI_le' (by omega) (by omega)] at hc
      have : i = 64 := by omega
      subst this
      exact wp_some rfl
    · rw [nI_le' (by omega) (by omega)] at hc
      have sx : (X - nI i).toInt = X.toInt - i := by rw [ti_sub (by rw [nI_ti (by omega)]; omega) (by rw [nI_ti (by omega)]; omega), nI_ti (by omega)]
      have sy : (Y - nI i).toInt = Y.toInt - i := by rw [ti_sub (by rw [nI_ti (by omega)]; omega) (by rw [nI_ti (by omega)]; omega), nI_ti (by omega)]
      by_cases hb : anyB (fun n => decide (((X.toInt - n).natAbs : Int) ≤ wd a ∧ ((Y.toInt - n).natAbs : Int) ≤ wd b)) i = true
      · rw [if_pos hb, if_neg i10]
        refine wp_some ⟨by omega, ?_⟩
        rw [nI_1, if_pos (show anyB _ (i + 1) = true by unfold anyB; rw [hb]; rfl)]
      · have hbf := Bool.eq_false_iff.mpr hb
        rw [if_neg hb, if_pos rfl, q3, q4]
        obtain ⟨v, ev, hv⟩ := size_eq (a := X - nI i) (by omega)
        obtain ⟨w, ew, hw⟩ := size_eq (a := Y - nI i) (by omega)
        refine wp_bindE ev (wp_gd (nI_in' (by omega) (by omega)) ?_)
        rw [nI_cl (by omega), ew]
        rw [sx] at hv
        rw [sy] at hw
        have no : ¬ (((X.toInt - i).natAbs : Int) ≤ wd a ∧ ((Y.toInt - i).natAbs : Int) ≤ wd b) → ((0 : Int32), nI i + 1) = ((if anyB (fun n => decide (((X.toInt - n).natAbs : Int) ≤ wd a ∧ ((Y.toInt - n).natAbs : Int) ≤ wd b)) (i + 1) = true then 1 else 0), nI (i + 1)) := fun h => by
          rw [nI_1, if_neg (show ¬ anyB _ (i + 1) = true by unfold anyB; rw [hbf, decide_eq_false h]; decide)]
        refine wp_ite (fun hl => ?_) (fun hl => ?_)
        · have hl := Int32.lt_iff_toInt_lt.mp hl
          have hl : (g_i σ 102 (4 * a + 2)).toInt < v.toInt := hl
          exact wp_some ⟨by omega, no (by omega)⟩
        · have hl : ¬ (g_i σ 102 (4 * a + 2)).toInt < v.toInt := mt Int32.lt_iff_toInt_lt.mpr hl
          refine wp_bindE rfl (wp_gd (nI_in' (by omega) (by omega)) ?_)
          rw [nI_cl (by omega)]
          refine wp_ite (fun hl2 => ?_) (fun hl2 => ?_)
          · have hl2 := Int32.lt_iff_toInt_lt.mp hl2
            have hl2 : (g_i σ 102 (4 * b + 2)).toInt < w.toInt := hl2
            exact wp_some ⟨by omega, no (by omega)⟩
          · have hl2 : ¬ (g_i σ 102 (4 * b + 2)).toInt < w.toInt := mt Int32.lt_iff_toInt_lt.mpr hl2
            refine wp_some ⟨by omega, ?_⟩
            rw [nI_1, if_pos (show anyB _ (i + 1) = true by unfold anyB; rw [decide_eq_true ⟨by omega, by omega⟩, Bool.or_true])]
  rw [en, bnd]
  have hnotes : anyB (fun n => decide (((X.toInt - n).natAbs : Int) ≤ wd a ∧ ((Y.toInt - n).natAbs : Int) ≤ wd b)) 64 = decide (max (max ((na : Int) - A - wd a) ((nb : Int) - B - wd b)) 0 ≤ min (min ((na : Int) - A + wd a) ((nb : Int) - B + wd b)) 63) := by
    rw [Bool.eq_iff_iff, anyB_iff, decide_eq_true_iff, ← tb_notes, x1, x2]
    constructor
    · rintro ⟨i, hi, h⟩
      obtain ⟨h3, h4⟩ := of_decide_eq_true h
      exact ⟨i, hi, h3, h4⟩
    · rintro ⟨i, hi, h3, h4⟩
      exact ⟨i, hi, decide_eq_true ⟨h3, h4⟩⟩
  rw [hnotes]
  by_cases hN : max (max ((na : Int) - A - wd a) ((nb : Int) - B - wd b)) 0 ≤ min (min ((na : Int) - A + wd a) ((nb : Int) - B + wd b)) 63
  · rw [decide_eq_true hN, Bool.and_true, if_pos rfl]
    have ep : lp (f_X11_isTogether_L125 nmM (nI a) (nI b) 1 σ) fu (0, 0) = some (if anyB (fun p => decide (((pl a - p).natAbs : Int) < lo ∧ ((pl b - p).natAbs : Int) < lo)) 50 = true then 1 else 0) := by
      refine wp_eq ?_
      refine wp_up 50 (fun i s => s = ((if anyB (fun p => decide (((pl a - p).natAbs : Int) < lo ∧ ((pl b - p).natAbs : Int) < lo)) i = true then 1 else 0), nI i)) (i := 0) (by omega) (by omega) rfl ?_
      rintro i s hi rfl
      unfold f_X11_isTogether_L125
      show wp (if nI 50 ≤ nI i then some (Sum.inr (if anyB (fun p => decide (((pl a - p).natAbs : Int) < lo ∧ ((pl b - p).natAbs : Int) < lo)) i = true then 1 else 0)) else if (1 : Int32) = 0 then _ else if (if anyB (fun p => decide (((pl a - p).natAbs : Int) < lo ∧ ((pl b - p).natAbs : Int) < lo)) i = true then (1 : Int32) else 0) = 0 then gd (vp_in (4 * nI a) 40) ((f_X11_size (g_i σ 102 (4 * nI a).toNatClampNeg - nI i)).bind _) else _) _
      refine wp_ite (fun hc => ?_) (fun hc => ?_)
      · rw [nI_le' (by omega) (by omega)] at hc
        have : i = 50 := by omega
        subst this
        exact wp_some rfl
      · rw [nI_le' (by omega) (by omega)] at hc
        rw [if_neg i10]
        by_cases hb : anyB (fun p => decide (((pl a - p).natAbs : Int) < lo ∧ ((pl b - p).natAbs : Int) < lo)) i = true
        · rw [if_pos hb, if_neg i10]
          refine wp_some ⟨by omega, ?_⟩
          rw [nI_1, if_pos (show anyB _ (i + 1) = true by unfold anyB; rw [hb]; rfl)]
        · have hbf := Bool.eq_false_iff.mpr hb
          rw [if_neg hb, if_pos rfl, q5, q6]
          refine wp_gd (nI_in' (by omega) (by omega)) ?_
          rw [nI_cl (by omega)]
          have sx : (g_i σ 102 (4 * a) - nI i).toInt = pl a - i := by rw [ti_sub (by rw [nI_ti (by omega)]; omega) (by rw [nI_ti (by omega)]; omega), nI_ti (by omega), p1]
          have sy : (g_i σ 102 (4 * b) - nI i).toInt = pl b - i := by rw [ti_sub (by rw [nI_ti (by omega)]; omega) (by rw [nI_ti (by omega)]; omega), nI_ti (by omega), p4]
          obtain ⟨v, ev, hv⟩ := size_eq (a := g_i σ 102 (4 * a) - nI i) (by omega)
          obtain ⟨w, ew, hw⟩ := size_eq (a := g_i σ 102 (4 * b) - nI i) (by omega)
          rw [sx] at hv
          rw [sy] at hw
          refine wp_bindE ev ?_
          have no : ¬ (((pl a - i).natAbs : Int) < lo ∧ ((pl b - i).natAbs : Int) < lo) → ((0 : Int32), nI i + 1) = ((if anyB (fun p => decide (((pl a - p).natAbs : Int) < lo ∧ ((pl b - p).natAbs : Int) < lo)) (i + 1) = true then 1 else 0), nI (i + 1)) := fun h => by
            rw [nI_1, if_neg (show ¬ anyB _ (i + 1) = true by unfold anyB; rw [hbf, decide_eq_false h]; decide)]
          refine wp_ite (fun hl => ?_) (fun hl => ?_)
          · have hl := Int32.le_iff_toInt_le.mp hl
            have hl : (g_i σ 101 7).toInt ≤ v.toInt := hl
            exact wp_some ⟨by omega, no (by omega)⟩
          · have hl : ¬ (g_i σ 101 7).toInt ≤ v.toInt := mt Int32.le_iff_toInt_le.mpr hl
            refine wp_gd (nI_in' (by omega) (by omega)) ?_
            rw [nI_cl (by omega)]
            refine wp_bindE ew ?_
            refine wp_ite (fun hl2 => ?_) (fun hl2 => ?_)
            · have hl2 := Int32.le_iff_toInt_le.mp hl2
              have hl2 : (g_i σ 101 7).toInt ≤ w.toInt := hl2
              exact wp_some ⟨by omega, no (by omega)⟩
            · have hl2 : ¬ (g_i σ 101 7).toInt ≤ w.toInt := mt Int32.le_iff_toInt_le.mpr hl2
              refine wp_some ⟨by omega, ?_⟩
              rw [nI_1, if_pos (show anyB _ (i + 1) = true by unfold anyB; rw [decide_eq_true ⟨by omega, by omega⟩, Bool.or_true])]
    rw [ep, bnd]
    have hplaces : anyB (fun p => decide (((pl a - p).natAbs : Int) < lo ∧ ((pl b - p).natAbs : Int) < lo)) 50 = decide (((pl a - pl b).natAbs : Int) ≤ 2 * (lo - 1)) := by
      rw [Bool.eq_iff_iff, anyB_iff, decide_eq_true_iff, ← tb_places ⟨p2, p3⟩ ⟨p5, p6⟩]
      constructor
      · rintro ⟨i, hi, h⟩
        obtain ⟨h3, h4⟩ := of_decide_eq_true h
        exact ⟨i, hi, h3, h4⟩
      · rintro ⟨i, hi, h3, h4⟩
        exact ⟨i, hi, decide_eq_true ⟨h3, h4⟩⟩
    rw [hplaces]
    unfold f_X11_isTogether_J197
    cases decide (((pl a - pl b).natAbs : Int) ≤ 2 * (lo - 1)) <;> rfl
  · rw [decide_eq_false hN, Bool.and_false, if_neg (by decide)]
    have ep : lp (f_X11_isTogether_L125 nmM (nI a) (nI b) 0 σ) fu (0, 0) = some 0 := by
      refine wp_eq ?_
      refine wp_up 50 (fun i s => s = (0, nI i)) (i := 0) (by omega) (by omega) rfl ?_
      rintro i s hi rfl
      unfold f_X11_isTogether_L125
      show wp (if nI 50 ≤ nI i then some (Sum.inr (0 : Int32)) else if (0 : Int32) = 0 then some (Sum.inr (0 : Int32)) else _) _
      refine wp_ite (fun hc => wp_some rfl) (fun hc => ?_)
      rw [if_pos rfl]
      exact wp_some rfl
    rw [ep, bnd]
    rfl
