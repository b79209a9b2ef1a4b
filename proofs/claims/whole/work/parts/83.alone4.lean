/-! alone: the reference's filing; both -/
theorem malone {nL k t : Nat} {ord h : Nat → Nat} {pl wd fl : Nat → Int} {fr lo : Int} {σ : jS} (hM : MOk σ nL pl wd fl fr lo) (hk : k < nL) (ho : ∀ i, i ≤ k → g_i σ 121 i = nI (ord i) ∧ ord i < nL) (ht : g_i σ 122 (ord k) = nI t) (ht63 : t ≤ 63) (hh : ∀ i, i < k → g_i σ 122 (ord i) = nI (h (ord i)) ∧ h (ord i) ≤ 63) : f_X11_isAlone nmM (nI k) σ = some (if anyB (fun i => TB pl wd fl fr lo (ord k) t (ord i) (h (ord i))) k = true then 0 else 1) := by
  have hn := hM.1
  have e : lp (f_X11_isAlone_L4 nmM (nI k) σ) fu (1, 0) = some (if anyB (fun i => TB pl wd fl fr lo (ord k) t (ord i) (h (ord i))) k = true then 0 else 1) := by
    refine wp_eq ?_
    refine wp_up k (fun i s => s = ((if anyB (fun i => TB pl wd fl fr lo (ord k) t (ord i) (h (ord i))) i = true then 0 else 1), nI i)) (i := 0) (by omega) (by omega) rfl ?_
    rintro i s hi rfl
    unfold f_X11_isAlone_L4
    show wp (if nI k ≤ nI i then some (Sum.inr (if anyB (fun i => TB pl wd fl fr lo (ord k) t (ord i) (h (ord i))) i = true then 0 else 1)) else if (if anyB (fun i => TB pl wd fl fr lo (ord k) t (ord i) (h (ord i))) i = true then (0 : Int32) else 1) = 0 then _ else gd (vp_in (nI k) 10) (gd (vp_in (nI i) 10) ((f_X11_isTogether nmM (g_i σ (nmM 20) (nI k).toNatClampNeg) (g_i σ (nmM 20) (nI i).toNatClampNeg) σ).bind _))) _
    refine wp_ite (fun hc => ?_) (fun hc => ?_)
    · rw [nI_le' (by omega) (by omega)] at hc
      have : i = k := by omega
      subst this
      exact wp_some rfl
    · rw [nI_le' (by omega) (by omega)] at hc
      by_cases hb : anyB (fun i => TB pl wd fl fr lo (ord k) t (ord i) (h (ord i))) i = true
      · rw [if_pos hb, if_pos rfl]
        refine wp_some ⟨by omega, ?_⟩
        rw [nI_1, if_pos (show anyB _ (i + 1) = true by unfold anyB; rw [hb]; rfl)]
      · have hbf := Bool.eq_false_iff.mpr hb
        rw [if_neg hb, if_neg i10]
        refine wp_gd (nI_in' (by omega) (by omega)) (wp_gd (nI_in' (by omega) (by omega)) ?_)
        rw [nI_cl (by omega), nI_cl (by omega), show g_i σ (nmM 20) k = nI (ord k) from (ho k (Nat.le_refl _)).1, show g_i σ (nmM 20) i = nI (ord i) from (ho i (by omega)).1]
        obtain ⟨q1, q2⟩ := hh i (by omega)
        refine wp_bindE (mtog hM (ho k (Nat.le_refl _)).2 (ho i (by omega)).2 ht q1 ht63 q2) ?_
        cases hT : TB pl wd fl fr lo (ord k) t (ord i) (h (ord i)) with
        | true =>
          rw [if_neg (show ¬ (if true = true then (1 : Int32) else 0) = 0 by decide)]
          refine wp_some ⟨by omega, ?_⟩
          rw [nI_1, if_pos (show anyB _ (i + 1) = true by unfold anyB; rw [hT, Bool.or_true])]
        | false =>
          rw [if_pos (show (if false = true then (1 : Int32) else 0) = 0 by decide)]
          refine wp_some ⟨by omega, ?_⟩
          rw [nI_1, if_neg (show ¬ anyB _ (i + 1) = true by unfold anyB; rw [hT, hbf]; decide)]
  unfold f_X11_isAlone
  rw [e, bnd]
  by_cases hb : anyB (fun i => TB pl wd fl fr lo (ord k) t (ord i) (h (ord i))) k = true
  · rw [if_pos hb]; exact gd_t jz0
  · rw [if_neg hb]; exact gd_t jz1
theorem mfile_c {nL : Nat} {nt ord : Nat → Nat} {pl wd fl : Nat → Int} {fr lo : Int} {σ : jS} (hM : MOk σ nL pl wd fl fr lo) (hnt : ∀ l, l < nL → g_i σ 102 (4 * l + 1) = nI (nt l) ∧ nt l ≤ 63) (hO : OrdOk nt nL ord) (ho : ∀ i, i < nL → g_i σ 121 i = nI (ord i)) : ∃ x, lp (f_X11_fileAll_L85 nmM) fu (0, 0, 0, σ) = some x ∧ ((alP nt ord (TB pl wd fl fr lo) nL = none ∧ ∃ τ, x = .inr (-1, τ) ∧ ux (fun a _ => decide (a = 122)) σ τ) ∨ ∃ s b h τ, alP nt ord (TB pl wd fl fr lo) nL = some (s, b, h) ∧ s ≤ 630 ∧ x = .inl (nI s, τ) ∧ ux (fun a _ => decide (a = 122)) σ τ ∧ ∀ i, i < nL → g_i τ 122 (ord i) = nI (h (ord i))) := by
  have hn := hM.1
  suffices wp (lp (f_X11_fileAll_L85 nmM) fu (0, 0, 0, σ)) (fun x => (alP nt ord (TB pl wd fl fr lo) nL = none ∧ ∃ τ, x = .inr (-1, τ) ∧ ux (fun a _ => decide (a = 122)) σ τ) ∨ ∃ s b h τ, alP nt ord (TB pl wd fl fr lo) nL = some (s, b, h) ∧ s ≤ 630 ∧ x = .inl (nI s, τ) ∧ ux (fun a _ => decide (a = 122)) σ τ ∧ ∀ i, i < nL → g_i τ 122 (ord i) = nI (h (ord i))) by
    obtain ⟨x, e, h⟩ := this
    exact ⟨x, e, h⟩
  refine wp_up nL (fun k x => ∃ s b h, x.1 = nI s ∧ x.2.1 = nI b ∧ x.2.2.1 = nI k ∧ ux (fun a _ => decide (a = 122)) σ x.2.2.2 ∧ alP nt ord (TB pl wd fl fr lo) k = some (s, b, h) ∧ s ≤ 63 * k ∧ b ≤ 63 ∧ ∀ i, i < k → g_i x.2.2.2 122 (ord i) = nI (h (ord i)) ∧ h (ord i) ≤ 63) (i := 0) (by omega) (by omega) ⟨0, 0, _, rfl, rfl, rfl, ux_refl _ _, rfl, by omega, by omega, fun i hi => absurd hi (Nat.not_lt_zero i)⟩ ?_
  rintro k ⟨v1, v2, v3, τ⟩ hk ⟨s, b, h, q1, q2, q3, hu, hal, hs, hb, hh⟩
  have q1 : v1 = nI s := q1
  have q2 : v2 = nI b := q2
  have q3 : v3 = nI k := q3
  have hu : ux (fun a _ => decide (a = 122)) σ τ := hu
  have hh : ∀ i, i < k → g_i τ 122 (ord i) = nI (h (ord i)) ∧ h (ord i) ≤ 63 := hh
  subst q1 q2 q3
  unfold f_X11_fileAll_L85
  show wp (if g_i τ (nmM 0) 0 ≤ nI k then some (Sum.inr (Sum.inl (nI s, τ))) else _) _
  rw [show g_i τ (nmM 0) 0 = nI nL from (hu 101 0 rfl).trans hM.2.1]
  refine wp_ite (fun hc => ?_) (fun hc => ?_)
  · rw [nI_le' (by omega) (by omega)] at hc
    have : k = nL := by omega
    subst this
    exact wp_some (Or.inr ⟨s, b, h, τ, hal, by omega, rfl, hu, fun i hi => (hh i hi).1⟩)
  · rw [nI_le' (by omega) (by omega)] at hc
    have hkn : k < nL := by omega
    have hok := hO.1 k hkn
    have hnl := (hnt _ hok).2
    refine wp_gd (nI_in' (by omega) (by omega)) (wp_bd (fun x6 h6 => ?_))
    have h6 : x6 = nI (ord k) := by
      rw [h6, nI_cl (by omega)]
      exact (hu 121 k rfl).trans (ho k hkn)
    rw [h6, show (4 : Int32) * nI (ord k) + 1 = nI (4 * ord k + 1) from nI_41l (c := 1), nI_cl (show 4 * ord k + 1 < 2147483648 by omega), show g_i τ (nmM 1) (4 * ord k + 1) = nI (nt (ord k)) from (hu 102 _ rfl).trans (hnt _ hok).1]
    refine wp_gd (nI_in' (by omega) (by omega)) ?_
    have ey : (if nI (nt (ord k)) ≤ nI b then some (nI b) else gd (vp_in (nI (4 * ord k + 1)) 40) (some (nI (nt (ord k))))) = some (nI (max (nt (ord k)) b)) := by
      by_cases hc2 : nt (ord k) ≤ b
      · rw [if_pos (by rw [nI_le' (by omega) (by omega)]; exact hc2), Nat.max_eq_right hc2]
      · rw [if_neg (by rw [nI_le' (by omega) (by omega)]; exact hc2), gd_t (nI_in' (by omega) (by omega)), Nat.max_eq_left (by omega)]
    refine wp_bindE ey ?_
    unfold f_X11_fileAll_J137
    refine wp_gd (nI_in' (by omega) (by omega)) (wp_bd (fun s8 h8 => ?_))
    rw [nI_cl (by omega)] at h8
    have h8 : s8 = s_i τ 122 (ord k) (nI (max (nt (ord k)) b)) := h8
    have hge := fsN_ge (fun t => !(anyB (fun i => TB pl wd fl fr lo (ord k) t (ord i) (h (ord i))) k)) (64 - max (nt (ord k)) b) (max (nt (ord k)) b)
    have hge : max (nt (ord k)) b ≤ nxT nt ord (TB pl wd fl fr lo) k b h ∧ nxT nt ord (TB pl wd fl fr lo) k b h ≤ max (nt (ord k)) b + (64 - max (nt (ord k)) b) := hge
    have hal2 := alP_s hal
    have hnx : nxT nt ord (TB pl wd fl fr lo) k b h = fsN (fun t => !(anyB (fun i => TB pl wd fl fr lo (ord k) t (ord i) (h (ord i))) k)) (64 - max (nt (ord k)) b) (max (nt (ord k)) b) := rfl
    generalize nxT nt ord (TB pl wd fl fr lo) k b h = T at hge hal2 hnx
    have inner : wp (lp (f_X11_fileAll_L138 nmM (nI s) (nI k) (nI (ord k))) fu s8) (fun ρ => ux (fun a _ => decide (a = 122)) σ ρ ∧ g_i ρ 122 (ord k) = nI T ∧ ∀ j, j ≠ ord k → g_i ρ 122 j = g_i τ 122 j) := by
      refine wp_up 64 (fun t ρ => g_i ρ 122 (ord k) = nI t ∧ ux (fun a _ => decide (a = 122)) σ ρ ∧ (∀ j, j ≠ ord k → g_i ρ 122 j = g_i τ 122 j) ∧ fsN (fun t => !(anyB (fun i => TB pl wd fl fr lo (ord k) t (ord i) (h (ord i))) k)) (64 - t) t = T) (i := max (nt (ord k)) b) (by omega) (by omega) ⟨by rw [h8]; exact s_i_eq _ _ _ _, by rw [h8]; exact ux_s hu (decide_eq_true rfl), fun j hj => by rw [h8]; exact s_i_k hj, hnx.symm⟩ ?_
      rintro t ρ ht ⟨e1, hur, hor, h0⟩
      unfold f_X11_fileAll_L138
      refine wp_gd (nI_in' (by omega) (by omega)) ?_
      rw [nI_cl (show ord k < 2147483648 by omega), show g_i ρ (nmM 21) (ord k) = nI t from e1]
      refine wp_ite (fun hc2 => ?_) (fun hc2 => ?_)
      · have hc2 : nI 64 ≤ nI t := hc2
        rw [nI_le' (by omega) (by omega)] at hc2
        have : t = 64 := by omega
        subst this
        have h0 : 64 = T := h0
        exact wp_some ⟨hur, by rw [← h0]; exact e1, hor⟩
      · have hc2 : ¬ nI 64 ≤ nI t := hc2
        rw [nI_le' (by omega) (by omega)] at hc2
        have hMρ : MOk ρ nL pl wd fl fr lo := hM.cg hur rfl rfl rfl (fun _ => rfl)
        refine wp_bindE (malone (h := h) hMρ hkn (fun i hi => ⟨(hur 121 i rfl).trans (ho i (by omega)), hO.1 i (by omega)⟩) e1 (by omega) (fun i hi => by
          have hne : ord i ≠ ord k := fun e => by have := ord_inj hO (by omega) hkn e; omega
          rw [hor _ hne]; exact hh i hi)) ?_
        rw [show 64 - t = (64 - (t + 1)) + 1 by omega] at h0
        have h0 : (if (!(anyB (fun i => TB pl wd fl fr lo (ord k) t (ord i) (h (ord i))) k)) = true then t else fsN (fun t => !(anyB (fun i => TB pl wd fl fr lo (ord k) t (ord i) (h (ord i))) k)) (64 - (t + 1)) (t + 1)) = T := h0
        cases hB : anyB (fun i => TB pl wd fl fr lo (ord k) t (ord i) (h (ord i))) k with
        | true =>
          rw [if_pos (show (if true = true then (0 : Int32) else 1) = 0 by decide)]
          rw [hB, if_neg (by decide)] at h0
          refine wp_gd (nI_in' (by omega) (by omega)) (wp_gd (nI_in' (by omega) (by omega)) (wp_bd (fun s10 h10 => wp_some ⟨by omega, ?_, ?_, fun j hj => ?_, h0⟩)))
          · rw [h10, nI_1]; exact s_i_eq ρ 122 (ord k) _
          · rw [h10]; exact ux_s hur (decide_eq_true rfl)
          · rw [h10]
            exact (s_i_k hj).trans (hor j hj)
        | false =>
          rw [if_neg (show ¬ (if false = true then (0 : Int32) else 1) = 0 by decide)]
          rw [hB, if_pos (by decide)] at h0
          exact wp_some ⟨hur, by rw [← h0]; exact e1, hor⟩
    obtain ⟨ρ, er, ur, e1, or⟩ := inner
    refine wp_bindE er ?_
    unfold f_X11_fileAll_J172
    refine wp_gd (nI_in' (by omega) (by omega)) ?_
    rw [nI_cl (show ord k < 2147483648 by omega), show g_i ρ (nmM 21) (ord k) = nI T from e1]
    refine wp_ite (fun hc2 => ?_) (fun hc2 => ?_)
    · have hc2 : nI T < nI 64 := hc2
      rw [nI_lt' (by omega) (by omega)] at hc2
      rw [if_pos hc2] at hal2
      rw [show (4 : Int32) * nI (ord k) + 1 = nI (4 * ord k + 1) from nI_41l (c := 1), nI_cl (show 4 * ord k + 1 < 2147483648 by omega), show g_i ρ (nmM 1) (4 * ord k + 1) = nI (nt (ord k)) from (ur 102 _ rfl).trans (hnt _ hok).1]
      refine wp_gd (nI_in' (by omega) (by omega)) (wp_gd (nI_in' (by omega) (by omega)) (wp_bd (fun x12 h12 => wp_gd (nI_in' (by omega) (by omega)) (wp_bd (fun x13 h13 => wp_some ⟨hkn, s + (T - nt (ord k)), T, udN h (ord k) T, ?_, h13, nI_1 k, ur, hal2, by omega, by omega, fun i hi => ?_⟩)))))
      · show x12 = _
        rw [h12, nI_sb (by omega), nI_add]
      · show g_i ρ 122 (ord i) = nI (udN h (ord k) T (ord i)) ∧ udN h (ord k) T (ord i) ≤ 63
        unfold udN
        by_cases e : ord i = ord k
        · rw [e, if_pos rfl]; exact ⟨e1, by omega⟩
        · have hik : i ≠ k := fun z => e (by rw [z])
          rw [if_neg e, or _ e]
          exact hh i (by omega)
    · have hc2 : ¬ nI T < nI 64 := hc2
      rw [nI_lt' (by omega) (by omega)] at hc2
      rw [if_neg hc2] at hal2
      refine wp_some (Or.inl ⟨?_, ρ, rfl, ur⟩)
      have := alP_none hal2 (nL - (k + 1))
      rw [show k + 1 + (nL - (k + 1)) = nL by omega] at this
      exact this
theorem filX2 : filN2 (jn nmX [98, 31, 32, 33, 34, 35, 36, 37, 38, 39, 40, 41, 42, 43, 44, 45, 46, 47, 57, 58, 59, 60, 61, 99, 100]) := ⟨rfl, rfl, rfl, rfl, rfl, rfl, rfl, rfl, rfl, rfl⟩
theorem alone_core {σ : jS} (hR : Rel σ) : ∃ nL m r τ ρ, RSite nL m σ ∧ f_X0_partAll (jn nmX [98, 31, 32, 33, 34, 35, 36, 37, 38, 39, 40, 41, 42, 43, 44, 45, 46, 47, 57, 58, 59, 60, 61, 99, 100]) σ = some (r, τ) ∧ f_X11_fileAll nmM τ = some (r, ρ) ∧ Rel ρ ∧ Rel τ ∧ RSite nL m τ ∧ (r = -1 ∨ (0 ≤ r.toInt ∧ ∀ l, l < nL → g_i τ 99 l = g_i ρ 122 l)) := by
  obtain ⟨nL, m, hS, hN⟩ := rel_s hR
  have hn := hS.1.1
  obtain ⟨nt, hnt⟩ : ∃ nt : Nat → Nat, ∀ l, l < nL → g_i σ 58 l = nI (nt l) ∧ nt l ≤ 63 := by
    refine ⟨fun l => (g_i σ 58 l).toInt.toNat, fun l hl => ?_⟩
    have h := hN.1.1 l hl
    have h1 : 0 ≤ (g_i σ 58 l).toInt := h.1
    have h2 : (g_i σ 58 l).toInt ≤ 63 := h.2
    exact ⟨nI_oft h1, by show (g_i σ 58 l).toInt.toNat ≤ 63; omega⟩
  obtain ⟨pl, hpl⟩ : ∃ pl : Nat → Int, ∀ l, (g_i σ 33 l).toInt = pl l := ⟨fun l => (g_i σ 33 l).toInt, fun _ => rfl⟩
  obtain ⟨wd, hwd⟩ : ∃ wd : Nat → Int, ∀ l, (g_i σ 37 l).toInt = wd l := ⟨fun l => (g_i σ 37 l).toInt, fun _ => rfl⟩
  obtain ⟨fl, hfl⟩ : ∃ fl : Nat → Int, ∀ l, (g_i σ 39 l).toInt = fl l := ⟨fun l => (g_i σ 39 l).toInt, fun _ => rfl⟩
  obtain ⟨fr, hfr⟩ : ∃ fr : Int, (g_i σ 57 6).toInt = fr := ⟨_, rfl⟩
  obtain ⟨lo, hlo⟩ : ∃ lo : Int, (g_i σ 31 10).toInt = lo := ⟨_, rfl⟩
  have hL : LOk σ nL pl wd fl fr lo := by
    refine ⟨hn, hS.2.1.1, hS.2.1.2.2.1, hS.2.1.2.2.2.1, fun l hl => ?_, ?_, ?_⟩
    · obtain ⟨z1, z2, z3⟩ := hS.2.2.2.2.2.2.1 l hl
      have a1 := z1.1
      have a2 := z2.1
      have a3 := z3.1
      unfold rg at a1 a2 a3
      rw [hpl] at a1
      rw [hwd] at a2
      rw [hfl] at a3
      exact ⟨⟨hpl l, a1⟩, ⟨hwd l, a2⟩, ⟨hfl l, a3⟩⟩
    · have a := hN.1.2.2.1
      unfold rg at a
      rw [hfr] at a
      exact ⟨hfr, a⟩
    · have a := hS.2.2.2.2.2.1.1
      unfold rg at a
      rw [hlo] at a
      exact ⟨hlo, a⟩
  have hM : MOk σ nL pl wd fl fr lo := by
    obtain ⟨_, _, _, _, l4, l5, l6⟩ := hL
    refine ⟨hn, hS.2.1.2.2.2.2, fun l hl => ?_, ?_, ?_⟩
    · obtain ⟨z1, z2, z3⟩ := hS.2.2.2.2.2.2.1 l hl
      rw [z1.2, z2.2, z3.2]; exact l4 l hl
    · rw [hN.2.2.2.2.1]; exact l5
    · rw [hS.2.2.2.2.2.1.2]; exact l6
  have hntM : ∀ l, l < nL → g_i σ 102 (4 * l + 1) = nI (nt l) ∧ nt l ≤ 63 := fun l hl => by rw [hN.2.1 l hl]; exact hnt l hl
  obtain ⟨-, -, -, ord, hO, -⟩ := msort_c hn hS.2.1.2.2.2.2 hntM
  obtain ⟨r, τ, er, ut, hr⟩ := part_c filX2 hL hnt hO
  have uts : ux wSc σ τ := ux_w ut (fun a k hk => by
    have hk := of_decide_eq_false hk
    exact decide_eq_false (by omega))
  have hRτ : Rel τ := rel_sc uts hR
  have hSτ : RSite nL m τ := RSite.cg uts ⟨fun _ => rfl, fun _ => rfl, fun _ => rfl, fun _ => rfl, fun _ => rfl, fun _ => rfl, fun _ => rfl, fun _ => rfl, fun _ => rfl, fun _ => rfl, fun _ => rfl, fun _ => rfl, fun _ => rfl, fun _ => rfl, fun _ => rfl, fun _ => rfl, fun _ => rfl, rfl, rfl, rfl, rfl, rfl⟩ (fun l _ => ⟨rfl, rfl, rfl⟩) hS
  have hntτ : ∀ l, l < nL → g_i τ 102 (4 * l + 1) = nI (nt l) ∧ nt l ≤ 63 := fun l hl => by rw [ut 102 _ rfl]; exact hntM l hl
  obtain ⟨τ2, e2, u2, ord', hO', ho'⟩ := msort_c hn ((ut 101 0 rfl).trans hS.2.1.2.2.2.2) hntτ
  have hoo := ord_one hn hO hO'
  have hMτ2 : MOk τ2 nL pl wd fl fr lo := (hM.cg ut rfl rfl rfl (fun _ => rfl)).cg u2 rfl rfl rfl (fun _ => rfl)
  obtain ⟨x, ex, hx⟩ := mfile_c hMτ2 (fun l hl => by rw [u2 102 _ rfl]; exact hntτ l hl) hO (fun i hi => (ho' i hi).trans (by rw [hoo i hi]))
  have fin : ∀ ρ, ux (fun a _ => decide (a = 122)) τ2 ρ → Rel ρ := fun ρ u3 => rel_sc (ux_tr (ux_w u2 (fun a k hk => by
    have hk := of_decide_eq_false hk
    exact decide_eq_false (by omega))) (ux_w u3 (fun a k hk => by
    have hk := of_decide_eq_false hk
    exact decide_eq_false (by omega)))) hRτ
  rcases hr with ⟨hnone, hr⟩ | ⟨s, b, h, hsome, hs, hr, hv⟩
  · rcases hx with ⟨-, ρ, rfl, u3⟩ | ⟨s', b', h', ρ, hsome', -, -, -, -⟩
    · refine ⟨nL, m, r, τ, ρ, hS, er, ?_, fin ρ u3, hRτ, hSτ, Or.inl hr⟩
      unfold f_X11_fileAll
      rw [e2, bnd, ex, bnd, hr]
    · rw [hnone] at hsome'; cases hsome'
  · rcases hx with ⟨hnone', -⟩ | ⟨s', b', h', ρ, hsome', -, rfl, u3, hv'⟩
    · rw [hsome] at hnone'; cases hnone'
    · rw [hsome] at hsome'
      have hq := Option.some.inj hsome'
      have q1 : s = s' := congrArg Prod.fst hq
      have q2 : (b, h) = (b', h') := congrArg Prod.snd hq
      have q3 : h = h' := congrArg Prod.snd q2
      subst q1 q3
      refine ⟨nL, m, r, τ, ρ, hS, er, ?_, fin ρ u3, hRτ, hSτ, Or.inr ⟨by rw [hr, nI_ti (by omega)]; omega, fun l hl => ?_⟩⟩
      · unfold f_X11_fileAll
        rw [e2, bnd, ex, bnd, hr]
      · obtain ⟨i, hi, rfl⟩ := hO.2.2 l hl
        rw [hv i hi, hv' i hi]
theorem st_alone (a : Int32) : sII Rel (fun σ => f_X10_alone nmX a σ) (fun σ => f_X11_alone nmM a σ) := by
  intro σ hR
  obtain ⟨nL, m, r, τ, ρ, hS, e1, e2, hRρ, hRτ, hSτ, hr⟩ := alone_core hR
  show ∃ r σ1 τ, f_X10_alone nmX a σ = some (r, σ1) ∧ f_X11_alone nmM a σ1 = some (r, τ) ∧ Rel τ
  have hn := hS.1.1
  have n1 : ∀ x : Int32, 0 ≤ x.toInt → ¬ x = -1 := fun x h e => by
    rw [e] at h
    exact absurd h (by decide)
  have x17 : f_X10_alone_J17 nmX a σ = if a = -1 then some (r, τ) else if r = -1 then some (r, τ) else gd (vp_in a 10) (some (g_i τ 99 a.toNatClampNeg, τ)) := by
    unfold f_X10_alone_J17
    rw [e1]; rfl
  have m17 : f_X11_alone_J17 nmM a τ = if r < 0 then some (r, ρ) else if a = -1 then some (r, ρ) else gd (vp_in a 10) (some (g_i ρ 122 a.toNatClampNeg, ρ)) := by
    unfold f_X11_alone_J17
    rw [e2]; rfl
  unfold f_X10_alone f_X11_alone
  by_cases ha : a = -1
  · rw [if_pos ha, x17, if_pos ha]
    refine ⟨r, τ, ρ, rfl, ?_, hRρ⟩
    rw [if_pos ha, m17, if_pos ha]
    by_cases h0 : r < 0
    · rw [if_pos h0]
    · rw [if_neg h0]
  · rw [if_neg ha]
    by_cases hl : ∃ l, l < nL ∧ a = nI l
    · obtain ⟨l, hl, rfl⟩ := hl
      rw [xl_yes hS.2.1.1 hn hl, bnd, if_neg i10, x17, if_neg ha]
      rcases hr with hr | ⟨hr, hv⟩
      · rw [if_pos hr]
        refine ⟨r, τ, ρ, rfl, ?_, hRρ⟩
        rw [if_neg ha, ml_yes hSτ.2.1.2.2.2.2 hn hl, bnd, if_neg i10, m17, if_pos (by rw [hr]; decide)]
      · rw [if_neg (n1 r hr), gd_t (nI_in' (by omega) (by omega)), nI_cl (by omega)]
        refine ⟨_, τ, ρ, rfl, ?_, hRρ⟩
        rw [if_neg ha, ml_yes hSτ.2.1.2.2.2.2 hn hl, bnd, if_neg i10, m17, if_neg (fun e => by have := lt0.mp e; omega), if_neg ha, gd_t (nI_in' (by omega) (by omega)), nI_cl (by omega), hv l hl]
    · rw [xl_no hS.2.1.1 hn hl, bnd, if_pos rfl]
      refine ⟨_, σ, σ, rfl, ?_, hR⟩
      rw [if_neg ha, ml_no hS.2.1.2.2.2.2 hn hl, bnd, if_pos rfl]
