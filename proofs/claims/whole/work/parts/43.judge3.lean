theorem not0m1 : ¬ (0 : Int32) ≤ -1 := by decide
theorem mjudge_lp {n m c C : Nat} {σ : jS} {μ : Mo} (hC : C ≤ 40) (h47 : g_i σ 101 47 = nI C) (hlog : ∀ k, k < C → g_i σ 124 k = g_i σ 80 k) (hS : RSite n m σ) (hNt : RNt n σ) (hg : SongOk m c σ) (hc10 : g_i σ 101 10 = nI c) (hv : ∀ k, k < c → g_i σ 107 (3 * k) = g_i σ 50 k ∧ g_i σ 107 (3 * k + 1) = g_i σ 52 k ∧ g_i σ 107 (3 * k + 2) = g_i σ 54 k) (hr : mrelM n σ μ) (hw : rg (g_i σ 57 7) 0 50) (hw2 : g_i σ 101 16 = g_i σ 57 7) (hok : Mok n μ) : wp (lp (f_X11_judge_L82 nmM) fu ((-1), 0, σ)) (fun x => ux wMm σ x.2 ∧ JP (fun i => nI (scr σ (itr (prm σ 57 n c) μ (i + 1))) = g_i σ 80 i) C x.1) := by
  have hb : rg (g_i σ 31 8) 0 99 := ⟨by have := hS.2.2.2.1.1.1; omega, hS.2.2.2.1.1.2⟩
  have hn := hS.1.1
  refine wp_up C (fun i s => s.2.1 = nI i ∧ ux wMm σ s.2.2 ∧ ((s.1 = -1 ∧ mrelM n s.2.2 (itr (prm σ 57 n c) μ i) ∧ ∀ j, j < i → nI (scr σ (itr (prm σ 57 n c) μ (j + 1))) = g_i σ 80 j) ∨ ∃ j, j < i ∧ s.1 = nI j ∧ (¬ nI (scr σ (itr (prm σ 57 n c) μ (j + 1))) = g_i σ 80 j) ∧ ∀ k, k < j → nI (scr σ (itr (prm σ 57 n c) μ (k + 1))) = g_i σ 80 k)) (i := 0) (by omega) (by omega) ⟨rfl, ux_refl _ _, Or.inl ⟨rfl, hr, fun l hl => absurd hl (Nat.not_lt_zero l)⟩⟩ ?_
  rintro i ⟨r, v, υ⟩ hi ⟨hv2, hu, hor⟩
  have hv2 : v = nI i := hv2
  subst hv2
  have hu : ux wMm σ υ := hu
  have hor : (r = -1 ∧ mrelM n υ (itr (prm σ 57 n c) μ i) ∧ ∀ j, j < i → nI (scr σ (itr (prm σ 57 n c) μ (j + 1))) = g_i σ 80 j) ∨ ∃ j, j < i ∧ r = nI j ∧ (¬ nI (scr σ (itr (prm σ 57 n c) μ (j + 1))) = g_i σ 80 j) ∧ ∀ k, k < j → nI (scr σ (itr (prm σ 57 n c) μ (k + 1))) = g_i σ 80 k := hor
  unfold f_X11_judge_L82
  have e47 : g_i υ (nmM 0) 47 = nI C := (hu 101 47 rfl).trans h47
  show wp (if g_i υ (nmM 0) 47 ≤ nI i then _ else _) _
  rw [e47]
  refine wp_ite (fun hc => ?_) (fun hc => ?_)
  · rw [nI_le' (by omega) (by omega)] at hc
    have : i = C := by omega
    subst this
    refine wp_some ⟨hu, ?_⟩
    rcases hor with ⟨h1, -, h3⟩ | ⟨j, h1, h2, h3, h4⟩
    · exact Or.inl ⟨h1, h3⟩
    · exact Or.inr ⟨j, h1, h2, h3, h4⟩
  · rw [nI_le' (by omega) (by omega)] at hc
    rcases hor with ⟨h1, hru, hlo⟩ | ⟨j, h1, h2, h3, h4⟩
    · subst h1
      refine wp_ite (fun hq => absurd hq not0m1) (fun _ => ?_)
      have hoki := itr_ok (σ := σ) (b := 57) (c := c) hb hok i
      have hokj := itr_ok (σ := σ) (b := 57) (c := c) hb hok (i + 1)
      have hx := mminute (n := n) (m := m) (c := c) (RSite.cg hu (okS_ux wMm57 (fun k => rfl) (fun k h => by simp [wMm]; omega)) (fun l _ => ⟨rfl, rfl, rfl⟩) hS) (RNt.cg hu (fun _ => rfl) (fun _ => rfl) rfl rfl hNt) (SongOk.cg hu wMm57 hg) ((hu 101 10 rfl).trans hc10) (fun k hk => by rw [hu 107 _ rfl, hu 107 _ rfl, hu 107 _ rfl, hu 50 k rfl, hu 52 k rfl, hu 54 k rfl]; exact hv k hk) hru (fun l h1 h2 => (hoki.1 l h2).2.2 h1) (by rw [hu 57 7 rfl]; exact hw) (by rw [hu 101 16 rfl, hu 57 7 rfl]; exact hw2) hoki.2
      rw [prm_cg hu wMm57 (fun _ => rfl) rfl rfl] at hx
      obtain ⟨τ, ht, hut, hrt⟩ := hx
      have hu2 := ux_tr hu hut
      have hrt : mrelM n τ (itr (prm σ 57 n c) μ (i + 1)) := hrt
      have elit : bs (litf τ 1) n = scr σ (itr (prm σ 57 n c) μ (i + 1)) := by
        unfold scr
        rw [bs_ext (n := n) hn (fun l h1 h2 => ?_)]
        · refine bs_cong (fun l hl => ?_)
          unfold litf
          rw [(hrt.1 l (by omega)).1, (hrt.1 l (by omega)).2.1, hu2 101 6 rfl, hS.2.2.2.2.1.2, decide_eq_false i10, Bool.false_or]
        · have e : (itr (prm σ 57 n c) μ (i + 1)).1 l = 0 := (hokj.1 l h2).2.2 h1
          rw [e]; rfl
      refine wp_bindE ht (wp_bindE (lit_eq (n := n) (by rw [hu2 101 0 rfl]; exact hS.2.1.2.2.2.2) hn 1) (wp_gd (nI_in' (by omega) (by omega)) ?_))
      have e124 : g_i τ (nmM 23) (nI i).toNatClampNeg = g_i σ 80 i := by
        rw [nI_cl (by omega)]
        exact (hu2 124 i rfl).trans (hlog i (by omega))
      rw [elit, e124]
      refine wp_ite (fun hq => wp_some ⟨by omega, nI_1 i, hu2, Or.inl ⟨rfl, hrt, fun j hj => ?_⟩⟩) (fun hq => wp_some ⟨by omega, nI_1 i, hu2, Or.inr ⟨i, by omega, rfl, hq, hlo⟩⟩)
      by_cases hji : j = i
      · subst hji; exact hq
      · exact hlo j (by omega)
    · have hge : (0 : Int32) ≤ r := by
        rw [h2]
        show nI 0 ≤ nI j
        rw [nI_le' (by omega) (by omega)]; omega
      rw [if_pos hge]
      exact wp_some ⟨hu, Or.inr ⟨j, by omega, h2, h3, h4⟩⟩
def wJm : Nat → Nat → Bool := fun a k => a == 125 || wMm a k
theorem mjudge {n m c C : Nat} {σ : jS} (hC : C ≤ 40) (h47 : g_i σ 101 47 = nI C) (hlog : ∀ k, k < C → g_i σ 124 k = g_i σ 80 k) (hS : RSite n m σ) (hN : RNow n σ) (hg : SongOk m c σ) (hc10 : g_i σ 101 10 = nI c) (hv : ∀ k, k < c → g_i σ 107 (3 * k) = g_i σ 50 k ∧ g_i σ 107 (3 * k + 1) = g_i σ 52 k ∧ g_i σ 107 (3 * k + 2) = g_i σ 54 k) : wp (f_X11_judge nmM σ) (fun x => JP (jq σ n c) C x.1 ∧ ux wJm σ x.2 ∧ (∀ l, l < 10 → g_i x.2 103 l = g_i σ 103 l ∧ g_i x.2 104 l = g_i σ 104 l ∧ g_i x.2 105 l = g_i σ 105 l) ∧ g_i x.2 101 14 = g_i σ 101 14 ∧ g_i x.2 101 17 = g_i σ 101 17) := by
  unfold f_X11_judge
  obtain ⟨s4, ht4, hu4, hv4⟩ := msave σ
  refine wp_bindE ht4 (wp_gd (nI_in' (n := 30) (by omega) (by omega)) (wp_bd (fun s5 h5 => wp_gd (nI_in' (n := 31) (by omega) (by omega)) (wp_bd (fun s6 h6 => ?_)))))
  have q5 : s5 = s_i s4 125 30 (g_i σ 101 14) := h5.trans (congrArg (s_i s4 125 30) (hu4 101 14 rfl))
  have q6 : s6 = s_i s5 125 31 (g_i σ 101 17) := h6.trans (congrArg (s_i s5 125 31) (by rw [q5]; exact hu4 101 17 rfl))
  have hu6 : ux w125 σ s6 := by rw [q6, q5]; exact ux_s (ux_s hu4 rfl) rfl
  have k30 : g_i s6 125 30 = g_i σ 101 14 := by rw [q6, s_i_k (by decide), q5, s_i_eq]
  have k31 : g_i s6 125 31 = g_i σ 101 17 := by rw [q6, s_i_eq]
  have klo : ∀ k, k < 30 → g_i s6 125 k = g_i s4 125 k := fun k hk => by rw [q6, s_i_k (by omega), q5, s_i_k (by omega)]
  have h57 : ∀ a k, a < 57 → w125 a k = false := fun a k h => by simp [w125]; omega
  have hS6 : RSite n m s6 := RSite.cg hu6 (okS_ux h57 (fun _ => rfl) (fun _ _ => rfl)) (fun l _ => ⟨rfl, rfl, rfl⟩) hS
  have hr6 : mrelM n s6 (muX σ 57) := by
    obtain ⟨k1, k2, k3⟩ := mrelM_mu hN
    exact ⟨fun l hl => by rw [hu6 103 l rfl, hu6 104 l rfl, hu6 105 l rfl]; exact k1 l hl, (hu6 101 14 rfl).trans k2, (hu6 101 17 rfl).trans k3⟩
  have key := mjudge_lp (n := n) (m := m) (c := c) (C := C) (σ := s6) (μ := muX σ 57) hC ((hu6 101 47 rfl).trans h47) (fun k hk => by rw [hu6 124 k rfl, hu6 80 k rfl]; exact hlog k hk) hS6 (RNt.cg hu6 (fun _ => rfl) (fun _ => rfl) rfl rfl hN.nt) (SongOk.cg hu6 h57 hg) ((hu6 101 10 rfl).trans hc10) (fun k hk => by rw [hu6 107 _ rfl, hu6 107 _ rfl, hu6 107 _ rfl, hu6 50 k rfl, hu6 52 k rfl, hu6 54 k rfl]; exact hv k hk) hr6 (by rw [hu6 57 7 rfl]; exact hN.1.2.2.2.1) (by rw [hu6 101 16 rfl, hu6 57 7 rfl]; exact hN.2.2.2.2.2.1) (Mok_mu hN.1)
  rw [prm_cg hu6 h57 (fun _ => rfl) rfl rfl] at key
  obtain ⟨⟨r, s10⟩, ht10, hu10, hj⟩ := key
  have hu10 : ux wMm s6 s10 := hu10
  have hj : JP (fun i => nI (scr s6 (itr (prm σ 57 n c) (muX σ 57) (i + 1))) = g_i s6 80 i) C r := hj
  have es : ∀ μ : Mo, scr s6 μ = scr σ μ := fun μ => by
    unfold scr
    rw [hu6 31 9 rfl]
  have hjq : (fun i => nI (scr s6 (itr (prm σ 57 n c) (muX σ 57) (i + 1))) = g_i s6 80 i) = jq σ n c := by
    funext i
    unfold jq
    rw [es, hu6 80 i rfl]
  rw [hjq] at hj
  refine wp_bindE ht10 ?_
  show wp (f_X11_judge_J124 nmM r s10) _
  refine wp_mono (mback s10) ?_
  rintro ⟨r', τ⟩ ⟨hr', hut, hvt, t14, t17⟩
  have hr' : r' = r := hr'
  subst hr'
  have k10 : ∀ k, g_i s10 125 k = g_i s6 125 k := fun k => hu10 125 k rfl
  refine ⟨hj, ?_, fun l hl => ?_, ?_, ?_⟩
  · intro a k h
    have h' : w125 a k = false ∧ wMm a k = false := Bool.or_eq_false_iff.mp h
    exact (hut a k h'.2).trans ((hu10 a k h'.2).trans (hu6 a k h'.1))
  · have e := hvt l hl
    rw [k10, k10, k10, klo l (by omega), klo (10 + l) (by omega), klo (20 + l) (by omega), (hv4 l hl).1, (hv4 l hl).2.1, (hv4 l hl).2.2] at e
    exact e
  · exact t14.trans ((k10 30).trans k30)
  · exact t17.trans ((k10 31).trans k31)
