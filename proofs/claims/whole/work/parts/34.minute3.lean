theorem mrelM_lgt {S n : Nat} {bu who : Int32} {σ τ : jS} {μ : Mo} (hr : mrelM n σ μ) (hu : ux wSo σ τ) (hv : ∀ l, l < 10 → g_i τ 103 l = (if S.testBit l then bu else g_i σ 103 l) ∧ g_i τ 105 l = (if S.testBit l then who else g_i σ 105 l)) : mrelM n τ (lgt S bu who μ) := by
  refine ⟨fun l hl => ?_, ?_, ?_⟩
  · obtain ⟨h1, h2, h3⟩ := hr.1 l hl
    rw [(hv l hl).1, (hv l hl).2, hu 104 l rfl, h1, h2]
    exact ⟨rfl, rfl, fun hln => by rw [h3 hln]; rfl⟩
  · rw [hu 101 14 rfl]; exact hr.2.1
  · rw [hu 101 17 rfl]; exact hr.2.2
theorem okS_ux {W : Nat → Nat → Bool} (h : ∀ a k, a < 57 → W a k = false) (h1 : ∀ k, W 106 k = false) (h2 : ∀ k, k < 14 → W 101 k = false) : ok_RSite W := ⟨fun k => h 31 k (by omega), fun k => h 32 k (by omega), fun k => h 33 k (by omega), fun k => h 34 k (by omega), fun k => h 36 k (by omega), fun k => h 37 k (by omega), fun k => h 38 k (by omega), fun k => h 39 k (by omega), fun k => h 40 k (by omega), fun k => h 41 k (by omega), fun k => h 42 k (by omega), fun k => h 43 k (by omega), fun k => h 44 k (by omega), fun k => h 45 k (by omega), fun k => h 46 k (by omega), fun k => h 47 k (by omega), h1, h2 0 (by omega), h2 5 (by omega), h2 6 (by omega), h2 7 (by omega), h2 8 (by omega)⟩
theorem SongOk.of {n m : Nat} {σ : jS} (hS : RSite n m σ) (hG : RSongs m σ) : ∃ c, SongOk m c σ ∧ g_i σ 101 10 = nI c ∧ ∀ k, k < c → g_i σ 107 (3 * k) = g_i σ 50 k ∧ g_i σ 107 (3 * k + 1) = g_i σ 52 k ∧ g_i σ 107 (3 * k + 2) = g_i σ 54 k := by
  obtain ⟨c, hc, ⟨z1, z2, z3, z4⟩, hv⟩ := hG
  obtain ⟨r1, r2, -⟩ := hS.2.2.1
  exact ⟨c, ⟨⟨hS.1.2, hc⟩, ⟨z1, z2, z3, r1, r2⟩, fun k hk => ⟨(hv k hk).2.1.1, (hv k hk).2.2.1⟩, fun s hs => ⟨(hS.2.2.2.2.2.2.2 s hs).1.1, (hS.2.2.2.2.2.2.2 s hs).2.1.1⟩⟩, z4, fun k hk => ⟨(hv k hk).1, (hv k hk).2.1.2, (hv k hk).2.2.2⟩⟩
theorem nI_3 {l c N : Nat} (h : 3 * l + c < N) (hN : N < 100000) : vp_in (3 * nI l + nI c) N := by
  show vp_in (nI 3 * nI l + nI c) N
  rw [nI_mul, nI_add]; exact nI_in' h (by omega)
theorem nI_3c {l c : Nat} (h : 3 * l + c < 100000) : (3 * nI l + nI c).toNatClampNeg = 3 * l + c := by
  show (nI 3 * nI l + nI c).toNatClampNeg = _
  rw [nI_mul, nI_add, nI_cl (by omega)]
theorem nI_30 {l N : Nat} (h : 3 * l < N) (hN : N < 100000) : vp_in (3 * nI l) N := by
  show vp_in (nI 3 * nI l) N
  rw [nI_mul]; exact nI_in' h (by omega)
theorem nI_30c {l : Nat} (h : 3 * l < 100000) : (3 * nI l).toNatClampNeg = 3 * l := by
  show (nI 3 * nI l).toNatClampNeg = _
  rw [nI_mul, nI_cl (by omega)]
theorem msongs {n m c : Nat} {σ : jS} {μ : Mo} (hS : RSite n m σ) (hN : RNt n σ) (hg : SongOk m c σ) (hc10 : g_i σ 101 10 = nI c) (hv : ∀ k, k < c → g_i σ 107 (3 * k) = g_i σ 50 k ∧ g_i σ 107 (3 * k + 1) = g_i σ 52 k ∧ g_i σ 107 (3 * k + 2) = g_i σ 54 k) (hr : mrelM n σ μ) : wp (lp (f_X11_goOn_L2 nmM) fu (0, σ)) (fun τ => ux wSo σ τ ∧ mrelM n τ (sgs (g_i σ 50) (sSet σ 57 n) (g_i σ 52) (g_i σ 31 8) μ c)) := by
  refine wp_up c (fun i s => s.1 = nI i ∧ ux wSo σ s.2 ∧ mrelM n s.2 (sgs (g_i σ 50) (sSet σ 57 n) (g_i σ 52) (g_i σ 31 8) μ i)) (i := 0) (by have := hg.1.2; omega) (by omega) ⟨rfl, ux_refl _ _, hr⟩ ?_
  rintro i ⟨v, υ⟩ hi ⟨hv2, hu, hru⟩
  have hv2 : v = nI i := hv2
  subst hv2
  have hu : ux wSo σ υ := hu
  have hru : mrelM n υ (sgs (g_i σ 50) (sSet σ 57 n) (g_i σ 52) (g_i σ 31 8) μ i) := hru
  obtain ⟨⟨hm8, hc30⟩, -, hk, hsg⟩ := id hg
  unfold f_X11_goOn_L2
  have e10 : g_i υ (nmM 0) 10 = nI c := (hu 101 10 rfl).trans hc10
  show wp (if g_i υ (nmM 0) 10 ≤ nI i then _ else _) _
  rw [e10]
  refine wp_ite (fun hc => ?_) (fun hc => ?_)
  · rw [nI_le' (by omega) (by omega)] at hc
    have : i = c := by omega
    subst this
    exact wp_some ⟨hu, hru⟩
  · rw [nI_le' (by omega) (by omega)] at hc
    have hic : i < c := by omega
    obtain ⟨q1, q2, q3⟩ := hv i hic
    refine wp_gd (nI_30 (by omega) (by omega)) ?_
    rw [nI_30c (by omega)]
    have f0 : g_i υ (nmM 6) (3 * i) = g_i σ 50 i := (hu 107 (3 * i) rfl).trans q1
    have f1 : g_i υ (nmM 6) (3 * i + 1) = g_i σ 52 i := (hu 107 (3 * i + 1) rfl).trans q2
    have f2 : g_i υ (nmM 6) (3 * i + 2) = g_i σ 54 i := (hu 107 (3 * i + 2) rfl).trans q3
    have e14 : g_i υ (nmM 0) 14 = μ.2.2.2.1 := by rw [show g_i υ (nmM 0) 14 = _ from hru.2.1, sgs_min]
    rw [f0, e14]
    refine wp_ite (fun he => ?_) (fun he => ?_)
    · have hk52 := sgr_lt hg hic
      have g1 : vp_in (3 * nI i + 1) 90 := nI_3 (c := 1) (by omega) (by omega)
      have c1 : (3 * nI i + 1).toNatClampNeg = 3 * i + 1 := nI_3c (c := 1) (by omega)
      have g2 : vp_in (3 * nI i + 2) 90 := nI_3 (c := 2) (by omega) (by omega)
      have c2 : (3 * nI i + 2).toNatClampNeg = 3 * i + 2 := nI_3c (c := 2) (by omega)
      refine wp_gd g1 ?_
      rw [c1, f1, hk52.2]
      refine wp_bd (fun x hx => ?_)
      subst hx
      have g3 : vp_in (4 * nI (sgr σ i) + 1) 32 := nI_41 (c := 1) (by omega) (by omega)
      have c3 : (4 * nI (sgr σ i) + 1).toNatClampNeg = 4 * sgr σ i + 1 := nI_41c (c := 1) (by omega)
      refine wp_gd (nI_4 (by omega) (by omega)) (wp_gd g2 (wp_gd g3 ?_))
      obtain ⟨p1, p2, -⟩ := hS.2.2.2.2.2.2.2 (sgr σ i) hk52.1
      have f3 : g_i υ (nmM 5) (4 * sgr σ i) = g_i σ 41 (sgr σ i) := (hu 106 _ rfl).trans p1.2
      have f4 : g_i υ (nmM 5) (4 * sgr σ i + 1) = g_i σ 43 (sgr σ i) := (hu 106 _ rfl).trans p2.2
      rw [nI_4c (by omega), c2, c3, f2, f3, f4]
      have hSi' : RSite n m υ := RSite.cg hu (okS_ux (fun a k h => by simp [wSo]; omega) (fun k => rfl) (fun k _ => rfl)) (fun l _ => ⟨rfl, rfl, rfl⟩) hS
      have hNt' : RNt n υ := RNt.cg hu (fun _ => rfl) (fun _ => rfl) rfl rfl hN
      obtain ⟨⟨r, τ⟩, ht, -, hut, hvt⟩ := soundT (p := g_i σ 41 (sgr σ i)) (nt := g_i σ 54 i) (lo := g_i σ 43 (sgr σ i)) (who := nI (sgr σ i)) hSi' hNt' p1.1 (hk i hic).2 p2.1
      refine wp_bindE ht ?_
      refine wp_some ⟨hic, nI_1 i, ux_tr hu hut, ?_⟩
      show mrelM n τ (sgs (g_i σ 50) (sSet σ 57 n) (g_i σ 52) (g_i σ 31 8) μ (i + 1))
      unfold sgs
      rw [if_pos he, hk52.2]
      rw [hd_ux hu (fun _ => rfl) (fun _ => rfl) rfl (fun _ => rfl) (fun _ => rfl), hu 101 5 rfl, hS.2.2.2.1.2] at hvt
      exact mrelM_lgt hru hut hvt
    · refine wp_some ⟨hic, nI_1 i, hu, ?_⟩
      show mrelM n υ (sgs (g_i σ 50) (sSet σ 57 n) (g_i σ 52) (g_i σ 31 8) μ (i + 1))
      unfold sgs
      rw [if_neg he]; exact hru
theorem dr_rgs {x : Int32} (hx : 0 ≤ x.toInt) : rg (drn (dr x) (nI 50)) 0 49 ∧ rg (drn (dr (dr x)) (nI 64)) 0 63 ∧ 0 ≤ (dr (dr x)).toInt := by
  obtain ⟨x1, hx1, ex1⟩ := dr_pos hx
  obtain ⟨x2, hx2, ex2⟩ := dr_pos (x := dr x) (by rw [ex1, nI_ti hx1]; omega)
  obtain ⟨j1, hj1, ej1⟩ := drn_rg (d := x1) (n := 50) hx1 (by omega) (by omega)
  obtain ⟨j2, hj2, ej2⟩ := drn_rg (d := x2) (n := 64) hx2 (by omega) (by omega)
  refine ⟨?_, ?_, ?_⟩
  · rw [ex1, ej1]; exact nI_rg (by omega) (by omega) (by omega)
  · rw [ex2, ej2]; exact nI_rg (by omega) (by omega) (by omega)
  · rw [ex2, nI_ti hx2]; omega
theorem xdraw50 {nm : Nat → Nat} {b : Nat} {σ : jS} (hm : nm 0 = b) : f_X2_draw nm 50 σ = some (drn (dr (g_i σ b 8)) (nI 50), s_i σ b 8 (dr (g_i σ b 8))) := xdraw (n := 50) hm (by omega) (by omega)
theorem xdraw64 {nm : Nat → Nat} {b : Nat} {σ : jS} (hm : nm 0 = b) : f_X2_draw nm 64 σ = some (drn (dr (g_i σ b 8)) (nI 64), s_i σ b 8 (dr (g_i σ b 8))) := xdraw (n := 64) hm (by omega) (by omega)
/-! a minute, class side -/
theorem wLi_wMi {b a k : Nat} (h : wMi b a k = false) : wLi b a k = false := by
  simp [wMi] at h
  simp [wLi]
  omega
theorem mrel_seed {b : Nat} {σ : jS} {μ : Mo} {v : Int32} (hr : mrel b σ μ) : mrel b (s_i σ b 8 v) (μ.1, μ.2.1, μ.2.2.1, μ.2.2.2.1, v) := by
  refine ⟨fun l hl => ?_, ?_, s_i_eq _ _ _ _⟩
  · rw [s_i_a (show b + 2 ≠ b by omega), s_i_a (show b + 3 ≠ b by omega), s_i_a (show b + 4 ≠ b by omega)]; exact hr.1 l hl
  · rw [s_i_k (show (5 : Nat) ≠ 8 by decide)]; exact hr.2.1
theorem xw_facts {b n : Nat} {σ s9 s13 : jS} {ν : Mo} {v1 v2 : Int32} (hb : 56 < b ∧ b < 63) (hu9m : ux (wMi b) σ s9) (hr9 : mrel b s9 ν) (hs : SoundOk σ b n) (e : s_i (s_i s9 b 8 v1) b 8 v2 = s13) : mrel b s13 (ν.1, ν.2.1, ν.2.2.1, ν.2.2.2.1, v2) ∧ ux (wMi b) σ s13 ∧ SoundOk s13 b n := by
  subst e
  have hm39 : ∀ a k, a < 57 → wMi b a k = false := fun a k h => by simp [wMi]; omega
  have hu13 : ux (wMi b) σ (s_i (s_i s9 b 8 v1) b 8 v2) := ux_s (ux_s hu9m (by simp [wMi])) (by simp [wMi])
  refine ⟨?_, hu13, SoundOk.cg hu13 (fun k => by simp [wMi]) (fun k => hm39 39 k (by omega)) (by simp [wMi]) (fun k => hm39 37 k (by omega)) (fun k => hm39 33 k (by omega)) (hm39 32 1 (by omega)) (hm39 36 1 (by omega)) (hm39 38 1 (by omega)) hs⟩
  have h1 := mrel_seed (v := v1) hr9
  have h2 := mrel_seed (v := v2) h1
  exact h2
theorem xminute {nm : Nat → Nat} {b n m c : Nat} {σ : jS} {μ : Mo} (hm : momNm nm b) (hsn : songNm nm) (hb : 56 < b ∧ b < 63) (hs : SoundOk σ b n) (hg : SongOk m c σ) (hr : mrel b σ μ) (hw : rg (g_i σ b 7) 0 50) (hsd : 0 ≤ μ.2.2.2.2.toInt) : wp (f_X2_passMinute nm σ) (fun τ => ux (wMi b) σ τ ∧ mrel b τ (prm σ b n c μ)) := by
  unfold f_X2_passMinute
  refine wp_bind (wp_mono (xsongs hm hsn hb hs hg hr) ?_)
  rintro s9 ⟨hu9, hr9⟩
  have hw9 : ∀ a k, a < 59 → wMi b a k = true → a = b := by
    intro a k h h2
    simp [wMi] at h2
    omega
  have hl59 : ∀ a k, a < 59 → wLi b a k = false := fun a k h => by simp [wLi]; omega
  have hu9m : ux (wMi b) σ s9 := ux_w hu9 (fun a k h => wLi_wMi h)
  have e70 : g_i s9 (nm 0) 7 = g_i σ b 7 := by rw [hm.1.1]; exact hu9 b 7 (by simp [wLi])
  rw [e70]
  -- the wind
  refine wp_bind (wp_mono (P := fun s16 => ux (wMi b) σ s16 ∧ mrel b s16 (wnd (g_i σ b 7) (wSet σ b n) (g_i σ 31 8) (sgs (g_i σ 50) (sSet σ b n) (g_i σ 52) (g_i σ 31 8) μ c))) ?_ ?_)
  · generalize hν : sgs (g_i σ 50) (sSet σ b n) (g_i σ 52) (g_i σ 31 8) μ c = ν at hr9
    have hνs : ν.2.2.2.2 = μ.2.2.2.2 := by rw [← hν, sgs_min]
    refine wp_ite (fun c1 => ?_) (fun c1 => ?_)
    · refine wp_some ⟨hu9m, ?_⟩
      unfold wnd; rw [if_pos c1]; exact hr9
    · have e8 : g_i s9 b 8 = ν.2.2.2.2 := hr9.2.2
      have d1 := xdraw50 (nm := jn nm [0, 1, 2, 3, 4, 5, 6, 7, 8, 9, 10, 11, 12, 13, 14, 15, 16, 17, 18, 19, 20, 21]) (b := b) (σ := s9) hm.1.1
      rw [e8] at d1
      refine wp_bindE d1 ?_
      have d2 := xdraw64 (nm := jn nm [0, 1, 2, 3, 4, 5, 6, 7, 8, 9, 10, 11, 12, 13, 14, 15, 16, 17, 18, 19, 20, 21]) (b := b) (σ := s_i s9 b 8 (dr ν.2.2.2.2)) hm.1.1
      rw [s_i_eq] at d2
      obtain ⟨s13, hs13⟩ : ∃ s, s_i (s_i s9 b 8 (dr ν.2.2.2.2)) b 8 (dr (dr ν.2.2.2.2)) = s := ⟨_, rfl⟩
      rw [hs13] at d2
      refine wp_bindE d2 ?_
      obtain ⟨hr13, hu13, hs'⟩ := xw_facts hb hu9m hr9 hs hs13
      have hm39 : ∀ a k, a < 57 → wMi b a k = false := fun a k h => by simp [wMi]; omega
      obtain ⟨r1, r2, -⟩ := dr_rgs (x := ν.2.2.2.2) (by rw [hνs]; exact hsd)
      have e7 : g_i s13 (nm 0) 7 = g_i σ b 7 := by rw [hm.1.1]; exact hu13 b 7 (by simp [wMi])
      have c1' := mt le0.mpr c1
      have hwk := woken_eq (nm := jn nm [0, 1, 2, 3, 4, 5, 6, 7, 8, 9, 10, 11, 12, 13, 14, 15, 16, 17, 18, 19, 20, 21]) (lo := g_i σ b 7) hm hs' r1 r2 ⟨by omega, hw.2⟩
      rw [hd_ux hu13 (fun k => by simp [wMi]) (fun k => hm39 39 k (by omega)) (by simp [wMi]) (fun k => hm39 37 k (by omega)) (fun k => hm39 33 k (by omega))] at hwk
      have hwk2 : f_X2_woken (jn nm [0, 1, 2, 3, 4, 5, 6, 7, 8, 9, 10, 11, 12, 13, 14, 15, 16, 17, 18, 19, 20, 21]) (drn (dr ν.2.2.2.2) (nI 50)) (drn (dr (dr ν.2.2.2.2)) (nI 64)) (g_i s13 (nm 0) 7) s13 = some (nI (wSet σ b n (drn (dr ν.2.2.2.2) (nI 50)) (drn (dr (dr ν.2.2.2.2)) (nI 64)))) := by
        rw [e7]; exact hwk
      refine wp_bindE hwk2 ?_
      obtain ⟨τ, ht, hut, hvt⟩ := light_c (nm := jn nm [0, 1, 2, 3, 4, 5, 6, 7, 8, 9, 10, 11, 12, 13, 14, 15, 16, 17, 18, 19, 20, 21]) (b := b) (S := wSet σ b n (drn (dr ν.2.2.2.2) (nI 50)) (drn (dr (dr ν.2.2.2.2)) (nI 64))) (by_ := -2) hm (by omega) s13
      refine wp_bindE ht (wp_some ⟨ux_tr hu13 (ux_w hut (fun a k h => wLi_wMi h)), ?_⟩)
      unfold wnd
      rw [if_neg c1]
      rw [hu13 31 8 (hm39 31 8 (by omega))] at hvt
      exact mrel_lgt hr13 hut hvt
  · rintro s16 ⟨hu16, hr16⟩
    unfold f_X2_passMinute_J116
    refine wp_bind (wp_mono (xburn (nm := jn nm [0, 1, 2, 3, 4, 5, 6, 7, 8, 9, 10, 11, 12, 13, 14, 15, 16, 17, 18, 19, 20, 21]) hm hr16) ?_)
    rintro s17 ⟨hu17, hr17⟩
    refine wp_bd (fun s18 h18 => wp_some ⟨?_, ?_⟩)
    · rw [h18, hm.1.1]
      exact ux_s (ux_tr hu16 hu17) (by simp [wMi])
    · rw [h18, hm.1.1, hr17.2.1]
      refine ⟨fun l hl => ?_, s_i_eq _ _ _ _, ?_⟩
      · rw [s_i_a (show b + 2 ≠ b by omega), s_i_a (show b + 3 ≠ b by omega), s_i_a (show b + 4 ≠ b by omega)]; exact hr17.1 l hl
      · rw [s_i_k (show (8 : Nat) ≠ 5 by decide)]; exact hr17.2.2
