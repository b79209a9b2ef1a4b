theorem sgs_z {mi : Nat → Int32} {S : Nat → Nat} {who : Nat → Int32} {bu : Int32} {μ : Mo} {l : Nat} (hS : ∀ k, (S k).testBit l = false) (hz : μ.1 l = 0) : ∀ k, (sgs mi S who bu μ k).1 l = 0
  | 0 => hz
  | k + 1 => by
    unfold sgs
    split
    · show (if (S k).testBit l then bu else (sgs mi S who bu μ k).1 l) = 0
      rw [hS k, if_neg (by decide)]; exact sgs_z hS hz k
    · exact sgs_z hS hz k
theorem wnd_z {w : Int32} {Sw : Int32 → Int32 → Nat} {bu : Int32} {μ : Mo} {l : Nat} (hS : ∀ x y, (Sw x y).testBit l = false) (hz : μ.1 l = 0) : (wnd w Sw bu μ).1 l = 0 := by
  unfold wnd
  split
  · exact hz
  · show (if (Sw _ _).testBit l then bu else μ.1 l) = 0
    rw [hS, if_neg (by decide)]; exact hz
theorem mdraw50 {σ : jS} (hs : 0 ≤ (g_i σ 101 17).toInt) : f_X11_draw nmM 50 σ = some (drn (dr (g_i σ 101 17)) (nI 50), s_i σ 101 17 (dr (g_i σ 101 17))) := mdraw (n := 50) hs (by omega) (by omega)
theorem mdraw64 {σ : jS} (hs : 0 ≤ (g_i σ 101 17).toInt) : f_X11_draw nmM 64 σ = some (drn (dr (g_i σ 101 17)) (nI 64), s_i σ 101 17 (dr (g_i σ 101 17))) := mdraw (n := 64) hs (by omega) (by omega)
theorem mrelM_seed {n : Nat} {σ : jS} {μ : Mo} {v : Int32} (hr : mrelM n σ μ) : mrelM n (s_i σ 101 17 v) (μ.1, μ.2.1, μ.2.2.1, μ.2.2.2.1, v) := by
  refine ⟨fun l hl => ?_, ?_, s_i_eq _ _ _ _⟩
  · rw [s_i_a (show (103 : Nat) ≠ 101 by decide), s_i_a (show (104 : Nat) ≠ 101 by decide), s_i_a (show (105 : Nat) ≠ 101 by decide)]; exact hr.1 l hl
  · rw [s_i_k (show (14 : Nat) ≠ 17 by decide)]; exact hr.2.1
theorem mw_facts {n m : Nat} {σ s9 s13 : jS} {ν : Mo} {v1 v2 : Int32} (hu9m : ux wMm σ s9) (hr9 : mrelM n s9 ν) (hS : RSite n m σ) (hN : RNt n σ) (e : s_i (s_i s9 101 17 v1) 101 17 v2 = s13) : mrelM n s13 (ν.1, ν.2.1, ν.2.2.1, ν.2.2.2.1, v2) ∧ ux wMm σ s13 ∧ RSite n m s13 ∧ RNt n s13 := by
  subst e
  have hu13 : ux wMm σ (s_i (s_i s9 101 17 v1) 101 17 v2) := ux_s (ux_s hu9m rfl) rfl
  refine ⟨?_, hu13, RSite.cg hu13 (okS_ux (fun a k h => by simp [wMm]; omega) (fun k => rfl) (fun k h => by simp [wMm]; omega)) (fun l _ => ⟨rfl, rfl, rfl⟩) hS, RNt.cg hu13 (fun _ => rfl) (fun _ => rfl) rfl rfl hN⟩
  have h1 := mrelM_seed (v := v1) hr9
  have h2 := mrelM_seed (v := v2) h1
  exact h2
theorem wSo_wMm {a k : Nat} (h : wMm a k = false) : wSo a k = false := by
  simp [wMm] at h
  simp [wSo]
  omega
theorem wBm_wMm {a k : Nat} (h : wMm a k = false) : wBm a k = false := by
  simp [wMm] at h
  simp [wBm]
  omega
theorem mminute {n m c : Nat} {σ : jS} {μ : Mo} (hS : RSite n m σ) (hN : RNt n σ) (hg : SongOk m c σ) (hc10 : g_i σ 101 10 = nI c) (hv : ∀ k, k < c → g_i σ 107 (3 * k) = g_i σ 50 k ∧ g_i σ 107 (3 * k + 1) = g_i σ 52 k ∧ g_i σ 107 (3 * k + 2) = g_i σ 54 k) (hr : mrelM n σ μ) (hz : ∀ l, n ≤ l → l < 10 → μ.1 l = 0) (hw : rg (g_i σ 57 7) 0 50) (hw2 : g_i σ 101 16 = g_i σ 57 7) (hsd : 0 ≤ μ.2.2.2.2.toInt) : wp (f_X11_goOn nmM σ) (fun τ => ux wMm σ τ ∧ mrelM n τ (prm σ 57 n c μ)) := by
  unfold f_X11_goOn
  refine wp_bind (wp_mono (msongs hS hN hg hc10 hv hr) ?_)
  rintro s4 ⟨hu4, hr4⟩
  have hu4m : ux wMm σ s4 := ux_w hu4 (fun a k h => wSo_wMm h)
  have e16 : g_i s4 (nmM 0) 16 = g_i σ 57 7 := (hu4 101 16 rfl).trans hw2
  rw [e16]
  refine wp_bind (wp_mono (P := fun s16 => ux wMm σ s16 ∧ mrelM n s16 (wnd (g_i σ 57 7) (wSet σ 57 n) (g_i σ 31 8) (sgs (g_i σ 50) (sSet σ 57 n) (g_i σ 52) (g_i σ 31 8) μ c))) ?_ ?_)
  · generalize hν : sgs (g_i σ 50) (sSet σ 57 n) (g_i σ 52) (g_i σ 31 8) μ c = ν at hr4
    have hνs : ν.2.2.2.2 = μ.2.2.2.2 := by rw [← hν, sgs_min]
    refine wp_ite (fun c1 => ?_) (fun c1 => ?_)
    · refine wp_some ⟨hu4m, ?_⟩
      unfold wnd; rw [if_pos c1]; exact hr4
    · obtain ⟨r1, r2, r3⟩ := dr_rgs (x := ν.2.2.2.2) (by rw [hνs]; exact hsd)
      have e8 : g_i s4 101 17 = ν.2.2.2.2 := hr4.2.2
      have d1 := mdraw50 (σ := s4) (by rw [e8, hνs]; exact hsd)
      rw [e8] at d1
      obtain ⟨y, hy, ey⟩ := dr_pos (x := ν.2.2.2.2) (by rw [hνs]; exact hsd)
      have d2 := mdraw64 (σ := s_i s4 101 17 (dr ν.2.2.2.2)) (by rw [s_i_eq, ey, nI_ti hy]; omega)
      rw [s_i_eq] at d2
      obtain ⟨s13, hs13⟩ : ∃ s, s_i (s_i s4 101 17 (dr ν.2.2.2.2)) 101 17 (dr (dr ν.2.2.2.2)) = s := ⟨_, rfl⟩
      rw [hs13] at d2
      obtain ⟨hr13, hu13, hS', hN'⟩ := mw_facts hu4m hr4 hS hN hs13
      refine wp_bindE d1 ?_
      refine wp_bindE d2 ?_
      have e7 : g_i s13 (nmM 0) 16 = g_i σ 57 7 := (hu13 101 16 rfl).trans hw2
      have c1' := mt le0.mpr c1
      obtain ⟨⟨r, τ⟩, ht, -, hut, hvt⟩ := soundT (p := drn (dr ν.2.2.2.2) (nI 50)) (nt := drn (dr (dr ν.2.2.2.2)) (nI 64)) (lo := g_i σ 57 7) (who := -2) hS' hN' r1 r2 ⟨by omega, hw.2⟩
      rw [← e7] at ht
      refine wp_bindE ht (wp_some ⟨ux_tr hu13 (ux_w hut (fun a k h => wSo_wMm h)), ?_⟩)
      unfold wnd
      rw [if_neg c1]
      rw [hd_ux hu13 (fun _ => rfl) (fun _ => rfl) rfl (fun _ => rfl) (fun _ => rfl), hu13 101 5 rfl, hS.2.2.2.1.2] at hvt
      exact mrelM_lgt hr13 hut hvt
  · rintro s11 ⟨hu11, hr11⟩
    unfold f_X11_goOn_J108
    have h0 : g_i s11 101 0 = nI n := (hu11 101 0 rfl).trans hS.2.1.2.2.2.2
    refine wp_bind (wp_mono (mburn hS.1.1 h0 hr11 (fun l h1 h2 => wnd_z (fun x y => bs_hi h1) (sgs_z (fun k => bs_hi h1) (hz l h1 h2) c))) ?_)
    rintro s16 ⟨hu16, hv16⟩
    refine wp_bd (fun s17 h17 => wp_some ⟨?_, ?_⟩)
    · rw [h17]
      exact ux_s (ux_tr hu11 (ux_w hu16 (fun a k h => wBm_wMm h))) rfl
    · have e14 : g_i s16 (nmM 0) 14 = (wnd (g_i σ 57 7) (wSet σ 57 n) (g_i σ 31 8) (sgs (g_i σ 50) (sSet σ 57 n) (g_i σ 52) (g_i σ 31 8) μ c)).2.2.2.1 := (hu16 101 14 rfl).trans hr11.2.1
      rw [h17, e14]
      refine ⟨fun l hl => ?_, s_i_eq _ _ _ _, ?_⟩
      · show g_i (s_i s16 101 14 _) 103 l = _ ∧ g_i (s_i s16 101 14 _) 104 l = _ ∧ (l < n → g_i (s_i s16 101 14 _) 105 l = _)
        rw [s_i_a (show (103 : Nat) ≠ 101 by decide), s_i_a (show (104 : Nat) ≠ 101 by decide), s_i_a (show (105 : Nat) ≠ 101 by decide)]
        exact ⟨(hv16 l hl).1, (hv16 l hl).2, fun hln => (hu16 105 l rfl).trans ((hr11.1 l hl).2.2 hln)⟩
      · exact (s_i_k (show (17 : Nat) ≠ 14 by decide)).trans ((hu16 101 17 rfl).trans hr11.2.2)
