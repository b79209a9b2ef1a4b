/-! judge: the log against what will be seen -/
def scr (σ : jS) (μ : Mo) : Nat := bs (fun l => decide (0 < (μ.1 l).toInt) && decide ((μ.2.1 l).toInt < (g_i σ 31 9).toInt)) 10
def jq (σ : jS) (n c i : Nat) : Prop := nI (scr σ (itr (prm σ 57 n c) (muX σ 57) (i + 1))) = g_i σ 80 i
def JP (E : Nat → Prop) (C : Nat) (r : Int32) : Prop := (r = -1 ∧ ∀ j, j < C → E j) ∨ ∃ j, j < C ∧ r = nI j ∧ ¬ E j ∧ ∀ k, k < j → E k
theorem JP_one {E : Nat → Prop} {C : Nat} {r r' : Int32} (h : JP E C r) (h' : JP E C r') : r = r' := by
  rcases h with ⟨h1, h2⟩ | ⟨j, hj, h1, h2, h3⟩
  · rcases h' with ⟨g1, g2⟩ | ⟨i, hi, g1, g2, g3⟩
    · rw [h1, g1]
    · exact absurd (h2 i hi) g2
  · rcases h' with ⟨g1, g2⟩ | ⟨i, hi, g1, g2, g3⟩
    · exact absurd (g2 j hj) h2
    · rcases Nat.lt_trichotomy i j with q | q | q
      · exact absurd (h3 i q) g2
      · rw [h1, g1, q]
      · exact absurd (g3 j q) h2
theorem prm62 {σ s1 : jS} {n c : Nat} (hn : n ≤ 10) (hu : ux (wCp 62) σ s1) (hv : ∀ l, l < 10 → g_i s1 63 l = g_i σ 58 l) (h6 : g_i s1 62 6 = g_i σ 57 6) (h7 : g_i s1 62 7 = g_i σ 57 7) : prm s1 62 n c = prm σ 57 n c := by
  have h : ∀ a k, a < 57 → wCp 62 a k = false := fun a k h => by simp [wCp]; omega
  have eb : ∀ p nt lo : Int, bs (hd s1 62 p nt lo) n = bs (hd σ 57 p nt lo) n := fun p nt lo => bs_cong (fun l hl => by
    unfold hd
    rw [show g_i s1 (62 + 1) l = g_i σ (57 + 1) l from hv l (by omega), h6, hu 39 l (h 39 l (by omega)), hu 37 l (h 37 l (by omega)), hu 33 l (h 33 l (by omega))])
  have e50 : g_i s1 50 = g_i σ 50 := funext (fun k => hu 50 k (h 50 k (by omega)))
  have e52 : g_i s1 52 = g_i σ 52 := funext (fun k => hu 52 k (h 52 k (by omega)))
  have e8 := hu 31 8 (h 31 8 (by omega))
  have es : sSet s1 62 n = sSet σ 57 n := by
    funext k
    unfold sSet sgr
    rw [hu 52 k (h 52 k (by omega)), hu 41 _ (h 41 _ (by omega)), hu 54 k (h 54 k (by omega)), hu 43 _ (h 43 _ (by omega))]
    exact eb _ _ _
  have ew : wSet s1 62 n = wSet σ 57 n := by
    funext x y
    unfold wSet
    rw [h7]
    exact eb _ _ _
  unfold prm
  rw [e50, e52, h7, e8, es, ew]
theorem songT : songNm (jn nmX [62, 31, 32, 33, 34, 35, 36, 37, 38, 39, 40, 41, 42, 43, 44, 45, 46, 47, 63, 64, 65, 66, 48, 49, 50, 51, 52, 53, 54]) := ⟨rfl, rfl, rfl, rfl, rfl, rfl, rfl, rfl, rfl, rfl⟩
theorem momT7 : momNm (jn nmX [62, 31, 32, 33, 34, 35, 36, 37, 38, 39, 40, 41, 42, 43, 44, 45, 46, 47, 63, 64, 65, 66, 48, 49, 50, 51, 52, 53, 54]) 62 := ⟨⟨rfl, rfl, rfl, rfl, rfl, rfl, rfl, rfl⟩, rfl, rfl, rfl, rfl⟩
theorem xjudge_lp {n m c C : Nat} {σ s1 : jS} {μ : Mo} (hC : C ≤ 40) (h79 : g_i s1 79 1 = nI C) (hs : SoundOk s1 62 n) (hg : SongOk m c s1) (hw : rg (g_i s1 62 7) 0 50) (hb : rg (g_i s1 31 8) 0 99) (hok : Mok n μ) (hr : mrel 62 s1 μ) : wp (lp (f_X10_judge_L13 nmX) fu (0, s1)) (fun x => match x with
    | .inl τ => ux (wMi 62) s1 τ ∧ ∀ j, j < C → nI (scr s1 (itr (prm s1 62 n c) μ (j + 1))) = g_i s1 80 j
    | .inr (r, τ) => ux (wMi 62) s1 τ ∧ ∃ j, j < C ∧ r = nI j ∧ ¬ nI (scr s1 (itr (prm s1 62 n c) μ (j + 1))) = g_i s1 80 j ∧ ∀ k, k < j → nI (scr s1 (itr (prm s1 62 n c) μ (k + 1))) = g_i s1 80 k) := by
  refine wp_up C (fun i s => s.1 = nI i ∧ ux (wMi 62) s1 s.2 ∧ mrel 62 s.2 (itr (prm s1 62 n c) μ i) ∧ ∀ j, j < i → nI (scr s1 (itr (prm s1 62 n c) μ (j + 1))) = g_i s1 80 j) (i := 0) (by omega) (by omega) ⟨rfl, ux_refl _ _, hr, fun l hl => absurd hl (Nat.not_lt_zero l)⟩ ?_
  rintro i ⟨v, υ⟩ hi ⟨hv, hu, hru, hlo⟩
  have hv : v = nI i := hv
  subst hv
  have hu : ux (wMi 62) s1 υ := hu
  have hru : mrel 62 υ (itr (prm s1 62 n c) μ i) := hru
  unfold f_X10_judge_L13
  have e79 : f_X4_size (jn nmX [79, 80]) 40 υ = some (nI C) := by
    show some (g_i υ 79 1) = _
    rw [hu 79 1 rfl, h79]
  refine wp_bindE e79 ?_
  refine wp_ite (fun hc => ?_) (fun hc => ?_)
  · rw [nI_le' (by omega) (by omega)] at hc
    exact wp_some ⟨hu, fun j hj => hlo j (by omega)⟩
  · rw [nI_le' (by omega) (by omega)] at hc
    have h57 := wMi57 (b := 62) (by omega)
    have hx := xminute (n := n) (m := m) (c := c) momT7 songT (by omega) (SoundOk.cg hu (fun _ => rfl) (fun k => h57 39 k (by omega)) rfl (fun k => h57 37 k (by omega)) (fun k => h57 33 k (by omega)) (h57 32 1 (by omega)) (h57 36 1 (by omega)) (h57 38 1 (by omega)) hs) (SongOk.cg hu h57 hg) hru (by rw [hu 62 7 rfl]; exact hw) (itr_ok hb hok i).2
    rw [prm_cg hu h57 (fun _ => rfl) rfl rfl] at hx
    obtain ⟨τ, ht, hut, hrt⟩ := hx
    have hu2 := ux_tr hu hut
    have hrt : mrel 62 τ (itr (prm s1 62 n c) μ (i + 1)) := hrt
    have eseen : bs (seenf τ 62) 10 = scr s1 (itr (prm s1 62 n c) μ (i + 1)) := bs_cong (fun l hl => by
      unfold seenf
      rw [(hrt.1 l hl).1, (hrt.1 l hl).2.1, hu2 31 9 rfl])
    have e80 : f_X4_at (jn nmX [79, 80]) 40 (nI i) τ = some (g_i s1 80 i) := by
      rw [row_atI (n := C) (show g_i τ 79 1 = nI C by rw [hu2 79 1 rfl, h79]) hC (by omega) (by omega)]
      exact congrArg some (hu2 80 i rfl)
    refine wp_bindE ht (wp_bindE (seen_eq momT τ) (wp_bindE e80 ?_))
    rw [eseen]
    refine wp_ite (fun hq => wp_some ⟨by omega, nI_1 i, hu2, hrt, fun j hj => ?_⟩) (fun hq => wp_some ⟨hu2, i, by omega, rfl, hq, hlo⟩)
    by_cases hji : j = i
    · subst hji; exact hq
    · exact hlo j (by omega)
theorem xjudge {n m c C : Nat} {σ : jS} (hC : C ≤ 40) (h79 : g_i σ 79 1 = nI C) (hS : RSite n m σ) (hM : RMom n 57 σ) (hg : SongOk m c σ) : wp (f_X10_judge nmX σ) (fun x => JP (jq σ n c) C x.1 ∧ ux (wCp 62) σ x.2) := by
  have hn := hS.1.1
  obtain ⟨s1, ht, hu, hv, v5, v6, v7, v8⟩ := copy_c (nm := jn nmX [62, 31, 32, 33, 34, 35, 36, 37, 38, 39, 40, 41, 42, 43, 44, 45, 46, 47, 63, 64, 65, 66, 57, 31, 32, 33, 34, 35, 36, 37, 38, 39, 40, 41, 42, 43, 44, 45, 46, 47, 58, 59, 60, 61]) (b := 62) (e := 57) (by omega) rfl rfl rfl rfl rfl rfl rfl rfl rfl rfl σ
  have h57 : ∀ a k, a < 57 → wCp 62 a k = false := fun a k h => by simp [wCp]; omega
  have hb : rg (g_i σ 31 8) 0 99 := ⟨by have := hS.2.2.2.1.1.1; omega, hS.2.2.2.1.1.2⟩
  have hS1 : RSite n m s1 := RSite.cg hu (okS_ux h57 (fun _ => rfl) (fun _ _ => rfl)) (fun l _ => ⟨rfl, rfl, rfl⟩) hS
  have hM1 : RMom n 62 s1 := by
    obtain ⟨m1, m2, m3, m4, m5⟩ := hM
    refine ⟨fun l hl => ?_, fun l hl => ?_, ?_, ?_, ?_⟩
    · rw [(hv l (by omega)).1]; exact m1 l hl
    · rw [(hv l hl).2.1, (hv l hl).2.2.1]; exact m2 l hl
    · rw [v6]; exact m3
    · rw [v7]; exact m4
    · rw [v8]; exact m5
  have hp := prm62 (c := c) hn hu (fun l hl => (hv l hl).1) v6 v7
  have hr : mrel 62 s1 (muX σ 57) := ⟨fun l hl => ⟨(hv l hl).2.1, (hv l hl).2.2.1, (hv l hl).2.2.2⟩, v5, v8⟩
  have key := xjudge_lp (n := n) (m := m) (c := c) (C := C) (s1 := s1) (σ := σ) hC (by rw [hu 79 1 rfl]; exact h79) (sok hS1 hM1) (SongOk.cg hu h57 hg) hM1.2.2.2.1 (by rw [hu 31 8 rfl]; exact hb) (Mok_mu hM) hr
  rw [hp] at key
  have es : ∀ μ : Mo, scr s1 μ = scr σ μ := fun μ => by
    unfold scr
    rw [hu 31 9 rfl]
  have e80 : ∀ j, g_i s1 80 j = g_i σ 80 j := fun j => hu 80 j rfl
  have hww : ∀ τ, ux (wMi 62) s1 τ → ux (wCp 62) σ τ := fun τ h => ux_tr hu (ux_w h (fun a k h => by simp [wMi, wCp] at h ⊢; omega))
  unfold f_X10_judge
  refine wp_bindE ht (wp_bind (wp_mono key ?_))
  intro x hx
  match x, hx with
  | .inl τ, hx =>
    have hx : ux (wMi 62) s1 τ ∧ ∀ j, j < C → nI (scr s1 (itr (prm σ 57 n c) (muX σ 57) (j + 1))) = g_i s1 80 j := hx
    refine wp_some ⟨Or.inl ⟨rfl, fun j hj => ?_⟩, hww _ hx.1⟩
    have := hx.2 j hj
    rw [es, e80] at this
    exact this
  | .inr (r, τ), hx =>
    have hx : ux (wMi 62) s1 τ ∧ ∃ j, j < C ∧ r = nI j ∧ ¬ nI (scr s1 (itr (prm σ 57 n c) (muX σ 57) (j + 1))) = g_i s1 80 j ∧ ∀ k, k < j → nI (scr s1 (itr (prm σ 57 n c) (muX σ 57) (k + 1))) = g_i s1 80 k := hx
    obtain ⟨h1, j, hj, h2, h3, h4⟩ := hx
    refine wp_some ⟨Or.inr ⟨j, hj, h2, ?_, fun k hk => ?_⟩, hww _ h1⟩
    · rw [es, e80] at h3; exact h3
    · have := h4 k hk
      rw [es, e80] at this; exact this
