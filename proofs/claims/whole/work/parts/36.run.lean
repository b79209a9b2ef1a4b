def itr (f : Mo → Mo) (μ : Mo) : Nat → Mo
  | 0 => μ
  | k + 1 => f (itr f μ k)
def Mok (n : Nat) (μ : Mo) : Prop := (∀ l, l < 10 → rg (μ.1 l) 0 99 ∧ rg (μ.2.1 l) 0 99 ∧ (n ≤ l → μ.1 l = 0)) ∧ 0 ≤ μ.2.2.2.2.toInt
theorem brl_rg {x : Int32} (h : rg x 0 99) : rg (brl x) 0 99 := by
  unfold brl
  split
  · exact h
  · rename_i hc
    have hc := mt le0.mpr hc
    obtain ⟨h1, h2⟩ := h
    have e : (x - 1).toInt = x.toInt - 1 := ti_sub (by rw [tl1]; omega) (by rw [tl1]; omega)
    unfold rg; rw [e]; omega
theorem tl99 : (99 : Int32).toInt = 99 := by decide
theorem brm_rg {x y : Int32} (h : rg y 0 99) : rg (brm x y) 0 99 := by
  unfold brm
  split
  · exact h
  · split
    · exact h
    · rename_i hc
      have hc := mt Int32.le_iff_toInt_le.mpr hc
      rw [tl99] at hc
      obtain ⟨h1, h2⟩ := h
      have e : (y + 1).toInt = y.toInt + 1 := ti_add (by rw [tl1]; omega) (by rw [tl1]; omega)
      unfold rg; rw [e]; omega
theorem lgt_ok {n S : Nat} {bu who : Int32} {μ : Mo} (hS : ∀ l, n ≤ l → S.testBit l = false) (hb : rg bu 0 99) (h : Mok n μ) : Mok n (lgt S bu who μ) := by
  refine ⟨fun l hl => ⟨?_, (h.1 l hl).2.1, fun hn => ?_⟩, h.2⟩
  · show rg (if S.testBit l then bu else μ.1 l) 0 99
    cases S.testBit l with
    | true => exact hb
    | false => exact (h.1 l hl).1
  · show (if S.testBit l then bu else μ.1 l) = 0
    rw [hS l hn, if_neg (by decide)]; exact (h.1 l hl).2.2 hn
theorem sgs_ok {n : Nat} {mi : Nat → Int32} {S : Nat → Nat} {who : Nat → Int32} {bu : Int32} {μ : Mo} (hS : ∀ k l, n ≤ l → (S k).testBit l = false) (hb : rg bu 0 99) (h : Mok n μ) : ∀ k, Mok n (sgs mi S who bu μ k)
  | 0 => h
  | k + 1 => by
    unfold sgs
    split
    · exact lgt_ok (hS k) hb (sgs_ok hS hb h k)
    · exact sgs_ok hS hb h k
theorem mst_ok {n c : Nat} {mi : Nat → Int32} {S : Nat → Nat} {who : Nat → Int32} {w : Int32} {Sw : Int32 → Int32 → Nat} {bu : Int32} {μ : Mo} (hS : ∀ k l, n ≤ l → (S k).testBit l = false) (hW : ∀ x y l, n ≤ l → (Sw x y).testBit l = false) (hb : rg bu 0 99) (h : Mok n μ) : Mok n (mst c mi S who w Sw bu μ) := by
  have h1 := sgs_ok (mi := mi) (who := who) hS hb h c
  have h2 : Mok n (wnd w Sw bu (sgs mi S who bu μ c)) := by
    unfold wnd
    split
    · exact h1
    · refine lgt_ok (fun l hl => hW _ _ l hl) hb ⟨h1.1, (dr_rgs h1.2).2.2⟩
  refine ⟨fun l hl => ?_, h2.2⟩
  obtain ⟨a1, a2, a3⟩ := h2.1 l hl
  refine ⟨brl_rg a1, brm_rg a2, fun hn => ?_⟩
  show brl ((wnd w Sw bu (sgs mi S who bu μ c)).1 l) = 0
  rw [a3 hn]; rfl
theorem prm_ok {σ : jS} {b n c : Nat} {μ : Mo} (hb : rg (g_i σ 31 8) 0 99) (h : Mok n μ) : Mok n (prm σ b n c μ) := mst_ok (fun k l hl => bs_hi hl) (fun x y l hl => bs_hi hl) hb h
theorem itr_ok {σ : jS} {b n c : Nat} {μ : Mo} (hb : rg (g_i σ 31 8) 0 99) (h : Mok n μ) : ∀ k, Mok n (itr (prm σ b n c) μ k)
  | 0 => h
  | k + 1 => prm_ok hb (itr_ok hb h k)
theorem prm_cg {W : Nat → Nat → Bool} {σ τ : jS} {b n c : Nat} (hu : ux W σ τ) (h : ∀ a k, a < 57 → W a k = false) (h1 : ∀ k, W (b + 1) k = false) (h2 : W b 6 = false) (h3 : W b 7 = false) : prm τ b n c = prm σ b n c := by
  have e50 : g_i τ 50 = g_i σ 50 := funext (fun k => hu 50 k (h 50 k (by omega)))
  have e52 : g_i τ 52 = g_i σ 52 := funext (fun k => hu 52 k (h 52 k (by omega)))
  have e7 := hu b 7 h3
  have e8 := hu 31 8 (h 31 8 (by omega))
  have es : sSet τ b n = sSet σ b n := by
    funext k
    unfold sSet sgr
    rw [hu 52 k (h 52 k (by omega)), hu 41 _ (h 41 _ (by omega)), hu 54 k (h 54 k (by omega)), hu 43 _ (h 43 _ (by omega))]
    exact hd_ux hu h1 (fun k => h 39 k (by omega)) h2 (fun k => h 37 k (by omega)) (fun k => h 33 k (by omega))
  have ew : wSet τ b n = wSet σ b n := by
    funext x y
    unfold wSet
    rw [e7]
    exact hd_ux hu h1 (fun k => h 39 k (by omega)) h2 (fun k => h 37 k (by omega)) (fun k => h 33 k (by omega))
  unfold prm
  rw [e50, e52, e7, e8, es, ew]
theorem SongOk.cg {W : Nat → Nat → Bool} {σ τ : jS} {m c : Nat} (hu : ux W σ τ) (h : ∀ a k, a < 57 → W a k = false) (hg : SongOk m c σ) : SongOk m c τ := by
  obtain ⟨a, ⟨z1, z2, z3, z4, z5⟩, hk, hs⟩ := hg
  refine ⟨a, ⟨(hu 49 1 (h 49 1 (by omega))).trans z1, (hu 51 1 (h 51 1 (by omega))).trans z2, (hu 53 1 (h 53 1 (by omega))).trans z3, (hu 40 1 (h 40 1 (by omega))).trans z4, (hu 42 1 (h 42 1 (by omega))).trans z5⟩, fun k hkc => ?_, fun s hsm => ?_⟩
  · rw [hu 52 k (h 52 k (by omega)), hu 54 k (h 54 k (by omega))]; exact hk k hkc
  · rw [hu 41 s (h 41 s (by omega)), hu 43 s (h 43 s (by omega))]; exact hs s hsm
theorem wMi57 {b : Nat} (hb : 56 < b ∧ b < 63) : ∀ a k, a < 57 → wMi b a k = false := fun a k h => by simp [wMi]; omega
theorem wMm57 : ∀ a k, a < 57 → wMm a k = false := fun a k h => by simp [wMm]; omega
theorem songX : songNm (jn nmX [57, 31, 32, 33, 34, 35, 36, 37, 38, 39, 40, 41, 42, 43, 44, 45, 46, 47, 58, 59, 60, 61, 48, 49, 50, 51, 52, 53, 54]) := ⟨rfl, rfl, rfl, rfl, rfl, rfl, rfl, rfl, rfl, rfl⟩
theorem momX7 : momNm (jn nmX [57, 31, 32, 33, 34, 35, 36, 37, 38, 39, 40, 41, 42, 43, 44, 45, 46, 47, 58, 59, 60, 61, 48, 49, 50, 51, 52, 53, 54]) 57 := ⟨⟨rfl, rfl, rfl, rfl, rfl, rfl, rfl, rfl⟩, rfl, rfl, rfl, rfl⟩
theorem xrun {n m c N : Nat} {σ : jS} {μ : Mo} (hN : N ≤ 300) (hs : SoundOk σ 57 n) (hg : SongOk m c σ) (hr : mrel 57 σ μ) (hw : rg (g_i σ 57 7) 0 50) (hb : rg (g_i σ 31 8) 0 99) (hok : Mok n μ) : wp (lp (f_X10_run_L17 nmX (nI N)) fu (0, σ)) (fun τ => ux (wMi 57) σ τ ∧ mrel 57 τ (itr (prm σ 57 n c) μ N)) := by
  refine wp_up N (fun i s => s.1 = nI i ∧ ux (wMi 57) σ s.2 ∧ mrel 57 s.2 (itr (prm σ 57 n c) μ i)) (i := 0) (by omega) (by omega) ⟨rfl, ux_refl _ _, hr⟩ ?_
  rintro i ⟨v, υ⟩ hi ⟨hv, hu, hru⟩
  have hv : v = nI i := hv
  subst hv
  have hu : ux (wMi 57) σ υ := hu
  have hru : mrel 57 υ (itr (prm σ 57 n c) μ i) := hru
  unfold f_X10_run_L17
  show wp (if nI N ≤ nI i then _ else _) _
  refine wp_ite (fun hc => ?_) (fun hc => ?_)
  · rw [nI_le' (by omega) (by omega)] at hc
    have : i = N := by omega
    subst this
    exact wp_some ⟨hu, hru⟩
  · rw [nI_le' (by omega) (by omega)] at hc
    have h57 := wMi57 (b := 57) (by omega)
    have hx := xminute (n := n) (m := m) (c := c) momX7 songX (by omega) (SoundOk.cg hu (fun _ => rfl) (fun k => h57 39 k (by omega)) rfl (fun k => h57 37 k (by omega)) (fun k => h57 33 k (by omega)) (h57 32 1 (by omega)) (h57 36 1 (by omega)) (h57 38 1 (by omega)) hs) (SongOk.cg hu h57 hg) hru (by rw [hu 57 7 rfl]; exact hw) (itr_ok hb hok i).2
    rw [prm_cg hu h57 (fun _ => rfl) rfl rfl] at hx
    obtain ⟨τ, ht, hut, hrt⟩ := hx
    refine wp_bindE ht (wp_some ⟨by omega, nI_1 i, ux_tr hu hut, hrt⟩)
theorem mrun {n m c N : Nat} {σ : jS} {μ : Mo} (hN : N ≤ 300) (hS : RSite n m σ) (hNt : RNt n σ) (hg : SongOk m c σ) (hc10 : g_i σ 101 10 = nI c) (hv : ∀ k, k < c → g_i σ 107 (3 * k) = g_i σ 50 k ∧ g_i σ 107 (3 * k + 1) = g_i σ 52 k ∧ g_i σ 107 (3 * k + 2) = g_i σ 54 k) (hr : mrelM n σ μ) (hw : rg (g_i σ 57 7) 0 50) (hw2 : g_i σ 101 16 = g_i σ 57 7) (hok : Mok n μ) : wp (lp (f_X11_run_L18 nmM (nI N)) fu (0, σ)) (fun τ => ux wMm σ τ ∧ mrelM n τ (itr (prm σ 57 n c) μ N)) := by
  have hb : rg (g_i σ 31 8) 0 99 := ⟨by have := hS.2.2.2.1.1.1; omega, hS.2.2.2.1.1.2⟩
  refine wp_up N (fun i s => s.1 = nI i ∧ ux wMm σ s.2 ∧ mrelM n s.2 (itr (prm σ 57 n c) μ i)) (i := 0) (by omega) (by omega) ⟨rfl, ux_refl _ _, hr⟩ ?_
  rintro i ⟨v, υ⟩ hi ⟨hv2, hu, hru⟩
  have hv2 : v = nI i := hv2
  subst hv2
  have hu : ux wMm σ υ := hu
  have hru : mrelM n υ (itr (prm σ 57 n c) μ i) := hru
  unfold f_X11_run_L18
  show wp (if nI N ≤ nI i then _ else _) _
  refine wp_ite (fun hc => ?_) (fun hc => ?_)
  · rw [nI_le' (by omega) (by omega)] at hc
    have : i = N := by omega
    subst this
    exact wp_some ⟨hu, hru⟩
  · rw [nI_le' (by omega) (by omega)] at hc
    have hoki := itr_ok (σ := σ) (b := 57) (c := c) hb hok i
    have hx := mminute (n := n) (m := m) (c := c) (RSite.cg hu (okS_ux wMm57 (fun k => rfl) (fun k h => by simp [wMm]; omega)) (fun l _ => ⟨rfl, rfl, rfl⟩) hS) (RNt.cg hu (fun _ => rfl) (fun _ => rfl) rfl rfl hNt) (SongOk.cg hu wMm57 hg) ((hu 101 10 rfl).trans hc10) (fun k hk => by rw [hu 107 _ rfl, hu 107 _ rfl, hu 107 _ rfl, hu 50 k rfl, hu 52 k rfl, hu 54 k rfl]; exact hv k hk) hru (fun l h1 h2 => (hoki.1 l h2).2.2 h1) (by rw [hu 57 7 rfl]; exact hw) (by rw [hu 101 16 rfl, hu 57 7 rfl]; exact hw2) hoki.2
    rw [prm_cg hu wMm57 (fun _ => rfl) rfl rfl] at hx
    obtain ⟨τ, ht, hut, hrt⟩ := hx
    refine wp_bindE ht (wp_some ⟨by omega, nI_1 i, ux_tr hu hut, hrt⟩)
/-- what the moment is now -/
def muX (σ : jS) (b : Nat) : Mo := (g_i σ (b + 2), g_i σ (b + 3), g_i σ (b + 4), g_i σ b 5, g_i σ b 8)
theorem mrel_mu (σ : jS) (b : Nat) : mrel b σ (muX σ b) := ⟨fun _ _ => ⟨rfl, rfl, rfl⟩, rfl, rfl⟩
theorem mrelM_mu {n : Nat} {σ : jS} (h : RNow n σ) : mrelM n σ (muX σ 57) := ⟨fun l hl => h.2.2.1 l hl, h.2.2.2.1, h.2.2.2.2.2.2⟩
theorem Mok_mu {n b : Nat} {σ : jS} (h : RMom n b σ) : Mok n (muX σ b) := ⟨h.2.1, h.2.2.2.2⟩
theorem st_run (a : Int32) : sII Rel (fun σ => f_X10_run nmX a σ) (fun σ => f_X11_run nmM a σ) := by
  rintro σ ⟨n, m, hSi, hN, hSo, hD, hSg, hL, hI0, hI1, hT, hF, hTo⟩
  have tl300 : (300 : Int32).toInt = 300 := by decide
  by_cases ha : rg a 1 300
  · obtain ⟨N, hN3, rfl⟩ := rg_nI (x := a) (hi := 300) ⟨by have := ha.1; omega, ha.2⟩
    obtain ⟨c, hg, hc10, hv⟩ := SongOk.of hSi hSo
    have hb : rg (g_i σ 31 8) 0 99 := ⟨by have := hSi.2.2.2.1.1.1; omega, hSi.2.2.2.1.1.2⟩
    obtain ⟨τ1, ht1, hu1, hr1⟩ := xrun (N := N) hN3 (sok hSi hN.1) hg (mrel_mu σ 57) hN.1.2.2.2.1 hb (Mok_mu hN.1)
    have h57 := wMi57 (b := 57) (by omega)
    have hSi1 : RSite n m τ1 := RSite.cg hu1 (okS_ux h57 (fun _ => rfl) (fun _ _ => rfl)) (fun l _ => ⟨rfl, rfl, rfl⟩) hSi
    have hNt1 : RNt n τ1 := RNt.cg hu1 (fun _ => rfl) (fun _ => rfl) rfl rfl hN.nt
    have hrM : mrelM n τ1 (muX σ 57) := by
      obtain ⟨k1, k2, k3⟩ := mrelM_mu hN
      exact ⟨fun l hl => by rw [hu1 103 l rfl, hu1 104 l rfl, hu1 105 l rfl]; exact k1 l hl, (hu1 101 14 rfl).trans k2, (hu1 101 17 rfl).trans k3⟩
    obtain ⟨τ2, ht2, hu2, hr2⟩ := mrun (N := N) hN3 hSi1 hNt1 (SongOk.cg hu1 h57 hg) ((hu1 101 10 rfl).trans hc10) (fun k hk => by rw [hu1 107 _ rfl, hu1 107 _ rfl, hu1 107 _ rfl, hu1 50 k rfl, hu1 52 k rfl, hu1 54 k rfl]; exact hv k hk) hrM (by rw [hu1 57 7 rfl]; exact hN.1.2.2.2.1) (by rw [hu1 101 16 rfl, hu1 57 7 rfl]; exact hN.2.2.2.2.2.1) (Mok_mu hN.1)
    rw [prm_cg hu1 h57 (fun _ => rfl) rfl rfl] at hr2
    have hu := ux_trans hu1 hu2
    have hmok := itr_ok (σ := σ) (b := 57) (n := n) (c := c) hb (Mok_mu hN.1) N
    have hw57 : ∀ a k, a < 57 → (wMi 57 a k || wMm a k) = false := fun a k h => by rw [h57 a k h, wMm57 a k h]; rfl
    have hSi2 : RSite n m τ2 := RSite.cg hu (okS_ux hw57 (fun _ => rfl) (fun k h => by simp [wMm, wMi]; omega)) (fun l _ => ⟨rfl, rfl, rfl⟩) hSi
    have hN2 : RNow n τ2 := by
      obtain ⟨⟨m1, m2, m3, m4, m5⟩, n0, n1, n2, n3, n4, n5⟩ := hN
      have ex : ∀ l, l < 10 → g_i τ2 59 l = _ ∧ g_i τ2 60 l = _ ∧ g_i τ2 61 l = _ := fun l hl => ⟨(hu2 59 l rfl).trans (hr1.1 l hl).1, (hu2 60 l rfl).trans (hr1.1 l hl).2.1, (hu2 61 l rfl).trans (hr1.1 l hl).2.2⟩
      have e5 : g_i τ2 57 5 = _ := (hu2 57 5 rfl).trans hr1.2.1
      have e8 : g_i τ2 57 8 = _ := (hu2 57 8 rfl).trans hr1.2.2
      refine ⟨⟨fun l hl => ?_, fun l hl => ?_, ?_, ?_, ?_⟩, fun l hl => ?_, fun l hl => ?_, ?_, ?_, ?_, ?_⟩
      · show rg (g_i τ2 58 l) 0 63
        rw [hu 58 l rfl]; exact m1 l hl
      · show rg (g_i τ2 59 l) 0 99 ∧ rg (g_i τ2 60 l) 0 99 ∧ (n ≤ l → g_i τ2 59 l = 0)
        rw [(ex l hl).1, (ex l hl).2.1]; exact hmok.1 l hl
      · rw [hu 57 6 rfl]; exact m3
      · rw [hu 57 7 rfl]; exact m4
      · rw [e8]; exact hmok.2
      · rw [hu 102 _ rfl, hu 58 l rfl]; exact n0 l hl
      · rw [(ex l hl).1, (ex l hl).2.1, (ex l hl).2.2]; exact hr2.1 l hl
      · rw [e5]; exact hr2.2.1
      · rw [hu 101 15 rfl, hu 57 6 rfl]; exact n3
      · rw [hu 101 16 rfl, hu 57 7 rfl]; exact n4
      · rw [e8]; exact hr2.2.2
    refine ⟨nI (bs (fun l => decide (0 < (g_i τ1 (57 + 2) l).toInt)) 10), τ1, τ2, ?_, ?_, n, m, hSi2, hN2, ?_, ?_, ?_, ?_, ?_, ?_, ?_, ?_, ?_⟩
    · show f_X10_run nmX (nI N) σ = _
      unfold f_X10_run
      rw [within_yes (by rw [tl1]; exact ha.1) (by rw [tl300]; exact ha.2), bnd, if_neg i10, ht1, bnd, burning_eq momX]
      rfl
    · show f_X11_run nmM (nI N) τ1 = _
      unfold f_X11_run
      rw [in_yes (by rw [ti64]; exact ha.1) (by rw [ti64]; exact ha.2), bnd, if_neg i10, ht2, bnd, lit_eq hSi2.2.1.2.2.2.2 hSi2.1.1, bnd, ← burn_lit hSi2 hN2]
      have : (fun l => decide (0 < (g_i τ2 (57 + 2) l).toInt)) = (fun l => decide (0 < (g_i τ1 (57 + 2) l).toInt)) := by
        funext l
        rw [hu2 (57 + 2) l rfl]
      rw [this]
    · exact RSongs.cg hu ⟨fun _ => rfl, fun _ => rfl, fun _ => rfl, fun _ => rfl, fun _ => rfl, fun _ => rfl, fun _ => rfl, rfl⟩ hSo
    · exact RDays.cg hu ⟨fun _ => rfl, fun _ => rfl, fun _ => rfl, rfl⟩ hD
    · exact RSig.cg hu ⟨fun _ => rfl, fun _ => rfl, fun _ => rfl, rfl⟩ hSg
    · exact RLog.cg hu ⟨fun _ => rfl, fun _ => rfl, fun _ => rfl, rfl⟩ hL
    · exact RImg.cg hu ⟨fun _ => rfl, fun _ => rfl, fun _ => rfl, fun _ => rfl, fun _ => rfl, fun _ => rfl, fun _ => rfl⟩ hI0
    · exact RImg.cg hu ⟨fun _ => rfl, fun _ => rfl, fun _ => rfl, fun _ => rfl, fun _ => rfl, fun _ => rfl, fun _ => rfl⟩ hI1
    · exact RText.cg hu ⟨fun _ => rfl, fun _ => rfl, fun _ => rfl, rfl⟩ hT
    · exact RFault.cg hu ⟨rfl, rfl⟩ hF
    · exact RTour.cg hu ⟨fun _ => rfl, fun _ => rfl, fun _ => rfl, fun _ => rfl, fun _ => rfl, fun _ => rfl, fun _ => rfl, rfl, rfl⟩ hTo
  · refine ⟨-1002, σ, σ, ?_, ?_, n, m, hSi, hN, hSo, hD, hSg, hL, hI0, hI1, hT, hF, hTo⟩
    · show f_X10_run nmX a σ = _
      unfold f_X10_run
      rw [within_no (by rw [tl1, tl300]; exact ha), bnd, if_pos rfl]
    · show f_X11_run nmM a σ = _
      unfold f_X11_run
      rw [in_no (by rw [ti64]; exact ha), bnd, if_pos rfl]
