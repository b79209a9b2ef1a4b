theorem sub0 (x : Int32) : x - 0 = x := by simp
theorem add0 (x : Int32) : x + 0 = x := by simp
def wBm : Nat → Nat → Bool := fun a _ => a == 103 || a == 104
theorem mburn {n : Nat} {σ : jS} {μ : Mo} (hn : n ≤ 10) (h0 : g_i σ 101 0 = nI n) (hr : mrelM n σ μ) (hz : ∀ l, n ≤ l → l < 10 → μ.1 l = 0) : wp (lp (f_X11_goOn_L110 nmM) fu (0, σ)) (fun τ => ux wBm σ τ ∧ ∀ l, l < 10 → g_i τ 103 l = brl (μ.1 l) ∧ g_i τ 104 l = brm (brl (μ.1 l)) (μ.2.1 l)) := by
  refine wp_up n (fun i s => s.1 = nI i ∧ ux wBm σ s.2 ∧ (∀ l, l < i → g_i s.2 103 l = brl (μ.1 l) ∧ g_i s.2 104 l = brm (brl (μ.1 l)) (μ.2.1 l)) ∧ ∀ l, i ≤ l → l < 10 → g_i s.2 103 l = μ.1 l ∧ g_i s.2 104 l = μ.2.1 l) (i := 0) (by omega) (by omega) ⟨rfl, ux_refl _ _, fun l hl => absurd hl (Nat.not_lt_zero l), fun l _ hl => ⟨(hr.1 l hl).1, (hr.1 l hl).2.1⟩⟩ ?_
  rintro i ⟨v, υ⟩ hi ⟨hv, hu, hlo, hhi⟩
  have hv : v = nI i := hv
  subst hv
  have hu : ux wBm σ υ := hu
  have hlo : ∀ l, l < i → g_i υ 103 l = brl (μ.1 l) ∧ g_i υ 104 l = brm (brl (μ.1 l)) (μ.2.1 l) := hlo
  have hhi : ∀ l, i ≤ l → l < 10 → g_i υ 103 l = μ.1 l ∧ g_i υ 104 l = μ.2.1 l := hhi
  unfold f_X11_goOn_L110
  have e0 : g_i υ (nmM 0) 0 = nI n := (hu 101 0 rfl).trans h0
  show wp (if g_i υ (nmM 0) 0 ≤ nI i then _ else _) _
  rw [e0]
  refine wp_ite (fun hc => ?_) (fun hc => ?_)
  · rw [nI_le' (by omega) (by omega)] at hc
    refine wp_some ⟨hu, fun l hl => ?_⟩
    by_cases hln : l < i
    · exact hlo l hln
    · obtain ⟨a1, a2⟩ := hhi l (by omega) hl
      rw [a1, a2, hz l (by omega) hl]
      exact ⟨rfl, rfl⟩
  · rw [nI_le' (by omega) (by omega)] at hc
    have hin : vp_in (nI i) 10 := nI_in' (by omega) (by omega)
    obtain ⟨f1, f2⟩ := hhi i (Nat.le_refl _) (by omega)
    have f1' : g_i υ (nmM 2) i = μ.1 i := f1
    refine wp_gd hin (wp_gd hin ?_)
    rw [nI_cl (by omega), f1']
    have hy : ∃ y, (if μ.1 i ≤ 0 then some (0 : Int32) else some 1) = some y ∧ μ.1 i - y = brl (μ.1 i) := by
      unfold brl
      by_cases c : μ.1 i ≤ 0
      · rw [if_pos c, if_pos c]; exact ⟨0, rfl, sub0 _⟩
      · rw [if_neg c, if_neg c]; exact ⟨1, rfl, rfl⟩
    obtain ⟨y, hy1, hy2⟩ := hy
    refine wp_bindE hy1 ?_
    unfold f_X11_goOn_J139
    refine wp_gd hin (wp_bd (fun s13 h13 => wp_gd hin (wp_gd hin ?_)))
    rw [nI_cl (by omega), hy2] at h13
    rw [nI_cl (by omega)]
    have g1 : g_i s13 (nmM 2) i = brl (μ.1 i) := by rw [h13]; exact s_i_eq _ _ _ _
    have g2 : g_i s13 (nmM 3) i = μ.2.1 i := by
      rw [h13]; exact (s_i_a (show (104 : Nat) ≠ 103 by decide)).trans f2
    rw [g1, g2]
    have hw : ∃ w, (if brl (μ.1 i) ≤ 0 then f_X11_goOn_J172 nmM (nI i) (nI i) (μ.2.1 i) s13 else gd (vp_in (nI i) 10) (if 99 ≤ μ.2.1 i then f_X11_goOn_J172 nmM (nI i) (nI i) (μ.2.1 i) s13 else some 1)) = some w ∧ μ.2.1 i + w = brm (brl (μ.1 i)) (μ.2.1 i) := by
      unfold brm
      by_cases c : brl (μ.1 i) ≤ 0
      · rw [if_pos c, if_pos c]; exact ⟨0, rfl, add0 _⟩
      · rw [if_neg c, if_neg c, gd_t hin]
        by_cases c2 : 99 ≤ μ.2.1 i
        · rw [if_pos c2, if_pos c2]; exact ⟨0, rfl, add0 _⟩
        · rw [if_neg c2, if_neg c2]; exact ⟨1, rfl, rfl⟩
    obtain ⟨w, hw1, hw2⟩ := hw
    refine wp_bindE hw1 ?_
    unfold f_X11_goOn_J173
    refine wp_gd hin (wp_bd (fun s15 h15 => wp_some ⟨by omega, nI_1 i, ?_, ?_, ?_⟩))
    · rw [h15, h13]; exact ux_s (ux_s hu rfl) rfl
    · intro l hl
      rw [nI_cl (by omega), hw2, h13] at h15
      rw [h15]
      show g_i (s_i (s_i υ 103 i _) 104 i _) 103 l = _ ∧ g_i (s_i (s_i υ 103 i _) 104 i _) 104 l = _
      rw [s_i_a (show (103 : Nat) ≠ 104 by decide)]
      by_cases hli : l = i
      · subst hli; rw [s_i_eq, s_i_eq]; exact ⟨rfl, rfl⟩
      · rw [s_i_k hli, s_i_k hli, s_i_a (show (104 : Nat) ≠ 103 by decide)]; exact hlo l (by omega)
    · intro l hl h10
      rw [nI_cl (by omega), hw2, h13] at h15
      rw [h15]
      show g_i (s_i (s_i υ 103 i _) 104 i _) 103 l = _ ∧ g_i (s_i (s_i υ 103 i _) 104 i _) 104 l = _
      rw [s_i_k (show l ≠ i by omega), s_i_k (show l ≠ i by omega), s_i_k (show l ≠ i by omega), s_i_k (show l ≠ i by omega)]
      exact hhi l (by omega) h10
/-! the songs of a minute -/
def SongOk (m c : Nat) (σ : jS) : Prop := (m ≤ 8 ∧ c ≤ 30) ∧ (g_i σ 49 1 = nI c ∧ g_i σ 51 1 = nI c ∧ g_i σ 53 1 = nI c ∧ g_i σ 40 1 = nI m ∧ g_i σ 42 1 = nI m) ∧ (∀ k, k < c → rg (g_i σ 52 k) 0 ((m : Int) - 1) ∧ rg (g_i σ 54 k) 0 63) ∧ ∀ s, s < m → rg (g_i σ 41 s) 0 49 ∧ rg (g_i σ 43 s) 1 50
def sgr (σ : jS) (k : Nat) : Nat := (g_i σ 52 k).toNatClampNeg
def sSet (σ : jS) (b n k : Nat) : Nat := bs (hd σ b (g_i σ 41 (sgr σ k)).toInt (g_i σ 54 k).toInt (g_i σ 43 (sgr σ k)).toInt) n
def wSet (σ : jS) (b n : Nat) (x y : Int32) : Nat := bs (hd σ b x.toInt y.toInt (g_i σ b 7).toInt) n
def prm (σ : jS) (b n c : Nat) : Mo → Mo := mst c (g_i σ 50) (sSet σ b n) (g_i σ 52) (g_i σ b 7) (wSet σ b n) (g_i σ 31 8)
theorem sgr_lt {m c k : Nat} {σ : jS} (h : SongOk m c σ) (hk : k < c) : sgr σ k < m ∧ g_i σ 52 k = nI (sgr σ k) := by
  obtain ⟨h1, h2⟩ := (h.2.2.1 k hk).1
  have hm : 0 < m := by omega
  obtain ⟨j, hj, e⟩ := rg_nI (x := g_i σ 52 k) (hi := m - 1) ⟨h1, by omega⟩
  have h8 := h.1.1
  unfold sgr
  rw [e, nI_cl (by omega)]
  exact ⟨by omega, rfl⟩
theorem hd_ux {W : Nat → Nat → Bool} {σ τ : jS} {b n : Nat} {p nt lo : Int} (hu : ux W σ τ) (h1 : ∀ k, W (b + 1) k = false) (h2 : ∀ k, W 39 k = false) (h3 : W b 6 = false) (h4 : ∀ k, W 37 k = false) (h5 : ∀ k, W 33 k = false) : bs (hd τ b p nt lo) n = bs (hd σ b p nt lo) n := bs_cong (fun l _ => hd_cg (hu _ l (h1 l)) (hu 39 l (h2 l)) (hu b 6 h3) (hu 37 l (h4 l)) (hu 33 l (h5 l)))
theorem SoundOk.cg {W : Nat → Nat → Bool} {σ τ : jS} {b n : Nat} (hu : ux W σ τ) (h1 : ∀ k, W (b + 1) k = false) (h2 : ∀ k, W 39 k = false) (h3 : W b 6 = false) (h4 : ∀ k, W 37 k = false) (h5 : ∀ k, W 33 k = false) (h6 : W 32 1 = false) (h7 : W 36 1 = false) (h8 : W 38 1 = false) (h : SoundOk σ b n) : SoundOk τ b n := by
  obtain ⟨a0, a1, a2, a3, a4, a5⟩ := h
  refine ⟨a0, (hu 32 1 h6).trans a1, (hu 36 1 h7).trans a2, (hu 38 1 h8).trans a3, fun l hl => ?_, ?_⟩
  · rw [hu 33 l (h5 l), hu 37 l (h4 l), hu 39 l (h2 l), hu _ l (h1 l)]; exact a4 l hl
  · rw [hu b 6 h3]; exact a5
def songNm (nm : Nat → Nat) : Prop := nm 10 = 40 ∧ nm 11 = 41 ∧ nm 12 = 42 ∧ nm 13 = 43 ∧ nm 23 = 49 ∧ nm 24 = 50 ∧ nm 25 = 51 ∧ nm 26 = 52 ∧ nm 27 = 53 ∧ nm 28 = 54
theorem row_of {nm : Nat → Nat} {σ : jS} {i j a b n N k : Nat} (h0 : nm i = a) (h1 : nm j = b) (h : g_i σ a 1 = nI n) (hn : n ≤ N) (hN : N < 2147483648) (hk : k < n) : f_X4_at (jn nm [i, j]) N (nI k) σ = some (g_i σ b k) := by
  have e0 : jn nm [i, j] 0 = a := h0
  have e1 : jn nm [i, j] 1 = b := h1
  have := row_atI (nm := jn nm [i, j]) (σ := σ) (n := n) (N := N) (k := k) (by rw [e0]; exact h) hn hN hk
  rw [e1] at this
  exact this
theorem mrel_lgt {b S : Nat} {bu who : Int32} {σ τ : jS} {μ : Mo} (hr : mrel b σ μ) (hu : ux (wLi b) σ τ) (hv : ∀ l, l < 10 → g_i τ (b + 2) l = (if S.testBit l then bu else g_i σ (b + 2) l) ∧ g_i τ (b + 4) l = (if S.testBit l then who else g_i σ (b + 4) l)) : mrel b τ (lgt S bu who μ) := by
  refine ⟨fun l hl => ?_, ?_, ?_⟩
  · obtain ⟨h1, h2, h3⟩ := hr.1 l hl
    rw [(hv l hl).1, (hv l hl).2, hu (b + 3) l (by simp [wLi]), h1, h2, h3]
    exact ⟨rfl, rfl, rfl⟩
  · rw [hu b 5 (by simp [wLi])]; exact hr.2.1
  · rw [hu b 8 (by simp [wLi])]; exact hr.2.2
theorem sgs_min (mi : Nat → Int32) (S : Nat → Nat) (who : Nat → Int32) (bu : Int32) (μ : Mo) : ∀ k, (sgs mi S who bu μ k).2.2.2 = μ.2.2.2
  | 0 => rfl
  | k + 1 => by
    unfold sgs
    split
    · exact sgs_min mi S who bu μ k
    · exact sgs_min mi S who bu μ k
theorem xsongs {nm : Nat → Nat} {b n m c : Nat} {σ : jS} {μ : Mo} (hm : momNm nm b) (hsn : songNm nm) (hb : 56 < b ∧ b < 63) (hs : SoundOk σ b n) (hg : SongOk m c σ) (hr : mrel b σ μ) : wp (lp (f_X2_passMinute_L2 nm) fu (0, σ)) (fun τ => ux (wLi b) σ τ ∧ mrel b τ (sgs (g_i σ 50) (sSet σ b n) (g_i σ 52) (g_i σ 31 8) μ c)) := by
  have hw : ∀ a k, a < 59 → wLi b a k = false := fun a k h => by simp [wLi]; omega
  refine wp_up c (fun i s => s.1 = nI i ∧ ux (wLi b) σ s.2 ∧ mrel b s.2 (sgs (g_i σ 50) (sSet σ b n) (g_i σ 52) (g_i σ 31 8) μ i)) (i := 0) (by have := hg.1.2; omega) (by omega) ⟨rfl, ux_refl _ _, hr⟩ ?_
  rintro i ⟨v, υ⟩ hi ⟨hv, hu, hru⟩
  have hv : v = nI i := hv
  subst hv
  have hu : ux (wLi b) σ υ := hu
  have hru : mrel b υ (sgs (g_i σ 50) (sSet σ b n) (g_i σ 52) (g_i σ 31 8) μ i) := hru
  obtain ⟨⟨hm8, hc30⟩, ⟨z1, z2, z3, z4, z5⟩, hk, hsg⟩ := hg
  obtain ⟨n10, n11, n12, n13, n23, n24, n25, n26, n27, n28⟩ := hsn
  unfold f_X2_passMinute_L2
  have hcnt : f_X7_count (jn nm [22, 23, 24, 25, 26, 27, 28]) υ = some (nI c) := by
    show some (g_i υ (nm 23) 1) = _
    rw [n23, hu 49 1 (hw 49 1 (by omega)), z1]
  show wp ((f_X7_count _ υ).bind _) _
  refine wp_bindE hcnt ?_
  refine wp_ite (fun hc => ?_) (fun hc => ?_)
  · rw [nI_le' (by omega) (by omega)] at hc
    have : i = c := by omega
    subst this
    exact wp_some ⟨hu, hru⟩
  · rw [nI_le' (by omega) (by omega)] at hc
    have hic : i < c := by omega
    have u1 : ∀ k, g_i υ 50 k = g_i σ 50 k := fun k => hu 50 k (hw 50 k (by omega))
    refine wp_bindE (row_of (n := c) n23 n24 ((hu 49 1 (hw 49 1 (by omega))).trans z1) hc30 (by omega) hic) ?_
    rw [u1, hm.1.1]
    have e5 : g_i υ b 5 = μ.2.2.2.1 := by rw [hru.2.1, sgs_min]
    rw [e5]
    refine wp_ite (fun he => ?_) (fun he => ?_)
    · have hk52 := sgr_lt (σ := σ) ⟨⟨hm8, hc30⟩, ⟨z1, z2, z3, z4, z5⟩, hk, hsg⟩ hic
      refine wp_bindE (row_of (n := c) n25 n26 ((hu 51 1 (hw 51 1 (by omega))).trans z2) hc30 (by omega) hic) ?_
      rw [hu 52 i (hw 52 i (by omega)), hk52.2]
      refine wp_bindE (row_of (n := m) n10 n11 ((hu 40 1 (hw 40 1 (by omega))).trans z4) hm8 (by omega) hk52.1) ?_
      refine wp_bindE (row_of (n := c) n27 n28 ((hu 53 1 (hw 53 1 (by omega))).trans z3) hc30 (by omega) hic) ?_
      refine wp_bindE (row_of (n := m) n12 n13 ((hu 42 1 (hw 42 1 (by omega))).trans z5) hm8 (by omega) hk52.1) ?_
      rw [hu 41 _ (hw 41 _ (by omega)), hu 54 i (hw 54 i (by omega)), hu 43 _ (hw 43 _ (by omega))]
      have hs' : SoundOk υ b n := SoundOk.cg hu (fun k => by simp [wLi]) (fun k => hw 39 k (by omega)) (by simp [wLi]) (fun k => hw 37 k (by omega)) (fun k => hw 33 k (by omega)) (hw 32 1 (by omega)) (hw 36 1 (by omega)) (hw 38 1 (by omega)) hs
      have hwk := woken_eq (nm := jn nm [0, 1, 2, 3, 4, 5, 6, 7, 8, 9, 10, 11, 12, 13, 14, 15, 16, 17, 18, 19, 20, 21]) (p := g_i σ 41 (sgr σ i)) (nt := g_i σ 54 i) (lo := g_i σ 43 (sgr σ i)) hm hs' (hsg _ hk52.1).1 (hk i hic).2 (hsg _ hk52.1).2
      rw [hd_ux hu (fun k => by simp [wLi]) (fun k => hw 39 k (by omega)) (by simp [wLi]) (fun k => hw 37 k (by omega)) (fun k => hw 33 k (by omega))] at hwk
      refine wp_bindE hwk ?_
      obtain ⟨τ, ht, hut, hvt⟩ := light_c (nm := jn nm [0, 1, 2, 3, 4, 5, 6, 7, 8, 9, 10, 11, 12, 13, 14, 15, 16, 17, 18, 19, 20, 21]) (b := b) (S := sSet σ b n i) (by_ := nI (sgr σ i)) hm (by omega) υ
      refine wp_bindE ht ?_
      refine wp_some ⟨hic, nI_1 i, ux_tr hu hut, ?_⟩
      show mrel b τ (sgs (g_i σ 50) (sSet σ b n) (g_i σ 52) (g_i σ 31 8) μ (i + 1))
      unfold sgs
      rw [if_pos he, hk52.2]
      rw [hu 31 8 (hw 31 8 (by omega))] at hvt
      exact mrel_lgt hru hut hvt
    · refine wp_some ⟨hic, nI_1 i, hu, ?_⟩
      show mrel b υ (sgs (g_i σ 50) (sSet σ b n) (g_i σ 52) (g_i σ 31 8) μ (i + 1))
      unfold sgs
      rw [if_neg he]; exact hru
