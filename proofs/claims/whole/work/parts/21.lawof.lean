/-! a call of both: class first, then the reference -/
def sII (Rel : jS → Prop) (fx fm : jS → Option (Int32 × jS)) : Prop := ∀ σ, Rel σ → ∃ r σ1 τ, fx σ = some (r, σ1) ∧ fm σ1 = some (r, τ) ∧ Rel τ
def sPP (Rel : jS → Prop) (fx fm : jS → Option Int32) : Prop := ∀ σ, Rel σ → ∃ r, fx σ = some r ∧ fm σ = some r
def sIP (Rel : jS → Prop) (fx : jS → Option (Int32 × jS)) (fm : jS → Option Int32) : Prop := ∀ σ, Rel σ → ∃ r σ1, fx σ = some (r, σ1) ∧ fm σ1 = some r ∧ Rel σ1
def sPI (Rel : jS → Prop) (fx : jS → Option Int32) (fm : jS → Option (Int32 × jS)) : Prop := ∀ σ, Rel σ → ∃ r τ, fx σ = some r ∧ fm σ = some (r, τ) ∧ Rel τ
theorem vpl {i c L : Nat} (hi : i + 6 ≤ L) (hL : L ≤ 3072) (hc : c < 6) : vp_in (nI i + nI c) L := by
  rw [nI_add]; exact vp_in_nI (by omega) (by omega)
theorem vp0 {i L : Nat} (hi : i + 6 ≤ L) (hL : L ≤ 3072) : vp_in (nI i) L := vp_in_nI (by omega) (by omega)
theorem vp1 {i L : Nat} (hi : i + 6 ≤ L) (hL : L ≤ 3072) : vp_in (nI i + 1) L := vpl (c := 1) hi hL (by omega)
theorem vp2 {i L : Nat} (hi : i + 6 ≤ L) (hL : L ≤ 3072) : vp_in (nI i + 2) L := vpl (c := 2) hi hL (by omega)
theorem vp3 {i L : Nat} (hi : i + 6 ≤ L) (hL : L ≤ 3072) : vp_in (nI i + 3) L := vpl (c := 3) hi hL (by omega)
theorem vp4 {i L : Nat} (hi : i + 6 ≤ L) (hL : L ≤ 3072) : vp_in (nI i + 4) L := vpl (c := 4) hi hL (by omega)
theorem vp5 {i L : Nat} (hi : i + 6 ≤ L) (hL : L ≤ 3072) : vp_in (nI i + 5) L := vpl (c := 5) hi hL (by omega)
theorem ni6 (i : Nat) : nI i + 6 = nI (i + 6) := nI_add i 6
section
variable {Rel : jS → Prop} {L i : Nat} {xs : Nat → Int32} {σ : jS}
theorem lc_0 (h : ∀ (a0 : Int32) (a1 : Int64), sII Rel (fun σ => f_X10_feed nmX a0 a1 σ) (fun σ => f_X11_feed nmM a0 a1 σ)) (hi : i + 6 ≤ L) (hL : L ≤ 3072) (hR : Rel σ) : ∃ τ, f_L_law_J184 L xs (nI i) σ = some (.inl (nI (i + 6), τ)) ∧ Rel τ := by
  obtain ⟨r, σ1, τ, e1, e2, hT⟩ := h (xs (nI i + 1).toNatClampNeg) (((xs (nI i + 2).toNatClampNeg).toInt64 <<< ((32 : Int32).toInt64 &&& 63)) ||| ((xs (nI i + 3).toNatClampNeg).toInt64 &&& 4294967295)) σ hR
  refine ⟨τ, ?_, hT⟩
  unfold f_L_law_J184
  simp only [gd_t (vp1 hi hL), gd_t (vp2 hi hL), gd_t (vp3 hi hL)]
  have e1 : f_X10_feed nmX (xs (nI i + 1).toNatClampNeg) (((xs (nI i + 2).toNatClampNeg).toInt64 <<< ((32 : Int32).toInt64 &&& 63)) ||| ((xs (nI i + 3).toNatClampNeg).toInt64 &&& 4294967295)) σ = _ := e1
  have e2 : f_X11_feed nmM (xs (nI i + 1).toNatClampNeg) (((xs (nI i + 2).toNatClampNeg).toInt64 <<< ((32 : Int32).toInt64 &&& 63)) ||| ((xs (nI i + 3).toNatClampNeg).toInt64 &&& 4294967295)) σ1 = _ := e2
  rw [e1]
  simp only [Option.bind_some]
  rw [e2]
  simp only [Option.bind_some]
  rw [if_pos trivial, ni6]
theorem lc_1 (h : sII Rel (fun σ => f_X10_quay nmX σ) (fun σ => f_X11_quay nmM σ)) (hi : i + 6 ≤ L) (hL : L ≤ 3072) (hR : Rel σ) : ∃ τ, f_L_law_J247 L xs (nI i) σ = some (.inl (nI (i + 6), τ)) ∧ Rel τ := by
  obtain ⟨r, σ1, τ, e1, e2, hT⟩ := h  σ hR
  refine ⟨τ, ?_, hT⟩
  unfold f_L_law_J247
  have e1 : f_X10_quay nmX σ = _ := e1
  have e2 : f_X11_quay nmM σ1 = _ := e2
  rw [e1]
  simp only [Option.bind_some]
  rw [e2]
  simp only [Option.bind_some]
  rw [if_pos trivial, ni6]
theorem lc_2 (h : sII Rel (fun σ => f_X10_night nmX σ) (fun σ => f_X11_night nmM σ)) (hi : i + 6 ≤ L) (hL : L ≤ 3072) (hR : Rel σ) : ∃ τ, f_L_law_J260 L xs (nI i) σ = some (.inl (nI (i + 6), τ)) ∧ Rel τ := by
  obtain ⟨r, σ1, τ, e1, e2, hT⟩ := h  σ hR
  refine ⟨τ, ?_, hT⟩
  unfold f_L_law_J260
  have e1 : f_X10_night nmX σ = _ := e1
  have e2 : f_X11_night nmM σ1 = _ := e2
  rw [e1]
  simp only [Option.bind_some]
  rw [e2]
  simp only [Option.bind_some]
  rw [if_pos trivial, ni6]
theorem lc_3 (h : sII Rel (fun σ => f_X10_month nmX σ) (fun σ => f_X11_month nmM σ)) (hi : i + 6 ≤ L) (hL : L ≤ 3072) (hR : Rel σ) : ∃ τ, f_L_law_J273 L xs (nI i) σ = some (.inl (nI (i + 6), τ)) ∧ Rel τ := by
  obtain ⟨r, σ1, τ, e1, e2, hT⟩ := h  σ hR
  refine ⟨τ, ?_, hT⟩
  unfold f_L_law_J273
  have e1 : f_X10_month nmX σ = _ := e1
  have e2 : f_X11_month nmM σ1 = _ := e2
  rw [e1]
  simp only [Option.bind_some]
  rw [e2]
  simp only [Option.bind_some]
  rw [if_pos trivial, ni6]
theorem lc_4 (h : sPP Rel (fun σ => f_X10_fault nmX σ) (fun σ => f_X11_fault nmM σ)) (hi : i + 6 ≤ L) (hL : L ≤ 3072) (hR : Rel σ) : ∃ τ, f_L_law_J286 L xs (nI i) σ = some (.inl (nI (i + 6), τ)) ∧ Rel τ := by
  obtain ⟨r, e1, e2⟩ := h  σ hR
  refine ⟨σ, ?_, hR⟩
  unfold f_L_law_J286
  have e1 : f_X10_fault nmX σ = _ := e1
  have e2 : f_X11_fault nmM σ = _ := e2
  rw [e1]
  simp only [Option.bind_some]
  rw [e2]
  simp only [Option.bind_some]
  rw [if_pos trivial, ni6]
theorem lc_5 (h : ∀ (a0 : Int32), sPP Rel (fun σ => f_X10_told nmX a0 σ) (fun σ => f_X11_told nmM a0 σ)) (hi : i + 6 ≤ L) (hL : L ≤ 3072) (hR : Rel σ) : ∃ τ, f_L_law_J299 L xs (nI i) σ = some (.inl (nI (i + 6), τ)) ∧ Rel τ := by
  obtain ⟨r, e1, e2⟩ := h (xs (nI i + 1).toNatClampNeg) σ hR
  refine ⟨σ, ?_, hR⟩
  unfold f_L_law_J299
  simp only [gd_t (vp1 hi hL)]
  have e1 : f_X10_told nmX (xs (nI i + 1).toNatClampNeg) σ = _ := e1
  have e2 : f_X11_told nmM (xs (nI i + 1).toNatClampNeg) σ = _ := e2
  rw [e1]
  simp only [Option.bind_some]
  rw [e2]
  simp only [Option.bind_some]
  rw [if_pos trivial, ni6]
theorem lc_6 (h : ∀ (a0 : Int32) (a1 : Int32), sPP Rel (fun σ => f_X10_lamp nmX a0 a1 σ) (fun σ => f_X11_lamp nmM a0 a1 σ)) (hi : i + 6 ≤ L) (hL : L ≤ 3072) (hR : Rel σ) : ∃ τ, f_L_law_J322 L xs (nI i) σ = some (.inl (nI (i + 6), τ)) ∧ Rel τ := by
  obtain ⟨r, e1, e2⟩ := h (xs (nI i + 1).toNatClampNeg) (xs (nI i + 2).toNatClampNeg) σ hR
  refine ⟨σ, ?_, hR⟩
  unfold f_L_law_J322
  simp only [gd_t (vp1 hi hL), gd_t (vp2 hi hL)]
  have e1 : f_X10_lamp nmX (xs (nI i + 1).toNatClampNeg) (xs (nI i + 2).toNatClampNeg) σ = _ := e1
  have e2 : f_X11_lamp nmM (xs (nI i + 1).toNatClampNeg) (xs (nI i + 2).toNatClampNeg) σ = _ := e2
  rw [e1]
  simp only [Option.bind_some]
  rw [e2]
  simp only [Option.bind_some]
  rw [if_pos trivial, ni6]
theorem lc_7 (h : ∀ (a0 : Int32) (a1 : Int32), sPP Rel (fun σ => f_X10_singer nmX a0 a1 σ) (fun σ => f_X11_singer nmM a0 a1 σ)) (hi : i + 6 ≤ L) (hL : L ≤ 3072) (hR : Rel σ) : ∃ τ, f_L_law_J355 L xs (nI i) σ = some (.inl (nI (i + 6), τ)) ∧ Rel τ := by
  obtain ⟨r, e1, e2⟩ := h (xs (nI i + 1).toNatClampNeg) (xs (nI i + 2).toNatClampNeg) σ hR
  refine ⟨σ, ?_, hR⟩
  unfold f_L_law_J355
  simp only [gd_t (vp1 hi hL), gd_t (vp2 hi hL)]
  have e1 : f_X10_singer nmX (xs (nI i + 1).toNatClampNeg) (xs (nI i + 2).toNatClampNeg) σ = _ := e1
  have e2 : f_X11_singer nmM (xs (nI i + 1).toNatClampNeg) (xs (nI i + 2).toNatClampNeg) σ = _ := e2
  rw [e1]
  simp only [Option.bind_some]
  rw [e2]
  simp only [Option.bind_some]
  rw [if_pos trivial, ni6]
theorem lc_8 (h : ∀ (a0 : Int32) (a1 : Int32), sII Rel (fun σ => f_X10_weather nmX a0 a1 σ) (fun σ => f_X11_weather nmM a0 a1 σ)) (hi : i + 6 ≤ L) (hL : L ≤ 3072) (hR : Rel σ) : ∃ τ, f_L_law_J388 L xs (nI i) σ = some (.inl (nI (i + 6), τ)) ∧ Rel τ := by
  obtain ⟨r, σ1, τ, e1, e2, hT⟩ := h (xs (nI i + 1).toNatClampNeg) (xs (nI i + 2).toNatClampNeg) σ hR
  refine ⟨τ, ?_, hT⟩
  unfold f_L_law_J388
  simp only [gd_t (vp1 hi hL), gd_t (vp2 hi hL)]
  have e1 : f_X10_weather nmX (xs (nI i + 1).toNatClampNeg) (xs (nI i + 2).toNatClampNeg) σ = _ := e1
  have e2 : f_X11_weather nmM (xs (nI i + 1).toNatClampNeg) (xs (nI i + 2).toNatClampNeg) σ1 = _ := e2
  rw [e1]
  simp only [Option.bind_some]
  rw [e2]
  simp only [Option.bind_some]
  rw [if_pos trivial, ni6]
theorem lc_9 (h : ∀ (a0 : Int32) (a1 : Int32) (a2 : Int32), sPP Rel (fun σ => f_X10_wakes nmX a0 a1 a2 σ) (fun σ => f_X11_wakes nmM a0 a1 a2 σ)) (hi : i + 6 ≤ L) (hL : L ≤ 3072) (hR : Rel σ) : ∃ τ, f_L_law_J421 L xs (nI i) σ = some (.inl (nI (i + 6), τ)) ∧ Rel τ := by
  obtain ⟨r, e1, e2⟩ := h (xs (nI i + 1).toNatClampNeg) (xs (nI i + 2).toNatClampNeg) (xs (nI i + 3).toNatClampNeg) σ hR
  refine ⟨σ, ?_, hR⟩
  unfold f_L_law_J421
  simp only [gd_t (vp1 hi hL), gd_t (vp2 hi hL), gd_t (vp3 hi hL)]
  have e1 : f_X10_wakes nmX (xs (nI i + 1).toNatClampNeg) (xs (nI i + 2).toNatClampNeg) (xs (nI i + 3).toNatClampNeg) σ = _ := e1
  have e2 : f_X11_wakes nmM (xs (nI i + 1).toNatClampNeg) (xs (nI i + 2).toNatClampNeg) (xs (nI i + 3).toNatClampNeg) σ = _ := e2
  rw [e1]
  simp only [Option.bind_some]
  rw [e2]
  simp only [Option.bind_some]
  rw [if_pos trivial, ni6]
theorem lc_10 (h : ∀ (a0 : Int32) (a1 : Int32), sII Rel (fun σ => f_X10_hum nmX a0 a1 σ) (fun σ => f_X11_hum nmM a0 a1 σ)) (hi : i + 6 ≤ L) (hL : L ≤ 3072) (hR : Rel σ) : ∃ τ, f_L_law_J464 L xs (nI i) σ = some (.inl (nI (i + 6), τ)) ∧ Rel τ := by
  obtain ⟨r, σ1, τ, e1, e2, hT⟩ := h (xs (nI i + 1).toNatClampNeg) (xs (nI i + 2).toNatClampNeg) σ hR
  refine ⟨τ, ?_, hT⟩
  unfold f_L_law_J464
  simp only [gd_t (vp1 hi hL), gd_t (vp2 hi hL)]
  have e1 : f_X10_hum nmX (xs (nI i + 1).toNatClampNeg) (xs (nI i + 2).toNatClampNeg) σ = _ := e1
  have e2 : f_X11_hum nmM (xs (nI i + 1).toNatClampNeg) (xs (nI i + 2).toNatClampNeg) σ1 = _ := e2
  rw [e1]
  simp only [Option.bind_some]
  rw [e2]
  simp only [Option.bind_some]
  rw [if_pos trivial, ni6]
theorem lc_11 (h : ∀ (a0 : Int32), sII Rel (fun σ => f_X10_run nmX a0 σ) (fun σ => f_X11_run nmM a0 σ)) (hi : i + 6 ≤ L) (hL : L ≤ 3072) (hR : Rel σ) : ∃ τ, f_L_law_J497 L xs (nI i) σ = some (.inl (nI (i + 6), τ)) ∧ Rel τ := by
  obtain ⟨r, σ1, τ, e1, e2, hT⟩ := h (xs (nI i + 1).toNatClampNeg) σ hR
  refine ⟨τ, ?_, hT⟩
  unfold f_L_law_J497
  simp only [gd_t (vp1 hi hL)]
  have e1 : f_X10_run nmX (xs (nI i + 1).toNatClampNeg) σ = _ := e1
  have e2 : f_X11_run nmM (xs (nI i + 1).toNatClampNeg) σ1 = _ := e2
  rw [e1]
  simp only [Option.bind_some]
  rw [e2]
  simp only [Option.bind_some]
  rw [if_pos trivial, ni6]
theorem lc_12 (h : ∀ (a0 : Int32), sPP Rel (fun σ => f_X10_lit nmX a0 σ) (fun σ => f_X11_lit nmM a0 σ)) (hi : i + 6 ≤ L) (hL : L ≤ 3072) (hR : Rel σ) : ∃ τ, f_L_law_J520 L xs (nI i) σ = some (.inl (nI (i + 6), τ)) ∧ Rel τ := by
  obtain ⟨r, e1, e2⟩ := h (xs (nI i + 1).toNatClampNeg) σ hR
  refine ⟨σ, ?_, hR⟩
  unfold f_L_law_J520
  simp only [gd_t (vp1 hi hL)]
  have e1 : f_X10_lit nmX (xs (nI i + 1).toNatClampNeg) σ = _ := e1
  have e2 : f_X11_lit nmM (xs (nI i + 1).toNatClampNeg) σ = _ := e2
  rw [e1]
  simp only [Option.bind_some]
  rw [e2]
  simp only [Option.bind_some]
  rw [if_pos trivial, ni6]
theorem lc_13 (h : sII Rel (fun σ => f_X10_dark nmX σ) (fun σ => f_X11_dark nmM σ)) (hi : i + 6 ≤ L) (hL : L ≤ 3072) (hR : Rel σ) : ∃ τ, f_L_law_J543 L xs (nI i) σ = some (.inl (nI (i + 6), τ)) ∧ Rel τ := by
  obtain ⟨r, σ1, τ, e1, e2, hT⟩ := h  σ hR
  refine ⟨τ, ?_, hT⟩
  unfold f_L_law_J543
  have e1 : f_X10_dark nmX σ = _ := e1
  have e2 : f_X11_dark nmM σ1 = _ := e2
  rw [e1]
  simp only [Option.bind_some]
  rw [e2]
  simp only [Option.bind_some]
  rw [if_pos trivial, ni6]
theorem lc_14 (h : ∀ (a0 : Int32), sII Rel (fun σ => f_X10_sweep nmX a0 σ) (fun σ => f_X11_sweep nmM a0 σ)) (hi : i + 6 ≤ L) (hL : L ≤ 3072) (hR : Rel σ) : ∃ τ, f_L_law_J556 L xs (nI i) σ = some (.inl (nI (i + 6), τ)) ∧ Rel τ := by
  obtain ⟨r, σ1, τ, e1, e2, hT⟩ := h (xs (nI i + 1).toNatClampNeg) σ hR
  refine ⟨τ, ?_, hT⟩
  unfold f_L_law_J556
  simp only [gd_t (vp1 hi hL)]
  have e1 : f_X10_sweep nmX (xs (nI i + 1).toNatClampNeg) σ = _ := e1
  have e2 : f_X11_sweep nmM (xs (nI i + 1).toNatClampNeg) σ1 = _ := e2
  rw [e1]
  simp only [Option.bind_some]
  rw [e2]
  simp only [Option.bind_some]
  rw [if_pos trivial, ni6]
theorem lc_15 (h : ∀ (a0 : Int32), sII Rel (fun σ => f_X10_round nmX a0 σ) (fun σ => f_X11_round nmM a0 σ)) (hi : i + 6 ≤ L) (hL : L ≤ 3072) (hR : Rel σ) : ∃ τ, f_L_law_J579 L xs (nI i) σ = some (.inl (nI (i + 6), τ)) ∧ Rel τ := by
  obtain ⟨r, σ1, τ, e1, e2, hT⟩ := h (xs (nI i + 1).toNatClampNeg) σ hR
  refine ⟨τ, ?_, hT⟩
  unfold f_L_law_J579
  simp only [gd_t (vp1 hi hL)]
  have e1 : f_X10_round nmX (xs (nI i + 1).toNatClampNeg) σ = _ := e1
  have e2 : f_X11_round nmM (xs (nI i + 1).toNatClampNeg) σ1 = _ := e2
  rw [e1]
  simp only [Option.bind_some]
  rw [e2]
  simp only [Option.bind_some]
  rw [if_pos trivial, ni6]
theorem lc_16 (h : ∀ (a0 : Int32), sII Rel (fun σ => f_X10_signal nmX a0 σ) (fun σ => f_X11_signal nmM a0 σ)) (hi : i + 6 ≤ L) (hL : L ≤ 3072) (hR : Rel σ) : ∃ τ, f_L_law_J602 L xs (nI i) σ = some (.inl (nI (i + 6), τ)) ∧ Rel τ := by
  obtain ⟨r, σ1, τ, e1, e2, hT⟩ := h (xs (nI i + 1).toNatClampNeg) σ hR
  refine ⟨τ, ?_, hT⟩
  unfold f_L_law_J602
  simp only [gd_t (vp1 hi hL)]
  have e1 : f_X10_signal nmX (xs (nI i + 1).toNatClampNeg) σ = _ := e1
  have e2 : f_X11_signal nmM (xs (nI i + 1).toNatClampNeg) σ1 = _ := e2
  rw [e1]
  simp only [Option.bind_some]
  rw [e2]
  simp only [Option.bind_some]
  rw [if_pos trivial, ni6]
theorem lc_17 (h : sII Rel (fun σ => f_X10_forget nmX σ) (fun σ => f_X11_forget nmM σ)) (hi : i + 6 ≤ L) (hL : L ≤ 3072) (hR : Rel σ) : ∃ τ, f_L_law_J625 L xs (nI i) σ = some (.inl (nI (i + 6), τ)) ∧ Rel τ := by
  obtain ⟨r, σ1, τ, e1, e2, hT⟩ := h  σ hR
  refine ⟨τ, ?_, hT⟩
  unfold f_L_law_J625
  have e1 : f_X10_forget nmX σ = _ := e1
  have e2 : f_X11_forget nmM σ1 = _ := e2
  rw [e1]
  simp only [Option.bind_some]
  rw [e2]
  simp only [Option.bind_some]
  rw [if_pos trivial, ni6]
theorem lc_18 (h : sPP Rel (fun σ => f_X10_shows nmX σ) (fun σ => f_X11_shows nmM σ)) (hi : i + 6 ≤ L) (hL : L ≤ 3072) (hR : Rel σ) : ∃ τ, f_L_law_J638 L xs (nI i) σ = some (.inl (nI (i + 6), τ)) ∧ Rel τ := by
  obtain ⟨r, e1, e2⟩ := h  σ hR
  refine ⟨σ, ?_, hR⟩
  unfold f_L_law_J638
  have e1 : f_X10_shows nmX σ = _ := e1
  have e2 : f_X11_shows nmM σ = _ := e2
  rw [e1]
  simp only [Option.bind_some]
  rw [e2]
  simp only [Option.bind_some]
  rw [if_pos trivial, ni6]
theorem lc_19 (h : ∀ (a0 : Int32) (a1 : Int32) (a2 : Int64) (a3 : Int32), sII Rel (fun σ => f_X10_lured nmX a0 a1 a2 a3 σ) (fun σ => f_X11_lured nmM a0 a1 a2 a3 σ)) (hi : i + 6 ≤ L) (hL : L ≤ 3072) (hR : Rel σ) : ∃ τ, f_L_law_J651 L xs (nI i) σ = some (.inl (nI (i + 6), τ)) ∧ Rel τ := by
  obtain ⟨r, σ1, τ, e1, e2, hT⟩ := h (xs (nI i + 1).toNatClampNeg) (xs (nI i + 2).toNatClampNeg) (((xs (nI i + 3).toNatClampNeg).toInt64 <<< ((32 : Int32).toInt64 &&& 63)) ||| ((xs (nI i + 4).toNatClampNeg).toInt64 &&& 4294967295)) (xs (nI i + 5).toNatClampNeg) σ hR
  refine ⟨τ, ?_, hT⟩
  unfold f_L_law_J651
  simp only [gd_t (vp1 hi hL), gd_t (vp2 hi hL), gd_t (vp3 hi hL), gd_t (vp4 hi hL), gd_t (vp5 hi hL)]
  have e1 : f_X10_lured nmX (xs (nI i + 1).toNatClampNeg) (xs (nI i + 2).toNatClampNeg) (((xs (nI i + 3).toNatClampNeg).toInt64 <<< ((32 : Int32).toInt64 &&& 63)) ||| ((xs (nI i + 4).toNatClampNeg).toInt64 &&& 4294967295)) (xs (nI i + 5).toNatClampNeg) σ = _ := e1
  have e2 : f_X11_lured nmM (xs (nI i + 1).toNatClampNeg) (xs (nI i + 2).toNatClampNeg) (((xs (nI i + 3).toNatClampNeg).toInt64 <<< ((32 : Int32).toInt64 &&& 63)) ||| ((xs (nI i + 4).toNatClampNeg).toInt64 &&& 4294967295)) (xs (nI i + 5).toNatClampNeg) σ1 = _ := e2
  rw [e1]
  simp only [Option.bind_some]
  rw [e2]
  simp only [Option.bind_some]
  rw [if_pos trivial, ni6]
theorem lc_20 (h : ∀ (a0 : Int64) (a1 : Int32) (a2 : Int32) (a3 : Int32), sII Rel (fun σ => f_X10_apart nmX a0 a1 a2 a3 σ) (fun σ => f_X11_apart nmM a0 a1 a2 a3 σ)) (hi : i + 6 ≤ L) (hL : L ≤ 3072) (hR : Rel σ) : ∃ τ, f_L_law_J734 L xs (nI i) σ = some (.inl (nI (i + 6), τ)) ∧ Rel τ := by
  obtain ⟨r, σ1, τ, e1, e2, hT⟩ := h (((xs (nI i + 1).toNatClampNeg).toInt64 <<< ((32 : Int32).toInt64 &&& 63)) ||| ((xs (nI i + 2).toNatClampNeg).toInt64 &&& 4294967295)) (xs (nI i + 3).toNatClampNeg) (xs (nI i + 4).toNatClampNeg) (xs (nI i + 5).toNatClampNeg) σ hR
  refine ⟨τ, ?_, hT⟩
  unfold f_L_law_J734
  simp only [gd_t (vp1 hi hL), gd_t (vp2 hi hL), gd_t (vp3 hi hL), gd_t (vp4 hi hL), gd_t (vp5 hi hL)]
  have e1 : f_X10_apart nmX (((xs (nI i + 1).toNatClampNeg).toInt64 <<< ((32 : Int32).toInt64 &&& 63)) ||| ((xs (nI i + 2).toNatClampNeg).toInt64 &&& 4294967295)) (xs (nI i + 3).toNatClampNeg) (xs (nI i + 4).toNatClampNeg) (xs (nI i + 5).toNatClampNeg) σ = _ := e1
  have e2 : f_X11_apart nmM (((xs (nI i + 1).toNatClampNeg).toInt64 <<< ((32 : Int32).toInt64 &&& 63)) ||| ((xs (nI i + 2).toNatClampNeg).toInt64 &&& 4294967295)) (xs (nI i + 3).toNatClampNeg) (xs (nI i + 4).toNatClampNeg) (xs (nI i + 5).toNatClampNeg) σ1 = _ := e2
  rw [e1]
  simp only [Option.bind_some]
  rw [e2]
  simp only [Option.bind_some]
  rw [if_pos trivial, ni6]
theorem lc_21 (h : ∀ (a0 : Int32) (a1 : Int32) (a2 : Int32) (a3 : Int32), sII Rel (fun σ => f_X10_fewest nmX a0 a1 a2 a3 σ) (fun σ => f_X11_fewest nmM a0 a1 a2 a3 σ)) (hi : i + 6 ≤ L) (hL : L ≤ 3072) (hR : Rel σ) : ∃ τ, f_L_law_J817 L xs (nI i) σ = some (.inl (nI (i + 6), τ)) ∧ Rel τ := by
  obtain ⟨r, σ1, τ, e1, e2, hT⟩ := h (xs (nI i + 1).toNatClampNeg) (xs (nI i + 2).toNatClampNeg) (xs (nI i + 3).toNatClampNeg) (xs (nI i + 4).toNatClampNeg) σ hR
  refine ⟨τ, ?_, hT⟩
  unfold f_L_law_J817
  simp only [gd_t (vp1 hi hL), gd_t (vp2 hi hL), gd_t (vp3 hi hL), gd_t (vp4 hi hL)]
  have e1 : f_X10_fewest nmX (xs (nI i + 1).toNatClampNeg) (xs (nI i + 2).toNatClampNeg) (xs (nI i + 3).toNatClampNeg) (xs (nI i + 4).toNatClampNeg) σ = _ := e1
  have e2 : f_X11_fewest nmM (xs (nI i + 1).toNatClampNeg) (xs (nI i + 2).toNatClampNeg) (xs (nI i + 3).toNatClampNeg) (xs (nI i + 4).toNatClampNeg) σ1 = _ := e2
  rw [e1]
  simp only [Option.bind_some]
  rw [e2]
  simp only [Option.bind_some]
  rw [if_pos trivial, ni6]
theorem lc_22 (h : ∀ (a0 : Int32), sPP Rel (fun σ => f_X10_who nmX a0 σ) (fun σ => f_X11_who nmM a0 σ)) (hi : i + 6 ≤ L) (hL : L ≤ 3072) (hR : Rel σ) : ∃ τ, f_L_law_J870 L xs (nI i) σ = some (.inl (nI (i + 6), τ)) ∧ Rel τ := by
  obtain ⟨r, e1, e2⟩ := h (xs (nI i + 1).toNatClampNeg) σ hR
  refine ⟨σ, ?_, hR⟩
  unfold f_L_law_J870
  simp only [gd_t (vp1 hi hL)]
  have e1 : f_X10_who nmX (xs (nI i + 1).toNatClampNeg) σ = _ := e1
  have e2 : f_X11_who nmM (xs (nI i + 1).toNatClampNeg) σ = _ := e2
  rw [e1]
  simp only [Option.bind_some]
  rw [e2]
  simp only [Option.bind_some]
  rw [if_pos trivial, ni6]
theorem lc_23 (h : ∀ (a0 : Int32) (a1 : Int32), sIP Rel (fun σ => f_X10_where nmX a0 a1 σ) (fun σ => f_X11_where nmM a0 a1 σ)) (hi : i + 6 ≤ L) (hL : L ≤ 3072) (hR : Rel σ) : ∃ τ, f_L_law_J893 L xs (nI i) σ = some (.inl (nI (i + 6), τ)) ∧ Rel τ := by
  obtain ⟨r, σ1, e1, e2, hT⟩ := h (xs (nI i + 1).toNatClampNeg) (xs (nI i + 2).toNatClampNeg) σ hR
  refine ⟨σ1, ?_, hT⟩
  unfold f_L_law_J893
  simp only [gd_t (vp1 hi hL), gd_t (vp2 hi hL)]
  have e1 : f_X10_where nmX (xs (nI i + 1).toNatClampNeg) (xs (nI i + 2).toNatClampNeg) σ = _ := e1
  have e2 : f_X11_where nmM (xs (nI i + 1).toNatClampNeg) (xs (nI i + 2).toNatClampNeg) σ1 = _ := e2
  rw [e1]
  simp only [Option.bind_some]
  rw [e2]
  simp only [Option.bind_some]
  rw [if_pos trivial, ni6]
theorem lc_24 (h : ∀ (a0 : Int32) (a1 : Int32), sII Rel (fun σ => f_X10_file nmX a0 a1 σ) (fun σ => f_X11_file nmM a0 a1 σ)) (hi : i + 6 ≤ L) (hL : L ≤ 3072) (hR : Rel σ) : ∃ τ, f_L_law_J926 L xs (nI i) σ = some (.inl (nI (i + 6), τ)) ∧ Rel τ := by
  obtain ⟨r, σ1, τ, e1, e2, hT⟩ := h (xs (nI i + 1).toNatClampNeg) (xs (nI i + 2).toNatClampNeg) σ hR
  refine ⟨τ, ?_, hT⟩
  unfold f_L_law_J926
  simp only [gd_t (vp1 hi hL), gd_t (vp2 hi hL)]
  have e1 : f_X10_file nmX (xs (nI i + 1).toNatClampNeg) (xs (nI i + 2).toNatClampNeg) σ = _ := e1
  have e2 : f_X11_file nmM (xs (nI i + 1).toNatClampNeg) (xs (nI i + 2).toNatClampNeg) σ1 = _ := e2
  rw [e1]
  simp only [Option.bind_some]
  rw [e2]
  simp only [Option.bind_some]
  rw [if_pos trivial, ni6]
theorem lc_25 (h : ∀ (a0 : Int32), sII Rel (fun σ => f_X10_alone nmX a0 σ) (fun σ => f_X11_alone nmM a0 σ)) (hi : i + 6 ≤ L) (hL : L ≤ 3072) (hR : Rel σ) : ∃ τ, f_L_law_J959 L xs (nI i) σ = some (.inl (nI (i + 6), τ)) ∧ Rel τ := by
  obtain ⟨r, σ1, τ, e1, e2, hT⟩ := h (xs (nI i + 1).toNatClampNeg) σ hR
  refine ⟨τ, ?_, hT⟩
  unfold f_L_law_J959
  simp only [gd_t (vp1 hi hL)]
  have e1 : f_X10_alone nmX (xs (nI i + 1).toNatClampNeg) σ = _ := e1
  have e2 : f_X11_alone nmM (xs (nI i + 1).toNatClampNeg) σ1 = _ := e2
  rw [e1]
  simp only [Option.bind_some]
  rw [e2]
  simp only [Option.bind_some]
  rw [if_pos trivial, ni6]
theorem lc_26 (h : ∀ (a0 : Int32) (a1 : Int32) (a2 : Int32) (a3 : Int32), sII Rel (fun σ => f_X10_tuned nmX a0 a1 a2 a3 σ) (fun σ => f_X11_tuned nmM a0 a1 a2 a3 σ)) (hi : i + 6 ≤ L) (hL : L ≤ 3072) (hR : Rel σ) : ∃ τ, f_L_law_J982 L xs (nI i) σ = some (.inl (nI (i + 6), τ)) ∧ Rel τ := by
  obtain ⟨r, σ1, τ, e1, e2, hT⟩ := h (xs (nI i + 1).toNatClampNeg) (xs (nI i + 2).toNatClampNeg) (xs (nI i + 3).toNatClampNeg) (xs (nI i + 4).toNatClampNeg) σ hR
  refine ⟨τ, ?_, hT⟩
  unfold f_L_law_J982
  simp only [gd_t (vp1 hi hL), gd_t (vp2 hi hL), gd_t (vp3 hi hL), gd_t (vp4 hi hL)]
  have e1 : f_X10_tuned nmX (xs (nI i + 1).toNatClampNeg) (xs (nI i + 2).toNatClampNeg) (xs (nI i + 3).toNatClampNeg) (xs (nI i + 4).toNatClampNeg) σ = _ := e1
  have e2 : f_X11_tuned nmM (xs (nI i + 1).toNatClampNeg) (xs (nI i + 2).toNatClampNeg) (xs (nI i + 3).toNatClampNeg) (xs (nI i + 4).toNatClampNeg) σ1 = _ := e2
  rw [e1]
  simp only [Option.bind_some]
  rw [e2]
  simp only [Option.bind_some]
  rw [if_pos trivial, ni6]
theorem lc_27 (h : ∀ (a0 : Int32), sII Rel (fun σ => f_X10_flat nmX a0 σ) (fun σ => f_X11_flat nmM a0 σ)) (hi : i + 6 ≤ L) (hL : L ≤ 3072) (hR : Rel σ) : ∃ τ, f_L_law_J1035 L xs (nI i) σ = some (.inl (nI (i + 6), τ)) ∧ Rel τ := by
  obtain ⟨r, σ1, τ, e1, e2, hT⟩ := h (xs (nI i + 1).toNatClampNeg) σ hR
  refine ⟨τ, ?_, hT⟩
  unfold f_L_law_J1035
  simp only [gd_t (vp1 hi hL)]
  have e1 : f_X10_flat nmX (xs (nI i + 1).toNatClampNeg) σ = _ := e1
  have e2 : f_X11_flat nmM (xs (nI i + 1).toNatClampNeg) σ1 = _ := e2
  rw [e1]
  simp only [Option.bind_some]
  rw [e2]
  simp only [Option.bind_some]
  rw [if_pos trivial, ni6]
theorem lc_28 (h : ∀ (a0 : Int32), sII Rel (fun σ => f_X10_log nmX a0 σ) (fun σ => f_X11_log nmM a0 σ)) (hi : i + 6 ≤ L) (hL : L ≤ 3072) (hR : Rel σ) : ∃ τ, f_L_law_J1058 L xs (nI i) σ = some (.inl (nI (i + 6), τ)) ∧ Rel τ := by
  obtain ⟨r, σ1, τ, e1, e2, hT⟩ := h (xs (nI i + 1).toNatClampNeg) σ hR
  refine ⟨τ, ?_, hT⟩
  unfold f_L_law_J1058
  simp only [gd_t (vp1 hi hL)]
  have e1 : f_X10_log nmX (xs (nI i + 1).toNatClampNeg) σ = _ := e1
  have e2 : f_X11_log nmM (xs (nI i + 1).toNatClampNeg) σ1 = _ := e2
  rw [e1]
  simp only [Option.bind_some]
  rw [e2]
  simp only [Option.bind_some]
  rw [if_pos trivial, ni6]
theorem lc_29 (h : sII Rel (fun σ => f_X10_clear nmX σ) (fun σ => f_X11_clear nmM σ)) (hi : i + 6 ≤ L) (hL : L ≤ 3072) (hR : Rel σ) : ∃ τ, f_L_law_J1081 L xs (nI i) σ = some (.inl (nI (i + 6), τ)) ∧ Rel τ := by
  obtain ⟨r, σ1, τ, e1, e2, hT⟩ := h  σ hR
  refine ⟨τ, ?_, hT⟩
  unfold f_L_law_J1081
  have e1 : f_X10_clear nmX σ = _ := e1
  have e2 : f_X11_clear nmM σ1 = _ := e2
  rw [e1]
  simp only [Option.bind_some]
  rw [e2]
  simp only [Option.bind_some]
  rw [if_pos trivial, ni6]
theorem lc_30 (h : sII Rel (fun σ => f_X10_judge nmX σ) (fun σ => f_X11_judge nmM σ)) (hi : i + 6 ≤ L) (hL : L ≤ 3072) (hR : Rel σ) : ∃ τ, f_L_law_J1094 L xs (nI i) σ = some (.inl (nI (i + 6), τ)) ∧ Rel τ := by
  obtain ⟨r, σ1, τ, e1, e2, hT⟩ := h  σ hR
  refine ⟨τ, ?_, hT⟩
  unfold f_L_law_J1094
  have e1 : f_X10_judge nmX σ = _ := e1
  have e2 : f_X11_judge nmM σ1 = _ := e2
  rw [e1]
  simp only [Option.bind_some]
  rw [e2]
  simp only [Option.bind_some]
  rw [if_pos trivial, ni6]
theorem lc_31 (h : ∀ (a0 : Int32), sII Rel (fun σ => f_X10_seed nmX a0 σ) (fun σ => f_X11_seed nmM a0 σ)) (hi : i + 6 ≤ L) (hL : L ≤ 3072) (hR : Rel σ) : ∃ τ, f_L_law_J1107 L xs (nI i) σ = some (.inl (nI (i + 6), τ)) ∧ Rel τ := by
  obtain ⟨r, σ1, τ, e1, e2, hT⟩ := h (xs (nI i + 1).toNatClampNeg) σ hR
  refine ⟨τ, ?_, hT⟩
  unfold f_L_law_J1107
  simp only [gd_t (vp1 hi hL)]
  have e1 : f_X10_seed nmX (xs (nI i + 1).toNatClampNeg) σ = _ := e1
  have e2 : f_X11_seed nmM (xs (nI i + 1).toNatClampNeg) σ1 = _ := e2
  rw [e1]
  simp only [Option.bind_some]
  rw [e2]
  simp only [Option.bind_some]
  rw [if_pos trivial, ni6]
theorem lc_32 (h : ∀ (a0 : Int32), sII Rel (fun σ => f_X10_keep nmX a0 σ) (fun σ => f_X11_keep nmM a0 σ)) (hi : i + 6 ≤ L) (hL : L ≤ 3072) (hR : Rel σ) : ∃ τ, f_L_law_J1130 L xs (nI i) σ = some (.inl (nI (i + 6), τ)) ∧ Rel τ := by
  obtain ⟨r, σ1, τ, e1, e2, hT⟩ := h (xs (nI i + 1).toNatClampNeg) σ hR
  refine ⟨τ, ?_, hT⟩
  unfold f_L_law_J1130
  simp only [gd_t (vp1 hi hL)]
  have e1 : f_X10_keep nmX (xs (nI i + 1).toNatClampNeg) σ = _ := e1
  have e2 : f_X11_keep nmM (xs (nI i + 1).toNatClampNeg) σ1 = _ := e2
  rw [e1]
  simp only [Option.bind_some]
  rw [e2]
  simp only [Option.bind_some]
  rw [if_pos trivial, ni6]
theorem lc_33 (h : ∀ (a0 : Int32), sII Rel (fun σ => f_X10_goBack nmX a0 σ) (fun σ => f_X11_goBack nmM a0 σ)) (hi : i + 6 ≤ L) (hL : L ≤ 3072) (hR : Rel σ) : ∃ τ, f_L_law_J1153 L xs (nI i) σ = some (.inl (nI (i + 6), τ)) ∧ Rel τ := by
  obtain ⟨r, σ1, τ, e1, e2, hT⟩ := h (xs (nI i + 1).toNatClampNeg) σ hR
  refine ⟨τ, ?_, hT⟩
  unfold f_L_law_J1153
  simp only [gd_t (vp1 hi hL)]
  have e1 : f_X10_goBack nmX (xs (nI i + 1).toNatClampNeg) σ = _ := e1
  have e2 : f_X11_goBack nmM (xs (nI i + 1).toNatClampNeg) σ1 = _ := e2
  rw [e1]
  simp only [Option.bind_some]
  rw [e2]
  simp only [Option.bind_some]
  rw [if_pos trivial, ni6]
end
theorem law_of (Rel : jS → Prop) (h0 : ∀ (a0 : Int32) (a1 : Int64), sII Rel (fun σ => f_X10_feed nmX a0 a1 σ) (fun σ => f_X11_feed nmM a0 a1 σ))
    (h1 : sII Rel (fun σ => f_X10_quay nmX σ) (fun σ => f_X11_quay nmM σ))
    (h2 : sII Rel (fun σ => f_X10_night nmX σ) (fun σ => f_X11_night nmM σ))
    (h3 : sII Rel (fun σ => f_X10_month nmX σ) (fun σ => f_X11_month nmM σ))
    (h4 : sPP Rel (fun σ => f_X10_fault nmX σ) (fun σ => f_X11_fault nmM σ))
    (h5 : ∀ (a0 : Int32), sPP Rel (fun σ => f_X10_told nmX a0 σ) (fun σ => f_X11_told nmM a0 σ))
    (h6 : ∀ (a0 : Int32) (a1 : Int32), sPP Rel (fun σ => f_X10_lamp nmX a0 a1 σ) (fun σ => f_X11_lamp nmM a0 a1 σ))
    (h7 : ∀ (a0 : Int32) (a1 : Int32), sPP Rel (fun σ => f_X10_singer nmX a0 a1 σ) (fun σ => f_X11_singer nmM a0 a1 σ))
    (h8 : ∀ (a0 : Int32) (a1 : Int32), sII Rel (fun σ => f_X10_weather nmX a0 a1 σ) (fun σ => f_X11_weather nmM a0 a1 σ))
    (h9 : ∀ (a0 : Int32) (a1 : Int32) (a2 : Int32), sPP Rel (fun σ => f_X10_wakes nmX a0 a1 a2 σ) (fun σ => f_X11_wakes nmM a0 a1 a2 σ))
    (h10 : ∀ (a0 : Int32) (a1 : Int32), sII Rel (fun σ => f_X10_hum nmX a0 a1 σ) (fun σ => f_X11_hum nmM a0 a1 σ))
    (h11 : ∀ (a0 : Int32), sII Rel (fun σ => f_X10_run nmX a0 σ) (fun σ => f_X11_run nmM a0 σ))
    (h12 : ∀ (a0 : Int32), sPP Rel (fun σ => f_X10_lit nmX a0 σ) (fun σ => f_X11_lit nmM a0 σ))
    (h13 : sII Rel (fun σ => f_X10_dark nmX σ) (fun σ => f_X11_dark nmM σ))
    (h14 : ∀ (a0 : Int32), sII Rel (fun σ => f_X10_sweep nmX a0 σ) (fun σ => f_X11_sweep nmM a0 σ))
    (h15 : ∀ (a0 : Int32), sII Rel (fun σ => f_X10_round nmX a0 σ) (fun σ => f_X11_round nmM a0 σ))
    (h16 : ∀ (a0 : Int32), sII Rel (fun σ => f_X10_signal nmX a0 σ) (fun σ => f_X11_signal nmM a0 σ))
    (h17 : sII Rel (fun σ => f_X10_forget nmX σ) (fun σ => f_X11_forget nmM σ))
    (h18 : sPP Rel (fun σ => f_X10_shows nmX σ) (fun σ => f_X11_shows nmM σ))
    (h19 : ∀ (a0 : Int32) (a1 : Int32) (a2 : Int64) (a3 : Int32), sII Rel (fun σ => f_X10_lured nmX a0 a1 a2 a3 σ) (fun σ => f_X11_lured nmM a0 a1 a2 a3 σ))
    (h20 : ∀ (a0 : Int64) (a1 : Int32) (a2 : Int32) (a3 : Int32), sII Rel (fun σ => f_X10_apart nmX a0 a1 a2 a3 σ) (fun σ => f_X11_apart nmM a0 a1 a2 a3 σ))
    (h21 : ∀ (a0 : Int32) (a1 : Int32) (a2 : Int32) (a3 : Int32), sII Rel (fun σ => f_X10_fewest nmX a0 a1 a2 a3 σ) (fun σ => f_X11_fewest nmM a0 a1 a2 a3 σ))
    (h22 : ∀ (a0 : Int32), sPP Rel (fun σ => f_X10_who nmX a0 σ) (fun σ => f_X11_who nmM a0 σ))
    (h23 : ∀ (a0 : Int32) (a1 : Int32), sIP Rel (fun σ => f_X10_where nmX a0 a1 σ) (fun σ => f_X11_where nmM a0 a1 σ))
    (h24 : ∀ (a0 : Int32) (a1 : Int32), sII Rel (fun σ => f_X10_file nmX a0 a1 σ) (fun σ => f_X11_file nmM a0 a1 σ))
    (h25 : ∀ (a0 : Int32), sII Rel (fun σ => f_X10_alone nmX a0 σ) (fun σ => f_X11_alone nmM a0 σ))
    (h26 : ∀ (a0 : Int32) (a1 : Int32) (a2 : Int32) (a3 : Int32), sII Rel (fun σ => f_X10_tuned nmX a0 a1 a2 a3 σ) (fun σ => f_X11_tuned nmM a0 a1 a2 a3 σ))
    (h27 : ∀ (a0 : Int32), sII Rel (fun σ => f_X10_flat nmX a0 σ) (fun σ => f_X11_flat nmM a0 σ))
    (h28 : ∀ (a0 : Int32), sII Rel (fun σ => f_X10_log nmX a0 σ) (fun σ => f_X11_log nmM a0 σ))
    (h29 : sII Rel (fun σ => f_X10_clear nmX σ) (fun σ => f_X11_clear nmM σ))
    (h30 : sII Rel (fun σ => f_X10_judge nmX σ) (fun σ => f_X11_judge nmM σ))
    (h31 : ∀ (a0 : Int32), sII Rel (fun σ => f_X10_seed nmX a0 σ) (fun σ => f_X11_seed nmM a0 σ))
    (h32 : ∀ (a0 : Int32), sII Rel (fun σ => f_X10_keep nmX a0 σ) (fun σ => f_X11_keep nmM a0 σ))
    (h33 : ∀ (a0 : Int32), sII Rel (fun σ => f_X10_goBack nmX a0 σ) (fun σ => f_X11_goBack nmM a0 σ)) {L : Nat} {xs : Nat → Int32} {σ : jS} (hL : L ≤ 3072) (hR : Rel σ) : f_L_law L xs σ = some 1 := by
  refine wp_eq ?_
  unfold f_L_law
  refine wp_bind ?_
  refine wp_lp (fun n s => ∃ i, i ≤ L ∧ n = L - i ∧ s.1 = nI i ∧ Rel s.2) (n := L) (by omega) ⟨0, by omega, by omega, rfl, hR⟩ ?_
  rintro n ⟨v, σ⟩ ⟨i, hi, rfl, hv, hR⟩
  have hv : v = nI i := hv
  subst hv
  have hR : Rel σ := hR
  unfold f_L_law_L18
  have hlen : nI L - 6 < nI i ↔ L < i + 6 := by
    rw [Int32.lt_iff_toInt_lt, nI_ti (by omega : i < 2147483648)]
    have h6 : (nI L - 6).toInt = (L : Int) - 6 := by
      rw [Int32.toInt_sub, nI_ti (by omega : L < 2147483648)]
      show ((L : Int) - 6).bmod (2 ^ 32) = _
      rw [Int.bmod_eq_of_le] <;> omega
    rw [h6]
    omega
  show wp (if nI L - 6 < nI i then _ else _) _
  refine wp_ite (fun h => ?_) (fun h => ?_)
  · exact wp_some (wp_some rfl)
  · have hi6 : i + 6 ≤ L := by
      have := mt hlen.mpr h
      omega
    refine wp_gd (vp0 hi6 hL) ?_
    refine wp_ite (fun _ => ?_) (fun _ => ?_)
    · obtain ⟨τ, e, hT⟩ := lc_0 (xs := xs) h0 hi6 hL hR
      exact wp_of e ⟨L - (i + 6), by omega, i + 6, by omega, rfl, rfl, hT⟩
    refine wp_ite (fun _ => ?_) (fun _ => ?_)
    · obtain ⟨τ, e, hT⟩ := lc_1 (xs := xs) h1 hi6 hL hR
      exact wp_of e ⟨L - (i + 6), by omega, i + 6, by omega, rfl, rfl, hT⟩
    refine wp_ite (fun _ => ?_) (fun _ => ?_)
    · obtain ⟨τ, e, hT⟩ := lc_2 (xs := xs) h2 hi6 hL hR
      exact wp_of e ⟨L - (i + 6), by omega, i + 6, by omega, rfl, rfl, hT⟩
    refine wp_ite (fun _ => ?_) (fun _ => ?_)
    · obtain ⟨τ, e, hT⟩ := lc_3 (xs := xs) h3 hi6 hL hR
      exact wp_of e ⟨L - (i + 6), by omega, i + 6, by omega, rfl, rfl, hT⟩
    refine wp_ite (fun _ => ?_) (fun _ => ?_)
    · obtain ⟨τ, e, hT⟩ := lc_4 (xs := xs) h4 hi6 hL hR
      exact wp_of e ⟨L - (i + 6), by omega, i + 6, by omega, rfl, rfl, hT⟩
    refine wp_ite (fun _ => ?_) (fun _ => ?_)
    · obtain ⟨τ, e, hT⟩ := lc_5 (xs := xs) h5 hi6 hL hR
      exact wp_of e ⟨L - (i + 6), by omega, i + 6, by omega, rfl, rfl, hT⟩
    refine wp_ite (fun _ => ?_) (fun _ => ?_)
    · obtain ⟨τ, e, hT⟩ := lc_6 (xs := xs) h6 hi6 hL hR
      exact wp_of e ⟨L - (i + 6), by omega, i + 6, by omega, rfl, rfl, hT⟩
    refine wp_ite (fun _ => ?_) (fun _ => ?_)
    · obtain ⟨τ, e, hT⟩ := lc_7 (xs := xs) h7 hi6 hL hR
      exact wp_of e ⟨L - (i + 6), by omega, i + 6, by omega, rfl, rfl, hT⟩
    refine wp_ite (fun _ => ?_) (fun _ => ?_)
    · obtain ⟨τ, e, hT⟩ := lc_8 (xs := xs) h8 hi6 hL hR
      exact wp_of e ⟨L - (i + 6), by omega, i + 6, by omega, rfl, rfl, hT⟩
    refine wp_ite (fun _ => ?_) (fun _ => ?_)
    · obtain ⟨τ, e, hT⟩ := lc_9 (xs := xs) h9 hi6 hL hR
      exact wp_of e ⟨L - (i + 6), by omega, i + 6, by omega, rfl, rfl, hT⟩
    refine wp_ite (fun _ => ?_) (fun _ => ?_)
    · obtain ⟨τ, e, hT⟩ := lc_10 (xs := xs) h10 hi6 hL hR
      exact wp_of e ⟨L - (i + 6), by omega, i + 6, by omega, rfl, rfl, hT⟩
    refine wp_ite (fun _ => ?_) (fun _ => ?_)
    · obtain ⟨τ, e, hT⟩ := lc_11 (xs := xs) h11 hi6 hL hR
      exact wp_of e ⟨L - (i + 6), by omega, i + 6, by omega, rfl, rfl, hT⟩
    refine wp_ite (fun _ => ?_) (fun _ => ?_)
    · obtain ⟨τ, e, hT⟩ := lc_12 (xs := xs) h12 hi6 hL hR
      exact wp_of e ⟨L - (i + 6), by omega, i + 6, by omega, rfl, rfl, hT⟩
    refine wp_ite (fun _ => ?_) (fun _ => ?_)
    · obtain ⟨τ, e, hT⟩ := lc_13 (xs := xs) h13 hi6 hL hR
      exact wp_of e ⟨L - (i + 6), by omega, i + 6, by omega, rfl, rfl, hT⟩
    refine wp_ite (fun _ => ?_) (fun _ => ?_)
    · obtain ⟨τ, e, hT⟩ := lc_14 (xs := xs) h14 hi6 hL hR
      exact wp_of e ⟨L - (i + 6), by omega, i + 6, by omega, rfl, rfl, hT⟩
    refine wp_ite (fun _ => ?_) (fun _ => ?_)
    · obtain ⟨τ, e, hT⟩ := lc_15 (xs := xs) h15 hi6 hL hR
      exact wp_of e ⟨L - (i + 6), by omega, i + 6, by omega, rfl, rfl, hT⟩
    refine wp_ite (fun _ => ?_) (fun _ => ?_)
    · obtain ⟨τ, e, hT⟩ := lc_16 (xs := xs) h16 hi6 hL hR
      exact wp_of e ⟨L - (i + 6), by omega, i + 6, by omega, rfl, rfl, hT⟩
    refine wp_ite (fun _ => ?_) (fun _ => ?_)
    · obtain ⟨τ, e, hT⟩ := lc_17 (xs := xs) h17 hi6 hL hR
      exact wp_of e ⟨L - (i + 6), by omega, i + 6, by omega, rfl, rfl, hT⟩
    refine wp_ite (fun _ => ?_) (fun _ => ?_)
    · obtain ⟨τ, e, hT⟩ := lc_18 (xs := xs) h18 hi6 hL hR
      exact wp_of e ⟨L - (i + 6), by omega, i + 6, by omega, rfl, rfl, hT⟩
    refine wp_ite (fun _ => ?_) (fun _ => ?_)
    · obtain ⟨τ, e, hT⟩ := lc_19 (xs := xs) h19 hi6 hL hR
      exact wp_of e ⟨L - (i + 6), by omega, i + 6, by omega, rfl, rfl, hT⟩
    refine wp_ite (fun _ => ?_) (fun _ => ?_)
    · obtain ⟨τ, e, hT⟩ := lc_20 (xs := xs) h20 hi6 hL hR
      exact wp_of e ⟨L - (i + 6), by omega, i + 6, by omega, rfl, rfl, hT⟩
    refine wp_ite (fun _ => ?_) (fun _ => ?_)
    · obtain ⟨τ, e, hT⟩ := lc_21 (xs := xs) h21 hi6 hL hR
      exact wp_of e ⟨L - (i + 6), by omega, i + 6, by omega, rfl, rfl, hT⟩
    refine wp_ite (fun _ => ?_) (fun _ => ?_)
    · obtain ⟨τ, e, hT⟩ := lc_22 (xs := xs) h22 hi6 hL hR
      exact wp_of e ⟨L - (i + 6), by omega, i + 6, by omega, rfl, rfl, hT⟩
    refine wp_ite (fun _ => ?_) (fun _ => ?_)
    · obtain ⟨τ, e, hT⟩ := lc_23 (xs := xs) h23 hi6 hL hR
      exact wp_of e ⟨L - (i + 6), by omega, i + 6, by omega, rfl, rfl, hT⟩
    refine wp_ite (fun _ => ?_) (fun _ => ?_)
    · obtain ⟨τ, e, hT⟩ := lc_24 (xs := xs) h24 hi6 hL hR
      exact wp_of e ⟨L - (i + 6), by omega, i + 6, by omega, rfl, rfl, hT⟩
    refine wp_ite (fun _ => ?_) (fun _ => ?_)
    · obtain ⟨τ, e, hT⟩ := lc_25 (xs := xs) h25 hi6 hL hR
      exact wp_of e ⟨L - (i + 6), by omega, i + 6, by omega, rfl, rfl, hT⟩
    refine wp_ite (fun _ => ?_) (fun _ => ?_)
    · obtain ⟨τ, e, hT⟩ := lc_26 (xs := xs) h26 hi6 hL hR
      exact wp_of e ⟨L - (i + 6), by omega, i + 6, by omega, rfl, rfl, hT⟩
    refine wp_ite (fun _ => ?_) (fun _ => ?_)
    · obtain ⟨τ, e, hT⟩ := lc_27 (xs := xs) h27 hi6 hL hR
      exact wp_of e ⟨L - (i + 6), by omega, i + 6, by omega, rfl, rfl, hT⟩
    refine wp_ite (fun _ => ?_) (fun _ => ?_)
    · obtain ⟨τ, e, hT⟩ := lc_28 (xs := xs) h28 hi6 hL hR
      exact wp_of e ⟨L - (i + 6), by omega, i + 6, by omega, rfl, rfl, hT⟩
    refine wp_ite (fun _ => ?_) (fun _ => ?_)
    · obtain ⟨τ, e, hT⟩ := lc_29 (xs := xs) h29 hi6 hL hR
      exact wp_of e ⟨L - (i + 6), by omega, i + 6, by omega, rfl, rfl, hT⟩
    refine wp_ite (fun _ => ?_) (fun _ => ?_)
    · obtain ⟨τ, e, hT⟩ := lc_30 (xs := xs) h30 hi6 hL hR
      exact wp_of e ⟨L - (i + 6), by omega, i + 6, by omega, rfl, rfl, hT⟩
    refine wp_ite (fun _ => ?_) (fun _ => ?_)
    · obtain ⟨τ, e, hT⟩ := lc_31 (xs := xs) h31 hi6 hL hR
      exact wp_of e ⟨L - (i + 6), by omega, i + 6, by omega, rfl, rfl, hT⟩
    refine wp_ite (fun _ => ?_) (fun _ => ?_)
    · obtain ⟨τ, e, hT⟩ := lc_32 (xs := xs) h32 hi6 hL hR
      exact wp_of e ⟨L - (i + 6), by omega, i + 6, by omega, rfl, rfl, hT⟩
    refine wp_ite (fun _ => ?_) (fun _ => ?_)
    · obtain ⟨τ, e, hT⟩ := lc_33 (xs := xs) h33 hi6 hL hR
      exact wp_of e ⟨L - (i + 6), by omega, i + 6, by omega, rfl, rfl, hT⟩
    rw [ni6]
    exact wp_some ⟨L - (i + 6), by omega, i + 6, by omega, rfl, rfl, hR⟩
