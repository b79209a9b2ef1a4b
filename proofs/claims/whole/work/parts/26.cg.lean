/-! outside of the places of W nothing is other -/
def ux (W : Nat → Nat → Bool) (σ τ : jS) : Prop := ∀ a k, W a k = false → g_i τ a k = g_i σ a k
theorem ux_refl (W : Nat → Nat → Bool) (σ : jS) : ux W σ σ := fun _ _ _ => rfl
theorem ux_trans {V W : Nat → Nat → Bool} {σ τ υ : jS} (h1 : ux V σ τ) (h2 : ux W τ υ) : ux (fun a k => V a k || W a k) σ υ := fun a k h => by
  have h := Bool.or_eq_false_iff.mp h
  exact (h2 a k h.2).trans (h1 a k h.1)
theorem ux_tr {W : Nat → Nat → Bool} {σ τ υ : jS} (h1 : ux W σ τ) (h2 : ux W τ υ) : ux W σ υ := fun a k h => (h2 a k h).trans (h1 a k h)
theorem ux_s {W : Nat → Nat → Bool} {σ τ : jS} (h : ux W σ τ) {a k : Nat} {v : Int32} (ha : W a k = true) : ux W σ (s_i τ a k v) := fun b j hb => by
  rw [s_i_ne (fun z => by rw [z.1, z.2, ha] at hb; cases hb)]; exact h b j hb
theorem ux_l {W : Nat → Nat → Bool} {σ τ : jS} (h : ux W σ τ) {a k : Nat} {v : Int64} : ux W σ (s_l τ a k v) := fun b j hb => h b j hb
theorem ux_w {V W : Nat → Nat → Bool} {σ τ : jS} (h : ux V σ τ) (hs : ∀ a k, W a k = false → V a k = false) : ux W σ τ := fun a k hk => h a k (hs a k hk)
def ok_RSite (W : Nat → Nat → Bool) : Prop := (∀ k, W (31) k = false) ∧ (∀ k, W (32) k = false) ∧ (∀ k, W (33) k = false) ∧ (∀ k, W (34) k = false) ∧ (∀ k, W (36) k = false) ∧ (∀ k, W (37) k = false) ∧ (∀ k, W (38) k = false) ∧ (∀ k, W (39) k = false) ∧ (∀ k, W (40) k = false) ∧ (∀ k, W (41) k = false) ∧ (∀ k, W (42) k = false) ∧ (∀ k, W (43) k = false) ∧ (∀ k, W (44) k = false) ∧ (∀ k, W (45) k = false) ∧ (∀ k, W (46) k = false) ∧ (∀ k, W (47) k = false) ∧ (∀ k, W (106) k = false) ∧ W (101) (0) = false ∧ W (101) (5) = false ∧ W (101) (6) = false ∧ W (101) (7) = false ∧ W (101) (8) = false
theorem RSite.cg {W : Nat → Nat → Bool} {σ τ : jS} {n m : Nat} (hu : ux W σ τ) (hw : ok_RSite W) (h102 : ∀ l, l < n → W 102 (4 * l) = false ∧ W 102 (4 * l + 2) = false ∧ W 102 (4 * l + 3) = false) (h : RSite n m σ) : RSite n m τ := by
  obtain ⟨w0, w1, w2, w3, w4, w5, w6, w7, w8, w9, w10, w11, w12, w13, w14, w15, w16, w17, w18, w19, w20, w21⟩ := hw
  have e0 : ∀ k, g_i τ (31) k = g_i σ (31) k := fun k => hu _ k (w0 k)
  have e1 : ∀ k, g_i τ (32) k = g_i σ (32) k := fun k => hu _ k (w1 k)
  have e2 : ∀ k, g_i τ (33) k = g_i σ (33) k := fun k => hu _ k (w2 k)
  have e3 : ∀ k, g_i τ (34) k = g_i σ (34) k := fun k => hu _ k (w3 k)
  have e4 : ∀ k, g_i τ (36) k = g_i σ (36) k := fun k => hu _ k (w4 k)
  have e5 : ∀ k, g_i τ (37) k = g_i σ (37) k := fun k => hu _ k (w5 k)
  have e6 : ∀ k, g_i τ (38) k = g_i σ (38) k := fun k => hu _ k (w6 k)
  have e7 : ∀ k, g_i τ (39) k = g_i σ (39) k := fun k => hu _ k (w7 k)
  have e8 : ∀ k, g_i τ (40) k = g_i σ (40) k := fun k => hu _ k (w8 k)
  have e9 : ∀ k, g_i τ (41) k = g_i σ (41) k := fun k => hu _ k (w9 k)
  have e10 : ∀ k, g_i τ (42) k = g_i σ (42) k := fun k => hu _ k (w10 k)
  have e11 : ∀ k, g_i τ (43) k = g_i σ (43) k := fun k => hu _ k (w11 k)
  have e12 : ∀ k, g_i τ (44) k = g_i σ (44) k := fun k => hu _ k (w12 k)
  have e13 : ∀ k, g_i τ (45) k = g_i σ (45) k := fun k => hu _ k (w13 k)
  have e14 : ∀ k, g_i τ (46) k = g_i σ (46) k := fun k => hu _ k (w14 k)
  have e15 : ∀ k, g_i τ (47) k = g_i σ (47) k := fun k => hu _ k (w15 k)
  have e16 : ∀ k, g_i τ (106) k = g_i σ (106) k := fun k => hu _ k (w16 k)
  have e17 : g_i τ (101) (0) = g_i σ (101) (0) := hu _ _ w17
  have e18 : g_i τ (101) (5) = g_i σ (101) (5) := hu _ _ w18
  have e19 : g_i τ (101) (6) = g_i σ (101) (6) := hu _ _ w19
  have e20 : g_i τ (101) (7) = g_i σ (101) (7) := hu _ _ w20
  have e21 : g_i τ (101) (8) = g_i σ (101) (8) := hu _ _ w21
  unfold RSite at h ⊢
  simp only [e0, e1, e2, e3, e4, e5, e6, e7, e8, e9, e10, e11, e12, e13, e14, e15, e16, e17, e18, e19, e20, e21]
  obtain ⟨q1, q2, q3, q4, q5, q6, q7, q8⟩ := h
  refine ⟨q1, q2, q3, q4, q5, q6, fun l hl => ?_, q8⟩
  obtain ⟨z0, z2, z3⟩ := h102 l hl
  rw [hu 102 (4 * l) z0, hu 102 (4 * l + 2) z2, hu 102 (4 * l + 3) z3]
  exact q7 l hl
def ok_RMom (W : Nat → Nat → Bool) (b : Nat) : Prop := (∀ k, W (b + 1) k = false) ∧ (∀ k, W (b + 2) k = false) ∧ (∀ k, W (b + 3) k = false) ∧ W (b) (6) = false ∧ W (b) (7) = false ∧ W (b) (8) = false
theorem RMom.cg {W : Nat → Nat → Bool} {σ τ : jS} {n b : Nat} (hu : ux W σ τ) (hw : ok_RMom W b) (h : RMom n b σ) : RMom n b τ := by
  obtain ⟨w0, w1, w2, w3, w4, w5⟩ := hw
  have e0 : ∀ k, g_i τ (b + 1) k = g_i σ (b + 1) k := fun k => hu _ k (w0 k)
  have e1 : ∀ k, g_i τ (b + 2) k = g_i σ (b + 2) k := fun k => hu _ k (w1 k)
  have e2 : ∀ k, g_i τ (b + 3) k = g_i σ (b + 3) k := fun k => hu _ k (w2 k)
  have e3 : g_i τ (b) (6) = g_i σ (b) (6) := hu _ _ w3
  have e4 : g_i τ (b) (7) = g_i σ (b) (7) := hu _ _ w4
  have e5 : g_i τ (b) (8) = g_i σ (b) (8) := hu _ _ w5
  unfold RMom at h ⊢
  simp only [e0, e1, e2, e3, e4, e5]
  exact h
def ok_RNow (W : Nat → Nat → Bool) : Prop := (∀ k, W (58) k = false) ∧ (∀ k, W (59) k = false) ∧ (∀ k, W (60) k = false) ∧ (∀ k, W (61) k = false) ∧ (∀ k, W (103) k = false) ∧ (∀ k, W (104) k = false) ∧ (∀ k, W (105) k = false) ∧ W (57) (5) = false ∧ W (57) (6) = false ∧ W (57) (7) = false ∧ W (57) (8) = false ∧ W (101) (14) = false ∧ W (101) (15) = false ∧ W (101) (16) = false ∧ W (101) (17) = false
theorem RNow.cg {W : Nat → Nat → Bool} {σ τ : jS} {n : Nat} (hu : ux W σ τ) (hw : ok_RNow W) (h102 : ∀ l, l < n → W 102 (4 * l + 1) = false) (h : RNow n σ) : RNow n τ := by
  obtain ⟨w0, w1, w2, w3, w4, w5, w6, w7, w8, w9, w10, w11, w12, w13, w14⟩ := hw
  obtain ⟨h1, h2, h3, h4, h5, h6, h7⟩ := h
  refine ⟨RMom.cg hu ⟨w0, w1, w2, w8, w9, w10⟩ h1, fun l hl => ?_, fun l hl => ?_, ?_, ?_, ?_, ?_⟩
  · rw [hu 102 (4 * l + 1) (h102 l hl), hu 58 l (w0 l)]; exact h2 l hl
  · rw [hu 103 l (w4 l), hu 104 l (w5 l), hu 105 l (w6 l), hu 59 l (w1 l), hu 60 l (w2 l), hu 61 l (w3 l)]; exact h3 l hl
  · rw [hu 101 14 w11, hu 57 5 w7]; exact h4
  · rw [hu 101 15 w12, hu 57 6 w8]; exact h5
  · rw [hu 101 16 w13, hu 57 7 w9]; exact h6
  · rw [hu 101 17 w14, hu 57 8 w10]; exact h7
def ok_RImg (W : Nat → Nat → Bool) (b : Nat) : Prop := (∀ k, W (b) k = false) ∧ (∀ k, W (b + 1) k = false) ∧ (∀ k, W (b + 2) k = false) ∧ (∀ k, W (b + 3) k = false) ∧ (∀ k, W (b + 4) k = false) ∧ (∀ k, W (126) k = false) ∧ (∀ k, W (127) k = false)
theorem RImg.cg {W : Nat → Nat → Bool} {σ τ : jS} {n b i : Nat} (hu : ux W σ τ) (hw : ok_RImg W b) (h : RImg n b i σ) : RImg n b i τ := by
  obtain ⟨w0, w1, w2, w3, w4, w5, w6⟩ := hw
  have e0 : ∀ k, g_i τ (b) k = g_i σ (b) k := fun k => hu _ k (w0 k)
  have e1 : ∀ k, g_i τ (b + 1) k = g_i σ (b + 1) k := fun k => hu _ k (w1 k)
  have e2 : ∀ k, g_i τ (b + 2) k = g_i σ (b + 2) k := fun k => hu _ k (w2 k)
  have e3 : ∀ k, g_i τ (b + 3) k = g_i σ (b + 3) k := fun k => hu _ k (w3 k)
  have e4 : ∀ k, g_i τ (b + 4) k = g_i σ (b + 4) k := fun k => hu _ k (w4 k)
  have e5 : ∀ k, g_i τ (126) k = g_i σ (126) k := fun k => hu _ k (w5 k)
  have e6 : ∀ k, g_i τ (127) k = g_i σ (127) k := fun k => hu _ k (w6 k)
  unfold RImg at h ⊢
  simp only [e0, e1, e2, e3, e4, e5, e6]
  rcases h with h | ⟨h1, h2, h3, h4⟩
  · exact Or.inl h
  · exact Or.inr ⟨h1, h2, RMom.cg hu ⟨w1, w2, w3, w0 6, w0 7, w0 8⟩ h3, h4⟩
def ok_RSongs (W : Nat → Nat → Bool) : Prop := (∀ k, W (49) k = false) ∧ (∀ k, W (50) k = false) ∧ (∀ k, W (51) k = false) ∧ (∀ k, W (52) k = false) ∧ (∀ k, W (53) k = false) ∧ (∀ k, W (54) k = false) ∧ (∀ k, W (107) k = false) ∧ W (101) (10) = false
theorem RSongs.cg {W : Nat → Nat → Bool} {σ τ : jS} {m : Nat} (hu : ux W σ τ) (hw : ok_RSongs W) (h : RSongs m σ) : RSongs m τ := by
  obtain ⟨w0, w1, w2, w3, w4, w5, w6, w7⟩ := hw
  have e0 : ∀ k, g_i τ (49) k = g_i σ (49) k := fun k => hu _ k (w0 k)
  have e1 : ∀ k, g_i τ (50) k = g_i σ (50) k := fun k => hu _ k (w1 k)
  have e2 : ∀ k, g_i τ (51) k = g_i σ (51) k := fun k => hu _ k (w2 k)
  have e3 : ∀ k, g_i τ (52) k = g_i σ (52) k := fun k => hu _ k (w3 k)
  have e4 : ∀ k, g_i τ (53) k = g_i σ (53) k := fun k => hu _ k (w4 k)
  have e5 : ∀ k, g_i τ (54) k = g_i σ (54) k := fun k => hu _ k (w5 k)
  have e6 : ∀ k, g_i τ (107) k = g_i σ (107) k := fun k => hu _ k (w6 k)
  have e7 : g_i τ (101) (10) = g_i σ (101) (10) := hu _ _ w7
  unfold RSongs at h ⊢
  simp only [e0, e1, e2, e3, e4, e5, e6, e7]
  exact h
def ok_RDays (W : Nat → Nat → Bool) : Prop := (∀ k, W (55) k = false) ∧ (∀ k, W (56) k = false) ∧ (∀ k, W (108) k = false) ∧ W (101) (12) = false
theorem RDays.cg {W : Nat → Nat → Bool} {σ τ : jS} (hu : ux W σ τ) (hw : ok_RDays W) (h : RDays σ) : RDays τ := by
  obtain ⟨w0, w1, w2, w3⟩ := hw
  have e0 : ∀ k, g_i τ (55) k = g_i σ (55) k := fun k => hu _ k (w0 k)
  have e1 : ∀ k, g_i τ (56) k = g_i σ (56) k := fun k => hu _ k (w1 k)
  have e2 : ∀ k, g_i τ (108) k = g_i σ (108) k := fun k => hu _ k (w2 k)
  have e3 : g_i τ (101) (12) = g_i σ (101) (12) := hu _ _ w3
  unfold RDays at h ⊢
  simp only [e0, e1, e2, e3]
  exact h
def ok_RSig (W : Nat → Nat → Bool) : Prop := (∀ k, W (77) k = false) ∧ (∀ k, W (78) k = false) ∧ (∀ k, W (116) k = false) ∧ W (101) (38) = false
theorem RSig.cg {W : Nat → Nat → Bool} {σ τ : jS} {n : Nat} (hu : ux W σ τ) (hw : ok_RSig W) (h : RSig n σ) : RSig n τ := by
  obtain ⟨w0, w1, w2, w3⟩ := hw
  have e0 : ∀ k, g_i τ (77) k = g_i σ (77) k := fun k => hu _ k (w0 k)
  have e1 : ∀ k, g_i τ (78) k = g_i σ (78) k := fun k => hu _ k (w1 k)
  have e2 : ∀ k, g_i τ (116) k = g_i σ (116) k := fun k => hu _ k (w2 k)
  have e3 : g_i τ (101) (38) = g_i σ (101) (38) := hu _ _ w3
  unfold RSig at h ⊢
  simp only [e0, e1, e2, e3]
  exact h
def ok_RLog (W : Nat → Nat → Bool) : Prop := (∀ k, W (79) k = false) ∧ (∀ k, W (80) k = false) ∧ (∀ k, W (124) k = false) ∧ W (101) (47) = false
theorem RLog.cg {W : Nat → Nat → Bool} {σ τ : jS} (hu : ux W σ τ) (hw : ok_RLog W) (h : RLog σ) : RLog τ := by
  obtain ⟨w0, w1, w2, w3⟩ := hw
  have e0 : ∀ k, g_i τ (79) k = g_i σ (79) k := fun k => hu _ k (w0 k)
  have e1 : ∀ k, g_i τ (80) k = g_i σ (80) k := fun k => hu _ k (w1 k)
  have e2 : ∀ k, g_i τ (124) k = g_i σ (124) k := fun k => hu _ k (w2 k)
  have e3 : g_i τ (101) (47) = g_i σ (101) (47) := hu _ _ w3
  unfold RLog at h ⊢
  simp only [e0, e1, e2, e3]
  exact h
def ok_RText (W : Nat → Nat → Bool) : Prop := (∀ k, W (1) k = false) ∧ (∀ k, W (2) k = false) ∧ (∀ k, W (109) k = false) ∧ W (101) (19) = false
theorem RText.cg {W : Nat → Nat → Bool} {σ τ : jS} (hu : ux W σ τ) (hw : ok_RText W) (h : RText σ) : RText τ := by
  obtain ⟨w0, w1, w2, w3⟩ := hw
  have e0 : ∀ k, g_i τ (1) k = g_i σ (1) k := fun k => hu _ k (w0 k)
  have e1 : ∀ k, g_i τ (2) k = g_i σ (2) k := fun k => hu _ k (w1 k)
  have e2 : ∀ k, g_i τ (109) k = g_i σ (109) k := fun k => hu _ k (w2 k)
  have e3 : g_i τ (101) (19) = g_i σ (101) (19) := hu _ _ w3
  unfold RText at h ⊢
  simp only [e0, e1, e2, e3]
  exact h
def ok_RFault (W : Nat → Nat → Bool) : Prop := W (30) (5) = false ∧ W (101) (20) = false
theorem RFault.cg {W : Nat → Nat → Bool} {σ τ : jS} (hu : ux W σ τ) (hw : ok_RFault W) (h : RFault σ) : RFault τ := by
  obtain ⟨w0, w1⟩ := hw
  have e0 : g_i τ (30) (5) = g_i σ (30) (5) := hu _ _ w0
  have e1 : g_i τ (101) (20) = g_i σ (101) (20) := hu _ _ w1
  unfold RFault at h ⊢
  simp only [e0, e1]
  exact h
def ok_RTour (W : Nat → Nat → Bool) : Prop := (∀ k, W (91) k = false) ∧ (∀ k, W (96) k = false) ∧ (∀ k, W (97) k = false) ∧ (∀ k, W (33) k = false) ∧ (∀ k, W (37) k = false) ∧ (∀ k, W (39) k = false) ∧ (∀ k, W (58) k = false) ∧ W (31) (10) = false ∧ W (57) (6) = false
theorem hd_cg {σ τ : jS} {b : Nat} {p nt lo : Int} {l : Nat} (h0 : g_i τ (b + 1) l = g_i σ (b + 1) l) (h1 : g_i τ 39 l = g_i σ 39 l) (h2 : g_i τ b 6 = g_i σ b 6) (h3 : g_i τ 37 l = g_i σ 37 l) (h4 : g_i τ 33 l = g_i σ 33 l) : hd τ b p nt lo l = hd σ b p nt lo l := by
  unfold hd; rw [h0, h1, h2, h3, h4]
theorem Wn_cg {σ τ : jS} {n : Nat} (h0 : ∀ l, l < n → g_i τ 58 l = g_i σ 58 l) (h1 : ∀ l, l < n → g_i τ 39 l = g_i σ 39 l) (h2 : g_i τ 57 6 = g_i σ 57 6) (h3 : ∀ l, l < n → g_i τ 37 l = g_i σ 37 l) (h4 : ∀ l, l < n → g_i τ 33 l = g_i σ 33 l) (h5 : g_i τ 31 10 = g_i σ 31 10) : Wn τ n = Wn σ n := by
  funext p nt
  unfold Wn
  rw [h5]
  exact bs_cong (fun l hl => hd_cg (h0 l hl) (h1 l hl) h2 (h3 l hl) (h4 l hl))
theorem RTour.cg {W : Nat → Nat → Bool} {σ τ : jS} {n : Nat} (hu : ux W σ τ) (hw : ok_RTour W) (h : RTour n σ) : RTour n τ := by
  obtain ⟨w0, w1, w2, w3, w4, w5, w6, w7, w8⟩ := hw
  have e97 : g_i τ 97 = g_i σ 97 := funext (fun k => hu 97 k (w2 k))
  unfold RTour at h ⊢
  rw [hu 91 7 (w0 7), hu 91 6 (w0 6), hu 96 1 (w1 1), e97, Wn_cg (fun l _ => hu 58 l (w6 l)) (fun l _ => hu 39 l (w5 l)) (hu 57 6 w8) (fun l _ => hu 37 l (w4 l)) (fun l _ => hu 33 l (w3 l)) (hu 31 10 w7)]
  exact h
