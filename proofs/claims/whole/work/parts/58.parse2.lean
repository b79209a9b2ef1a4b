/-! the reference's reader -/
theorem n14_1 : 1 ≤ 1 ∧ 1 ≤ 4 := by decide
theorem n14_2 : 1 ≤ 2 ∧ 2 ≤ 4 := by decide
theorem n14_3 : 1 ≤ 3 ∧ 3 ≤ 4 := by decide
theorem n14_4 : 1 ≤ 4 ∧ 4 ≤ 4 := by decide
def wM (a k : Nat) : Bool := decide (a = 101 ∧ 20 ≤ k ∧ k ≤ 25)
def MC (F : Nat → Int32) (c : Nat) (σ : jS) : Prop := c ≤ 400 ∧ g_i σ 101 19 = nI c ∧ ∀ k, k < c → g_i σ 109 k = F k
theorem MC.cg {W : Nat → Nat → Bool} {F : Nat → Int32} {c : Nat} {σ τ : jS} (hu : ux W σ τ) (h1 : W 101 19 = false) (h2 : ∀ k, W 109 k = false) (h : MC F c σ) : MC F c τ :=
  ⟨h.1, (hu 101 19 h1).trans h.2.1, fun k hk => (hu 109 k (h2 k)).trans (h.2.2 k hk)⟩
theorem uxM {σ τ : jS} (h : ux wM σ τ) {k : Nat} {v : Int32} (h1 : 20 ≤ k) (h2 : k ≤ 25) : ux wM σ (s_i τ 101 k v) := ux_s h (decide_eq_true ⟨rfl, h1, h2⟩)
/-- what a reading of the reference gives -/
def MO (st : PE Nat) (x : Int32 × jS) : Prop := match st with
  | .ok p => x.1 = 0 ∧ g_i x.2 101 21 = nI p
  | .error e => (1 ≤ e.1 ∧ e.1 ≤ 4) ∧ x.1 = nI e.1 ∧ g_i x.2 101 20 = nI e.2
theorem mstopR {F : Nat → Int32} {c p : Nat} {σ : jS} (hC : MC F c σ) (hp : p ≤ c) (ep : g_i σ 101 21 = nI p) : ∃ x, f_X11_takeStop nmM σ = some x ∧ ux wM σ x.2 ∧ MO (stopP F c p) x ∧ (∀ r, stopP F c p = .ok r → g_i x.2 101 20 = g_i σ 101 20) := by
  have hT := hC.2.2
  obtain ⟨hb, en⟩ := mstop hC.1 hC.2.1 hp ep (q := sk F c p) (sk_cong hT).symm
  unfold stopP
  by_cases ha : sk F c p < c ∧ F (sk F c p) = 59
  · rw [if_pos ⟨ha.1, (hT _ ha.1).trans ha.2⟩] at en
    rw [if_pos ha]
    exact ⟨_, en, uxM (ux_refl _ _) (by omega) (by omega), ⟨rfl, s_i_eq _ _ _ _⟩, fun _ _ => s_i_k (by decide)⟩
  · rw [if_neg (fun h => ha ⟨h.1, (hT _ h.1).symm.trans h.2⟩)] at en
    rw [if_neg ha]
    exact ⟨_, en, uxM (uxM (ux_refl _ _) (by omega) (by omega)) (by omega) (by omega), ⟨n14_1, rfl, s_i_eq _ _ _ _⟩, fun r h => by cases h⟩
theorem mnumR {F : Nat → Int32} {c p : Nat} {lo hi : Int32} {σ : jS} (hC : MC F c σ) (hp : p ≤ c) (ep : g_i σ 101 21 = nI p) : ∃ x, f_X11_takeNumber nmM lo hi σ = some x ∧ ux wM σ x.2 ∧ MO (nx (numP F c lo hi p)) x ∧ (∀ v r, numP F c lo hi p = .ok (v, r) → g_i x.2 101 24 = v ∧ g_i x.2 101 25 = nI (sk F c p) ∧ g_i x.2 101 20 = g_i σ 101 20) := by
  have hT := hC.2.2
  have hc := hC.1
  obtain ⟨hb, eh⟩ := mhere hC.1 hC.2.1 hp ep (q := sk F c p) (sk_cong hT).symm
  have hd := dg_le F hb.2
  unfold f_X11_takeNumber
  rw [eh, bnd]
  have e21 : g_i (s_i σ 101 21 (nI (sk F c p))) (nmM 0) 21 = nI (sk F c p) := s_i_eq _ _ _ _
  by_cases hdig : sk F c p < c ∧ bDig (F (sk F c p)) = true
  · have hb2 := of_decide_eq_true hdig.2
    have hne : ¬ dg F c (sk F c p) = sk F c p := by
      generalize sk F c p = q at hdig
      unfold dg
      obtain ⟨u, hu⟩ : ∃ u, c - q = u + 1 := ⟨c - q - 1, by omega⟩
      rw [hu]
      unfold advF
      rw [if_pos hdig.2]
      have := advF_le bDig F u (q + 1)
      omega
    show ∃ x, (f_X11_in (if sk F c p < c then g_i σ 109 (sk F c p) else -1).toInt64 48 57).bind _ = some x ∧ _
    rw [if_pos hdig.1, hT _ hdig.1, in_yes (by rw [ti64, tl48']; exact hb2.1) (by rw [ti64, tl57']; exact hb2.2), bnd, if_neg i10, bdx, bdx, e21]
    show ∃ x, (lp (f_X11_takeNumber_L42 nmM lo hi) fu (s_i (s_i (s_i σ 101 21 (nI (sk F c p))) 101 25 (nI (sk F c p))) 101 24 0)).bind _ = some x ∧ _
    generalize hS : s_i (s_i (s_i σ 101 21 (nI (sk F c p))) 101 25 (nI (sk F c p))) 101 24 0 = S
    have uS : ux wM σ S := by rw [← hS]; exact uxM (uxM (uxM (ux_refl _ _) (by omega) (by omega)) (by omega) (by omega)) (by omega) (by omega)
    have cS : MC F c S := hC.cg uS rfl (fun _ => rfl)
    have s24 : g_i S 101 24 = 0 := by rw [← hS]; exact s_i_eq _ _ _ _
    have s25 : g_i S 101 25 = nI (sk F c p) := by rw [← hS]; exact (s_i_k (by decide)).trans (s_i_eq _ _ _ _)
    have s21 : g_i S 101 21 = nI (sk F c p) := by rw [← hS]; exact (s_i_k (by decide)).trans ((s_i_k (by decide)).trans (s_i_eq _ _ _ _))
    have s20 : g_i S 101 20 = g_i σ 101 20 := by rw [← hS]; exact (s_i_k (by decide)).trans ((s_i_k (by decide)).trans (s_i_k (by decide)))
    obtain ⟨τ, eτ, w, hw, rfl⟩ := mnum_lp (lo := lo) (hi := hi) (r := dg F c (sk F c p)) hC.1 cS.2.1 hb.2 s21 s24 (dg_cong cS.2.2).symm
    rw [eτ, bnd]
    unfold f_X11_takeNumber_J129
    generalize hU : s_i (s_i S 101 24 w) 101 21 (nI (dg F c (sk F c p))) = U
    have uU : ux wM σ U := by rw [← hU]; exact uxM (uxM uS (by omega) (by omega)) (by omega) (by omega)
    have u21 : g_i U (nmM 0) 21 = nI (dg F c (sk F c p)) := by rw [← hU]; exact s_i_eq _ _ _ _
    have u24 : g_i U (nmM 0) 24 = w := by rw [← hU]; exact (s_i_k (by decide)).trans (s_i_eq _ _ _ _)
    have u25 : g_i U (nmM 0) 25 = nI (sk F c p) := by rw [← hU]; exact (s_i_k (by decide)).trans ((s_i_k (by decide)).trans s25)
    have u20 : g_i U 101 20 = g_i σ 101 20 := by rw [← hU]; exact (s_i_k (by decide)).trans ((s_i_k (by decide)).trans s20)
    have e2 : f_X11_takeNumber_J157 nmM U = some (2, s_i U 101 20 (nI (sk F c p))) := by
      unfold f_X11_takeNumber_J157
      rw [u25]; rfl
    rw [u21, u24, u25, nI_sb hd.1, e2]
    unfold numP
    rw [if_neg hne]
    by_cases h3 : 3 < dg F c (sk F c p) - sk F c p
    · rw [if_pos (Or.inl h3), if_pos (show (3 : Int32) < nI (dg F c (sk F c p) - sk F c p) from (nI_lt' (a := 3) (by omega) (by omega)).mpr h3)]
      exact ⟨_, rfl, uxM uU (by omega) (by omega), ⟨n14_2, rfl, s_i_eq _ _ _ _⟩, fun v r h => by cases h⟩
    · rw [if_neg (show ¬ (3 : Int32) < nI (dg F c (sk F c p) - sk F c p) from fun z => h3 ((nI_lt' (a := 3) (by omega) (by omega)).mp z))]
      have hwv : w = numV F c p := by
        rw [hw (by omega)]
        unfold numV
        rw [show min 3 (dg F c (sk F c p) - sk F c p) = dg F c (sk F c p) - sk F c p by omega]
        exact nmF_cong _ _ _ (fun k _ hk => cS.2.2 k (by omega))
      rw [hwv]
      by_cases hv : lo.toInt ≤ (numV F c p).toInt ∧ (numV F c p).toInt ≤ hi.toInt
      · rw [in_yes (by rw [ti64, ti64]; exact hv.1) (by rw [ti64, ti64]; exact hv.2), bnd, if_neg i10, if_neg (by intro h; rcases h with h | h; exact h3 h; exact h hv)]
        refine ⟨_, rfl, uU, ⟨rfl, u21⟩, fun v r h => ?_⟩
        have h := Except.ok.inj h
        have e1 : numV F c p = v := congrArg Prod.fst h
        exact ⟨u24.trans (hwv.trans e1), u25, u20⟩
      · rw [in_no (by rw [ti64, ti64, ti64]; exact hv), bnd, if_pos rfl, if_pos (Or.inr hv)]
        exact ⟨_, rfl, uxM uU (by omega) (by omega), ⟨n14_2, rfl, s_i_eq _ _ _ _⟩, fun v r h => by cases h⟩
  · have hno : ¬ ((48 : Int64).toInt ≤ (if sk F c p < c then g_i σ 109 (sk F c p) else -1).toInt64.toInt ∧ (if sk F c p < c then g_i σ 109 (sk F c p) else -1).toInt64.toInt ≤ (57 : Int64).toInt) := by
      rw [ti64, tl48', tl57']
      by_cases hq : sk F c p < c
      · rw [if_pos hq, hT _ hq]
        exact fun h => hdig ⟨hq, decide_eq_true h⟩
      · rw [if_neg hq]; decide
    have hne : dg F c (sk F c p) = sk F c p := by
      generalize sk F c p = q at hdig hb
      unfold dg
      by_cases hq : q < c
      · obtain ⟨u, hu⟩ : ∃ u, c - q = u + 1 := ⟨c - q - 1, by omega⟩
        rw [hu]
        unfold advF
        rw [if_neg (fun h => hdig ⟨hq, h⟩)]
      · rw [show c - q = 0 by omega]; rfl
    show ∃ x, (f_X11_in (if sk F c p < c then g_i σ 109 (sk F c p) else -1).toInt64 48 57).bind _ = some x ∧ _
    rw [in_no hno, bnd, if_pos rfl, e21]
    unfold numP
    rw [if_pos hne]
    exact ⟨_, rfl, uxM (uxM (ux_refl _ _) (by omega) (by omega)) (by omega) (by omega), ⟨n14_1, rfl, s_i_eq _ _ _ _⟩, fun v r h => by cases h⟩
theorem mwordR {F : Nat → Int32} {c p : Nat} {σ : jS} (hC : MC F c σ) (hp : p ≤ c) (ep : g_i σ 101 21 = nI p) : ∃ τ, f_X11_readWord nmM σ = some τ ∧ ux wM σ τ ∧ g_i τ 101 21 = nI (sk F c p) ∧ g_i τ 101 23 = nI (lw F c (sk F c p)) ∧ g_l τ 101 22 = cdF F (lw F c (sk F c p) - sk F c p) (sk F c p) 0 ∧ g_i τ 101 20 = g_i σ 101 20 := by
  have hT := hC.2.2
  obtain ⟨hb, en⟩ := mword hC.1 hC.2.1 hp ep (q := sk F c p) (r := lw F c (sk F c p)) (sk_cong hT).symm (lw_cong hT).symm
  refine ⟨_, en, uxM (ux_l (uxM (ux_refl _ _) (by omega) (by omega))) (by omega) (by omega), ?_, s_i_eq _ _ _ _, ?_, ?_⟩
  · exact (s_i_k (by decide)).trans (s_i_eq σ 101 21 _)
  · refine (s_l_eq (s_i σ 101 21 (nI (sk F c p))) 101 22 _).trans ?_
    exact cdF_cong _ _ _ (fun k _ hk => hT k (by omega))
  · exact (s_i_k (by decide)).trans (show g_i (s_i σ 101 21 (nI (sk F c p))) 101 20 = g_i σ 101 20 from s_i_k (by decide))
theorem mhereR {F : Nat → Int32} {c p : Nat} {σ : jS} (hC : MC F c σ) (hp : p ≤ c) (ep : g_i σ 101 21 = nI p) : ∃ v, f_X11_here nmM σ = some (v, s_i σ 101 21 (nI (sk F c p))) ∧ (v = if sk F c p < c then F (sk F c p) else -1) := by
  have hT := hC.2.2
  obtain ⟨hb, eh⟩ := mhere hC.1 hC.2.1 hp ep (q := sk F c p) (sk_cong hT).symm
  refine ⟨_, eh, ?_⟩
  by_cases hq : sk F c p < c
  · rw [if_pos hq, if_pos hq, hT _ hq]
  · rw [if_neg hq, if_neg hq]
/-- a number into a place of a row (the row's cell: nm 27) -/
theorem mintoR {nm : Nat → Nat} {F : Nat → Int32} {c p N at' cell : Nat} {lo hi : Int32} {σ : jS} (hnm : ∀ lo hi σ, f_X11_takeNumber (jn nm [0, 1, 2, 3, 4, 5, 6, 7, 8, 9, 10, 11, 12, 13, 14, 15, 16, 17, 18, 19, 20, 21, 22, 23, 24, 25, 26]) lo hi σ = f_X11_takeNumber nmM lo hi σ) (h0 : nm 0 = 101) (h27 : nm 27 = cell) (hcell : cell ≠ 101) (hat : at' < N) (hN : N < 100000) (hC : MC F c σ) (hp : p ≤ c) (ep : g_i σ 101 21 = nI p) : ∃ x, f_X11_into nm N (nI at') lo hi σ = some x ∧ ux (fun a k => wM a k || decide (a = cell ∧ k = at')) σ x.2 ∧ MO (nx (numP F c lo hi p)) x ∧ (∀ v r, numP F c lo hi p = .ok (v, r) → g_i x.2 101 24 = v ∧ g_i x.2 101 25 = nI (sk F c p) ∧ g_i x.2 101 20 = g_i σ 101 20 ∧ g_i x.2 cell at' = v) := by
  obtain ⟨⟨f, τ⟩, e, u, m, o⟩ := mnumR (lo := lo) (hi := hi) hC hp ep
  unfold f_X11_into
  rw [hnm, e, bnd]
  show ∃ x, gd (vp_in (nI at') N) (bd (s_i τ (nm 27) (nI at').toNatClampNeg (g_i τ (nm 0) 24)) _) = some x ∧ _
  rw [gd_t (nI_in' hat (by omega)), nI_cl (by omega), h27, h0, bdx]
  have ne : ∀ k v, g_i (s_i τ cell at' v) 101 k = g_i τ 101 k := fun k v => s_i_a (fun h => hcell h.symm)
  refine ⟨_, rfl, ?_, ?_, fun v r h => ?_⟩
  · refine ux_s (ux_w u (fun a k h => ?_)) ?_
    · exact (Bool.or_eq_false_iff.mp h).1
    · simp
  · revert m
    cases nx (numP F c lo hi p) with
    | ok q => exact fun m => ⟨m.1, (ne 21 _).trans m.2⟩
    | error e => exact fun m => ⟨m.1, m.2.1, (ne 20 _).trans m.2.2⟩
  · obtain ⟨o1, o2, o3⟩ := o v r h
    exact ⟨(ne 24 _).trans o1, (ne 25 _).trans o2, (ne 20 _).trans o3, (s_i_eq _ _ _ _).trans o1⟩
