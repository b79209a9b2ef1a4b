/-! quay: the reference's clause, by the word -/
theorem or_bit : ∀ M, M < 32 → ∀ k, k < 5 → nI M ||| ((1 : Int32) <<< (nI k &&& 31)) = nI (M ||| 2 ^ k) := by decide +kernel
theorem has_bit : ∀ M, M < 32 → ∀ k, k < 5 → (((nI M >>> (nI k &&& 31)) &&& 1 = 1) ↔ M.testBit k = true) := by decide +kernel
def DQM (s : QS) (σ : jS) : Prop := (s.1.1.1 ≤ 10 ∧ s.1.2.1 ≤ 8) ∧ g_i σ 101 26 = nI s.1.1.1 ∧ g_i σ 101 28 = nI s.1.2.1 ∧ (∀ k, k < 4 * s.1.1.1 → g_i σ 110 k = s.1.1.2 k) ∧ (∀ k, k < 4 * s.1.2.1 → g_i σ 111 k = s.1.2.2 k) ∧ (∃ M, M < 32 ∧ g_i σ 101 31 = nI M ∧ ∀ i, i < 3 → M.testBit (i + 2) = decide (s.2 i ≠ 0)) ∧ ∀ i, i < 3 → g_i σ 112 i = bv s.2 i
theorem DQM.cg {W : Nat → Nat → Bool} {s : QS} {σ τ : jS} (hu : ux W σ τ) (h1 : W 101 26 = false) (h2 : W 101 28 = false) (h3 : W 101 31 = false) (h4 : ∀ k, W 110 k = false) (h5 : ∀ k, W 111 k = false) (h6 : ∀ k, W 112 k = false) (h : DQM s σ) : DQM s τ := by
  obtain ⟨a, b, d, e, f, ⟨M, g1, g2, g3⟩, j⟩ := h
  exact ⟨a, (hu _ _ h1).trans b, (hu _ _ h2).trans d, fun k hk => (hu _ _ (h4 k)).trans (e k hk), fun k hk => (hu _ _ (h5 k)).trans (f k hk), ⟨M, g1, (hu _ _ h3).trans g2, g3⟩, fun i hi => (hu _ _ (h6 i)).trans (j i hi)⟩
def wQM (a k : Nat) : Bool := wM a k || decide ((a = 101 ∧ (k = 26 ∨ k = 28 ∨ k = 31)) ∨ (110 ≤ a ∧ a ≤ 112))
theorem wqm {σ τ : jS} (h : ux wM σ τ) : ux wQM σ τ := ux_wM (fun a k e => by unfold wQM; rw [e]; rfl) h
theorem wqml {slot cell : Nat} (h1 : slot = 26 ∨ slot = 28) (h2 : 110 ≤ cell ∧ cell ≤ 112) {σ τ : jS} (h : ux (wML slot cell) σ τ) : ux wQM σ τ := ux_w h (fun a k hk => by
  unfold wQM at hk
  obtain ⟨k1, k2⟩ := Bool.or_eq_false_iff.mp hk
  have k2 := of_decide_eq_false k2
  unfold wML
  rw [k1]
  exact decide_eq_false (fun e => k2 (by omega)))
theorem wqmi {i : Nat} {σ τ : jS} (h : ux (fun a k => wM a k || decide (a = 112 ∧ k = i)) σ τ) : ux wQM σ τ := ux_w h (fun a k hk => by
  unfold wQM at hk
  obtain ⟨k1, k2⟩ := Bool.or_eq_false_iff.mp hk
  have k2 := of_decide_eq_false k2
  show (wM a k || decide (a = 112 ∧ k = i)) = false
  rw [k1]
  exact decide_eq_false (fun e => k2 (by omega)))
/-- behind the word: the place behind it, the kind among those that stood -/
theorem mpre {F : Nat → Int32} {c p M kd : Nat} {τ1 : jS} (hC : MC F c τ1) (hM : M < 32) (hk : kd < 5) (e31 : g_i τ1 101 31 = nI M) (e23 : g_i τ1 101 23 = nI (lw F c p)) : ∃ τ2, s_i (s_i τ1 101 21 (g_i τ1 101 23)) 101 31 ((g_i (s_i τ1 101 21 (g_i τ1 101 23)) 101 31) ||| ((1 : Int32) <<< (nI kd &&& 31))) = τ2 ∧ ux (fun a k => decide (a = 101 ∧ (k = 21 ∨ k = 31))) τ1 τ2 ∧ MC F c τ2 ∧ g_i τ2 101 21 = nI (lw F c p) ∧ g_i τ2 101 31 = nI (M ||| 2 ^ kd) := by
  have h31 : g_i (s_i τ1 101 21 (g_i τ1 101 23)) 101 31 = nI M := (s_i_k (by decide)).trans e31
  rw [h31, or_bit M hM kd hk, e23]
  have u : ux (fun a k => decide (a = 101 ∧ (k = 21 ∨ k = 31))) τ1 (s_i (s_i τ1 101 21 (nI (lw F c p))) 101 31 (nI (M ||| 2 ^ kd))) := ux_s (ux_s (ux_refl _ _) (decide_eq_true ⟨rfl, Or.inl rfl⟩)) (decide_eq_true ⟨rfl, Or.inr rfl⟩)
  exact ⟨_, rfl, u, hC.cg u rfl (fun _ => rfl), (s_i_k (by decide)).trans (s_i_eq _ _ _ _), s_i_eq _ _ _ _⟩
theorem or_lt {M kd : Nat} (hM : M < 32) (hk : kd < 5) : M ||| 2 ^ kd < 32 := Nat.or_lt_two_pow (n := 5) hM (Nat.pow_lt_pow_right (by decide) hk)
theorem MO_err {α β : Type} {x : Int32 × jS} {e : Nat × Nat} (h : MO (nx (Except.error e : PE (α × Nat))) x) : MO (nx (Except.error e : PE (β × Nat))) x := h
theorem nx_bM {α β : Type} {P : PE (α × Nat)} {f : α × Nat → PE (β × Nat)} {x : Int32 × jS} (hf : ∀ y, nx (f y) = .ok y.2) (h : MO (nx P) x) : MO (nx (bP P f)) x := by
  cases P with
  | error e => exact h
  | ok y =>
    show MO (nx (f y)) x
    rw [hf y]; exact h
theorem mlampQ {F : Nat → Int32} {c p : Nat} {s : QS} {τ1 : jS} (hC : MC F c τ1) (hp : p ≤ c) (e23 : g_i τ1 101 23 = nI (lw F c p)) (hD : DQM s τ1) (hn : s.1.1.1 ≠ 10) : ∃ x, f_X11_takeQuay_J203 nmM 0 τ1 = some x ∧ ux wQM τ1 x.2 ∧ MO (nx (lampC F c s p)) x ∧ (∀ s' r, lampC F c s p = .ok (s', r) → DQM s' x.2 ∧ g_i x.2 101 20 = g_i τ1 101 20) := by
  have hl := lw_le F hp
  obtain ⟨⟨a1, a2⟩, b1, b2, b3, b4, ⟨M, g1, g2, g3⟩, b6⟩ := hD
  obtain ⟨τ2, e2, u2, c2, t21, t31⟩ := mpre (kd := 0) hC g1 (by decide) g2 e23
  unfold f_X11_takeQuay_J203
  show ∃ x, (if (0 : Int32) = 0 then (f_X11_takeLamp nmM (s_i (s_i τ1 101 21 (g_i τ1 101 23)) 101 31 ((g_i (s_i τ1 101 21 (g_i τ1 101 23)) 101 31) ||| ((1 : Int32) <<< (nI 0 &&& 31))))).bind (fun x => some (x.1, x.2)) else _).bind (fun x => f_X11_takeQuay_J270 nmM x.1 x.2) = some x ∧ _
  rw [e2, if_pos rfl]
  obtain ⟨⟨f3, τ3⟩, e3, u3, m3, o3⟩ := mlamp4 (n := s.1.1.1) c2 hl.2 t21 (by omega) ((u2 101 26 rfl).trans b1)
  rw [e3, bnd, bnd]
  have c3 : MC F c τ3 := c2.cg u3 rfl (fun _ => rfl)
  obtain ⟨⟨f4, τ4⟩, e4, u4, m4, o4⟩ := mJ270 c3 m3 (fun y hy => by obtain ⟨⟨x1, y1, z, w⟩, r⟩ := y; exact (o3 x1 y1 z w r hy).1)
  rw [← four_n4] at m4
  have ec : lampC F c s p = bP (fourL F c (lw F c p)) (fun y => .ok ((((s.1.1.1 + 1, ud4 s.1.1.2 s.1.1.1 y.1.1 y.1.2.1 y.1.2.2.1 y.1.2.2.2), s.1.2), s.2), y.2)) := by
    unfold lampC fullP
    rw [if_neg (by simp [hn])]; rfl
  rw [ec]
  refine ⟨_, e4, ux_tr (ux_tr (ux_w u2 (fun a k hk => ?_)) (wqml (by omega) (by omega) u3)) (wqm u4), nx_bM (fun _ => rfl) m4, fun s' r h => ?_⟩
  · unfold wQM at hk
    obtain ⟨k1, k2⟩ := Bool.or_eq_false_iff.mp hk
    have k1 := of_decide_eq_false k1
    have k2 := of_decide_eq_false k2
    exact decide_eq_false (fun e => by omega)
  · obtain ⟨⟨⟨x, y, z, w⟩, r'⟩, hy, h⟩ := bP_ok h
    have h := Except.ok.inj h
    have h1 : (((s.1.1.1 + 1, ud4 s.1.1.2 s.1.1.1 x y z w), s.1.2), s.2) = s' := congrArg Prod.fst h
    subst h1
    have hy2 : enP F c (n4P F c 0 49 0 63 0 9 (fun _ => 0) 5 (lw F c p)) = .ok ((x, y, z, w), r') := by rw [← four_n4]; exact hy
    have o4 := o4 _ hy2
    obtain ⟨⟨⟨x', y', z', w'⟩, r2⟩, h5, h6⟩ := bP_ok hy2
    obtain ⟨r3, -, h6⟩ := bP_ok h6
    have h6 := Except.ok.inj h6
    have h6 : (x', y', z', w') = (x, y, z, w) := congrArg Prod.fst h6
    rw [h6] at h5
    obtain ⟨-, w1, w2, ⟨w3, w4, w5, w6⟩, w7⟩ := o3 x y z w r2 h5
    have v34 : ∀ a k, a ≠ 101 → g_i τ4 a k = g_i τ3 a k := fun a k ha => u4 a k (decide_eq_false (fun e => ha e.1))
    have m31 : g_i τ4 101 31 = nI (M ||| 2 ^ 0) := (u4 101 31 rfl).trans ((u3 101 31 rfl).trans t31)
    refine ⟨⟨⟨by show s.1.1.1 + 1 ≤ 10; omega, a2⟩, (u4 101 26 rfl).trans w2, (u4 101 28 rfl).trans ((u3 101 28 rfl).trans ((u2 101 28 rfl).trans b2)), fun k hk => ?_, fun k hk => ?_, ⟨M ||| 2 ^ 0, or_lt g1 (by decide), m31, fun i hi => ?_⟩, fun i hi => ?_⟩, o4.trans (w1.trans (u2 101 20 rfl))⟩
    · have hk : k < 4 * (s.1.1.1 + 1) := hk
      show g_i τ4 110 k = ud4 s.1.1.2 s.1.1.1 x y z w k
      rw [v34 110 k (by decide)]
      by_cases k3 : k = 4 * s.1.1.1 + 3
      · rw [k3, ud4_3]; exact w6
      by_cases k2 : k = 4 * s.1.1.1 + 2
      · rw [k2, ud4_2]; exact w5
      by_cases k1 : k = 4 * s.1.1.1 + 1
      · rw [k1, ud4_1]; exact w4
      by_cases k0 : k = 4 * s.1.1.1
      · rw [k0, ud4_0]; exact w3
      rw [ud4_ne (by omega)]
      exact (w7 k (by omega)).trans ((u2 110 k rfl).trans (b3 k (by omega)))
    · show g_i τ4 111 k = s.1.2.2 k
      rw [v34 111 k (by decide)]
      exact (u3 111 k rfl).trans ((u2 111 k rfl).trans (b4 k hk))
    · rw [Nat.testBit_or, g3 i hi, Nat.testBit_two_pow]
      rw [decide_eq_false (show ¬ 0 = i + 2 by omega), Bool.or_false]
    · show g_i τ4 112 i = bv s.2 i
      rw [v34 112 i (by decide)]
      exact (u3 112 i rfl).trans ((u2 112 i rfl).trans (b6 i hi))
theorem msingQ {F : Nat → Int32} {c p : Nat} {s : QS} {τ1 : jS} (hC : MC F c τ1) (hp : p ≤ c) (e23 : g_i τ1 101 23 = nI (lw F c p)) (hD : DQM s τ1) (hn : s.1.2.1 ≠ 8) : ∃ x, f_X11_takeQuay_J203 nmM 1 τ1 = some x ∧ ux wQM τ1 x.2 ∧ MO (nx (singC F c s p)) x ∧ (∀ s' r, singC F c s p = .ok (s', r) → DQM s' x.2 ∧ g_i x.2 101 20 = g_i τ1 101 20) := by
  have hl := lw_le F hp
  obtain ⟨⟨a1, a2⟩, b1, b2, b3, b4, ⟨M, g1, g2, g3⟩, b6⟩ := hD
  obtain ⟨τ2, e2, u2, c2, t21, t31⟩ := mpre (kd := 1) hC g1 (by decide) g2 e23
  unfold f_X11_takeQuay_J203
  show ∃ x, (if (1 : Int32) = 0 then _ else if (1 : Int32) = 1 then (f_X11_takeSinger nmM (s_i (s_i τ1 101 21 (g_i τ1 101 23)) 101 31 ((g_i (s_i τ1 101 21 (g_i τ1 101 23)) 101 31) ||| ((1 : Int32) <<< (nI 1 &&& 31))))).bind (fun x => some (x.1, x.2)) else _).bind (fun x => f_X11_takeQuay_J270 nmM x.1 x.2) = some x ∧ _
  rw [e2, if_neg i10, if_pos rfl]
  obtain ⟨⟨f3, τ3⟩, e3, u3, m3, o3⟩ := msing4 (n := s.1.2.1) c2 hl.2 t21 (by omega) ((u2 101 28 rfl).trans b2)
  rw [e3, bnd, bnd]
  have c3 : MC F c τ3 := c2.cg u3 rfl (fun _ => rfl)
  obtain ⟨⟨f4, τ4⟩, e4, u4, m4, o4⟩ := mJ270 c3 m3 (fun y hy => by obtain ⟨⟨x1, y1, z, w⟩, r⟩ := y; exact (o3 x1 y1 z w r hy).1)
  rw [← four_n4] at m4
  have ec : singC F c s p = bP (fourS F c (lw F c p)) (fun y => .ok (((s.1.1, (s.1.2.1 + 1, ud4 s.1.2.2 s.1.2.1 y.1.1 y.1.2.1 y.1.2.2.1 y.1.2.2.2)), s.2), y.2)) := by
    unfold singC fullP
    rw [if_neg (by simp [hn])]; rfl
  rw [ec]
  refine ⟨_, e4, ux_tr (ux_tr (ux_w u2 (fun a k hk => ?_)) (wqml (by omega) (by omega) u3)) (wqm u4), nx_bM (fun _ => rfl) m4, fun s' r h => ?_⟩
  · unfold wQM at hk
    obtain ⟨k1, k2⟩ := Bool.or_eq_false_iff.mp hk
    have k1 := of_decide_eq_false k1
    have k2 := of_decide_eq_false k2
    exact decide_eq_false (fun e => by omega)
  · obtain ⟨⟨⟨x, y, z, w⟩, r'⟩, hy, h⟩ := bP_ok h
    have h := Except.ok.inj h
    have h1 : ((s.1.1, (s.1.2.1 + 1, ud4 s.1.2.2 s.1.2.1 x y z w)), s.2) = s' := congrArg Prod.fst h
    subst h1
    have hy2 : enP F c (n4P F c 0 49 1 50 0 63 (fun d => d) 63 (lw F c p)) = .ok ((x, y, z, w), r') := by rw [← four_n4]; exact hy
    have o4 := o4 _ hy2
    obtain ⟨⟨⟨x', y', z', w'⟩, r2⟩, h5, h6⟩ := bP_ok hy2
    obtain ⟨r3, -, h6⟩ := bP_ok h6
    have h6 := Except.ok.inj h6
    have h6 : (x', y', z', w') = (x, y, z, w) := congrArg Prod.fst h6
    rw [h6] at h5
    obtain ⟨-, w1, w2, ⟨w3, w4, w5, w6⟩, w7⟩ := o3 x y z w r2 h5
    have v34 : ∀ a k, a ≠ 101 → g_i τ4 a k = g_i τ3 a k := fun a k ha => u4 a k (decide_eq_false (fun e => ha e.1))
    have m31 : g_i τ4 101 31 = nI (M ||| 2 ^ 1) := (u4 101 31 rfl).trans ((u3 101 31 rfl).trans t31)
    refine ⟨⟨⟨a1, by show s.1.2.1 + 1 ≤ 8; omega⟩, (u4 101 26 rfl).trans ((u3 101 26 rfl).trans ((u2 101 26 rfl).trans b1)), (u4 101 28 rfl).trans w2, fun k hk => ?_, fun k hk => ?_, ⟨M ||| 2 ^ 1, or_lt g1 (by decide), m31, fun i hi => ?_⟩, fun i hi => ?_⟩, o4.trans (w1.trans (u2 101 20 rfl))⟩
    · show g_i τ4 110 k = s.1.1.2 k
      rw [v34 110 k (by decide)]
      exact (u3 110 k rfl).trans ((u2 110 k rfl).trans (b3 k hk))
    · have hk : k < 4 * (s.1.2.1 + 1) := hk
      show g_i τ4 111 k = ud4 s.1.2.2 s.1.2.1 x y z w k
      rw [v34 111 k (by decide)]
      by_cases k3 : k = 4 * s.1.2.1 + 3
      · rw [k3, ud4_3]; exact w6
      by_cases k2 : k = 4 * s.1.2.1 + 2
      · rw [k2, ud4_2]; exact w5
      by_cases k1 : k = 4 * s.1.2.1 + 1
      · rw [k1, ud4_1]; exact w4
      by_cases k0 : k = 4 * s.1.2.1
      · rw [k0, ud4_0]; exact w3
      rw [ud4_ne (by omega)]
      exact (w7 k (by omega)).trans ((u2 111 k rfl).trans (b4 k (by omega)))
    · rw [Nat.testBit_or, g3 i hi, Nat.testBit_two_pow]
      rw [decide_eq_false (show ¬ 1 = i + 2 by omega), Bool.or_false]
    · show g_i τ4 112 i = bv s.2 i
      rw [v34 112 i (by decide)]
      exact (u3 112 i rfl).trans ((u2 112 i rfl).trans (b6 i hi))
