/-! quay: the reference's clause -/
def n4P (F : Nat → Int32) (c : Nat) (l1 h1 l2 h2 l3 h3 : Int32) (l4 : Int32 → Int32) (h4 : Int32) (t : Nat) : PE ((Int32 × Int32 × Int32 × Int32) × Nat) := bP (numP F c l1 h1 t) (fun a => bP (numP F c l2 h2 a.2) (fun b => bP (numP F c l3 h3 b.2) (fun d => bP (numP F c (l4 d.1) h4 d.2) (fun e => .ok ((a.1, b.1, d.1, e.1), e.2)))))
def enP {α : Type} (F : Nat → Int32) (c : Nat) (x : PE (α × Nat)) : PE (α × Nat) := bP x (fun y => bP (stopP F c y.2) (fun r => .ok (y.1, r)))
theorem four_n4 (F : Nat → Int32) (c : Nat) (l1 h1 l2 h2 l3 h3 : Int32) (l4 : Int32 → Int32) (h4 : Int32) (t : Nat) : fourP F c l1 h1 l2 h2 l3 h3 l4 h4 t = enP F c (n4P F c l1 h1 l2 h2 l3 h3 l4 h4 t) := by
  unfold fourP n4P enP
  cases numP F c l1 h1 t with
  | error e => rfl
  | ok a =>
    show bP (numP F c l2 h2 a.2) _ = bP (bP (numP F c l2 h2 a.2) _) _
    cases numP F c l2 h2 a.2 with
    | error e => rfl
    | ok b =>
      show bP (numP F c l3 h3 b.2) _ = bP (bP (numP F c l3 h3 b.2) _) _
      cases numP F c l3 h3 b.2 with
      | error e => rfl
      | ok d =>
        show bP (numP F c (l4 d.1) h4 d.2) _ = bP (bP (numP F c (l4 d.1) h4 d.2) _) _
        cases numP F c (l4 d.1) h4 d.2 with
        | error e => rfl
        | ok e => rfl
theorem one_en (F : Nat → Int32) (c : Nat) (most : Int32) (t : Nat) : oneP F c most t = enP F c (numP F c 1 most t) := rfl
theorem mJ270 {α : Type} {F : Nat → Int32} {c : Nat} {P : PE (α × Nat)} {f : Int32} {τ : jS} (hC : MC F c τ) (hm : MO (nx P) (f, τ)) (hP : ∀ y, P = .ok y → y.2 ≤ c) : ∃ x, f_X11_takeQuay_J270 nmM f τ = some x ∧ ux wM τ x.2 ∧ MO (nx (enP F c P)) x ∧ (∀ y, enP F c P = .ok y → g_i x.2 101 20 = g_i τ 101 20) := by
  unfold f_X11_takeQuay_J270
  cases P with
  | error e =>
    have hf : f = nI e.1 := hm.2.1
    rw [hf, if_neg (nl14 hm.1)]
    exact ⟨_, rfl, ux_refl _ _, ⟨hm.1, rfl, hm.2.2⟩, fun y h => by cases h⟩
  | ok y =>
    have hf : f = 0 := hm.1
    rw [hf, if_pos (by decide)]
    obtain ⟨⟨f5, τ5⟩, e5, u5, m5, o5⟩ := mstopR hC (hP y rfl) hm.2
    rw [e5, bnd]
    refine ⟨_, rfl, u5, ?_, fun y' h => ?_⟩
    · show MO (nx (bP (stopP F c y.2) _)) (f5, τ5)
      cases hst : stopP F c y.2 with
      | error e => rw [hst] at m5; exact m5
      | ok r => rw [hst] at m5; exact m5
    · have h : bP (stopP F c y.2) (fun r => .ok (y.1, r)) = .ok y' := h
      obtain ⟨r, hr, -⟩ := bP_ok h
      exact o5 r hr
def wML (slot cell a k : Nat) : Bool := wM a k || decide ((a = 101 ∧ k = slot) ∨ a = cell)
theorem wmi {slot cell : Nat} {σ τ : jS} {i : Nat} (h : ux (fun a k => wM a k || decide (a = cell ∧ k = i)) σ τ) : ux (wML slot cell) σ τ := ux_w h (fun a k hk => by
  unfold wML at hk
  obtain ⟨k1, k2⟩ := Bool.or_eq_false_iff.mp hk
  have k2 := of_decide_eq_false k2
  show (wM a k || decide (a = cell ∧ k = i)) = false
  rw [k1]
  exact decide_eq_false (fun e => k2 (Or.inr e.1)))
theorem wmo {cell : Nat} {σ τ : jS} {i k : Nat} (hc : cell ≠ 101) (h : ux (fun a k => wM a k || decide (a = cell ∧ k = i)) σ τ) (hk : k ≠ i) : g_i τ cell k = g_i σ cell k := h cell k (by
  show (wM cell k || decide (cell = cell ∧ k = i)) = false
  rw [decide_eq_false (fun e => hk e.2)]
  have : wM cell k = false := decide_eq_false (fun e => hc e.1)
  rw [this]; rfl)
theorem j52lamp {e : Nat} {i : Int32} {τ : jS} (he : 1 ≤ e ∧ e ≤ 4) : f_X11_takeLamp_J52 nmM i (nI e) τ = some (nI e, τ) := by
  unfold f_X11_takeLamp_J52
  rw [if_neg (nl14 he), bnd]
  show f_X11_takeLamp_J75 nmM i (nI e) τ = _
  unfold f_X11_takeLamp_J75
  rw [if_neg (nl14 he)]
theorem mlamp4 {F : Nat → Int32} {c n t : Nat} {σ : jS} (hC : MC F c σ) (ht : t ≤ c) (e21 : g_i σ 101 21 = nI t) (hn : n < 10) (en : g_i σ 101 26 = nI n) : ∃ x, f_X11_takeLamp nmM σ = some x ∧ ux (wML 26 110) σ x.2 ∧ MO (nx (n4P F c 0 49 0 63 0 9 (fun _ => 0) 5 t)) x ∧ (∀ x1 y z w r, n4P F c 0 49 0 63 0 9 (fun _ => 0) 5 t = .ok ((x1, y, z, w), r) → r ≤ c ∧ g_i x.2 101 20 = g_i σ 101 20 ∧ g_i x.2 101 26 = nI (n + 1) ∧ (g_i x.2 110 (4 * n) = x1 ∧ g_i x.2 110 (4 * n + 1) = y ∧ g_i x.2 110 (4 * n + 2) = z ∧ g_i x.2 110 (4 * n + 3) = w) ∧ ∀ k, k < 4 * n → g_i x.2 110 k = g_i σ 110 k) := by
  have k1 : nI (4 * n) + 1 = nI (4 * n + 1) := nI_1 _
  have k2 : nI (4 * n) + 2 = nI (4 * n + 2) := nI_add _ 2
  have k3 : nI (4 * n) + 3 = nI (4 * n + 3) := nI_add _ 3
  unfold f_X11_takeLamp
  rw [show g_i σ (nmM 0) 26 = nI n from en, bdx, bdx, show (4 : Int32) * nI n = nI (4 * n) from nI_mul 4 n, nI_1]
  generalize hσ1 : s_i σ (nmM 0) 26 (nI (n + 1)) = σ1
  have hσ1 : s_i σ 101 26 (nI (n + 1)) = σ1 := hσ1
  have u0 : ux (wML 26 110) σ σ1 := by rw [← hσ1]; exact ux_s (ux_refl _ _) rfl
  have q0 : ∀ k, k ≠ 26 → g_i σ1 101 k = g_i σ 101 k := fun k hk => by rw [← hσ1]; exact s_i_k hk
  have q0' : ∀ k, g_i σ1 110 k = g_i σ 110 k := fun k => by rw [← hσ1]; rfl
  have e26 : g_i σ1 101 26 = nI (n + 1) := by rw [← hσ1]; exact s_i_eq _ _ _ _
  have c1 : MC F c σ1 := hC.cg u0 rfl (fun _ => rfl)
  obtain ⟨⟨f1, τ1⟩, e1, u1, m1, o1⟩ := mintoR (nm := jn nmM [0, 1, 2, 3, 4, 5, 6, 7, 8, 9, 10, 11, 12, 13, 14, 15, 16, 17, 18, 19, 20, 21, 22, 23, 24, 25, 26, 9]) (N := 40) (at' := 4 * n) (cell := 110) (lo := 0) (hi := 49) (fun _ _ _ => rfl) rfl rfl (by decide) (by omega) (by omega) c1 ht ((q0 21 (by decide)).trans e21)
  rw [e1, bnd]
  have v1 : ux (wML 26 110) σ τ1 := ux_tr u0 (wmi u1)
  unfold n4P
  cases h1 : numP F c 0 49 t with
  | error e =>
    rw [h1] at m1
    have m11 : f1 = nI e.1 := m1.2.1
    show ∃ x, (if f1 ≤ 0 then _ else some (f1, τ1)).bind (fun x => f_X11_takeLamp_J52 nmM (nI (4 * n)) x.1 x.2) = some x ∧ _
    rw [m11, if_neg (nl14 m1.1), bnd, j52lamp m1.1]
    exact ⟨_, rfl, v1, ⟨m1.1, rfl, m1.2.2⟩, fun x1 y z w r h => by cases h⟩
  | ok a =>
    obtain ⟨a1, a2⟩ := a
    rw [h1] at m1
    have m11 : f1 = 0 := m1.1
    have n1 := (numP_ok ht h1).2.2.1
    obtain ⟨-, -, p1, p2⟩ := o1 a1 a2 h1
    have c2 : MC F c τ1 := hC.cg v1 rfl (fun _ => rfl)
    obtain ⟨⟨f2, τ2⟩, e2, u2, m2, o2⟩ := mintoR (nm := jn nmM [0, 1, 2, 3, 4, 5, 6, 7, 8, 9, 10, 11, 12, 13, 14, 15, 16, 17, 18, 19, 20, 21, 22, 23, 24, 25, 26, 9]) (N := 40) (at' := 4 * n + 1) (cell := 110) (lo := 0) (hi := 63) (fun _ _ _ => rfl) rfl rfl (by decide) (by omega) (by omega) c2 n1 m1.2
    have v2 : ux (wML 26 110) σ τ2 := ux_tr v1 (wmi u2)
    show ∃ x, (if f1 ≤ 0 then (f_X11_into (jn nmM [0, 1, 2, 3, 4, 5, 6, 7, 8, 9, 10, 11, 12, 13, 14, 15, 16, 17, 18, 19, 20, 21, 22, 23, 24, 25, 26, 9]) 40 (nI (4 * n) + 1) 0 63 τ1).bind (fun x => some (x.1, x.2)) else some (f1, τ1)).bind (fun x => f_X11_takeLamp_J52 nmM (nI (4 * n)) x.1 x.2) = some x ∧ _
    rw [m11, if_pos (by decide), k1, e2, bnd, bnd]
    show ∃ x, f_X11_takeLamp_J52 nmM (nI (4 * n)) f2 τ2 = some x ∧ ux (wML 26 110) σ x.2 ∧ MO (nx (bP (numP F c 0 63 a2) (fun b => bP (numP F c 0 9 b.2) (fun d => bP (numP F c 0 5 d.2) (fun e => .ok ((a1, b.1, d.1, e.1), e.2)))))) x ∧ (∀ x1 y z w r, bP (numP F c 0 63 a2) (fun b => bP (numP F c 0 9 b.2) (fun d => bP (numP F c 0 5 d.2) (fun e => .ok ((a1, b.1, d.1, e.1), e.2)))) = .ok ((x1, y, z, w), r) → _)
    cases h2 : numP F c 0 63 a2 with
    | error e =>
      rw [h2] at m2
      have m21 : f2 = nI e.1 := m2.2.1
      rw [m21, j52lamp m2.1]
      exact ⟨_, rfl, v2, ⟨m2.1, rfl, m2.2.2⟩, fun x1 y z w r h => by cases h⟩
    | ok b =>
      obtain ⟨b1, b2⟩ := b
      rw [h2] at m2
      have m21 : f2 = 0 := m2.1
      have n2 := (numP_ok n1 h2).2.2.1
      obtain ⟨-, -, p3, p4⟩ := o2 b1 b2 h2
      have c3 : MC F c τ2 := hC.cg v2 rfl (fun _ => rfl)
      obtain ⟨⟨f3, τ3⟩, e3, u3, m3, o3⟩ := mintoR (nm := jn nmM [0, 1, 2, 3, 4, 5, 6, 7, 8, 9, 10, 11, 12, 13, 14, 15, 16, 17, 18, 19, 20, 21, 22, 23, 24, 25, 26, 9]) (N := 40) (at' := 4 * n + 2) (cell := 110) (lo := 0) (hi := 9) (fun _ _ _ => rfl) rfl rfl (by decide) (by omega) (by omega) c3 n2 m2.2
      have v3 : ux (wML 26 110) σ τ3 := ux_tr v2 (wmi u3)
      unfold f_X11_takeLamp_J52
      rw [m21, if_pos (by decide), k2, e3, bnd, bnd]
      show ∃ x, f_X11_takeLamp_J75 nmM (nI (4 * n)) f3 τ3 = some x ∧ ux (wML 26 110) σ x.2 ∧ MO (nx (bP (numP F c 0 9 b2) (fun d => bP (numP F c 0 5 d.2) (fun e => .ok ((a1, b1, d.1, e.1), e.2))))) x ∧ (∀ x1 y z w r, bP (numP F c 0 9 b2) (fun d => bP (numP F c 0 5 d.2) (fun e => .ok ((a1, b1, d.1, e.1), e.2))) = .ok ((x1, y, z, w), r) → _)
      cases h3 : numP F c 0 9 b2 with
      | error e =>
        rw [h3] at m3
        have m31 : f3 = nI e.1 := m3.2.1
        unfold f_X11_takeLamp_J75
        rw [m31, if_neg (nl14 m3.1)]
        exact ⟨_, rfl, v3, ⟨m3.1, rfl, m3.2.2⟩, fun x1 y z w r h => by cases h⟩
      | ok d =>
        obtain ⟨d1, d2⟩ := d
        rw [h3] at m3
        have m31 : f3 = 0 := m3.1
        have n3 := (numP_ok n2 h3).2.2.1
        obtain ⟨-, -, p5, p6⟩ := o3 d1 d2 h3
        have c4 : MC F c τ3 := hC.cg v3 rfl (fun _ => rfl)
        obtain ⟨⟨f4, τ4⟩, e4, u4, m4, o4⟩ := mintoR (nm := jn nmM [0, 1, 2, 3, 4, 5, 6, 7, 8, 9, 10, 11, 12, 13, 14, 15, 16, 17, 18, 19, 20, 21, 22, 23, 24, 25, 26, 9]) (N := 40) (at' := 4 * n + 3) (cell := 110) (lo := 0) (hi := 5) (fun _ _ _ => rfl) rfl rfl (by decide) (by omega) (by omega) c4 n3 m3.2
        have v4 : ux (wML 26 110) σ τ4 := ux_tr v3 (wmi u4)
        unfold f_X11_takeLamp_J75
        rw [m31, if_pos (by decide), k3, e4, bnd]
        show ∃ x, some (f4, τ4) = some x ∧ ux (wML 26 110) σ x.2 ∧ MO (nx (bP (numP F c 0 5 d2) (fun e => .ok ((a1, b1, d1, e.1), e.2)))) x ∧ (∀ x1 y z w r, bP (numP F c 0 5 d2) (fun e => .ok ((a1, b1, d1, e.1), e.2)) = .ok ((x1, y, z, w), r) → _)
        refine ⟨_, rfl, v4, ?_, fun x1 y z w r h => ?_⟩
        · cases h4 : numP F c 0 5 d2 with
          | error e => rw [h4] at m4; exact m4
          | ok e => rw [h4] at m4; exact m4
        · obtain ⟨⟨g1, g2⟩, h4, h⟩ := bP_ok h
          have h := Except.ok.inj h
          have q1 : (a1, b1, d1, g1) = (x1, y, z, w) := congrArg Prod.fst h
          have q2 : g2 = r := congrArg Prod.snd h
          have q3 : a1 = x1 := congrArg Prod.fst q1
          have q4 : (b1, d1, g1) = (y, z, w) := congrArg Prod.snd q1
          have q5 : b1 = y := congrArg Prod.fst q4
          have q6 : (d1, g1) = (z, w) := congrArg Prod.snd q4
          have q7 : d1 = z := congrArg Prod.fst q6
          have q8 : g1 = w := congrArg Prod.snd q6
          subst q2 q3 q5 q7 q8
          obtain ⟨-, -, p7, p8⟩ := o4 g1 g2 h4
          have hc : (110 : Nat) ≠ 101 := by decide
          refine ⟨(numP_ok n3 h4).2.2.1, p7.trans (p5.trans (p3.trans (p1.trans (q0 20 (by decide))))), ?_, ⟨?_, ?_, ?_, p8⟩, fun k hk => ?_⟩
          · exact (u4 101 26 rfl).trans ((u3 101 26 rfl).trans ((u2 101 26 rfl).trans ((u1 101 26 rfl).trans e26)))
          · exact (wmo hc u4 (by omega)).trans ((wmo hc u3 (by omega)).trans ((wmo hc u2 (by omega)).trans p2))
          · exact (wmo hc u4 (by omega)).trans ((wmo hc u3 (by omega)).trans p4)
          · exact (wmo hc u4 (by omega)).trans p6
          · exact (wmo hc u4 (by omega)).trans ((wmo hc u3 (by omega)).trans ((wmo hc u2 (by omega)).trans ((wmo hc u1 (by omega)).trans (q0' k))))
theorem j52sing {e : Nat} {i : Int32} {τ : jS} (he : 1 ≤ e ∧ e ≤ 4) : f_X11_takeSinger_J52 nmM i (nI e) τ = some (nI e, τ) := by
  unfold f_X11_takeSinger_J52
  rw [if_neg (nl14 he), bnd]
  show f_X11_takeSinger_J75 nmM i (nI e) τ = _
  unfold f_X11_takeSinger_J75
  rw [if_neg (nl14 he)]
theorem msing4 {F : Nat → Int32} {c n t : Nat} {σ : jS} (hC : MC F c σ) (ht : t ≤ c) (e21 : g_i σ 101 21 = nI t) (hn : n < 8) (en : g_i σ 101 28 = nI n) : ∃ x, f_X11_takeSinger nmM σ = some x ∧ ux (wML 28 111) σ x.2 ∧ MO (nx (n4P F c 0 49 1 50 0 63 (fun d => d) 63 t)) x ∧ (∀ x1 y z w r, n4P F c 0 49 1 50 0 63 (fun d => d) 63 t = .ok ((x1, y, z, w), r) → r ≤ c ∧ g_i x.2 101 20 = g_i σ 101 20 ∧ g_i x.2 101 28 = nI (n + 1) ∧ (g_i x.2 111 (4 * n) = x1 ∧ g_i x.2 111 (4 * n + 1) = y ∧ g_i x.2 111 (4 * n + 2) = z ∧ g_i x.2 111 (4 * n + 3) = w) ∧ ∀ k, k < 4 * n → g_i x.2 111 k = g_i σ 111 k) := by
  have k1 : nI (4 * n) + 1 = nI (4 * n + 1) := nI_1 _
  have k2 : nI (4 * n) + 2 = nI (4 * n + 2) := nI_add _ 2
  have k3 : nI (4 * n) + 3 = nI (4 * n + 3) := nI_add _ 3
  unfold f_X11_takeSinger
  rw [show g_i σ (nmM 0) 28 = nI n from en, bdx, bdx, show (4 : Int32) * nI n = nI (4 * n) from nI_mul 4 n, nI_1]
  generalize hσ1 : s_i σ (nmM 0) 28 (nI (n + 1)) = σ1
  have hσ1 : s_i σ 101 28 (nI (n + 1)) = σ1 := hσ1
  have u0 : ux (wML 28 111) σ σ1 := by rw [← hσ1]; exact ux_s (ux_refl _ _) rfl
  have q0 : ∀ k, k ≠ 28 → g_i σ1 101 k = g_i σ 101 k := fun k hk => by rw [← hσ1]; exact s_i_k hk
  have q0' : ∀ k, g_i σ1 111 k = g_i σ 111 k := fun k => by rw [← hσ1]; rfl
  have e26 : g_i σ1 101 28 = nI (n + 1) := by rw [← hσ1]; exact s_i_eq _ _ _ _
  have c1 : MC F c σ1 := hC.cg u0 rfl (fun _ => rfl)
  obtain ⟨⟨f1, τ1⟩, e1, u1, m1, o1⟩ := mintoR (nm := jn nmM [0, 1, 2, 3, 4, 5, 6, 7, 8, 9, 10, 11, 12, 13, 14, 15, 16, 17, 18, 19, 20, 21, 22, 23, 24, 25, 26, 10]) (N := 32) (at' := 4 * n) (cell := 111) (lo := 0) (hi := 49) (fun _ _ _ => rfl) rfl rfl (by decide) (by omega) (by omega) c1 ht ((q0 21 (by decide)).trans e21)
  rw [e1, bnd]
  have v1 : ux (wML 28 111) σ τ1 := ux_tr u0 (wmi u1)
  unfold n4P
  cases h1 : numP F c 0 49 t with
  | error e =>
    rw [h1] at m1
    have m11 : f1 = nI e.1 := m1.2.1
    show ∃ x, (if f1 ≤ 0 then _ else some (f1, τ1)).bind (fun x => f_X11_takeSinger_J52 nmM (nI (4 * n)) x.1 x.2) = some x ∧ _
    rw [m11, if_neg (nl14 m1.1), bnd, j52sing m1.1]
    exact ⟨_, rfl, v1, ⟨m1.1, rfl, m1.2.2⟩, fun x1 y z w r h => by cases h⟩
  | ok a =>
    obtain ⟨a1, a2⟩ := a
    rw [h1] at m1
    have m11 : f1 = 0 := m1.1
    have n1 := (numP_ok ht h1).2.2.1
    obtain ⟨-, -, p1, p2⟩ := o1 a1 a2 h1
    have c2 : MC F c τ1 := hC.cg v1 rfl (fun _ => rfl)
    obtain ⟨⟨f2, τ2⟩, e2, u2, m2, o2⟩ := mintoR (nm := jn nmM [0, 1, 2, 3, 4, 5, 6, 7, 8, 9, 10, 11, 12, 13, 14, 15, 16, 17, 18, 19, 20, 21, 22, 23, 24, 25, 26, 10]) (N := 32) (at' := 4 * n + 1) (cell := 111) (lo := 1) (hi := 50) (fun _ _ _ => rfl) rfl rfl (by decide) (by omega) (by omega) c2 n1 m1.2
    have v2 : ux (wML 28 111) σ τ2 := ux_tr v1 (wmi u2)
    show ∃ x, (if f1 ≤ 0 then (f_X11_into (jn nmM [0, 1, 2, 3, 4, 5, 6, 7, 8, 9, 10, 11, 12, 13, 14, 15, 16, 17, 18, 19, 20, 21, 22, 23, 24, 25, 26, 10]) 32 (nI (4 * n) + 1) 1 50 τ1).bind (fun x => some (x.1, x.2)) else some (f1, τ1)).bind (fun x => f_X11_takeSinger_J52 nmM (nI (4 * n)) x.1 x.2) = some x ∧ _
    rw [m11, if_pos (by decide), k1, e2, bnd, bnd]
    show ∃ x, f_X11_takeSinger_J52 nmM (nI (4 * n)) f2 τ2 = some x ∧ ux (wML 28 111) σ x.2 ∧ MO (nx (bP (numP F c 1 50 a2) (fun b => bP (numP F c 0 63 b.2) (fun d => bP (numP F c d.1 63 d.2) (fun e => .ok ((a1, b.1, d.1, e.1), e.2)))))) x ∧ (∀ x1 y z w r, bP (numP F c 1 50 a2) (fun b => bP (numP F c 0 63 b.2) (fun d => bP (numP F c d.1 63 d.2) (fun e => .ok ((a1, b.1, d.1, e.1), e.2)))) = .ok ((x1, y, z, w), r) → _)
    cases h2 : numP F c 1 50 a2 with
    | error e =>
      rw [h2] at m2
      have m21 : f2 = nI e.1 := m2.2.1
      rw [m21, j52sing m2.1]
      exact ⟨_, rfl, v2, ⟨m2.1, rfl, m2.2.2⟩, fun x1 y z w r h => by cases h⟩
    | ok b =>
      obtain ⟨b1, b2⟩ := b
      rw [h2] at m2
      have m21 : f2 = 0 := m2.1
      have n2 := (numP_ok n1 h2).2.2.1
      obtain ⟨-, -, p3, p4⟩ := o2 b1 b2 h2
      have c3 : MC F c τ2 := hC.cg v2 rfl (fun _ => rfl)
      obtain ⟨⟨f3, τ3⟩, e3, u3, m3, o3⟩ := mintoR (nm := jn nmM [0, 1, 2, 3, 4, 5, 6, 7, 8, 9, 10, 11, 12, 13, 14, 15, 16, 17, 18, 19, 20, 21, 22, 23, 24, 25, 26, 10]) (N := 32) (at' := 4 * n + 2) (cell := 111) (lo := 0) (hi := 63) (fun _ _ _ => rfl) rfl rfl (by decide) (by omega) (by omega) c3 n2 m2.2
      have v3 : ux (wML 28 111) σ τ3 := ux_tr v2 (wmi u3)
      unfold f_X11_takeSinger_J52
      rw [m21, if_pos (by decide), k2, e3, bnd, bnd]
      show ∃ x, f_X11_takeSinger_J75 nmM (nI (4 * n)) f3 τ3 = some x ∧ ux (wML 28 111) σ x.2 ∧ MO (nx (bP (numP F c 0 63 b2) (fun d => bP (numP F c d.1 63 d.2) (fun e => .ok ((a1, b1, d.1, e.1), e.2))))) x ∧ (∀ x1 y z w r, bP (numP F c 0 63 b2) (fun d => bP (numP F c d.1 63 d.2) (fun e => .ok ((a1, b1, d.1, e.1), e.2))) = .ok ((x1, y, z, w), r) → _)
      cases h3 : numP F c 0 63 b2 with
      | error e =>
        rw [h3] at m3
        have m31 : f3 = nI e.1 := m3.2.1
        unfold f_X11_takeSinger_J75
        rw [m31, if_neg (nl14 m3.1)]
        exact ⟨_, rfl, v3, ⟨m3.1, rfl, m3.2.2⟩, fun x1 y z w r h => by cases h⟩
      | ok d =>
        obtain ⟨d1, d2⟩ := d
        rw [h3] at m3
        have m31 : f3 = 0 := m3.1
        have n3 := (numP_ok n2 h3).2.2.1
        obtain ⟨-, -, p5, p6⟩ := o3 d1 d2 h3
        have c4 : MC F c τ3 := hC.cg v3 rfl (fun _ => rfl)
        obtain ⟨⟨f4, τ4⟩, e4, u4, m4, o4⟩ := mintoR (nm := jn nmM [0, 1, 2, 3, 4, 5, 6, 7, 8, 9, 10, 11, 12, 13, 14, 15, 16, 17, 18, 19, 20, 21, 22, 23, 24, 25, 26, 10]) (N := 32) (at' := 4 * n + 3) (cell := 111) (lo := d1) (hi := 63) (fun _ _ _ => rfl) rfl rfl (by decide) (by omega) (by omega) c4 n3 m3.2
        have v4 : ux (wML 28 111) σ τ4 := ux_tr v3 (wmi u4)
        unfold f_X11_takeSinger_J75
        rw [m31, if_pos (by decide), k2, gd_t (nI_in' (by omega) (by omega)), nI_cl (show 4 * n + 2 < 2147483648 by omega), show g_i τ3 (nmM 10) (4 * n + 2) = d1 from p6, k3, e4, bnd]
        show ∃ x, some (f4, τ4) = some x ∧ ux (wML 28 111) σ x.2 ∧ MO (nx (bP (numP F c d1 63 d2) (fun e => .ok ((a1, b1, d1, e.1), e.2)))) x ∧ (∀ x1 y z w r, bP (numP F c d1 63 d2) (fun e => .ok ((a1, b1, d1, e.1), e.2)) = .ok ((x1, y, z, w), r) → _)
        refine ⟨_, rfl, v4, ?_, fun x1 y z w r h => ?_⟩
        · cases h4 : numP F c d1 63 d2 with
          | error e => rw [h4] at m4; exact m4
          | ok e => rw [h4] at m4; exact m4
        · obtain ⟨⟨g1, g2⟩, h4, h⟩ := bP_ok h
          have h := Except.ok.inj h
          have q1 : (a1, b1, d1, g1) = (x1, y, z, w) := congrArg Prod.fst h
          have q2 : g2 = r := congrArg Prod.snd h
          have q3 : a1 = x1 := congrArg Prod.fst q1
          have q4 : (b1, d1, g1) = (y, z, w) := congrArg Prod.snd q1
          have q5 : b1 = y := congrArg Prod.fst q4
          have q6 : (d1, g1) = (z, w) := congrArg Prod.snd q4
          have q7 : d1 = z := congrArg Prod.fst q6
          have q8 : g1 = w := congrArg Prod.snd q6
          subst q2 q3 q5 q7 q8
          obtain ⟨-, -, p7, p8⟩ := o4 g1 g2 h4
          have hc : (111 : Nat) ≠ 101 := by decide
          refine ⟨(numP_ok n3 h4).2.2.1, p7.trans (p5.trans (p3.trans (p1.trans (q0 20 (by decide))))), ?_, ⟨?_, ?_, ?_, p8⟩, fun k hk => ?_⟩
          · exact (u4 101 28 rfl).trans ((u3 101 28 rfl).trans ((u2 101 28 rfl).trans ((u1 101 28 rfl).trans e26)))
          · exact (wmo hc u4 (by omega)).trans ((wmo hc u3 (by omega)).trans ((wmo hc u2 (by omega)).trans p2))
          · exact (wmo hc u4 (by omega)).trans ((wmo hc u3 (by omega)).trans p4)
          · exact (wmo hc u4 (by omega)).trans p6
          · exact (wmo hc u4 (by omega)).trans ((wmo hc u3 (by omega)).trans ((wmo hc u2 (by omega)).trans ((wmo hc u1 (by omega)).trans (q0' k))))
