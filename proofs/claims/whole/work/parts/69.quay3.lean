/-! quay: the class's call -/
theorem xcopyS {n m : Nat} {σ : jS} (hn : n ≤ 10) (hm : m ≤ 8) (h0 : g_i σ 5 1 = nI n) (h1 : g_i σ 7 1 = nI n) (h2 : g_i σ 9 1 = nI n) (h3 : g_i σ 11 1 = nI n) (h4 : g_i σ 13 1 = nI m) (h5 : g_i σ 15 1 = nI m) (h6 : g_i σ 17 1 = nI m) (h7 : g_i σ 19 1 = nI m) : ∃ τ, f_X6_copy (jn nmQ [30, 31, 32, 33, 34, 35, 36, 37, 38, 39, 40, 41, 42, 43, 44, 45, 46, 3, 4, 5, 6, 7, 8, 9, 10, 11, 12, 13, 14, 15, 16, 17, 18, 19]) σ = some τ ∧ ux (fun a _ => decide (31 ≤ a ∧ a ≤ 47)) σ τ ∧ (g_i τ 32 1 = nI n ∧ g_i τ 34 1 = nI n ∧ g_i τ 36 1 = nI n ∧ g_i τ 38 1 = nI n ∧ g_i τ 40 1 = nI m ∧ g_i τ 42 1 = nI m ∧ g_i τ 44 1 = nI m ∧ g_i τ 46 1 = nI m) ∧ (∀ k, k < n → g_i τ 33 k = g_i σ 6 k ∧ g_i τ 35 k = g_i σ 8 k ∧ g_i τ 37 k = g_i σ 10 k ∧ g_i τ 39 k = g_i σ 12 k) ∧ (∀ k, k < m → g_i τ 41 k = g_i σ 14 k ∧ g_i τ 43 k = g_i σ 16 k ∧ g_i τ 45 k = g_i σ 18 k ∧ g_i τ 47 k = g_i σ 20 k) ∧ g_i τ 31 8 = g_i σ 4 8 ∧ g_i τ 31 9 = g_i σ 4 9 ∧ g_i τ 31 10 = g_i σ 4 10 := by
  obtain ⟨τ1, e1, u1, y1, z1⟩ := row_copy (nm := jn (jn nmQ [30, 31, 32, 33, 34, 35, 36, 37, 38, 39, 40, 41, 42, 43, 44, 45, 46, 3, 4, 5, 6, 7, 8, 9, 10, 11, 12, 13, 14, 15, 16, 17, 18, 19]) [1, 2, 18, 19]) (σ := σ) (N := 10) (n := n) (d0 := 32) (d1 := 33) (s0 := 5) (s1 := 6) rfl rfl rfl rfl (by decide) (by decide) (by decide) (by decide) (by decide) h0 hn (by decide)
  have v1 : ∀ a k, (a < 32 ∨ 33 < a) → g_i τ1 a k = g_i σ a k := fun a k ha => u1 a k (decide_eq_false (by omega))
  obtain ⟨τ2, e2, u2, y2, z2⟩ := row_copy (nm := jn (jn nmQ [30, 31, 32, 33, 34, 35, 36, 37, 38, 39, 40, 41, 42, 43, 44, 45, 46, 3, 4, 5, 6, 7, 8, 9, 10, 11, 12, 13, 14, 15, 16, 17, 18, 19]) [3, 4, 20, 21]) (σ := τ1) (N := 10) (n := n) (d0 := 34) (d1 := 35) (s0 := 7) (s1 := 8) rfl rfl rfl rfl (by decide) (by decide) (by decide) (by decide) (by decide) ((v1 7 1 (Or.inl (by omega))).trans h1) hn (by decide)
  have v2 : ∀ a k, (a < 32 ∨ 35 < a) → g_i τ2 a k = g_i σ a k := fun a k ha => (u2 a k (decide_eq_false (by omega))).trans (v1 a k (by omega))
  obtain ⟨τ3, e3, u3, y3, z3⟩ := row_copy (nm := jn (jn nmQ [30, 31, 32, 33, 34, 35, 36, 37, 38, 39, 40, 41, 42, 43, 44, 45, 46, 3, 4, 5, 6, 7, 8, 9, 10, 11, 12, 13, 14, 15, 16, 17, 18, 19]) [5, 6, 22, 23]) (σ := τ2) (N := 10) (n := n) (d0 := 36) (d1 := 37) (s0 := 9) (s1 := 10) rfl rfl rfl rfl (by decide) (by decide) (by decide) (by decide) (by decide) ((v2 9 1 (Or.inl (by omega))).trans h2) hn (by decide)
  have v3 : ∀ a k, (a < 32 ∨ 37 < a) → g_i τ3 a k = g_i σ a k := fun a k ha => (u3 a k (decide_eq_false (by omega))).trans (v2 a k (by omega))
  obtain ⟨τ4, e4, u4, y4, z4⟩ := row_copy (nm := jn (jn nmQ [30, 31, 32, 33, 34, 35, 36, 37, 38, 39, 40, 41, 42, 43, 44, 45, 46, 3, 4, 5, 6, 7, 8, 9, 10, 11, 12, 13, 14, 15, 16, 17, 18, 19]) [7, 8, 24, 25]) (σ := τ3) (N := 10) (n := n) (d0 := 38) (d1 := 39) (s0 := 11) (s1 := 12) rfl rfl rfl rfl (by decide) (by decide) (by decide) (by decide) (by decide) ((v3 11 1 (Or.inl (by omega))).trans h3) hn (by decide)
  have v4 : ∀ a k, (a < 32 ∨ 39 < a) → g_i τ4 a k = g_i σ a k := fun a k ha => (u4 a k (decide_eq_false (by omega))).trans (v3 a k (by omega))
  obtain ⟨τ5, e5, u5, y5, z5⟩ := row_copy (nm := jn (jn nmQ [30, 31, 32, 33, 34, 35, 36, 37, 38, 39, 40, 41, 42, 43, 44, 45, 46, 3, 4, 5, 6, 7, 8, 9, 10, 11, 12, 13, 14, 15, 16, 17, 18, 19]) [9, 10, 26, 27]) (σ := τ4) (N := 8) (n := m) (d0 := 40) (d1 := 41) (s0 := 13) (s1 := 14) rfl rfl rfl rfl (by decide) (by decide) (by decide) (by decide) (by decide) ((v4 13 1 (Or.inl (by omega))).trans h4) hm (by decide)
  have v5 : ∀ a k, (a < 32 ∨ 41 < a) → g_i τ5 a k = g_i σ a k := fun a k ha => (u5 a k (decide_eq_false (by omega))).trans (v4 a k (by omega))
  obtain ⟨τ6, e6, u6, y6, z6⟩ := row_copy (nm := jn (jn nmQ [30, 31, 32, 33, 34, 35, 36, 37, 38, 39, 40, 41, 42, 43, 44, 45, 46, 3, 4, 5, 6, 7, 8, 9, 10, 11, 12, 13, 14, 15, 16, 17, 18, 19]) [11, 12, 28, 29]) (σ := τ5) (N := 8) (n := m) (d0 := 42) (d1 := 43) (s0 := 15) (s1 := 16) rfl rfl rfl rfl (by decide) (by decide) (by decide) (by decide) (by decide) ((v5 15 1 (Or.inl (by omega))).trans h5) hm (by decide)
  have v6 : ∀ a k, (a < 32 ∨ 43 < a) → g_i τ6 a k = g_i σ a k := fun a k ha => (u6 a k (decide_eq_false (by omega))).trans (v5 a k (by omega))
  obtain ⟨τ7, e7, u7, y7, z7⟩ := row_copy (nm := jn (jn nmQ [30, 31, 32, 33, 34, 35, 36, 37, 38, 39, 40, 41, 42, 43, 44, 45, 46, 3, 4, 5, 6, 7, 8, 9, 10, 11, 12, 13, 14, 15, 16, 17, 18, 19]) [13, 14, 30, 31]) (σ := τ6) (N := 8) (n := m) (d0 := 44) (d1 := 45) (s0 := 17) (s1 := 18) rfl rfl rfl rfl (by decide) (by decide) (by decide) (by decide) (by decide) ((v6 17 1 (Or.inl (by omega))).trans h6) hm (by decide)
  have v7 : ∀ a k, (a < 32 ∨ 45 < a) → g_i τ7 a k = g_i σ a k := fun a k ha => (u7 a k (decide_eq_false (by omega))).trans (v6 a k (by omega))
  obtain ⟨τ8, e8, u8, y8, z8⟩ := row_copy (nm := jn (jn nmQ [30, 31, 32, 33, 34, 35, 36, 37, 38, 39, 40, 41, 42, 43, 44, 45, 46, 3, 4, 5, 6, 7, 8, 9, 10, 11, 12, 13, 14, 15, 16, 17, 18, 19]) [15, 16, 32, 33]) (σ := τ7) (N := 8) (n := m) (d0 := 46) (d1 := 47) (s0 := 19) (s1 := 20) rfl rfl rfl rfl (by decide) (by decide) (by decide) (by decide) (by decide) ((v7 19 1 (Or.inl (by omega))).trans h7) hm (by decide)
  have v8 : ∀ a k, (a < 32 ∨ 47 < a) → g_i τ8 a k = g_i σ a k := fun a k ha => (u8 a k (decide_eq_false (by omega))).trans (v7 a k (by omega))
  unfold f_X6_copy
  rw [e1, bnd, e2, bnd, e3, bnd, e4, bnd, e5, bnd, e6, bnd, e7, bnd, e8, bnd]
  show ∃ τ, some (s_i (s_i (s_i τ8 31 8 (g_i τ8 4 8)) 31 9 (g_i (s_i τ8 31 8 (g_i τ8 4 8)) 4 9)) 31 10 (g_i (s_i (s_i τ8 31 8 (g_i τ8 4 8)) 31 9 (g_i (s_i τ8 31 8 (g_i τ8 4 8)) 4 9)) 4 10)) = some τ ∧ _
  generalize hT : s_i (s_i (s_i τ8 31 8 (g_i τ8 4 8)) 31 9 (g_i (s_i τ8 31 8 (g_i τ8 4 8)) 4 9)) 31 10 (g_i (s_i (s_i τ8 31 8 (g_i τ8 4 8)) 31 9 (g_i (s_i τ8 31 8 (g_i τ8 4 8)) 4 9)) 4 10) = T
  have w : ∀ a k, a ≠ 31 → g_i T a k = g_i τ8 a k := fun a k ha => by rw [← hT, s_i_a ha, s_i_a ha, s_i_a ha]
  have b8 : g_i T 31 8 = g_i τ8 4 8 := by rw [← hT]; exact (s_i_k (by decide)).trans ((s_i_k (by decide)).trans (s_i_eq _ _ _ _))
  have b9 : g_i T 31 9 = g_i τ8 4 9 := by rw [← hT]; exact (s_i_k (by decide)).trans (s_i_eq _ _ _ _)
  have b10 : g_i T 31 10 = g_i τ8 4 10 := by rw [← hT]; exact s_i_eq _ _ _ _
  have x7 : ∀ a k, 31 < a → a < 46 → g_i T a k = g_i τ7 a k := fun a k h1 h2 => (w a k (by omega)).trans (u8 a k (decide_eq_false (by omega)))
  have x6 : ∀ a k, 31 < a → a < 44 → g_i T a k = g_i τ6 a k := fun a k h1 h2 => (x7 a k (by omega) (by omega)).trans (u7 a k (decide_eq_false (by omega)))
  have x5 : ∀ a k, 31 < a → a < 42 → g_i T a k = g_i τ5 a k := fun a k h1 h2 => (x6 a k (by omega) (by omega)).trans (u6 a k (decide_eq_false (by omega)))
  have x4 : ∀ a k, 31 < a → a < 40 → g_i T a k = g_i τ4 a k := fun a k h1 h2 => (x5 a k (by omega) (by omega)).trans (u5 a k (decide_eq_false (by omega)))
  have x3 : ∀ a k, 31 < a → a < 38 → g_i T a k = g_i τ3 a k := fun a k h1 h2 => (x4 a k (by omega) (by omega)).trans (u4 a k (decide_eq_false (by omega)))
  have x2 : ∀ a k, 31 < a → a < 36 → g_i T a k = g_i τ2 a k := fun a k h1 h2 => (x3 a k (by omega) (by omega)).trans (u3 a k (decide_eq_false (by omega)))
  have x1 : ∀ a k, 31 < a → a < 34 → g_i T a k = g_i τ1 a k := fun a k h1 h2 => (x2 a k (by omega) (by omega)).trans (u2 a k (decide_eq_false (by omega)))
  refine ⟨T, rfl, fun a k hk => ?_, ⟨(x1 32 1 (by omega) (by omega)).trans y1, (x2 34 1 (by omega) (by omega)).trans y2, (x3 36 1 (by omega) (by omega)).trans y3, (x4 38 1 (by omega) (by omega)).trans y4, (x5 40 1 (by omega) (by omega)).trans y5, (x6 42 1 (by omega) (by omega)).trans y6, (x7 44 1 (by omega) (by omega)).trans y7, (w 46 1 (by decide)).trans y8⟩, fun k hk => ⟨(x1 33 k (by omega) (by omega)).trans (z1 k hk), ((x2 35 k (by omega) (by omega)).trans (z2 k hk)).trans (v1 8 k (Or.inl (by omega))), ((x3 37 k (by omega) (by omega)).trans (z3 k hk)).trans (v2 10 k (Or.inl (by omega))), ((x4 39 k (by omega) (by omega)).trans (z4 k hk)).trans (v3 12 k (Or.inl (by omega)))⟩, fun k hk => ⟨((x5 41 k (by omega) (by omega)).trans (z5 k hk)).trans (v4 14 k (Or.inl (by omega))), ((x6 43 k (by omega) (by omega)).trans (z6 k hk)).trans (v5 16 k (Or.inl (by omega))), ((x7 45 k (by omega) (by omega)).trans (z7 k hk)).trans (v6 18 k (Or.inl (by omega))), ((w 47 k (by decide)).trans (z8 k hk)).trans (v7 20 k (Or.inl (by omega)))⟩, b8.trans (v8 4 8 (Or.inl (by omega))), b9.trans (v8 4 9 (Or.inl (by omega))), b10.trans (v8 4 10 (Or.inl (by omega)))⟩
  have hk := of_decide_eq_false hk
  exact (w a k (by omega)).trans (v8 a k (by omega))
def dfQ (i : Nat) : Int32 := if i = 0 then 20 else if i = 1 then 30 else 5
def bv (o : Nat → Int32) (i : Nat) : Int32 := if o i = 0 then dfQ i else o i
theorem fill_c {o : Nat → Int32} {σ : jS} (h0 : g_i σ 4 8 = o 0) (h1 : g_i σ 4 9 = o 1) (h2 : g_i σ 4 10 = o 2) : f_X6_fillUntold (jn nmQ [3, 4, 5, 6, 7, 8, 9, 10, 11, 12, 13, 14, 15, 16, 17, 18, 19]) σ = some (s_i (s_i (s_i σ 4 8 (bv o 0)) 4 9 (bv o 1)) 4 10 (bv o 2)) := by
  have ei : ∀ (x y : Int32), (if x = 0 then some y else some x) = some (if x = 0 then y else x) := fun x y => by
    by_cases h : x = 0
    · rw [if_pos h, if_pos h]
    · rw [if_neg h, if_neg h]
  unfold f_X6_fillUntold
  show (if g_i σ 4 8 = 0 then some 20 else some (g_i σ 4 8)).bind _ = _
  rw [h0, ei, bnd]
  unfold f_X6_fillUntold_J17
  show (if g_i (s_i σ 4 8 (bv o 0)) 4 9 = 0 then some 30 else some (g_i (s_i σ 4 8 (bv o 0)) 4 9)).bind _ = _
  rw [show g_i (s_i σ 4 8 (bv o 0)) 4 9 = o 1 from (s_i_k (by decide)).trans h1, ei, bnd]
  unfold f_X6_fillUntold_J37
  show (if g_i (s_i (s_i σ 4 8 (bv o 0)) 4 9 (bv o 1)) 4 10 = 0 then some 5 else some (g_i (s_i (s_i σ 4 8 (bv o 0)) 4 9 (bv o 1)) 4 10)).bind _ = _
  rw [show g_i (s_i (s_i σ 4 8 (bv o 0)) 4 9 (bv o 1)) 4 10 = o 2 from (s_i_k (by decide)).trans ((s_i_k (by decide)).trans h2), ei, bnd]
  rfl
theorem hfQuay (v : Int32) (σ : jS) : f_X5_readQuay_L16 nmQ (v, σ) = if 400 ≤ v then some (.inr σ) else (f_X3_hasMore (jn nmQ [29, 1, 2]) σ).bind (fun x => if x.1 = 0 then some (.inr x.2) else (f_X5_readQuayClause nmC x.2).bind (fun s5 => some (.inl (v + 1, s5)))) := rfl
def q0S : QS := ((s0R, s0R), fun _ => 0)
def wQx (a k : Nat) : Bool := decide (a = 30 ∨ (4 ≤ a ∧ a ≤ 20) ∨ (a = 1 ∧ k = 1))
def wQy (a k : Nat) : Bool := wQx a k || decide ((31 ≤ a ∧ a ≤ 47) ∨ (58 ≤ a ∧ a ≤ 61) ∨ (a = 57 ∧ 5 ≤ k ∧ k ≤ 7) ∨ ((a = 49 ∨ a = 51 ∨ a = 53 ∨ a = 77 ∨ a = 79) ∧ k = 1) ∨ ((a = 67 ∨ a = 72) ∧ k = 9) ∨ (a = 91 ∧ k = 7))
theorem xreadQ {F : Nat → Int32} {c : Nat} {σ : jS} (hC : XC F c σ) : ∃ r τ, f_X5_readQuay nmQ σ = some (r, τ) ∧ g_i τ 1 1 = 0 ∧ (∀ s, runP (quayP F c) F c c q0S 0 = .ok s → ux (fun a k => wQx a k || decide (31 ≤ a ∧ a ≤ 47)) σ τ ∧ r = nI s.1.1.1 ∧ g_i τ 30 5 = -1 ∧ (∃ υ, DQX s υ ∧ (g_i τ 32 1 = nI s.1.1.1 ∧ g_i τ 34 1 = nI s.1.1.1 ∧ g_i τ 36 1 = nI s.1.1.1 ∧ g_i τ 38 1 = nI s.1.1.1 ∧ g_i τ 40 1 = nI s.1.2.1 ∧ g_i τ 42 1 = nI s.1.2.1 ∧ g_i τ 44 1 = nI s.1.2.1 ∧ g_i τ 46 1 = nI s.1.2.1) ∧ (∀ k, k < s.1.1.1 → g_i τ 33 k = g_i υ 6 k ∧ g_i τ 35 k = g_i υ 8 k ∧ g_i τ 37 k = g_i υ 10 k ∧ g_i τ 39 k = g_i υ 12 k) ∧ (∀ k, k < s.1.2.1 → g_i τ 41 k = g_i υ 14 k ∧ g_i τ 43 k = g_i υ 16 k ∧ g_i τ 45 k = g_i υ 18 k ∧ g_i τ 47 k = g_i υ 20 k) ∧ g_i τ 31 8 = bv s.2 0 ∧ g_i τ 31 9 = bv s.2 1 ∧ g_i τ 31 10 = bv s.2 2)) ∧ (∀ e, runP (quayP F c) F c c q0S 0 = .error e → ux wQx σ τ ∧ (1 ≤ e.1 ∧ e.1 ≤ 4) ∧ r = -10 - nI e.1 ∧ g_i τ 30 5 = nI e.2) := by
  have hc := hC.1
  unfold f_X5_readQuay
  have e0 : f_X6_empty (jn nmQ [3, 4, 5, 6, 7, 8, 9, 10, 11, 12, 13, 14, 15, 16, 17, 18, 19]) σ = some (s_i (s_i (s_i (s_i (s_i (s_i (s_i (s_i (s_i (s_i (s_i σ 5 1 0) 7 1 0) 9 1 0) 11 1 0) 13 1 0) 15 1 0) 17 1 0) 19 1 0) 4 8 0) 4 9 0) 4 10 0) := rfl
  rw [e0, bnd]
  generalize hσ0 : s_i (s_i (s_i (s_i (s_i (s_i (s_i (s_i (s_i (s_i (s_i σ 5 1 0) 7 1 0) 9 1 0) 11 1 0) 13 1 0) 15 1 0) 17 1 0) 19 1 0) 4 8 0) 4 9 0) 4 10 0 = σ0
  have u0 : ux wQX σ σ0 := by rw [← hσ0]; exact ux_s (ux_s (ux_s (ux_s (ux_s (ux_s (ux_s (ux_s (ux_s (ux_s (ux_s (ux_refl _ _) rfl) rfl) rfl) rfl) rfl) rfl) rfl) rfl) rfl) rfl) rfl
  have d0 : DQX q0S σ0 := by
    rw [← hσ0]
    exact ⟨⟨by decide, by decide⟩, ⟨rfl, rfl, rfl, rfl⟩, ⟨rfl, rfl, rfl, rfl⟩, fun k hk => absurd hk (Nat.not_lt_zero k), fun k hk => absurd hk (Nat.not_lt_zero k), ⟨rfl, by decide, by decide⟩, ⟨rfl, by decide, by decide⟩, ⟨rfl, by decide, by decide⟩⟩
  have es : f_X3_start (jn nmQ [29, 1, 2]) σ0 = some (s_i (s_i (s_i σ0 30 1 0) 30 4 0) 30 5 (-1)) := rfl
  rw [es, bnd]
  generalize hσ1 : s_i (s_i (s_i σ0 30 1 0) 30 4 0) 30 5 (-1) = σ1
  have u01 : ux w30 σ0 σ1 := by rw [← hσ1]; exact ux30 (ux30 (ux30 (ux_refl _ _)))
  have u1 : ux wQX σ σ1 := ux_tr u0 (wq30 u01)
  have r1 : XR c (.ok 0) σ1 := by
    rw [← hσ1]
    exact ⟨0, by omega, (s_i_k (by decide)).trans ((s_i_k (by decide)).trans (s_i_eq _ _ _ _)), rfl, (s_i_k (by decide)).trans (s_i_eq _ _ _ _), s_i_eq _ _ _ _⟩
  have d1 : DQX q0S σ1 := d0.cg u01 (fun a k h1 h2 => decide_eq_false (by omega))
  have c1 : XC F c σ1 := hC.cg u1 rfl (fun _ => rfl)
  obtain ⟨τ1, e1, u2, x1⟩ := xloop (F := F) (c := c) (cls := f_X5_readQuayClause nmC) (nm := jn nmQ [29, 1, 2]) (cl := quayP F c) (D := DQX) (W := wQX) rfl rfl rfl hfQuay (fun _ => rfl) rfl (fun _ => rfl) (fun s σ τ u d => d.cg u (fun a k h1 h2 => decide_eq_false (by omega))) quayP_cl (fun s p σ hC hp hs hR hD => xquayC hC hp hs hR hD) c1 r1 d1
  rw [e1, bnd]
  unfold f_X5_readQuay_J43
  have ee : f_X4_empty (jn nmQ [1, 2]) 400 τ1 = some (s_i τ1 1 1 0) := rfl
  rw [ee, bnd]
  generalize hτ2 : s_i τ1 1 1 0 = τ2
  have u3 : ux wQx σ τ2 := by
    rw [← hτ2]
    refine ux_s (ux_w (ux_tr u1 u2) (fun a k hk => ?_)) rfl
    have hk := of_decide_eq_false hk
    exact decide_eq_false (fun h => hk (by omega))
  have q3 : ∀ a k, a ≠ 1 → g_i τ2 a k = g_i τ1 a k := fun a k ha => by rw [← hτ2]; exact s_i_a ha
  have t11 : g_i τ2 1 1 = 0 := by rw [← hτ2]; exact s_i_eq _ _ _ _
  have ef : f_X3_hasFault (jn nmQ [29, 1, 2]) τ2 = if g_i τ2 30 4 = 0 then some 0 else some 1 := rfl
  rw [ef]
  cases hr : runP (quayP F c) F c c q0S 0 with
  | ok s =>
    rw [hr] at x1
    obtain ⟨⟨p, p', -, -, -, f4, f5⟩, hD⟩ := x1
    have hD2 : DQX s τ2 := hD.cg (W := fun a _ => decide (a = 1)) (fun a k hk => q3 a k (of_decide_eq_false hk)) (fun a k h1 h2 => decide_eq_false (by omega))
    rw [if_pos ((q3 30 4 (by decide)).trans f4), bnd, if_pos rfl]
    have hD3 := hD2
    obtain ⟨z0, ⟨z1, z2, z3, z4⟩, ⟨z5, z6, z7, z8⟩, -, -, z9, z10, z11⟩ := hD2
    rw [fill_c z9.1 z10.1 z11.1, bnd]
    generalize hτ3 : s_i (s_i (s_i τ2 4 8 (bv s.2 0)) 4 9 (bv s.2 1)) 4 10 (bv s.2 2) = τ3
    have q4 : ∀ a k, a ≠ 4 → g_i τ3 a k = g_i τ2 a k := fun a k ha => by rw [← hτ3, s_i_a ha, s_i_a ha, s_i_a ha]
    have b8 : g_i τ3 4 8 = bv s.2 0 := by rw [← hτ3]; exact (s_i_k (by decide)).trans ((s_i_k (by decide)).trans (s_i_eq _ _ _ _))
    have b9 : g_i τ3 4 9 = bv s.2 1 := by rw [← hτ3]; exact (s_i_k (by decide)).trans (s_i_eq _ _ _ _)
    have b10 : g_i τ3 4 10 = bv s.2 2 := by rw [← hτ3]; exact s_i_eq _ _ _ _
    obtain ⟨τ4, e4, u4, y1, y2, y3, y4, y5, y6⟩ := xcopyS (n := s.1.1.1) (m := s.1.2.1) (σ := τ3) z0.1 z0.2 ((q4 5 1 (by decide)).trans z1) ((q4 7 1 (by decide)).trans z2) ((q4 9 1 (by decide)).trans z3) ((q4 11 1 (by decide)).trans z4) ((q4 13 1 (by decide)).trans z5) ((q4 15 1 (by decide)).trans z6) ((q4 17 1 (by decide)).trans z7) ((q4 19 1 (by decide)).trans z8)
    rw [e4, bnd]
    have el : f_X6_lamps (jn nmQ [30, 31, 32, 33, 34, 35, 36, 37, 38, 39, 40, 41, 42, 43, 44, 45, 46]) τ4 = some (nI s.1.1.1) := congrArg some y1.1
    rw [el, bnd]
    refine ⟨_, τ4, rfl, ?_, fun s' hs' => ?_, fun e he => by cases he⟩
    · exact (u4 1 1 rfl).trans ((q4 1 1 (by decide)).trans t11)
    have hs' := Except.ok.inj hs'
    subst hs'
    refine ⟨fun a k hk => ?_, rfl, (u4 30 5 rfl).trans ((q4 30 5 (by decide)).trans ((q3 30 5 (by decide)).trans f5)), τ2, hD3, y1, fun k hk => ?_, fun k hk => ?_, y4.trans b8, y5.trans b9, y6.trans b10⟩
    · obtain ⟨k1, k2⟩ := Bool.or_eq_false_iff.mp hk
      have k1' := of_decide_eq_false k1
      exact (u4 a k k2).trans ((q4 a k (by omega)).trans (u3 a k k1))
    · obtain ⟨o1, o2, o3, o4⟩ := y2 k hk
      exact ⟨o1.trans (q4 6 k (by decide)), o2.trans (q4 8 k (by decide)), o3.trans (q4 10 k (by decide)), o4.trans (q4 12 k (by decide))⟩
    · obtain ⟨o1, o2, o3, o4⟩ := y3 k hk
      exact ⟨o1.trans (q4 14 k (by decide)), o2.trans (q4 16 k (by decide)), o3.trans (q4 18 k (by decide)), o4.trans (q4 20 k (by decide))⟩
  | error e =>
    rw [hr] at x1
    obtain ⟨p, -, -, f0, f4, f5⟩ := x1
    have e4 : g_i τ2 30 4 = nI e.1 := (q3 30 4 (by decide)).trans f4
    rw [e4, if_neg (nz14 f0), bnd, if_neg i10]
    refine ⟨_, τ2, rfl, t11, fun s h => (by cases h), fun e' he' => ?_⟩
    have he' := Except.error.inj he'
    subst he'
    exact ⟨u3, f0, congrArg (fun z => (-10 : Int32) - z) e4, (q3 30 5 (by decide)).trans f5⟩
