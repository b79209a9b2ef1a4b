/-! month -/
def onlyP (F : Nat → Int32) (c w : Nat) (full : Bool) (p : Nat) : PE Nat := if wdB F p (lw F c p) (rvw w) = true then (if full = true then .error (3, p) else .ok (lw F c p)) else .error (1, p)
theorem xonly {nm : Nat → Nat} {F : Nat → Int32} {c p w n N : Nat} {σ : jS} (h0 : nm 29 = 30) (h1 : nm 1 = 1) (h2 : nm 2 = 2) (hw : w < 7) (hC : XC F c σ) (hs : sk F c p = p) (hR : XR c (.ok p) σ) (hrow : g_i σ (nm 30) 1 = nI n) (hne : nm 30 ≠ 30) (hn : n ≤ N) (hN : N < 2147483648) : ∃ τ, f_X5_readOnlyWord nm N w σ = some τ ∧ ux w30 σ τ ∧ XR c (onlyP F c w (decide (n = N)) p) τ := by
  obtain ⟨τ, e, u, x, e2⟩ := xwordR (nm := jn nm [29, 1, 2]) h0 h1 h2 hC hR
  rw [hs] at x e2
  have hp : p ≤ c := by obtain ⟨p', hp, -, rfl, -⟩ := hR; exact hp
  have hl := lw_le F hp
  have hCτ : XC F c τ := hC.cg u rfl (fun _ => rfl)
  have e1 : g_i τ 30 1 = nI (lw F c p) := by obtain ⟨p', -, e, rfl, -⟩ := x; exact e
  have ei := xis (nm := jn nm [29, 1, 2]) h0 h1 h2 hw hCτ hl.1 hl.2 e1 e2
  have ef : f_X4_isFull (jn nm [30, 31]) N τ = some (if n < N then 0 else 1) := row_full ((u (nm 30) 1 (decide_eq_false hne)).trans hrow) hn hN
  have ew : ∀ m : Nat, 1 ≤ m ∧ m ≤ 4 → ∃ υ, (f_X3_failAtWord (jn nm [29, 1, 2]) (nI m) τ) = some υ ∧ ux w30 τ υ ∧ XR c (.error (m, p)) υ := fun m hm => by
    obtain ⟨υ, a, b, d, -⟩ := xfail (nm := jn nm [29, 1, 2]) (q := p) h0 hm x
    refine ⟨υ, ?_, b, d⟩
    unfold f_X3_failAtWord
    show (f_X3_fail _ (nI m) (g_i τ (nm 29) 2) τ).bind _ = _
    rw [h0, e2, a]; rfl
  unfold f_X5_readOnlyWord onlyP
  rw [e, bnd, ei, bnd]
  by_cases hwd : wdB F p (lw F c p) (rvw w) = true
  · rw [if_pos hwd, if_neg i10, ef, bnd, if_pos hwd]
    by_cases hnN : n < N
    · rw [if_pos hnN, if_pos rfl, if_neg (by simp; omega)]
      exact ⟨τ, rfl, u, x⟩
    · rw [if_neg hnN, if_neg i10, if_pos (by simp; omega)]
      obtain ⟨υ, a, b, d⟩ := ew 3 (by omega)
      exact ⟨υ, by show (f_X3_failAtWord _ (nI 3) τ).bind _ = _; rw [a]; rfl, ux_tr u b, d⟩
  · rw [if_neg hwd, if_pos rfl, if_neg hwd]
    obtain ⟨υ, a, b, d⟩ := ew 1 (by omega)
    exact ⟨υ, by show (f_X3_failAtWord _ (nI 1) τ).bind _ = _; rw [a]; rfl, ux_tr u b, d⟩
abbrev SR : Type := Nat × (Nat → Int32)
def udF (h : Nat → Int32) (i : Nat) (v : Int32) : Nat → Int32 := fun k => if k = i then v else h k
theorem udF_eq (h : Nat → Int32) (i : Nat) (v : Int32) : udF h i v i = v := if_pos rfl
theorem udF_ne {h : Nat → Int32} {i k : Nat} {v : Int32} (hk : k ≠ i) : udF h i v k = h k := if_neg hk
def dayP (F : Nat → Int32) (c : Nat) (s : SR) (p : Nat) : PE (SR × Nat) := bP (onlyP F c 6 (decide (s.1 = 30)) p) (fun q => bP (numP F c 0 9 q) (fun a => bP (stopP F c a.2) (fun r => .ok ((s.1 + 1, udF s.2 s.1 a.1), r))))
theorem bP_ok {α β : Type} {x : PE α} {f : α → PE β} {b : β} (h : bP x f = .ok b) : ∃ a, x = .ok a ∧ f a = .ok b := by
  cases x with
  | ok a => exact ⟨a, rfl, h⟩
  | error e => cases h
theorem onlyP_ok {F : Nat → Int32} {c w p q : Nat} {full : Bool} (h : onlyP F c w full p = .ok q) : q = lw F c p ∧ full = false := by
  unfold onlyP at h
  by_cases hw : wdB F p (lw F c p) (rvw w) = true
  · rw [if_pos hw] at h
    cases full with
    | true => rw [if_pos rfl] at h; cases h
    | false => rw [if_neg (by decide)] at h; exact ⟨(Except.ok.inj h).symm, rfl⟩
  · rw [if_neg hw] at h; cases h
theorem dayP_ok {F : Nat → Int32} {c p r : Nat} {s s' : SR} (hp : p ≤ c) (h : dayP F c s p = .ok (s', r)) : ∃ q v t, onlyP F c 6 (decide (s.1 = 30)) p = .ok q ∧ numP F c 0 9 q = .ok (v, t) ∧ stopP F c t = .ok r ∧ s' = (s.1 + 1, udF s.2 s.1 v) ∧ s.1 ≠ 30 ∧ rg v 0 9 ∧ (p ≤ q ∧ q ≤ t ∧ t < r ∧ r ≤ c) := by
  obtain ⟨q, h1, h⟩ := bP_ok h
  obtain ⟨⟨v, t⟩, h2, h⟩ := bP_ok h
  obtain ⟨r', h3, h⟩ := bP_ok h
  have h := Except.ok.inj h
  have e1 : (s.1 + 1, udF s.2 s.1 v) = s' := congrArg Prod.fst h
  have e2 : r' = r := congrArg Prod.snd h
  subst e2
  have o := onlyP_ok h1
  have hl := lw_le F hp
  rw [← o.1] at hl
  have n := numP_ok hl.2 h2
  have st := stopP_ok n.2.2.1 h3
  exact ⟨q, v, t, h1, h2, h3, e1.symm, of_decide_eq_false o.2, n.1, hl.1, n.2.1, st⟩
def DX (s : SR) (σ : jS) : Prop := s.1 ≤ 30 ∧ g_i σ 28 1 = nI s.1 ∧ ∀ k, k < s.1 → g_i σ 29 k = s.2 k ∧ rg (s.2 k) 0 9
def DM (s : SR) (σ : jS) : Prop := s.1 ≤ 30 ∧ g_i σ 101 32 = nI s.1 ∧ ∀ k, k < s.1 → g_i σ 113 k = s.2 k
def wDX (a _k : Nat) : Bool := decide (a = 30 ∨ a = 28 ∨ a = 29)
def nmS : Nat → Nat := jn nmX [3, 1, 2, 4, 5, 6, 7, 8, 9, 10, 11, 12, 13, 14, 15, 16, 17, 18, 19, 20, 21, 22, 23, 24, 25, 26, 27, 28, 29, 30, 55, 56]
noncomputable def clsDay (σ : jS) : Option jS := (f_X5_readOnlyWord (jn nmS [0, 1, 2, 3, 4, 5, 6, 7, 8, 9, 10, 11, 12, 13, 14, 15, 16, 17, 18, 19, 20, 21, 22, 23, 24, 25, 26, 27, 28, 29, 27, 28]) 30 6 σ).bind (fun s5 => (f_X3_readNumber (jn nmS [29, 1, 2]) 0 9 s5).bind (fun x => (f_X4_put (jn nmS [27, 28]) 30 x.1 x.2).bind (fun s8 => f_X3_endClause (jn nmS [29, 1, 2]) s8)))
theorem ob_c {α β γ : Type} {x : Option α} {f : α → Option β} {g : β → Option γ} : (x.bind f).bind g = x.bind (fun a => (f a).bind g) := by cases x <;> rfl
theorem ob_e {α β : Type} {x : Option α} {f g : α → Option β} (h : ∀ a, f a = g a) : x.bind f = x.bind g := by cases x with
  | none => rfl
  | some a => exact h a
theorem hfDay (v : Int32) (σ : jS) : f_X5_readMonth_L16 nmS 30 (v, σ) = if 400 ≤ v then some (.inr σ) else (f_X3_hasMore (jn nmS [29, 1, 2]) σ).bind (fun x => if x.1 = 0 then some (.inr x.2) else (clsDay x.2).bind (fun s5 => some (.inl (v + 1, s5)))) := by
  unfold f_X5_readMonth_L16 clsDay
  show (if 400 ≤ v then some (Sum.inr σ) else _) = _
  by_cases h : 400 ≤ v
  · rw [if_pos h, if_pos h]
  · rw [if_neg h, if_neg h]
    refine ob_e (fun x => ?_)
    obtain ⟨a, b⟩ := x
    show (if a = 0 then some (Sum.inr b) else _) = (if a = 0 then some (Sum.inr b) else _)
    by_cases ha : a = 0
    · rw [if_pos ha, if_pos ha]
    · rw [if_neg ha, if_neg ha, ob_c]
      refine ob_e (fun s => ?_)
      rw [ob_c]
      refine ob_e (fun x => ?_)
      obtain ⟨y, z⟩ := x
      rw [ob_c]
/-- a value put into a row that isn't full, or that stays as it is -/
theorem row_put2 {nm : Nat → Nat} {σ : jS} {n N : Nat} {v : Int32} (hne : nm 0 ≠ nm 1) (h : g_i σ (nm 0) 1 = nI n) (hn : n ≤ N) (hN : N < 2147483648) : ∃ τ, f_X4_put nm N v σ = some τ ∧ ux (wRc (nm 0) (nm 1)) σ τ ∧ (n = N → τ = σ) ∧ (n < N → g_i τ (nm 0) 1 = nI (n + 1) ∧ g_i τ (nm 1) n = v ∧ ∀ k, k ≠ n → g_i τ (nm 1) k = g_i σ (nm 1) k) := by
  by_cases hc : n < N
  · refine ⟨_, row_put hne h hc hN, ux_s (ux_s (ux_refl _ _) (decide_eq_true (Or.inr rfl))) (decide_eq_true (Or.inl ⟨rfl, rfl⟩)), fun e => by omega, fun _ => ⟨s_i_eq _ _ _ _, ?_, fun k hk => ?_⟩⟩
    · rw [s_i_a (fun e => hne e.symm)]; exact s_i_eq _ _ _ _
    · rw [s_i_a (fun e => hne e.symm)]; exact s_i_k hk
  · refine ⟨σ, ?_, ux_refl _ _, fun _ => rfl, fun e => by omega⟩
    unfold f_X4_put
    rw [h, if_pos (by rw [nI_le' (by omega) (by omega)]; omega)]
theorem xday {F : Nat → Int32} {c p : Nat} {s : SR} {σ : jS} (hC : XC F c σ) (hp : p < c) (hs : sk F c p = p) (hR : XR c (.ok p) σ) (hD : DX s σ) : ∃ τ, clsDay σ = some τ ∧ ux wDX σ τ ∧ XR c (nx (dayP F c s p)) τ ∧ (∀ s' r, dayP F c s p = .ok (s', r) → DX s' τ) := by
  obtain ⟨d1, d2, d3⟩ := hD
  have w3 : ∀ {σ τ : jS}, ux w30 σ τ → ux wDX σ τ := fun h => ux_w h (fun a k hk => decide_eq_false (fun e => (of_decide_eq_false hk) (Or.inl e)))
  obtain ⟨τ1, e1, u1, x1⟩ := xonly (nm := jn nmS [0, 1, 2, 3, 4, 5, 6, 7, 8, 9, 10, 11, 12, 13, 14, 15, 16, 17, 18, 19, 20, 21, 22, 23, 24, 25, 26, 27, 28, 29, 27, 28]) (w := 6) (N := 30) rfl rfl rfl (by omega) hC hs hR d2 (show (28 : Nat) ≠ 30 by decide) d1 (by omega)
  have c1 : XC F c τ1 := hC.cg u1 rfl (fun _ => rfl)
  obtain ⟨v, τ2, e2, u2, x2, y2⟩ := xnumR (nm := jn nmS [29, 1, 2]) (lo := 0) (hi := 9) rfl rfl rfl c1 x1
  have c2 : XC F c τ2 := c1.cg u2 rfl (fun _ => rfl)
  have k2 : g_i τ2 28 1 = nI s.1 := (u2 28 1 rfl).trans ((u1 28 1 rfl).trans d2)
  obtain ⟨τ3, e3, u3, n3, y3⟩ := row_put2 (nm := jn nmS [27, 28]) (N := 30) (v := v) (show (28 : Nat) ≠ 29 by decide) k2 d1 (by omega)
  have u3 : ux (wRc 28 29) τ2 τ3 := u3
  have c3 : XC F c τ3 := c2.cg u3 rfl (fun _ => rfl)
  have x3 := x2.cg u3 (fun _ => rfl)
  obtain ⟨τ4, e4, u4, x4⟩ := xendR (nm := jn nmS [29, 1, 2]) rfl rfl rfl c3 x3
  have u3' : ux wDX τ2 τ3 := ux_w u3 (fun a k hk => decide_eq_false (fun e => (of_decide_eq_false hk) (by rcases e with e | e; exact Or.inr (Or.inl e.1); exact Or.inr (Or.inr e))))
  refine ⟨τ4, ?_, ux_tr (ux_tr (ux_tr (w3 u1) (w3 u2)) u3') (w3 u4), ?_, ?_⟩
  · unfold clsDay
    rw [e1, bnd, e2, bnd, e3, bnd, e4]
  · have : bP (nx (bP (onlyP F c 6 (decide (s.1 = 30)) p) (numP F c 0 9))) (stopP F c) = nx (dayP F c s p) := by
      unfold dayP
      cases onlyP F c 6 (decide (s.1 = 30)) p with
      | error e => rfl
      | ok q =>
        show bP (nx (numP F c 0 9 q)) _ = nx (bP (numP F c 0 9 q) _)
        cases numP F c 0 9 q with
        | error e => rfl
        | ok a =>
          show stopP F c a.2 = nx (bP (stopP F c a.2) _)
          cases stopP F c a.2 <;> rfl
    rw [← this]; exact x4
  · intro s' r h
    obtain ⟨q, w, t, h1, h2, h3, rfl, hne, hw, hle⟩ := dayP_ok (by omega) h
    have hv := (y2 q h1).1
    have hw2 := (numP_ok (by omega) h2).2.2.2.1
    obtain ⟨z1, z2, z3⟩ := y3 (by omega)
    have z1 : g_i τ3 28 1 = nI (s.1 + 1) := z1
    have z2 : g_i τ3 29 s.1 = v := z2
    have z3 : ∀ k, k ≠ s.1 → g_i τ3 29 k = g_i τ2 29 k := z3
    refine ⟨by show s.1 + 1 ≤ 30; omega, (u4 28 1 rfl).trans z1, fun k hk => ?_⟩
    have hk : k < s.1 + 1 := hk
    show g_i τ4 29 k = udF s.2 s.1 w k ∧ rg (udF s.2 s.1 w k) 0 9
    rw [u4 29 k rfl]
    by_cases hks : k = s.1
    · rw [hks, udF_eq, z2, hv, ← hw2]
      exact ⟨rfl, hw⟩
    · rw [udF_ne hks, z3 k hks, u2 29 k rfl, u1 29 k rfl]
      exact d3 k (by omega)
def wDM (a k : Nat) : Bool := wM a k || decide ((a = 101 ∧ k = 32) ∨ a = 113)
theorem code6 : ∃ K : Int64, (f_X11_code 102 114 111 115).bind (fun q => f_X11_longer q 116) = some K ∧ K.toInt = encZ (rvw 6) := ⟨_, rfl, by decide +kernel⟩
theorem lets_ok : ∀ w, w < 7 → encZ (rvw w) ≤ 10000000000000 := by decide +kernel
theorem lets_all (w : Nat) (hw : w < 7) : bLets (rvw w) := by
  have : w = 0 ∨ w = 1 ∨ w = 2 ∨ w = 3 ∨ w = 4 ∨ w = 5 ∨ w = 6 := by omega
  rcases this with rfl | rfl | rfl | rfl | rfl | rfl | rfl
  · exact ⟨by decide, by decide, by decide, by decide, trivial⟩
  · exact ⟨by decide, by decide, by decide, by decide, by decide, by decide, trivial⟩
  · exact ⟨by decide, by decide, by decide, by decide, trivial⟩
  · exact ⟨by decide, by decide, by decide, by decide, by decide, trivial⟩
  · exact ⟨by decide, by decide, by decide, by decide, trivial⟩
  · exact ⟨by decide, by decide, by decide, by decide, trivial⟩
  · exact ⟨by decide, by decide, by decide, by decide, by decide, trivial⟩
