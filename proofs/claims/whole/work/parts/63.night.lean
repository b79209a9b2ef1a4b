/-! night: a song's clause, class side -/
def headP (F : Nat → Int32) (c : Nat) (s : SR) (p : Nat) : PE (Int32 × Nat) := bP (onlyP F c 5 (decide (s.1 = 30)) p) (fun q => bP (numP F c 0 599 q) (fun a => if 0 < s.1 ∧ a.1.toInt < (s.2 (3 * (s.1 - 1))).toInt then .error (4, sk F c q) else .ok a))
def tailP (F : Nat → Int32) (c m : Nat) (lo hi : Nat → Int32) (t : Nat) : PE ((Int32 × Int32) × Nat) := bP (numP F c 0 (nI m - 1) t) (fun b => bP (numP F c (lo b.1.toNatClampNeg) (hi b.1.toNatClampNeg) b.2) (fun d => bP (stopP F c d.2) (fun r => .ok ((b.1, d.1), r))))
def ud3 (h : Nat → Int32) (n : Nat) (x y z : Int32) : Nat → Int32 := udF (udF (udF h (3 * n) x) (3 * n + 1) y) (3 * n + 2) z
def songP (F : Nat → Int32) (c m : Nat) (lo hi : Nat → Int32) (s : SR) (p : Nat) : PE (SR × Nat) := bP (headP F c s p) (fun a => bP (tailP F c m lo hi a.2) (fun y => .ok ((s.1 + 1, ud3 s.2 s.1 a.1 y.1.1 y.1.2), y.2)))
theorem headP_ok {F : Nat → Int32} {c p t : Nat} {s : SR} {v : Int32} (hp : p ≤ c) (h : headP F c s p = .ok (v, t)) : ∃ q, onlyP F c 5 (decide (s.1 = 30)) p = .ok q ∧ numP F c 0 599 q = .ok (v, t) ∧ s.1 ≠ 30 ∧ ¬ (0 < s.1 ∧ v.toInt < (s.2 (3 * (s.1 - 1))).toInt) ∧ (p ≤ q ∧ q ≤ t ∧ t ≤ c) := by
  obtain ⟨q, h1, h⟩ := bP_ok h
  obtain ⟨⟨v', t'⟩, h2, h⟩ := bP_ok h
  have o := onlyP_ok h1
  have hl := lw_le F hp
  rw [← o.1] at hl
  by_cases he : 0 < s.1 ∧ v'.toInt < (s.2 (3 * (s.1 - 1))).toInt
  · rw [if_pos he] at h; cases h
  · rw [if_neg he] at h
    have h := Except.ok.inj h
    have e1 : v' = v := congrArg Prod.fst h
    have e2 : t' = t := congrArg Prod.snd h
    subst e1 e2
    have n := numP_ok hl.2 h2
    exact ⟨q, h1, h2, of_decide_eq_false o.2, he, hl.1, n.2.1, n.2.2.1⟩
theorem tailP_ok {F : Nat → Int32} {c m t r : Nat} {lo hi : Nat → Int32} {x y : Int32} (hm : m ≤ 8) (ht : t ≤ c) (h : tailP F c m lo hi t = .ok ((x, y), r)) : ∃ j b d, j < m ∧ x = nI j ∧ numP F c 0 (nI m - 1) t = .ok (nI j, b) ∧ numP F c (lo j) (hi j) b = .ok (y, d) ∧ stopP F c d = .ok r ∧ (t ≤ b ∧ b ≤ d ∧ d < r ∧ r ≤ c) := by
  obtain ⟨⟨b1, b2⟩, h1, h⟩ := bP_ok h
  obtain ⟨⟨d1, d2⟩, h2, h⟩ := bP_ok h
  obtain ⟨r', h3, h⟩ := bP_ok h
  have h := Except.ok.inj h
  have e1 : (b1, d1) = (x, y) := congrArg Prod.fst h
  have e2 : r' = r := congrArg Prod.snd h
  have e3 : b1 = x := congrArg Prod.fst e1
  have e4 : d1 = y := congrArg Prod.snd e1
  subst e2 e3 e4
  have n1 := numP_ok ht h1
  have n2 := numP_ok n1.2.2.1 h2
  have n3 := stopP_ok n2.2.2.1 h3
  have z0 : (0 : Int32).toInt = 0 := by decide
  have hb := n1.1
  rw [z0, nI_sub1 (by omega)] at hb
  obtain ⟨j, hj, rfl⟩ := (nI_iff (a := b1) (n := m) (by omega)).mpr ⟨hb.1, by omega⟩
  have h2 : numP F c (lo (nI j).toNatClampNeg) (hi (nI j).toNatClampNeg) b2 = .ok (d1, d2) := h2
  rw [nI_cl (by omega)] at h2
  exact ⟨j, b2, d2, hj, rfl, h1, h2, h3, n1.2.1, n2.2.1, n3.1, n3.2⟩
theorem songP_ok {F : Nat → Int32} {c m p r : Nat} {lo hi : Nat → Int32} {s s' : SR} (hm : m ≤ 8) (hp : p ≤ c) (h : songP F c m lo hi s p = .ok (s', r)) : ∃ v t x y, headP F c s p = .ok (v, t) ∧ tailP F c m lo hi t = .ok ((x, y), r) ∧ s' = (s.1 + 1, ud3 s.2 s.1 v x y) ∧ (p < r ∧ r ≤ c) := by
  obtain ⟨⟨v, t⟩, h1, h⟩ := bP_ok h
  obtain ⟨⟨⟨x, y⟩, r'⟩, h2, h⟩ := bP_ok h
  have h := Except.ok.inj h
  have e1 : (s.1 + 1, ud3 s.2 s.1 v x y) = s' := congrArg Prod.fst h
  have e2 : r' = r := congrArg Prod.snd h
  subst e2
  obtain ⟨q, -, -, -, -, hl⟩ := headP_ok hp h1
  obtain ⟨j, b, d, -, -, -, -, -, hl2⟩ := tailP_ok hm hl.2.2 h2
  exact ⟨v, t, x, y, h1, h2, e1.symm, by omega, by omega⟩
def SX (m : Nat) (lo hi : Nat → Int32) (σ : jS) : Prop := m ≤ 8 ∧ g_i σ 40 1 = nI m ∧ g_i σ 44 1 = nI m ∧ g_i σ 46 1 = nI m ∧ (∀ j, j < m → g_i σ 45 j = lo j ∧ g_i σ 47 j = hi j ∧ 0 ≤ (lo j).toInt ∧ (hi j).toInt ≤ 63)
theorem SX.cg {W : Nat → Nat → Bool} {m : Nat} {lo hi : Nat → Int32} {σ τ : jS} (hu : ux W σ τ) (h1 : W 40 1 = false) (h2 : W 44 1 = false) (h3 : W 46 1 = false) (h4 : ∀ k, W 45 k = false) (h5 : ∀ k, W 47 k = false) (h : SX m lo hi σ) : SX m lo hi τ := by
  obtain ⟨a, b, d, e, f⟩ := h
  exact ⟨a, (hu _ _ h1).trans b, (hu _ _ h2).trans d, (hu _ _ h3).trans e, fun j hj => by rw [hu 45 j (h4 j), hu 47 j (h5 j)]; exact f j hj⟩
def DNX (m : Nat) (lo hi : Nat → Int32) (s : SR) (σ : jS) : Prop := (s.1 ≤ 30 ∧ SX m lo hi σ) ∧ (g_i σ 22 1 = nI s.1 ∧ g_i σ 24 1 = nI s.1 ∧ g_i σ 26 1 = nI s.1) ∧ ∀ k, k < s.1 → (g_i σ 23 k = s.2 (3 * k) ∧ 0 ≤ (s.2 (3 * k)).toInt) ∧ (g_i σ 25 k = s.2 (3 * k + 1) ∧ rg (s.2 (3 * k + 1)) 0 ((m : Int) - 1)) ∧ (g_i σ 27 k = s.2 (3 * k + 2) ∧ rg (s.2 (3 * k + 2)) 0 63)
def wNX (a _k : Nat) : Bool := decide (a = 30 ∨ (22 ≤ a ∧ a ≤ 27))
def nmN : Nat → Nat := jn nmX [3, 1, 2, 4, 5, 6, 7, 8, 9, 10, 11, 12, 13, 14, 15, 16, 17, 18, 19, 20, 21, 22, 23, 24, 25, 26, 27, 28, 29, 30, 48, 49, 50, 51, 52, 53, 54, 31, 32, 33, 34, 35, 36, 37, 38, 39, 40, 41, 42, 43, 44, 45, 46, 47]
def nmG : Nat → Nat := jn nmN [0, 1, 2, 3, 4, 5, 6, 7, 8, 9, 10, 11, 12, 13, 14, 15, 16, 17, 18, 19, 20, 21, 22, 23, 24, 25, 26, 27, 28, 29, 37, 38, 39, 40, 41, 42, 43, 44, 45, 46, 47, 48, 49, 50, 51, 52, 53]
theorem row_any {nm : Nat → Nat} {σ : jS} {n N : Nat} (v : Int32) (h : g_i σ (nm 0) 1 = nI n) (hn : n ≤ N) (hN : N < 2147483648) : ∃ q, f_X4_at nm N v σ = some q ∧ ∀ j, v = nI j → j < n → q = g_i σ (nm 1) j := by
  by_cases h0 : v < 0
  · refine ⟨0, ?_, fun j hj hjn => ?_⟩
    · unfold f_X4_at; rw [if_pos h0]
    · rw [hj] at h0; exact absurd h0 (nI_neg0 (by omega))
  · obtain ⟨j, hj, rfl⟩ := nI_all h0
    refine ⟨_, row_at h hn hN hj, fun i hi hin => ?_⟩
    rw [nI_inj hj (by omega)] at hi
    subst hi
    rw [if_pos hin]
theorem wn3 {σ τ : jS} (h : ux w30 σ τ) : ux wNX σ τ := ux_w h (fun a k hk => decide_eq_false (fun e => (of_decide_eq_false hk) (Or.inl e)))
theorem wnR {σ τ : jS} {d0 d1 : Nat} (h1 : 22 ≤ d0 ∧ d0 ≤ 27) (h2 : 22 ≤ d1 ∧ d1 ≤ 27) (h : ux (wRc d0 d1) σ τ) : ux wNX σ τ := ux_w h (fun a k hk => decide_eq_false (fun e => (of_decide_eq_false hk) (by rcases e with e | e; exact Or.inr (by omega); exact Or.inr (by omega))))
theorem xtail {F : Nat → Int32} {c m n : Nat} {lo hi : Nat → Int32} {v3 : Int32} {st : PE Nat} {σ : jS} (hC : XC F c σ) (hS : SX m lo hi σ) (hR : XR c st σ) (hst : ∀ t, st = .ok t → t ≤ c) (hn : n ≤ 30) (r1 : g_i σ 22 1 = nI n) (r2 : g_i σ 24 1 = nI n) (r3 : g_i σ 26 1 = nI n) : ∃ τ, f_X5_readSong_J58 nmG v3 σ = some τ ∧ ux wNX σ τ ∧ XR c (nx (bP st (tailP F c m lo hi))) τ ∧ (n < 30 → ∀ x y r, bP st (tailP F c m lo hi) = .ok ((x, y), r) → (g_i τ 22 1 = nI (n + 1) ∧ g_i τ 24 1 = nI (n + 1) ∧ g_i τ 26 1 = nI (n + 1)) ∧ (g_i τ 23 n = v3 ∧ g_i τ 25 n = x ∧ g_i τ 27 n = y) ∧ ∀ k, k ≠ n → g_i τ 23 k = g_i σ 23 k ∧ g_i τ 25 k = g_i σ 25 k ∧ g_i τ 27 k = g_i σ 27 k) := by
  obtain ⟨hm, s1, s2, s3, s4⟩ := hS
  unfold f_X5_readSong_J58
  have es : f_X6_singers (jn nmG [30, 31, 32, 33, 34, 35, 36, 37, 38, 39, 40, 41, 42, 43, 44, 45, 46]) σ = some (nI m) := congrArg some s1
  rw [es, bnd]
  obtain ⟨w9, τ1, e1, u1, x1, y1⟩ := xnumR (nm := jn nmG [29, 1, 2]) (lo := 0) (hi := nI m - 1) rfl rfl rfl hC hR
  have c1 : XC F c τ1 := hC.cg u1 rfl (fun _ => rfl)
  rw [e1, bnd]
  obtain ⟨q11, a1, b1⟩ := row_any (nm := jn nmG [43, 44]) (N := 8) w9 ((u1 44 1 rfl).trans s2) hm (by omega)
  obtain ⟨q12, a2, b2⟩ := row_any (nm := jn nmG [45, 46]) (N := 8) w9 ((u1 46 1 rfl).trans s3) hm (by omega)
  show ∃ τ, (f_X4_at (jn nmG [43, 44]) 8 w9 τ1).bind _ = some τ ∧ _
  rw [a1, bnd, a2, bnd]
  obtain ⟨w13, τ2, e2, u2, x2, y2⟩ := xnumR (nm := jn nmG [29, 1, 2]) (lo := q11) (hi := q12) rfl rfl rfl c1 x1
  have c2 : XC F c τ2 := c1.cg u2 rfl (fun _ => rfl)
  rw [e2, bnd]
  obtain ⟨τ3, e3, u3, x3⟩ := xendR (nm := jn nmG [29, 1, 2]) rfl rfl rfl c2 x2
  show ∃ τ, (f_X3_endClause (jn nmG [29, 1, 2]) τ2).bind _ = some τ ∧ _
  rw [e3, bnd]
  have u03 : ux w30 σ τ3 := ux_tr (ux_tr u1 u2) u3
  obtain ⟨τ4, e4, u4, -, z4⟩ := row_put2 (nm := jn (jn nmG [20, 21, 22, 23, 24, 25, 26]) [1, 2]) (N := 30) (v := v3) (show (22 : Nat) ≠ 23 by decide) ((u03 22 1 rfl).trans r1) hn (by omega)
  have u4 : ux (wRc 22 23) τ3 τ4 := u4
  obtain ⟨τ5, e5, u5, -, z5⟩ := row_put2 (nm := jn (jn nmG [20, 21, 22, 23, 24, 25, 26]) [3, 4]) (N := 30) (v := w9) (show (24 : Nat) ≠ 25 by decide) ((u4 24 1 rfl).trans ((u03 24 1 rfl).trans r2)) hn (by omega)
  have u5 : ux (wRc 24 25) τ4 τ5 := u5
  obtain ⟨τ6, e6, u6, -, z6⟩ := row_put2 (nm := jn (jn nmG [20, 21, 22, 23, 24, 25, 26]) [5, 6]) (N := 30) (v := w13) (show (26 : Nat) ≠ 27 by decide) ((u5 26 1 rfl).trans ((u4 26 1 rfl).trans ((u03 26 1 rfl).trans r3))) hn (by omega)
  have u6 : ux (wRc 26 27) τ5 τ6 := u6
  have ep : f_X7_put (jn nmG [20, 21, 22, 23, 24, 25, 26]) v3 w9 w13 τ3 = some τ6 := by
    unfold f_X7_put
    rw [e4, bnd, e5, bnd, e6, bnd]
  rw [ep, bnd]
  have x6 := ((x3.cg u4 (fun _ => rfl)).cg u5 (fun _ => rfl)).cg u6 (fun _ => rfl)
  have key : ∀ t b, st = .ok t → numP F c 0 (nI m - 1) t = .ok b → w9 = b.1 ∧ ∃ j, j < m ∧ b.1 = nI j ∧ q11 = lo b.1.toNatClampNeg ∧ q12 = hi b.1.toNatClampNeg := fun t b ht hb => by
    have hw := (y1 t ht).1
    obtain ⟨b1', b2'⟩ := b
    have hn := numP_ok (hst t ht) hb
    have z0 : (0 : Int32).toInt = 0 := by decide
    have hr := hn.1
    rw [z0, nI_sub1 (by omega)] at hr
    obtain ⟨j, hj, hbj⟩ := (nI_iff (a := b1') (n := m) (by omega)).mpr ⟨hr.1, by omega⟩
    have hw9 : w9 = b1' := hw.trans hn.2.2.2.1.symm
    refine ⟨hw9, j, hj, hbj, ?_, ?_⟩
    · rw [b1 j (hw9.trans hbj) hj]
      show g_i τ1 45 j = lo b1'.toNatClampNeg
      rw [hbj, nI_cl (by omega), u1 45 j rfl]; exact (s4 j hj).1
    · rw [b2 j (hw9.trans hbj) hj]
      show g_i τ1 47 j = hi b1'.toNatClampNeg
      rw [hbj, nI_cl (by omega), u1 47 j rfl]; exact (s4 j hj).2.1
  have est : bP (nx (bP (nx (bP st (numP F c 0 (nI m - 1)))) (numP F c q11 q12))) (stopP F c) = nx (bP st (tailP F c m lo hi)) := by
    cases hs : st with
    | error e => rfl
    | ok t =>
      show bP (nx (bP (nx (numP F c 0 (nI m - 1) t)) (numP F c q11 q12))) (stopP F c) = nx (bP (numP F c 0 (nI m - 1) t) _)
      cases hb : numP F c 0 (nI m - 1) t with
      | error e => rfl
      | ok b =>
        obtain ⟨-, j, -, -, k1, k2⟩ := key t b hs hb
        show bP (nx (numP F c q11 q12 b.2)) (stopP F c) = nx (bP (numP F c (lo b.1.toNatClampNeg) (hi b.1.toNatClampNeg) b.2) _)
        rw [← k1, ← k2]
        cases numP F c q11 q12 b.2 with
        | error e => rfl
        | ok d =>
          show stopP F c d.2 = nx (bP (stopP F c d.2) _)
          cases stopP F c d.2 <;> rfl
  refine ⟨τ6, rfl, ux_tr (ux_tr (ux_tr (wn3 u03) (wnR (by omega) (by omega) u4)) (wnR (by omega) (by omega) u5)) (wnR (by omega) (by omega) u6), ?_, fun hn30 x y r h => ?_⟩
  · rw [← est]; exact x6
  · obtain ⟨t, ht, h⟩ := bP_ok h
    have hh := h
    obtain ⟨b, hb, h⟩ := bP_ok h
    obtain ⟨d, hd, h⟩ := bP_ok h
    obtain ⟨r', hr, h⟩ := bP_ok h
    have h := Except.ok.inj h
    have h1 : (b.1, d.1) = (x, y) := congrArg Prod.fst h
    have h2 : b.1 = x := congrArg Prod.fst h1
    have h3 : d.1 = y := congrArg Prod.snd h1
    obtain ⟨k0, j, -, -, k1, k2⟩ := key t b ht hb
    have hbc := (numP_ok (v := b.1) (r := b.2) (hst t ht) hb).2.2.1
    have k3 : w13 = d.1 := by
      have := (y2 b.2 (by rw [ht]; show nx (numP F c 0 (nI m - 1) t) = _; rw [hb]; rfl)).1
      rw [this]
      exact (numP_ok (v := d.1) (r := d.2) hbc hd).2.2.2.1.symm
    obtain ⟨p1, p2, p3⟩ := z4 hn30
    obtain ⟨p4, p5, p6⟩ := z5 hn30
    obtain ⟨p7, p8, p9⟩ := z6 hn30
    have p1 : g_i τ4 22 1 = nI (n + 1) := p1
    have p2 : g_i τ4 23 n = v3 := p2
    have p3 : ∀ k, k ≠ n → g_i τ4 23 k = g_i τ3 23 k := p3
    have p4 : g_i τ5 24 1 = nI (n + 1) := p4
    have p5 : g_i τ5 25 n = w9 := p5
    have p6 : ∀ k, k ≠ n → g_i τ5 25 k = g_i τ4 25 k := p6
    have p7 : g_i τ6 26 1 = nI (n + 1) := p7
    have p8 : g_i τ6 27 n = w13 := p8
    have p9 : ∀ k, k ≠ n → g_i τ6 27 k = g_i τ5 27 k := p9
    refine ⟨⟨(u6 22 1 rfl).trans ((u5 22 1 rfl).trans p1), (u6 24 1 rfl).trans p4, p7⟩, ⟨(u6 23 n rfl).trans ((u5 23 n rfl).trans p2), ?_, ?_⟩, fun k hk => ⟨?_, ?_, ?_⟩⟩
    · rw [← h2, ← k0]; exact (u6 25 n rfl).trans p5
    · rw [← h3, ← k3]; exact p8
    · exact (u6 23 k rfl).trans ((u5 23 k rfl).trans ((p3 k hk).trans (u03 23 k rfl)))
    · exact (u6 25 k rfl).trans ((p6 k hk).trans ((u4 25 k rfl).trans (u03 25 k rfl)))
    · exact (p9 k hk).trans ((u5 27 k rfl).trans ((u4 27 k rfl).trans (u03 27 k rfl)))
