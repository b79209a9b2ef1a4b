/-! night: the class's call -/
theorem ud3_0 (h : Nat → Int32) (n : Nat) (x y z : Int32) : ud3 h n x y z (3 * n) = x := by
  unfold ud3
  rw [udF_ne (by omega), udF_ne (by omega), udF_eq]
theorem ud3_1 (h : Nat → Int32) (n : Nat) (x y z : Int32) : ud3 h n x y z (3 * n + 1) = y := by
  unfold ud3
  rw [udF_ne (by omega), udF_eq]
theorem ud3_2 (h : Nat → Int32) (n : Nat) (x y z : Int32) : ud3 h n x y z (3 * n + 2) = z := udF_eq _ _ _
theorem ud3_ne {h : Nat → Int32} {n k : Nat} {x y z : Int32} (hk : k < 3 * n) : ud3 h n x y z k = h k := by
  unfold ud3
  rw [udF_ne (by omega), udF_ne (by omega), udF_ne (by omega)]
theorem xsong {F : Nat → Int32} {c p m : Nat} {lo hi : Nat → Int32} {s : SR} {σ : jS} (hC : XC F c σ) (hp : p < c) (hs : sk F c p = p) (hR : XR c (.ok p) σ) (hD : DNX m lo hi s σ) : ∃ τ, f_X5_readSong nmG σ = some τ ∧ ux wNX σ τ ∧ XR c (nx (songP F c m lo hi s p)) τ ∧ (∀ s' r, songP F c m lo hi s p = .ok (s', r) → DNX m lo hi s' τ) := by
  obtain ⟨⟨d0, dS⟩, ⟨d1, d2, d3⟩, d4⟩ := hD
  unfold f_X5_readSong
  obtain ⟨τ1, e1, u1, x1⟩ := xonly (nm := jn nmG [0, 1, 2, 3, 4, 5, 6, 7, 8, 9, 10, 11, 12, 13, 14, 15, 16, 17, 18, 19, 20, 21, 22, 23, 24, 25, 26, 27, 28, 29, 21, 22]) (w := 5) (N := 30) rfl rfl rfl (by omega) hC hs hR d1 (show (22 : Nat) ≠ 30 by decide) d0 (by omega)
  have c1 : XC F c τ1 := hC.cg u1 rfl (fun _ => rfl)
  rw [e1, bnd]
  have ec : f_X7_count (jn nmG [20, 21, 22, 23, 24, 25, 26]) τ1 = some (nI s.1) := congrArg some ((u1 22 1 rfl).trans d1)
  rw [ec, bnd]
  obtain ⟨q3, a3, b3⟩ := row_any (nm := jn nmG [21, 22]) (N := 30) (nI s.1 - 1) ((u1 22 1 rfl).trans d1) d0 (by omega)
  have hq3 : (0 < s.1 → q3 = s.2 (3 * (s.1 - 1))) ∧ (s.1 = 0 → q3 = 0) := by
    constructor
    · intro h
      have e : nI s.1 - 1 = nI (s.1 - 1) := nI_sb (b := 1) (by omega)
      rw [b3 (s.1 - 1) e (by omega)]
      show g_i τ1 23 (s.1 - 1) = _
      rw [u1 23 _ rfl]
      exact (d4 (s.1 - 1) (by omega)).1.1
    · intro h
      have e : f_X4_at (jn nmG [21, 22]) 30 (nI s.1 - 1) τ1 = some 0 := by
        unfold f_X4_at
        rw [h, if_pos (by decide)]
      exact Option.some.inj (a3.symm.trans e)
  rw [a3, bnd]
  obtain ⟨w4, τ2, e2, u2, x2, y2⟩ := xnumR (nm := jn nmG [29, 1, 2]) (lo := 0) (hi := 599) rfl rfl rfl c1 x1
  have c2 : XC F c τ2 := c1.cg u2 rfl (fun _ => rfl)
  rw [e2, bnd]
  have hpc : p ≤ c := by omega
  have mid : ∃ τ3, (if q3 ≤ w4 then some τ2 else (f_X3_failAtNumber (jn nmG [29, 1, 2]) 4 τ2).bind (fun s6 => some s6)) = some τ3 ∧ ux w30 τ2 τ3 ∧ XR c (nx (headP F c s p)) τ3 := by
    by_cases hle : q3 ≤ w4
    · rw [if_pos hle]
      refine ⟨τ2, rfl, ux_refl _ _, ?_⟩
      have : nx (headP F c s p) = nx (bP (onlyP F c 5 (decide (s.1 = 30)) p) (numP F c 0 599)) := by
        unfold headP
        cases ho : onlyP F c 5 (decide (s.1 = 30)) p with
        | error e => rfl
        | ok q =>
          show nx (bP (numP F c 0 599 q) _) = nx (numP F c 0 599 q)
          cases hn : numP F c 0 599 q with
          | error e => rfl
          | ok a =>
            show nx (if 0 < s.1 ∧ a.1.toInt < (s.2 (3 * (s.1 - 1))).toInt then .error (4, sk F c q) else .ok a) = _
            rw [if_neg]
            rintro ⟨h1, h2⟩
            have hq : q ≤ c := by rw [(onlyP_ok ho).1]; exact (lw_le F hpc).2
            have := (numP_ok (v := a.1) (r := a.2) hq hn).2.2.2.1
            rw [← (y2 q ho).1] at this
            rw [← hq3.1 h1, this] at h2
            have hle := Int32.le_iff_toInt_le.mp hle
            omega
      rw [this]; exact x2
    · rw [if_neg hle]
      have ef : ∃ q, g_i τ2 30 3 = nI q ∧ ∀ p', onlyP F c 5 (decide (s.1 = 30)) p = .ok p' → q = sk F c p' := by
        cases ho : onlyP F c 5 (decide (s.1 = 30)) p with
        | ok p' => exact ⟨_, (y2 p' ho).2, fun p'' h => by cases h; rfl⟩
        | error e =>
          obtain ⟨q, -, hq⟩ := nI_w (g_i τ2 30 3)
          exact ⟨q, hq, fun p'' h => by cases h⟩
      obtain ⟨q, hq, hq2⟩ := ef
      obtain ⟨τ3, a, b, d, -⟩ := xfail (nm := jn nmG [29, 1, 2]) (n := 4) (q := q) rfl (by omega) x2
      refine ⟨τ3, ?_, b, ?_⟩
      · unfold f_X3_failAtNumber
        show ((f_X3_fail (jn nmG [29, 1, 2]) (nI 4) (g_i τ2 30 3) τ2).bind _).bind _ = _
        rw [hq, a]; rfl
      · have : nx (headP F c s p) = flP (nx (bP (onlyP F c 5 (decide (s.1 = 30)) p) (numP F c 0 599))) (4, q) := by
          unfold headP
          cases ho : onlyP F c 5 (decide (s.1 = 30)) p with
          | error e => rfl
          | ok p' =>
            show nx (bP (numP F c 0 599 p') _) = flP (nx (numP F c 0 599 p')) (4, q)
            cases hn : numP F c 0 599 p' with
            | error e => rfl
            | ok a =>
              show nx (if 0 < s.1 ∧ a.1.toInt < (s.2 (3 * (s.1 - 1))).toInt then .error (4, sk F c p') else .ok a) = .error (4, q)
              have hp' : p' ≤ c := by rw [(onlyP_ok ho).1]; exact (lw_le F hpc).2
              have hno := numP_ok (v := a.1) (r := a.2) hp' hn
              have hwa : w4 = a.1 := ((y2 p' ho).1).trans hno.2.2.2.1.symm
              have hlt : w4.toInt < q3.toInt := by
                have := mt Int32.le_iff_toInt_le.mpr hle
                omega
              have h0 : 0 < s.1 := by
                by_cases h0 : s.1 = 0
                · rw [hq3.2 h0, hwa] at hlt
                  have z0 : (0 : Int32).toInt = 0 := by decide
                  have := hno.1.1
                  omega
                · omega
              rw [if_pos ⟨h0, by rw [← hq3.1 h0, ← hwa]; exact hlt⟩, hq2 p' ho]; rfl
        rw [this]; exact d
  obtain ⟨τ3, e3, u3, x3⟩ := mid
  show ∃ τ, (if q3 ≤ w4 then some τ2 else (f_X3_failAtNumber (jn nmG [29, 1, 2]) 4 τ2).bind (fun s6 => some s6)).bind (fun s7 => f_X5_readSong_J58 nmG w4 s7) = some τ ∧ _
  rw [e3, bnd]
  have u03 : ux w30 σ τ3 := ux_tr (ux_tr u1 u2) u3
  have c3 : XC F c τ3 := c2.cg u3 rfl (fun _ => rfl)
  obtain ⟨τ4, e4, u4, x4, z4⟩ := xtail (v3 := w4) c3 (dS.cg u03 rfl rfl rfl (fun _ => rfl) (fun _ => rfl)) x3 (fun t ht => by
    cases hh : headP F c s p with
    | error e => rw [hh] at ht; cases ht
    | ok a =>
      rw [hh] at ht
      have := Except.ok.inj ht
      obtain ⟨q, -, -, -, -, hl⟩ := headP_ok (v := a.1) (t := a.2) hpc hh
      have this : a.2 = t := this
      omega) d0 ((u03 22 1 rfl).trans d1) ((u03 24 1 rfl).trans d2) ((u03 26 1 rfl).trans d3)
  refine ⟨τ4, e4, ux_tr (wn3 u03) u4, ?_, fun s' r h => ?_⟩
  · have : nx (songP F c m lo hi s p) = nx (bP (nx (headP F c s p)) (tailP F c m lo hi)) := by
      unfold songP
      cases headP F c s p with
      | error e => rfl
      | ok a =>
        show nx (bP (tailP F c m lo hi a.2) _) = nx (tailP F c m lo hi a.2)
        cases tailP F c m lo hi a.2 <;> rfl
    rw [this]; exact x4
  · obtain ⟨v, t, x, y, h1, h2, rfl, -⟩ := songP_ok dS.1 hpc h
    obtain ⟨q, g1, g2, g3, g4, g5⟩ := headP_ok hpc h1
    have hv : w4 = v := ((y2 q g1).1).trans (numP_ok (by omega) g2).2.2.2.1.symm
    have hv0 := (numP_ok (by omega) g2).1
    have z0 : (0 : Int32).toInt = 0 := by decide
    rw [z0] at hv0
    obtain ⟨j, b, d, hj, rfl, k1, k2, k3, -⟩ := tailP_ok dS.1 g5.2.2 h2
    have hy := (numP_ok (by have := numP_ok g5.2.2 k1; omega) k2).1
    obtain ⟨⟨p1, p2, p3⟩, ⟨p4, p5, p6⟩, p7⟩ := z4 (by omega) (nI j) y r (by rw [h1]; exact h2)
    refine ⟨⟨by show s.1 + 1 ≤ 30; omega, dS.cg (ux_tr (wn3 u03) u4) rfl rfl rfl (fun _ => rfl) (fun _ => rfl)⟩, ⟨p1, p2, p3⟩, fun k hk => ?_⟩
    have hk : k < s.1 + 1 := hk
    show (g_i τ4 23 k = ud3 s.2 s.1 v (nI j) y (3 * k) ∧ 0 ≤ (ud3 s.2 s.1 v (nI j) y (3 * k)).toInt) ∧ (g_i τ4 25 k = ud3 s.2 s.1 v (nI j) y (3 * k + 1) ∧ rg (ud3 s.2 s.1 v (nI j) y (3 * k + 1)) 0 ((m : Int) - 1)) ∧ (g_i τ4 27 k = ud3 s.2 s.1 v (nI j) y (3 * k + 2) ∧ rg (ud3 s.2 s.1 v (nI j) y (3 * k + 2)) 0 63)
    by_cases hks : k = s.1
    · subst hks
      rw [ud3_0, ud3_1, ud3_2, p4, p5, p6]
      have hlo := dS.2.2.2.2 j hj
      have hm := dS.1
      exact ⟨⟨hv, hv0.1⟩, ⟨rfl, nI_rg (by omega) (by omega) (by omega)⟩, ⟨rfl, by omega, by omega⟩⟩
    · obtain ⟨o1, o2, o3⟩ := p7 k hks
      rw [ud3_ne (by omega), ud3_ne (by omega), ud3_ne (by omega), o1, o2, o3, u03 23 k rfl, u03 25 k rfl, u03 27 k rfl]
      exact d4 k (by omega)
def wNx (a k : Nat) : Bool := decide (a = 30 ∨ (22 ≤ a ∧ a ≤ 27) ∨ (a = 1 ∧ k = 1))
def wNy (a k : Nat) : Bool := wNx a k || decide (49 ≤ a ∧ a ≤ 54)
theorem hfSong (v : Int32) (σ : jS) : f_X5_readNight_L16 nmN (v, σ) = if 400 ≤ v then some (.inr σ) else (f_X3_hasMore (jn nmN [29, 1, 2]) σ).bind (fun x => if x.1 = 0 then some (.inr x.2) else (f_X5_readSong nmG x.2).bind (fun s5 => some (.inl (v + 1, s5)))) := rfl
theorem songP_cl {F : Nat → Int32} {c m : Nat} {lo hi : Nat → Int32} (hm : m ≤ 8) (s : SR) (p r : Nat) (s' : SR) (hp : p ≤ c) (h : songP F c m lo hi s p = .ok (s', r)) : p < r ∧ r ≤ c := by
  obtain ⟨v, t, x, y, -, -, -, hl⟩ := songP_ok hm hp h
  exact hl
theorem xnight {F : Nat → Int32} {c m : Nat} {lo hi : Nat → Int32} {σ : jS} (hC : XC F c σ) (hS : SX m lo hi σ) : ∃ r τ, f_X10_night nmX σ = some (r, τ) ∧ g_i τ 1 1 = 0 ∧ (∀ s, runP (songP F c m lo hi) F c c s0R 0 = .ok s → ux wNy σ τ ∧ r = nI s.1 ∧ s.1 ≤ 30 ∧ g_i τ 30 5 = -1 ∧ (g_i τ 49 1 = nI s.1 ∧ g_i τ 51 1 = nI s.1 ∧ g_i τ 53 1 = nI s.1) ∧ ∀ k, k < s.1 → g_i τ 50 k = s.2 (3 * k) ∧ (g_i τ 52 k = s.2 (3 * k + 1) ∧ rg (s.2 (3 * k + 1)) 0 ((m : Int) - 1)) ∧ (g_i τ 54 k = s.2 (3 * k + 2) ∧ rg (s.2 (3 * k + 2)) 0 63)) ∧ (∀ e, runP (songP F c m lo hi) F c c s0R 0 = .error e → ux wNx σ τ ∧ (1 ≤ e.1 ∧ e.1 ≤ 4) ∧ r = -10 - nI e.1 ∧ g_i τ 30 5 = nI e.2) := by
  have hc := hC.1
  unfold f_X10_night
  show ∃ r τ, (f_X5_readNight nmN σ).bind (fun x => some (x.1, x.2)) = some (r, τ) ∧ _
  have eb : ∀ x : Option (Int32 × jS), x.bind (fun x => some (x.1, x.2)) = x := fun x => by cases x <;> rfl
  rw [eb]
  unfold f_X5_readNight
  show ∃ r τ, (lp (f_X5_readNight_L16 nmN) fu (0, s_i (s_i (s_i (s_i (s_i (s_i σ 22 1 0) 24 1 0) 26 1 0) 30 1 0) 30 4 0) 30 5 (-1))).bind (fun s10 => f_X5_readNight_J44 nmN s10) = some (r, τ) ∧ _
  generalize hσ1 : s_i (s_i (s_i (s_i (s_i (s_i σ 22 1 0) 24 1 0) 26 1 0) 30 1 0) 30 4 0) 30 5 (-1) = σ1
  have u1 : ux wNX σ σ1 := by rw [← hσ1]; exact ux_s (ux_s (ux_s (ux_s (ux_s (ux_s (ux_refl _ _) rfl) rfl) rfl) rfl) rfl) rfl
  have r1 : XR c (.ok 0) σ1 := by
    rw [← hσ1]
    exact ⟨0, by omega, (s_i_k (by decide)).trans ((s_i_k (by decide)).trans (s_i_eq _ _ _ _)), rfl, (s_i_k (by decide)).trans (s_i_eq _ _ _ _), s_i_eq _ _ _ _⟩
  have d1 : DNX m lo hi s0R σ1 := by
    refine ⟨⟨by decide, hS.cg u1 rfl rfl rfl (fun _ => rfl) (fun _ => rfl)⟩, ?_, fun k hk => absurd hk (Nat.not_lt_zero k)⟩
    rw [← hσ1]
    exact ⟨s_i_eq σ 22 1 0, s_i_eq (s_i σ 22 1 0) 24 1 0, s_i_eq (s_i (s_i σ 22 1 0) 24 1 0) 26 1 0⟩
  have c1 : XC F c σ1 := hC.cg u1 rfl (fun _ => rfl)
  obtain ⟨τ1, e1, u2, x1⟩ := xloop (F := F) (c := c) (cls := f_X5_readSong nmG) (nm := jn nmN [29, 1, 2]) (cl := songP F c m lo hi) (D := DNX m lo hi) (W := wNX) rfl rfl rfl hfSong (fun _ => rfl) rfl (fun _ => rfl) (fun s σ τ u d => ⟨⟨d.1.1, d.1.2.cg u rfl rfl rfl (fun _ => rfl) (fun _ => rfl)⟩, ⟨(u 22 1 rfl).trans d.2.1.1, (u 24 1 rfl).trans d.2.1.2.1, (u 26 1 rfl).trans d.2.1.2.2⟩, fun k hk => by rw [u 23 k rfl, u 25 k rfl, u 27 k rfl]; exact d.2.2 k hk⟩) (songP_cl hS.1) (fun s p σ hC hp hs hR hD => xsong hC hp hs hR hD) c1 r1 d1
  rw [e1, bnd]
  unfold f_X5_readNight_J44
  have ee : f_X4_empty (jn nmN [1, 2]) 400 τ1 = some (s_i τ1 1 1 0) := rfl
  rw [ee, bnd]
  generalize hτ2 : s_i τ1 1 1 0 = τ2
  have u3 : ux wNx σ τ2 := by
    rw [← hτ2]
    refine ux_s (ux_w (ux_tr u1 u2) (fun a k hk => ?_)) rfl
    have hk := of_decide_eq_false hk
    exact decide_eq_false (fun h => hk (by rcases h with h | h; exact Or.inl h; exact Or.inr (Or.inl h)))
  have q3 : ∀ a k, a ≠ 1 → g_i τ2 a k = g_i τ1 a k := fun a k ha => by rw [← hτ2]; exact s_i_a ha
  have t11 : g_i τ2 1 1 = 0 := by rw [← hτ2]; exact s_i_eq _ _ _ _
  have ef : f_X3_hasFault (jn nmN [29, 1, 2]) τ2 = if g_i τ2 30 4 = 0 then some 0 else some 1 := rfl
  rw [ef]
  cases hr : runP (songP F c m lo hi) F c c s0R 0 with
  | ok s =>
    rw [hr] at x1
    obtain ⟨⟨p, p', -, -, -, f4, f5⟩, z1, ⟨z2, z3, z4⟩, z5⟩ := x1
    rw [if_pos ((q3 30 4 (by decide)).trans f4), bnd, if_pos rfl]
    obtain ⟨τ4, e4, u4, y1, y2⟩ := row_copy (nm := jn (jn nmN [30, 31, 32, 33, 34, 35, 36, 20, 21, 22, 23, 24, 25, 26]) [1, 2, 8, 9]) (σ := τ2) (N := 30) (n := s.1) (d0 := 49) (d1 := 50) (s0 := 22) (s1 := 23) rfl rfl rfl rfl (by decide) (by decide) (by decide) (by decide) (by decide) ((q3 22 1 (by decide)).trans z2) z1.1 (by decide)
    obtain ⟨τ5, e5, u5, y3, y4⟩ := row_copy (nm := jn (jn nmN [30, 31, 32, 33, 34, 35, 36, 20, 21, 22, 23, 24, 25, 26]) [3, 4, 10, 11]) (σ := τ4) (N := 30) (n := s.1) (d0 := 51) (d1 := 52) (s0 := 24) (s1 := 25) rfl rfl rfl rfl (by decide) (by decide) (by decide) (by decide) (by decide) ((u4 24 1 rfl).trans ((q3 24 1 (by decide)).trans z3)) z1.1 (by decide)
    obtain ⟨τ6, e6, u6, y5, y6⟩ := row_copy (nm := jn (jn nmN [30, 31, 32, 33, 34, 35, 36, 20, 21, 22, 23, 24, 25, 26]) [5, 6, 12, 13]) (σ := τ5) (N := 30) (n := s.1) (d0 := 53) (d1 := 54) (s0 := 26) (s1 := 27) rfl rfl rfl rfl (by decide) (by decide) (by decide) (by decide) (by decide) ((u5 26 1 rfl).trans ((u4 26 1 rfl).trans ((q3 26 1 (by decide)).trans z4))) z1.1 (by decide)
    have ec : f_X7_copy (jn nmN [30, 31, 32, 33, 34, 35, 36, 20, 21, 22, 23, 24, 25, 26]) τ2 = some τ6 := by
      unfold f_X7_copy
      rw [e4, bnd, e5, bnd, e6, bnd]
    rw [ec, bnd]
    have es : f_X7_count (jn nmN [30, 31, 32, 33, 34, 35, 36]) τ6 = some (nI s.1) := congrArg some ((u6 49 1 rfl).trans ((u5 49 1 rfl).trans y1))
    rw [es, bnd]
    have o : ∀ a k, (a < 49 ∨ 54 < a) → g_i τ6 a k = g_i τ2 a k := fun a k ha => by
      rw [u6 a k (decide_eq_false (by omega)), u5 a k (decide_eq_false (by omega)), u4 a k (decide_eq_false (by omega))]
    refine ⟨_, τ6, rfl, (o 1 1 (by omega)).trans t11, fun s' hs' => ?_, fun e he => by cases he⟩
    have hs' := Except.ok.inj hs'
    subst hs'
    refine ⟨?_, rfl, z1.1, (o 30 5 (by omega)).trans ((q3 30 5 (by decide)).trans f5), ⟨(u6 49 1 rfl).trans ((u5 49 1 rfl).trans y1), (u6 51 1 rfl).trans y3, y5⟩, fun k hk => ?_⟩
    · intro a k hk
      obtain ⟨k1, k2⟩ := Bool.or_eq_false_iff.mp hk
      have k2 := of_decide_eq_false k2
      rw [o a k (by omega)]
      exact u3 a k k1
    · have z5k := z5 k hk
      rw [show g_i τ6 50 k = g_i τ2 23 k from (u6 50 k rfl).trans ((u5 50 k rfl).trans (y2 k hk)), show g_i τ6 52 k = g_i τ2 25 k from (u6 52 k rfl).trans ((y4 k hk).trans (u4 25 k rfl)), show g_i τ6 54 k = g_i τ2 27 k from (y6 k hk).trans ((u5 27 k rfl).trans (u4 27 k rfl)), q3 23 k (by decide), q3 25 k (by decide), q3 27 k (by decide)]
      exact ⟨z5k.1.1, z5k.2⟩
  | error e =>
    rw [hr] at x1
    obtain ⟨p, -, -, f0, f4, f5⟩ := x1
    have e4 : g_i τ2 30 4 = nI e.1 := (q3 30 4 (by decide)).trans f4
    rw [e4, if_neg (nz14 f0), bnd, if_neg i10]
    refine ⟨_, τ2, rfl, t11, fun s h => (by cases h), fun e' he' => ?_⟩
    have he' := Except.error.inj he'
    subst he'
    exact ⟨u3, f0, congrArg (fun z => (-10 : Int32) - z) e4, (q3 30 5 (by decide)).trans f5⟩
