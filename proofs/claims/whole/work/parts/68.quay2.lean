/-! quay: the class's clause -/
theorem xfull {F : Nat → Int32} {c p q : Nat} {full : Bool} {σ : jS} (hR : XR c (.ok q) σ) (e2 : g_i σ 30 2 = nI p) : ∃ τ, (if (if full = true then (1 : Int32) else 0) = 0 then some σ else (f_X3_failAtWord (jn nmC [29, 1, 2]) 3 σ).bind (fun s2 => some s2)) = some τ ∧ ux w30 σ τ ∧ XR c (fullP full p q) τ := by
  cases full with
  | false =>
    rw [if_pos (by decide)]
    exact ⟨σ, rfl, ux_refl _ _, hR⟩
  | true =>
    rw [if_neg (by decide)]
    obtain ⟨τ, a, b, d, -⟩ := xfail (nm := jn nmC [29, 1, 2]) (n := 3) (q := p) rfl (by omega) hR
    refine ⟨τ, ?_, b, d⟩
    unfold f_X3_failAtWord
    show ((f_X3_fail (jn nmC [29, 1, 2]) (nI 3) (g_i σ 30 2) σ).bind _).bind _ = _
    rw [e2, a]; rfl
theorem wqX {lo hi : Nat} (h1 : 4 ≤ lo) (h2 : hi ≤ 20) {σ τ : jS} (h : ux (wQ lo hi) σ τ) : ux wQX σ τ := ux_w h (fun a k hk => decide_eq_false (fun e => (of_decide_eq_false hk) (by omega)))
theorem wq30 {σ τ : jS} (h : ux w30 σ τ) : ux wQX σ τ := ux_w h (fun a k hk => decide_eq_false (fun e => (of_decide_eq_false hk) (Or.inl e)))
theorem nx_bP {α β : Type} (x : PE (α × Nat)) (f : α × Nat → PE (β × Nat)) (h : ∀ y, nx (f y) = .ok y.2) : nx (bP x f) = nx x := by
  cases x with
  | error e => rfl
  | ok y => exact h y
theorem xlampC {F : Nat → Int32} {c p : Nat} {s : QS} {σ : jS} (hC : XC F c σ) (hp : p ≤ c) (hR : XR c (.ok (lw F c p)) σ) (e2 : g_i σ 30 2 = nI p) (hD : DQX s σ) : ∃ τ, f_X5_readLamp nmC σ = some τ ∧ ux wQX σ τ ∧ XR c (nx (lampC F c s p)) τ ∧ (∀ s' r, lampC F c s p = .ok (s', r) → DQX s' τ) := by
  obtain ⟨⟨d0, d0'⟩, ⟨d1, d1b, d1c, d1d⟩, d2, d3, d4, d5, d6, d7⟩ := hD
  unfold f_X5_readLamp
  have ef : f_X4_isFull (jn nmC [4, 5]) 10 σ = some (if decide (s.1.1.1 = 10) = true then 1 else 0) := by
    rw [row_full (n := s.1.1.1) d1 d0 (by omega)]
    by_cases h : s.1.1.1 < 10
    · rw [if_pos h, if_neg (by simp; omega)]
    · rw [if_neg h, if_pos (by simp; omega)]
  rw [ef, bnd]
  obtain ⟨τ1, e1, u1, x1⟩ := xfull (F := F) (full := decide (s.1.1.1 = 10)) hR e2
  rw [e1, bnd]
  have hl := lw_le F hp
  obtain ⟨τ2, e3, u2, x2, z2⟩ := xlampJ (n := s.1.1.1) (hC.cg u1 rfl (fun _ => rfl)) x1 (fun t ht => by have := (fullP_ok ht).2; omega) d0 ((u1 5 1 rfl).trans d1) ((u1 7 1 rfl).trans d1b) ((u1 9 1 rfl).trans d1c) ((u1 11 1 rfl).trans d1d)
  have u02 : ux (wQ 5 12) σ τ2 := ux_tr (wq3 u1) u2
  refine ⟨τ2, e3, wqX (by omega) (by omega) u02, ?_, fun s' r h => ?_⟩
  · have : nx (lampC F c s p) = nx (bP (fullP (decide (s.1.1.1 = 10)) p (lw F c p)) (fourL F c)) := nx_bP _ _ (fun _ => rfl)
    rw [this]; exact x2
  · obtain ⟨⟨⟨x, y, z, w⟩, r'⟩, hy, h⟩ := bP_ok h
    have h := Except.ok.inj h
    have h1 := congrArg Prod.fst h
    have hy2 := hy
    obtain ⟨t, ht, hy2⟩ := bP_ok hy2
    have hfull := fullP_ok ht
    have hlt : s.1.1.1 < 10 := by have := of_decide_eq_false hfull.1; omega
    obtain ⟨-, -, -, -, -, -, -, -, -, -, g1, g2, g3, g4⟩ := fourP_ok (by omega) hy2
    obtain ⟨⟨p1, p2, p3, p4⟩, ⟨p5, p6, p7, p8⟩, p9⟩ := z2 hlt x y z w r' hy
    have h1 : (((s.1.1.1 + 1, ud4 s.1.1.2 s.1.1.1 x y z w), s.1.2), s.2) = s' := h1
    subst h1
    refine ⟨⟨by show s.1.1.1 + 1 ≤ 10; omega, d0'⟩, ⟨p1, p2, p3, p4⟩, ⟨(u02 13 1 rfl).trans d2.1, (u02 15 1 rfl).trans d2.2.1, (u02 17 1 rfl).trans d2.2.2.1, (u02 19 1 rfl).trans d2.2.2.2⟩, fun k hk => ?_, fun k hk => by rw [u02 14 k rfl, u02 16 k rfl, u02 18 k rfl, u02 20 k rfl]; exact d4 k hk, ⟨(u02 4 8 rfl).trans d5.1, d5.2⟩, ⟨(u02 4 9 rfl).trans d6.1, d6.2⟩, ⟨(u02 4 10 rfl).trans d7.1, d7.2⟩⟩
    have hk : k < s.1.1.1 + 1 := hk
    show (g_i τ2 6 k = ud4 s.1.1.2 s.1.1.1 x y z w (4 * k) ∧ rg (ud4 s.1.1.2 s.1.1.1 x y z w (4 * k)) 0 49) ∧ (g_i τ2 8 k = ud4 s.1.1.2 s.1.1.1 x y z w (4 * k + 1) ∧ rg (ud4 s.1.1.2 s.1.1.1 x y z w (4 * k + 1)) 0 63) ∧ (g_i τ2 10 k = ud4 s.1.1.2 s.1.1.1 x y z w (4 * k + 2) ∧ rg (ud4 s.1.1.2 s.1.1.1 x y z w (4 * k + 2)) 0 9) ∧ (g_i τ2 12 k = ud4 s.1.1.2 s.1.1.1 x y z w (4 * k + 3) ∧ rg (ud4 s.1.1.2 s.1.1.1 x y z w (4 * k + 3)) 0 5)
    by_cases hks : k = s.1.1.1
    · subst hks
      rw [ud4_0, ud4_1, ud4_2, ud4_3]
      exact ⟨⟨p5, g1⟩, ⟨p6, g2⟩, ⟨p7, g3⟩, ⟨p8, g4⟩⟩
    · obtain ⟨o1, o2, o3, o4⟩ := p9 k hks
      rw [ud4_ne (by omega), ud4_ne (by omega), ud4_ne (by omega), ud4_ne (by omega), o1, o2, o3, o4, u1 6 k rfl, u1 8 k rfl, u1 10 k rfl, u1 12 k rfl]
      exact d3 k (by omega)
theorem xsingC {F : Nat → Int32} {c p : Nat} {s : QS} {σ : jS} (hC : XC F c σ) (hp : p ≤ c) (hR : XR c (.ok (lw F c p)) σ) (e2 : g_i σ 30 2 = nI p) (hD : DQX s σ) : ∃ τ, f_X5_readSinger nmC σ = some τ ∧ ux wQX σ τ ∧ XR c (nx (singC F c s p)) τ ∧ (∀ s' r, singC F c s p = .ok (s', r) → DQX s' τ) := by
  obtain ⟨⟨d0, d0'⟩, d1, ⟨d2, d2b, d2c, d2d⟩, d3, d4, d5, d6, d7⟩ := hD
  unfold f_X5_readSinger
  have ef : f_X4_isFull (jn nmC [12, 13]) 8 σ = some (if decide (s.1.2.1 = 8) = true then 1 else 0) := by
    rw [row_full (n := s.1.2.1) d2 d0' (by omega)]
    by_cases h : s.1.2.1 < 8
    · rw [if_pos h, if_neg (by simp; omega)]
    · rw [if_neg h, if_pos (by simp; omega)]
  rw [ef, bnd]
  obtain ⟨τ1, e1, u1, x1⟩ := xfull (F := F) (full := decide (s.1.2.1 = 8)) hR e2
  rw [e1, bnd]
  have hl := lw_le F hp
  obtain ⟨τ2, e3, u2, x2, z2⟩ := xsingJ (n := s.1.2.1) (hC.cg u1 rfl (fun _ => rfl)) x1 (fun t ht => by have := (fullP_ok ht).2; omega) d0' ((u1 13 1 rfl).trans d2) ((u1 15 1 rfl).trans d2b) ((u1 17 1 rfl).trans d2c) ((u1 19 1 rfl).trans d2d)
  have u02 : ux (wQ 13 20) σ τ2 := ux_tr (wq3 u1) u2
  refine ⟨τ2, e3, wqX (by omega) (by omega) u02, ?_, fun s' r h => ?_⟩
  · have : nx (singC F c s p) = nx (bP (fullP (decide (s.1.2.1 = 8)) p (lw F c p)) (fourS F c)) := nx_bP _ _ (fun _ => rfl)
    rw [this]; exact x2
  · obtain ⟨⟨⟨x, y, z, w⟩, r'⟩, hy, h⟩ := bP_ok h
    have h := Except.ok.inj h
    have h1 := congrArg Prod.fst h
    have hy2 := hy
    obtain ⟨t, ht, hy2⟩ := bP_ok hy2
    have hfull := fullP_ok ht
    have hlt : s.1.2.1 < 8 := by have := of_decide_eq_false hfull.1; omega
    obtain ⟨-, -, -, -, -, -, -, -, -, -, g1, g2, g3, g4⟩ := fourP_ok (by omega) hy2
    obtain ⟨⟨p1, p2, p3, p4⟩, ⟨p5, p6, p7, p8⟩, p9⟩ := z2 hlt x y z w r' hy
    have h1 : ((s.1.1, (s.1.2.1 + 1, ud4 s.1.2.2 s.1.2.1 x y z w)), s.2) = s' := h1
    subst h1
    refine ⟨⟨d0, by show s.1.2.1 + 1 ≤ 8; omega⟩, ⟨(u02 5 1 rfl).trans d1.1, (u02 7 1 rfl).trans d1.2.1, (u02 9 1 rfl).trans d1.2.2.1, (u02 11 1 rfl).trans d1.2.2.2⟩, ⟨p1, p2, p3, p4⟩, fun k hk => by rw [u02 6 k rfl, u02 8 k rfl, u02 10 k rfl, u02 12 k rfl]; exact d3 k hk, fun k hk => ?_, ⟨(u02 4 8 rfl).trans d5.1, d5.2⟩, ⟨(u02 4 9 rfl).trans d6.1, d6.2⟩, ⟨(u02 4 10 rfl).trans d7.1, d7.2⟩⟩
    have hk : k < s.1.2.1 + 1 := hk
    show (g_i τ2 14 k = ud4 s.1.2.2 s.1.2.1 x y z w (4 * k) ∧ rg (ud4 s.1.2.2 s.1.2.1 x y z w (4 * k)) 0 49) ∧ (g_i τ2 16 k = ud4 s.1.2.2 s.1.2.1 x y z w (4 * k + 1) ∧ rg (ud4 s.1.2.2 s.1.2.1 x y z w (4 * k + 1)) 1 50) ∧ (g_i τ2 18 k = ud4 s.1.2.2 s.1.2.1 x y z w (4 * k + 2) ∧ rg (ud4 s.1.2.2 s.1.2.1 x y z w (4 * k + 2)) 0 63) ∧ (g_i τ2 20 k = ud4 s.1.2.2 s.1.2.1 x y z w (4 * k + 3) ∧ rg (ud4 s.1.2.2 s.1.2.1 x y z w (4 * k + 3)) (ud4 s.1.2.2 s.1.2.1 x y z w (4 * k + 2)).toInt 63)
    by_cases hks : k = s.1.2.1
    · subst hks
      rw [ud4_0, ud4_1, ud4_2, ud4_3]
      exact ⟨⟨p5, g1⟩, ⟨p6, g2⟩, ⟨p7, g3⟩, ⟨p8, g4⟩⟩
    · obtain ⟨o1, o2, o3, o4⟩ := p9 k hks
      rw [ud4_ne (by omega), ud4_ne (by omega), ud4_ne (by omega), ud4_ne (by omega), o1, o2, o3, o4, u1 14 k rfl, u1 16 k rfl, u1 18 k rfl, u1 20 k rfl]
      exact d4 k (by omega)
theorem oneP_ok {F : Nat → Int32} {c t r : Nat} {most v : Int32} (ht : t ≤ c) (h : oneP F c most t = .ok (v, r)) : ∃ t1, numP F c 1 most t = .ok (v, t1) ∧ stopP F c t1 = .ok r ∧ rg v 1 most.toInt ∧ (t ≤ t1 ∧ t1 < r ∧ r ≤ c) := by
  obtain ⟨⟨a1, a2⟩, k1, h⟩ := bP_ok h
  obtain ⟨r', k2, h⟩ := bP_ok h
  have h := Except.ok.inj h
  have q1 : a1 = v := congrArg Prod.fst h
  have q2 : r' = r := congrArg Prod.snd h
  subst q1 q2
  have n1 := numP_ok ht k1
  have n2 := stopP_ok n1.2.2.1 k2
  exact ⟨a2, k1, k2, n1.1, n1.2.1, n2.1, n2.2⟩
theorem xonce {F : Nat → Int32} {c p : Nat} {most v0 : Int32} {σ : jS} (hC : XC F c σ) (hp : p ≤ c) (hR : XR c (.ok (lw F c p)) σ) (e2 : g_i σ 30 2 = nI p) : ∃ w τ, f_X5_readOnce nmC v0 most σ = some (w, τ) ∧ ux w30 σ τ ∧ XR c (nx (bP (fullP (decide (v0 ≠ 0)) p (lw F c p)) (oneP F c most))) τ ∧ (∀ v r, bP (fullP (decide (v0 ≠ 0)) p (lw F c p)) (oneP F c most) = .ok (v, r) → w = v) := by
  have hl := lw_le F hp
  unfold f_X5_readOnce
  obtain ⟨τ1, e1, u1, x1⟩ := xfull (F := F) (full := decide (v0 ≠ 0)) hR e2
  have e1' : (if v0 = 0 then some σ else (f_X3_failAtWord (jn nmC [29, 1, 2]) 3 σ).bind (fun s1 => some s1)) = some τ1 := by
    rw [← e1]
    by_cases h : v0 = 0
    · rw [if_pos h, if_pos (by rw [if_neg (by simp [h])])]
    · rw [if_neg h, if_neg (by rw [if_pos (by simp [h])]; decide)]
  rw [e1', bnd]
  unfold f_X5_readOnce_J12
  have c1 : XC F c τ1 := hC.cg u1 rfl (fun _ => rfl)
  obtain ⟨w, τ2, e3, u2, x2, y2⟩ := xnumR (nm := jn nmC [29, 1, 2]) (lo := 1) (hi := most) rfl rfl rfl c1 x1
  have c2 : XC F c τ2 := c1.cg u2 rfl (fun _ => rfl)
  obtain ⟨τ3, e4, u3, x3⟩ := xendR (nm := jn nmC [29, 1, 2]) rfl rfl rfl c2 x2
  rw [e3, bnd]
  show ∃ w' τ, (f_X3_endClause (jn nmC [29, 1, 2]) τ2).bind (fun s5 => some (w, s5)) = some (w', τ) ∧ _
  rw [e4, bnd]
  refine ⟨w, τ3, rfl, ux_tr (ux_tr u1 u2) u3, ?_, fun v r h => ?_⟩
  · have est : bP (nx (bP (fullP (decide (v0 ≠ 0)) p (lw F c p)) (numP F c 1 most))) (stopP F c) = nx (bP (fullP (decide (v0 ≠ 0)) p (lw F c p)) (oneP F c most)) := by
      cases fullP (decide (v0 ≠ 0)) p (lw F c p) with
      | error e => rfl
      | ok t =>
        show bP (nx (numP F c 1 most t)) (stopP F c) = nx (bP (numP F c 1 most t) _)
        cases numP F c 1 most t with
        | error e => rfl
        | ok a =>
          show stopP F c a.2 = nx (bP (stopP F c a.2) _)
          cases stopP F c a.2 <;> rfl
    rw [← est]; exact x3
  · obtain ⟨t, ht, h⟩ := bP_ok h
    have hf := fullP_ok ht
    obtain ⟨t1, k1, -, -, -⟩ := oneP_ok (by omega) h
    exact ((y2 t ht).1).trans (numP_ok (by omega) k1).2.2.2.1.symm
theorem xonce0 {F : Nat → Int32} {c p : Nat} {s : QS} {σ : jS} (hC : XC F c σ) (hp : p ≤ c) (hR : XR c (.ok (lw F c p)) σ) (e2 : g_i σ 30 2 = nI p) (hD : DQX s σ) : ∃ τ, (f_X5_readOnce nmC (g_i σ 4 8) 99 σ).bind (fun x => some (s_i x.2 4 8 x.1)) = some τ ∧ ux wQX σ τ ∧ XR c (nx (onceC F c 0 99 s p)) τ ∧ (∀ s' r, onceC F c 0 99 s p = .ok (s', r) → DQX s' τ) := by
  have hD0 := hD
  obtain ⟨-, -, -, -, -, d5, d6, d7⟩ := hD0
  have hl := lw_le F hp
  obtain ⟨w, τ1, e1, u1, x1, y1⟩ := xonce (v0 := g_i σ 4 8) (most := 99) hC hp hR e2
  rw [d5.1] at x1 y1
  rw [e1, bnd]
  refine ⟨_, rfl, ux_s (wq30 u1) rfl, ?_, fun s' r h => ?_⟩
  · have : nx (onceC F c 0 99 s p) = nx (bP (fullP (decide (s.2 0 ≠ 0)) p (lw F c p)) (oneP F c 99)) := nx_bP _ _ (fun _ => rfl)
    rw [this]
    exact x1.cg (W := fun a _ => decide (a = 4)) (ux_s (ux_refl _ _) rfl) (fun _ => rfl)
  · obtain ⟨⟨v, r'⟩, hy, h⟩ := bP_ok h
    have h := Except.ok.inj h
    have h1 : (s.1, udF s.2 0 v) = s' := congrArg Prod.fst h
    subst h1
    have hw := y1 v r' hy
    obtain ⟨t, ht, hy⟩ := bP_ok hy
    have hf := fullP_ok ht
    obtain ⟨-, -, -, hv, -⟩ := oneP_ok (by omega) hy
    have hv1 := hv.1
    have hv2 := hv.2
    have hv2 : v.toInt ≤ 99 := hv2
    have hD1 : DQX s τ1 := hD.cg u1 (fun a k h1 h2 => decide_eq_false (by omega))
    obtain ⟨q1, q2, q3, q4, q5, q6, q7, q8⟩ := hD1
    show DQX (s.1, udF s.2 0 v) (s_i τ1 4 8 w)
    rw [hw]
    refine ⟨q1, q2, q3, q4, q5, ?_, ?_, ?_⟩
    · exact ⟨(s_i_eq _ _ _ _).trans (udF_eq s.2 0 v).symm, by show 0 ≤ (udF s.2 0 v 0).toInt; rw [udF_eq]; omega, by show (udF s.2 0 v 0).toInt ≤ 99; rw [udF_eq]; omega⟩
    · show g_i (s_i τ1 4 8 v) 4 9 = udF s.2 0 v 1 ∧ rg (udF s.2 0 v 1) 0 99
      rw [s_i_k (by decide), udF_ne (by decide)]
      exact q7
    · show g_i (s_i τ1 4 8 v) 4 10 = udF s.2 0 v 2 ∧ rg (udF s.2 0 v 2) 0 50
      rw [s_i_k (by decide), udF_ne (by decide)]
      exact q8
theorem xonce1 {F : Nat → Int32} {c p : Nat} {s : QS} {σ : jS} (hC : XC F c σ) (hp : p ≤ c) (hR : XR c (.ok (lw F c p)) σ) (e2 : g_i σ 30 2 = nI p) (hD : DQX s σ) : ∃ τ, (f_X5_readOnce nmC (g_i σ 4 9) 99 σ).bind (fun x => some (s_i x.2 4 9 x.1)) = some τ ∧ ux wQX σ τ ∧ XR c (nx (onceC F c 1 99 s p)) τ ∧ (∀ s' r, onceC F c 1 99 s p = .ok (s', r) → DQX s' τ) := by
  have hD0 := hD
  obtain ⟨-, -, -, -, -, d5, d6, d7⟩ := hD0
  have hl := lw_le F hp
  obtain ⟨w, τ1, e1, u1, x1, y1⟩ := xonce (v0 := g_i σ 4 9) (most := 99) hC hp hR e2
  rw [d6.1] at x1 y1
  rw [e1, bnd]
  refine ⟨_, rfl, ux_s (wq30 u1) rfl, ?_, fun s' r h => ?_⟩
  · have : nx (onceC F c 1 99 s p) = nx (bP (fullP (decide (s.2 1 ≠ 0)) p (lw F c p)) (oneP F c 99)) := nx_bP _ _ (fun _ => rfl)
    rw [this]
    exact x1.cg (W := fun a _ => decide (a = 4)) (ux_s (ux_refl _ _) rfl) (fun _ => rfl)
  · obtain ⟨⟨v, r'⟩, hy, h⟩ := bP_ok h
    have h := Except.ok.inj h
    have h1 : (s.1, udF s.2 1 v) = s' := congrArg Prod.fst h
    subst h1
    have hw := y1 v r' hy
    obtain ⟨t, ht, hy⟩ := bP_ok hy
    have hf := fullP_ok ht
    obtain ⟨-, -, -, hv, -⟩ := oneP_ok (by omega) hy
    have hv1 := hv.1
    have hv2 := hv.2
    have hv2 : v.toInt ≤ 99 := hv2
    have hD1 : DQX s τ1 := hD.cg u1 (fun a k h1 h2 => decide_eq_false (by omega))
    obtain ⟨q1, q2, q3, q4, q5, q6, q7, q8⟩ := hD1
    show DQX (s.1, udF s.2 1 v) (s_i τ1 4 9 w)
    rw [hw]
    refine ⟨q1, q2, q3, q4, q5, ?_, ?_, ?_⟩
    · show g_i (s_i τ1 4 9 v) 4 8 = udF s.2 1 v 0 ∧ rg (udF s.2 1 v 0) 0 99
      rw [s_i_k (by decide), udF_ne (by decide)]
      exact q6
    · exact ⟨(s_i_eq _ _ _ _).trans (udF_eq s.2 1 v).symm, by show 0 ≤ (udF s.2 1 v 1).toInt; rw [udF_eq]; omega, by show (udF s.2 1 v 1).toInt ≤ 99; rw [udF_eq]; omega⟩
    · show g_i (s_i τ1 4 9 v) 4 10 = udF s.2 1 v 2 ∧ rg (udF s.2 1 v 2) 0 50
      rw [s_i_k (by decide), udF_ne (by decide)]
      exact q8
theorem xonce2 {F : Nat → Int32} {c p : Nat} {s : QS} {σ : jS} (hC : XC F c σ) (hp : p ≤ c) (hR : XR c (.ok (lw F c p)) σ) (e2 : g_i σ 30 2 = nI p) (hD : DQX s σ) : ∃ τ, (f_X5_readOnce nmC (g_i σ 4 10) 50 σ).bind (fun x => some (s_i x.2 4 10 x.1)) = some τ ∧ ux wQX σ τ ∧ XR c (nx (onceC F c 2 50 s p)) τ ∧ (∀ s' r, onceC F c 2 50 s p = .ok (s', r) → DQX s' τ) := by
  have hD0 := hD
  obtain ⟨-, -, -, -, -, d5, d6, d7⟩ := hD0
  have hl := lw_le F hp
  obtain ⟨w, τ1, e1, u1, x1, y1⟩ := xonce (v0 := g_i σ 4 10) (most := 50) hC hp hR e2
  rw [d7.1] at x1 y1
  rw [e1, bnd]
  refine ⟨_, rfl, ux_s (wq30 u1) rfl, ?_, fun s' r h => ?_⟩
  · have : nx (onceC F c 2 50 s p) = nx (bP (fullP (decide (s.2 2 ≠ 0)) p (lw F c p)) (oneP F c 50)) := nx_bP _ _ (fun _ => rfl)
    rw [this]
    exact x1.cg (W := fun a _ => decide (a = 4)) (ux_s (ux_refl _ _) rfl) (fun _ => rfl)
  · obtain ⟨⟨v, r'⟩, hy, h⟩ := bP_ok h
    have h := Except.ok.inj h
    have h1 : (s.1, udF s.2 2 v) = s' := congrArg Prod.fst h
    subst h1
    have hw := y1 v r' hy
    obtain ⟨t, ht, hy⟩ := bP_ok hy
    have hf := fullP_ok ht
    obtain ⟨-, -, -, hv, -⟩ := oneP_ok (by omega) hy
    have hv1 := hv.1
    have hv2 := hv.2
    have hv2 : v.toInt ≤ 50 := hv2
    have hD1 : DQX s τ1 := hD.cg u1 (fun a k h1 h2 => decide_eq_false (by omega))
    obtain ⟨q1, q2, q3, q4, q5, q6, q7, q8⟩ := hD1
    show DQX (s.1, udF s.2 2 v) (s_i τ1 4 10 w)
    rw [hw]
    refine ⟨q1, q2, q3, q4, q5, ?_, ?_, ?_⟩
    · show g_i (s_i τ1 4 10 v) 4 8 = udF s.2 2 v 0 ∧ rg (udF s.2 2 v 0) 0 99
      rw [s_i_k (by decide), udF_ne (by decide)]
      exact q6
    · show g_i (s_i τ1 4 10 v) 4 9 = udF s.2 2 v 1 ∧ rg (udF s.2 2 v 1) 0 99
      rw [s_i_k (by decide), udF_ne (by decide)]
      exact q7
    · exact ⟨(s_i_eq _ _ _ _).trans (udF_eq s.2 2 v).symm, by show 0 ≤ (udF s.2 2 v 2).toInt; rw [udF_eq]; omega, by show (udF s.2 2 v 2).toInt ≤ 50; rw [udF_eq]; omega⟩
theorem xquayC {F : Nat → Int32} {c p : Nat} {s : QS} {σ : jS} (hC : XC F c σ) (hp : p < c) (hs : sk F c p = p) (hR : XR c (.ok p) σ) (hD : DQX s σ) : ∃ τ, f_X5_readQuayClause nmC σ = some τ ∧ ux wQX σ τ ∧ XR c (nx (quayP F c s p)) τ ∧ (∀ s' r, quayP F c s p = .ok (s', r) → DQX s' τ) := by
  have hpc : p ≤ c := by omega
  obtain ⟨τ1, e1, u1, x1, e2⟩ := xwordR (nm := jn nmC [29, 1, 2]) rfl rfl rfl hC hR
  rw [hs] at x1 e2
  have hl := lw_le F hpc
  have c1 : XC F c τ1 := hC.cg u1 rfl (fun _ => rfl)
  have e30 : g_i τ1 30 1 = nI (lw F c p) := by obtain ⟨p', -, e, rfl, -⟩ := x1; exact e
  have D1 : DQX s τ1 := hD.cg u1 (fun a k h1 h2 => decide_eq_false (by omega))
  have ew : ∀ w, w < 7 → f_X3_wordIs (jn nmC [29, 1, 2]) w τ1 = some (if wdB F p (lw F c p) (rvw w) = true then 1 else 0) := fun w hw => xis (nm := jn nmC [29, 1, 2]) rfl rfl rfl hw c1 hl.1 hl.2 e30 e2
  have fin : ∀ {A : Option jS} {R : PE (QS × Nat)}, (∃ τ, A = some τ ∧ ux wQX τ1 τ ∧ XR c (nx R) τ ∧ (∀ s' r, R = .ok (s', r) → DQX s' τ)) → ∃ τ, A = some τ ∧ ux wQX σ τ ∧ XR c (nx R) τ ∧ (∀ s' r, R = .ok (s', r) → DQX s' τ) := fun ⟨τ, a, b, d, e⟩ => ⟨τ, a, ux_tr (wq30 u1) b, d, e⟩
  have sm : ∀ x : Option jS, x.bind (fun s => some s) = x := fun x => by cases x <;> rfl
  unfold f_X5_readQuayClause quayP
  rw [e1, bnd, ew 0 (by omega), bnd]
  by_cases w0 : wdB F p (lw F c p) (rvw 0) = true
  · rw [if_pos w0, if_neg i10, if_pos w0, sm]
    exact fin (xlampC c1 hpc x1 e2 D1)
  rw [if_neg w0, if_pos rfl, if_neg w0, ew 1 (by omega), bnd]
  by_cases w1 : wdB F p (lw F c p) (rvw 1) = true
  · rw [if_pos w1, if_neg i10, if_pos w1, sm]
    exact fin (xsingC c1 hpc x1 e2 D1)
  rw [if_neg w1, if_pos rfl, if_neg w1, ew 2 (by omega), bnd]
  by_cases w2 : wdB F p (lw F c p) (rvw 2) = true
  · rw [if_pos w2, if_neg i10, if_pos w2]
    exact fin (xonce0 c1 hpc x1 e2 D1)
  rw [if_neg w2, if_pos rfl, if_neg w2, ew 3 (by omega), bnd]
  by_cases w3 : wdB F p (lw F c p) (rvw 3) = true
  · rw [if_pos w3, if_neg i10, if_pos w3]
    exact fin (xonce1 c1 hpc x1 e2 D1)
  rw [if_neg w3, if_pos rfl, if_neg w3, ew 4 (by omega), bnd]
  by_cases w4 : wdB F p (lw F c p) (rvw 4) = true
  · rw [if_pos w4, if_neg i10, if_pos w4]
    exact fin (xonce2 c1 hpc x1 e2 D1)
  rw [if_neg w4, if_pos rfl, if_neg w4, sm]
  obtain ⟨τ, a, b, d, -⟩ := xfail (nm := jn nmC [29, 1, 2]) (n := 1) (q := p) rfl (by omega) x1
  refine ⟨τ, ?_, ux_tr (wq30 u1) (wq30 b), d, fun s' r h => by cases h⟩
  unfold f_X3_failAtWord
  show (f_X3_fail (jn nmC [29, 1, 2]) (nI 1) (g_i τ1 30 2) τ1).bind _ = _
  rw [e2, a]; rfl
theorem quayP_cl {F : Nat → Int32} {c : Nat} (s : QS) (p r : Nat) (s' : QS) (hp : p ≤ c) (h : quayP F c s p = .ok (s', r)) : p < r ∧ r ≤ c := by
  have hl := lw_le F hp
  have f4 : ∀ {full : Bool} {l1 h1 l2 h2 l3 h3 h4 : Int32} {l4 : Int32 → Int32} {y : (Int32 × Int32 × Int32 × Int32) × Nat}, bP (fullP full p (lw F c p)) (fourP F c l1 h1 l2 h2 l3 h3 l4 h4) = .ok y → p < y.2 ∧ y.2 ≤ c := fun {full l1 h1 l2 h2 l3 h3 h4 l4 y} h => by
    obtain ⟨⟨x, y', z, w⟩, r⟩ := y
    obtain ⟨t, ht, h⟩ := bP_ok h
    have hf := fullP_ok ht
    obtain ⟨t1, t2, t3, t4, -, -, -, -, -, hl2, -⟩ := fourP_ok (by omega) h
    show p < r ∧ r ≤ c
    omega
  have f1 : ∀ {full : Bool} {most : Int32} {y : Int32 × Nat}, bP (fullP full p (lw F c p)) (oneP F c most) = .ok y → p < y.2 ∧ y.2 ≤ c := fun {full most y} h => by
    obtain ⟨v, r⟩ := y
    obtain ⟨t, ht, h⟩ := bP_ok h
    have hf := fullP_ok ht
    obtain ⟨t1, -, -, -, hl2⟩ := oneP_ok (by omega) h
    show p < r ∧ r ≤ c
    omega
  have ex : ∀ {α : Type} {x : PE (α × Nat)} {g : α × Nat → QS}, bP x (fun y => .ok (g y, y.2)) = .ok (s', r) → ∃ y, x = .ok y ∧ y.2 = r := fun h => by
    obtain ⟨y, hy, h⟩ := bP_ok h
    exact ⟨y, hy, congrArg Prod.snd (Except.ok.inj h)⟩
  unfold quayP at h
  by_cases w0 : wdB F p (lw F c p) (rvw 0) = true
  · rw [if_pos w0] at h
    obtain ⟨y, hy, rfl⟩ := ex h
    exact f4 hy
  rw [if_neg w0] at h
  by_cases w1 : wdB F p (lw F c p) (rvw 1) = true
  · rw [if_pos w1] at h
    obtain ⟨y, hy, rfl⟩ := ex h
    exact f4 hy
  rw [if_neg w1] at h
  by_cases w2 : wdB F p (lw F c p) (rvw 2) = true
  · rw [if_pos w2] at h
    obtain ⟨y, hy, rfl⟩ := ex h
    exact f1 hy
  rw [if_neg w2] at h
  by_cases w3 : wdB F p (lw F c p) (rvw 3) = true
  · rw [if_pos w3] at h
    obtain ⟨y, hy, rfl⟩ := ex h
    exact f1 hy
  rw [if_neg w3] at h
  by_cases w4 : wdB F p (lw F c p) (rvw 4) = true
  · rw [if_pos w4] at h
    obtain ⟨y, hy, rfl⟩ := ex h
    exact f1 hy
  rw [if_neg w4] at h
  cases h
