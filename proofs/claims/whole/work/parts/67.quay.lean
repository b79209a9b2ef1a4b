/-! quay: a clause as a function of the text -/
def fourP (F : Nat → Int32) (c : Nat) (l1 h1 l2 h2 l3 h3 : Int32) (l4 : Int32 → Int32) (h4 : Int32) (t : Nat) : PE ((Int32 × Int32 × Int32 × Int32) × Nat) := bP (numP F c l1 h1 t) (fun a => bP (numP F c l2 h2 a.2) (fun b => bP (numP F c l3 h3 b.2) (fun d => bP (numP F c (l4 d.1) h4 d.2) (fun e => bP (stopP F c e.2) (fun r => .ok ((a.1, b.1, d.1, e.1), r))))))
theorem fourP_ok {F : Nat → Int32} {c t r : Nat} {l1 h1 l2 h2 l3 h3 h4 x y z w : Int32} {l4 : Int32 → Int32} (ht : t ≤ c) (h : fourP F c l1 h1 l2 h2 l3 h3 l4 h4 t = .ok ((x, y, z, w), r)) : ∃ t1 t2 t3 t4, numP F c l1 h1 t = .ok (x, t1) ∧ numP F c l2 h2 t1 = .ok (y, t2) ∧ numP F c l3 h3 t2 = .ok (z, t3) ∧ numP F c (l4 z) h4 t3 = .ok (w, t4) ∧ stopP F c t4 = .ok r ∧ (t ≤ t1 ∧ t1 ≤ t2 ∧ t2 ≤ t3 ∧ t3 ≤ t4 ∧ t4 < r ∧ r ≤ c) ∧ rg x l1.toInt h1.toInt ∧ rg y l2.toInt h2.toInt ∧ rg z l3.toInt h3.toInt ∧ rg w (l4 z).toInt h4.toInt := by
  obtain ⟨⟨a1, a2⟩, k1, h⟩ := bP_ok h
  obtain ⟨⟨b1, b2⟩, k2, h⟩ := bP_ok h
  obtain ⟨⟨d1, d2⟩, k3, h⟩ := bP_ok h
  obtain ⟨⟨e1, e2⟩, k4, h⟩ := bP_ok h
  obtain ⟨r', k5, h⟩ := bP_ok h
  have h := Except.ok.inj h
  have q1 : (a1, b1, d1, e1) = (x, y, z, w) := congrArg Prod.fst h
  have q2 : r' = r := congrArg Prod.snd h
  have q3 : a1 = x := congrArg Prod.fst q1
  have q4 : (b1, d1, e1) = (y, z, w) := congrArg Prod.snd q1
  have q5 : b1 = y := congrArg Prod.fst q4
  have q6 : (d1, e1) = (z, w) := congrArg Prod.snd q4
  have q7 : d1 = z := congrArg Prod.fst q6
  have q8 : e1 = w := congrArg Prod.snd q6
  subst q2 q3 q5 q7 q8
  have n1 := numP_ok ht k1
  have n2 := numP_ok n1.2.2.1 k2
  have n3 := numP_ok n2.2.2.1 k3
  have n4 := numP_ok n3.2.2.1 k4
  have n5 := stopP_ok n4.2.2.1 k5
  exact ⟨a2, b2, d2, e2, k1, k2, k3, k4, k5, ⟨n1.2.1, n2.2.1, n3.2.1, n4.2.1, n5.1, n5.2⟩, n1.1, n2.1, n3.1, n4.1⟩
abbrev QS : Type := (SR × SR) × (Nat → Int32)
def fourL (F : Nat → Int32) (c : Nat) : Nat → PE ((Int32 × Int32 × Int32 × Int32) × Nat) := fourP F c 0 49 0 63 0 9 (fun _ => 0) 5
def fourS (F : Nat → Int32) (c : Nat) : Nat → PE ((Int32 × Int32 × Int32 × Int32) × Nat) := fourP F c 0 49 1 50 0 63 (fun d => d) 63
def fullP (full : Bool) (p q : Nat) : PE Nat := if full = true then .error (3, p) else .ok q
def ud4 (h : Nat → Int32) (n : Nat) (x y z w : Int32) : Nat → Int32 := udF (udF (udF (udF h (4 * n) x) (4 * n + 1) y) (4 * n + 2) z) (4 * n + 3) w
theorem ud4_0 (h : Nat → Int32) (n : Nat) (x y z w : Int32) : ud4 h n x y z w (4 * n) = x := by
  unfold ud4
  rw [udF_ne (by omega), udF_ne (by omega), udF_ne (by omega), udF_eq]
theorem ud4_1 (h : Nat → Int32) (n : Nat) (x y z w : Int32) : ud4 h n x y z w (4 * n + 1) = y := by
  unfold ud4
  rw [udF_ne (by omega), udF_ne (by omega), udF_eq]
theorem ud4_2 (h : Nat → Int32) (n : Nat) (x y z w : Int32) : ud4 h n x y z w (4 * n + 2) = z := by
  unfold ud4
  rw [udF_ne (by omega), udF_eq]
theorem ud4_3 (h : Nat → Int32) (n : Nat) (x y z w : Int32) : ud4 h n x y z w (4 * n + 3) = w := udF_eq _ _ _
theorem ud4_ne {h : Nat → Int32} {n k : Nat} {x y z w : Int32} (hk : k < 4 * n) : ud4 h n x y z w k = h k := by
  unfold ud4
  rw [udF_ne (by omega), udF_ne (by omega), udF_ne (by omega), udF_ne (by omega)]
def lampC (F : Nat → Int32) (c : Nat) (s : QS) (p : Nat) : PE (QS × Nat) := bP (bP (fullP (decide (s.1.1.1 = 10)) p (lw F c p)) (fourL F c)) (fun y => .ok ((((s.1.1.1 + 1, ud4 s.1.1.2 s.1.1.1 y.1.1 y.1.2.1 y.1.2.2.1 y.1.2.2.2), s.1.2), s.2), y.2))
def singC (F : Nat → Int32) (c : Nat) (s : QS) (p : Nat) : PE (QS × Nat) := bP (bP (fullP (decide (s.1.2.1 = 8)) p (lw F c p)) (fourS F c)) (fun y => .ok (((s.1.1, (s.1.2.1 + 1, ud4 s.1.2.2 s.1.2.1 y.1.1 y.1.2.1 y.1.2.2.1 y.1.2.2.2)), s.2), y.2))
def oneP (F : Nat → Int32) (c : Nat) (most : Int32) (t : Nat) : PE (Int32 × Nat) := bP (numP F c 1 most t) (fun a => bP (stopP F c a.2) (fun r => .ok (a.1, r)))
def onceC (F : Nat → Int32) (c i : Nat) (most : Int32) (s : QS) (p : Nat) : PE (QS × Nat) := bP (bP (fullP (decide (s.2 i ≠ 0)) p (lw F c p)) (oneP F c most)) (fun y => .ok ((s.1, udF s.2 i y.1), y.2))
def quayP (F : Nat → Int32) (c : Nat) (s : QS) (p : Nat) : PE (QS × Nat) := if wdB F p (lw F c p) (rvw 0) = true then lampC F c s p else if wdB F p (lw F c p) (rvw 1) = true then singC F c s p else if wdB F p (lw F c p) (rvw 2) = true then onceC F c 0 99 s p else if wdB F p (lw F c p) (rvw 3) = true then onceC F c 1 99 s p else if wdB F p (lw F c p) (rvw 4) = true then onceC F c 2 50 s p else .error (1, p)
theorem fullP_ok {full : Bool} {p q t : Nat} (h : fullP full p q = .ok t) : full = false ∧ t = q := by
  unfold fullP at h
  cases full with
  | true => rw [if_pos rfl] at h; cases h
  | false => rw [if_neg (by decide)] at h; exact ⟨rfl, (Except.ok.inj h).symm⟩
def DQX (s : QS) (σ : jS) : Prop :=
  (s.1.1.1 ≤ 10 ∧ s.1.2.1 ≤ 8) ∧ (g_i σ 5 1 = nI s.1.1.1 ∧ g_i σ 7 1 = nI s.1.1.1 ∧ g_i σ 9 1 = nI s.1.1.1 ∧ g_i σ 11 1 = nI s.1.1.1) ∧ (g_i σ 13 1 = nI s.1.2.1 ∧ g_i σ 15 1 = nI s.1.2.1 ∧ g_i σ 17 1 = nI s.1.2.1 ∧ g_i σ 19 1 = nI s.1.2.1) ∧
  (∀ k, k < s.1.1.1 → (g_i σ 6 k = s.1.1.2 (4 * k) ∧ rg (s.1.1.2 (4 * k)) 0 49) ∧ (g_i σ 8 k = s.1.1.2 (4 * k + 1) ∧ rg (s.1.1.2 (4 * k + 1)) 0 63) ∧ (g_i σ 10 k = s.1.1.2 (4 * k + 2) ∧ rg (s.1.1.2 (4 * k + 2)) 0 9) ∧ (g_i σ 12 k = s.1.1.2 (4 * k + 3) ∧ rg (s.1.1.2 (4 * k + 3)) 0 5)) ∧
  (∀ k, k < s.1.2.1 → (g_i σ 14 k = s.1.2.2 (4 * k) ∧ rg (s.1.2.2 (4 * k)) 0 49) ∧ (g_i σ 16 k = s.1.2.2 (4 * k + 1) ∧ rg (s.1.2.2 (4 * k + 1)) 1 50) ∧ (g_i σ 18 k = s.1.2.2 (4 * k + 2) ∧ rg (s.1.2.2 (4 * k + 2)) 0 63) ∧ (g_i σ 20 k = s.1.2.2 (4 * k + 3) ∧ rg (s.1.2.2 (4 * k + 3)) (s.1.2.2 (4 * k + 2)).toInt 63)) ∧
  (g_i σ 4 8 = s.2 0 ∧ rg (s.2 0) 0 99) ∧ (g_i σ 4 9 = s.2 1 ∧ rg (s.2 1) 0 99) ∧ (g_i σ 4 10 = s.2 2 ∧ rg (s.2 2) 0 50)
theorem DQX.cg {W : Nat → Nat → Bool} {s : QS} {σ τ : jS} (hu : ux W σ τ) (hw : ∀ a k, 4 ≤ a → a ≤ 20 → W a k = false) (h : DQX s σ) : DQX s τ := by
  obtain ⟨a, ⟨b1, b2, b3, b4⟩, ⟨c1, c2, c3, c4⟩, d, e, f1, f2, f3⟩ := h
  have q : ∀ a k, 4 ≤ a → a ≤ 20 → g_i τ a k = g_i σ a k := fun a k h1 h2 => hu a k (hw a k h1 h2)
  refine ⟨a, ⟨(q _ _ (by omega) (by omega)).trans b1, (q _ _ (by omega) (by omega)).trans b2, (q _ _ (by omega) (by omega)).trans b3, (q _ _ (by omega) (by omega)).trans b4⟩, ⟨(q _ _ (by omega) (by omega)).trans c1, (q _ _ (by omega) (by omega)).trans c2, (q _ _ (by omega) (by omega)).trans c3, (q _ _ (by omega) (by omega)).trans c4⟩, fun k hk => ?_, fun k hk => ?_, ⟨(q _ _ (by omega) (by omega)).trans f1.1, f1.2⟩, ⟨(q _ _ (by omega) (by omega)).trans f2.1, f2.2⟩, ⟨(q _ _ (by omega) (by omega)).trans f3.1, f3.2⟩⟩
  · rw [q 6 k (by omega) (by omega), q 8 k (by omega) (by omega), q 10 k (by omega) (by omega), q 12 k (by omega) (by omega)]; exact d k hk
  · rw [q 14 k (by omega) (by omega), q 16 k (by omega) (by omega), q 18 k (by omega) (by omega), q 20 k (by omega) (by omega)]; exact e k hk
def wQX (a _k : Nat) : Bool := decide (a = 30 ∨ (4 ≤ a ∧ a ≤ 20))
def nmQ : Nat → Nat := jn nmX [3, 1, 2, 4, 5, 6, 7, 8, 9, 10, 11, 12, 13, 14, 15, 16, 17, 18, 19, 20, 21, 22, 23, 24, 25, 26, 27, 28, 29, 30, 31, 32, 33, 34, 35, 36, 37, 38, 39, 40, 41, 42, 43, 44, 45, 46, 47]
def nmC : Nat → Nat := jn nmQ [0, 1, 2, 3, 4, 5, 6, 7, 8, 9, 10, 11, 12, 13, 14, 15, 16, 17, 18, 19, 20, 21, 22, 23, 24, 25, 26, 27, 28, 29]
def wQ (lo hi a _k : Nat) : Bool := decide (a = 30 ∨ (lo ≤ a ∧ a ≤ hi))
theorem wq3 {lo hi : Nat} {σ τ : jS} (h : ux w30 σ τ) : ux (wQ lo hi) σ τ := ux_w h (fun a k hk => decide_eq_false (fun e => (of_decide_eq_false hk) (Or.inl e)))
theorem wqR {lo hi : Nat} {σ τ : jS} {d0 d1 : Nat} (h1 : lo ≤ d0 ∧ d0 ≤ hi) (h2 : lo ≤ d1 ∧ d1 ≤ hi) (h : ux (wRc d0 d1) σ τ) : ux (wQ lo hi) σ τ := ux_w h (fun a k hk => decide_eq_false (fun e => (of_decide_eq_false hk) (by rcases e with e | e; exact Or.inr (by omega); exact Or.inr (by omega))))
theorem xlampJ {F : Nat → Int32} {c n : Nat} {st : PE Nat} {σ : jS} (hC : XC F c σ) (hR : XR c st σ) (hst : ∀ t, st = .ok t → t ≤ c) (hn : n ≤ 10) (r1 : g_i σ 5 1 = nI n) (r2 : g_i σ 7 1 = nI n) (r3 : g_i σ 9 1 = nI n) (r4 : g_i σ 11 1 = nI n) : ∃ τ, f_X5_readLamp_J21 nmC σ = some τ ∧ ux (wQ 5 12) σ τ ∧ XR c (nx (bP st (fourL F c))) τ ∧ (n < 10 → ∀ x y z w r, bP st (fourL F c) = .ok ((x, y, z, w), r) → (g_i τ 5 1 = nI (n + 1) ∧ g_i τ 7 1 = nI (n + 1) ∧ g_i τ 9 1 = nI (n + 1) ∧ g_i τ 11 1 = nI (n + 1)) ∧ (g_i τ 6 n = x ∧ g_i τ 8 n = y ∧ g_i τ 10 n = z ∧ g_i τ 12 n = w) ∧ ∀ k, k ≠ n → g_i τ 6 k = g_i σ 6 k ∧ g_i τ 8 k = g_i σ 8 k ∧ g_i τ 10 k = g_i σ 10 k ∧ g_i τ 12 k = g_i σ 12 k) := by
  unfold f_X5_readLamp_J21
  obtain ⟨v1, τ1, e1, u1, x1, y1⟩ := xnumR (nm := jn nmC [29, 1, 2]) (lo := 0) (hi := 49) rfl rfl rfl hC hR
  have c1 : XC F c τ1 := hC.cg u1 rfl (fun _ => rfl)
  obtain ⟨τ2, e2, u2, -, z2⟩ := row_put2 (nm := jn nmC [4, 5]) (N := 10) (v := v1) (show (5 : Nat) ≠ 6 by decide) ((u1 5 1 rfl).trans r1) hn (by omega)
  have u2 : ux (wRc 5 6) τ1 τ2 := u2
  have c2 : XC F c τ2 := c1.cg u2 rfl (fun _ => rfl)
  obtain ⟨v2, τ3, e3, u3, x3, y3⟩ := xnumR (nm := jn nmC [29, 1, 2]) (lo := 0) (hi := 63) rfl rfl rfl c2 (x1.cg u2 (fun _ => rfl))
  have c3 : XC F c τ3 := c2.cg u3 rfl (fun _ => rfl)
  have v13 : ux (wQ 5 6) σ τ3 := ux_tr (ux_tr (wq3 u1) (wqR (by omega) (by omega) u2)) (wq3 u3)
  obtain ⟨τ4, e4, u4, -, z4⟩ := row_put2 (nm := jn nmC [6, 7]) (N := 10) (v := v2) (show (7 : Nat) ≠ 8 by decide) ((v13 7 1 rfl).trans r2) hn (by omega)
  have u4 : ux (wRc 7 8) τ3 τ4 := u4
  have c4 : XC F c τ4 := c3.cg u4 rfl (fun _ => rfl)
  obtain ⟨v3, τ5, e5, u5, x5, y5⟩ := xnumR (nm := jn nmC [29, 1, 2]) (lo := 0) (hi := 9) rfl rfl rfl c4 (x3.cg u4 (fun _ => rfl))
  have c5 : XC F c τ5 := c4.cg u5 rfl (fun _ => rfl)
  have v15 : ux (wQ 5 8) σ τ5 := ux_tr (ux_tr (ux_w v13 (fun a k hk => decide_eq_false (fun e => (of_decide_eq_false hk) (by omega)))) (wqR (by omega) (by omega) u4)) (wq3 u5)
  obtain ⟨τ6, e6, u6, -, z6⟩ := row_put2 (nm := jn nmC [8, 9]) (N := 10) (v := v3) (show (9 : Nat) ≠ 10 by decide) ((v15 9 1 rfl).trans r3) hn (by omega)
  have u6 : ux (wRc 9 10) τ5 τ6 := u6
  have c6 : XC F c τ6 := c5.cg u6 rfl (fun _ => rfl)
  obtain ⟨v4, τ7, e7, u7, x7, y7⟩ := xnumR (nm := jn nmC [29, 1, 2]) (lo := 0) (hi := 5) rfl rfl rfl c6 (x5.cg u6 (fun _ => rfl))
  have c7 : XC F c τ7 := c6.cg u7 rfl (fun _ => rfl)
  have v17 : ux (wQ 5 10) σ τ7 := ux_tr (ux_tr (ux_w v15 (fun a k hk => decide_eq_false (fun e => (of_decide_eq_false hk) (by omega)))) (wqR (by omega) (by omega) u6)) (wq3 u7)
  obtain ⟨τ8, e8, u8, -, z8⟩ := row_put2 (nm := jn nmC [10, 11]) (N := 10) (v := v4) (show (11 : Nat) ≠ 12 by decide) ((v17 11 1 rfl).trans r4) hn (by omega)
  have u8 : ux (wRc 11 12) τ7 τ8 := u8
  have c8 : XC F c τ8 := c7.cg u8 rfl (fun _ => rfl)
  obtain ⟨τ9, e9, u9, x9⟩ := xendR (nm := jn nmC [29, 1, 2]) rfl rfl rfl c8 (x7.cg u8 (fun _ => rfl))
  have v19 : ux (wQ 5 12) σ τ9 := ux_tr (ux_tr (ux_w v17 (fun a k hk => decide_eq_false (fun e => (of_decide_eq_false hk) (by omega)))) (wqR (by omega) (by omega) u8)) (wq3 u9)
  have er : (f_X3_readNumber (jn nmC [29, 1, 2]) 0 49 σ).bind (fun x => (f_X4_put (jn nmC [4, 5]) 10 x.1 x.2).bind (fun s6 => (f_X3_readNumber (jn nmC [29, 1, 2]) 0 63 s6).bind (fun y => (f_X4_put (jn nmC [6, 7]) 10 y.1 y.2).bind (fun s9 => (f_X3_readNumber (jn nmC [29, 1, 2]) 0 9 s9).bind (fun z => (f_X4_put (jn nmC [8, 9]) 10 z.1 z.2).bind (fun s12 => (f_X3_readNumber (jn nmC [29, 1, 2]) 0 5 s12).bind (fun w => (f_X4_put (jn nmC [10, 11]) 10 w.1 w.2).bind (fun s15 => (f_X3_endClause (jn nmC [29, 1, 2]) s15).bind (fun s16 => some s16))))))))) = some τ9 := by
    rw [e1, bnd, e2, bnd, e3, bnd, e4, bnd, e5, bnd, e6, bnd, e7, bnd, e8, bnd, e9, bnd]
  refine ⟨τ9, er, v19, ?_, fun hlt x y z w r h => ?_⟩
  · have est : bP (nx (bP (nx (bP (nx (bP (nx (bP st (numP F c 0 49))) (numP F c 0 63))) (numP F c 0 9))) (numP F c 0 5))) (stopP F c) = nx (bP st (fourL F c)) := by
      cases hs : st with
      | error e => rfl
      | ok t =>
        show bP (nx (bP (nx (bP (nx (bP (nx (numP F c 0 49 t)) (numP F c 0 63))) (numP F c 0 9))) (numP F c 0 5))) (stopP F c) = nx (bP (numP F c 0 49 t) _)
        cases ha : numP F c 0 49 t with
        | error e => rfl
        | ok a =>
          show bP (nx (bP (nx (bP (nx (numP F c 0 63 a.2)) (numP F c 0 9))) (numP F c 0 5))) (stopP F c) = nx (bP (numP F c 0 63 a.2) _)
          cases hb : numP F c 0 63 a.2 with
          | error e => rfl
          | ok b =>
            show bP (nx (bP (nx (numP F c 0 9 b.2)) (numP F c 0 5))) (stopP F c) = nx (bP (numP F c 0 9 b.2) _)
            cases hd : numP F c 0 9 b.2 with
            | error e => rfl
            | ok d =>

              show bP (nx (numP F c 0 5 d.2)) (stopP F c) = nx (bP (numP F c 0 5 d.2) _)
              cases numP F c 0 5 d.2 with
              | error e => rfl
              | ok e =>
                show stopP F c e.2 = nx (bP (stopP F c e.2) _)
                cases stopP F c e.2 <;> rfl
    rw [← est]; exact x9
  · obtain ⟨t, ht, h⟩ := bP_ok h
    obtain ⟨t1, t2, t3, t4, k1, k2, k3, k4, k5, hl, -⟩ := fourP_ok (hst t ht) h
    have hc' := hst t ht
    have w1 : v1 = x := ((y1 t ht).1).trans (numP_ok hc' k1).2.2.2.1.symm
    have s1 : nx (bP st (numP F c 0 49)) = .ok t1 := by rw [ht]; show nx (numP F c 0 49 t) = _; rw [k1]; rfl
    have w2 : v2 = y := ((y3 t1 s1).1).trans (numP_ok (by omega) k2).2.2.2.1.symm
    have s2 : nx (bP (nx (bP st (numP F c 0 49))) (numP F c 0 63)) = .ok t2 := by rw [s1]; show nx (numP F c 0 63 t1) = _; rw [k2]; rfl
    have w3 : v3 = z := ((y5 t2 s2).1).trans (numP_ok (by omega) k3).2.2.2.1.symm
    have s3 : nx (bP (nx (bP (nx (bP st (numP F c 0 49))) (numP F c 0 63))) (numP F c 0 9)) = .ok t3 := by rw [s2]; show nx (numP F c 0 9 t2) = _; rw [k3]; rfl
    have w4 : v4 = w := ((y7 t3 s3).1).trans (numP_ok (by omega) k4).2.2.2.1.symm
    subst w1 w2 w3 w4
    obtain ⟨a1, a2, a3⟩ := z2 hlt
    obtain ⟨b1, b2, b3⟩ := z4 hlt
    obtain ⟨d1, d2, d3⟩ := z6 hlt
    obtain ⟨g1, g2, g3⟩ := z8 hlt
    have a1 : g_i τ2 5 1 = nI (n + 1) := a1
    have a2 : g_i τ2 6 n = v1 := a2
    have a3 : ∀ k, k ≠ n → g_i τ2 6 k = g_i τ1 6 k := a3
    have b1 : g_i τ4 7 1 = nI (n + 1) := b1
    have b2 : g_i τ4 8 n = v2 := b2
    have b3 : ∀ k, k ≠ n → g_i τ4 8 k = g_i τ3 8 k := b3
    have d1 : g_i τ6 9 1 = nI (n + 1) := d1
    have d2 : g_i τ6 10 n = v3 := d2
    have d3 : ∀ k, k ≠ n → g_i τ6 10 k = g_i τ5 10 k := d3
    have g1 : g_i τ8 11 1 = nI (n + 1) := g1
    have g2 : g_i τ8 12 n = v4 := g2
    have g3 : ∀ k, k ≠ n → g_i τ8 12 k = g_i τ7 12 k := g3
    have m89 : ∀ a k, a ≠ 30 → g_i τ9 a k = g_i τ8 a k := fun a k ha => u9 a k (decide_eq_false ha)
    have m69 : ∀ a k, a < 11 → g_i τ9 a k = g_i τ6 a k := fun a k ha => (u9 a k (decide_eq_false (by omega))).trans ((u8 a k (decide_eq_false (by omega))).trans (u7 a k (decide_eq_false (by omega))))
    have m49 : ∀ a k, a < 9 → g_i τ9 a k = g_i τ4 a k := fun a k ha => (m69 a k (by omega)).trans ((u6 a k (decide_eq_false (by omega))).trans (u5 a k (decide_eq_false (by omega))))
    have m29 : ∀ a k, a < 7 → g_i τ9 a k = g_i τ2 a k := fun a k ha => (m49 a k (by omega)).trans ((u4 a k (decide_eq_false (by omega))).trans (u3 a k (decide_eq_false (by omega))))
    refine ⟨⟨(m29 _ _ (by omega)).trans a1, (m49 _ _ (by omega)).trans b1, (m69 _ _ (by omega)).trans d1, (m89 _ _ (by omega)).trans g1⟩, ⟨(m29 _ _ (by omega)).trans a2, (m49 _ _ (by omega)).trans b2, (m69 _ _ (by omega)).trans d2, (m89 _ _ (by omega)).trans g2⟩, fun k hk => ⟨?_, ?_, ?_, ?_⟩⟩
    · exact (m29 _ _ (by omega)).trans ((a3 k hk).trans (u1 6 k rfl))
    · exact (m49 _ _ (by omega)).trans ((b3 k hk).trans (v13 8 k rfl))
    · exact (m69 _ _ (by omega)).trans ((d3 k hk).trans (v15 10 k rfl))
    · exact (m89 _ _ (by omega)).trans ((g3 k hk).trans (v17 12 k rfl))
theorem xsingJ {F : Nat → Int32} {c n : Nat} {st : PE Nat} {σ : jS} (hC : XC F c σ) (hR : XR c st σ) (hst : ∀ t, st = .ok t → t ≤ c) (hn : n ≤ 8) (r1 : g_i σ 13 1 = nI n) (r2 : g_i σ 15 1 = nI n) (r3 : g_i σ 17 1 = nI n) (r4 : g_i σ 19 1 = nI n) : ∃ τ, f_X5_readSinger_J21 nmC σ = some τ ∧ ux (wQ 13 20) σ τ ∧ XR c (nx (bP st (fourS F c))) τ ∧ (n < 8 → ∀ x y z w r, bP st (fourS F c) = .ok ((x, y, z, w), r) → (g_i τ 13 1 = nI (n + 1) ∧ g_i τ 15 1 = nI (n + 1) ∧ g_i τ 17 1 = nI (n + 1) ∧ g_i τ 19 1 = nI (n + 1)) ∧ (g_i τ 14 n = x ∧ g_i τ 16 n = y ∧ g_i τ 18 n = z ∧ g_i τ 20 n = w) ∧ ∀ k, k ≠ n → g_i τ 14 k = g_i σ 14 k ∧ g_i τ 16 k = g_i σ 16 k ∧ g_i τ 18 k = g_i σ 18 k ∧ g_i τ 20 k = g_i σ 20 k) := by
  unfold f_X5_readSinger_J21
  obtain ⟨v1, τ1, e1, u1, x1, y1⟩ := xnumR (nm := jn nmC [29, 1, 2]) (lo := 0) (hi := 49) rfl rfl rfl hC hR
  have c1 : XC F c τ1 := hC.cg u1 rfl (fun _ => rfl)
  obtain ⟨τ2, e2, u2, -, z2⟩ := row_put2 (nm := jn nmC [12, 13]) (N := 8) (v := v1) (show (13 : Nat) ≠ 14 by decide) ((u1 13 1 rfl).trans r1) hn (by omega)
  have u2 : ux (wRc 13 14) τ1 τ2 := u2
  have c2 : XC F c τ2 := c1.cg u2 rfl (fun _ => rfl)
  obtain ⟨v2, τ3, e3, u3, x3, y3⟩ := xnumR (nm := jn nmC [29, 1, 2]) (lo := 1) (hi := 50) rfl rfl rfl c2 (x1.cg u2 (fun _ => rfl))
  have c3 : XC F c τ3 := c2.cg u3 rfl (fun _ => rfl)
  have v13 : ux (wQ 13 14) σ τ3 := ux_tr (ux_tr (wq3 u1) (wqR (by omega) (by omega) u2)) (wq3 u3)
  obtain ⟨τ4, e4, u4, -, z4⟩ := row_put2 (nm := jn nmC [14, 15]) (N := 8) (v := v2) (show (15 : Nat) ≠ 16 by decide) ((v13 15 1 rfl).trans r2) hn (by omega)
  have u4 : ux (wRc 15 16) τ3 τ4 := u4
  have c4 : XC F c τ4 := c3.cg u4 rfl (fun _ => rfl)
  obtain ⟨v3, τ5, e5, u5, x5, y5⟩ := xnumR (nm := jn nmC [29, 1, 2]) (lo := 0) (hi := 63) rfl rfl rfl c4 (x3.cg u4 (fun _ => rfl))
  have c5 : XC F c τ5 := c4.cg u5 rfl (fun _ => rfl)
  have v15 : ux (wQ 13 16) σ τ5 := ux_tr (ux_tr (ux_w v13 (fun a k hk => decide_eq_false (fun e => (of_decide_eq_false hk) (by omega)))) (wqR (by omega) (by omega) u4)) (wq3 u5)
  obtain ⟨τ6, e6, u6, -, z6⟩ := row_put2 (nm := jn nmC [16, 17]) (N := 8) (v := v3) (show (17 : Nat) ≠ 18 by decide) ((v15 17 1 rfl).trans r3) hn (by omega)
  have u6 : ux (wRc 17 18) τ5 τ6 := u6
  have c6 : XC F c τ6 := c5.cg u6 rfl (fun _ => rfl)
  obtain ⟨v4, τ7, e7, u7, x7, y7⟩ := xnumR (nm := jn nmC [29, 1, 2]) (lo := v3) (hi := 63) rfl rfl rfl c6 (x5.cg u6 (fun _ => rfl))
  have c7 : XC F c τ7 := c6.cg u7 rfl (fun _ => rfl)
  have v17 : ux (wQ 13 18) σ τ7 := ux_tr (ux_tr (ux_w v15 (fun a k hk => decide_eq_false (fun e => (of_decide_eq_false hk) (by omega)))) (wqR (by omega) (by omega) u6)) (wq3 u7)
  obtain ⟨τ8, e8, u8, -, z8⟩ := row_put2 (nm := jn nmC [18, 19]) (N := 8) (v := v4) (show (19 : Nat) ≠ 20 by decide) ((v17 19 1 rfl).trans r4) hn (by omega)
  have u8 : ux (wRc 19 20) τ7 τ8 := u8
  have c8 : XC F c τ8 := c7.cg u8 rfl (fun _ => rfl)
  obtain ⟨τ9, e9, u9, x9⟩ := xendR (nm := jn nmC [29, 1, 2]) rfl rfl rfl c8 (x7.cg u8 (fun _ => rfl))
  have v19 : ux (wQ 13 20) σ τ9 := ux_tr (ux_tr (ux_w v17 (fun a k hk => decide_eq_false (fun e => (of_decide_eq_false hk) (by omega)))) (wqR (by omega) (by omega) u8)) (wq3 u9)
  have er : (f_X3_readNumber (jn nmC [29, 1, 2]) 0 49 σ).bind (fun x => (f_X4_put (jn nmC [12, 13]) 8 x.1 x.2).bind (fun s6 => (f_X3_readNumber (jn nmC [29, 1, 2]) 1 50 s6).bind (fun y => (f_X4_put (jn nmC [14, 15]) 8 y.1 y.2).bind (fun s9 => (f_X3_readNumber (jn nmC [29, 1, 2]) 0 63 s9).bind (fun z => (f_X4_put (jn nmC [16, 17]) 8 z.1 z.2).bind (fun s12 => (f_X3_readNumber (jn nmC [29, 1, 2]) z.1 63 s12).bind (fun w => (f_X4_put (jn nmC [18, 19]) 8 w.1 w.2).bind (fun s15 => (f_X3_endClause (jn nmC [29, 1, 2]) s15).bind (fun s16 => some s16))))))))) = some τ9 := by
    rw [e1, bnd, e2, bnd, e3, bnd, e4, bnd, e5, bnd, e6, bnd, e7, bnd, e8, bnd, e9, bnd]
  refine ⟨τ9, er, v19, ?_, fun hlt x y z w r h => ?_⟩
  · have est : bP (nx (bP (nx (bP (nx (bP (nx (bP st (numP F c 0 49))) (numP F c 1 50))) (numP F c 0 63))) (numP F c v3 63))) (stopP F c) = nx (bP st (fourS F c)) := by
      cases hs : st with
      | error e => rfl
      | ok t =>
        show bP (nx (bP (nx (bP (nx (bP (nx (numP F c 0 49 t)) (numP F c 1 50))) (numP F c 0 63))) (numP F c v3 63))) (stopP F c) = nx (bP (numP F c 0 49 t) _)
        cases ha : numP F c 0 49 t with
        | error e => rfl
        | ok a =>
          show bP (nx (bP (nx (bP (nx (numP F c 1 50 a.2)) (numP F c 0 63))) (numP F c v3 63))) (stopP F c) = nx (bP (numP F c 1 50 a.2) _)
          cases hb : numP F c 1 50 a.2 with
          | error e => rfl
          | ok b =>
            show bP (nx (bP (nx (numP F c 0 63 b.2)) (numP F c v3 63))) (stopP F c) = nx (bP (numP F c 0 63 b.2) _)
            cases hd : numP F c 0 63 b.2 with
            | error e => rfl
            | ok d =>
              have hd3 : v3 = d.1 := by
                have q1 : nx (bP st (numP F c 0 49)) = .ok a.2 := by rw [hs]; show nx (numP F c 0 49 t) = _; rw [ha]; rfl
                have q2 : nx (bP (nx (bP st (numP F c 0 49))) (numP F c 1 50)) = .ok b.2 := by rw [q1]; show nx (numP F c 1 50 a.2) = _; rw [hb]; rfl
                have l1 := (numP_ok (v := a.1) (r := a.2) (hst t hs) ha).2.2.1
                have l2 := (numP_ok (v := b.1) (r := b.2) l1 hb).2.2.1
                exact ((y5 b.2 q2).1).trans (numP_ok (v := d.1) (r := d.2) l2 hd).2.2.2.1.symm
              show bP (nx (numP F c v3 63 d.2)) (stopP F c) = nx (bP (numP F c d.1 63 d.2) _)
              rw [← hd3]
              cases numP F c v3 63 d.2 with
              | error e => rfl
              | ok e =>
                show stopP F c e.2 = nx (bP (stopP F c e.2) _)
                cases stopP F c e.2 <;> rfl
    rw [← est]; exact x9
  · obtain ⟨t, ht, h⟩ := bP_ok h
    obtain ⟨t1, t2, t3, t4, k1, k2, k3, k4, k5, hl, -⟩ := fourP_ok (hst t ht) h
    have hc' := hst t ht
    have w1 : v1 = x := ((y1 t ht).1).trans (numP_ok hc' k1).2.2.2.1.symm
    have s1 : nx (bP st (numP F c 0 49)) = .ok t1 := by rw [ht]; show nx (numP F c 0 49 t) = _; rw [k1]; rfl
    have w2 : v2 = y := ((y3 t1 s1).1).trans (numP_ok (by omega) k2).2.2.2.1.symm
    have s2 : nx (bP (nx (bP st (numP F c 0 49))) (numP F c 1 50)) = .ok t2 := by rw [s1]; show nx (numP F c 1 50 t1) = _; rw [k2]; rfl
    have w3 : v3 = z := ((y5 t2 s2).1).trans (numP_ok (by omega) k3).2.2.2.1.symm
    have s3 : nx (bP (nx (bP (nx (bP st (numP F c 0 49))) (numP F c 1 50))) (numP F c 0 63)) = .ok t3 := by rw [s2]; show nx (numP F c 0 63 t2) = _; rw [k3]; rfl
    have w4 : v4 = w := ((y7 t3 s3).1).trans (numP_ok (by omega) k4).2.2.2.1.symm
    subst w1 w2 w3 w4
    obtain ⟨a1, a2, a3⟩ := z2 hlt
    obtain ⟨b1, b2, b3⟩ := z4 hlt
    obtain ⟨d1, d2, d3⟩ := z6 hlt
    obtain ⟨g1, g2, g3⟩ := z8 hlt
    have a1 : g_i τ2 13 1 = nI (n + 1) := a1
    have a2 : g_i τ2 14 n = v1 := a2
    have a3 : ∀ k, k ≠ n → g_i τ2 14 k = g_i τ1 14 k := a3
    have b1 : g_i τ4 15 1 = nI (n + 1) := b1
    have b2 : g_i τ4 16 n = v2 := b2
    have b3 : ∀ k, k ≠ n → g_i τ4 16 k = g_i τ3 16 k := b3
    have d1 : g_i τ6 17 1 = nI (n + 1) := d1
    have d2 : g_i τ6 18 n = v3 := d2
    have d3 : ∀ k, k ≠ n → g_i τ6 18 k = g_i τ5 18 k := d3
    have g1 : g_i τ8 19 1 = nI (n + 1) := g1
    have g2 : g_i τ8 20 n = v4 := g2
    have g3 : ∀ k, k ≠ n → g_i τ8 20 k = g_i τ7 20 k := g3
    have m89 : ∀ a k, a ≠ 30 → g_i τ9 a k = g_i τ8 a k := fun a k ha => u9 a k (decide_eq_false ha)
    have m69 : ∀ a k, a < 19 → g_i τ9 a k = g_i τ6 a k := fun a k ha => (u9 a k (decide_eq_false (by omega))).trans ((u8 a k (decide_eq_false (by omega))).trans (u7 a k (decide_eq_false (by omega))))
    have m49 : ∀ a k, a < 17 → g_i τ9 a k = g_i τ4 a k := fun a k ha => (m69 a k (by omega)).trans ((u6 a k (decide_eq_false (by omega))).trans (u5 a k (decide_eq_false (by omega))))
    have m29 : ∀ a k, a < 15 → g_i τ9 a k = g_i τ2 a k := fun a k ha => (m49 a k (by omega)).trans ((u4 a k (decide_eq_false (by omega))).trans (u3 a k (decide_eq_false (by omega))))
    refine ⟨⟨(m29 _ _ (by omega)).trans a1, (m49 _ _ (by omega)).trans b1, (m69 _ _ (by omega)).trans d1, (m89 _ _ (by omega)).trans g1⟩, ⟨(m29 _ _ (by omega)).trans a2, (m49 _ _ (by omega)).trans b2, (m69 _ _ (by omega)).trans d2, (m89 _ _ (by omega)).trans g2⟩, fun k hk => ⟨?_, ?_, ?_, ?_⟩⟩
    · exact (m29 _ _ (by omega)).trans ((a3 k hk).trans (u1 14 k rfl))
    · exact (m49 _ _ (by omega)).trans ((b3 k hk).trans (v13 16 k rfl))
    · exact (m69 _ _ (by omega)).trans ((d3 k hk).trans (v15 18 k rfl))
    · exact (m89 _ _ (by omega)).trans ((g3 k hk).trans (v17 20 k rfl))
