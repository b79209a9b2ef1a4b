/-! quay: what stands once, reference side; the clause -/
theorem monce0 {F : Nat → Int32} {c p : Nat} {s : QS} {τ1 : jS} (hC : MC F c τ1) (hp : p ≤ c) (e23 : g_i τ1 101 23 = nI (lw F c p)) (hD : DQM s τ1) (hn : s.2 0 = 0) : ∃ x, f_X11_takeQuay_J203 nmM 2 τ1 = some x ∧ ux wQM τ1 x.2 ∧ MO (nx (onceC F c 0 99 s p)) x ∧ (∀ s' r, onceC F c 0 99 s p = .ok (s', r) → DQM s' x.2 ∧ g_i x.2 101 20 = g_i τ1 101 20) := by
  have hl := lw_le F hp
  obtain ⟨a1, b1, b2, b3, b4, ⟨M, g1, g2, g3⟩, b6⟩ := hD
  obtain ⟨τ2, e2, u2, c2, t21, t31⟩ := mpre (kd := 2) hC g1 (by decide) g2 e23
  unfold f_X11_takeQuay_J203
  show ∃ x, (if (2 : Int32) = 0 then _ else if (2 : Int32) = 1 then _ else (if (2 : Int32) = 4 then some 50 else some 99).bind (fun y13 => f_X11_takeQuay_J267 nmM (2 - 2) 1 y13 (s_i (s_i τ1 101 21 (g_i τ1 101 23)) 101 31 ((g_i (s_i τ1 101 21 (g_i τ1 101 23)) 101 31) ||| ((1 : Int32) <<< (nI 2 &&& 31)))))).bind (fun x => f_X11_takeQuay_J270 nmM x.1 x.2) = some x ∧ _
  rw [e2, if_neg (by decide), if_neg (by decide), if_neg (by decide), bnd]
  obtain ⟨⟨f3, τ3⟩, e3, u3, m3, o3⟩ := mintoR (nm := jn nmM [0, 1, 2, 3, 4, 5, 6, 7, 8, 9, 10, 11, 12, 13, 14, 15, 16, 17, 18, 19, 20, 21, 22, 23, 24, 25, 26, 11]) (N := 3) (at' := 0) (cell := 112) (lo := 1) (hi := 99) (fun _ _ _ => rfl) rfl rfl (by decide) (by omega) (by omega) c2 hl.2 t21
  have eJ : f_X11_takeQuay_J267 nmM (2 - 2) 1 99 τ2 = some (f3, τ3) := by
    unfold f_X11_takeQuay_J267
    rw [show (2 : Int32) - 2 = nI 0 by decide, e3]; rfl
  rw [eJ, bnd]
  have c3 : MC F c τ3 := c2.cg u3 rfl (fun _ => rfl)
  obtain ⟨⟨f4, τ4⟩, e4, u4, m4, o4⟩ := mJ270 c3 m3 (fun y hy => (numP_ok (v := y.1) (r := y.2) hl.2 hy).2.2.1)
  rw [← one_en] at m4
  have ec : onceC F c 0 99 s p = bP (oneP F c 99 (lw F c p)) (fun y => .ok ((s.1, udF s.2 0 y.1), y.2)) := by
    unfold onceC fullP
    rw [if_neg (by simp [hn])]; rfl
  rw [ec]
  refine ⟨_, e4, ux_tr (ux_tr (ux_w u2 (fun a k hk => ?_)) (wqmi u3)) (wqm u4), nx_bM (fun _ => rfl) m4, fun s' r h => ?_⟩
  · unfold wQM at hk
    obtain ⟨k1, k2⟩ := Bool.or_eq_false_iff.mp hk
    have k1 := of_decide_eq_false k1
    have k2 := of_decide_eq_false k2
    exact decide_eq_false (fun e => by omega)
  · obtain ⟨⟨v, r'⟩, hy, h⟩ := bP_ok h
    have h := Except.ok.inj h
    have h1 : (s.1, udF s.2 0 v) = s' := congrArg Prod.fst h
    subst h1
    have o4 := o4 _ hy
    obtain ⟨t1, h5, -, hv, -⟩ := oneP_ok hl.2 hy
    obtain ⟨-, -, w1, w2⟩ := o3 v t1 h5
    have hv0 : v ≠ 0 := fun e => by
      have := hv.1
      rw [e] at this
      exact absurd this (by decide)
    have v34 : ∀ a k, a ≠ 101 → g_i τ4 a k = g_i τ3 a k := fun a k ha => u4 a k (decide_eq_false (fun e => ha e.1))
    have m31 : g_i τ4 101 31 = nI (M ||| 2 ^ 2) := (u4 101 31 rfl).trans ((u3 101 31 rfl).trans t31)
    refine ⟨⟨a1, (u4 101 26 rfl).trans ((u3 101 26 rfl).trans ((u2 101 26 rfl).trans b1)), (u4 101 28 rfl).trans ((u3 101 28 rfl).trans ((u2 101 28 rfl).trans b2)), fun k hk => ?_, fun k hk => ?_, ⟨M ||| 2 ^ 2, or_lt g1 (by decide), m31, fun i hi => ?_⟩, fun i hi => ?_⟩, o4.trans (w1.trans (u2 101 20 rfl))⟩
    · show g_i τ4 110 k = s.1.1.2 k
      rw [v34 110 k (by decide)]
      exact (u3 110 k rfl).trans ((u2 110 k rfl).trans (b3 k hk))
    · show g_i τ4 111 k = s.1.2.2 k
      rw [v34 111 k (by decide)]
      exact (u3 111 k rfl).trans ((u2 111 k rfl).trans (b4 k hk))
    · show (M ||| 2 ^ 2).testBit (i + 2) = decide (udF s.2 0 v i ≠ 0)
      rw [Nat.testBit_or, g3 i hi, Nat.testBit_two_pow]
      by_cases hi2 : i = 0
      · subst hi2
        rw [udF_eq, decide_eq_true (show 2 = 0 + 2 by decide), Bool.or_true, decide_eq_true hv0]
      · rw [udF_ne hi2, decide_eq_false (show ¬ 2 = i + 2 by omega), Bool.or_false]
    · show g_i τ4 112 i = bv (udF s.2 0 v) i
      rw [v34 112 i (by decide)]
      by_cases hi2 : i = 0
      · subst hi2
        unfold bv
        rw [udF_eq, if_neg hv0]; exact w2
      · unfold bv
        rw [udF_ne hi2]
        exact (wmo (by decide) u3 hi2).trans ((u2 112 i rfl).trans (b6 i hi))
theorem monce1 {F : Nat → Int32} {c p : Nat} {s : QS} {τ1 : jS} (hC : MC F c τ1) (hp : p ≤ c) (e23 : g_i τ1 101 23 = nI (lw F c p)) (hD : DQM s τ1) (hn : s.2 1 = 0) : ∃ x, f_X11_takeQuay_J203 nmM 3 τ1 = some x ∧ ux wQM τ1 x.2 ∧ MO (nx (onceC F c 1 99 s p)) x ∧ (∀ s' r, onceC F c 1 99 s p = .ok (s', r) → DQM s' x.2 ∧ g_i x.2 101 20 = g_i τ1 101 20) := by
  have hl := lw_le F hp
  obtain ⟨a1, b1, b2, b3, b4, ⟨M, g1, g2, g3⟩, b6⟩ := hD
  obtain ⟨τ2, e2, u2, c2, t21, t31⟩ := mpre (kd := 3) hC g1 (by decide) g2 e23
  unfold f_X11_takeQuay_J203
  show ∃ x, (if (3 : Int32) = 0 then _ else if (3 : Int32) = 1 then _ else (if (3 : Int32) = 4 then some 50 else some 99).bind (fun y13 => f_X11_takeQuay_J267 nmM (3 - 2) 1 y13 (s_i (s_i τ1 101 21 (g_i τ1 101 23)) 101 31 ((g_i (s_i τ1 101 21 (g_i τ1 101 23)) 101 31) ||| ((1 : Int32) <<< (nI 3 &&& 31)))))).bind (fun x => f_X11_takeQuay_J270 nmM x.1 x.2) = some x ∧ _
  rw [e2, if_neg (by decide), if_neg (by decide), if_neg (by decide), bnd]
  obtain ⟨⟨f3, τ3⟩, e3, u3, m3, o3⟩ := mintoR (nm := jn nmM [0, 1, 2, 3, 4, 5, 6, 7, 8, 9, 10, 11, 12, 13, 14, 15, 16, 17, 18, 19, 20, 21, 22, 23, 24, 25, 26, 11]) (N := 3) (at' := 1) (cell := 112) (lo := 1) (hi := 99) (fun _ _ _ => rfl) rfl rfl (by decide) (by omega) (by omega) c2 hl.2 t21
  have eJ : f_X11_takeQuay_J267 nmM (3 - 2) 1 99 τ2 = some (f3, τ3) := by
    unfold f_X11_takeQuay_J267
    rw [show (3 : Int32) - 2 = nI 1 by decide, e3]; rfl
  rw [eJ, bnd]
  have c3 : MC F c τ3 := c2.cg u3 rfl (fun _ => rfl)
  obtain ⟨⟨f4, τ4⟩, e4, u4, m4, o4⟩ := mJ270 c3 m3 (fun y hy => (numP_ok (v := y.1) (r := y.2) hl.2 hy).2.2.1)
  rw [← one_en] at m4
  have ec : onceC F c 1 99 s p = bP (oneP F c 99 (lw F c p)) (fun y => .ok ((s.1, udF s.2 1 y.1), y.2)) := by
    unfold onceC fullP
    rw [if_neg (by simp [hn])]; rfl
  rw [ec]
  refine ⟨_, e4, ux_tr (ux_tr (ux_w u2 (fun a k hk => ?_)) (wqmi u3)) (wqm u4), nx_bM (fun _ => rfl) m4, fun s' r h => ?_⟩
  · unfold wQM at hk
    obtain ⟨k1, k2⟩ := Bool.or_eq_false_iff.mp hk
    have k1 := of_decide_eq_false k1
    have k2 := of_decide_eq_false k2
    exact decide_eq_false (fun e => by omega)
  · obtain ⟨⟨v, r'⟩, hy, h⟩ := bP_ok h
    have h := Except.ok.inj h
    have h1 : (s.1, udF s.2 1 v) = s' := congrArg Prod.fst h
    subst h1
    have o4 := o4 _ hy
    obtain ⟨t1, h5, -, hv, -⟩ := oneP_ok hl.2 hy
    obtain ⟨-, -, w1, w2⟩ := o3 v t1 h5
    have hv0 : v ≠ 0 := fun e => by
      have := hv.1
      rw [e] at this
      exact absurd this (by decide)
    have v34 : ∀ a k, a ≠ 101 → g_i τ4 a k = g_i τ3 a k := fun a k ha => u4 a k (decide_eq_false (fun e => ha e.1))
    have m31 : g_i τ4 101 31 = nI (M ||| 2 ^ 3) := (u4 101 31 rfl).trans ((u3 101 31 rfl).trans t31)
    refine ⟨⟨a1, (u4 101 26 rfl).trans ((u3 101 26 rfl).trans ((u2 101 26 rfl).trans b1)), (u4 101 28 rfl).trans ((u3 101 28 rfl).trans ((u2 101 28 rfl).trans b2)), fun k hk => ?_, fun k hk => ?_, ⟨M ||| 2 ^ 3, or_lt g1 (by decide), m31, fun i hi => ?_⟩, fun i hi => ?_⟩, o4.trans (w1.trans (u2 101 20 rfl))⟩
    · show g_i τ4 110 k = s.1.1.2 k
      rw [v34 110 k (by decide)]
      exact (u3 110 k rfl).trans ((u2 110 k rfl).trans (b3 k hk))
    · show g_i τ4 111 k = s.1.2.2 k
      rw [v34 111 k (by decide)]
      exact (u3 111 k rfl).trans ((u2 111 k rfl).trans (b4 k hk))
    · show (M ||| 2 ^ 3).testBit (i + 2) = decide (udF s.2 1 v i ≠ 0)
      rw [Nat.testBit_or, g3 i hi, Nat.testBit_two_pow]
      by_cases hi2 : i = 1
      · subst hi2
        rw [udF_eq, decide_eq_true (show 3 = 1 + 2 by decide), Bool.or_true, decide_eq_true hv0]
      · rw [udF_ne hi2, decide_eq_false (show ¬ 3 = i + 2 by omega), Bool.or_false]
    · show g_i τ4 112 i = bv (udF s.2 1 v) i
      rw [v34 112 i (by decide)]
      by_cases hi2 : i = 1
      · subst hi2
        unfold bv
        rw [udF_eq, if_neg hv0]; exact w2
      · unfold bv
        rw [udF_ne hi2]
        exact (wmo (by decide) u3 hi2).trans ((u2 112 i rfl).trans (b6 i hi))
theorem monce2 {F : Nat → Int32} {c p : Nat} {s : QS} {τ1 : jS} (hC : MC F c τ1) (hp : p ≤ c) (e23 : g_i τ1 101 23 = nI (lw F c p)) (hD : DQM s τ1) (hn : s.2 2 = 0) : ∃ x, f_X11_takeQuay_J203 nmM 4 τ1 = some x ∧ ux wQM τ1 x.2 ∧ MO (nx (onceC F c 2 50 s p)) x ∧ (∀ s' r, onceC F c 2 50 s p = .ok (s', r) → DQM s' x.2 ∧ g_i x.2 101 20 = g_i τ1 101 20) := by
  have hl := lw_le F hp
  obtain ⟨a1, b1, b2, b3, b4, ⟨M, g1, g2, g3⟩, b6⟩ := hD
  obtain ⟨τ2, e2, u2, c2, t21, t31⟩ := mpre (kd := 4) hC g1 (by decide) g2 e23
  unfold f_X11_takeQuay_J203
  show ∃ x, (if (4 : Int32) = 0 then _ else if (4 : Int32) = 1 then _ else (if (4 : Int32) = 4 then some 50 else some 99).bind (fun y13 => f_X11_takeQuay_J267 nmM (4 - 2) 1 y13 (s_i (s_i τ1 101 21 (g_i τ1 101 23)) 101 31 ((g_i (s_i τ1 101 21 (g_i τ1 101 23)) 101 31) ||| ((1 : Int32) <<< (nI 4 &&& 31)))))).bind (fun x => f_X11_takeQuay_J270 nmM x.1 x.2) = some x ∧ _
  rw [e2, if_neg (by decide), if_neg (by decide), if_pos (by decide), bnd]
  obtain ⟨⟨f3, τ3⟩, e3, u3, m3, o3⟩ := mintoR (nm := jn nmM [0, 1, 2, 3, 4, 5, 6, 7, 8, 9, 10, 11, 12, 13, 14, 15, 16, 17, 18, 19, 20, 21, 22, 23, 24, 25, 26, 11]) (N := 3) (at' := 2) (cell := 112) (lo := 1) (hi := 50) (fun _ _ _ => rfl) rfl rfl (by decide) (by omega) (by omega) c2 hl.2 t21
  have eJ : f_X11_takeQuay_J267 nmM (4 - 2) 1 50 τ2 = some (f3, τ3) := by
    unfold f_X11_takeQuay_J267
    rw [show (4 : Int32) - 2 = nI 2 by decide, e3]; rfl
  rw [eJ, bnd]
  have c3 : MC F c τ3 := c2.cg u3 rfl (fun _ => rfl)
  obtain ⟨⟨f4, τ4⟩, e4, u4, m4, o4⟩ := mJ270 c3 m3 (fun y hy => (numP_ok (v := y.1) (r := y.2) hl.2 hy).2.2.1)
  rw [← one_en] at m4
  have ec : onceC F c 2 50 s p = bP (oneP F c 50 (lw F c p)) (fun y => .ok ((s.1, udF s.2 2 y.1), y.2)) := by
    unfold onceC fullP
    rw [if_neg (by simp [hn])]; rfl
  rw [ec]
  refine ⟨_, e4, ux_tr (ux_tr (ux_w u2 (fun a k hk => ?_)) (wqmi u3)) (wqm u4), nx_bM (fun _ => rfl) m4, fun s' r h => ?_⟩
  · unfold wQM at hk
    obtain ⟨k1, k2⟩ := Bool.or_eq_false_iff.mp hk
    have k1 := of_decide_eq_false k1
    have k2 := of_decide_eq_false k2
    exact decide_eq_false (fun e => by omega)
  · obtain ⟨⟨v, r'⟩, hy, h⟩ := bP_ok h
    have h := Except.ok.inj h
    have h1 : (s.1, udF s.2 2 v) = s' := congrArg Prod.fst h
    subst h1
    have o4 := o4 _ hy
    obtain ⟨t1, h5, -, hv, -⟩ := oneP_ok hl.2 hy
    obtain ⟨-, -, w1, w2⟩ := o3 v t1 h5
    have hv0 : v ≠ 0 := fun e => by
      have := hv.1
      rw [e] at this
      exact absurd this (by decide)
    have v34 : ∀ a k, a ≠ 101 → g_i τ4 a k = g_i τ3 a k := fun a k ha => u4 a k (decide_eq_false (fun e => ha e.1))
    have m31 : g_i τ4 101 31 = nI (M ||| 2 ^ 4) := (u4 101 31 rfl).trans ((u3 101 31 rfl).trans t31)
    refine ⟨⟨a1, (u4 101 26 rfl).trans ((u3 101 26 rfl).trans ((u2 101 26 rfl).trans b1)), (u4 101 28 rfl).trans ((u3 101 28 rfl).trans ((u2 101 28 rfl).trans b2)), fun k hk => ?_, fun k hk => ?_, ⟨M ||| 2 ^ 4, or_lt g1 (by decide), m31, fun i hi => ?_⟩, fun i hi => ?_⟩, o4.trans (w1.trans (u2 101 20 rfl))⟩
    · show g_i τ4 110 k = s.1.1.2 k
      rw [v34 110 k (by decide)]
      exact (u3 110 k rfl).trans ((u2 110 k rfl).trans (b3 k hk))
    · show g_i τ4 111 k = s.1.2.2 k
      rw [v34 111 k (by decide)]
      exact (u3 111 k rfl).trans ((u2 111 k rfl).trans (b4 k hk))
    · show (M ||| 2 ^ 4).testBit (i + 2) = decide (udF s.2 2 v i ≠ 0)
      rw [Nat.testBit_or, g3 i hi, Nat.testBit_two_pow]
      by_cases hi2 : i = 2
      · subst hi2
        rw [udF_eq, decide_eq_true (show 4 = 2 + 2 by decide), Bool.or_true, decide_eq_true hv0]
      · rw [udF_ne hi2, decide_eq_false (show ¬ 4 = i + 2 by omega), Bool.or_false]
    · show g_i τ4 112 i = bv (udF s.2 2 v) i
      rw [v34 112 i (by decide)]
      by_cases hi2 : i = 2
      · subst hi2
        unfold bv
        rw [udF_eq, if_neg hv0]; exact w2
      · unfold bv
        rw [udF_ne hi2]
        exact (wmo (by decide) u3 hi2).trans ((u2 112 i rfl).trans (b6 i hi))
theorem mquayC {F : Nat → Int32} {c p : Nat} {s : QS} {σ : jS} (hC : MC F c σ) (hp : p < c) (hs : sk F c p = p) (e21 : g_i σ 101 21 = nI p) (hD : DQM s σ) : ∃ x, f_X11_takeQuay nmM σ = some x ∧ ux wQM σ x.2 ∧ MO (nx (quayP F c s p)) x ∧ (∀ s' r, quayP F c s p = .ok (s', r) → DQM s' x.2 ∧ g_i x.2 101 20 = g_i σ 101 20) := by
  have hpc : p ≤ c := by omega
  obtain ⟨τ1, e1, u1, a21, a23, a22, a20⟩ := mwordR hC hpc e21
  rw [hs] at a21 a23 a22
  have c1 : MC F c τ1 := hC.cg u1 rfl (fun _ => rfl)
  have D1 : DQM s τ1 := hD.cg u1 rfl rfl rfl (fun _ => rfl) (fun _ => rfl) (fun _ => rfl)
  have a22' : g_l τ1 (nmM 0) 22 = cdF F (lw F c p - p) p 0 := a22
  have a21' : g_i τ1 (nmM 0) 21 = nI p := a21
  have k0 := misW (F := F) (K := 237292) hpc (show 0 < 7 by decide) (by decide +kernel)
  have k1 := misW (F := F) (K := 277693020) hpc (show 1 < 7 by decide) (by decide +kernel)
  have k2 := misW (F := F) (K := 55175) hpc (show 2 < 7 by decide) (by decide +kernel)
  have k3 := misW (F := F) (K := 7218793) hpc (show 3 < 7 by decide) (by decide +kernel)
  have k4 := misW (F := F) (K := 247702) hpc (show 4 < 7 by decide) (by decide +kernel)
  have fin : ∀ {A : Option (Int32 × jS)} {R : PE (QS × Nat)}, (∃ x, A = some x ∧ ux wQM τ1 x.2 ∧ MO (nx R) x ∧ (∀ s' r, R = .ok (s', r) → DQM s' x.2 ∧ g_i x.2 101 20 = g_i τ1 101 20)) → ∃ x, A = some x ∧ ux wQM σ x.2 ∧ MO (nx R) x ∧ (∀ s' r, R = .ok (s', r) → DQM s' x.2 ∧ g_i x.2 101 20 = g_i σ 101 20) := fun ⟨x, a, b, d, e⟩ => ⟨x, a, ux_tr (wqm u1) b, d, fun s' r h => ⟨(e s' r h).1, (e s' r h).2.trans a20⟩⟩
  have e3 : ∀ {R : PE (QS × Nat)}, R = .error (3, p) → ∃ x, f_X11_takeQuay_J193 nmM τ1 = some x ∧ ux wQM τ1 x.2 ∧ MO (nx R) x ∧ (∀ s' r, R = .ok (s', r) → DQM s' x.2 ∧ g_i x.2 101 20 = g_i τ1 101 20) := fun {R} hR => by
    unfold f_X11_takeQuay_J193
    rw [a21', hR]
    exact ⟨_, rfl, wqm (uxM (ux_refl _ _) (by omega) (by omega)), ⟨n14_3, rfl, s_i_eq _ _ _ _⟩, fun s' r h => by cases h⟩
  have hD1 := D1
  obtain ⟨⟨z1, z2⟩, z3, z4, -, -, ⟨M, g1, g2, g3⟩, -⟩ := D1
  have z3' : g_i τ1 (nmM 0) 26 = nI s.1.1.1 := z3
  have z4' : g_i τ1 (nmM 0) 28 = nI s.1.2.1 := z4
  have g2' : g_i τ1 (nmM 0) 31 = nI M := g2
  have hb : ∀ k, k < 5 → f_X11_has (nI M) (nI k) = some (if M.testBit k = true then 1 else 0) := fun k hk => by
    unfold f_X11_has
    have := has_bit M g1 k hk
    by_cases h : M.testBit k = true
    · rw [if_pos (this.mpr h), if_pos h]
    · rw [if_neg (fun e => h (this.mp e)), if_neg h]
  unfold f_X11_takeQuay quayP
  rw [e1, bnd, cd_lamp, bnd, a22']
  by_cases w0 : wdB F p (lw F c p) (rvw 0) = true
  · rw [if_pos (k0.mpr w0), if_pos w0, bnd]
    apply fin
    unfold f_X11_takeQuay_J135
    rw [if_pos (by decide), if_pos rfl, z3']
    by_cases hn : s.1.1.1 = 10
    · rw [if_pos (by rw [hn]; rfl)]
      refine e3 ?_
      unfold lampC fullP
      rw [if_pos (decide_eq_true hn)]; rfl
    · rw [if_neg (fun e => hn (by
        have e : nI s.1.1.1 = nI 10 := e
        rw [nI_inj (by omega) (by omega)] at e; exact e))]
      unfold f_X11_takeQuay_J163
      rw [if_neg (by decide)]
      unfold f_X11_takeQuay_J177
      rw [if_pos (by decide)]
      exact mlampQ c1 hpc a23 hD1 hn
  rw [if_neg (fun e => w0 (k0.mp e)), if_neg w0, cd_sing, bnd, cd_singe, bnd, cd_singer, bnd]
  by_cases w1 : wdB F p (lw F c p) (rvw 1) = true
  · rw [if_pos (k1.mpr w1), if_pos w1, bnd]
    apply fin
    unfold f_X11_takeQuay_J135
    rw [if_pos (by decide), if_neg i10]
    unfold f_X11_takeQuay_J163
    rw [if_pos rfl, z4']
    by_cases hn : s.1.2.1 = 8
    · rw [if_pos (by rw [hn]; rfl)]
      refine e3 ?_
      unfold singC fullP
      rw [if_pos (decide_eq_true hn)]; rfl
    · rw [if_neg (fun e => hn (by
        have e : nI s.1.2.1 = nI 8 := e
        rw [nI_inj (by omega) (by omega)] at e; exact e))]
      unfold f_X11_takeQuay_J177
      rw [if_pos (by decide)]
      exact msingQ c1 hpc a23 hD1 hn
  rw [if_neg (fun e => w1 (k1.mp e)), if_neg w1, cd_burn, bnd]
  by_cases w2 : wdB F p (lw F c p) (rvw 2) = true
  · rw [if_pos (k2.mpr w2), if_pos w2, bnd]
    apply fin
    unfold f_X11_takeQuay_J135
    rw [if_pos (by decide), if_neg (by decide)]
    unfold f_X11_takeQuay_J163
    rw [if_neg (by decide)]
    unfold f_X11_takeQuay_J177
    rw [if_neg (by decide), g2', show (2 : Int32) = nI 2 from rfl, hb 2 (by decide), bnd, show M.testBit 2 = decide (s.2 0 ≠ 0) from g3 0 (by decide)]
    by_cases hn : s.2 0 = 0
    · rw [show (if decide (s.2 0 ≠ 0) = true then (1 : Int32) else 0) = 0 from if_neg (by simp [hn]), if_pos rfl]
      exact monce0 c1 hpc a23 hD1 hn
    · rw [show (if decide (s.2 0 ≠ 0) = true then (1 : Int32) else 0) = 1 from if_pos (decide_eq_true hn), if_neg i10]
      refine e3 ?_
      unfold onceC fullP
      rw [if_pos (decide_eq_true hn)]; rfl
  rw [if_neg (fun e => w2 (k2.mp e)), if_neg w2, cd_moth, bnd, cd_moths, bnd]
  by_cases w3 : wdB F p (lw F c p) (rvw 3) = true
  · rw [if_pos (k3.mpr w3), if_pos w3, bnd]
    apply fin
    unfold f_X11_takeQuay_J135
    rw [if_pos (by decide), if_neg (by decide)]
    unfold f_X11_takeQuay_J163
    rw [if_neg (by decide)]
    unfold f_X11_takeQuay_J177
    rw [if_neg (by decide), g2', show (3 : Int32) = nI 3 from rfl, hb 3 (by decide), bnd, show M.testBit 3 = decide (s.2 1 ≠ 0) from g3 1 (by decide)]
    by_cases hn : s.2 1 = 0
    · rw [show (if decide (s.2 1 ≠ 0) = true then (1 : Int32) else 0) = 0 from if_neg (by simp [hn]), if_pos rfl]
      exact monce1 c1 hpc a23 hD1 hn
    · rw [show (if decide (s.2 1 ≠ 0) = true then (1 : Int32) else 0) = 1 from if_pos (decide_eq_true hn), if_neg i10]
      refine e3 ?_
      unfold onceC fullP
      rw [if_pos (decide_eq_true hn)]; rfl
  rw [if_neg (fun e => w3 (k3.mp e)), if_neg w3, cd_loud, bnd]
  by_cases w4 : wdB F p (lw F c p) (rvw 4) = true
  · rw [if_pos (k4.mpr w4), if_pos w4, bnd]
    apply fin
    unfold f_X11_takeQuay_J135
    rw [if_pos (by decide), if_neg (by decide)]
    unfold f_X11_takeQuay_J163
    rw [if_neg (by decide)]
    unfold f_X11_takeQuay_J177
    rw [if_neg (by decide), g2', show (4 : Int32) = nI 4 from rfl, hb 4 (by decide), bnd, show M.testBit 4 = decide (s.2 2 ≠ 0) from g3 2 (by decide)]
    by_cases hn : s.2 2 = 0
    · rw [show (if decide (s.2 2 ≠ 0) = true then (1 : Int32) else 0) = 0 from if_neg (by simp [hn]), if_pos rfl]
      exact monce2 c1 hpc a23 hD1 hn
    · rw [show (if decide (s.2 2 ≠ 0) = true then (1 : Int32) else 0) = 1 from if_pos (decide_eq_true hn), if_neg i10]
      refine e3 ?_
      unfold onceC fullP
      rw [if_pos (decide_eq_true hn)]; rfl
  rw [if_neg (fun e => w4 (k4.mp e)), if_neg w4, bnd]
  unfold f_X11_takeQuay_J135
  rw [if_neg (by decide), a21']
  exact ⟨_, rfl, wqm (uxM u1 (by omega) (by omega)), ⟨n14_1, rfl, s_i_eq _ _ _ _⟩, fun s' r h => by cases h⟩
