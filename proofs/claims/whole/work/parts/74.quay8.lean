/-! quay: both -/
theorem bv_rg {o : Nat → Int32} {i : Nat} {hi : Int} (hi' : i < 3) (hh : 50 ≤ hi) (h : rg (o i) 0 hi) : rg (bv o i) 1 hi := by
  unfold bv
  by_cases h0 : o i = 0
  · rw [if_pos h0]
    have : i = 0 ∨ i = 1 ∨ i = 2 := by omega
    rcases this with rfl | rfl | rfl
    · show (1 : Int) ≤ (20 : Int32).toInt ∧ (20 : Int32).toInt ≤ hi
      have : (20 : Int32).toInt = 20 := by decide
      rw [this]; omega
    · show (1 : Int) ≤ (30 : Int32).toInt ∧ (30 : Int32).toInt ≤ hi
      have : (30 : Int32).toInt = 30 := by decide
      rw [this]; omega
    · show (1 : Int) ≤ (5 : Int32).toInt ∧ (5 : Int32).toInt ≤ hi
      have : (5 : Int32).toInt = 5 := by decide
      rw [this]; omega
  · rw [if_neg h0]
    refine ⟨?_, h.2⟩
    have h1 := h.1
    by_cases hz : (o i).toInt = 0
    · exact absurd (Int32.toInt_inj.mp hz) h0
    · omega
theorem st_quay : sII Rel (fun σ => f_X10_quay nmX σ) (fun σ => f_X11_quay nmM σ) := by
  rintro σ ⟨n, m, hSi, hN, hSo, hD, hSg, hL, hI0, hI1, ⟨c, hc, ⟨c1, c2⟩, ct⟩, hF, hTo⟩
  have hC : XC (g_i σ 2) c σ := ⟨hc, c1, fun _ _ => rfl⟩
  obtain ⟨r, τ, e1, t1, ok1, er1⟩ := xquay hC
  have hFn : ∀ k, k < c → ¬ g_i σ 2 k < 0 := fun k hk h => by
    have h := Int32.lt_iff_toInt_lt.mp h
    have h : (g_i σ 2 k).toInt < 0 := h
    have := (ct k hk).1.1
    omega
  cases hr : runP (quayP (g_i σ 2) c) (g_i σ 2) c c q0S 0 with
  | error e =>
    obtain ⟨u1, -, r1, f1⟩ := er1 e hr
    have hM : MC (g_i σ 2) c τ := ⟨hc, (u1 101 19 rfl).trans c2, fun k hk => (u1 109 k rfl).trans (ct k hk).2⟩
    obtain ⟨r', υ, e2, t2, ok2, er2⟩ := mquay hM hFn
    obtain ⟨u2, r2, f2⟩ := er2 e hr
    have u := ux_trans u1 u2
    refine ⟨r, τ, υ, e1, ?_, n, m, ?_, ?_, ?_, ?_, ?_, ?_, ?_, ?_, ?_, ?_, ?_⟩
    · rw [r1, ← r2]; exact e2
    · exact RSite.cg u ⟨fun _ => rfl, fun _ => rfl, fun _ => rfl, fun _ => rfl, fun _ => rfl, fun _ => rfl, fun _ => rfl, fun _ => rfl, fun _ => rfl, fun _ => rfl, fun _ => rfl, fun _ => rfl, fun _ => rfl, fun _ => rfl, fun _ => rfl, fun _ => rfl, fun _ => rfl, rfl, rfl, rfl, rfl, rfl⟩ (fun l _ => ⟨rfl, rfl, rfl⟩) hSi
    · exact RNow.cg u ⟨fun _ => rfl, fun _ => rfl, fun _ => rfl, fun _ => rfl, fun _ => rfl, fun _ => rfl, fun _ => rfl, rfl, rfl, rfl, rfl, rfl, rfl, rfl, rfl⟩ (fun _ _ => rfl) hN
    · exact RSongs.cg u ⟨fun _ => rfl, fun _ => rfl, fun _ => rfl, fun _ => rfl, fun _ => rfl, fun _ => rfl, fun _ => rfl, rfl⟩ hSo
    · exact RDays.cg u ⟨fun _ => rfl, fun _ => rfl, fun _ => rfl, rfl⟩ hD
    · exact RSig.cg u ⟨fun _ => rfl, fun _ => rfl, fun _ => rfl, rfl⟩ hSg
    · exact RLog.cg u ⟨fun _ => rfl, fun _ => rfl, fun _ => rfl, rfl⟩ hL
    · exact RImg.cg u ⟨fun _ => rfl, fun _ => rfl, fun _ => rfl, fun _ => rfl, fun _ => rfl, fun _ => rfl, fun _ => rfl⟩ hI0
    · exact RImg.cg u ⟨fun _ => rfl, fun _ => rfl, fun _ => rfl, fun _ => rfl, fun _ => rfl, fun _ => rfl, fun _ => rfl⟩ hI1
    · exact ⟨0, by omega, ⟨(u2 1 1 rfl).trans t1, t2⟩, fun k hk => absurd hk (Nat.not_lt_zero k)⟩
    · exact f2.trans (f1.symm.trans (u2 30 5 rfl).symm)
    · exact RTour.cg u ⟨fun _ => rfl, fun _ => rfl, fun _ => rfl, fun _ => rfl, fun _ => rfl, fun _ => rfl, fun _ => rfl, rfl, rfl⟩ hTo
  | ok s =>
    obtain ⟨u1, r1, f1, ⟨υ0, ⟨⟨hn, hm⟩, -, -, hl, hs, o0, o1, o2⟩, y1, y2, y3, y4, y5, y6⟩, v1, ⟨v2, v3, v4⟩, ⟨v5, v6, v7, v8, v9⟩, v10, v11, v12⟩ := ok1 s hr
    have hM : MC (g_i σ 2) c τ := ⟨hc, (u1 101 19 rfl).trans c2, fun k hk => (u1 109 k rfl).trans (ct k hk).2⟩
    obtain ⟨r', υ, e2, t2, ok2, er2⟩ := mquay hM hFn
    obtain ⟨u2, r2, f2, ⟨w0, w8⟩, wl, ws, ⟨w5, w6, w7⟩, ⟨w10, w38, w47, w15, w16, wk0, wk1⟩, wo, w14⟩ := ok2 s hr
    have u := ux_trans u1 u2
    have lo : ∀ a k, a ≤ 100 → g_i υ a k = g_i τ a k := fun a k ha => u2 a k (by
      show ((( decide (a = 101 ∧ 20 ≤ k ∧ k ≤ 25) || decide ((a = 101 ∧ (k = 26 ∨ k = 28 ∨ k = 31)) ∨ (110 ≤ a ∧ a ≤ 112))) || decide (a = 101 ∧ k = 19)) || decide ((a = 101 ∧ (k = 0 ∨ k = 5 ∨ k = 6 ∨ k = 7 ∨ k = 8 ∨ k = 10 ∨ k = 14 ∨ k = 15 ∨ k = 16 ∨ k = 38 ∨ k = 47)) ∨ (102 ≤ a ∧ a ≤ 106) ∨ a = 127)) = false
      rw [decide_eq_false (by omega), decide_eq_false (by omega), decide_eq_false (by omega), decide_eq_false (by omega)]; rfl)
    have hL5 : ∀ l, l < s.1.1.1 → (rg (g_i υ 33 l) 0 49 ∧ g_i υ 102 (4 * l) = g_i υ 33 l) ∧ (rg (g_i υ 35 l) 0 63 ∧ g_i υ 102 (4 * l + 1) = g_i υ 35 l) ∧ (rg (g_i υ 37 l) 0 9 ∧ g_i υ 102 (4 * l + 2) = g_i υ 37 l) ∧ (rg (g_i υ 39 l) 0 5 ∧ g_i υ 102 (4 * l + 3) = g_i υ 39 l) := fun l hl' => by
      obtain ⟨p1, p2, p3, p4⟩ := y2 l hl'
      obtain ⟨⟨q1, q1'⟩, ⟨q2, q2'⟩, ⟨q3, q3'⟩, ⟨q4, q4'⟩⟩ := hl l hl'
      rw [lo 33 l (by omega), lo 35 l (by omega), lo 37 l (by omega), lo 39 l (by omega), p1, p2, p3, p4, q1, q2, q3, q4, wl (4 * l) (by omega), wl (4 * l + 1) (by omega), wl (4 * l + 2) (by omega), wl (4 * l + 3) (by omega)]
      exact ⟨⟨q1', rfl⟩, ⟨q2', rfl⟩, ⟨q3', rfl⟩, ⟨q4', rfl⟩⟩
    refine ⟨r, τ, υ, e1, ?_, s.1.1.1, s.1.2.1, ⟨⟨hn, hm⟩, ?_, ?_, ?_, ?_, ?_, ?_, ?_⟩, ?_, ?_, ?_, ?_, ?_, ?_, ?_, ?_, ?_, ?_⟩
    · rw [r1, ← r2]; exact e2
    · exact ⟨(lo 32 1 (by omega)).trans y1.1, (lo 34 1 (by omega)).trans y1.2.1, (lo 36 1 (by omega)).trans y1.2.2.1, (lo 38 1 (by omega)).trans y1.2.2.2.1, w0⟩
    · exact ⟨(lo 40 1 (by omega)).trans y1.2.2.2.2.1, (lo 42 1 (by omega)).trans y1.2.2.2.2.2.1, (lo 44 1 (by omega)).trans y1.2.2.2.2.2.2.1, (lo 46 1 (by omega)).trans y1.2.2.2.2.2.2.2, w8⟩
    · rw [lo 31 8 (by omega), y4, w5]; exact ⟨bv_rg (by decide) (by omega) o0.2, rfl⟩
    · rw [lo 31 9 (by omega), y5, w6]; exact ⟨bv_rg (by decide) (by omega) o1.2, rfl⟩
    · rw [lo 31 10 (by omega), y6, w7]; exact ⟨bv_rg (by decide) (by omega) o2.2, rfl⟩
    · intro l hl'
      obtain ⟨p1, p2, p3, p4⟩ := hL5 l hl'
      exact ⟨p1, p3, p4⟩
    · intro l hl'
      obtain ⟨p1, p2, p3, p4⟩ := y3 l hl'
      obtain ⟨⟨q1, q1'⟩, ⟨q2, q2'⟩, ⟨q3, q3'⟩, ⟨q4, q4'⟩⟩ := hs l hl'
      rw [lo 41 l (by omega), lo 43 l (by omega), lo 45 l (by omega), lo 47 l (by omega), p1, p2, p3, p4, q1, q2, q3, q4, ws (4 * l) (by omega), ws (4 * l + 1) (by omega), ws (4 * l + 2) (by omega), ws (4 * l + 3) (by omega)]
      exact ⟨⟨q1', rfl⟩, ⟨q2', rfl⟩, ⟨q3', rfl⟩, ⟨q4', rfl⟩⟩
    · have e58 : ∀ l, l < s.1.1.1 → g_i υ 58 l = g_i υ 35 l := fun l hl' => by
        rw [lo 58 l (by omega), (v1 l (by omega)).1, if_pos hl', lo 35 l (by omega)]
      have e59 : ∀ l, l < 10 → g_i υ 59 l = 0 := fun l hl' => (lo 59 l (by omega)).trans (v1 l hl').2.1
      have e60 : ∀ l, l < 10 → g_i υ 60 l = 0 := fun l hl' => (lo 60 l (by omega)).trans (v1 l hl').2.2.1
      have e61 : ∀ l, l < 10 → g_i υ 61 l = -1 := fun l hl' => (lo 61 l (by omega)).trans (v1 l hl').2.2.2
      have k5 : g_i υ 57 5 = 0 := (lo 57 5 (by omega)).trans v2
      have k6 : g_i υ 57 6 = 0 := (lo 57 6 (by omega)).trans v3
      have k7 : g_i υ 57 7 = 0 := (lo 57 7 (by omega)).trans v4
      have k8 : g_i υ 57 8 = g_i σ 57 8 := u 57 8 rfl
      have k17 : g_i υ 101 17 = g_i σ 101 17 := u 101 17 rfl
      obtain ⟨⟨-, -, -, -, n8⟩, -, -, -, -, -, n17⟩ := hN
      refine ⟨⟨fun l hl' => ?_, fun l hl' => ?_, ?_, ?_, ?_⟩, fun l hl' => ?_, fun l hl' => ⟨?_, ?_, fun _ => ?_⟩, ?_, ?_, ?_, ?_⟩
      · show rg (g_i υ 58 l) 0 63
        rw [e58 l hl']; exact (hL5 l hl').2.1.1
      · show rg (g_i υ 59 l) 0 99 ∧ rg (g_i υ 60 l) 0 99 ∧ (s.1.1.1 ≤ l → g_i υ 59 l = 0)
        rw [e59 l hl', e60 l hl']; exact ⟨rg0, rg0, fun _ => rfl⟩
      · rw [k6]; exact ⟨by decide, by decide⟩
      · rw [k7]; exact ⟨by decide, by decide⟩
      · rw [k8]; exact n8
      · rw [e58 l hl']; exact (hL5 l hl').2.1.2
      · rw [e59 l hl']; exact (wo l hl').1
      · rw [e60 l hl']; exact (wo l hl').2.1
      · rw [e61 l hl']; exact (wo l hl').2.2
      · rw [k5]; exact w14
      · rw [k6]; exact w15
      · rw [k7]; exact w16
      · rw [k8, k17]; exact n17
    · exact ⟨0, by omega, ⟨(lo 49 1 (by omega)).trans v5, (lo 51 1 (by omega)).trans v6, (lo 53 1 (by omega)).trans v7, w10⟩, fun l hl => absurd hl (Nat.not_lt_zero l)⟩
    · exact RDays.cg u ⟨fun _ => rfl, fun _ => rfl, fun _ => rfl, rfl⟩ hD
    · exact ⟨0, by omega, ⟨(lo 77 1 (by omega)).trans v8, w38⟩, fun l hl => absurd hl (Nat.not_lt_zero l)⟩
    · exact ⟨0, by omega, ⟨(lo 79 1 (by omega)).trans v9, w47⟩, fun l hl => absurd hl (Nat.not_lt_zero l)⟩
    · exact Or.inl ⟨(lo 67 9 (by omega)).trans v10, wk0⟩
    · exact Or.inl ⟨(lo 72 9 (by omega)).trans v11, wk1⟩
    · exact ⟨0, by omega, ⟨(lo 1 1 (by omega)).trans t1, t2⟩, fun l hl => absurd hl (Nat.not_lt_zero l)⟩
    · exact f2.trans (f1.symm.trans (lo 30 5 (by omega)).symm)
    · exact Or.inl ((lo 91 7 (by omega)).trans v12)
