/-! round: the class's find, and both -/
theorem wn_ok {n : Nat} (σ : jS) : WOk (Wn σ n) (fun l => (g_i σ 33 l).toInt) (g_i σ 31 10).toInt n := by
  have hb : ∀ (p t l : Nat), l < n → (Wn σ n p t).testBit l = hd σ 57 p t (g_i σ 31 10).toInt l := fun p t l hl => bs_bit (f := hd σ 57 p t (g_i σ 31 10).toInt) hl
  refine ⟨fun p t => bs_lt _ _, fun p t l hl h => ?_, fun p q t l hl h hn => ?_⟩
  · rw [hb p t l hl] at h
    unfold hd at h
    have := of_decide_eq_true (Bool.and_eq_true_iff.mp h).2
    show (((p : Int) - (g_i σ 33 l).toInt).natAbs : Int) < (g_i σ 31 10).toInt
    omega
  · rw [hb q t l hl] at h
    rw [hb p t l hl]
    have hn : (((p : Int) - (g_i σ 33 l).toInt).natAbs : Int) < (g_i σ 31 10).toInt := hn
    unfold hd at h ⊢
    rw [(Bool.and_eq_true_iff.mp h).1, decide_eq_true (show (((g_i σ 33 l).toInt - (p : Int)).natAbs : Int) < (g_i σ 31 10).toInt by omega)]
    rfl
theorem lok {n m : Nat} {σ : jS} (hS : RSite n m σ) (hN : RNow n σ) : LOk σ n (fun l => (g_i σ 33 l).toInt) (fun l => (g_i σ 37 l).toInt) (fun l => (g_i σ 39 l).toInt) (g_i σ 57 6).toInt (g_i σ 31 10).toInt := by
  refine ⟨hS.1.1, hS.2.1.1, hS.2.1.2.2.1, hS.2.1.2.2.2.1, fun l hl => ?_, ⟨rfl, hN.1.2.2.1⟩, ⟨rfl, hS.2.2.2.2.2.1.1⟩⟩
  obtain ⟨z1, z2, z3⟩ := hS.2.2.2.2.2.2.1 l hl
  exact ⟨⟨rfl, z1.1⟩, ⟨rfl, z2.1⟩, ⟨rfl, z3.1⟩⟩
def wTr (a k : Nat) : Bool := decide ((62 ≤ a ∧ a ≤ 66) ∨ (81 ≤ a ∧ a ≤ 100) ∨ (114 ≤ a ∧ a ≤ 115) ∨ (117 ≤ a ∧ a ≤ 123) ∨ a = 125 ∨ (a = 101 ∧ (k = 36 ∨ k = 37)))
theorem site_tr {n m : Nat} {σ τ : jS} (u : ux wTr σ τ) (h : RSite n m σ) : RSite n m τ := RSite.cg u ⟨fun _ => rfl, fun _ => rfl, fun _ => rfl, fun _ => rfl, fun _ => rfl, fun _ => rfl, fun _ => rfl, fun _ => rfl, fun _ => rfl, fun _ => rfl, fun _ => rfl, fun _ => rfl, fun _ => rfl, fun _ => rfl, fun _ => rfl, fun _ => rfl, fun _ => rfl, rfl, rfl, rfl, rfl, rfl⟩ (fun l _ => ⟨rfl, rfl, rfl⟩) h
theorem now_tr {n : Nat} {σ τ : jS} (u : ux wTr σ τ) (h : RNow n σ) : RNow n τ := RNow.cg u ⟨fun _ => rfl, fun _ => rfl, fun _ => rfl, fun _ => rfl, fun _ => rfl, fun _ => rfl, fun _ => rfl, rfl, rfl, rfl, rfl, rfl, rfl, rfl, rfl⟩ (fun _ _ => rfl) h
theorem Wn_tr {n : Nat} {σ τ : jS} (u : ux wTr σ τ) : Wn τ n = Wn σ n := by
  rw [wn_wt, wn_wt, u 31 10 rfl]
  exact Wt_cg u (fun a k h1 h2 => decide_eq_false (by omega))
theorem xfind_c {σ : jS} (hR : Rel σ) : ∃ τ n m, f_X8_find nmT σ = some τ ∧ Rel τ ∧ ux wTr σ τ ∧ RSite n m τ ∧ RNow n τ ∧ RT (Wn τ n) (2 ^ n - 1) (g_i τ 91 6) (g_i τ 96 1) (g_i τ 97) := by
  obtain ⟨n, m, hSi, hN, hSo, hD, hSg, hL, hI0, hI1, hT, hF, hTo⟩ := id hR
  unfold f_X8_find
  rcases hTo with h0 | ⟨h1, hRT⟩
  · rw [show g_i σ (nmT 0) 7 = 0 from h0, if_pos rfl]
    obtain ⟨τ1, e1, u1, k1⟩ := listen_c (nm := jn nmT [1, 2, 9, 10, 11, 12, 13, 14, 15, 16, 17, 18, 19, 20, 21, 22, 23, 24, 25, 26, 27, 28, 29, 30]) (lo := g_i σ 31 10) ⟨rfl, rfl, rfl, rfl, rfl, ⟨⟨rfl, rfl, rfl, rfl, rfl, rfl, rfl, rfl⟩, rfl, rfl, rfl, rfl⟩⟩ (sok hSi hN.1) hSi.2.2.2.2.2.1.1
    rw [show f_X1_listen (jn nmT [1, 2, 9, 10, 11, 12, 13, 14, 15, 16, 17, 18, 19, 20, 21, 22, 23, 24, 25, 26, 27, 28, 29, 30]) (g_i σ (nmT 10) 10) σ = some τ1 from e1, bnd]
    have hK := lok hSi hN
    have hW := wn_ok (n := n) σ
    have hlo : (1 : Int) ≤ (g_i σ 31 10).toInt := hSi.2.2.2.2.2.1.1.1
    generalize hpl : (fun l => (g_i σ 33 l).toInt) = pl at hK hW
    generalize hwd : (fun l => (g_i σ 37 l).toInt) = wd at hK
    generalize hfl : (fun l => (g_i σ 39 l).toInt) = fl at hK
    generalize hfr : (g_i σ 57 6).toInt = fr at hK
    generalize hlo' : (g_i σ 31 10).toInt = lo at hK hW hlo
    have hK1 : LOk τ1 n pl wd fl fr lo := LOk.cg u1 (fun a k h1 h2 => decide_eq_false (by omega)) hK
    obtain ⟨e2, hL50, hLl⟩ := last_c siT hK1
    rw [e2, bnd, bdx, bdx]
    generalize lsP pl lo n = L at *
    have u3 : ux (fun a k => decide (a = 91 ∧ k = 5)) τ1 (s_i τ1 91 5 (nI L)) := ux_s (ux_refl _ _) rfl
    have e5 : g_i (s_i τ1 91 5 (nI L)) 91 5 = nI L := s_i_eq _ _ _ _
    show ∃ τ n m, ((lp (f_X8_find_L39 nmT) fu (g_i (s_i τ1 91 5 (nI L)) 91 5, s_i τ1 91 5 (nI L))).bind _) = some τ ∧ _
    rw [e5]
    generalize s_i τ1 91 5 (nI L) = s3 at *
    have hK3 : LOk s3 n pl wd fl fr lo := LOk.cg u3 (fun a k h1 h2 => decide_eq_false (by omega)) hK1
    obtain ⟨s11, e11, u11, hTP⟩ := places_c (W := Wn σ n) (L := L) hK3 hW hL50 hLl e5 (fun p t hp ht => (u3 82 _ rfl).trans (k1 p t hp ht))
    rw [e11, bnd]
    unfold f_X8_find_J94
    obtain ⟨s12, e12, u12, hRT⟩ := steps_c (σ := s11) hSi.1.1 hlo hW toT ((u11 91 5 rfl).trans e5) hL50 hLl hTP (fun p t hp ht => (u11 82 _ rfl).trans ((u3 82 _ rfl).trans (k1 p t hp ht)))
    rw [e12, bnd, bdx]
    have u13 : ux wTr s12 (s_i s12 91 7 1) := ux_s (ux_refl _ _) rfl
    have uA : ux wTr σ s12 := by
      refine ux_tr (ux_w u1 ?_) (ux_tr (ux_w u3 ?_) (ux_tr (ux_w u11 ?_) (ux_w u12 ?_))) <;> exact fun a k hk => decide_eq_false (fun e => (of_decide_eq_false hk) (by omega))
    have u : ux wTr σ (s_i s12 91 7 1) := ux_tr uA u13
    have hRT' : RT (Wn (s_i s12 91 7 1) n) (2 ^ n - 1) (g_i (s_i s12 91 7 1) 91 6) (g_i (s_i s12 91 7 1) 96 1) (g_i (s_i s12 91 7 1) 97) := by
      rw [Wn_tr u]
      exact hRT
    have e7 : g_i (s_i s12 91 7 1) 91 7 = 1 := s_i_eq _ _ _ _
    refine ⟨_, n, m, rfl, ?_, u, site_tr u hSi, now_tr u hN, hRT'⟩
    show Rel (s_i s12 91 7 1)
    generalize s_i s12 91 7 1 = τ at *
    refine ⟨n, m, site_tr u hSi, now_tr u hN, ?_, ?_, ?_, ?_, ?_, ?_, ?_, ?_, Or.inr ⟨e7, hRT'⟩⟩
    · exact RSongs.cg u ⟨fun _ => rfl, fun _ => rfl, fun _ => rfl, fun _ => rfl, fun _ => rfl, fun _ => rfl, fun _ => rfl, rfl⟩ hSo
    · exact RDays.cg u ⟨fun _ => rfl, fun _ => rfl, fun _ => rfl, rfl⟩ hD
    · exact RSig.cg u ⟨fun _ => rfl, fun _ => rfl, fun _ => rfl, rfl⟩ hSg
    · exact RLog.cg u ⟨fun _ => rfl, fun _ => rfl, fun _ => rfl, rfl⟩ hL
    · exact RImg.cg u ⟨fun _ => rfl, fun _ => rfl, fun _ => rfl, fun _ => rfl, fun _ => rfl, fun _ => rfl, fun _ => rfl⟩ hI0
    · exact RImg.cg u ⟨fun _ => rfl, fun _ => rfl, fun _ => rfl, fun _ => rfl, fun _ => rfl, fun _ => rfl, fun _ => rfl⟩ hI1
    · exact RText.cg u ⟨fun _ => rfl, fun _ => rfl, fun _ => rfl, rfl⟩ hT
    · exact RFault.cg u ⟨rfl, rfl⟩ hF
  · rw [show g_i σ (nmT 0) 7 = 1 from h1, if_neg i10]
    exact ⟨σ, n, m, rfl, hR, ux_refl _ _, hSi, hN, hRT⟩
/-- the reference begins -/
theorem begin_c {n m : Nat} {σ : jS} (hS : RSite n m σ) (hN : RNow n σ) : ∃ d τ, f_X11_beginRound nmM σ = some ((if d < 1000000 then nI d else -1), τ) ∧ ux wRd σ τ ∧ g_i τ 101 36 = nI 0 ∧ g_i τ 101 37 = nI 0 ∧ (∀ p t, p < 50 → t < 64 → g_i τ 115 (64 * p + t) = nI (Wn σ n p t) ∧ Wn σ n p t < 2 ^ n) ∧ TR (Wn σ n) n 0 τ ∧ d ≤ 1000000 ∧ DS (Wn σ n) (2 ^ n - 1) (100 * (2 ^ n - 1 - 0)) d 0 0 := by
  obtain ⟨τ, e, u, hw, hT⟩ := find_c hS hN
  have hp0 := Nat.two_pow_pos n
  unfold f_X11_beginRound
  rw [e, bnd, bdx, bdx]
  have u2 : ux (fun a k => decide (a = 101 ∧ (k = 36 ∨ k = 37))) τ (s_i (s_i τ 101 36 0) 101 37 0) := ux_s (ux_s (ux_refl _ _) rfl) rfl
  have e36 : g_i (s_i (s_i τ 101 36 0) 101 37 0) 101 36 = nI 0 := (s_i_k (by decide)).trans (s_i_eq _ _ _ _)
  have e37 : g_i (s_i (s_i τ 101 36 0) 101 37 0) 101 37 = nI 0 := s_i_eq _ _ _ _
  obtain ⟨d, d1, d2, d3⟩ := hT 0 (Nat.le_refl _) hp0 0 (by omega)
  refine ⟨d, s_i (s_i τ 101 36 0) 101 37 0, ?_, ux_tr u (ux_w u2 (fun a k hk => decide_eq_false (fun e => (of_decide_eq_false hk) (by omega)))), e36, e37, fun p t hp ht => by rw [u2 115 _ rfl]; exact hw p t hp ht, fun T h1 h2 p hp => ?_, d1, d3⟩
  · show gd (vp_in (nI 0) 51200) (if g_i (s_i (s_i τ 101 36 0) 101 37 0) 114 (0 : Int32).toNatClampNeg < 1000000 then gd (vp_in (nI 0) 51200) (some (g_i (s_i (s_i τ 101 36 0) 101 37 0) 114 (0 : Int32).toNatClampNeg, s_i (s_i τ 101 36 0) 101 37 0)) else some (-1, s_i (s_i τ 101 36 0) 101 37 0)) = _
    have ed : g_i (s_i (s_i τ 101 36 0) 101 37 0) 114 (0 : Int32).toNatClampNeg = nI d := (u2 114 _ rfl).trans d2
    rw [ed, gd_t (nI_in' (by omega) (by omega)), gd_t (nI_in' (by omega) (by omega))]
    by_cases h : d < 1000000
    · rw [if_pos (show nI d < (1000000 : Int32) from (nI_lt' (b := 1000000) (by omega) (by omega)).mpr h), if_pos h]
    · rw [if_neg (show ¬ nI d < (1000000 : Int32) from fun z => h ((nI_lt' (b := 1000000) (by omega) (by omega)).mp z)), if_neg h]
  · obtain ⟨d', a1, a2, a3⟩ := hT T h1 h2 p hp
    exact ⟨d', a1, (u2 114 _ rfl).trans a2, a3⟩
def wSk (a k : Nat) : Bool := decide (a = 101 ∧ (k = 36 ∨ k = 37))
theorem sk_tr {W : Nat → Nat → Nat} {n : Nat} {σ τ : jS} (u : ux wSk σ τ) (h : TR W n 0 σ) : TR W n 0 τ := fun T h1 h2 p hp => by
  obtain ⟨d, a1, a2, a3⟩ := h T h1 h2 p hp
  exact ⟨d, a1, (u 114 _ rfl).trans a2, a3⟩
/-- the reference's steps up to j -/
theorem rloop_c {W : Nat → Nat → Nat} {n K j : Nat} {st : Nat → Int32} {τ : jS} (hn : n ≤ 10) (hW : ∀ p t, p < 50 → t < 64 → g_i τ 115 (64 * p + t) = nI (W p t) ∧ W p t < 2 ^ n) (hT : TR W n 0 τ) (h36 : g_i τ 101 36 = nI 0) (h37 : g_i τ 101 37 = nI 0) (hK : K ≤ 59) (hj : j < K) (hm : MinR W (2 ^ n - 1) K 0 0) (hg : Gs W (2 ^ n - 1) st K 0 0 0) : ∃ τ', lp (f_X11_round_L36 nmM (nI j)) fu (-1, 0, τ) = some (st j, τ') ∧ ux wSk τ τ' := by
  have hp0 := Nat.two_pow_pos n
  suffices wp (lp (f_X11_round_L36 nmM (nI j)) fu (-1, 0, τ)) (fun y => y.1 = st j ∧ ux wSk τ y.2) by
    obtain ⟨⟨y1, y2⟩, e, h1, h2⟩ := this
    have h1 : y1 = st j := h1
    subst h1
    exact ⟨y2, e, h2⟩
  refine wp_up (j + 1) (fun i s => s.2.1 = nI i ∧ (∀ i', i = i' + 1 → s.1 = st i') ∧ ux wSk τ s.2.2 ∧ ∃ r p S, i + r = K ∧ g_i s.2.2 101 36 = nI S ∧ g_i s.2.2 101 37 = nI p ∧ S < 2 ^ n ∧ p < 50 ∧ MinR W (2 ^ n - 1) r p S ∧ Gs W (2 ^ n - 1) st r i p S) (i := 0) (by omega) (by omega) ⟨rfl, fun i' h => by omega, ux_refl _ _, K, 0, 0, by omega, h36, h37, hp0, by omega, hm, hg⟩ ?_
  rintro i ⟨v3, v4, ρ⟩ hi ⟨hv4, hv3, hu, r, p, S, hr, e36, e37, hS, hp, hM, hG⟩
  have hv4 : v4 = nI i := hv4
  have hu : ux wSk τ ρ := hu
  have e36 : g_i ρ 101 36 = nI S := e36
  have e37 : g_i ρ 101 37 = nI p := e37
  subst hv4
  unfold f_X11_round_L36
  show wp (if nI j < nI i then some (Sum.inr (v3, ρ)) else _) _
  refine wp_ite (fun hc => ?_) (fun hc => ?_)
  · rw [nI_lt' (by omega) (by omega)] at hc
    exact wp_some ⟨hv3 j (by omega), hu⟩
  · rw [nI_lt' (by omega) (by omega)] at hc
    cases r with
    | zero => omega
    | succ r =>
      obtain ⟨τ', p', S', es, us, b36, b37, hS', hp', hM', hG', -⟩ := step_c (τ := ρ) hn (fun p t h1 h2 => by rw [hu 115 _ rfl]; exact hW p t h1 h2) (sk_tr hu hT) e36 e37 hS hp (by omega) hM hG
      refine wp_bindE es (wp_some ⟨by omega, nI_1 i, fun i' h => ?_, ux_tr hu us, r, p', S', by omega, b36, b37, hS', hp', hM', hG'⟩)
      have : i' = i := by omega
      rw [this]
theorem st_round (a : Int32) : sII Rel (fun σ => f_X10_round nmX a σ) (fun σ => f_X11_round nmM a σ) := by
  intro σ hR
  show ∃ r σ1 τ, f_X10_round nmX a σ = some (r, σ1) ∧ f_X11_round nmM a σ1 = some (r, τ) ∧ Rel τ
  obtain ⟨σ1, n, m, e1, hR1, -, hS, hN, hRT⟩ := xfind_c hR
  obtain ⟨d, τ, e2, u2, h36, h37, hw, hT, hd1, hd2⟩ := begin_c hS hN
  have hR2 : Rel τ := rel_sc (rd_sc u2) hR1
  unfold f_X10_round f_X11_round
  rw [e1, bnd]
  have zm1 : (-1 : Int32).toInt = -1 := by decide
  rcases hRT with ⟨c0, s0, hno⟩ | ⟨c1, K, hK, sz, hk, hmin, hG⟩
  · have hd : d = 1000000 := by
      rcases hd2 with ⟨-, a2, -⟩ | ⟨a1, -⟩
      · exact absurd a2 (hno d)
      · exact a1
    rw [if_neg (show ¬ d < 1000000 by omega)] at e2
    have x1 : f_X8_minutes (jn nmX [91, 81, 82, 92, 93, 94, 95, 96, 97]) σ1 = some (-1) := by
      unfold f_X8_minutes
      rw [if_pos (show g_i σ1 (jn nmX [91, 81, 82, 92, 93, 94, 95, 96, 97] 0) 6 = 0 from c0)]
    have x2 : f_X8_step (jn nmX [91, 81, 82, 92, 93, 94, 95, 96, 97]) a σ1 = some (-1) := by
      unfold f_X8_step
      rw [if_pos (show g_i σ1 (jn nmX [91, 81, 82, 92, 93, 94, 95, 96, 97] 0) 6 = 0 from c0)]
    refine ⟨-1, σ1, τ, ?_, ?_, hR2⟩
    · rw [x1, x2]
      show (if a = -1 then some ((-1 : Int32), σ1) else some (-1, σ1)) = _
      exact ite_self _
    · rw [e2, bnd]
      show (if (-1 : Int32) < 0 then some ((-1 : Int32), τ) else _) = _
      rw [if_pos (by decide)]
  · have hM : MinR (Wn σ1 n) (2 ^ n - 1) K 0 0 := ⟨hk, hmin⟩
    have hd : d = K := ds_min hd2 hM
    subst hd
    rw [if_pos (show d < 1000000 by omega)] at e2
    have x1 : f_X8_minutes (jn nmX [91, 81, 82, 92, 93, 94, 95, 96, 97]) σ1 = some (nI d) := by
      unfold f_X8_minutes
      rw [show g_i σ1 (jn nmX [91, 81, 82, 92, 93, 94, 95, 96, 97] 0) 6 = 1 from c1, if_neg i10]
      show some (g_i σ1 96 1) = _
      rw [sz]
    have r1 : ∀ {A : Option (Int32 × jS)}, (f_X11_beginRound nmM σ1).bind (fun x => match x with
        | (q1, s2) => if q1 < 0 then some (q1, s2) else if a = (-1) then some (q1, s2) else (f_X11_in (a.toInt64) 0 ((q1 - 1).toInt64)).bind (fun q3 => if q3 = 0 then some ((-1), s2) else (lp (f_X11_round_L36 nmM a) fu ((-1), 0, s2)).bind (fun x => match x with
          | (e6, s7) => some (e6, s7)))) = A ↔ (if a = (-1) then some (nI d, τ) else (f_X11_in (a.toInt64) 0 ((nI d - 1).toInt64)).bind (fun q3 => if q3 = 0 then some ((-1), τ) else (lp (f_X11_round_L36 nmM a) fu ((-1), 0, τ)).bind (fun x => match x with
          | (e6, s7) => some (e6, s7)))) = A := by
      intro A
      rw [e2, bnd]
      show (if nI d < 0 then some (nI d, τ) else _) = A ↔ _
      rw [if_neg (nI_neg0 (by omega))]
    by_cases ha : a = -1
    · refine ⟨nI d, σ1, τ, ?_, ?_, hR2⟩
      · rw [if_pos ha, x1, bnd]
      · refine r1.mpr ?_
        rw [if_pos ha]
    · have dm : ((nI d - 1).toInt64).toInt = (d : Int) - 1 := by rw [ti64, nI_sub1 (by omega)]
      by_cases hj : ∃ j, j < d ∧ a = nI j
      · obtain ⟨j, hj, rfl⟩ := hj
        obtain ⟨τ', e3, u3⟩ := rloop_c hS.1.1 hw hT h36 h37 hK hj hM hG
        refine ⟨g_i σ1 97 j, σ1, τ', ?_, ?_, rel_sc (ux_w u3 (fun a k hk => by
          have hk := of_decide_eq_false hk
          exact decide_eq_false (by omega))) hR2⟩
        · rw [if_neg ha]
          have x2 : f_X8_step (jn nmX [91, 81, 82, 92, 93, 94, 95, 96, 97]) (nI j) σ1 = some (g_i σ1 97 j) := by
            unfold f_X8_step
            rw [show g_i σ1 (jn nmX [91, 81, 82, 92, 93, 94, 95, 96, 97] 0) 6 = 1 from c1, if_neg i10, if_neg (nI_neg0 (by omega))]
            show (if g_i σ1 96 1 ≤ nI j then some (-1) else (f_X4_at (jn (jn nmX [91, 81, 82, 92, 93, 94, 95, 96, 97]) [7, 8]) 59 (nI j) σ1).bind (fun q2 => some q2)) = _
            rw [sz, if_neg (by rw [nI_le' (by omega) (by omega)]; omega), row_atI (n := d) (by exact sz) hK (by omega) hj, bnd]
            rfl
          rw [x2, bnd]
        · refine r1.mpr ?_
          rw [if_neg ha, in_yes (by rw [ti64, nI_ti (by omega)]; show (0 : Int) ≤ j; omega) (by rw [ti64, nI_ti (by omega), dm]; omega), bnd, if_neg i10, e3, bnd]
      · refine ⟨-1, σ1, τ, ?_, ?_, hR2⟩
        · rw [if_neg ha]
          have x2 : f_X8_step (jn nmX [91, 81, 82, 92, 93, 94, 95, 96, 97]) a σ1 = some (-1) := by
            unfold f_X8_step
            rw [show g_i σ1 (jn nmX [91, 81, 82, 92, 93, 94, 95, 96, 97] 0) 6 = 1 from c1, if_neg i10]
            by_cases h0 : a < 0
            · rw [if_pos h0]
            · rw [if_neg h0]
              obtain ⟨j, hj', rfl⟩ := nI_all h0
              show (if g_i σ1 96 1 ≤ nI j then some (-1) else _) = _
              rw [sz, if_pos (by rw [nI_le' (by omega) hj']; exact Nat.le_of_not_lt (fun z => hj ⟨j, z, rfl⟩))]
          rw [x2, bnd]
        · refine r1.mpr ?_
          rw [nI_iff (by omega)] at hj
          rw [if_neg ha, in_no (by rw [ti64, dm]; show ¬ ((0 : Int) ≤ a.toInt ∧ a.toInt ≤ d - 1); omega), bnd, if_pos rfl]
