def jn (nm : Nat → Nat) (ks : List Nat) : Nat → Nat := fun k => nm (ks.getD k 0)
abbrev jsK (G : jG) (i : Nat) : Nat := G.2.2.2.2.2.1 i
def jz (v : Int32) : Prop := v = 0 ∨ v = 1
theorem jz_nar {v : Int32} (h : jz v) : narrow .boolean (.int v) = .int v := by rcases h with rfl | rfl <;> decide +kernel
theorem jz_fit {v : Int32} (h : jz v) : fits .boolean (.int v) = true := by rcases h with rfl | rfl <;> decide +kernel
theorem jz_vp {v : Int32} (h : jz v) : vp_nar .boolean v = v := by rcases h with rfl | rfl <;> decide +kernel
theorem jE.sb {G : jG} {nm : Nat → Nat} {LS LS' : List jSh} (h : jE G nm LS) (ks : List Nat) (hc : jE_ok LS ks LS' = true) : jE G (jn nm ks) LS' := h.sub ks hc
def r_P (σ : jS) (v : Int32) : Option Value × jS := (some (.int v), σ)
def r_PL (σ : jS) (v : Int64) : Option Value × jS := (some (.long v), σ)
def r_PA (σ : jS) (v : Value) : Option Value × jS := (some v, σ)
section
variable {α : Type} {X : jX} {l : Launch} {G : jG} {cc : ByteArray} {own : String} {nL : Nat} {R : Room} {pc : Nat} {lv : List (Nat × Value)} {rest : List Value} {σ : jS} {nm : Nat → Nat} {LS : List jSh} {A : Option α} {K : α → Prop}
theorem J_iretP (hX : jB X l G cc own nL R) (hM : jM X (some .int)) {v : Int32} (hd : decode cc pc = .ok (.ireturn, 1)) : J X pc lv [.int v] σ (some v) (jk (r_P σ) X) := by
  rintro ⟨a, h1, h2⟩
  cases h1
  exact J_iret hX hM hd ⟨(v, σ), rfl, h2⟩
theorem J_zretP (hX : jB X l G cc own nL R) (hM : jM X (some .boolean)) {v : Int32} (hn : narrow .boolean (.int v) = .int v) (hd : decode cc pc = .ok (.ireturn, 1)) : J X pc lv [.int v] σ (some v) (jk (r_P σ) X) := by
  rintro ⟨a, h1, h2⟩
  cases h1
  exact J_zret hX hM hn hd ⟨(v, σ), rfl, h2⟩
theorem J_lretP (hX : jB X l G cc own nL R) (hM : jM X (some .long)) {v : Int64} (hd : decode cc pc = .ok (.lreturn, 1)) : J X pc lv [.long v] σ (some v) (jk (r_PL σ) X) := by
  rintro ⟨a, h1, h2⟩
  cases h1
  exact J_lret hX hM hd ⟨(v, σ), rfl, h2⟩
theorem J_aretP (hX : jB X l G cc own nL R) {cn : String} (hM : jM X (some (.object cn))) {v : Value} (hv : v = .null ∨ ∃ a, v = .ref a) (hd : decode cc pc = .ok (.areturn, 1)) : J X pc lv [v] σ (some v) (jk (r_PA σ) X) := by
  rintro ⟨a, h1, h2⟩
  cases h1
  exact J_aret hX hM hv hd ⟨(v, σ), rfl, h2⟩
theorem J_gd {c : Prop} (k : c → J X pc lv rest σ A K) : J X pc lv rest σ (gd c A) K := by
  intro hF
  obtain ⟨hc, hF⟩ := jFo_gd hF
  exact k hc hF
end
/-- a loop, its two ends by rules -/
theorem J_lp {α S E : Type} {X : jX} {pc : Nat} {st : List Value} {K : α → Prop} {f : S → Option (S ⊕ E)} {k : E → Option α} (lf : S → List (Nat × Value)) (sf : S → jS) {n : Nat} {s0 : S} (body : ∀ KK : S ⊕ E → Prop, (∀ t, J X pc (lf t) st (sf t) (some (Sum.inl t : S ⊕ E)) KK) → (∀ (e : E) (pc2 : Nat) (lv2 : List (Nat × Value)) (st2 : List Value) (σ2 : jS), J X pc2 lv2 st2 σ2 (k e) K → J X pc2 lv2 st2 σ2 (some (Sum.inr e : S ⊕ E)) KK) → ∀ s, J X pc (lf s) st (sf s) (f s) KK) : J X pc (lf s0) st (sf s0) ((lp f n s0).bind k) K :=
  J_loop f k lf sf (body _ (fun t => J_next t rfl rfl) (fun e pc2 lv2 st2 σ2 h => J_exit h))

section
variable {α : Type} {X : jX} {l : Launch} {G : jG} {cc : ByteArray} {own : String} {nL : Nat} {R : Room} {pc : Nat} {lv : List (Nat × Value)} {rest st0 : List Value} {σ : jS} {K : α → Prop} {nm : Nat → Nat} {LS : List jSh} {Y : jY} {index : Nat} {As : List Value}

theorem J_cVP {f : Option (Int32)} {k : Int32 → Option α} (hX : jB X l G cc own nL R) (hE : jE G nm LS) (kk : Nat) (hm : jC (r_P σ) l G Y (.ref (jad G (nm kk)) :: As) σ f) {n ci : Nat} {sl : List (Nat ⊕ Nat)} {cq : vw_C} (hv : jMV Y n) (hl : Cond.methodLink own index Y.1 ∈ tw) (hk : LS[kk]? = some (.inr (ci, sl))) (hci : vwCl[ci]? = some cq) (hcq : cq.1 = Y.1.cls) (hro : jRo Y R) (hn : As.length = n) (hst : st0 = As.reverse ++ .ref (jad G (nm kk)) :: rest) (hw : (rest.map fun v => v.category).sum ≤ 8) (hd : decode cc pc = .ok (.invokevirtual index, 3)) (kont : ∀ (v : Int32), J X (pc + 3) lv (.int v :: rest) σ (k v) K) : J X pc lv st0 σ (f.bind k) K :=
  J_callV hX hE kk hm hv hl hk hci hcq hro hn hst hw hd (fun q => kont q)
theorem J_cSP {f : Option (Int32)} {k : Int32 → Option α} (hX : jB X l G cc own nL R) (hm : jC (r_P σ) l G Y As σ f) {n : Nat} (hv : jMS Y n) (hl : Cond.methodLink own index Y.1 ∈ tw) (hro : jRo Y R) (hn : As.length = n) (hst : st0 = As.reverse ++ rest) (hw : (rest.map fun v => v.category).sum ≤ 8) (hd : decode cc pc = .ok (.invokestatic index, 3)) (kont : ∀ (v : Int32), J X (pc + 3) lv (.int v :: rest) σ (k v) K) : J X pc lv st0 σ (f.bind k) K :=
  J_callS hX hm hv hl hro hn hst hw hd (fun q => kont q)
theorem J_cNP {f : Option (Int32)} {k : Int32 → Option α} (hX : jB X l G cc own nL R) (hm : jC (r_P σ) l G Y As σ f) {n : Nat} (hv : jMS Y n) {host : String} (hl : (own, index, Y.1, host) ∈ jw_nl) (hro : jRo Y R) (hn : As.length = n) (hst : st0 = As.reverse ++ rest) (hw : (rest.map fun v => v.category).sum ≤ 8) (hd : decode cc pc = .ok (.invokestatic index, 3)) (kont : ∀ (v : Int32), J X (pc + 3) lv (.int v :: rest) σ (k v) K) : J X pc lv st0 σ (f.bind k) K :=
  J_callN hX hm hv hl hro hn hst hw hd (fun q => kont q)
theorem J_cVI {f : Option (Int32 × jS)} {k : Int32 × jS → Option α} (hX : jB X l G cc own nL R) (hE : jE G nm LS) (kk : Nat) (hm : jC (r_I) l G Y (.ref (jad G (nm kk)) :: As) σ f) {n ci : Nat} {sl : List (Nat ⊕ Nat)} {cq : vw_C} (hv : jMV Y n) (hl : Cond.methodLink own index Y.1 ∈ tw) (hk : LS[kk]? = some (.inr (ci, sl))) (hci : vwCl[ci]? = some cq) (hcq : cq.1 = Y.1.cls) (hro : jRo Y R) (hn : As.length = n) (hst : st0 = As.reverse ++ .ref (jad G (nm kk)) :: rest) (hw : (rest.map fun v => v.category).sum ≤ 8) (hd : decode cc pc = .ok (.invokevirtual index, 3)) (kont : ∀ (v : Int32) (τ : jS), J X (pc + 3) lv (.int v :: rest) τ (k (v, τ)) K) : J X pc lv st0 σ (f.bind k) K :=
  J_callV hX hE kk hm hv hl hk hci hcq hro hn hst hw hd (fun q => kont q.1 q.2)
theorem J_cSI {f : Option (Int32 × jS)} {k : Int32 × jS → Option α} (hX : jB X l G cc own nL R) (hm : jC (r_I) l G Y As σ f) {n : Nat} (hv : jMS Y n) (hl : Cond.methodLink own index Y.1 ∈ tw) (hro : jRo Y R) (hn : As.length = n) (hst : st0 = As.reverse ++ rest) (hw : (rest.map fun v => v.category).sum ≤ 8) (hd : decode cc pc = .ok (.invokestatic index, 3)) (kont : ∀ (v : Int32) (τ : jS), J X (pc + 3) lv (.int v :: rest) τ (k (v, τ)) K) : J X pc lv st0 σ (f.bind k) K :=
  J_callS hX hm hv hl hro hn hst hw hd (fun q => kont q.1 q.2)
theorem J_cNI {f : Option (Int32 × jS)} {k : Int32 × jS → Option α} (hX : jB X l G cc own nL R) (hm : jC (r_I) l G Y As σ f) {n : Nat} (hv : jMS Y n) {host : String} (hl : (own, index, Y.1, host) ∈ jw_nl) (hro : jRo Y R) (hn : As.length = n) (hst : st0 = As.reverse ++ rest) (hw : (rest.map fun v => v.category).sum ≤ 8) (hd : decode cc pc = .ok (.invokestatic index, 3)) (kont : ∀ (v : Int32) (τ : jS), J X (pc + 3) lv (.int v :: rest) τ (k (v, τ)) K) : J X pc lv st0 σ (f.bind k) K :=
  J_callN hX hm hv hl hro hn hst hw hd (fun q => kont q.1 q.2)
theorem J_cVV {f : Option (jS)} {k : jS → Option α} (hX : jB X l G cc own nL R) (hE : jE G nm LS) (kk : Nat) (hm : jC (r_V) l G Y (.ref (jad G (nm kk)) :: As) σ f) {n ci : Nat} {sl : List (Nat ⊕ Nat)} {cq : vw_C} (hv : jMV Y n) (hl : Cond.methodLink own index Y.1 ∈ tw) (hk : LS[kk]? = some (.inr (ci, sl))) (hci : vwCl[ci]? = some cq) (hcq : cq.1 = Y.1.cls) (hro : jRo Y R) (hn : As.length = n) (hst : st0 = As.reverse ++ .ref (jad G (nm kk)) :: rest) (hw : (rest.map fun v => v.category).sum ≤ 8) (hd : decode cc pc = .ok (.invokevirtual index, 3)) (kont : ∀ (τ : jS), J X (pc + 3) lv (rest) τ (k τ) K) : J X pc lv st0 σ (f.bind k) K :=
  J_callV hX hE kk hm hv hl hk hci hcq hro hn hst hw hd (fun q => kont q)
theorem J_cSV {f : Option (jS)} {k : jS → Option α} (hX : jB X l G cc own nL R) (hm : jC (r_V) l G Y As σ f) {n : Nat} (hv : jMS Y n) (hl : Cond.methodLink own index Y.1 ∈ tw) (hro : jRo Y R) (hn : As.length = n) (hst : st0 = As.reverse ++ rest) (hw : (rest.map fun v => v.category).sum ≤ 8) (hd : decode cc pc = .ok (.invokestatic index, 3)) (kont : ∀ (τ : jS), J X (pc + 3) lv (rest) τ (k τ) K) : J X pc lv st0 σ (f.bind k) K :=
  J_callS hX hm hv hl hro hn hst hw hd (fun q => kont q)
theorem J_cNV {f : Option (jS)} {k : jS → Option α} (hX : jB X l G cc own nL R) (hm : jC (r_V) l G Y As σ f) {n : Nat} (hv : jMS Y n) {host : String} (hl : (own, index, Y.1, host) ∈ jw_nl) (hro : jRo Y R) (hn : As.length = n) (hst : st0 = As.reverse ++ rest) (hw : (rest.map fun v => v.category).sum ≤ 8) (hd : decode cc pc = .ok (.invokestatic index, 3)) (kont : ∀ (τ : jS), J X (pc + 3) lv (rest) τ (k τ) K) : J X pc lv st0 σ (f.bind k) K :=
  J_callN hX hm hv hl hro hn hst hw hd (fun q => kont q)
theorem J_cVL {f : Option (Int64)} {k : Int64 → Option α} (hX : jB X l G cc own nL R) (hE : jE G nm LS) (kk : Nat) (hm : jC (r_PL σ) l G Y (.ref (jad G (nm kk)) :: As) σ f) {n ci : Nat} {sl : List (Nat ⊕ Nat)} {cq : vw_C} (hv : jMV Y n) (hl : Cond.methodLink own index Y.1 ∈ tw) (hk : LS[kk]? = some (.inr (ci, sl))) (hci : vwCl[ci]? = some cq) (hcq : cq.1 = Y.1.cls) (hro : jRo Y R) (hn : As.length = n) (hst : st0 = As.reverse ++ .ref (jad G (nm kk)) :: rest) (hw : (rest.map fun v => v.category).sum ≤ 8) (hd : decode cc pc = .ok (.invokevirtual index, 3)) (kont : ∀ (v : Int64), J X (pc + 3) lv (.long v :: rest) σ (k v) K) : J X pc lv st0 σ (f.bind k) K :=
  J_callV hX hE kk hm hv hl hk hci hcq hro hn hst hw hd (fun q => kont q)
theorem J_cSL {f : Option (Int64)} {k : Int64 → Option α} (hX : jB X l G cc own nL R) (hm : jC (r_PL σ) l G Y As σ f) {n : Nat} (hv : jMS Y n) (hl : Cond.methodLink own index Y.1 ∈ tw) (hro : jRo Y R) (hn : As.length = n) (hst : st0 = As.reverse ++ rest) (hw : (rest.map fun v => v.category).sum ≤ 8) (hd : decode cc pc = .ok (.invokestatic index, 3)) (kont : ∀ (v : Int64), J X (pc + 3) lv (.long v :: rest) σ (k v) K) : J X pc lv st0 σ (f.bind k) K :=
  J_callS hX hm hv hl hro hn hst hw hd (fun q => kont q)
theorem J_cNL {f : Option (Int64)} {k : Int64 → Option α} (hX : jB X l G cc own nL R) (hm : jC (r_PL σ) l G Y As σ f) {n : Nat} (hv : jMS Y n) {host : String} (hl : (own, index, Y.1, host) ∈ jw_nl) (hro : jRo Y R) (hn : As.length = n) (hst : st0 = As.reverse ++ rest) (hw : (rest.map fun v => v.category).sum ≤ 8) (hd : decode cc pc = .ok (.invokestatic index, 3)) (kont : ∀ (v : Int64), J X (pc + 3) lv (.long v :: rest) σ (k v) K) : J X pc lv st0 σ (f.bind k) K :=
  J_callN hX hm hv hl hro hn hst hw hd (fun q => kont q)
theorem J_cVA {f : Option (Value)} {k : Value → Option α} (hX : jB X l G cc own nL R) (hE : jE G nm LS) (kk : Nat) (hm : jC (r_PA σ) l G Y (.ref (jad G (nm kk)) :: As) σ f) {n ci : Nat} {sl : List (Nat ⊕ Nat)} {cq : vw_C} (hv : jMV Y n) (hl : Cond.methodLink own index Y.1 ∈ tw) (hk : LS[kk]? = some (.inr (ci, sl))) (hci : vwCl[ci]? = some cq) (hcq : cq.1 = Y.1.cls) (hro : jRo Y R) (hn : As.length = n) (hst : st0 = As.reverse ++ .ref (jad G (nm kk)) :: rest) (hw : (rest.map fun v => v.category).sum ≤ 8) (hd : decode cc pc = .ok (.invokevirtual index, 3)) (kont : ∀ (v : Value), J X (pc + 3) lv (v :: rest) σ (k v) K) : J X pc lv st0 σ (f.bind k) K :=
  J_callV hX hE kk hm hv hl hk hci hcq hro hn hst hw hd (fun q => kont q)
end
theorem k_im1 : Int32.ofInt (-1) = (-1) := by decide
theorem k_i0 : Int32.ofInt (0) = 0 := by decide
theorem k_i1 : Int32.ofInt (1) = 1 := by decide
theorem k_i2 : Int32.ofInt (2) = 2 := by decide
theorem k_i3 : Int32.ofInt (3) = 3 := by decide
theorem k_i4 : Int32.ofInt (4) = 4 := by decide
theorem k_i5 : Int32.ofInt (5) = 5 := by decide
