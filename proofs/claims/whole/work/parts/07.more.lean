def bd {β α : Type} (e : β) (k : β → Option α) : Option α := k e
def imax (x y : Int32) : Int32 := if x < y then y else x
def imin (x y : Int32) : Int32 := if y < x then y else x
def iabs (x : Int32) : Int32 := if 0 ≤ x then x else 0 - x
def jrv (G : jG) (nm : Nat → Nat) (q : Option Nat) : Value := match q with
  | none => .null
  | some k => .ref (jad G (nm k))
def r_PR (G : jG) (nm : Nat → Nat) (σ : jS) (q : Option Nat) : Option Value × jS := (some (jrv G nm q), σ)
theorem jn_0 : narrow .boolean (.int 0) = .int 0 := by decide +kernel
theorem jn_1 : narrow .boolean (.int 1) = .int 1 := by decide +kernel
theorem jf_0 : fits .boolean (.int 0) = true := by decide +kernel
theorem jf_1 : fits .boolean (.int 1) = true := by decide +kernel
theorem jp_0 : vp_nar .boolean 0 = 0 := by decide +kernel
theorem jp_1 : vp_nar .boolean 1 = 1 := by decide +kernel
theorem k_l0 : Int64.ofNat ((0 : Fin 2) : Nat) = 0 := by decide
theorem k_l1 : Int64.ofNat ((1 : Fin 2) : Nat) = 1 := by decide
section
variable {α β : Type} {X : jX} {l : Launch} {G : jG} {cc : ByteArray} {own : String} {nL : Nat} {R : Room} {pc : Nat} {lv lv' : List (Nat × Value)} {rest : List Value} {σ : jS} {nm : Nat → Nat} {LS : List jSh} {T A B : Option α} {K : α → Prop}
theorem J_bdI {e : Int32} {k : Int32 → Option α} (h : ∀ v, J X pc lv (.int v :: rest) σ (k v) K) : J X pc lv (.int e :: rest) σ (bd e k) K := h e
theorem J_bdS {k : jS → Option α} (h : ∀ τ, J X pc lv rest τ (k τ) K) : J X pc lv rest σ (bd σ k) K := h σ
theorem J_blk {f : Option β} {k : β → Option α} (body : ∀ KK : β → Prop, (∀ (e : β) (pc2 : Nat) (lv2 : List (Nat × Value)) (st2 : List Value) (σ2 : jS), J X pc2 lv2 st2 σ2 (k e) K → J X pc2 lv2 st2 σ2 (some e) KK) → J X pc lv rest σ f KK) : J X pc lv rest σ (f.bind k) K := by
  intro hF
  obtain ⟨q, h1, h2⟩ := jFo_bind hF
  exact body (fun e => jFo (k e) K) (fun e pc2 lv2 st2 σ2 h => J_leaf (fun h9 => h h9)) ⟨q, h1, h2⟩
theorem J_mmax2 (hX : jB X l G cc own nL R) {index : Nat} {x y : Int32} (hw : Cond.methodLink own index Lib.Math.max.name ∈ tw ∧ Cond.static Lib.Math.max.name ∈ tw ∧ Cond.initialized "java/lang/Math" ∈ tw ∧ Cond.code Lib.Math.max.name Lib.Math.max.code 2 (some .int) ∈ tw) (hf : 1 ≤ R.frames) (hlo : (rest.map fun v => v.category).sum + 13 ≤ R.locals) (hd : decode cc pc = .ok (.invokestatic index, 3)) (k : J X (pc + 3) lv (.int (imax x y) :: rest) σ T K) : J X pc lv (.int y :: .int x :: rest) σ T K := J_mmax hX hw hf hlo hd k
theorem J_mmin2 (hX : jB X l G cc own nL R) {index : Nat} {x y : Int32} (hw : Cond.methodLink own index Lib.Math.min.name ∈ tw ∧ Cond.static Lib.Math.min.name ∈ tw ∧ Cond.initialized "java/lang/Math" ∈ tw ∧ Cond.code Lib.Math.min.name Lib.Math.min.code 2 (some .int) ∈ tw) (hf : 1 ≤ R.frames) (hlo : (rest.map fun v => v.category).sum + 13 ≤ R.locals) (hd : decode cc pc = .ok (.invokestatic index, 3)) (k : J X (pc + 3) lv (.int (imin x y) :: rest) σ T K) : J X pc lv (.int y :: .int x :: rest) σ T K := J_mmin hX hw hf hlo hd k
theorem J_mabs2 (hX : jB X l G cc own nL R) {index : Nat} {x : Int32} (hw : Cond.methodLink own index Lib.Math.abs.name ∈ tw ∧ Cond.static Lib.Math.abs.name ∈ tw ∧ Cond.initialized "java/lang/Math" ∈ tw ∧ Cond.code Lib.Math.abs.name Lib.Math.abs.code 1 (some .int) ∈ tw) (hf : 1 ≤ R.frames) (hlo : (rest.map fun v => v.category).sum + 13 ≤ R.locals) (hd : decode cc pc = .ok (.invokestatic index, 3)) (k : J X (pc + 3) lv (.int (iabs x) :: rest) σ T K) : J X pc lv (.int x :: rest) σ T K := J_mabs hX hw hf hlo hd k
theorem J_aretR (hX : jB X l G cc own nL R) {cn : String} (hM : jM X (some (.object cn))) (a : Nat) (hd : decode cc pc = .ok (.areturn, 1)) : J X pc lv [.ref (jad G (nm a))] σ (some (some a)) (jk (r_PR G nm σ) X) := by
  rintro ⟨b, h1, h2⟩
  cases h1
  exact J_aret hX hM (Or.inr ⟨_, rfl⟩) hd ⟨(.ref (jad G (nm a)), σ), rfl, h2⟩
theorem J_aretN (hX : jB X l G cc own nL R) {cn : String} (hM : jM X (some (.object cn))) (hd : decode cc pc = .ok (.areturn, 1)) : J X pc lv [.null] σ (some none) (jk (r_PR G nm σ) X) := by
  rintro ⟨b, h1, h2⟩
  cases h1
  exact J_aret hX hM (Or.inl rfl) hd ⟨(.null, σ), rfl, h2⟩
theorem J_ifR {q : Option Nat} {a : Nat} (k1 : J X pc lv (.ref (jad G (nm a)) :: rest) σ A K) (k2 : J X pc lv (jrv G nm q :: rest) σ B K) : J X pc lv (jrv G nm q :: rest) σ (if q = some a then A else B) K := by
  by_cases h : q = some a
  · rw [if_pos h]; subst h; exact k1
  · rw [if_neg h]; exact k2
theorem J_ifN {q : Option Nat} (k1 : J X pc lv (.null :: rest) σ A K) : J X pc lv (jrv G nm q :: rest) σ (if q = none then A else none) K := by
  by_cases h : q = none
  · rw [if_pos h]; subst h; exact k1
  · rw [if_neg h]; exact J_none
theorem J_cVR {f : Option (Option Nat)} {k : Option Nat → Option α} {st0 As : List Value} {Y : jY} {index : Nat} (hX : jB X l G cc own nL R) (hE : jE G nm LS) (kk : Nat) (hm : jC (r_PR G nm σ) l G Y (.ref (jad G (nm kk)) :: As) σ f) {n ci : Nat} {sl : List (Nat ⊕ Nat)} {cq : vw_C} (hv : jMV Y n) (hl : Cond.methodLink own index Y.1 ∈ tw) (hk : LS[kk]? = some (.inr (ci, sl))) (hci : vwCl[ci]? = some cq) (hcq : cq.1 = Y.1.cls) (hro : jRo Y R) (hn : As.length = n) (hst : st0 = As.reverse ++ .ref (jad G (nm kk)) :: rest) (hw : (rest.map fun v => v.category).sum ≤ 8) (hd : decode cc pc = .ok (.invokevirtual index, 3)) (kont : ∀ (v : Option Nat), J X (pc + 3) lv (jrv G nm v :: rest) σ (k v) K) : J X pc lv st0 σ (f.bind k) K :=
  J_callV hX hE kk hm hv hl hk hci hcq hro hn hst hw hd (fun q => kont q)
theorem J_astore_nN (hX : jB X l G cc own nL R) {k0 : Fin 4} (hd : decode cc pc = .ok (.astore_n k0, 1)) (hn : k0.val < nL) (hst : jst lv k0.val .null = lv') (k : J X (pc + 1) lv' (rest) σ T K) : J X pc lv (.null :: rest) σ T K := by
  obtain ⟨p, l, e, R, s, m, args, below, meth, c, G, nL, Po, Q, cells, slots⟩ := X
  obtain ⟨rfl, rfl, rfl, rfl, hx, hb, hml, hown, hts, hK, hWL, hB, hc, hs⟩ := hX
  intro hF ls H locs hl hP hS
  exact lv_astore_nN hx hb hd rfl hl hn rfl (fun ls' hl' => k hF ls' H locs (jst_ls hl' hst) hP hS)
theorem J_aload_nN (hX : jB X l G cc own nL R) {k0 : Fin 4} (hd : decode cc pc = .ok (.aload_n k0, 1)) (hv : jat lv k0.val = some .null) (k : J X (pc + 1) lv (.null :: rest) σ T K) : J X pc lv (rest) σ T K := by
  obtain ⟨p, l, e, R, s, m, args, below, meth, c, G, nL, Po, Q, cells, slots⟩ := X
  obtain ⟨rfl, rfl, rfl, rfl, hx, hb, hml, hown, hts, hK, hWL, hB, hc, hs⟩ := hX
  intro hF ls H locs hl hP hS
  exact lv_aload_nN hx hb hd rfl (jat_ls hl hv) (k hF ls H locs hl hP hS)
end
theorem jt_ne {x v : Int32} {n : Int} (h : ¬ x = v) (hv : v.toInt = n) : ¬ x.toInt = n := fun e => h (Int32.toInt_inj.mp (e.trans hv.symm))
theorem jt_out13 {x : Int32} (h0 : ¬ x = 0) (h1 : ¬ x = 1) (h2 : ¬ x = 2) (h3 : ¬ x = 3) (h4 : ¬ x = 4) (h5 : ¬ x = 5) (h6 : ¬ x = 6) (h7 : ¬ x = 7) (h8 : ¬ x = 8) (h9 : ¬ x = 9) (h10 : ¬ x = 10) (h11 : ¬ x = 11) (h12 : ¬ x = 12) : x.toInt < 0 ∨ 12 < x.toInt := by
  have a0 := jt_ne h0 (n := 0) rfl
  have a1 := jt_ne h1 (n := 1) rfl
  have a2 := jt_ne h2 (n := 2) rfl
  have a3 := jt_ne h3 (n := 3) rfl
  have a4 := jt_ne h4 (n := 4) rfl
  have a5 := jt_ne h5 (n := 5) rfl
  have a6 := jt_ne h6 (n := 6) rfl
  have a7 := jt_ne h7 (n := 7) rfl
  have a8 := jt_ne h8 (n := 8) rfl
  have a9 := jt_ne h9 (n := 9) rfl
  have a10 := jt_ne h10 (n := 10) rfl
  have a11 := jt_ne h11 (n := 11) rfl
  have a12 := jt_ne h12 (n := 12) rfl
  omega
theorem jt_out8 {x : Int32} (h0 : ¬ x = 0) (h1 : ¬ x = 1) (h2 : ¬ x = 2) (h3 : ¬ x = 3) (h4 : ¬ x = 4) (h5 : ¬ x = 5) (h6 : ¬ x = 6) (h7 : ¬ x = 7) : x.toInt < 0 ∨ 7 < x.toInt := by
  have a0 := jt_ne h0 (n := 0) rfl
  have a1 := jt_ne h1 (n := 1) rfl
  have a2 := jt_ne h2 (n := 2) rfl
  have a3 := jt_ne h3 (n := 3) rfl
  have a4 := jt_ne h4 (n := 4) rfl
  have a5 := jt_ne h5 (n := 5) rfl
  have a6 := jt_ne h6 (n := 6) rfl
  have a7 := jt_ne h7 (n := 7) rfl
  omega
theorem jt_out4 {x : Int32} (h0 : ¬ x = 0) (h1 : ¬ x = 1) (h2 : ¬ x = 2) (h3 : ¬ x = 3) : x.toInt < 0 ∨ 3 < x.toInt := by
  have a0 := jt_ne h0 (n := 0) rfl
  have a1 := jt_ne h1 (n := 1) rfl
  have a2 := jt_ne h2 (n := 2) rfl
  have a3 := jt_ne h3 (n := 3) rfl
  omega
