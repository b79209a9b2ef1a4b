/-! constructors: a world that grows -/
abbrev nX : Type := Program × Launch × Env × Room × State × MethodId × Array Value × List Frame × Method × Code × jG × Nat × (State → Prop)
def NJ (X : nX) (pc : Nat) (lv : List (Nat × Value)) (st : List Value) (ws : va_W) (cells slots : Nat) : Prop := match X with
  | (p, l, e, R, s, m, args, below, meth, c, G, nL, Q) => ∀ (ls : Array Slot) (H : Heap) (locs : List Loc), lv_has ls nL lv → va_P G.1 vwCl ws H → va_D (jA G) ws → va_S (jA G) s.heap H locs → W p l e R s m args below meth c H locs cells slots Q (F0 m pc ls st)
def nB (X : nX) (l' : Launch) (G' : jG) (cc : ByteArray) (own : String) (nL' : Nat) (R' : Room) : Prop := match X with
  | (p, l, e, R, s, m, args, below, meth, c, G, nL, Q) => l = l' ∧ G = G' ∧ nL = nL' ∧ R = R' ∧ p.tables.exec = Jvm.exec ∧ c.code = cc ∧ c.maxLocals = nL ∧ s.vm.findClass own = some m.cls ∧ (∀ w ∈ tw, w.before args s = true) ∧ jw_K G s ∧ G.2.2.2.2.1 ≤ s.heap.size
def nIn (X : nX) : Prop := X.2.2.2.2.2.2.2.2.1.name = "<init>"
def nPc (G : jG) (ws : va_W) (U : State) : Prop := va_P G.1 vwCl ws U.heap ∧ va_D (jA G) ws ∧ jw_K G U ∧ G.2.2.2.2.1 ≤ U.heap.size
def nQ (G : jG) (post : va_W → Prop) : Array Value → State → Outcome → State → Prop := fun _ st oc t => (∃ ws : va_W, oc = .returned none ∧ post ws ∧ va_P G.1 vwCl ws t.heap ∧ va_D (jA G) ws) ∧ va_F (jA G) st t
def nM (X : nX) (G : jG) (post : va_W → Prop) (mc ms : Nat) : Prop := match X with
  | (p, l, e, R, s, m, args, below, meth, c, _, nL, Q) => meth.sig.returnType = none ∧ meth.locks = false ∧ Q = MQ below (nQ G post) args s mc ms (jA G)
def nC (l : Launch) (G : jG) (Y : jY) (av : List Value) (ws : va_W) (post : va_W → Prop) (mc ms : Nat) : Prop := Met l Y.1 (jws Y) Y.2.2.2.2 (va_Pc av (nPc G ws)) (nQ G post) mc ms (jA G)
theorem nw_met {l : Launch} {G : jG} {Y : jY} {av : List Value} {ws : va_W} {post : va_W → Prop} {mc ms : Nat} (hy : plainName Y.1.cls = true) (hn : Y.1.name = "<init>") (hret : Y.2.2.2.1 = none) (hlen : (lg_sl av).length ≤ Y.2.2.1)
    (body : ∀ X, nB X l G Y.2.1 Y.1.cls Y.2.2.1 Y.2.2.2.2 → nM X G post mc ms → nIn X → NJ X 0 (lv_args 0 av) [] ws 0 0) : nC l G Y av ws post mc ms := by
  refine Met.ofW (cc := Y.2.1) (maxL := Y.2.2.1) (ret := Y.2.2.2.1) hy rfl ?_
  intro p e s m args below meth c s₁ B hml hv
  obtain ⟨rfl, hP, hD, hK, hsz⟩ := hv
  have hts := atoms_spec (ws := jws Y) B.pre
  have hin : meth.name = "<init>" := ((name_of_methodNamed B.named B.method).1).trans hn
  have hb := body (p, l, e, Y.2.2.2.2, s, m, av.toArray, below, meth, c, G, Y.2.2.1, MQ below (nQ G post) av.toArray s mc ms (jA G))
    ⟨rfl, rfl, rfl, rfl, B.exec, B.bytes, hml, findClass_of_methodNamed B.named, fun w hw => hts w (List.mem_cons_of_mem _ hw), hK, hsz⟩
    ⟨by rw [← hret]; exact B.returns, B.notSynchronized, rfl⟩ hin
  rw [lg_entry_eq]
  exact hb _ _ _ (lv_entry av hlen) hP hD va_S.rf
/-- the words of a constructor that a call needs -/
def jMI (Y : jY) (n : Nat) : Prop := (Cond.instanceMethod Y.1 ∈ tw ∧ Cond.initialized Y.1.cls ∈ tw ∧ Cond.code Y.1 Y.2.1 Y.2.2.1 none ∈ tw) ∧ Y.2.2.2.1 = none ∧ Y.1.name = "<init>" ∧ Y.1.cls ≠ "java/lang/invoke/MethodHandle" ∧ Y.1.cls ≠ "java/lang/invoke/VarHandle" ∧ (parseMethodDescriptor Y.1.desc).map (fun d => d.parameters.length) = some n
def jFF (own : String) (index ci j : Nat) (ty : FieldType) : Prop := ∃ (C : String) (T : u_T) (N : Nat) (ty0 : Nat → FieldType), vwCl[ci]? = some (C, T, N) ∧ j < N ∧ (∀ w ∈ u_ws C T N, w ∈ tw) ∧ Cond.fieldLink own index (T j).1 (T j).2.1 (T j).2.2.1 ∈ tw ∧ (∀ k, k < N → parseFieldDescriptor (T k).2.2.1 = some (ty0 k)) ∧ (∀ a, a < N → ∀ b, b < N → a ≠ b → (T a).2.1 ≠ (T b).2.1) ∧ (T j).2.2.2 = true ∧ (T j).1 = own ∧ parseFieldDescriptor (T j).2.2.1 = some ty
def jNw (own : String) (index ci n : Nat) (fs : List Value) : Prop := ∃ (C : String) (T : u_T) (ty0 : Nat → FieldType), vwCl[ci]? = some (C, T, n) ∧ (∀ w ∈ u_ws C T n, w ∈ tw) ∧ (∀ k, k < n → parseFieldDescriptor (T k).2.2.1 = some (ty0 k)) ∧ Cond.classLink own index C ∈ tw ∧ Cond.instantiable C n ∈ tw ∧ Cond.initialized C ∈ tw ∧ ∀ j, j < n → defaultValue (ty0 j) = vp_V fs j
theorem n_at {A : va_W} {x : Nat × va_E} {L : va_W} : (A ++ (x :: L))[A.length]? = some x := by simp
theorem n_set {A : va_W} {x y : Nat × va_E} {L : va_W} : (A ++ (x :: L)).set A.length y = A ++ (y :: L) := by simp
section
variable {p : Program} {l : Launch} {e : Env} {R : Room} {s : State} {m : MethodId} {args : Array Value} {below : List Frame} {meth : Method} {c : Code} {H : Heap} {locs : List Loc} {cells slots : Nat} {Q : State → Prop} {pc : Nat} {ls : Array Slot} {st0 rest : List Value} {G : jG} {post : va_W → Prop} {a : Array Value} {mc ms : Nat}
theorem nw_call (hr : va_Run p l e R s m args below meth c H locs cells slots mc ms (F0 m pc ls st0) rest (nQ G post a) (jA G)) (hS : va_S (jA G) s.heap H locs) (kk : ∀ (ws : va_W) (H1 : Heap) (locs1 : List Loc), post ws → va_P G.1 vwCl ws H1 → va_D (jA G) ws → va_S (jA G) s.heap H1 locs1 → W p l e R s m args below meth c H1 locs1 (cells + mc) (slots + ms) Q (F0 m (pc + 3) ls rest)) : W p l e R s m args below meth c H locs cells slots Q (F0 m pc ls st0) := by
  intro T hT X
  obtain ⟨v, st₀, t, T', L, h0, X', hL, e1, e2, ⟨⟨ws, hv, hp, hb, hd⟩, hz, hk⟩, st⟩ := hr T hT X
  cases hv
  rw [h0] at hz hk
  obtain ⟨t2, a1, b1⟩ := kk ws T'.heap (locs ++ L) hp (by rw [e1]; exact hb) hd
    ⟨Nat.le_trans hS.1 (by rw [e1]; exact hz), fun q h1 h2 => by rw [e1, hk q (Nat.lt_of_lt_of_le h1 hS.1) h2]; exact hS.2.1 q h1 h2, fun q hq => by
      rcases List.mem_append.mp hq with h | h
      · exact hS.2.2 q h
      · exact hL q h⟩ T' rfl X'
  exact ⟨t2, st t2 a1, b1⟩
theorem nPc_blind (av : List Value) (ws : va_W) : FrameBlind (va_Pc av (nPc G ws)) := fun a U g mk h => ⟨h.1, h.2.1, h.2.2.1, jw_K.same (u := U) (U := U.calling g mk a) rfl rfl h.2.2.2.1, h.2.2.2.2⟩
theorem nPc_at {ws : va_W} {av : List Value} (hP : va_P G.1 vwCl ws H) (hD : va_D (jA G) ws) (hK : jw_K G s) (hS : va_S (jA G) s.heap H locs) (hB : G.2.2.2.2.1 ≤ s.heap.size) : ∀ U : State, U.heap = H → s.WarmedH U.vm → va_Pc av (nPc G ws) av.toArray U := fun U hU hW => ⟨rfl, by rw [hU]; exact hP, hD, hK.step hS hU hW, by rw [hU]; exact Nat.le_trans hB hS.1⟩
end
section
variable {X : nX} {l : Launch} {G : jG} {cc : ByteArray} {own : String} {nL : Nat} {R : Room} {pc : Nat} {lv lv' : List (Nat × Value)} {rest : List Value} {ws : va_W} {cells slots index : Nat}
theorem N_aload_n (hX : nB X l G cc own nL R) {k0 : Fin 4} {x : Nat} (hd : decode cc pc = .ok (.aload_n k0, 1)) (hv : jat lv k0.val = some (.ref x)) (k : NJ X (pc + 1) lv (.ref x :: rest) ws cells slots) : NJ X pc lv rest ws cells slots := by
  obtain ⟨p, l, e, R, s, m, args, below, meth, c, G, nL, Q⟩ := X
  obtain ⟨rfl, rfl, rfl, rfl, hx, hb, hml, hown, hts, hK, hB⟩ := hX
  intro ls H locs hl hP hD hS
  exact lv_aload_n hx hb hd rfl (jat_ls hl hv) (k ls H locs hl hP hD hS)
theorem N_iload_n (hX : nB X l G cc own nL R) {k0 : Fin 4} {x : Int32} (hd : decode cc pc = .ok (.iload_n k0, 1)) (hv : jat lv k0.val = some (.int x)) (k : NJ X (pc + 1) lv (.int x :: rest) ws cells slots) : NJ X pc lv rest ws cells slots := by
  obtain ⟨p, l, e, R, s, m, args, below, meth, c, G, nL, Q⟩ := X
  obtain ⟨rfl, rfl, rfl, rfl, hx, hb, hml, hown, hts, hK, hB⟩ := hX
  intro ls H locs hl hP hD hS
  exact lv_iload_n hx hb hd rfl (jat_ls hl hv) (k ls H locs hl hP hD hS)
theorem N_astore_n (hX : nB X l G cc own nL R) {k0 : Fin 4} {x : Nat} (hd : decode cc pc = .ok (.astore_n k0, 1)) (hn : k0.val < nL) (hst : jst lv k0.val (.ref x) = lv') (k : NJ X (pc + 1) lv' rest ws cells slots) : NJ X pc lv (.ref x :: rest) ws cells slots := by
  obtain ⟨p, l, e, R, s, m, args, below, meth, c, G, nL, Q⟩ := X
  obtain ⟨rfl, rfl, rfl, rfl, hx, hb, hml, hown, hts, hK, hB⟩ := hX
  intro ls H locs hl hP hD hS
  exact lv_astore_n hx hb hd rfl hl hn rfl (fun ls' hl' => k ls' H locs (jst_ls hl' hst) hP hD hS)
theorem N_iconst (hX : nB X l G cc own nL R) {n : Int} {v : Int32} (hd : decode cc pc = .ok (.iconst n, 1)) (hv : Int32.ofInt n = v) (k : NJ X (pc + 1) lv (.int v :: rest) ws cells slots) : NJ X pc lv rest ws cells slots := by
  obtain ⟨p, l, e, R, s, m, args, below, meth, c, G, nL, Q⟩ := X
  obtain ⟨rfl, rfl, rfl, rfl, hx, hb, hml, hown, hts, hK, hB⟩ := hX
  intro ls H locs hl hP hD hS
  exact lv_iconst hx hb hd hv (k ls H locs hl hP hD hS)
theorem N_bipush (hX : nB X l G cc own nL R) {n : Int} {v : Int32} (hd : decode cc pc = .ok (.bipush n, 2)) (hv : (Int8.ofInt n).toInt32 = v) (k : NJ X (pc + 2) lv (.int v :: rest) ws cells slots) : NJ X pc lv rest ws cells slots := by
  obtain ⟨p, l, e, R, s, m, args, below, meth, c, G, nL, Q⟩ := X
  obtain ⟨rfl, rfl, rfl, rfl, hx, hb, hml, hown, hts, hK, hB⟩ := hX
  intro ls H locs hl hP hD hS
  exact lv_bipush hx hb hd hv (k ls H locs hl hP hD hS)
theorem N_sipush (hX : nB X l G cc own nL R) {n : Int} {v : Int32} (hd : decode cc pc = .ok (.sipush n, 3)) (hv : (Int16.ofInt n).toInt32 = v) (k : NJ X (pc + 3) lv (.int v :: rest) ws cells slots) : NJ X pc lv rest ws cells slots := by
  obtain ⟨p, l, e, R, s, m, args, below, meth, c, G, nL, Q⟩ := X
  obtain ⟨rfl, rfl, rfl, rfl, hx, hb, hml, hown, hts, hK, hB⟩ := hX
  intro ls H locs hl hP hD hS
  exact lv_sipush hx hb hd hv (k ls H locs hl hP hD hS)
theorem N_ldc (hX : nB X l G cc own nL R) {v : Int32} (hw : Cond.constant own index v ∈ tw) (hd : decode cc pc = .ok (.ldc index, 2)) (k : NJ X (pc + 2) lv (.int v :: rest) ws cells slots) : NJ X pc lv rest ws cells slots := by
  obtain ⟨p, l, e, R, s, m, args, below, meth, c, G, nL, Q⟩ := X
  obtain ⟨rfl, rfl, rfl, rfl, hx, hb, hml, hown, hts, hK, hB⟩ := hX
  intro ls H locs hl hP hD hS
  exact lv_ldc hx hb hown (hts _ hw) hd (k ls H locs hl hP hD hS)
theorem N_dup (hX : nB X l G cc own nL R) {v : Value} (hd : decode cc pc = .ok (.dup, 1)) (hv : v.category = 1) (k : NJ X (pc + 1) lv (v :: v :: rest) ws cells slots) : NJ X pc lv (v :: rest) ws cells slots := by
  obtain ⟨p, l, e, R, s, m, args, below, meth, c, G, nL, Q⟩ := X
  obtain ⟨rfl, rfl, rfl, rfl, hx, hb, hml, hown, hts, hK, hB⟩ := hX
  intro ls H locs hl hP hD hS
  exact lv_dup hx hb hd hv (k ls H locs hl hP hD hS)
theorem N_mmax (hX : nB X l G cc own nL R) {x y : Int32} (hw : Cond.methodLink own index Lib.Math.max.name ∈ tw ∧ Cond.static Lib.Math.max.name ∈ tw ∧ Cond.initialized "java/lang/Math" ∈ tw ∧ Cond.code Lib.Math.max.name Lib.Math.max.code 2 (some .int) ∈ tw) (hf : 1 ≤ R.frames) (hlo : (rest.map fun v => v.category).sum + 13 ≤ R.locals) (hc : cells ≤ R.cells) (hs : slots ≤ R.slots) (hd : decode cc pc = .ok (.invokestatic index, 3)) (k : NJ X (pc + 3) lv (.int (imax x y) :: rest) ws cells slots) : NJ X pc lv (.int y :: .int x :: rest) ws cells slots := by
  obtain ⟨p, l, e, R, s, m, args, below, meth, c, G, nL, Q⟩ := X
  obtain ⟨rfl, rfl, rfl, rfl, hx, hb, hml, hown, hts, hK, hB⟩ := hX
  intro ls H locs hl hP hD hS
  exact va_mmax hx hb (hml.trans hl.1.symm) hown (hts _ hw.1) (hts _ hw.2.1) (hts _ hw.2.2.1) (hts _ hw.2.2.2) hf hlo hc hs hd (k ls H locs hl hP hD hS)
theorem N_obj (hX : nB X l G cc own nL R) {a : Nat} (h1 : Cond.methodLink own index Lib.objectInit ∈ tw) (h2 : Cond.instanceMethod Lib.objectInit ∈ tw) (h3 : Cond.code Lib.objectInit ⟨#[0xb1]⟩ 1 none ∈ tw) (hf : 1 ≤ R.frames) (hlo : (rest.map fun v => v.category).sum + 12 ≤ R.locals) (hd : decode cc pc = .ok (.invokespecial index, 3)) (k : NJ X (pc + 3) lv rest ws cells slots) : NJ X pc lv (.ref a :: rest) ws cells slots := by
  obtain ⟨p, l, e, R, s, m, args, below, meth, c, G, nL, Q⟩ := X
  obtain ⟨rfl, rfl, rfl, rfl, hx, hb, hml, hown, hts, hK, hB⟩ := hX
  intro ls H locs hl hP hD hS
  refine W.objInit hx hb hown (hts _ h1) (hts _ h2) (hts _ h3) rfl (by rw [hml]; exact hl.1) rfl hd hf (by show 2 * 0 + _ + _ ≤ _; omega) ?_
  exact W.eq (g2 := F0 m (pc + 3) ls rest) rfl (k ls H locs hl hP hD hS)
theorem N_new (hX : nB X l G cc own nL R) {ci n : Nat} {fs : List Value} (hw : jNw own index ci n fs) (hc : cells + 1 ≤ R.cells) (hs : slots + n ≤ R.slots) (hd : decode cc pc = .ok (.new index, 3)) (k : ∀ q : Nat, NJ X (pc + 3) lv (.ref q :: rest) (ws ++ [(q, .inr (ci, fs))]) (cells + 1) (slots + n)) : NJ X pc lv rest ws cells slots := by
  obtain ⟨p, l, e, R, s, m, args, below, meth, c, G, nL, Q⟩ := X
  obtain ⟨rfl, rfl, rfl, rfl, hx, hb, hml, hown, hts, hK, hB⟩ := hX
  obtain ⟨C, T, ty0, w1, w2, w3, w4, w5, w6, w7⟩ := hw
  intro ls H locs hl hP hD hS
  exact va_new (ci := ci) (fs := fs) (C := C) (T := T) (N := n) hx hb hts w2 ty0 w3 hown (hts _ w4) (hts _ w5) (hts _ w6) hK.1 hP hD hS (fun q hq => Nat.le_trans hB hq) w1 w7 hc hs hd (fun q H1 hP1 hD1 hS1 => k q ls H1 locs hl hP1 hD1 hS1)
theorem N_newa (hX : nB X l G cc own nL R) (ha : Cond.arrayClass .int ∈ tw) {n : Int32} {n' : Nat} (hn : ¬ n < 0) (hN : n.toNatClampNeg = n') (hby : n' * componentBytes .int ≤ 536870912) (hc : cells + 1 ≤ R.cells) (hs : slots + n' ≤ R.slots) (hd : decode cc pc = .ok (.newarray .int, 2)) (k : ∀ q : Nat, NJ X (pc + 2) lv (.ref q :: rest) (ws ++ [(q, .inl (G.2.1, n', .inl (fun _ => 0)))]) (cells + 1) (slots + n')) : NJ X pc lv (.int n :: rest) ws cells slots := by
  obtain ⟨p, l, e, R, s, m, args, below, meth, c, G, nL, Q⟩ := X
  obtain ⟨rfl, rfl, rfl, rfl, hx, hb, hml, hown, hts, hK, hB⟩ := hX
  intro ls H locs hl hP hD hS
  refine va_newa (atype := .int) (a0 := (n', .inl (fun _ => 0))) hx hb (hts _ ha) rfl hK.1 hP hD hS (fun q hq => Nat.le_trans hB hq) (fun _ => rfl) hn hN hby hc hs hd (fun q cA H1 hK1 hP1 hD1 hS1 => ?_)
  have h1 : s.vm.findClass ("[" ++ (FieldType.int).toString) = some cA := (hK1.2 2 (cA, .int) rfl).2
  have h2 : s.vm.findClass ("[" ++ (FieldType.int).toString) = some G.2.1 := (hK.1.2 0 (G.2.1, .int) rfl).2
  have h3 : cA = G.2.1 := Option.some.inj (h1.symm.trans h2)
  subst h3
  exact k q ls H1 locs hl hP1 hD1 hS1
theorem N_newz (hX : nB X l G cc own nL R) (ha : Cond.arrayClass .boolean ∈ tw) {n : Int32} {n' : Nat} (hn : ¬ n < 0) (hN : n.toNatClampNeg = n') (hby : n' * componentBytes .boolean ≤ 536870912) (hc : cells + 1 ≤ R.cells) (hs : slots + n' ≤ R.slots) (hd : decode cc pc = .ok (.newarray .boolean, 2)) (k : ∀ q : Nat, NJ X (pc + 2) lv (.ref q :: rest) (ws ++ [(q, .inl (G.2.2.1, n', .inl (fun _ => 0)))]) (cells + 1) (slots + n')) : NJ X pc lv (.int n :: rest) ws cells slots := by
  obtain ⟨p, l, e, R, s, m, args, below, meth, c, G, nL, Q⟩ := X
  obtain ⟨rfl, rfl, rfl, rfl, hx, hb, hml, hown, hts, hK, hB⟩ := hX
  intro ls H locs hl hP hD hS
  refine va_newa (atype := .boolean) (a0 := (n', .inl (fun _ => 0))) hx hb (hts _ ha) rfl hK.1 hP hD hS (fun q hq => Nat.le_trans hB hq) (fun _ => rfl) hn hN hby hc hs hd (fun q cA H1 hK1 hP1 hD1 hS1 => ?_)
  have h1 : s.vm.findClass ("[" ++ (FieldType.boolean).toString) = some cA := (hK1.2 2 (cA, .boolean) rfl).2
  have h2 : s.vm.findClass ("[" ++ (FieldType.boolean).toString) = some G.2.2.1 := (hK.1.2 1 (G.2.2.1, .boolean) rfl).2
  have h3 : cA = G.2.2.1 := Option.some.inj (h1.symm.trans h2)
  subst h3
  exact k q ls H1 locs hl hP1 hD1 hS1
theorem N_putF (hX : nB X l G cc own nL R) (hI : nIn X) {A L : va_W} {h0 ci j : Nat} {fs : List Value} {v : Value} {ty : FieldType} (hf : jFF own index ci j ty) (hn : narrow ty v = v) (hfit : fits ty v = true) (hl : j < fs.length) (hd : decode cc pc = .ok (.putfield index, 3)) (k : NJ X (pc + 3) lv rest (A ++ ((h0, .inr (ci, fs.set j v)) :: L)) cells slots) : NJ X pc lv (v :: .ref h0 :: rest) (A ++ ((h0, .inr (ci, fs)) :: L)) cells slots := by
  obtain ⟨p, l, e, R, s, m, args, below, meth, c, G, nL, Q⟩ := X
  obtain ⟨rfl, rfl, rfl, rfl, hx, hb, hml, hown, hts, hK, hB⟩ := hX
  obtain ⟨C, T0, N, ty0, f1, f2, f3, f4, f5, f6, f7, f8, f9⟩ := hf
  intro ls H locs hls hP hD hS
  refine va_putF (ci := ci) (C := C) (T := T0) (N := N) hx hb hts f3 ty0 f5 f6 hown hK.1 hP hD hS A.length n_at f1 j f2 (hts _ f4) (fun _ h9 => h9) f7 hI f8 f9 hn hfit hl hd (fun H1 locs1 hP1 hD1 hS1 => ?_)
  rw [n_set] at hP1 hD1
  exact k ls H1 locs1 hls hP1 hD1 hS1
theorem N_put (hX : nB X l G cc own nL R) {A L : va_W} {h0 ci j : Nat} {fs : List Value} {v : Value} {ty : FieldType} (hf : jFP own index ci j ty) (hn : narrow ty v = v) (hfit : fits ty v = true) (hl : j < fs.length) (hd : decode cc pc = .ok (.putfield index, 3)) (k : NJ X (pc + 3) lv rest (A ++ ((h0, .inr (ci, fs.set j v)) :: L)) cells slots) : NJ X pc lv (v :: .ref h0 :: rest) (A ++ ((h0, .inr (ci, fs)) :: L)) cells slots := by
  obtain ⟨p, l, e, R, s, m, args, below, meth, c, G, nL, Q⟩ := X
  obtain ⟨rfl, rfl, rfl, rfl, hx, hb, hml, hown, hts, hK, hB⟩ := hX
  obtain ⟨C, T0, N, ty0, f1, f2, f3, f4, f5, f6, f7, f8⟩ := hf
  intro ls H locs hls hP hD hS
  refine va_put (ci := ci) (C := C) (T := T0) (N := N) hx hb hts f3 ty0 f5 f6 hown hK.1 hP hD hS A.length n_at f1 j f2 (hts _ f4) (fun _ h9 => h9) f7 f8 hn hfit hl hd (fun H1 locs1 hP1 hD1 hS1 => ?_)
  rw [n_set] at hP1 hD1
  exact k ls H1 locs1 hls hP1 hD1 hS1
theorem N_get (hX : nB X l G cc own nL R) {A L : va_W} {h0 ci j : Nat} {fs : List Value} {v : Value} (hf : jFL own index ci j) (hj : fs[j]? = some v) (hd : decode cc pc = .ok (.getfield index, 3)) (k : NJ X (pc + 3) lv (v :: rest) (A ++ ((h0, .inr (ci, fs)) :: L)) cells slots) : NJ X pc lv (.ref h0 :: rest) (A ++ ((h0, .inr (ci, fs)) :: L)) cells slots := by
  obtain ⟨p, l, e, R, s, m, args, below, meth, c, G, nL, Q⟩ := X
  obtain ⟨rfl, rfl, rfl, rfl, hx, hb, hml, hown, hts, hK, hB⟩ := hX
  obtain ⟨C, T0, N, f1, f2, f3, f4⟩ := hf
  intro ls H locs hls hP hD hS
  exact va_get (ci := ci) (C := C) (T := T0) (N := N) hx hb hts f3 hown hK.1 hP A.length n_at f1 j f2 (hts _ f4) (fun _ h9 => h9) hj hd (k ls H locs hls hP hD hS)
theorem N_as {A L M : va_W} {x : Nat × va_E} {st : List Value} (k : NJ X pc lv st (A ++ (x :: (L ++ M))) cells slots) : NJ X pc lv st ((A ++ (x :: L)) ++ M) cells slots := by
  rw [List.append_assoc, List.cons_append]; exact k
theorem N_callI (hX : nB X l G cc own nL R) {Y : jY} {As st0 : List Value} {b mc ms : Nat} {post : va_W → Prop} (hm : nC l G Y (.ref b :: As) ws post mc ms) {n : Nat} (hv : jMI Y n) (hl : Cond.methodLink own index Y.1 ∈ tw) (hrc : Y.2.2.2.2.cells = mc) (hrs : Y.2.2.2.2.slots = ms) (hro : jRo Y R) (hn : As.length = n) (hst : st0 = As.reverse ++ .ref b :: rest) (hw : (rest.map fun v => v.category).sum ≤ 8) (hc : cells + mc ≤ R.cells) (hs : slots + ms ≤ R.slots) (hd : decode cc pc = .ok (.invokespecial index, 3)) (k : ∀ ws', post ws' → NJ X (pc + 3) lv rest ws' (cells + mc) (slots + ms)) : NJ X pc lv st0 ws cells slots := by
  obtain ⟨p, l, e, R, s, m, args, below, meth, c, G, nL, Q⟩ := X
  obtain ⟨rfl, rfl, rfl, rfl, hx, hb, hml, hown, hts, hK, hB⟩ := hX
  obtain ⟨⟨w1, w2, w3⟩, hret, hnm, y1, y2, y3⟩ := hv
  intro ls H locs hls hP hD hS
  have hg : GoodIn tw (jws Y) := tw_good (by
    intro w h
    simp only [jws, List.mem_cons] at h
    rcases h with rfl | h
    · rw [hret]; exact w3
    · exact h)
  have hcw := cwI (R := R) (s := s) (args := args) (own := own) (index := index) (y := Y.1) (bytes := Y.2.1) (maxL := Y.2.2.1) (rm := Y.2.2.2.2) (mc := mc) (ms := ms) (ws := jws Y) (ws' := tw) n hts hg (by unfold jws; rw [hret]) hrc hrs (hts _ w2) (hts _ hl) (hts _ w1) hnm ⟨y1, y2, y3⟩ hro
  have hrun := va_runI (p := p) (l := l) (e := e) (below := below) (meth := meth) (locs := locs) (cells := cells) (slots := slots) (As := As) (rest := rest) (g := F0 m pc ls st0) ⟨hx, hb, hml, hown, hts⟩ hm hcw ⟨nPc_blind _ _, nPc_at hP hD hK hS hB⟩ rfl hn hls.1 hst (lv_room hw) hd ⟨hc, hs⟩
  exact nw_call hrun hS (fun ws1 H1 locs1 hpo hP1 hD1 hS1 => k ws1 hpo ls H1 locs1 hls hP1 hD1 hS1)
theorem N_callIN (hX : nB X l G cc own nL R) {Y : jY} {As st0 : List Value} {b mc ms : Nat} {post : va_W → Prop} {host : String} (hm : nC l G Y (.ref b :: As) ws post mc ms) {n : Nat} (hv : jMI Y n) (hl : (own, index, Y.1, host) ∈ jw_nl) (hrc : Y.2.2.2.2.cells = mc) (hrs : Y.2.2.2.2.slots = ms) (hro : jRo Y R) (hn : As.length = n) (hst : st0 = As.reverse ++ .ref b :: rest) (hw : (rest.map fun v => v.category).sum ≤ 8) (hc : cells + mc ≤ R.cells) (hs : slots + ms ≤ R.slots) (hd : decode cc pc = .ok (.invokespecial index, 3)) (k : ∀ ws', post ws' → NJ X (pc + 3) lv rest ws' (cells + mc) (slots + ms)) : NJ X pc lv st0 ws cells slots := by
  obtain ⟨p, l, e, R, s, m, args, below, meth, c, G, nL, Q⟩ := X
  obtain ⟨rfl, rfl, rfl, rfl, hx, hb, hml, hown, hts, hK, hB⟩ := hX
  obtain ⟨⟨w1, w2, w3⟩, hret, hnm, y1, y2, y3⟩ := hv
  intro ls H locs hls hP hD hS
  have hg : GoodIn tw (jws Y) := tw_good (by
    intro w h
    simp only [jws, List.mem_cons] at h
    rcases h with rfl | h
    · rw [hret]; exact w3
    · exact h)
  have hcw := va_cnB (R := R) (s := s) (args := args) (own := own) (host := host) (index := index) (y := Y.1) (bytes := Y.2.1) (maxL := Y.2.2.1) (ret := none) (rm := Y.2.2.2.2) (mc := mc) (ms := ms) (ws := jws Y) (ws' := tw) n hts hg (by unfold jws; rw [hret]) hrc hrs (hK.2.1 _ hl) (hts _ w2) ⟨y1, y2, y3⟩ hro
  have hrun := va_runIN (p := p) (l := l) (e := e) (below := below) (meth := meth) (locs := locs) (cells := cells) (slots := slots) (As := As) (rest := rest) (g := F0 m pc ls st0) ⟨hx, hb, hml, hown, hts⟩ hm ⟨hcw, hnm, hts _ w1⟩ ⟨nPc_blind _ _, nPc_at hP hD hK hS hB⟩ rfl hn hls.1 hst (lv_room hw) hd ⟨hc, hs⟩
  exact nw_call hrun hS (fun ws1 H1 locs1 hpo hP1 hD1 hS1 => k ws1 hpo ls H1 locs1 hls hP1 hD1 hS1)
theorem N_vret (hX : nB X l G cc own nL R) {post : va_W → Prop} {mc ms : Nat} (hM : nM X G post mc ms) (hp : post ws) (hc : cells ≤ mc) (hs : slots ≤ ms) (hd : decode cc pc = .ok (.return_, 1)) : NJ X pc lv [] ws cells slots := by
  obtain ⟨p, l, e, R, s, m, args, below, meth, c, G, nL, Q⟩ := X
  obtain ⟨rfl, rfl, rfl, rfl, hx, hb, hml, hown, hts, hK, hB⟩ := hX
  obtain ⟨hr, hlocks, rfl⟩ := hM
  intro ls H locs hl hP hD hS
  refine W.widen hc hs ?_
  exact W.vret hx hb hr (fun t ht hW => ⟨⟨ws, rfl, hp, by rw [ht]; exact hP, hD⟩, hS.F ht⟩) hS.2.2 hd hlocks
end
theorem wk_aI : Cond.arrayClass .int ∈ tw := tw_tb (List.mem_of_getElem? (i := 44) (by decide +kernel)) (by decide +kernel)
theorem wk_aZ : Cond.arrayClass .boolean ∈ tw := tw_tb (List.mem_of_getElem? (i := 1204) (by decide +kernel)) (by decide +kernel)
theorem wk_oi : Cond.instanceMethod Lib.objectInit ∈ tw := tw_tb (List.mem_of_getElem? (i := 26) (by decide +kernel)) (by decide +kernel)
theorem wk_oc : Cond.code Lib.objectInit ⟨#[0xb1]⟩ 1 none ∈ tw := tw_tb (List.mem_of_getElem? (i := 27) (by decide +kernel)) (by decide +kernel)
