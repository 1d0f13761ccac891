/-! CONSTRUCTORS: a judgement over any list of cells; new cells come behind -/
/-- what is written; the end -/
abbrev pZn : Type := (State → Nat → Prop) × (State → Array Value → List Frame → State → Prop)
def nNs (U : State) : Prop := ∀ q, q ∈ gNs → va_Nw (.methodLinkNest q.1 q.2.1 q.2.2.1 q.2.2.2) U
def nCx (K : pKi) (Z : pZn) (p : Program) (s : State) (mm : MethodId) (args : Array Value) (meth : Method) (c : Code) : Prop :=
  p.tables.exec = Jvm.exec ∧ c.code = K.1 ∧ c.maxLocals = K.2.2.1 ∧ s.vm.findClass K.2.1 = some mm.cls ∧ (∀ w, w ∈ gAW → w.before args s = true) ∧ meth.sig.returnType = K.2.2.2.1 ∧ meth.locks = false ∧ nNs s ∧ (∀ q, s.heap.size ≤ q → Z.1 s q) ∧ (Cond.arrayOver (.array .int)).before #[] s = true
def nG (l : Launch) (D : va_G) (K : pKi) (Z : pZn) (ini : Bool) (pc : Nat) (lv : List (Nat × Value)) (st : List Value) (ws : va_W) (tys : List (ClassId × FieldType)) (cells slots : Nat) : Prop :=
  ∀ (p : Program) (e : Env) (s : State) (mm : MethodId) (args : Array Value) (below : List Frame) (meth : Method) (c : Code) (H : Heap) (locs : List Loc) (ls : Array Slot),
    nCx K Z p s mm args meth c → (ini = true → meth.name = "<init>") → lv_has ls K.2.2.1 lv → va_P D gcl ws H → va_K D gcl tys s → va_D (Z.1 s) ws → va_S (Z.1 s) s.heap H locs →
    W p l e K.2.2.2.2.1 s mm args below meth c H locs cells slots (Z.2 s args below) (F0 mm pc ls st)
section NN
variable {l : Launch} {D : va_G} {K : pKi} {Z : pZn} {ini : Bool} {pc : Nat} {lv : List (Nat × Value)} {st : List Value} {ws : va_W} {tys : List (ClassId × FieldType)} {cells slots : Nat}
theorem n_iconst {n : Int} {v : Int32} (hd : decode K.1 pc = .ok (.iconst n, 1)) (hv : Int32.ofInt n = v) (h : nG l D K Z ini (pc + 1) lv (.int v :: st) ws tys cells slots) : nG l D K Z ini pc lv (st) ws tys cells slots := by
  intro p e s mm args below meth c H locs ls C hI hl hP hK hD hS
  exact lv_iconst C.1 C.2.1 hd hv (h p e s mm args below meth c H locs ls C hI hl hP hK hD hS)
theorem n_bipush {n : Int} {v : Int32} (hd : decode K.1 pc = .ok (.bipush n, 2)) (hv : (Int8.ofInt n).toInt32 = v) (h : nG l D K Z ini (pc + 2) lv (.int v :: st) ws tys cells slots) : nG l D K Z ini pc lv (st) ws tys cells slots := by
  intro p e s mm args below meth c H locs ls C hI hl hP hK hD hS
  exact lv_bipush C.1 C.2.1 hd hv (h p e s mm args below meth c H locs ls C hI hl hP hK hD hS)
theorem n_sipush {n : Int} {v : Int32} (hd : decode K.1 pc = .ok (.sipush n, 3)) (hv : (Int16.ofInt n).toInt32 = v) (h : nG l D K Z ini (pc + 3) lv (.int v :: st) ws tys cells slots) : nG l D K Z ini pc lv (st) ws tys cells slots := by
  intro p e s mm args below meth c H locs ls C hI hl hP hK hD hS
  exact lv_sipush C.1 C.2.1 hd hv (h p e s mm args below meth c H locs ls C hI hl hP hK hD hS)
theorem n_aload_n {k : Fin 4} {i q : Nat} {x : Nat} (hd : decode K.1 pc = .ok (.aload_n k, 1)) (hi : (k : Nat) = i) (hq : lv[q]? = some (i, .ref x)) (h : nG l D K Z ini (pc + 1) lv (.ref x :: st) ws tys cells slots) : nG l D K Z ini pc lv (st) ws tys cells slots := by
  intro p e s mm args below meth c H locs ls C hI hl hP hK hD hS
  exact lv_aload_n C.1 C.2.1 hd hi (lv_at hl q hq) (h p e s mm args below meth c H locs ls C hI hl hP hK hD hS)
theorem n_aload {i q : Nat} {x : Nat} (hd : decode K.1 pc = .ok (.aload i, 2)) (hq : lv[q]? = some (i, .ref x)) (h : nG l D K Z ini (pc + 2) lv (.ref x :: st) ws tys cells slots) : nG l D K Z ini pc lv (st) ws tys cells slots := by
  intro p e s mm args below meth c H locs ls C hI hl hP hK hD hS
  exact lv_aload C.1 C.2.1 hd (lv_at hl q hq) (h p e s mm args below meth c H locs ls C hI hl hP hK hD hS)
theorem n_dup {v : Value} (hd : decode K.1 pc = .ok (.dup, 1)) (hv : v.category = 1) (h : nG l D K Z ini (pc + 1) lv (v :: v :: st) ws tys cells slots) : nG l D K Z ini pc lv (v :: st) ws tys cells slots := by
  intro p e s mm args below meth c H locs ls C hI hl hP hK hD hS
  exact lv_dup C.1 C.2.1 hd hv (h p e s mm args below meth c H locs ls C hI hl hP hK hD hS)
theorem n_astore_n {lv' : List (Nat × Value)} {k : Fin 4} {i : Nat} {x : Nat} (hd : decode K.1 pc = .ok (.astore_n k, 1)) (hi : (k : Nat) = i) (hn : i < K.2.2.1) (hv : (i, Value.ref x) :: lv.filter (fun q => !(q.1 == i) && !(q.1 + 1 == i && q.2.category == 2)) = lv') (h : nG l D K Z ini (pc + 1) lv' st ws tys cells slots) : nG l D K Z ini pc lv (.ref x :: st) ws tys cells slots := by
  intro p e s mm args below meth c H locs ls C hI hl hP hK hD hS
  exact lv_astore_n C.1 C.2.1 hd hi hl hn hv (fun ls hl => h p e s mm args below meth c H locs ls C hI hl hP hK hD hS)
theorem n_obj {idx a : Nat} (hd : decode K.1 pc = .ok (.invokespecial idx, 3)) (hL : Cond.methodLink K.2.1 idx objectInit ∈ gAW) (h1 : Cond.instanceMethod objectInit ∈ gAW) (h2 : Cond.code objectInit ⟨#[0xb1]⟩ 1 none ∈ gAW) (hR : 1 ≤ K.2.2.2.2.1.frames ∧ (st.map fun v => v.category).sum + 12 ≤ K.2.2.2.2.1.locals) (h : nG l D K Z ini (pc + 3) lv st ws tys cells slots) : nG l D K Z ini pc lv (.ref a :: st) ws tys cells slots := by
  intro p e s mm args below meth c H locs ls C hI hl hP hK hD hS
  exact W.objInit C.1 C.2.1 C.2.2.2.1 (C.2.2.2.2.1 _ hL) (C.2.2.2.2.1 _ h1) (C.2.2.2.2.1 _ h2) rfl (by rw [C.2.2.1]; exact hl.1) rfl hd hR.1 (by show 2 * 0 + _ + 12 ≤ _; omega) (h p e s mm args below meth c H locs ls C hI hl hP hK hD hS)
/-- the same cells, written anew -/
theorem n_w {ws' : va_W} {tys' : List (ClassId × FieldType)} {c' s' : Nat} (h1 : ws = ws') (h2 : tys = tys') (h3 : cells = c') (h4 : slots = s') (h : nG l D K Z ini pc lv st ws' tys' c' s') : nG l D K Z ini pc lv st ws tys cells slots := by
  subst h1 h2 h3 h4
  exact h
theorem n_newa {at' : ArrayType} {ty : FieldType} {n : Int32} {N : Nat} {a0 : vp_A} (hd : decode K.1 pc = .ok (.newarray at', 2)) (harr : Cond.arrayClass (newarray.typeOf at') ∈ gAW) (hty : newarray.typeOf at' = ty) (ha : ∀ cA : ClassId, vp_cell cA a0 = arrV cA N (fun _ => defaultValue ty)) (hn : ¬ n < 0) (hN : n.toNatClampNeg = N) (hb : N * componentBytes ty ≤ 536870912) (hc : cells + 1 ≤ K.2.2.2.2.1.cells) (hs : slots + N ≤ K.2.2.2.2.1.slots) (h : ∀ (q : Nat) (cA : ClassId), nG l D K Z ini (pc + 2) lv (.ref q :: st) (ws ++ [(q, .inl (cA, a0))]) (tys ++ [(cA, ty)]) (cells + 1) (slots + N)) : nG l D K Z ini pc lv (.int n :: st) ws tys cells slots := by
  intro p e s mm args below meth c H locs ls C hI hl hP hK hD hS
  exact va_newa (atype := at') C.1 C.2.1 (C.2.2.2.2.1 _ harr) hty hK hP hD hS C.2.2.2.2.2.2.2.2.1 ha hn hN hb hc hs hd (fun q cA H1 hK1 hP1 hD1 hS1 => h q cA p e s mm args below meth c H1 locs ls C hI hl hP1 hK1 hD1 hS1)
theorem n_putF {idx ci : Nat} {Cn : String} {T : u_T} {N j q0 a : Nat} {fs : List Value} {v : Value} {ty : FieldType} (hi : ini = true) (hd : decode K.1 pc = .ok (.putfield idx, 3)) (hF : gF K.2.1 idx ci Cn T N j) (hnm : ∀ a, a < N → ∀ b, b < N → a ≠ b → (T a).2.1 ≠ (T b).2.1) {ty0 : Nat → FieldType} (hty : ∀ k, k < N → parseFieldDescriptor (T k).2.2.1 = some (ty0 k)) (hfin : (T j).2.2.2 = true) (hde : (T j).1 = K.2.1) (hpd : parseFieldDescriptor (T j).2.2.1 = some ty) (hn : narrow ty v = v) (hf : fits ty v = true) (he : ws[q0]? = some (a, .inr (ci, fs))) (hj : j < fs.length) (h : nG l D K Z ini (pc + 3) lv st (ws.set q0 (a, .inr (ci, fs.set j v))) tys cells slots) : nG l D K Z ini pc lv (v :: .ref a :: st) ws tys cells slots := by
  intro p e s mm args below meth c H locs ls C hI hl hP hK hD hS
  exact va_putF C.1 C.2.1 C.2.2.2.2.1 hF.2.2.2 ty0 hty hnm C.2.2.2.1 hK hP hD hS q0 he hF.1 j hF.2.1 (C.2.2.2.2.1 _ hF.2.2.1) (fun _ z => z) hfin (hI hi) hde hpd hn hf hj hd (fun H1 locs1 hP1 hD1 hS1 => h p e s mm args below meth c H1 locs1 ls C hI hl hP1 hK hD1 hS1)
theorem n_put {idx ci : Nat} {Cn : String} {T : u_T} {N j q0 a : Nat} {fs : List Value} {v : Value} {ty : FieldType} (hd : decode K.1 pc = .ok (.putfield idx, 3)) (hF : gF K.2.1 idx ci Cn T N j) (hw : gFw T N j ty) (hn : narrow ty v = v) (hf : fits ty v = true) (he : ws[q0]? = some (a, .inr (ci, fs))) (hj : j < fs.length) (h : nG l D K Z ini (pc + 3) lv st (ws.set q0 (a, .inr (ci, fs.set j v))) tys cells slots) : nG l D K Z ini pc lv (v :: .ref a :: st) ws tys cells slots := by
  intro p e s mm args below meth c H locs ls C hI hl hP hK hD hS
  obtain ⟨w1, ⟨ty0, w2⟩, w3, w4⟩ := hw
  exact va_put C.1 C.2.1 C.2.2.2.2.1 hF.2.2.2 ty0 w2 w1 C.2.2.2.1 hK hP hD hS q0 he hF.1 j hF.2.1 (C.2.2.2.2.1 _ hF.2.2.1) (fun _ z => z) w3 w4 hn hf hj hd (fun H1 locs1 hP1 hD1 hS1 => h p e s mm args below meth c H1 locs1 ls C hI hl hP1 hK hD1 hS1)
theorem n_get {idx ci : Nat} {Cn : String} {T : u_T} {N j q0 a : Nat} {fs : List Value} {v : Value} (hd : decode K.1 pc = .ok (.getfield idx, 3)) (hF : gF K.2.1 idx ci Cn T N j) (he : ws[q0]? = some (a, .inr (ci, fs))) (hv : fs[j]? = some v) (h : nG l D K Z ini (pc + 3) lv (v :: st) ws tys cells slots) : nG l D K Z ini pc lv (.ref a :: st) ws tys cells slots := by
  intro p e s mm args below meth c H locs ls C hI hl hP hK hD hS
  exact va_get C.1 C.2.1 C.2.2.2.2.1 hF.2.2.2 C.2.2.2.1 hK hP q0 he hF.1 j hF.2.1 (C.2.2.2.2.1 _ hF.2.2.1) (fun _ z => z) hv hd (h p e s mm args below meth c H locs ls C hI hl hP hK hD hS)
theorem n_iast {q0 t0 a n : Nat} {cA : ClassId} {f : Nat → Int32} {i x : Int32} (hd : decode K.1 pc = .ok (.iastore, 1)) (ha : ws[q0]? = some (a, .inl (cA, n, .inl f))) (ht : tys[t0]? = some (cA, .int)) (hin : ¬ oob i n) (h : nG l D K Z ini (pc + 1) lv st (ws.set q0 (a, .inl (cA, n, .inl (upd f i.toNatClampNeg x)))) tys cells slots) : nG l D K Z ini pc lv (.int x :: .int i :: .ref a :: st) ws tys cells slots := by
  intro p e s mm args below meth c H locs ls C hI hl hP hK hD hS
  exact va_iast C.1 C.2.1 hK hP hD hS q0 t0 ha ht hin hd (fun H1 locs1 hP1 hD1 hS1 => h p e s mm args below meth c H1 locs1 ls C hI hl hP1 hK hD1 hS1)
theorem n_new {idx ci : Nat} {Cn : String} {T : u_T} {N : Nat} {fs : List Value} {ty0 : Nat → FieldType} (hd : decode K.1 pc = .ok (.new idx, 3)) (hin : ∀ w, w ∈ u_ws Cn T N → w ∈ gAW) (hty : ∀ k, k < N → parseFieldDescriptor (T k).2.2.1 = some (ty0 k)) (hcl : Cond.classLink K.2.1 idx Cn ∈ gAW) (hins : Cond.instantiable Cn N ∈ gAW) (hini : Cond.initialized Cn ∈ gAW) (hc : gcl[ci]? = some (Cn, T, N)) (hfs : ∀ j, j < N → defaultValue (ty0 j) = vp_V fs j) (hce : cells + 1 ≤ K.2.2.2.2.1.cells) (hsl : slots + N ≤ K.2.2.2.2.1.slots) (h : ∀ q : Nat, nG l D K Z ini (pc + 3) lv (.ref q :: st) (ws ++ [(q, .inr (ci, fs))]) tys (cells + 1) (slots + N)) : nG l D K Z ini pc lv st ws tys cells slots := by
  intro p e s mm args below meth c H locs ls C hI hl hP hK hD hS
  exact va_new C.1 C.2.1 C.2.2.2.2.1 hin ty0 hty C.2.2.2.1 (C.2.2.2.2.1 _ hcl) (C.2.2.2.2.1 _ hins) (C.2.2.2.2.1 _ hini) hK hP hD hS C.2.2.2.2.2.2.2.2.1 hc hfs hce hsl hd (fun q H1 hP1 hD1 hS1 => h q p e s mm args below meth c H1 locs ls C hI hl hP1 hK hD1 hS1)
end NN
/-- what a constructor makes of the world: addresses and classes of its new cells -/
abbrev pU : Type := (Nat → Nat) × (Nat → ClassId)
def nB (D : va_G) (Wf : pU → va_W) (Tf : pU → List (ClassId × FieldType)) (A : Nat → Prop) (u : pU) (t : State) : Prop := va_P D gcl (Wf u) t.heap ∧ va_K D gcl (Tf u) t ∧ va_D A (Wf u)
def nW0 (D : va_G) (ws : va_W) (tys : List (ClassId × FieldType)) (sz : Nat) (U : State) : Prop := U.heap.size = sz ∧ va_P D gcl ws U.heap ∧ va_K D gcl tys U ∧ va_D (fun _ => True) ws ∧ nNs U ∧ (Cond.arrayOver (.array .int)).before #[] U = true
/-- a constructor's contract -/
def nCn (l : Launch) (D : va_G) (y : MethodName) (K : pKi) (av : List Value) (ws : va_W) (tys : List (ClassId × FieldType)) (sz : Nat) (Wf : pU → va_W) (Tf : pU → List (ClassId × FieldType)) (mc ms : Nat) : Prop :=
  Met l y (.code y K.1 K.2.2.1 K.2.2.2.1 :: gAW) K.2.2.2.2.1 (va_Pc av (nW0 D ws tys sz)) (va_Qv (fun _ : pU => True) (nB D Wf Tf (va_A ws sz)) (va_A ws sz)) mc ms (va_A ws sz)
def nZ (D : va_G) (ws : va_W) (sz : Nat) (Wf : pU → va_W) (Tf : pU → List (ClassId × FieldType)) (mc ms : Nat) : pZn := (fun _ => va_A ws sz, fun s args below => MQ below (va_Qv (fun _ : pU => True) (nB D Wf Tf (va_A ws sz)) (va_A ws sz)) args s mc ms (va_A ws sz))
theorem nCn_of {l : Launch} {D : va_G} {y : MethodName} {K : pKi} {av : List Value} {ws : va_W} {tys : List (ClassId × FieldType)} {sz : Nat} {Wf : pU → va_W} {Tf : pU → List (ClassId × FieldType)} {mc ms : Nat} {lv : List (Nat × Value)} (hy : plainName y.cls = true) (hi : y.name = "<init>") (ho : K.2.1 = y.cls) (hn : (lg_sl av).length ≤ K.2.2.1) (hlv : lv_args 0 av = lv) (h : nG l D K (nZ D ws sz Wf Tf mc ms) true 0 lv [] ws tys 0 0) : nCn l D y K av ws tys sz Wf Tf mc ms := by
  refine Met.ofW (cc := K.1) (maxL := K.2.2.1) (ret := K.2.2.2.1) hy rfl ?_
  intro p e s mm args below meth c s₁ B hml hv
  obtain ⟨rfl, hsz, hP, hK, hD, hN, hO⟩ := hv
  have hts := atoms_spec (ws := .code y K.1 K.2.2.1 K.2.2.2.1 :: gAW) B.pre
  have hown : s.vm.findClass y.cls = some mm.cls := findClass_of_methodNamed B.named
  have hin : meth.name = y.name := (name_of_methodNamed B.named B.method).1
  have hl := lv_entry av hn
  rw [lg_entry_eq]
  rw [hlv] at hl
  subst hsz
  exact h p e s mm av.toArray below meth c s.heap [] _ ⟨B.exec, B.bytes, hml, by rw [ho]; exact hown, fun w hw => hts w (List.mem_cons_of_mem _ hw), B.returns, B.notSynchronized, hN, fun q hq => Or.inr hq, hO⟩ (fun _ => by rw [hin]; exact hi) hl hP hK hD.self va_S.rf
theorem n_ret {l : Launch} {D : va_G} {K : pKi} {ini : Bool} {pc : Nat} {lv : List (Nat × Value)} {ws0 ws : va_W} {tys : List (ClassId × FieldType)} {sz : Nat} {Wf : pU → va_W} {Tf : pU → List (ClassId × FieldType)} {mc ms : Nat} (u : pU) (hd : decode K.1 pc = .ok (.return_, 1)) (hr : K.2.2.2.1 = none) (h1 : ws = Wf u) (h2 : tys = Tf u) : nG l D K (nZ D ws0 sz Wf Tf mc ms) ini pc lv [] ws tys mc ms := by
  subst h1 h2
  intro p e s mm args below meth c H locs ls C hI hl hP hK hD hS
  exact W.vret C.1 C.2.1 (C.2.2.2.2.2.1.trans hr) (fun t ht hW => ⟨⟨u, rfl, trivial, by rw [ht]; exact hP, va_K.moved hW.alike hK, hD⟩, hS.F ht⟩) hS.2.2 hd C.2.2.2.2.2.2.1
