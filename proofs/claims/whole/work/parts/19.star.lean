/-! THE START: the law's first rows, the world behind both constructors, the memory that it holds -/
def m0 : pMem := (fun k => match k with
  | 2 => fun j => if j = 6 then (-1) else 0
  | 3 => fun j => if j = 6 then 1 else 0
  | 4 => fun j => if j = 9 then (-1) else 0
  | 9 => fun j => if j = 3 then 1 else 0
  | 21 => (upd (fun _ => 0) (0 : Int32).toNatClampNeg (-1))
  | 23 => (upd (fun _ => 0) (0 : Int32).toNatClampNeg (-1))
  | 43 => (upd (fun _ => 0) (0 : Int32).toNatClampNeg 1)
  | 53 => (upd (upd (upd (upd (upd (fun _ => 0) (0 : Int32).toNatClampNeg 0) (1 : Int32).toNatClampNeg 0) (2 : Int32).toNatClampNeg 100) (3 : Int32).toNatClampNeg 0) (4 : Int32).toNatClampNeg 0)
  | 66 => (upd (fun _ => 0) (0 : Int32).toNatClampNeg (-1))
  | 75 => (upd (fun _ => 0) (0 : Int32).toNatClampNeg 1)
  | 78 => (upd (upd (upd (upd (upd (fun _ => 0) (0 : Int32).toNatClampNeg 0) (1 : Int32).toNatClampNeg 0) (2 : Int32).toNatClampNeg 100) (3 : Int32).toNatClampNeg 0) (4 : Int32).toNatClampNeg 0)
  | _ => fun _ => 0, fun _ _ => 0)
theorem gnth_at {l : List Nat} {k : Nat} (h : k < l.length) : l[k]? = some (gnth l k) := by
  induction l generalizing k with
  | nil => exact absurd h (Nat.not_lt_zero _)
  | cons a t ih => cases k with
    | zero => rfl
    | succ n => exact ih (Nat.lt_of_succ_lt_succ h)
section W9
variable {p : Program} {l : Launch} {e : Env} {s : State} {mm : MethodId} {args : Array Value} {below : List Frame} {meth : Method} {c : Code} {H : Heap} {locs : List Loc} {ls : Array Slot} {cells slots : Nat} {Q : State → Prop} {D : va_G} {K : pKi} {Z : pZn} {ws : va_W} {tys : List (ClassId × FieldType)} {pc : Nat} {lv : List (Nat × Value)} {st : List Value}
theorem w_init {idx n b mc ms : Nat} {y : MethodName} {K' : pKi} {As sk : List Value} {wsC wr : va_W} {Wf : pU → va_W} {Tf : pU → List (ClassId × FieldType)} (C : nCx K Z p s mm args meth c) (hl : lv_has ls K.2.2.1 lv) (hP : va_P D gcl ws H) (hK : va_K D gcl tys s) (hD : va_D (Z.1 s) ws) (hS : va_S (Z.1 s) s.heap H locs) (isC isR : List Nat) (hd : decode K.1 pc = .ok (.invokespecial idx, 3)) (hM : ∀ sz, nCn l D y K' (.ref b :: As) wsC [] sz Wf Tf mc ms) (hr : K'.2.2.2.1 = none) (hY : gY y K' n) (hyi : y.name = "<init>") (hI9 : Cond.instanceMethod y ∈ gAW) (hL : Cond.methodLink K.2.1 idx y ∈ gAW) (hR : K'.2.2.2.2.1.cells = mc ∧ K'.2.2.2.2.1.slots = ms ∧ K'.2.2.2.2.1.frames + 1 ≤ K.2.2.2.2.1.frames ∧ 8 + (K'.2.2.1 + 11) + K'.2.2.2.2.1.locals ≤ K.2.2.2.2.1.locals ∧ cells + mc ≤ K.2.2.2.2.1.cells ∧ slots + ms ≤ K.2.2.2.2.1.slots) (hn : As.length = n) (hsk : sk = As.reverse ++ .ref b :: st) (h8 : (st.map fun v => v.category).sum ≤ 8) (hC : isC.map (fun i => ws[i]?) = wsC.map some) (hR9 : isR.map (fun i => ws[i]?) = wr.map some) (nC : va_nd isC = true) (nR : va_nd isR = true) (hdis : ∀ i ∈ isR, i ∉ isC) (h : ∀ (u : pU) (H1 : Heap) (locs1 : List Loc), va_P D gcl (wr ++ Wf u) H1 → va_K D gcl (tys ++ Tf u) s → va_D (Z.1 s) (wr ++ Wf u) → va_S (Z.1 s) s.heap H1 locs1 → W p l e K.2.2.2.2.1 s mm args below meth c H1 locs1 (cells + mc) (slots + ms) Q (F0 mm (pc + 3) ls st)) : W p l e K.2.2.2.2.1 s mm args below meth c H locs cells slots Q (F0 mm pc ls sk) := by
  subst hsk
  have hPc : va_P D gcl wsC H := n_sub hP isC hC
  have hDc := hD.sub isC nC hC
  have hKc := hK.sub (tys' := []) [] rfl
  have hFc := va_free hD hS C.2.2.2.2.2.2.2.2.1 isC hC
  have hM9 := hM H.size
  unfold nCn at hM9
  have hY1 := hY.1
  rw [hr] at hY1
  rw [hr] at hM9
  refine va_callv (va_runI ⟨C.1, C.2.1, C.2.2.1, C.2.2.2.1, C.2.2.2.2.1⟩ hM9 ⟨callB_of n C.2.2.2.2.1 (gAW_cons hY1) rfl hR.1 hR.2.1 (C.2.2.2.2.1 _ hY.2.1) (C.2.2.2.2.1 _ hL) hY.2.2 ⟨hR.2.2.1, hR.2.2.2.1⟩, hyi, C.2.2.2.2.1 _ hI9⟩ ⟨nW0_blind, fun U hU hW => ⟨rfl, nW0_at hU hW hPc hKc hDc C.2.2.2.2.2.2.2.1 C.2.2.2.2.2.2.2.2.2⟩⟩ rfl hn hl.1 rfl (lv_room h8) hd hR.2.2.2.2) hS (fun q _ hq => hFc q hq) hFc (fun u t H1 locs1 ht hvm hpo hB hz1 hk1 hS1 => ?_)
  obtain ⟨hP1, hK1, hD1⟩ := hB
  rw [ht] at hP1
  obtain ⟨hP2, hD2⟩ := va_join hP hD isC isR hC hR9 nR hdis hk1 hFc hP1 hD1
  exact h u H1 locs1 hP2 (hK.app (va_K.moved hvm.symm hK1)) hD2 hS1
end W9
/-- the literals, out of what the Statement gives -/
abbrev gTm (i : Nat) : Term := Term.string "PartedLand$Text" (([57, 67, 69, 99, 101, 74, 79, 81, 83, 85, 91, 93, 95, 97] : List Nat).getD i 0)
theorem g_ne_0_1 : (Cond.not (Cond.eq (gTm 0) (gTm 1))) ∈ flatC (Jvm.Cond.and given_1 narrow_1) := List.mem_of_getElem? (i := 28) (by decide +kernel)
theorem g_ne_0_2 : (Cond.not (Cond.eq (gTm 0) (gTm 2))) ∈ flatC (Jvm.Cond.and given_1 narrow_1) := List.mem_of_getElem? (i := 40) (by decide +kernel)
theorem g_ne_1_2 : (Cond.not (Cond.eq (gTm 1) (gTm 2))) ∈ flatC (Jvm.Cond.and given_1 narrow_1) := List.mem_of_getElem? (i := 41) (by decide +kernel)
theorem g_ne_0_3 : (Cond.not (Cond.eq (gTm 0) (gTm 3))) ∈ flatC (Jvm.Cond.and given_1 narrow_1) := List.mem_of_getElem? (i := 48) (by decide +kernel)
theorem g_ne_1_3 : (Cond.not (Cond.eq (gTm 1) (gTm 3))) ∈ flatC (Jvm.Cond.and given_1 narrow_1) := List.mem_of_getElem? (i := 49) (by decide +kernel)
theorem g_ne_2_3 : (Cond.not (Cond.eq (gTm 2) (gTm 3))) ∈ flatC (Jvm.Cond.and given_1 narrow_1) := List.mem_of_getElem? (i := 50) (by decide +kernel)
theorem g_ne_0_4 : (Cond.not (Cond.eq (gTm 0) (gTm 4))) ∈ flatC (Jvm.Cond.and given_1 narrow_1) := List.mem_of_getElem? (i := 58) (by decide +kernel)
theorem g_ne_1_4 : (Cond.not (Cond.eq (gTm 1) (gTm 4))) ∈ flatC (Jvm.Cond.and given_1 narrow_1) := List.mem_of_getElem? (i := 59) (by decide +kernel)
theorem g_ne_2_4 : (Cond.not (Cond.eq (gTm 2) (gTm 4))) ∈ flatC (Jvm.Cond.and given_1 narrow_1) := List.mem_of_getElem? (i := 60) (by decide +kernel)
theorem g_ne_3_4 : (Cond.not (Cond.eq (gTm 3) (gTm 4))) ∈ flatC (Jvm.Cond.and given_1 narrow_1) := List.mem_of_getElem? (i := 61) (by decide +kernel)
theorem g_ne_0_5 : (Cond.not (Cond.eq (gTm 0) (gTm 5))) ∈ flatC (Jvm.Cond.and given_1 narrow_1) := List.mem_of_getElem? (i := 72) (by decide +kernel)
theorem g_ne_1_5 : (Cond.not (Cond.eq (gTm 1) (gTm 5))) ∈ flatC (Jvm.Cond.and given_1 narrow_1) := List.mem_of_getElem? (i := 73) (by decide +kernel)
theorem g_ne_2_5 : (Cond.not (Cond.eq (gTm 2) (gTm 5))) ∈ flatC (Jvm.Cond.and given_1 narrow_1) := List.mem_of_getElem? (i := 74) (by decide +kernel)
theorem g_ne_3_5 : (Cond.not (Cond.eq (gTm 3) (gTm 5))) ∈ flatC (Jvm.Cond.and given_1 narrow_1) := List.mem_of_getElem? (i := 75) (by decide +kernel)
theorem g_ne_4_5 : (Cond.not (Cond.eq (gTm 4) (gTm 5))) ∈ flatC (Jvm.Cond.and given_1 narrow_1) := List.mem_of_getElem? (i := 76) (by decide +kernel)
theorem g_ne_0_6 : (Cond.not (Cond.eq (gTm 0) (gTm 6))) ∈ flatC (Jvm.Cond.and given_1 narrow_1) := List.mem_of_getElem? (i := 86) (by decide +kernel)
theorem g_ne_1_6 : (Cond.not (Cond.eq (gTm 1) (gTm 6))) ∈ flatC (Jvm.Cond.and given_1 narrow_1) := List.mem_of_getElem? (i := 87) (by decide +kernel)
theorem g_ne_2_6 : (Cond.not (Cond.eq (gTm 2) (gTm 6))) ∈ flatC (Jvm.Cond.and given_1 narrow_1) := List.mem_of_getElem? (i := 88) (by decide +kernel)
theorem g_ne_3_6 : (Cond.not (Cond.eq (gTm 3) (gTm 6))) ∈ flatC (Jvm.Cond.and given_1 narrow_1) := List.mem_of_getElem? (i := 89) (by decide +kernel)
theorem g_ne_4_6 : (Cond.not (Cond.eq (gTm 4) (gTm 6))) ∈ flatC (Jvm.Cond.and given_1 narrow_1) := List.mem_of_getElem? (i := 90) (by decide +kernel)
theorem g_ne_5_6 : (Cond.not (Cond.eq (gTm 5) (gTm 6))) ∈ flatC (Jvm.Cond.and given_1 narrow_1) := List.mem_of_getElem? (i := 91) (by decide +kernel)
theorem g_ne_0_7 : (Cond.not (Cond.eq (gTm 0) (gTm 7))) ∈ flatC (Jvm.Cond.and given_1 narrow_1) := List.mem_of_getElem? (i := 101) (by decide +kernel)
theorem g_ne_1_7 : (Cond.not (Cond.eq (gTm 1) (gTm 7))) ∈ flatC (Jvm.Cond.and given_1 narrow_1) := List.mem_of_getElem? (i := 102) (by decide +kernel)
theorem g_ne_2_7 : (Cond.not (Cond.eq (gTm 2) (gTm 7))) ∈ flatC (Jvm.Cond.and given_1 narrow_1) := List.mem_of_getElem? (i := 103) (by decide +kernel)
theorem g_ne_3_7 : (Cond.not (Cond.eq (gTm 3) (gTm 7))) ∈ flatC (Jvm.Cond.and given_1 narrow_1) := List.mem_of_getElem? (i := 104) (by decide +kernel)
theorem g_ne_4_7 : (Cond.not (Cond.eq (gTm 4) (gTm 7))) ∈ flatC (Jvm.Cond.and given_1 narrow_1) := List.mem_of_getElem? (i := 105) (by decide +kernel)
theorem g_ne_5_7 : (Cond.not (Cond.eq (gTm 5) (gTm 7))) ∈ flatC (Jvm.Cond.and given_1 narrow_1) := List.mem_of_getElem? (i := 106) (by decide +kernel)
theorem g_ne_6_7 : (Cond.not (Cond.eq (gTm 6) (gTm 7))) ∈ flatC (Jvm.Cond.and given_1 narrow_1) := List.mem_of_getElem? (i := 107) (by decide +kernel)
theorem g_ne_0_8 : (Cond.not (Cond.eq (gTm 0) (gTm 8))) ∈ flatC (Jvm.Cond.and given_1 narrow_1) := List.mem_of_getElem? (i := 117) (by decide +kernel)
theorem g_ne_1_8 : (Cond.not (Cond.eq (gTm 1) (gTm 8))) ∈ flatC (Jvm.Cond.and given_1 narrow_1) := List.mem_of_getElem? (i := 118) (by decide +kernel)
theorem g_ne_2_8 : (Cond.not (Cond.eq (gTm 2) (gTm 8))) ∈ flatC (Jvm.Cond.and given_1 narrow_1) := List.mem_of_getElem? (i := 119) (by decide +kernel)
theorem g_ne_3_8 : (Cond.not (Cond.eq (gTm 3) (gTm 8))) ∈ flatC (Jvm.Cond.and given_1 narrow_1) := List.mem_of_getElem? (i := 120) (by decide +kernel)
theorem g_ne_4_8 : (Cond.not (Cond.eq (gTm 4) (gTm 8))) ∈ flatC (Jvm.Cond.and given_1 narrow_1) := List.mem_of_getElem? (i := 121) (by decide +kernel)
theorem g_ne_5_8 : (Cond.not (Cond.eq (gTm 5) (gTm 8))) ∈ flatC (Jvm.Cond.and given_1 narrow_1) := List.mem_of_getElem? (i := 122) (by decide +kernel)
theorem g_ne_6_8 : (Cond.not (Cond.eq (gTm 6) (gTm 8))) ∈ flatC (Jvm.Cond.and given_1 narrow_1) := List.mem_of_getElem? (i := 123) (by decide +kernel)
theorem g_ne_7_8 : (Cond.not (Cond.eq (gTm 7) (gTm 8))) ∈ flatC (Jvm.Cond.and given_1 narrow_1) := List.mem_of_getElem? (i := 124) (by decide +kernel)
theorem g_ne_0_9 : (Cond.not (Cond.eq (gTm 0) (gTm 9))) ∈ flatC (Jvm.Cond.and given_1 narrow_1) := List.mem_of_getElem? (i := 134) (by decide +kernel)
theorem g_ne_1_9 : (Cond.not (Cond.eq (gTm 1) (gTm 9))) ∈ flatC (Jvm.Cond.and given_1 narrow_1) := List.mem_of_getElem? (i := 135) (by decide +kernel)
theorem g_ne_2_9 : (Cond.not (Cond.eq (gTm 2) (gTm 9))) ∈ flatC (Jvm.Cond.and given_1 narrow_1) := List.mem_of_getElem? (i := 136) (by decide +kernel)
theorem g_ne_3_9 : (Cond.not (Cond.eq (gTm 3) (gTm 9))) ∈ flatC (Jvm.Cond.and given_1 narrow_1) := List.mem_of_getElem? (i := 137) (by decide +kernel)
theorem g_ne_4_9 : (Cond.not (Cond.eq (gTm 4) (gTm 9))) ∈ flatC (Jvm.Cond.and given_1 narrow_1) := List.mem_of_getElem? (i := 138) (by decide +kernel)
theorem g_ne_5_9 : (Cond.not (Cond.eq (gTm 5) (gTm 9))) ∈ flatC (Jvm.Cond.and given_1 narrow_1) := List.mem_of_getElem? (i := 139) (by decide +kernel)
theorem g_ne_6_9 : (Cond.not (Cond.eq (gTm 6) (gTm 9))) ∈ flatC (Jvm.Cond.and given_1 narrow_1) := List.mem_of_getElem? (i := 140) (by decide +kernel)
theorem g_ne_7_9 : (Cond.not (Cond.eq (gTm 7) (gTm 9))) ∈ flatC (Jvm.Cond.and given_1 narrow_1) := List.mem_of_getElem? (i := 141) (by decide +kernel)
theorem g_ne_8_9 : (Cond.not (Cond.eq (gTm 8) (gTm 9))) ∈ flatC (Jvm.Cond.and given_1 narrow_1) := List.mem_of_getElem? (i := 142) (by decide +kernel)
theorem g_ne_0_10 : (Cond.not (Cond.eq (gTm 0) (gTm 10))) ∈ flatC (Jvm.Cond.and given_1 narrow_1) := List.mem_of_getElem? (i := 150) (by decide +kernel)
theorem g_ne_1_10 : (Cond.not (Cond.eq (gTm 1) (gTm 10))) ∈ flatC (Jvm.Cond.and given_1 narrow_1) := List.mem_of_getElem? (i := 151) (by decide +kernel)
theorem g_ne_2_10 : (Cond.not (Cond.eq (gTm 2) (gTm 10))) ∈ flatC (Jvm.Cond.and given_1 narrow_1) := List.mem_of_getElem? (i := 152) (by decide +kernel)
theorem g_ne_3_10 : (Cond.not (Cond.eq (gTm 3) (gTm 10))) ∈ flatC (Jvm.Cond.and given_1 narrow_1) := List.mem_of_getElem? (i := 153) (by decide +kernel)
theorem g_ne_4_10 : (Cond.not (Cond.eq (gTm 4) (gTm 10))) ∈ flatC (Jvm.Cond.and given_1 narrow_1) := List.mem_of_getElem? (i := 154) (by decide +kernel)
theorem g_ne_5_10 : (Cond.not (Cond.eq (gTm 5) (gTm 10))) ∈ flatC (Jvm.Cond.and given_1 narrow_1) := List.mem_of_getElem? (i := 155) (by decide +kernel)
theorem g_ne_6_10 : (Cond.not (Cond.eq (gTm 6) (gTm 10))) ∈ flatC (Jvm.Cond.and given_1 narrow_1) := List.mem_of_getElem? (i := 156) (by decide +kernel)
theorem g_ne_7_10 : (Cond.not (Cond.eq (gTm 7) (gTm 10))) ∈ flatC (Jvm.Cond.and given_1 narrow_1) := List.mem_of_getElem? (i := 157) (by decide +kernel)
theorem g_ne_8_10 : (Cond.not (Cond.eq (gTm 8) (gTm 10))) ∈ flatC (Jvm.Cond.and given_1 narrow_1) := List.mem_of_getElem? (i := 158) (by decide +kernel)
theorem g_ne_9_10 : (Cond.not (Cond.eq (gTm 9) (gTm 10))) ∈ flatC (Jvm.Cond.and given_1 narrow_1) := List.mem_of_getElem? (i := 159) (by decide +kernel)
theorem g_ne_0_11 : (Cond.not (Cond.eq (gTm 0) (gTm 11))) ∈ flatC (Jvm.Cond.and given_1 narrow_1) := List.mem_of_getElem? (i := 170) (by decide +kernel)
theorem g_ne_1_11 : (Cond.not (Cond.eq (gTm 1) (gTm 11))) ∈ flatC (Jvm.Cond.and given_1 narrow_1) := List.mem_of_getElem? (i := 171) (by decide +kernel)
theorem g_ne_2_11 : (Cond.not (Cond.eq (gTm 2) (gTm 11))) ∈ flatC (Jvm.Cond.and given_1 narrow_1) := List.mem_of_getElem? (i := 172) (by decide +kernel)
theorem g_ne_3_11 : (Cond.not (Cond.eq (gTm 3) (gTm 11))) ∈ flatC (Jvm.Cond.and given_1 narrow_1) := List.mem_of_getElem? (i := 173) (by decide +kernel)
theorem g_ne_4_11 : (Cond.not (Cond.eq (gTm 4) (gTm 11))) ∈ flatC (Jvm.Cond.and given_1 narrow_1) := List.mem_of_getElem? (i := 174) (by decide +kernel)
theorem g_ne_5_11 : (Cond.not (Cond.eq (gTm 5) (gTm 11))) ∈ flatC (Jvm.Cond.and given_1 narrow_1) := List.mem_of_getElem? (i := 175) (by decide +kernel)
theorem g_ne_6_11 : (Cond.not (Cond.eq (gTm 6) (gTm 11))) ∈ flatC (Jvm.Cond.and given_1 narrow_1) := List.mem_of_getElem? (i := 176) (by decide +kernel)
theorem g_ne_7_11 : (Cond.not (Cond.eq (gTm 7) (gTm 11))) ∈ flatC (Jvm.Cond.and given_1 narrow_1) := List.mem_of_getElem? (i := 177) (by decide +kernel)
theorem g_ne_8_11 : (Cond.not (Cond.eq (gTm 8) (gTm 11))) ∈ flatC (Jvm.Cond.and given_1 narrow_1) := List.mem_of_getElem? (i := 178) (by decide +kernel)
theorem g_ne_9_11 : (Cond.not (Cond.eq (gTm 9) (gTm 11))) ∈ flatC (Jvm.Cond.and given_1 narrow_1) := List.mem_of_getElem? (i := 179) (by decide +kernel)
theorem g_ne_10_11 : (Cond.not (Cond.eq (gTm 10) (gTm 11))) ∈ flatC (Jvm.Cond.and given_1 narrow_1) := List.mem_of_getElem? (i := 180) (by decide +kernel)
theorem g_ne_0_12 : (Cond.not (Cond.eq (gTm 0) (gTm 12))) ∈ flatC (Jvm.Cond.and given_1 narrow_1) := List.mem_of_getElem? (i := 190) (by decide +kernel)
theorem g_ne_1_12 : (Cond.not (Cond.eq (gTm 1) (gTm 12))) ∈ flatC (Jvm.Cond.and given_1 narrow_1) := List.mem_of_getElem? (i := 191) (by decide +kernel)
theorem g_ne_2_12 : (Cond.not (Cond.eq (gTm 2) (gTm 12))) ∈ flatC (Jvm.Cond.and given_1 narrow_1) := List.mem_of_getElem? (i := 192) (by decide +kernel)
theorem g_ne_3_12 : (Cond.not (Cond.eq (gTm 3) (gTm 12))) ∈ flatC (Jvm.Cond.and given_1 narrow_1) := List.mem_of_getElem? (i := 193) (by decide +kernel)
theorem g_ne_4_12 : (Cond.not (Cond.eq (gTm 4) (gTm 12))) ∈ flatC (Jvm.Cond.and given_1 narrow_1) := List.mem_of_getElem? (i := 194) (by decide +kernel)
theorem g_ne_5_12 : (Cond.not (Cond.eq (gTm 5) (gTm 12))) ∈ flatC (Jvm.Cond.and given_1 narrow_1) := List.mem_of_getElem? (i := 195) (by decide +kernel)
theorem g_ne_6_12 : (Cond.not (Cond.eq (gTm 6) (gTm 12))) ∈ flatC (Jvm.Cond.and given_1 narrow_1) := List.mem_of_getElem? (i := 196) (by decide +kernel)
theorem g_ne_7_12 : (Cond.not (Cond.eq (gTm 7) (gTm 12))) ∈ flatC (Jvm.Cond.and given_1 narrow_1) := List.mem_of_getElem? (i := 197) (by decide +kernel)
theorem g_ne_8_12 : (Cond.not (Cond.eq (gTm 8) (gTm 12))) ∈ flatC (Jvm.Cond.and given_1 narrow_1) := List.mem_of_getElem? (i := 198) (by decide +kernel)
theorem g_ne_9_12 : (Cond.not (Cond.eq (gTm 9) (gTm 12))) ∈ flatC (Jvm.Cond.and given_1 narrow_1) := List.mem_of_getElem? (i := 199) (by decide +kernel)
theorem g_ne_10_12 : (Cond.not (Cond.eq (gTm 10) (gTm 12))) ∈ flatC (Jvm.Cond.and given_1 narrow_1) := List.mem_of_getElem? (i := 200) (by decide +kernel)
theorem g_ne_11_12 : (Cond.not (Cond.eq (gTm 11) (gTm 12))) ∈ flatC (Jvm.Cond.and given_1 narrow_1) := List.mem_of_getElem? (i := 201) (by decide +kernel)
theorem g_ne_0_13 : (Cond.not (Cond.eq (gTm 0) (gTm 13))) ∈ flatC (Jvm.Cond.and given_1 narrow_1) := List.mem_of_getElem? (i := 210) (by decide +kernel)
theorem g_ne_1_13 : (Cond.not (Cond.eq (gTm 1) (gTm 13))) ∈ flatC (Jvm.Cond.and given_1 narrow_1) := List.mem_of_getElem? (i := 211) (by decide +kernel)
theorem g_ne_2_13 : (Cond.not (Cond.eq (gTm 2) (gTm 13))) ∈ flatC (Jvm.Cond.and given_1 narrow_1) := List.mem_of_getElem? (i := 212) (by decide +kernel)
theorem g_ne_3_13 : (Cond.not (Cond.eq (gTm 3) (gTm 13))) ∈ flatC (Jvm.Cond.and given_1 narrow_1) := List.mem_of_getElem? (i := 213) (by decide +kernel)
theorem g_ne_4_13 : (Cond.not (Cond.eq (gTm 4) (gTm 13))) ∈ flatC (Jvm.Cond.and given_1 narrow_1) := List.mem_of_getElem? (i := 214) (by decide +kernel)
theorem g_ne_5_13 : (Cond.not (Cond.eq (gTm 5) (gTm 13))) ∈ flatC (Jvm.Cond.and given_1 narrow_1) := List.mem_of_getElem? (i := 215) (by decide +kernel)
theorem g_ne_6_13 : (Cond.not (Cond.eq (gTm 6) (gTm 13))) ∈ flatC (Jvm.Cond.and given_1 narrow_1) := List.mem_of_getElem? (i := 216) (by decide +kernel)
theorem g_ne_7_13 : (Cond.not (Cond.eq (gTm 7) (gTm 13))) ∈ flatC (Jvm.Cond.and given_1 narrow_1) := List.mem_of_getElem? (i := 217) (by decide +kernel)
theorem g_ne_8_13 : (Cond.not (Cond.eq (gTm 8) (gTm 13))) ∈ flatC (Jvm.Cond.and given_1 narrow_1) := List.mem_of_getElem? (i := 218) (by decide +kernel)
theorem g_ne_9_13 : (Cond.not (Cond.eq (gTm 9) (gTm 13))) ∈ flatC (Jvm.Cond.and given_1 narrow_1) := List.mem_of_getElem? (i := 219) (by decide +kernel)
theorem g_ne_10_13 : (Cond.not (Cond.eq (gTm 10) (gTm 13))) ∈ flatC (Jvm.Cond.and given_1 narrow_1) := List.mem_of_getElem? (i := 220) (by decide +kernel)
theorem g_ne_11_13 : (Cond.not (Cond.eq (gTm 11) (gTm 13))) ∈ flatC (Jvm.Cond.and given_1 narrow_1) := List.mem_of_getElem? (i := 221) (by decide +kernel)
theorem g_ne_12_13 : (Cond.not (Cond.eq (gTm 12) (gTm 13))) ∈ flatC (Jvm.Cond.and given_1 narrow_1) := List.mem_of_getElem? (i := 222) (by decide +kernel)
theorem g_nr_0 : ∀ j : Nat, j < 14 → 0 ≠ j → (Cond.not (Cond.eq (gTm 0) (gTm j))) ∈ flatC (Jvm.Cond.and given_1 narrow_1) ∨ (Cond.not (Cond.eq (gTm j) (gTm 0))) ∈ flatC (Jvm.Cond.and given_1 narrow_1) := by
  intro j hj h
  match j, hj with
  | 0, _ => exact absurd rfl h
  | 1, _ => exact Or.inl g_ne_0_1
  | 2, _ => exact Or.inl g_ne_0_2
  | 3, _ => exact Or.inl g_ne_0_3
  | 4, _ => exact Or.inl g_ne_0_4
  | 5, _ => exact Or.inl g_ne_0_5
  | 6, _ => exact Or.inl g_ne_0_6
  | 7, _ => exact Or.inl g_ne_0_7
  | 8, _ => exact Or.inl g_ne_0_8
  | 9, _ => exact Or.inl g_ne_0_9
  | 10, _ => exact Or.inl g_ne_0_10
  | 11, _ => exact Or.inl g_ne_0_11
  | 12, _ => exact Or.inl g_ne_0_12
  | 13, _ => exact Or.inl g_ne_0_13
  | j + 14, hj => exact absurd hj (by omega)
theorem g_nr_1 : ∀ j : Nat, j < 14 → 1 ≠ j → (Cond.not (Cond.eq (gTm 1) (gTm j))) ∈ flatC (Jvm.Cond.and given_1 narrow_1) ∨ (Cond.not (Cond.eq (gTm j) (gTm 1))) ∈ flatC (Jvm.Cond.and given_1 narrow_1) := by
  intro j hj h
  match j, hj with
  | 0, _ => exact Or.inr g_ne_0_1
  | 1, _ => exact absurd rfl h
  | 2, _ => exact Or.inl g_ne_1_2
  | 3, _ => exact Or.inl g_ne_1_3
  | 4, _ => exact Or.inl g_ne_1_4
  | 5, _ => exact Or.inl g_ne_1_5
  | 6, _ => exact Or.inl g_ne_1_6
  | 7, _ => exact Or.inl g_ne_1_7
  | 8, _ => exact Or.inl g_ne_1_8
  | 9, _ => exact Or.inl g_ne_1_9
  | 10, _ => exact Or.inl g_ne_1_10
  | 11, _ => exact Or.inl g_ne_1_11
  | 12, _ => exact Or.inl g_ne_1_12
  | 13, _ => exact Or.inl g_ne_1_13
  | j + 14, hj => exact absurd hj (by omega)
theorem g_nr_2 : ∀ j : Nat, j < 14 → 2 ≠ j → (Cond.not (Cond.eq (gTm 2) (gTm j))) ∈ flatC (Jvm.Cond.and given_1 narrow_1) ∨ (Cond.not (Cond.eq (gTm j) (gTm 2))) ∈ flatC (Jvm.Cond.and given_1 narrow_1) := by
  intro j hj h
  match j, hj with
  | 0, _ => exact Or.inr g_ne_0_2
  | 1, _ => exact Or.inr g_ne_1_2
  | 2, _ => exact absurd rfl h
  | 3, _ => exact Or.inl g_ne_2_3
  | 4, _ => exact Or.inl g_ne_2_4
  | 5, _ => exact Or.inl g_ne_2_5
  | 6, _ => exact Or.inl g_ne_2_6
  | 7, _ => exact Or.inl g_ne_2_7
  | 8, _ => exact Or.inl g_ne_2_8
  | 9, _ => exact Or.inl g_ne_2_9
  | 10, _ => exact Or.inl g_ne_2_10
  | 11, _ => exact Or.inl g_ne_2_11
  | 12, _ => exact Or.inl g_ne_2_12
  | 13, _ => exact Or.inl g_ne_2_13
  | j + 14, hj => exact absurd hj (by omega)
theorem g_nr_3 : ∀ j : Nat, j < 14 → 3 ≠ j → (Cond.not (Cond.eq (gTm 3) (gTm j))) ∈ flatC (Jvm.Cond.and given_1 narrow_1) ∨ (Cond.not (Cond.eq (gTm j) (gTm 3))) ∈ flatC (Jvm.Cond.and given_1 narrow_1) := by
  intro j hj h
  match j, hj with
  | 0, _ => exact Or.inr g_ne_0_3
  | 1, _ => exact Or.inr g_ne_1_3
  | 2, _ => exact Or.inr g_ne_2_3
  | 3, _ => exact absurd rfl h
  | 4, _ => exact Or.inl g_ne_3_4
  | 5, _ => exact Or.inl g_ne_3_5
  | 6, _ => exact Or.inl g_ne_3_6
  | 7, _ => exact Or.inl g_ne_3_7
  | 8, _ => exact Or.inl g_ne_3_8
  | 9, _ => exact Or.inl g_ne_3_9
  | 10, _ => exact Or.inl g_ne_3_10
  | 11, _ => exact Or.inl g_ne_3_11
  | 12, _ => exact Or.inl g_ne_3_12
  | 13, _ => exact Or.inl g_ne_3_13
  | j + 14, hj => exact absurd hj (by omega)
theorem g_nr_4 : ∀ j : Nat, j < 14 → 4 ≠ j → (Cond.not (Cond.eq (gTm 4) (gTm j))) ∈ flatC (Jvm.Cond.and given_1 narrow_1) ∨ (Cond.not (Cond.eq (gTm j) (gTm 4))) ∈ flatC (Jvm.Cond.and given_1 narrow_1) := by
  intro j hj h
  match j, hj with
  | 0, _ => exact Or.inr g_ne_0_4
  | 1, _ => exact Or.inr g_ne_1_4
  | 2, _ => exact Or.inr g_ne_2_4
  | 3, _ => exact Or.inr g_ne_3_4
  | 4, _ => exact absurd rfl h
  | 5, _ => exact Or.inl g_ne_4_5
  | 6, _ => exact Or.inl g_ne_4_6
  | 7, _ => exact Or.inl g_ne_4_7
  | 8, _ => exact Or.inl g_ne_4_8
  | 9, _ => exact Or.inl g_ne_4_9
  | 10, _ => exact Or.inl g_ne_4_10
  | 11, _ => exact Or.inl g_ne_4_11
  | 12, _ => exact Or.inl g_ne_4_12
  | 13, _ => exact Or.inl g_ne_4_13
  | j + 14, hj => exact absurd hj (by omega)
theorem g_nr_5 : ∀ j : Nat, j < 14 → 5 ≠ j → (Cond.not (Cond.eq (gTm 5) (gTm j))) ∈ flatC (Jvm.Cond.and given_1 narrow_1) ∨ (Cond.not (Cond.eq (gTm j) (gTm 5))) ∈ flatC (Jvm.Cond.and given_1 narrow_1) := by
  intro j hj h
  match j, hj with
  | 0, _ => exact Or.inr g_ne_0_5
  | 1, _ => exact Or.inr g_ne_1_5
  | 2, _ => exact Or.inr g_ne_2_5
  | 3, _ => exact Or.inr g_ne_3_5
  | 4, _ => exact Or.inr g_ne_4_5
  | 5, _ => exact absurd rfl h
  | 6, _ => exact Or.inl g_ne_5_6
  | 7, _ => exact Or.inl g_ne_5_7
  | 8, _ => exact Or.inl g_ne_5_8
  | 9, _ => exact Or.inl g_ne_5_9
  | 10, _ => exact Or.inl g_ne_5_10
  | 11, _ => exact Or.inl g_ne_5_11
  | 12, _ => exact Or.inl g_ne_5_12
  | 13, _ => exact Or.inl g_ne_5_13
  | j + 14, hj => exact absurd hj (by omega)
theorem g_nr_6 : ∀ j : Nat, j < 14 → 6 ≠ j → (Cond.not (Cond.eq (gTm 6) (gTm j))) ∈ flatC (Jvm.Cond.and given_1 narrow_1) ∨ (Cond.not (Cond.eq (gTm j) (gTm 6))) ∈ flatC (Jvm.Cond.and given_1 narrow_1) := by
  intro j hj h
  match j, hj with
  | 0, _ => exact Or.inr g_ne_0_6
  | 1, _ => exact Or.inr g_ne_1_6
  | 2, _ => exact Or.inr g_ne_2_6
  | 3, _ => exact Or.inr g_ne_3_6
  | 4, _ => exact Or.inr g_ne_4_6
  | 5, _ => exact Or.inr g_ne_5_6
  | 6, _ => exact absurd rfl h
  | 7, _ => exact Or.inl g_ne_6_7
  | 8, _ => exact Or.inl g_ne_6_8
  | 9, _ => exact Or.inl g_ne_6_9
  | 10, _ => exact Or.inl g_ne_6_10
  | 11, _ => exact Or.inl g_ne_6_11
  | 12, _ => exact Or.inl g_ne_6_12
  | 13, _ => exact Or.inl g_ne_6_13
  | j + 14, hj => exact absurd hj (by omega)
theorem g_nr_7 : ∀ j : Nat, j < 14 → 7 ≠ j → (Cond.not (Cond.eq (gTm 7) (gTm j))) ∈ flatC (Jvm.Cond.and given_1 narrow_1) ∨ (Cond.not (Cond.eq (gTm j) (gTm 7))) ∈ flatC (Jvm.Cond.and given_1 narrow_1) := by
  intro j hj h
  match j, hj with
  | 0, _ => exact Or.inr g_ne_0_7
  | 1, _ => exact Or.inr g_ne_1_7
  | 2, _ => exact Or.inr g_ne_2_7
  | 3, _ => exact Or.inr g_ne_3_7
  | 4, _ => exact Or.inr g_ne_4_7
  | 5, _ => exact Or.inr g_ne_5_7
  | 6, _ => exact Or.inr g_ne_6_7
  | 7, _ => exact absurd rfl h
  | 8, _ => exact Or.inl g_ne_7_8
  | 9, _ => exact Or.inl g_ne_7_9
  | 10, _ => exact Or.inl g_ne_7_10
  | 11, _ => exact Or.inl g_ne_7_11
  | 12, _ => exact Or.inl g_ne_7_12
  | 13, _ => exact Or.inl g_ne_7_13
  | j + 14, hj => exact absurd hj (by omega)
theorem g_nr_8 : ∀ j : Nat, j < 14 → 8 ≠ j → (Cond.not (Cond.eq (gTm 8) (gTm j))) ∈ flatC (Jvm.Cond.and given_1 narrow_1) ∨ (Cond.not (Cond.eq (gTm j) (gTm 8))) ∈ flatC (Jvm.Cond.and given_1 narrow_1) := by
  intro j hj h
  match j, hj with
  | 0, _ => exact Or.inr g_ne_0_8
  | 1, _ => exact Or.inr g_ne_1_8
  | 2, _ => exact Or.inr g_ne_2_8
  | 3, _ => exact Or.inr g_ne_3_8
  | 4, _ => exact Or.inr g_ne_4_8
  | 5, _ => exact Or.inr g_ne_5_8
  | 6, _ => exact Or.inr g_ne_6_8
  | 7, _ => exact Or.inr g_ne_7_8
  | 8, _ => exact absurd rfl h
  | 9, _ => exact Or.inl g_ne_8_9
  | 10, _ => exact Or.inl g_ne_8_10
  | 11, _ => exact Or.inl g_ne_8_11
  | 12, _ => exact Or.inl g_ne_8_12
  | 13, _ => exact Or.inl g_ne_8_13
  | j + 14, hj => exact absurd hj (by omega)
theorem g_nr_9 : ∀ j : Nat, j < 14 → 9 ≠ j → (Cond.not (Cond.eq (gTm 9) (gTm j))) ∈ flatC (Jvm.Cond.and given_1 narrow_1) ∨ (Cond.not (Cond.eq (gTm j) (gTm 9))) ∈ flatC (Jvm.Cond.and given_1 narrow_1) := by
  intro j hj h
  match j, hj with
  | 0, _ => exact Or.inr g_ne_0_9
  | 1, _ => exact Or.inr g_ne_1_9
  | 2, _ => exact Or.inr g_ne_2_9
  | 3, _ => exact Or.inr g_ne_3_9
  | 4, _ => exact Or.inr g_ne_4_9
  | 5, _ => exact Or.inr g_ne_5_9
  | 6, _ => exact Or.inr g_ne_6_9
  | 7, _ => exact Or.inr g_ne_7_9
  | 8, _ => exact Or.inr g_ne_8_9
  | 9, _ => exact absurd rfl h
  | 10, _ => exact Or.inl g_ne_9_10
  | 11, _ => exact Or.inl g_ne_9_11
  | 12, _ => exact Or.inl g_ne_9_12
  | 13, _ => exact Or.inl g_ne_9_13
  | j + 14, hj => exact absurd hj (by omega)
theorem g_nr_10 : ∀ j : Nat, j < 14 → 10 ≠ j → (Cond.not (Cond.eq (gTm 10) (gTm j))) ∈ flatC (Jvm.Cond.and given_1 narrow_1) ∨ (Cond.not (Cond.eq (gTm j) (gTm 10))) ∈ flatC (Jvm.Cond.and given_1 narrow_1) := by
  intro j hj h
  match j, hj with
  | 0, _ => exact Or.inr g_ne_0_10
  | 1, _ => exact Or.inr g_ne_1_10
  | 2, _ => exact Or.inr g_ne_2_10
  | 3, _ => exact Or.inr g_ne_3_10
  | 4, _ => exact Or.inr g_ne_4_10
  | 5, _ => exact Or.inr g_ne_5_10
  | 6, _ => exact Or.inr g_ne_6_10
  | 7, _ => exact Or.inr g_ne_7_10
  | 8, _ => exact Or.inr g_ne_8_10
  | 9, _ => exact Or.inr g_ne_9_10
  | 10, _ => exact absurd rfl h
  | 11, _ => exact Or.inl g_ne_10_11
  | 12, _ => exact Or.inl g_ne_10_12
  | 13, _ => exact Or.inl g_ne_10_13
  | j + 14, hj => exact absurd hj (by omega)
theorem g_nr_11 : ∀ j : Nat, j < 14 → 11 ≠ j → (Cond.not (Cond.eq (gTm 11) (gTm j))) ∈ flatC (Jvm.Cond.and given_1 narrow_1) ∨ (Cond.not (Cond.eq (gTm j) (gTm 11))) ∈ flatC (Jvm.Cond.and given_1 narrow_1) := by
  intro j hj h
  match j, hj with
  | 0, _ => exact Or.inr g_ne_0_11
  | 1, _ => exact Or.inr g_ne_1_11
  | 2, _ => exact Or.inr g_ne_2_11
  | 3, _ => exact Or.inr g_ne_3_11
  | 4, _ => exact Or.inr g_ne_4_11
  | 5, _ => exact Or.inr g_ne_5_11
  | 6, _ => exact Or.inr g_ne_6_11
  | 7, _ => exact Or.inr g_ne_7_11
  | 8, _ => exact Or.inr g_ne_8_11
  | 9, _ => exact Or.inr g_ne_9_11
  | 10, _ => exact Or.inr g_ne_10_11
  | 11, _ => exact absurd rfl h
  | 12, _ => exact Or.inl g_ne_11_12
  | 13, _ => exact Or.inl g_ne_11_13
  | j + 14, hj => exact absurd hj (by omega)
theorem g_nr_12 : ∀ j : Nat, j < 14 → 12 ≠ j → (Cond.not (Cond.eq (gTm 12) (gTm j))) ∈ flatC (Jvm.Cond.and given_1 narrow_1) ∨ (Cond.not (Cond.eq (gTm j) (gTm 12))) ∈ flatC (Jvm.Cond.and given_1 narrow_1) := by
  intro j hj h
  match j, hj with
  | 0, _ => exact Or.inr g_ne_0_12
  | 1, _ => exact Or.inr g_ne_1_12
  | 2, _ => exact Or.inr g_ne_2_12
  | 3, _ => exact Or.inr g_ne_3_12
  | 4, _ => exact Or.inr g_ne_4_12
  | 5, _ => exact Or.inr g_ne_5_12
  | 6, _ => exact Or.inr g_ne_6_12
  | 7, _ => exact Or.inr g_ne_7_12
  | 8, _ => exact Or.inr g_ne_8_12
  | 9, _ => exact Or.inr g_ne_9_12
  | 10, _ => exact Or.inr g_ne_10_12
  | 11, _ => exact Or.inr g_ne_11_12
  | 12, _ => exact absurd rfl h
  | 13, _ => exact Or.inl g_ne_12_13
  | j + 14, hj => exact absurd hj (by omega)
theorem g_nr_13 : ∀ j : Nat, j < 14 → 13 ≠ j → (Cond.not (Cond.eq (gTm 13) (gTm j))) ∈ flatC (Jvm.Cond.and given_1 narrow_1) ∨ (Cond.not (Cond.eq (gTm j) (gTm 13))) ∈ flatC (Jvm.Cond.and given_1 narrow_1) := by
  intro j hj h
  match j, hj with
  | 0, _ => exact Or.inr g_ne_0_13
  | 1, _ => exact Or.inr g_ne_1_13
  | 2, _ => exact Or.inr g_ne_2_13
  | 3, _ => exact Or.inr g_ne_3_13
  | 4, _ => exact Or.inr g_ne_4_13
  | 5, _ => exact Or.inr g_ne_5_13
  | 6, _ => exact Or.inr g_ne_6_13
  | 7, _ => exact Or.inr g_ne_7_13
  | 8, _ => exact Or.inr g_ne_8_13
  | 9, _ => exact Or.inr g_ne_9_13
  | 10, _ => exact Or.inr g_ne_10_13
  | 11, _ => exact Or.inr g_ne_11_13
  | 12, _ => exact Or.inr g_ne_12_13
  | 13, _ => exact absurd rfl h
  | j + 14, hj => exact absurd hj (by omega)
theorem g_ne : ∀ i : Nat, i < 14 → ∀ j : Nat, j < 14 → i ≠ j → (Cond.not (Cond.eq (gTm i) (gTm j))) ∈ flatC (Jvm.Cond.and given_1 narrow_1) ∨ (Cond.not (Cond.eq (gTm j) (gTm i))) ∈ flatC (Jvm.Cond.and given_1 narrow_1) := by
  intro i hi
  match i, hi with
  | 0, _ => exact g_nr_0
  | 1, _ => exact g_nr_1
  | 2, _ => exact g_nr_2
  | 3, _ => exact g_nr_3
  | 4, _ => exact g_nr_4
  | 5, _ => exact g_nr_5
  | 6, _ => exact g_nr_6
  | 7, _ => exact g_nr_7
  | 8, _ => exact g_nr_8
  | 9, _ => exact g_nr_9
  | 10, _ => exact g_nr_10
  | 11, _ => exact g_nr_11
  | 12, _ => exact g_nr_12
  | 13, _ => exact g_nr_13
  | i + 14, hi => exact absurd hi (by omega)
theorem g_lits {s : State} {b : Nat} (hts : ∀ w, w ∈ lw_tbl → w.before #[Value.ref b] s = true) (hg : (Jvm.Cond.and given_1 narrow_1).before #[Value.ref b] s = true) : ∃ aK aV : Nat → Nat, (∀ (i : Nat) (q : Nat × String), gSr[i]? = some q → vk_R "PartedLand$Text" q.1 q.2 (aK i) s) ∧ vk_S 14 gSl gSb aK aV (fun q => s.heap.size ≤ q) s s.heap := by
  have hs := flat_of_before _ hg
  have hA : ∀ a : Nat, a < s.heap.size → ¬ (fun q : Nat => s.heap.size ≤ q) a := fun a h => Nat.not_le.mpr h
  have c1 : ∀ i : Nat, i < 14 → (Cond.exactly (gTm i) "java/lang/String") ∈ flatC (Jvm.Cond.and given_1 narrow_1) := by decide +kernel
  have c2 : ∀ i : Nat, i < 14 → (Cond.eq (.field (gTm i) "java/lang/String" "coder" "B") (.int 0)) ∈ flatC (Jvm.Cond.and given_1 narrow_1) := by decide +kernel
  have c3 : ∀ i : Nat, i < 14 → (Cond.arrayOf (.field (gTm i) "java/lang/String" "value" "[B") .byte) ∈ flatC (Jvm.Cond.and given_1 narrow_1) := by decide +kernel
  have c4 : ∀ i : Nat, i < 14 → (Cond.eq (.length (.field (gTm i) "java/lang/String" "value" "[B")) (.int (Int32.ofNat (gSl.getD i 0)))) ∈ flatC (Jvm.Cond.and given_1 narrow_1) := by decide +kernel
  have c5 : ∀ i : Nat, i < 14 → ∀ j : Nat, j < gSl.getD i 0 → (Cond.eq (.elem (.field (gTm i) "java/lang/String" "value" "[B") (.int (Int32.ofNat j))) (.int ((gSb.getD i []).getD j 0))) ∈ flatC (Jvm.Cond.and given_1 narrow_1) := by decide +kernel
  have c6 : ∀ i : Nat, i < 14 → ∀ j : Nat, j < 14 → i ≠ j → (Cond.not (Cond.eq (gTm i) (gTm j))) ∈ flatC (Jvm.Cond.and given_1 narrow_1) ∨ (Cond.not (Cond.eq (gTm j) (gTm i))) ∈ flatC (Jvm.Cond.and given_1 narrow_1) := g_ne
  have c7 : ∀ i : Nat, i < 14 → (Cond.stringRef "PartedLand$Text" (([57, 67, 69, 99, 101, 74, 79, 81, 83, 85, 91, 93, 95, 97] : List Nat).getD i 0) ((gSr.getD i (0, "")).2)) ∈ tables_1 := by decide +kernel
  obtain ⟨aK, aV, h1, h2⟩ := vk_Sof (N := 14) (tm := gTm) (len := gSl) (byt := gSb) (by decide +kernel) (fun i hi => hs _ (c1 i hi)) (fun i hi => hs _ (c2 i hi)) (fun i hi => hs _ (c3 i hi)) (fun i hi => hs _ (c4 i hi)) (fun i hi j hj => hs _ (c5 i hi j hj)) (fun i j hi hj hij => (c6 i hi j hj hij).imp (hs _) (hs _)) hA
  refine ⟨aK, aV, fun i q hq => ?_, h1⟩
  have hi : i < 14 := (List.getElem?_eq_some_iff.mp hq).1
  have e1 : q.1 = ([57, 67, 69, 99, 101, 74, 79, 81, 83, 85, 91, 93, 95, 97] : List Nat).getD i 0 ∧ q.2 = (gSr.getD i (0, "")).2 := by
    have hd : ∀ i : Nat, i < 14 → ∀ q ∈ gSr[i]?, q.1 = ([57, 67, 69, 99, 101, 74, 79, 81, 83, 85, 91, 93, 95, 97] : List Nat).getD i 0 ∧ q.2 = (gSr.getD i (0, "")).2 := by decide +kernel
    exact hd i hi q hq
  rw [e1.1, e1.2]
  exact vk_R.of (hts _ (List.mem_append_right _ (c7 i hi))) (h2 i hi)
abbrev gEv (l : Launch) (D : va_G) (aK aV : Nat → Nat) (q1 : Nat) (u1 : pU) (q2 : Nat) (u2 : pU) : pEv := (l, D.1, D.2, fun k => gnth [0, 0, 0, 0, 0, 0, 0, 0, 0, 0, (u1.2 63), (u1.2 50), (u1.2 51), (u1.2 52), (u1.2 53), (u1.2 54), (u1.2 55), (u1.2 56), (u1.2 57), (u1.2 1), (u1.2 2), (u1.2 3), (u1.2 4), (u1.2 5), (u1.2 6), (u1.2 7), (u1.2 8), (u1.2 9), (u1.2 10), (u1.2 13), (u1.2 1), (u1.2 1), (u1.2 1), (u1.2 1), (u1.2 1), (u1.2 1), (u1.2 1), (u1.2 1), (u1.2 1), (u1.2 1), (u1.2 1), (u1.2 1), (u1.2 1), (u1.2 27), (u1.2 44), (u1.2 45), (u1.2 46), (u1.2 47), (u1.2 48), (u1.2 59), (u1.2 60), (u1.2 61), (u1.2 29), (u1.2 30), (u1.2 31), (u1.2 39), (u1.2 40), (u1.2 41), (u1.2 42), (u1.2 33), (u1.2 34), (u1.2 35), (u1.2 36), (u1.2 37), (u2.2 0), (u2.2 1), (u2.2 2), (u2.2 3), (u2.2 4), (u2.2 5), (u2.2 6), (u2.2 7), (u2.2 8), (u2.2 9), (u2.2 10), (u2.2 11), (u2.2 12), (u2.2 13), (u2.2 14), (u2.2 15), (u2.2 16), (u2.2 17), (u2.2 18), (u2.2 19), (u2.2 20), (u2.2 21), (u2.2 22), (u2.2 23), (u2.2 24), (u2.2 25), (u2.2 26), (u2.2 27), (u2.2 28), (u2.2 29), (u2.2 30), (u2.2 31), (u2.2 32), (u2.2 33), (u2.2 34), (u2.2 35), (u2.2 36), (u2.2 37), (u2.2 38), (u2.2 39), (u2.2 40), (u2.2 41), (u1.2 11), (u1.2 12)] k, fun k => gnth [q1, (u1.1 62), (u1.1 49), (u1.1 0), (u1.1 43), (u1.1 58), (u1.1 28), (u1.1 38), (u1.1 32), q2, (u1.1 63), (u1.1 50), (u1.1 51), (u1.1 52), (u1.1 53), (u1.1 54), (u1.1 55), (u1.1 56), (u1.1 57), (u1.1 1), (u1.1 2), (u1.1 3), (u1.1 4), (u1.1 5), (u1.1 6), (u1.1 7), (u1.1 8), (u1.1 9), (u1.1 10), (u1.1 13), (u1.1 14), (u1.1 15), (u1.1 16), (u1.1 17), (u1.1 18), (u1.1 19), (u1.1 20), (u1.1 21), (u1.1 22), (u1.1 23), (u1.1 24), (u1.1 25), (u1.1 26), (u1.1 27), (u1.1 44), (u1.1 45), (u1.1 46), (u1.1 47), (u1.1 48), (u1.1 59), (u1.1 60), (u1.1 61), (u1.1 29), (u1.1 30), (u1.1 31), (u1.1 39), (u1.1 40), (u1.1 41), (u1.1 42), (u1.1 33), (u1.1 34), (u1.1 35), (u1.1 36), (u1.1 37), (u2.1 0), (u2.1 1), (u2.1 2), (u2.1 3), (u2.1 4), (u2.1 5), (u2.1 6), (u2.1 7), (u2.1 8), (u2.1 9), (u2.1 10), (u2.1 11), (u2.1 12), (u2.1 13), (u2.1 14), (u2.1 15), (u2.1 16), (u2.1 17), (u2.1 18), (u2.1 19), (u2.1 20), (u2.1 21), (u2.1 22), (u2.1 23), (u2.1 24), (u2.1 25), (u2.1 26), (u2.1 27), (u2.1 28), (u2.1 29), (u2.1 30), (u2.1 31), (u2.1 32), (u2.1 33), (u2.1 34), (u2.1 35), (u2.1 36), (u2.1 37), (u2.1 38), (u2.1 39), (u2.1 40), (u2.1 41), (u1.1 11), (u1.1 12)] k, aK, aV)
abbrev gWf (q1 : Nat) (u1 : pU) (q2 : Nat) (u2 : pU) : va_W := WX8_init q1 u1 ++ WX9_init q2 u2
theorem gWf_wG (l : Launch) (D : va_G) (aK aV : Nat → Nat) (q1 : Nat) (u1 : pU) (q2 : Nat) (u2 : pU) : ([0, 63, 50, 1, 44, 59, 29, 39, 33, 65, 64, 51, 52, 53, 54, 55, 56, 57, 58, 2, 3, 4, 5, 6, 7, 8, 9, 10, 11, 14, 15, 16, 17, 18, 19, 20, 21, 22, 23, 24, 25, 26, 27, 28, 45, 46, 47, 48, 49, 60, 61, 62, 30, 31, 32, 40, 41, 42, 43, 34, 35, 36, 37, 38, 66, 67, 68, 69, 70, 71, 72, 73, 74, 75, 76, 77, 78, 79, 107, 80, 81, 82, 83, 84, 85, 86, 87, 88, 89, 90, 91, 92, 93, 94, 95, 96, 97, 98, 99, 100, 101, 102, 103, 104, 105, 106, 12, 13] : List Nat).map (fun i => (gWf q1 u1 q2 u2)[i]?) = (wG (gEv l D aK aV q1 u1 q2 u2) m0).map some := by
  have hrow : (fun i : Nat => if i < 13 then some (u1.1 (14 + i)) else none) = (fun i => if i < 13 then some (gnth [q1, (u1.1 62), (u1.1 49), (u1.1 0), (u1.1 43), (u1.1 58), (u1.1 28), (u1.1 38), (u1.1 32), q2, (u1.1 63), (u1.1 50), (u1.1 51), (u1.1 52), (u1.1 53), (u1.1 54), (u1.1 55), (u1.1 56), (u1.1 57), (u1.1 1), (u1.1 2), (u1.1 3), (u1.1 4), (u1.1 5), (u1.1 6), (u1.1 7), (u1.1 8), (u1.1 9), (u1.1 10), (u1.1 13), (u1.1 14), (u1.1 15), (u1.1 16), (u1.1 17), (u1.1 18), (u1.1 19), (u1.1 20), (u1.1 21), (u1.1 22), (u1.1 23), (u1.1 24), (u1.1 25), (u1.1 26), (u1.1 27), (u1.1 44), (u1.1 45), (u1.1 46), (u1.1 47), (u1.1 48), (u1.1 59), (u1.1 60), (u1.1 61), (u1.1 29), (u1.1 30), (u1.1 31), (u1.1 39), (u1.1 40), (u1.1 41), (u1.1 42), (u1.1 33), (u1.1 34), (u1.1 35), (u1.1 36), (u1.1 37), (u2.1 0), (u2.1 1), (u2.1 2), (u2.1 3), (u2.1 4), (u2.1 5), (u2.1 6), (u2.1 7), (u2.1 8), (u2.1 9), (u2.1 10), (u2.1 11), (u2.1 12), (u2.1 13), (u2.1 14), (u2.1 15), (u2.1 16), (u2.1 17), (u2.1 18), (u2.1 19), (u2.1 20), (u2.1 21), (u2.1 22), (u2.1 23), (u2.1 24), (u2.1 25), (u2.1 26), (u2.1 27), (u2.1 28), (u2.1 29), (u2.1 30), (u2.1 31), (u2.1 32), (u2.1 33), (u2.1 34), (u2.1 35), (u2.1 36), (u2.1 37), (u2.1 38), (u2.1 39), (u2.1 40), (u2.1 41), (u1.1 11), (u1.1 12)] (30 + i)) else none) := grow_eq (fun i => u1.1 (14 + i)) [q1, (u1.1 62), (u1.1 49), (u1.1 0), (u1.1 43), (u1.1 58), (u1.1 28), (u1.1 38), (u1.1 32), q2, (u1.1 63), (u1.1 50), (u1.1 51), (u1.1 52), (u1.1 53), (u1.1 54), (u1.1 55), (u1.1 56), (u1.1 57), (u1.1 1), (u1.1 2), (u1.1 3), (u1.1 4), (u1.1 5), (u1.1 6), (u1.1 7), (u1.1 8), (u1.1 9), (u1.1 10), (u1.1 13), (u1.1 14), (u1.1 15), (u1.1 16), (u1.1 17), (u1.1 18), (u1.1 19), (u1.1 20), (u1.1 21), (u1.1 22), (u1.1 23), (u1.1 24), (u1.1 25), (u1.1 26), (u1.1 27), (u1.1 44), (u1.1 45), (u1.1 46), (u1.1 47), (u1.1 48), (u1.1 59), (u1.1 60), (u1.1 61), (u1.1 29), (u1.1 30), (u1.1 31), (u1.1 39), (u1.1 40), (u1.1 41), (u1.1 42), (u1.1 33), (u1.1 34), (u1.1 35), (u1.1 36), (u1.1 37), (u2.1 0), (u2.1 1), (u2.1 2), (u2.1 3), (u2.1 4), (u2.1 5), (u2.1 6), (u2.1 7), (u2.1 8), (u2.1 9), (u2.1 10), (u2.1 11), (u2.1 12), (u2.1 13), (u2.1 14), (u2.1 15), (u2.1 16), (u2.1 17), (u2.1 18), (u2.1 19), (u2.1 20), (u2.1 21), (u2.1 22), (u2.1 23), (u2.1 24), (u2.1 25), (u2.1 26), (u2.1 27), (u2.1 28), (u2.1 29), (u2.1 30), (u2.1 31), (u2.1 32), (u2.1 33), (u2.1 34), (u2.1 35), (u2.1 36), (u2.1 37), (u2.1 38), (u2.1 39), (u2.1 40), (u2.1 41), (u1.1 11), (u1.1 12)] 30 trivial (by intro i hi; match i, hi with | 0, _ => rfl | 1, _ => rfl | 2, _ => rfl | 3, _ => rfl | 4, _ => rfl | 5, _ => rfl | 6, _ => rfl | 7, _ => rfl | 8, _ => rfl | 9, _ => rfl | 10, _ => rfl | 11, _ => rfl | 12, _ => rfl | i + 13, h => exact absurd h (by omega))
  unfold gWf WX8_init
  rw [hrow]
  rfl
set_option maxRecDepth 100000 in
theorem gTf_tG (l : Launch) (D : va_G) (aK aV : Nat → Nat) (q1 : Nat) (u1 : pU) (q2 : Nat) (u2 : pU) : ([42, 31, 32, 33, 34, 35, 36, 37, 38, 0, 1, 2, 3, 4, 5, 6, 7, 8, 9, 12, 0, 0, 0, 0, 0, 0, 0, 0, 0, 0, 0, 0, 0, 13, 26, 27, 28, 29, 30, 39, 40, 41, 14, 15, 16, 22, 23, 24, 25, 17, 18, 19, 20, 21, 43, 44, 45, 46, 47, 48, 49, 50, 51, 52, 53, 54, 55, 56, 57, 58, 59, 60, 61, 62, 63, 64, 65, 66, 67, 68, 69, 70, 71, 72, 73, 74, 75, 76, 77, 78, 79, 80, 81, 82, 83, 84, 10, 11] : List Nat).filterMap (fun i => (TX8_init_ u1 ++ TX9_init_ u2)[i]?) = tG (gEv l D aK aV q1 u1 q2 u2) := rfl
set_option maxRecDepth 100000 in
theorem whole_open {p : Program} {e : Env} {s : State} {m : MethodId} {below : List Frame} {meth : Method} {c : Code} (l : Launch) {b L : Nat} {xs : Nat → Int32} (hm : ∃ z, sL_law_l18 L xs 5000 0 m0 = some (1, z)) (C0 : lw_At p s m meth c b L xs) : W p l e room_1 s m #[Value.ref b] below meth c s.heap [] 0 0 (lw_Z below #[Value.ref b] s) (entryFrame m ([Value.ref b] : List Value).toArray 4) := by
  obtain ⟨hx, hb, hr, hml, hown, hts, hX, hbl, hlocks, hgv⟩ := id C0
  have hAW : ∀ w, w ∈ gAW → w.before #[Value.ref b] s = true := fun w hw => hts w (List.mem_filter.mp hw).1
  obtain ⟨aK, aV, hR9, hZ9⟩ := g_lits hts hgv
  obtain ⟨c0, i0, k0⟩ := u_known (C := RX0) (T := TX0) (N := 1) (n := 1) hAW inX0 (hAW _ (gAW_at 310 (by decide +kernel) rfl))
  obtain ⟨c1, i1, k1⟩ := u_known (C := RX1) (T := TX1) (N := 12) (n := 12) hAW inX1 (hAW _ (gAW_at 241 (by decide +kernel) rfl))
  obtain ⟨c2, i2, k2⟩ := u_known (C := RX2) (T := TX2) (N := 17) (n := 17) hAW inX2 (hAW _ (gAW_at 28 (by decide +kernel) rfl))
  obtain ⟨c3, i3, k3⟩ := u_known (C := RX3) (T := TX3) (N := 13) (n := 13) hAW inX3 (hAW _ (gAW_at 193 (by decide +kernel) rfl))
  obtain ⟨c4, i4, k4⟩ := u_known (C := RX4) (T := TX4) (N := 4) (n := 4) hAW inX4 (hAW _ (gAW_at 287 (by decide +kernel) rfl))
  obtain ⟨c5, i5, k5⟩ := u_known (C := RX5) (T := TX5) (N := 7) (n := 7) hAW inX5 (hAW _ (gAW_at 112 (by decide +kernel) rfl))
  obtain ⟨c6, i6, k6⟩ := u_known (C := RX6) (T := TX6) (N := 5) (n := 5) hAW inX6 (hAW _ (gAW_at 170 (by decide +kernel) rfl))
  obtain ⟨c7, i7, k7⟩ := u_known (C := RX7) (T := TX7) (N := 6) (n := 6) hAW inX7 (hAW _ (gAW_at 143 (by decide +kernel) rfl))
  obtain ⟨c8, i8, k8⟩ := u_known (C := RX8) (T := TX8) (N := 8) (n := 8) hAW inX8 (hAW _ (gAW_at 20 (by decide +kernel) rfl))
  obtain ⟨c9, i9, k9⟩ := u_known (C := RX9) (T := TX9) (N := 60) (n := 60) hAW inX9 (hAW _ (gAW_at 838 (by decide +kernel) rfl))
  obtain ⟨D, hKc⟩ : ∃ D : va_G, ∀ (k : Nat) (q : vw_C), gcl[k]? = some q → u_Kn s q.1 q.2.1 q.2.2 (D.1 k) (D.2 k) := by
    refine ⟨(fun k => match k with | 0 => c0 | 1 => c1 | 2 => c2 | 3 => c3 | 4 => c4 | 5 => c5 | 6 => c6 | 7 => c7 | 8 => c8 | _ => c9, fun k => match k with | 0 => i0 | 1 => i1 | 2 => i2 | 3 => i3 | 4 => i4 | 5 => i5 | 6 => i6 | 7 => i7 | 8 => i8 | _ => i9), ?_⟩
    intro k q hq
    match k, hq with
    | 0, hq => cases hq; exact k0
    | 1, hq => cases hq; exact k1
    | 2, hq => cases hq; exact k2
    | 3, hq => cases hq; exact k3
    | 4, hq => cases hq; exact k4
    | 5, hq => cases hq; exact k5
    | 6, hq => cases hq; exact k6
    | 7, hq => cases hq; exact k7
    | 8, hq => cases hq; exact k8
    | 9, hq => cases hq; exact k9
    | k + 10, hq => simp [gcl] at hq
  have hNs : nNs s := by
    have h : ∀ q, q ∈ gNs → Cond.methodLinkNest q.1 q.2.1 q.2.2.1 q.2.2.2 ∈ tables_1 := by decide +kernel
    exact fun q hq => va_Nw.of rfl (hts _ (List.mem_append_right _ (h q hq)))
  have hAO : va_AOA .int s := (hts _ (List.mem_append_right _ (List.mem_of_getElem? (i := 34) (by decide +kernel))) : (Cond.arrayOver (.array .int)).before #[Value.ref b] s = true)
  have C : nCx kL_law ((fun s q => s.heap.size ≤ q), fun s args below => lw_Z below args s) p s m #[Value.ref b] meth c := ⟨hx, hb, hml, hown, hAW, hr, hlocks, hNs, fun q h => h, hAO⟩
  have hA : ∀ q : Nat, s.heap.size ≤ q → (fun q : Nat => s.heap.size ≤ q) q := fun _ h => h
  have hS : va_S (fun q : Nat => s.heap.size ≤ q) s.heap s.heap [] := va_S.rf
  have hK : va_K D gcl [] s := ⟨hKc, fun k q h => by simp at h⟩
  have hP : va_P D gcl [] s.heap := fun k q h => by simp at h
  have hD : va_D (fun q : Nat => s.heap.size ≤ q) [] := ⟨fun i j p q h => by simp at h, fun k q h => by simp at h⟩
  have hl := lv_entry ([.ref b]) (n := 4) (Nat.le_of_ble_eq_true rfl)
  rw [lg_entry_eq]
  generalize (lg_sl ([.ref b]) ++ List.replicate (4 - (lg_sl ([.ref b])).length) Slot.unset).toArray = ls at hl ⊢
  have hl : lv_has ls 4 [(0, .ref b)] := hl
  refine va_new (ci := 8) (fs := [.null, .null, .null, .null, .null, .null, .null, .null]) (C := RX8) (T := TX8) (N := 8) hx hb hAW inX8 tyX8 tyX8_ok hown (hAW (.classLink R_law 7 RX8) (gAW_at 19 (by decide +kernel) rfl)) (hAW (.instantiable RX8 8) (gAW_at 20 (by decide +kernel) rfl)) (hAW (.initialized RX8) (gAW_at 1 (by decide +kernel) rfl)) hK hP hD hS hA rfl dvX8 (Nat.le_of_ble_eq_true rfl) (Nat.le_of_ble_eq_true rfl) dL_law_0 (fun q1 H hP hD hS => ?_)
  refine lv_dup hx hb dL_law_3 rfl ?_
  refine w_init (K := kL_law) (Z := ((fun s q => s.heap.size ≤ q), fun s args below => lw_Z below args s)) C hl hP hK hD hS [0] [] (wr := []) dL_law_4 (fun sz => nX8_init l D q1 sz) rfl gyX8_init rfl giX8_init mL_9 ⟨rfl, rfl, Nat.le_of_ble_eq_true rfl, Nat.le_of_ble_eq_true rfl, Nat.le_of_ble_eq_true rfl, Nat.le_of_ble_eq_true rfl⟩ (As := []) rfl rfl (Nat.le_of_ble_eq_true rfl) rfl rfl rfl rfl (by decide) (fun u1 H locs hP hK hD hS => ?_)
  refine lv_astore_n (lv' := [(1, .ref q1), (0, .ref b)]) hx hb dL_law_7 rfl hl (by decide) rfl (fun ls hl => ?_)
  refine va_new (ci := 9) (fs := [.int 0, .null, .null, .int 0, .null, .null, .int 0, .null, .null, .null, .null, .null, .null, .null, .null, .int 0, .null, .int 0, .int 0, .long 0, .int 0, .int 0, .int 0, .int 0, .null, .null, .int 0, .null, .null, .null, .null, .null, .int 0, .null, .null, .null, .null, .null, .int 0, .int 0, .null, .null, .null, .null, .null, .null, .int 0, .null, .null, .null, .null, .int 0, .null, .null, .null, .int 0, .null, .null, .null, .null]) (C := RX9) (T := TX9) (N := 60) hx hb hAW inX9 tyX9 tyX9_ok hown (hAW (.classLink R_law 10 RX9) (gAW_at 837 (by decide +kernel) rfl)) (hAW (.instantiable RX9 60) (gAW_at 838 (by decide +kernel) rfl)) (hAW (.initialized RX9) (gAW_at 10 (by decide +kernel) rfl)) hK hP hD hS hA rfl dvX9 (Nat.le_of_ble_eq_true rfl) (Nat.le_of_ble_eq_true rfl) dL_law_8 (fun q2 H hP hD hS => ?_)
  refine lv_dup hx hb dL_law_11 rfl ?_
  refine w_init (K := kL_law) (Z := ((fun s q => s.heap.size ≤ q), fun s args below => lw_Z below args s)) C hl hP hK hD hS [65] [0, 1, 2, 3, 4, 5, 6, 7, 8, 9, 10, 11, 12, 13, 14, 15, 16, 17, 18, 19, 20, 21, 22, 23, 24, 25, 26, 27, 28, 29, 30, 31, 32, 33, 34, 35, 36, 37, 38, 39, 40, 41, 42, 43, 44, 45, 46, 47, 48, 49, 50, 51, 52, 53, 54, 55, 56, 57, 58, 59, 60, 61, 62, 63, 64] (wr := WX8_init q1 u1) dL_law_12 (fun sz => nX9_init l D q2 sz) rfl gyX9_init rfl giX9_init mL_12 ⟨rfl, rfl, Nat.le_of_ble_eq_true rfl, Nat.le_of_ble_eq_true rfl, Nat.le_of_ble_eq_true rfl, Nat.le_of_ble_eq_true rfl⟩ (As := []) rfl rfl (Nat.le_of_ble_eq_true rfl) rfl rfl rfl rfl (by decide) (fun u2 H locs hP hK hD hS => ?_)
  refine lv_astore_n (lv' := [(2, .ref q2), (1, .ref q1), (0, .ref b)]) hx hb dL_law_15 rfl hl (by decide) rfl (fun ls hl => ?_)
  refine lv_iconst (v := 0) hx hb dL_law_16 (by decide) ?_
  refine lv_istore_n (lv' := [(3, .int 0), (2, .ref q2), (1, .ref q1), (0, .ref b)]) hx hb dL_law_17 rfl hl (by decide) rfl (fun ls hl => ?_)
  obtain ⟨z, hz⟩ := hm
  have hPg : va_P D gcl (wG (gEv l D aK aV q1 u1 q2 u2) m0) H := n_sub hP _ (gWf_wG l D aK aV q1 u1 q2 u2)
  have hDg : va_D (fun q : Nat => s.heap.size ≤ q) (wG (gEv l D aK aV q1 u1 q2 u2) m0) := hD.sub _ (by decide +kernel) (gWf_wG l D aK aV q1 u1 q2 u2)
  have hKg : va_K D gcl (tG (gEv l D aK aV q1 u1 q2 u2)) s := hK.sub _ (gTf_tG l D aK aV q1 u1 q2 u2)
  have hge : ∀ k, k < 108 → s.heap.size ≤ eA (gEv l D aK aV q1 u1 q2 u2) k := by
    intro k hk
    have h1 : ((wG (gEv l D aK aV q1 u1 q2 u2) m0).map Prod.fst)[k]? = some (eA (gEv l D aK aV q1 u1 q2 u2) k) := by rw [wG_adr, List.getElem?_map, List.getElem?_range hk]; rfl
    rw [List.getElem?_map] at h1
    obtain ⟨q, hq, e1⟩ := Option.map_eq_some_iff.mp h1
    have := hDg.2 k q hq
    rw [e1] at this
    exact this
  have hDs : gDs (gEv l D aK aV q1 u1 q2 u2) := by
    intro i j hi hj hij
    have h1 : ∀ k, k < 108 → ∃ q, (wG (gEv l D aK aV q1 u1 q2 u2) m0)[k]? = some q ∧ q.1 = eA (gEv l D aK aV q1 u1 q2 u2) k := by
      intro k hk
      have h1 : ((wG (gEv l D aK aV q1 u1 q2 u2) m0).map Prod.fst)[k]? = some (eA (gEv l D aK aV q1 u1 q2 u2) k) := by rw [wG_adr, List.getElem?_map, List.getElem?_range hk]; rfl
      rw [List.getElem?_map] at h1
      obtain ⟨q, hq, e1⟩ := Option.map_eq_some_iff.mp h1
      exact ⟨q, hq, e1⟩
    obtain ⟨qi, a1, a2⟩ := h1 i hi
    obtain ⟨qj, b1, b2⟩ := h1 j hj
    exact hDg.1 i j qi qj a1 b1 (by rw [a2, b2]; exact hij)
  have hFA : ∀ q, FA (gEv l D aK aV q1 u1 q2 u2) q → s.heap.size ≤ q := fun q hq => by
    obtain ⟨k, hk, rfl⟩ := hq
    exact hge k hk
  have hs9 := flat_of_before _ hgv
  have hC9 : va_Z "java/lang/String" "COMPACT_STRINGS" "Z" (.int 1) (fun q : Nat => s.heap.size ≤ q) s s.heap := va_Zof (hts (.laysStatic "java/lang/String" "COMPACT_STRINGS" "Z") (List.mem_append_right _ (List.mem_of_getElem? (i := 523) (by decide +kernel)))) (hAW (.initialized "java/lang/String") (gAW_at 13 (by decide +kernel) rfl)) (va_eqt (hs9 (.eq (.static "java/lang/String" "COMPACT_STRINGS" "Z") (.int 1)) (by decide +kernel))) (fun a h => Nat.not_le.mpr h)
  have hF9 : va_Zq "jdk/internal/util/Preconditions" "SIOOBE_FORMATTER" "Ljava/util/function/BiFunction;" (fun q : Nat => s.heap.size ≤ q) s s.heap := va_Zqof (hts (.laysStatic "jdk/internal/util/Preconditions" "SIOOBE_FORMATTER" "Ljava/util/function/BiFunction;") (List.mem_append_right _ (List.mem_of_getElem? (i := 539) (by decide +kernel)))) (hAW (.initialized "jdk/internal/util/Preconditions") (gAW_at 15 (by decide +kernel) rfl)) (hs9 (.isRef (.static "jdk/internal/util/Preconditions" "SIOOBE_FORMATTER" "Ljava/util/function/BiFunction;")) (by decide +kernel)) (fun a h => Nat.not_le.mpr h)
  have hKK : gKK (gEv l D aK aV q1 u1 q2 u2) s := ⟨hKg, hNs, hR9, hZ9.narrow hFA, hC9.narrow hFA, hF9.narrow hFA⟩
  exact wL_law_l18 (gEv l D aK aV q1 u1 q2 u2) z b L xs 5000 0 m0 hz p e s m #[Value.ref b] below meth c H locs ls ⟨hx, hb, hml, hown, hAW, hr, hlocks, hKK, hDs, hge, fun a h1 h2 => absurd h1 (Nat.not_lt.mpr h2), rfl, hX, hbl⟩ (lv_sub hl [3, 2, 1, 0] rfl) hPg hS
