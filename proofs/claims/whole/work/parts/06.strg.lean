/-! literals and their JDK methods; a boolean's return -/
section ZR
variable {p : Program} {l : Launch} {e : Env} {R : Room} {s : State} {m : MethodId} {args : Array Value} {below : List Frame} {meth : Method} {c : Code} {H : Heap} {locs : List Loc} {cells slots : Nat}
theorem W_zretn {cc : ByteArray} {Qc : Array Value → State → Outcome → State → Prop} {free : Addr → Prop} {v v' : Int32} {ty : FieldType} (hexec : p.tables.exec = Jvm.exec) (hb : c.code = cc) (hr : meth.sig.returnType = some ty) (hn : narrow ty (.int v) = .int v')
    (hq : ∀ t : State, t.heap = H → s.WarmedH t.vm → Qc args s (.returned (some (.int v'))) t) (hf : ∀ q ∈ locs, free q.base)
    {pc : Nat} {ls : Array Slot} (hdg : decode cc pc = .ok (.ireturn, 1)) (hlocks : meth.locks = false) : W p l e R s m args below meth c H locs cells slots (MQ below Qc args s cells slots free) (F0 m pc ls [.int v]) := by
  intro T hT X
  have hlocks : meth.locks = false := hlocks
  obtain ⟨fs, hret, hrun, hended, hW, hframe⟩ := X.leave (v := some (.int v')) (fun h => by rw [hr] at h; cases h)
  have hmeth' : T.vm.method? m = some meth := X.method'
  refine ⟨T.setFrames fs, ?_, .returned (some (.int v')), hrun, hended, hq _ hT hW, locs, ⟨⟨_, rfl⟩, hW, hframe⟩, hf⟩
  jvm_step X.here [X.here.top, hexec, hb, hdg, hmeth', hr, hn]
  (try refine ⟨rfl, ?_⟩); (try refine ⟨rfl, ?_⟩)
  first | (intro acts; rw [hret _ acts rfl rfl rfl]) | rw [hret _ _ rfl rfl rfl]
  exact Steps.refl _
end ZR
theorem g_narz (v : Int32) : narrow .boolean (.int v) = .int (vp_nar .boolean v) := by
  unfold vp_nar
  cases h : narrow .boolean (.int v) with
  | int y => rfl
  | _ => simp [narrow] at h
theorem g_retz {E : pEv} {K : pKi} {pc : Nat} {lv : List (Nat × Value)} {m : pMem} {v : Int32} {z : Int32 × pMem} (hd : decode K.1 pc = .ok (.ireturn, 1)) (hr : K.2.2.2.1 = some .boolean) (hz : z = (vp_nar .boolean v, m)) : gM E K z pc lv [.int v] m := by
  subst hz
  intro p e s mm args below meth c H locs ls C hl hP hS
  refine W_zretn (Qc := gQ E K.2.2.2.1 (vp_nar .boolean v, m)) (free := FA E) C.1 C.2.1 (C.2.2.2.2.2.1.trans hr) (g_narz v) (fun t ht hW => ?_) (fun q hq => hS.2.2 q hq) hd C.2.2.2.2.2.2.1
  unfold gQ
  rw [hr, if_neg (by simp)]
  exact ⟨⟨vp_nar .boolean v, m, rfl, ⟨rfl, rfl⟩, by rw [ht]; exact hP, C.2.2.2.2.2.2.2.1.moved hW ht hS (fun _ _ z => z), C.2.2.2.2.2.2.2.2.1⟩, hS.F ht⟩
theorem gsw_out {x : Int32} {hi : Int} (n : Nat) (hn : n < 1000) (hh : hi + 1 = (n : Int)) (h : ∀ k, k < n → ¬ x = Int32.ofNat k) : x.toInt < (0 : Int) ∨ hi < x.toInt := by
  by_cases q : x.toInt < 0
  · exact Or.inl q
  · refine Or.inr (Int.not_le.mp fun q2 => ?_)
    have h1 : x.toInt.toNat < n := by omega
    refine h x.toInt.toNat h1 (Int32.toInt_inj.mp ?_)
    rw [show (Int32.ofNat x.toInt.toNat) = nI x.toInt.toNat from rfl, nI_toInt (by omega)]
    omega
section ST
variable {E : pEv} {K : pKi} {z : Int32 × pMem} {pc : Nat} {lv : List (Nat × Value)} {st : List Value} {m : pMem}
theorem g_sgetV {idx w : Nat} (hw : w < 14) (hd : decode K.1 pc = .ok (.getfield idx, 3)) (hk : Cond.fieldLink K.2.1 idx "java/lang/String" "value" "[B" ∈ gAW) (h : gM E K z (pc + 3) lv (.ref (eV E w) :: st) m) : gM E K z pc lv (.ref (eK E w) :: st) m := by
  intro p e s mm args below meth c H locs ls C hl hP hS
  exact vk_getf C.1 C.2.1 (C.2.2.2.2.2.2.2.1.2.2.2.1.1 w hw).2.2.1 hS C.2.2.2.1 (C.2.2.2.2.1 _ hk) (fun _ q => q) hd (h p e s mm args below meth c H locs ls C hl hP hS)
theorem g_sgetC {idx w : Nat} (hw : w < 14) (hd : decode K.1 pc = .ok (.getfield idx, 3)) (hk : Cond.fieldLink K.2.1 idx "java/lang/String" "coder" "B" ∈ gAW) (h : gM E K z (pc + 3) lv (.int 0 :: st) m) : gM E K z pc lv (.ref (eK E w) :: st) m := by
  intro p e s mm args below meth c H locs ls C hl hP hS
  exact vk_getf C.1 C.2.1 (C.2.2.2.2.2.2.2.1.2.2.2.1.1 w hw).2.1 hS C.2.2.2.1 (C.2.2.2.2.1 _ hk) (fun _ q => q) hd (h p e s mm args below meth c H locs ls C hl hP hS)
theorem g_salen {w : Nat} (hw : w < 14) (hd : decode K.1 pc = .ok (.arraylength, 1)) (h : gM E K z (pc + 1) lv (.int (sLen w) :: st) m) : gM E K z pc lv (.ref (eV E w) :: st) m := by
  intro p e s mm args below meth c H locs ls C hl hP hS
  exact va_tlen C.1 C.2.1 (C.2.2.2.2.2.2.2.1.2.2.2.1.1 w hw).2.2.2 hS rfl hd (h p e s mm args below meth c H locs ls C hl hP hS)
theorem g_sbald {w : Nat} {i : Int32} (hw : w < 14) (hd : decode K.1 pc = .ok (.baload, 1)) (hi : ¬ oob i (gSl.getD w 0)) (h : gM E K z (pc + 1) lv (.int (sChr w i.toNatClampNeg) :: st) m) : gM E K z pc lv (.int i :: .ref (eV E w) :: st) m := by
  intro p e s mm args below meth c H locs ls C hl hP hS
  exact va_tb C.1 C.2.1 (C.2.2.2.2.2.2.2.1.2.2.2.1.1 w hw).2.2.2 hS hi rfl hd (h p e s mm args below meth c H locs ls C hl hP hS)
theorem g_getsC {idx : Nat} (hd : decode K.1 pc = .ok (.getstatic idx, 3)) (hk : Cond.fieldLink K.2.1 idx "java/lang/String" "COMPACT_STRINGS" "Z" ∈ gAW) (h : gM E K z (pc + 3) lv (.int 1 :: st) m) : gM E K z pc lv st m := by
  intro p e s mm args below meth c H locs ls C hl hP hS
  exact va_gets C.1 C.2.1 C.2.2.2.2.2.2.2.1.2.2.2.2.1 hS C.2.2.2.1 (C.2.2.2.2.1 _ hk) (fun _ q => q) hd (h p e s mm args below meth c H locs ls C hl hP hS)
theorem g_getsF {idx : Nat} (hd : decode K.1 pc = .ok (.getstatic idx, 3)) (hk : Cond.fieldLink K.2.1 idx "jdk/internal/util/Preconditions" "SIOOBE_FORMATTER" "Ljava/util/function/BiFunction;" ∈ gAW) (h : ∀ v : Value, v.category = 1 → gM E K z (pc + 3) lv (v :: st) m) : gM E K z pc lv st m := by
  intro p e s mm args below meth c H locs ls C hl hP hS
  rcases C.2.2.2.2.2.2.2.1.2.2.2.2.2 with q | ⟨t, q⟩
  · exact va_gets C.1 C.2.1 q hS C.2.2.2.1 (C.2.2.2.2.1 _ hk) (fun _ q => q) hd (h _ rfl p e s mm args below meth c H locs ls C hl hP hS)
  · exact va_gets C.1 C.2.1 q hS C.2.2.2.1 (C.2.2.2.2.1 _ hk) (fun _ q => q) hd (h _ rfl p e s mm args below meth c H locs ls C hl hP hS)
theorem g_i2c {x v : Int32} (hv : (x.toUInt32 % 65536).toInt32 = v) (hd : decode K.1 pc = .ok (.i2c, 1)) (h : gM E K z (pc + 1) lv (.int v :: st) m) : gM E K z pc lv (.int x :: st) m := by
  intro p e s mm args below meth c H locs ls C hl hP hS
  exact lv_i2c C.1 C.2.1 hd hv (h p e s mm args below meth c H locs ls C hl hP hS)
/-- a call on a literal -/
theorem g_cK {idx n w : Nat} {y : MethodName} {K' : pKi} {As sk : List Value} {r : Int32} {ty : FieldType} (hw : w < 14) (hy : y.cls = "java/lang/String") (hd : decode K.1 pc = .ok (.invokevirtual idx, 3)) (hM : gCn E y K' (.ref (eK E w) :: As) m (r, m)) (hY : gY y K' n) (hI : Cond.instanceMethod y ∈ gAW) (hX : Cond.selects y.cls y y ∈ gAW) (hL : Cond.methodLink K.2.1 idx y ∈ gAW) (hR : gRm K K') (hr : K'.2.2.2.1 = some ty) (hn : As.length = n) (hsk : sk = As.reverse ++ .ref (eK E w) :: st) (h8 : (st.map fun v => v.category).sum ≤ 8) (h : gM E K z (pc + 3) lv (.int r :: st) m) : gM E K z pc lv sk m := by
  intro p e s mm args below meth c H locs ls C hl hP hS
  subst hsk
  unfold gCn at hM
  rw [gQ_i hr] at hM
  refine va_calli (va_runV ⟨C.1, C.2.1, C.2.2.1, C.2.2.2.1, C.2.2.2.2.1⟩ hM ⟨g_run C.2.2.2.2.1 hY hR hL, C.2.2.2.2.1 _ hI, C.2.2.2.2.1 _ hX⟩ ⟨gPc_blind, by rw [hy]; exact vk_recv C.2.2.2.2.2.2.2.1.2.2.2.1 hw hS, fun U hU hW => ⟨rfl, g_pre hU hW hP hS C.2.2.2.2.2.2.2.1 C.2.2.2.2.2.2.2.2.1 C.2.2.2.2.2.2.2.2.2.2.1⟩⟩ rfl hn hl.1 rfl (lv_room h8) hd ⟨hR.2.2.2.2.1, hR.2.2.2.2.2⟩) hS (fun q _ hq => hq) (fun q hq => hq) (fun r u t H1 locs1 ht hvm hpo hB hz1 hk1 hS1 => ?_)
  obtain ⟨rfl, rfl⟩ := hpo
  have hP1 := hB.1
  rw [ht] at hP1
  exact h p e s mm args below meth c H1 locs1 ls C hl hP1 hS1
end ST
abbrev cJ0_coder_7d493 : ByteArray := prog_14_method_152_code
abbrev yJ0_coder_7d493 : MethodName := ⟨"java/lang/String", "coder", "()B"⟩
abbrev kJ0_coder_7d493 : pKi := (cJ0_coder_7d493, "java/lang/String", 1, some .byte, { frames := 0, cells := 0, slots := 0, locals := 0 }, 0, 0)
theorem gyJ0_coder_7d493 : gY yJ0_coder_7d493 kJ0_coder_7d493 0 := ⟨gAW_at 521 (by decide +kernel) rfl, gAW_at 13 (by decide +kernel) rfl, by decide +kernel, by decide +kernel, by decide +kernel⟩
theorem giJ0_coder_7d493 : Cond.instanceMethod yJ0_coder_7d493 ∈ gAW := gAW_at 519 (by decide +kernel) rfl
theorem gsJ0_coder_7d493 : Cond.selects "java/lang/String" yJ0_coder_7d493 yJ0_coder_7d493 ∈ gAW := gAW_at 520 (by decide +kernel) rfl
theorem dJ0_coder_7d493_0 : decode cJ0_coder_7d493 0 = .ok (.getstatic 38, 3) := by decide +kernel
theorem dJ0_coder_7d493_3 : decode cJ0_coder_7d493 3 = .ok (.ifCond .eq 10, 3) := by decide +kernel
theorem dJ0_coder_7d493_6 : decode cJ0_coder_7d493 6 = .ok (.aload_n 0, 1) := by decide +kernel
theorem dJ0_coder_7d493_7 : decode cJ0_coder_7d493 7 = .ok (.getfield 15, 3) := by decide +kernel
theorem dJ0_coder_7d493_10 : decode cJ0_coder_7d493 10 = .ok (.goto 4, 3) := by decide +kernel
theorem dJ0_coder_7d493_13 : decode cJ0_coder_7d493 13 = .ok (.iconst 1, 1) := by decide +kernel
theorem dJ0_coder_7d493_14 : decode cJ0_coder_7d493 14 = .ok (.ireturn, 1) := by decide +kernel
abbrev cJ0_isLatin1_aae02 : ByteArray := prog_14_method_154_code
abbrev yJ0_isLatin1_aae02 : MethodName := ⟨"java/lang/String", "isLatin1", "()Z"⟩
abbrev kJ0_isLatin1_aae02 : pKi := (cJ0_isLatin1_aae02, "java/lang/String", 1, some .boolean, { frames := 0, cells := 0, slots := 0, locals := 0 }, 0, 0)
theorem gyJ0_isLatin1_aae02 : gY yJ0_isLatin1_aae02 kJ0_isLatin1_aae02 0 := ⟨gAW_at 531 (by decide +kernel) rfl, gAW_at 13 (by decide +kernel) rfl, by decide +kernel, by decide +kernel, by decide +kernel⟩
theorem giJ0_isLatin1_aae02 : Cond.instanceMethod yJ0_isLatin1_aae02 ∈ gAW := gAW_at 529 (by decide +kernel) rfl
theorem gsJ0_isLatin1_aae02 : Cond.selects "java/lang/String" yJ0_isLatin1_aae02 yJ0_isLatin1_aae02 ∈ gAW := gAW_at 530 (by decide +kernel) rfl
theorem dJ0_isLatin1_aae02_0 : decode cJ0_isLatin1_aae02 0 = .ok (.getstatic 38, 3) := by decide +kernel
theorem dJ0_isLatin1_aae02_3 : decode cJ0_isLatin1_aae02 3 = .ok (.ifCond .eq 14, 3) := by decide +kernel
theorem dJ0_isLatin1_aae02_6 : decode cJ0_isLatin1_aae02 6 = .ok (.aload_n 0, 1) := by decide +kernel
theorem dJ0_isLatin1_aae02_7 : decode cJ0_isLatin1_aae02 7 = .ok (.getfield 15, 3) := by decide +kernel
theorem dJ0_isLatin1_aae02_10 : decode cJ0_isLatin1_aae02 10 = .ok (.ifCond .ne 7, 3) := by decide +kernel
theorem dJ0_isLatin1_aae02_13 : decode cJ0_isLatin1_aae02 13 = .ok (.iconst 1, 1) := by decide +kernel
theorem dJ0_isLatin1_aae02_14 : decode cJ0_isLatin1_aae02 14 = .ok (.goto 4, 3) := by decide +kernel
theorem dJ0_isLatin1_aae02_17 : decode cJ0_isLatin1_aae02 17 = .ok (.iconst 0, 1) := by decide +kernel
theorem dJ0_isLatin1_aae02_18 : decode cJ0_isLatin1_aae02 18 = .ok (.ireturn, 1) := by decide +kernel
abbrev cJ0_checkIndex_df160 : ByteArray := prog_14_method_155_code
abbrev yJ0_checkIndex_df160 : MethodName := ⟨"java/lang/String", "checkIndex", "(II)V"⟩
abbrev kJ0_checkIndex_df160 : pKi := (cJ0_checkIndex_df160, "java/lang/String", 2, none, { frames := 1, cells := 0, slots := 0, locals := 22 }, 0, 0)
theorem gyJ0_checkIndex_df160 : gY yJ0_checkIndex_df160 kJ0_checkIndex_df160 2 := ⟨gAW_at 537 (by decide +kernel) rfl, gAW_at 13 (by decide +kernel) rfl, by decide +kernel, by decide +kernel, by decide +kernel⟩
theorem giJ0_checkIndex_df160 : Cond.static yJ0_checkIndex_df160 ∈ gAW := gAW_at 536 (by decide +kernel) rfl
theorem dJ0_checkIndex_df160_0 : decode cJ0_checkIndex_df160 0 = .ok (.iload_n 0, 1) := by decide +kernel
theorem dJ0_checkIndex_df160_1 : decode cJ0_checkIndex_df160 1 = .ok (.iload_n 1, 1) := by decide +kernel
theorem dJ0_checkIndex_df160_2 : decode cJ0_checkIndex_df160 2 = .ok (.getstatic 1053, 3) := by decide +kernel
theorem dJ0_checkIndex_df160_5 : decode cJ0_checkIndex_df160 5 = .ok (.invokestatic 1059, 3) := by decide +kernel
theorem dJ0_checkIndex_df160_8 : decode cJ0_checkIndex_df160 8 = .ok (.pop, 1) := by decide +kernel
theorem dJ0_checkIndex_df160_9 : decode cJ0_checkIndex_df160 9 = .ok (.return_, 1) := by decide +kernel
abbrev cJ0_length_8abf5 : ByteArray := prog_14_method_54_code
abbrev yJ0_length_8abf5 : MethodName := ⟨"java/lang/String", "length", "()I"⟩
abbrev kJ0_length_8abf5 : pKi := (cJ0_length_8abf5, "java/lang/String", 1, some .int, { frames := 1, cells := 0, slots := 0, locals := 20 }, 0, 0)
theorem gyJ0_length_8abf5 : gY yJ0_length_8abf5 kJ0_length_8abf5 0 := ⟨gAW_at 517 (by decide +kernel) rfl, gAW_at 13 (by decide +kernel) rfl, by decide +kernel, by decide +kernel, by decide +kernel⟩
theorem giJ0_length_8abf5 : Cond.instanceMethod yJ0_length_8abf5 ∈ gAW := gAW_at 515 (by decide +kernel) rfl
theorem gsJ0_length_8abf5 : Cond.selects "java/lang/String" yJ0_length_8abf5 yJ0_length_8abf5 ∈ gAW := gAW_at 516 (by decide +kernel) rfl
theorem dJ0_length_8abf5_0 : decode cJ0_length_8abf5 0 = .ok (.aload_n 0, 1) := by decide +kernel
theorem dJ0_length_8abf5_1 : decode cJ0_length_8abf5 1 = .ok (.getfield 9, 3) := by decide +kernel
theorem dJ0_length_8abf5_4 : decode cJ0_length_8abf5 4 = .ok (.arraylength, 1) := by decide +kernel
theorem dJ0_length_8abf5_5 : decode cJ0_length_8abf5 5 = .ok (.aload_n 0, 1) := by decide +kernel
theorem dJ0_length_8abf5_6 : decode cJ0_length_8abf5 6 = .ok (.invokevirtual 335, 3) := by decide +kernel
theorem dJ0_length_8abf5_9 : decode cJ0_length_8abf5 9 = .ok (.ishr, 1) := by decide +kernel
theorem dJ0_length_8abf5_10 : decode cJ0_length_8abf5 10 = .ok (.ireturn, 1) := by decide +kernel
abbrev cJ0_charAt_5068e : ByteArray := prog_14_method_56_code
abbrev yJ0_charAt_5068e : MethodName := ⟨"java/lang/String", "charAt", "(I)C"⟩
abbrev kJ0_charAt_5068e : pKi := (cJ0_charAt_5068e, "java/lang/String", 2, some .char, { frames := 3, cells := 0, slots := 0, locals := 64 }, 0, 0)
theorem gyJ0_charAt_5068e : gY yJ0_charAt_5068e kJ0_charAt_5068e 1 := ⟨gAW_at 527 (by decide +kernel) rfl, gAW_at 13 (by decide +kernel) rfl, by decide +kernel, by decide +kernel, by decide +kernel⟩
theorem giJ0_charAt_5068e : Cond.instanceMethod yJ0_charAt_5068e ∈ gAW := gAW_at 525 (by decide +kernel) rfl
theorem gsJ0_charAt_5068e : Cond.selects "java/lang/String" yJ0_charAt_5068e yJ0_charAt_5068e ∈ gAW := gAW_at 526 (by decide +kernel) rfl
theorem dJ0_charAt_5068e_0 : decode cJ0_charAt_5068e 0 = .ok (.aload_n 0, 1) := by decide +kernel
theorem dJ0_charAt_5068e_1 : decode cJ0_charAt_5068e 1 = .ok (.invokevirtual 492, 3) := by decide +kernel
theorem dJ0_charAt_5068e_4 : decode cJ0_charAt_5068e 4 = .ok (.ifCond .eq 12, 3) := by decide +kernel
theorem dJ0_charAt_5068e_7 : decode cJ0_charAt_5068e 7 = .ok (.aload_n 0, 1) := by decide +kernel
theorem dJ0_charAt_5068e_8 : decode cJ0_charAt_5068e 8 = .ok (.getfield 9, 3) := by decide +kernel
theorem dJ0_charAt_5068e_11 : decode cJ0_charAt_5068e 11 = .ok (.iload_n 1, 1) := by decide +kernel
theorem dJ0_charAt_5068e_12 : decode cJ0_charAt_5068e 12 = .ok (.invokestatic 495, 3) := by decide +kernel
theorem dJ0_charAt_5068e_15 : decode cJ0_charAt_5068e 15 = .ok (.ireturn, 1) := by decide +kernel
theorem dJ0_charAt_5068e_16 : decode cJ0_charAt_5068e 16 = .ok (.aload_n 0, 1) := by decide +kernel
theorem dJ0_charAt_5068e_17 : decode cJ0_charAt_5068e 17 = .ok (.getfield 9, 3) := by decide +kernel
theorem dJ0_charAt_5068e_20 : decode cJ0_charAt_5068e 20 = .ok (.iload_n 1, 1) := by decide +kernel
theorem dJ0_charAt_5068e_21 : decode cJ0_charAt_5068e 21 = .ok (.invokestatic 498, 3) := by decide +kernel
theorem dJ0_charAt_5068e_24 : decode cJ0_charAt_5068e 24 = .ok (.ireturn, 1) := by decide +kernel
abbrev cJ1_charAt_3b067 : ByteArray := prog_15_method_2_code
abbrev yJ1_charAt_3b067 : MethodName := ⟨"java/lang/StringLatin1", "charAt", "([BI)C"⟩
abbrev kJ1_charAt_3b067 : pKi := (cJ1_charAt_3b067, "java/lang/StringLatin1", 2, some .char, { frames := 2, cells := 0, slots := 0, locals := 43 }, 0, 0)
theorem gyJ1_charAt_3b067 : gY yJ1_charAt_3b067 kJ1_charAt_3b067 2 := ⟨gAW_at 534 (by decide +kernel) rfl, gAW_at 14 (by decide +kernel) rfl, by decide +kernel, by decide +kernel, by decide +kernel⟩
theorem giJ1_charAt_3b067 : Cond.static yJ1_charAt_3b067 ∈ gAW := gAW_at 533 (by decide +kernel) rfl
theorem dJ1_charAt_3b067_0 : decode cJ1_charAt_3b067 0 = .ok (.iload_n 1, 1) := by decide +kernel
theorem dJ1_charAt_3b067_1 : decode cJ1_charAt_3b067 1 = .ok (.aload_n 0, 1) := by decide +kernel
theorem dJ1_charAt_3b067_2 : decode cJ1_charAt_3b067 2 = .ok (.arraylength, 1) := by decide +kernel
theorem dJ1_charAt_3b067_3 : decode cJ1_charAt_3b067 3 = .ok (.invokestatic 9, 3) := by decide +kernel
theorem dJ1_charAt_3b067_6 : decode cJ1_charAt_3b067 6 = .ok (.aload_n 0, 1) := by decide +kernel
theorem dJ1_charAt_3b067_7 : decode cJ1_charAt_3b067 7 = .ok (.iload_n 1, 1) := by decide +kernel
theorem dJ1_charAt_3b067_8 : decode cJ1_charAt_3b067 8 = .ok (.baload, 1) := by decide +kernel
theorem dJ1_charAt_3b067_9 : decode cJ1_charAt_3b067 9 = .ok (.sipush 255, 3) := by decide +kernel
theorem dJ1_charAt_3b067_12 : decode cJ1_charAt_3b067 12 = .ok (.iand, 1) := by decide +kernel
theorem dJ1_charAt_3b067_13 : decode cJ1_charAt_3b067 13 = .ok (.i2c, 1) := by decide +kernel
theorem dJ1_charAt_3b067_14 : decode cJ1_charAt_3b067 14 = .ok (.ireturn, 1) := by decide +kernel
abbrev cJ3_checkIndex_8e157 : ByteArray := prog_19_method_11_code
abbrev yJ3_checkIndex_8e157 : MethodName := ⟨"jdk/internal/util/Preconditions", "checkIndex", "(IILjava/util/function/BiFunction;)I"⟩
abbrev kJ3_checkIndex_8e157 : pKi := (cJ3_checkIndex_8e157, "jdk/internal/util/Preconditions", 3, some .int, { frames := 0, cells := 0, slots := 0, locals := 0 }, 0, 0)
theorem gyJ3_checkIndex_8e157 : gY yJ3_checkIndex_8e157 kJ3_checkIndex_8e157 3 := ⟨gAW_at 542 (by decide +kernel) rfl, gAW_at 15 (by decide +kernel) rfl, by decide +kernel, by decide +kernel, by decide +kernel⟩
theorem giJ3_checkIndex_8e157 : Cond.static yJ3_checkIndex_8e157 ∈ gAW := gAW_at 541 (by decide +kernel) rfl
theorem dJ3_checkIndex_8e157_0 : decode cJ3_checkIndex_8e157 0 = .ok (.iload_n 0, 1) := by decide +kernel
theorem dJ3_checkIndex_8e157_1 : decode cJ3_checkIndex_8e157 1 = .ok (.ifCond .lt 8, 3) := by decide +kernel
theorem dJ3_checkIndex_8e157_4 : decode cJ3_checkIndex_8e157 4 = .ok (.iload_n 0, 1) := by decide +kernel
theorem dJ3_checkIndex_8e157_5 : decode cJ3_checkIndex_8e157 5 = .ok (.iload_n 1, 1) := by decide +kernel
theorem dJ3_checkIndex_8e157_6 : decode cJ3_checkIndex_8e157 6 = .ok (.if_icmp .lt 10, 3) := by decide +kernel
theorem dJ3_checkIndex_8e157_9 : decode cJ3_checkIndex_8e157 9 = .ok (.aload_n 2, 1) := by decide +kernel
theorem dJ3_checkIndex_8e157_10 : decode cJ3_checkIndex_8e157 10 = .ok (.iload_n 0, 1) := by decide +kernel
theorem dJ3_checkIndex_8e157_11 : decode cJ3_checkIndex_8e157 11 = .ok (.iload_n 1, 1) := by decide +kernel
theorem dJ3_checkIndex_8e157_12 : decode cJ3_checkIndex_8e157 12 = .ok (.invokestatic 95, 3) := by decide +kernel
theorem dJ3_checkIndex_8e157_15 : decode cJ3_checkIndex_8e157 15 = .ok (.athrow, 1) := by decide +kernel
theorem dJ3_checkIndex_8e157_16 : decode cJ3_checkIndex_8e157 16 = .ok (.iload_n 0, 1) := by decide +kernel
theorem dJ3_checkIndex_8e157_17 : decode cJ3_checkIndex_8e157 17 = .ok (.ireturn, 1) := by decide +kernel
theorem mX5_110 : Cond.methodLink "PartedLand$Text" 110 yJ0_length_8abf5 ∈ gAW := gAW_at 514 (by decide +kernel) rfl
theorem mX5_114 : Cond.methodLink "PartedLand$Text" 114 yJ0_charAt_5068e ∈ gAW := gAW_at 524 (by decide +kernel) rfl
theorem mJ0_335 : Cond.methodLink "java/lang/String" 335 yJ0_coder_7d493 ∈ gAW := gAW_at 518 (by decide +kernel) rfl
theorem mJ0_492 : Cond.methodLink "java/lang/String" 492 yJ0_isLatin1_aae02 ∈ gAW := gAW_at 528 (by decide +kernel) rfl
theorem mJ0_495 : Cond.methodLink "java/lang/String" 495 yJ1_charAt_3b067 ∈ gAW := gAW_at 532 (by decide +kernel) rfl
theorem mJ0_1059 : Cond.methodLink "java/lang/String" 1059 yJ3_checkIndex_8e157 ∈ gAW := gAW_at 540 (by decide +kernel) rfl
theorem mJ1_9 : Cond.methodLink "java/lang/StringLatin1" 9 yJ0_checkIndex_df160 ∈ gAW := gAW_at 535 (by decide +kernel) rfl
theorem fJ0_9 : Cond.fieldLink "java/lang/String" 9 "java/lang/String" "value" "[B" ∈ gAW := gAW_at 1310 (by decide +kernel) rfl
theorem fJ0_15 : Cond.fieldLink "java/lang/String" 15 "java/lang/String" "coder" "B" ∈ gAW := gAW_at 1311 (by decide +kernel) rfl
theorem fJ0_38 : Cond.fieldLink "java/lang/String" 38 "java/lang/String" "COMPACT_STRINGS" "Z" ∈ gAW := gAW_at 522 (by decide +kernel) rfl
theorem fJ0_1053 : Cond.fieldLink "java/lang/String" 1053 "jdk/internal/util/Preconditions" "SIOOBE_FORMATTER" "Ljava/util/function/BiFunction;" ∈ gAW := gAW_at 538 (by decide +kernel) rfl
theorem s_all : ∀ w, w < 14 → ∀ j, j < gSl.getD w 0 → (((sChr w j &&& 255).toUInt32 % 65536).toInt32 = sChr w j ∧ narrow .char (.int (sChr w j)) = .int (sChr w j)) := by decide +kernel
theorem s_len : ∀ w, w < 14 → gSl.getD w 0 < 10 := by decide +kernel
theorem tJ0_coder (E : pEv) (m : pMem) (w : Nat) (hw : w < 14) : gCn E yJ0_coder_7d493 kJ0_coder_7d493 [.ref (eK E w)] m (0, m) := gCn_of (lv := [(0, .ref (eK E w))]) (by decide +kernel) rfl rfl rfl (Nat.le_of_ble_eq_true rfl) rfl (by
  refine g_getsC dJ0_coder_7d493_0 fJ0_38 ?_
  refine g_if_eq (tgt := 13) dJ0_coder_7d493_3 (by decide) (fun c1 => absurd c1 (by decide)) (fun c1 => ?_)
  refine g_aload_n (q := 0) dJ0_coder_7d493_6 rfl rfl ?_
  refine g_sgetC hw dJ0_coder_7d493_7 fJ0_15 ?_
  refine g_goto (tgt := 14) dJ0_coder_7d493_10 (by decide) ?_
  exact g_ret dJ0_coder_7d493_14 rfl (by decide) rfl)
theorem tJ0_isLatin1 (E : pEv) (m : pMem) (w : Nat) (hw : w < 14) : gCn E yJ0_isLatin1_aae02 kJ0_isLatin1_aae02 [.ref (eK E w)] m (1, m) := gCn_of (lv := [(0, .ref (eK E w))]) (by decide +kernel) rfl rfl rfl (Nat.le_of_ble_eq_true rfl) rfl (by
  refine g_getsC dJ0_isLatin1_aae02_0 fJ0_38 ?_
  refine g_if_eq (tgt := 17) dJ0_isLatin1_aae02_3 (by decide) (fun c1 => absurd c1 (by decide)) (fun c1 => ?_)
  refine g_aload_n (q := 0) dJ0_isLatin1_aae02_6 rfl rfl ?_
  refine g_sgetC hw dJ0_isLatin1_aae02_7 fJ0_15 ?_
  refine g_if_ne (tgt := 17) dJ0_isLatin1_aae02_10 (by decide) (fun c1 => absurd rfl c1) (fun c1 => ?_)
  refine g_iconst (v := 1) dJ0_isLatin1_aae02_13 (by decide) ?_
  refine g_goto (tgt := 18) dJ0_isLatin1_aae02_14 (by decide) ?_
  exact g_ret dJ0_isLatin1_aae02_18 rfl (by decide) rfl)
theorem tJ0_length (E : pEv) (m : pMem) (w : Nat) (hw : w < 14) : gCn E yJ0_length_8abf5 kJ0_length_8abf5 [.ref (eK E w)] m (sLen w >>> ((0 : Int32) &&& 31), m) := gCn_of (lv := [(0, .ref (eK E w))]) (by decide +kernel) rfl rfl rfl (Nat.le_of_ble_eq_true rfl) rfl (by
  refine g_aload_n (q := 0) dJ0_length_8abf5_0 rfl rfl ?_
  refine g_sgetV hw dJ0_length_8abf5_1 fJ0_9 ?_
  refine g_salen hw dJ0_length_8abf5_4 ?_
  refine g_aload_n (q := 0) dJ0_length_8abf5_5 rfl rfl ?_
  refine g_cK (As := []) hw rfl dJ0_length_8abf5_6 (tJ0_coder E m w hw) gyJ0_coder_7d493 giJ0_coder_7d493 gsJ0_coder_7d493 mJ0_335 (⟨rfl, rfl, Nat.le_of_ble_eq_true rfl, Nat.le_of_ble_eq_true rfl, Nat.le_of_ble_eq_true rfl, Nat.le_of_ble_eq_true rfl⟩) rfl rfl rfl (Nat.le_of_ble_eq_true rfl) ?_
  refine g_ishr dJ0_length_8abf5_9 ?_
  exact g_ret dJ0_length_8abf5_10 rfl rfl rfl)
theorem tJ3_checkIndex (E : pEv) (m : pMem) (i n : Int32) (v : Value) (hv : v.category = 1) (h0 : ¬ i < 0) (h1 : i < n) : gCn E yJ3_checkIndex_8e157 kJ3_checkIndex_8e157 [.int i, .int n, v] m (i, m) := gCn_of (lv := [(0, .int i), (1, .int n), (2, v)]) (by decide +kernel) rfl rfl rfl (by show (lg_sl [.int i, .int n, v]).length ≤ 3; cases v <;> simp_all [lg_sl, Value.category]) rfl (by
  refine g_iload_n (q := 0) dJ3_checkIndex_8e157_0 rfl rfl ?_
  refine g_if_lt (tgt := 9) dJ3_checkIndex_8e157_1 (by decide) (fun c1 => absurd c1 h0) (fun c1 => ?_)
  refine g_iload_n (q := 0) dJ3_checkIndex_8e157_4 rfl rfl ?_
  refine g_iload_n (q := 1) dJ3_checkIndex_8e157_5 rfl rfl ?_
  refine g_icmp_lt (tgt := 16) dJ3_checkIndex_8e157_6 (by decide) (fun c1 => ?_) (fun c1 => absurd h1 c1)
  refine g_iload_n (q := 0) dJ3_checkIndex_8e157_16 rfl rfl ?_
  exact g_ret dJ3_checkIndex_8e157_17 rfl rfl rfl)
theorem tJ0_checkIndex (E : pEv) (m : pMem) (i n : Int32) (h0 : ¬ i < 0) (h1 : i < n) : gCn E yJ0_checkIndex_df160 kJ0_checkIndex_df160 [.int i, .int n] m (0, m) := gCn_of (lv := [(0, .int i), (1, .int n)]) (by decide +kernel) rfl rfl rfl (Nat.le_of_ble_eq_true rfl) rfl (by
  refine g_iload_n (q := 0) dJ0_checkIndex_df160_0 rfl rfl ?_
  refine g_iload_n (q := 1) dJ0_checkIndex_df160_1 rfl rfl ?_
  refine g_getsF dJ0_checkIndex_df160_2 fJ0_1053 (fun v hv => ?_)
  refine g_cS (As := [.int i, .int n, v]) dJ0_checkIndex_df160_5 (tJ3_checkIndex E m i n v hv h0 h1) gyJ3_checkIndex_8e157 giJ3_checkIndex_8e157 mJ0_1059 (⟨rfl, rfl, Nat.le_of_ble_eq_true rfl, Nat.le_of_ble_eq_true rfl, Nat.le_of_ble_eq_true rfl, Nat.le_of_ble_eq_true rfl⟩) rfl rfl rfl (Nat.le_of_ble_eq_true rfl) ?_
  refine g_pop dJ0_checkIndex_df160_8 rfl ?_
  exact g_retv dJ0_checkIndex_df160_9 rfl rfl)
theorem s_lt {w : Nat} {i : Int32} (hw : w < 14) (hi : ¬ oob i (gSl.getD w 0)) : i < sLen w := by
  have hl := s_len w hw
  have h0 : ¬ i < 0 := fun q => hi (Or.inl q)
  have h1 : i.toNatClampNeg < gSl.getD w 0 := Nat.not_le.mp fun q => hi (Or.inr q)
  obtain ⟨j, hj, rfl⟩ := nI_of h0
  rw [nI_clamp hj] at h1
  exact nI_lt h1 (by omega)
theorem tJ1_charAt (E : pEv) (m : pMem) (w : Nat) (i : Int32) (hw : w < 14) (hi : ¬ oob i (gSl.getD w 0)) : gCn E yJ1_charAt_3b067 kJ1_charAt_3b067 [.ref (eV E w), .int i] m (sChr w i.toNatClampNeg, m) := gCn_of (lv := [(0, .ref (eV E w)), (1, .int i)]) (by decide +kernel) rfl rfl rfl (Nat.le_of_ble_eq_true rfl) rfl (by
  have hs := s_all w hw i.toNatClampNeg (Nat.not_le.mp fun q => hi (Or.inr q))
  refine g_iload_n (q := 1) dJ1_charAt_3b067_0 rfl rfl ?_
  refine g_aload_n (q := 0) dJ1_charAt_3b067_1 rfl rfl ?_
  refine g_salen hw dJ1_charAt_3b067_2 ?_
  refine g_cSv (As := [.int i, .int (sLen w)]) dJ1_charAt_3b067_3 (tJ0_checkIndex E m i (sLen w) (fun q => hi (Or.inl q)) (s_lt hw hi)) gyJ0_checkIndex_df160 giJ0_checkIndex_df160 mJ1_9 (⟨rfl, rfl, Nat.le_of_ble_eq_true rfl, Nat.le_of_ble_eq_true rfl, Nat.le_of_ble_eq_true rfl, Nat.le_of_ble_eq_true rfl⟩) rfl rfl rfl (Nat.le_of_ble_eq_true rfl) ?_
  refine g_aload_n (q := 0) dJ1_charAt_3b067_6 rfl rfl ?_
  refine g_iload_n (q := 1) dJ1_charAt_3b067_7 rfl rfl ?_
  refine g_sbald hw dJ1_charAt_3b067_8 hi ?_
  refine g_sipush (v := 255) dJ1_charAt_3b067_9 (by decide) ?_
  refine g_iand dJ1_charAt_3b067_12 ?_
  refine g_i2c hs.1 dJ1_charAt_3b067_13 ?_
  exact g_ret dJ1_charAt_3b067_14 rfl hs.2 rfl)
theorem tJ0_charAt (E : pEv) (m : pMem) (w : Nat) (i : Int32) (hw : w < 14) (hi : ¬ oob i (gSl.getD w 0)) : gCn E yJ0_charAt_5068e kJ0_charAt_5068e [.ref (eK E w), .int i] m (sChr w i.toNatClampNeg, m) := gCn_of (lv := [(0, .ref (eK E w)), (1, .int i)]) (by decide +kernel) rfl rfl rfl (Nat.le_of_ble_eq_true rfl) rfl (by
  have hs := s_all w hw i.toNatClampNeg (Nat.not_le.mp fun q => hi (Or.inr q))
  refine g_aload_n (q := 0) dJ0_charAt_5068e_0 rfl rfl ?_
  refine g_cK (As := []) hw rfl dJ0_charAt_5068e_1 (tJ0_isLatin1 E m w hw) gyJ0_isLatin1_aae02 giJ0_isLatin1_aae02 gsJ0_isLatin1_aae02 mJ0_492 (⟨rfl, rfl, Nat.le_of_ble_eq_true rfl, Nat.le_of_ble_eq_true rfl, Nat.le_of_ble_eq_true rfl, Nat.le_of_ble_eq_true rfl⟩) rfl rfl rfl (Nat.le_of_ble_eq_true rfl) ?_
  refine g_if_eq (tgt := 16) dJ0_charAt_5068e_4 (by decide) (fun c1 => absurd c1 (by decide)) (fun c1 => ?_)
  refine g_aload_n (q := 0) dJ0_charAt_5068e_7 rfl rfl ?_
  refine g_sgetV hw dJ0_charAt_5068e_8 fJ0_9 ?_
  refine g_iload_n (q := 1) dJ0_charAt_5068e_11 rfl rfl ?_
  refine g_cS (As := [.ref (eV E w), .int i]) dJ0_charAt_5068e_12 (tJ1_charAt E m w i hw hi) gyJ1_charAt_3b067 giJ1_charAt_3b067 mJ0_495 (⟨rfl, rfl, Nat.le_of_ble_eq_true rfl, Nat.le_of_ble_eq_true rfl, Nat.le_of_ble_eq_true rfl, Nat.le_of_ble_eq_true rfl⟩) rfl rfl rfl (Nat.le_of_ble_eq_true rfl) ?_
  exact g_ret dJ0_charAt_5068e_15 rfl hs.2 rfl)
theorem g_slen {E : pEv} {K : pKi} {z : Int32 × pMem} {pc w : Nat} {lv : List (Nat × Value)} {st : List Value} {m : pMem} {idx : Nat} (hw : w < 14) (hd : decode K.1 pc = .ok (.invokevirtual idx, 3)) (hL : Cond.methodLink K.2.1 idx yJ0_length_8abf5 ∈ gAW) (hR : gRm K kJ0_length_8abf5) (h8 : (st.map fun v => v.category).sum ≤ 8) (h : gM E K z (pc + 3) lv (.int (sLen w) :: st) m) : gM E K z pc lv (.ref (eK E w) :: st) m := by
  have e : sLen w >>> ((0 : Int32) &&& 31) = sLen w := by simp
  have h1 := tJ0_length E m w hw
  rw [e] at h1
  exact g_cK (As := []) hw rfl hd h1 gyJ0_length_8abf5 giJ0_length_8abf5 gsJ0_length_8abf5 hL hR rfl rfl rfl h8 h
theorem g_schr {E : pEv} {K : pKi} {z : Int32 × pMem} {pc w : Nat} {i : Int32} {lv : List (Nat × Value)} {st : List Value} {m : pMem} {idx : Nat} (hw : w < 14) (hi : ¬ oob i (gSl.getD w 0)) (hd : decode K.1 pc = .ok (.invokevirtual idx, 3)) (hL : Cond.methodLink K.2.1 idx yJ0_charAt_5068e ∈ gAW) (hR : gRm K kJ0_charAt_5068e) (h8 : (st.map fun v => v.category).sum ≤ 8) (h : gM E K z (pc + 3) lv (.int (sChr w i.toNatClampNeg) :: st) m) : gM E K z pc lv (.int i :: .ref (eK E w) :: st) m :=
  g_cK (As := [.int i]) hw rfl hd (tJ0_charAt E m w i hw hi) gyJ0_charAt_5068e giJ0_charAt_5068e gsJ0_charAt_5068e hL hR rfl rfl rfl h8 h
