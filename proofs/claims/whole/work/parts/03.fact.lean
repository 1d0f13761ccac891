/-! FACTS that a program prints: links, fields, arrays, methods. -/
def fixN {τ : Type} (bot : τ) (body : τ → τ) : Nat → τ
  | 0 => bot
  | n + 1 => body (fixN bot body n)
section GD
variable {E : pEv} {K : pKi} {Z : pZt} {pc : Nat} {lv : List (Nat × Value)} {st : List Value} {m : pMem}
theorem g_lv {lv' : List (Nat × Value)} (ks : List Nat) (hk : lv_pick lv ks = lv') (h : gG E K Z pc lv' st m) : gG E K Z pc lv st m := fun p e s mm args below meth c H locs ls C hl hP hS => h p e s mm args below meth c H locs ls C (lv_sub hl ks hk) hP hS
theorem g_cV {idx n ci k N : Nat} {y : MethodName} {K' : pKi} {T : u_T} {As sk fs : List Value} {r : Int32} {m' : pMem} {ty : FieldType} (hd : decode K.1 pc = .ok (.invokevirtual idx, 3)) (hM : gCn E y K' (.ref (eA E k) :: As) m (r, m')) (hY : gY y K' n) (hI : Cond.instanceMethod y ∈ gAW) (hX : Cond.selects y.cls y y ∈ gAW) (hL : Cond.methodLink K.2.1 idx y ∈ gAW) (hR : gRm K K') (hr : K'.2.2.2.1 = some ty) (ho : (wG E m)[k]? = some (eA E k, .inr (ci, fs))) (hc : gcl[ci]? = some (y.cls, T, N)) (hn : As.length = n) (hsk : sk = As.reverse ++ .ref (eA E k) :: st) (h8 : (st.map fun v => v.category).sum ≤ 8) (h : gG E K Z (pc + 3) lv (.int r :: st) m') : gG E K Z pc lv sk m := g_callV hd hM hY hI hX hL hR hr ho hc hn hsk h8 h
theorem g_cVv {idx n ci k N : Nat} {y : MethodName} {K' : pKi} {T : u_T} {As sk fs : List Value} {r : Int32} {m' : pMem} (hd : decode K.1 pc = .ok (.invokevirtual idx, 3)) (hM : gCn E y K' (.ref (eA E k) :: As) m (r, m')) (hY : gY y K' n) (hI : Cond.instanceMethod y ∈ gAW) (hX : Cond.selects y.cls y y ∈ gAW) (hL : Cond.methodLink K.2.1 idx y ∈ gAW) (hR : gRm K K') (hr : K'.2.2.2.1 = none) (ho : (wG E m)[k]? = some (eA E k, .inr (ci, fs))) (hc : gcl[ci]? = some (y.cls, T, N)) (hn : As.length = n) (hsk : sk = As.reverse ++ .ref (eA E k) :: st) (h8 : (st.map fun v => v.category).sum ≤ 8) (h : gG E K Z (pc + 3) lv st m') : gG E K Z pc lv sk m := g_callVv hd hM hY hI hX hL hR hr ho hc hn hsk h8 h
theorem g_cS {idx n : Nat} {y : MethodName} {K' : pKi} {As sk : List Value} {r : Int32} {m' : pMem} {ty : FieldType} (hd : decode K.1 pc = .ok (.invokestatic idx, 3)) (hM : gCn E y K' As m (r, m')) (hY : gY y K' n) (hI : Cond.static y ∈ gAW) (hL : Cond.methodLink K.2.1 idx y ∈ gAW) (hR : gRm K K') (hr : K'.2.2.2.1 = some ty) (hn : As.length = n) (hsk : sk = As.reverse ++ st) (h8 : (st.map fun v => v.category).sum ≤ 8) (h : gG E K Z (pc + 3) lv (.int r :: st) m') : gG E K Z pc lv sk m := g_callS hd hM hY hI hL hR hr hn hsk h8 h
theorem g_cSv {idx n : Nat} {y : MethodName} {K' : pKi} {As sk : List Value} {r : Int32} {m' : pMem} (hd : decode K.1 pc = .ok (.invokestatic idx, 3)) (hM : gCn E y K' As m (r, m')) (hY : gY y K' n) (hI : Cond.static y ∈ gAW) (hL : Cond.methodLink K.2.1 idx y ∈ gAW) (hR : gRm K K') (hr : K'.2.2.2.1 = none) (hn : As.length = n) (hsk : sk = As.reverse ++ st) (h8 : (st.map fun v => v.category).sum ≤ 8) (h : gG E K Z (pc + 3) lv st m') : gG E K Z pc lv sk m := g_callSv hd hM hY hI hL hR hr hn hsk h8 h
theorem g_cSN {idx n : Nat} {y : MethodName} {K' : pKi} {As sk : List Value} {r : Int32} {m' : pMem} {ty : FieldType} (hd : decode K.1 pc = .ok (.invokestatic idx, 3)) (hM : gCn E y K' As m (r, m')) (hY : gY y K' n) (hI : Cond.static y ∈ gAW) (hL : (K.2.1, idx, y, "PartedLand") ∈ gNs) (hR : gRm K K') (hr : K'.2.2.2.1 = some ty) (hn : As.length = n) (hsk : sk = As.reverse ++ st) (h8 : (st.map fun v => v.category).sum ≤ 8) (h : gG E K Z (pc + 3) lv (.int r :: st) m') : gG E K Z pc lv sk m := g_callSN hd hM hY hI hL hR hr hn hsk h8 h
end GD
theorem gcp {c : Prop} [Decidable c] (h : ¬ ¬ c) : c := Decidable.not_not.mp h
theorem kz_0 : narrow .boolean (.int 0) = .int 0 := by decide
theorem kz_1 : narrow .boolean (.int 1) = .int 1 := by decide
theorem inX0 : ∀ w, w ∈ u_ws RX0 TX0 1 → w ∈ gAW := gAW_ps _ [316] (by decide +kernel) (by decide +kernel)
abbrev olX0 (E : pEv) (m : pMem) : List Value := [.ref (eA E 10)]
theorem obX0 (E : pEv) (m : pMem) : (wG E m)[1]? = some (eA E 1, .inr (0, olX0 E m)) := rfl
theorem gvX0_0 (E : pEv) (m : pMem) : (olX0 E m)[0]? = some (.ref (eA E 10)) := rfl
theorem inX1 : ∀ w, w ∈ u_ws RX1 TX1 12 → w ∈ gAW := gAW_ps _ [261, 263, 265, 267, 269, 271, 273, 275, 277, 279, 281, 283] (by decide +kernel) (by decide +kernel)
abbrev olX1 (E : pEv) (m : pMem) : List Value := [.ref (eA E 3), .ref (eA E 11), .ref (eA E 12), .ref (eA E 13), .ref (eA E 14), .int (m.1 2 5), .int (m.1 2 6), .ref (eA E 15), .ref (eA E 16), .ref (eA E 17), .int (m.1 2 10), .ref (eA E 18)]
theorem obX1 (E : pEv) (m : pMem) : (wG E m)[2]? = some (eA E 2, .inr (1, olX1 E m)) := rfl
theorem gvX1_0 (E : pEv) (m : pMem) : (olX1 E m)[0]? = some (.ref (eA E 3)) := rfl
theorem gvX1_1 (E : pEv) (m : pMem) : (olX1 E m)[1]? = some (.ref (eA E 11)) := rfl
theorem gvX1_2 (E : pEv) (m : pMem) : (olX1 E m)[2]? = some (.ref (eA E 12)) := rfl
theorem gvX1_3 (E : pEv) (m : pMem) : (olX1 E m)[3]? = some (.ref (eA E 13)) := rfl
theorem gvX1_4 (E : pEv) (m : pMem) : (olX1 E m)[4]? = some (.ref (eA E 14)) := rfl
theorem gvX1_5 (E : pEv) (m : pMem) : (olX1 E m)[5]? = some (.int (m.1 2 5)) := rfl
theorem fwX1_5 : gFw TX1 12 5 .int := ⟨nmX1, ⟨tyX1, tyX1_ok⟩, rfl, by decide +kernel⟩
theorem psX1_5 (E : pEv) (m : pMem) (v : Int32) : (wG E m).set 2 (eA E 2, .inr (1, (olX1 E m).set 5 (.int v))) = wG E (st1 m 2 5 v) := rfl
theorem gvX1_6 (E : pEv) (m : pMem) : (olX1 E m)[6]? = some (.int (m.1 2 6)) := rfl
theorem fwX1_6 : gFw TX1 12 6 .int := ⟨nmX1, ⟨tyX1, tyX1_ok⟩, rfl, by decide +kernel⟩
theorem psX1_6 (E : pEv) (m : pMem) (v : Int32) : (wG E m).set 2 (eA E 2, .inr (1, (olX1 E m).set 6 (.int v))) = wG E (st1 m 2 6 v) := rfl
theorem gvX1_7 (E : pEv) (m : pMem) : (olX1 E m)[7]? = some (.ref (eA E 15)) := rfl
theorem gvX1_8 (E : pEv) (m : pMem) : (olX1 E m)[8]? = some (.ref (eA E 16)) := rfl
theorem gvX1_9 (E : pEv) (m : pMem) : (olX1 E m)[9]? = some (.ref (eA E 17)) := rfl
theorem gvX1_10 (E : pEv) (m : pMem) : (olX1 E m)[10]? = some (.int (m.1 2 10)) := rfl
theorem fwX1_10 : gFw TX1 12 10 .int := ⟨nmX1, ⟨tyX1, tyX1_ok⟩, rfl, by decide +kernel⟩
theorem psX1_10 (E : pEv) (m : pMem) (v : Int32) : (wG E m).set 2 (eA E 2, .inr (1, (olX1 E m).set 10 (.int v))) = wG E (st1 m 2 10 v) := rfl
theorem gvX1_11 (E : pEv) (m : pMem) : (olX1 E m)[11]? = some (.ref (eA E 18)) := rfl
theorem inX2 : ∀ w, w ∈ u_ws RX2 TX2 17 → w ∈ gAW := gAW_ps _ [75, 77, 79, 81, 83, 85, 87, 89, 91, 93, 95, 97, 99, 101, 103, 105, 107] (by decide +kernel) (by decide +kernel)
abbrev olX2 (E : pEv) (m : pMem) : List Value := [.ref (eA E 19), .ref (eA E 20), .int (m.1 3 2), .ref (eA E 21), .ref (eA E 22), .ref (eA E 23), .int (m.1 3 6), .ref (eA E 24), .ref (eA E 25), .ref (eA E 26), .ref (eA E 27), .ref (eA E 28), .ref (eA E 106), .ref (eA E 107), .int (m.1 3 12), .ref (eA E 29), .ref (eA E 43)]
theorem obX2 (E : pEv) (m : pMem) : (wG E m)[3]? = some (eA E 3, .inr (2, olX2 E m)) := rfl
theorem gvX2_0 (E : pEv) (m : pMem) : (olX2 E m)[0]? = some (.ref (eA E 19)) := rfl
theorem gvX2_1 (E : pEv) (m : pMem) : (olX2 E m)[1]? = some (.ref (eA E 20)) := rfl
theorem gvX2_2 (E : pEv) (m : pMem) : (olX2 E m)[2]? = some (.int (m.1 3 2)) := rfl
theorem fwX2_2 : gFw TX2 17 2 .int := ⟨nmX2, ⟨tyX2, tyX2_ok⟩, rfl, by decide +kernel⟩
theorem psX2_2 (E : pEv) (m : pMem) (v : Int32) : (wG E m).set 3 (eA E 3, .inr (2, (olX2 E m).set 2 (.int v))) = wG E (st1 m 3 2 v) := rfl
theorem gvX2_3 (E : pEv) (m : pMem) : (olX2 E m)[3]? = some (.ref (eA E 21)) := rfl
theorem gvX2_4 (E : pEv) (m : pMem) : (olX2 E m)[4]? = some (.ref (eA E 22)) := rfl
theorem gvX2_5 (E : pEv) (m : pMem) : (olX2 E m)[5]? = some (.ref (eA E 23)) := rfl
theorem gvX2_6 (E : pEv) (m : pMem) : (olX2 E m)[6]? = some (.int (m.1 3 6)) := rfl
theorem fwX2_6 : gFw TX2 17 6 .int := ⟨nmX2, ⟨tyX2, tyX2_ok⟩, rfl, by decide +kernel⟩
theorem psX2_6 (E : pEv) (m : pMem) (v : Int32) : (wG E m).set 3 (eA E 3, .inr (2, (olX2 E m).set 6 (.int v))) = wG E (st1 m 3 6 v) := rfl
theorem gvX2_7 (E : pEv) (m : pMem) : (olX2 E m)[7]? = some (.ref (eA E 24)) := rfl
theorem gvX2_8 (E : pEv) (m : pMem) : (olX2 E m)[8]? = some (.ref (eA E 25)) := rfl
theorem gvX2_9 (E : pEv) (m : pMem) : (olX2 E m)[9]? = some (.ref (eA E 26)) := rfl
theorem gvX2_10 (E : pEv) (m : pMem) : (olX2 E m)[10]? = some (.ref (eA E 27)) := rfl
theorem gvX2_11 (E : pEv) (m : pMem) : (olX2 E m)[11]? = some (.ref (eA E 28)) := rfl
theorem gvX2_12 (E : pEv) (m : pMem) : (olX2 E m)[12]? = some (.ref (eA E 106)) := rfl
theorem gvX2_13 (E : pEv) (m : pMem) : (olX2 E m)[13]? = some (.ref (eA E 107)) := rfl
theorem gvX2_14 (E : pEv) (m : pMem) : (olX2 E m)[14]? = some (.int (m.1 3 12)) := rfl
theorem fwX2_14 : gFw TX2 17 14 .int := ⟨nmX2, ⟨tyX2, tyX2_ok⟩, rfl, by decide +kernel⟩
theorem psX2_14 (E : pEv) (m : pMem) (v : Int32) : (wG E m).set 3 (eA E 3, .inr (2, (olX2 E m).set 14 (.int v))) = wG E (st1 m 3 12 v) := rfl
theorem gvX2_15 (E : pEv) (m : pMem) : (olX2 E m)[15]? = some (.ref (eA E 29)) := rfl
theorem gvX2_16 (E : pEv) (m : pMem) : (olX2 E m)[16]? = some (.ref (eA E 43)) := rfl
theorem inX3 : ∀ w, w ∈ u_ws RX3 TX3 13 → w ∈ gAW := gAW_ps _ [213, 215, 217, 219, 221, 223, 225, 227, 229, 231, 233, 235, 237] (by decide +kernel) (by decide +kernel)
abbrev olX3 (E : pEv) (m : pMem) : List Value := [.ref (eA E 3), .ref (eA E 6), .ref (eA E 8), .ref (eA E 7), .ref (eA E 44), .ref (eA E 45), .ref (eA E 46), .ref (eA E 47), .int (m.1 4 8), .int (m.1 4 9), .int (m.1 4 10), .int (m.1 4 11), .ref (eA E 48)]
theorem obX3 (E : pEv) (m : pMem) : (wG E m)[4]? = some (eA E 4, .inr (3, olX3 E m)) := rfl
theorem gvX3_0 (E : pEv) (m : pMem) : (olX3 E m)[0]? = some (.ref (eA E 3)) := rfl
theorem gvX3_1 (E : pEv) (m : pMem) : (olX3 E m)[1]? = some (.ref (eA E 6)) := rfl
theorem gvX3_2 (E : pEv) (m : pMem) : (olX3 E m)[2]? = some (.ref (eA E 8)) := rfl
theorem gvX3_3 (E : pEv) (m : pMem) : (olX3 E m)[3]? = some (.ref (eA E 7)) := rfl
theorem gvX3_4 (E : pEv) (m : pMem) : (olX3 E m)[4]? = some (.ref (eA E 44)) := rfl
theorem gvX3_5 (E : pEv) (m : pMem) : (olX3 E m)[5]? = some (.ref (eA E 45)) := rfl
theorem gvX3_6 (E : pEv) (m : pMem) : (olX3 E m)[6]? = some (.ref (eA E 46)) := rfl
theorem gvX3_7 (E : pEv) (m : pMem) : (olX3 E m)[7]? = some (.ref (eA E 47)) := rfl
theorem gvX3_8 (E : pEv) (m : pMem) : (olX3 E m)[8]? = some (.int (m.1 4 8)) := rfl
theorem fwX3_8 : gFw TX3 13 8 .int := ⟨nmX3, ⟨tyX3, tyX3_ok⟩, rfl, by decide +kernel⟩
theorem psX3_8 (E : pEv) (m : pMem) (v : Int32) : (wG E m).set 4 (eA E 4, .inr (3, (olX3 E m).set 8 (.int v))) = wG E (st1 m 4 8 v) := rfl
theorem gvX3_9 (E : pEv) (m : pMem) : (olX3 E m)[9]? = some (.int (m.1 4 9)) := rfl
theorem fwX3_9 : gFw TX3 13 9 .int := ⟨nmX3, ⟨tyX3, tyX3_ok⟩, rfl, by decide +kernel⟩
theorem psX3_9 (E : pEv) (m : pMem) (v : Int32) : (wG E m).set 4 (eA E 4, .inr (3, (olX3 E m).set 9 (.int v))) = wG E (st1 m 4 9 v) := rfl
theorem gvX3_10 (E : pEv) (m : pMem) : (olX3 E m)[10]? = some (.int (m.1 4 10)) := rfl
theorem fwX3_10 : gFw TX3 13 10 .int := ⟨nmX3, ⟨tyX3, tyX3_ok⟩, rfl, by decide +kernel⟩
theorem psX3_10 (E : pEv) (m : pMem) (v : Int32) : (wG E m).set 4 (eA E 4, .inr (3, (olX3 E m).set 10 (.int v))) = wG E (st1 m 4 10 v) := rfl
theorem gvX3_11 (E : pEv) (m : pMem) : (olX3 E m)[11]? = some (.int (m.1 4 11)) := rfl
theorem fwX3_11 : gFw TX3 13 11 .int := ⟨nmX3, ⟨tyX3, tyX3_ok⟩, rfl, by decide +kernel⟩
theorem psX3_11 (E : pEv) (m : pMem) (v : Int32) : (wG E m).set 4 (eA E 4, .inr (3, (olX3 E m).set 11 (.int v))) = wG E (st1 m 4 11 v) := rfl
theorem gvX3_12 (E : pEv) (m : pMem) : (olX3 E m)[12]? = some (.ref (eA E 48)) := rfl
theorem inX4 : ∀ w, w ∈ u_ws RX4 TX4 4 → w ∈ gAW := gAW_ps _ [300, 302, 304, 306] (by decide +kernel) (by decide +kernel)
abbrev olX4 (E : pEv) (m : pMem) : List Value := [.ref (eA E 49), .ref (eA E 50), .ref (eA E 51), .int (m.1 5 3)]
theorem obX4 (E : pEv) (m : pMem) : (wG E m)[5]? = some (eA E 5, .inr (4, olX4 E m)) := rfl
theorem gvX4_0 (E : pEv) (m : pMem) : (olX4 E m)[0]? = some (.ref (eA E 49)) := rfl
theorem gvX4_1 (E : pEv) (m : pMem) : (olX4 E m)[1]? = some (.ref (eA E 50)) := rfl
theorem gvX4_2 (E : pEv) (m : pMem) : (olX4 E m)[2]? = some (.ref (eA E 51)) := rfl
theorem gvX4_3 (E : pEv) (m : pMem) : (olX4 E m)[3]? = some (.int (m.1 5 3)) := rfl
theorem fwX4_3 : gFw TX4 4 3 .int := ⟨nmX4, ⟨tyX4, tyX4_ok⟩, rfl, by decide +kernel⟩
theorem psX4_3 (E : pEv) (m : pMem) (v : Int32) : (wG E m).set 5 (eA E 5, .inr (4, (olX4 E m).set 3 (.int v))) = wG E (st1 m 5 3 v) := rfl
theorem inX5 : ∀ w, w ∈ u_ws RX5 TX5 7 → w ∈ gAW := gAW_ps _ [127, 129, 131, 133, 135, 137, 139] (by decide +kernel) (by decide +kernel)
abbrev olX5 (E : pEv) (m : pMem) : List Value := [.ref (eA E 52), .int (m.1 6 1), .ref (eA E 53), .int (m.1 6 3), .int (m.1 6 4), .int (m.1 6 5), .ref (eA E 54)]
theorem obX5 (E : pEv) (m : pMem) : (wG E m)[6]? = some (eA E 6, .inr (5, olX5 E m)) := rfl
theorem gvX5_0 (E : pEv) (m : pMem) : (olX5 E m)[0]? = some (.ref (eA E 52)) := rfl
theorem gvX5_1 (E : pEv) (m : pMem) : (olX5 E m)[1]? = some (.int (m.1 6 1)) := rfl
theorem fwX5_1 : gFw TX5 7 1 .int := ⟨nmX5, ⟨tyX5, tyX5_ok⟩, rfl, by decide +kernel⟩
theorem psX5_1 (E : pEv) (m : pMem) (v : Int32) : (wG E m).set 6 (eA E 6, .inr (5, (olX5 E m).set 1 (.int v))) = wG E (st1 m 6 1 v) := rfl
theorem gvX5_2 (E : pEv) (m : pMem) : (olX5 E m)[2]? = some (.ref (eA E 53)) := rfl
theorem gvX5_3 (E : pEv) (m : pMem) : (olX5 E m)[3]? = some (.int (m.1 6 3)) := rfl
theorem fwX5_3 : gFw TX5 7 3 .int := ⟨nmX5, ⟨tyX5, tyX5_ok⟩, rfl, by decide +kernel⟩
theorem psX5_3 (E : pEv) (m : pMem) (v : Int32) : (wG E m).set 6 (eA E 6, .inr (5, (olX5 E m).set 3 (.int v))) = wG E (st1 m 6 3 v) := rfl
theorem gvX5_4 (E : pEv) (m : pMem) : (olX5 E m)[4]? = some (.int (m.1 6 4)) := rfl
theorem fwX5_4 : gFw TX5 7 4 .int := ⟨nmX5, ⟨tyX5, tyX5_ok⟩, rfl, by decide +kernel⟩
theorem psX5_4 (E : pEv) (m : pMem) (v : Int32) : (wG E m).set 6 (eA E 6, .inr (5, (olX5 E m).set 4 (.int v))) = wG E (st1 m 6 4 v) := rfl
theorem gvX5_5 (E : pEv) (m : pMem) : (olX5 E m)[5]? = some (.int (m.1 6 5)) := rfl
theorem fwX5_5 : gFw TX5 7 5 .int := ⟨nmX5, ⟨tyX5, tyX5_ok⟩, rfl, by decide +kernel⟩
theorem psX5_5 (E : pEv) (m : pMem) (v : Int32) : (wG E m).set 6 (eA E 6, .inr (5, (olX5 E m).set 5 (.int v))) = wG E (st1 m 6 5 v) := rfl
theorem gvX5_6 (E : pEv) (m : pMem) : (olX5 E m)[6]? = some (.ref (eA E 54)) := rfl
theorem inX6 : ∀ w, w ∈ u_ws RX6 TX6 5 → w ∈ gAW := gAW_ps _ [181, 183, 185, 187, 189] (by decide +kernel) (by decide +kernel)
abbrev olX6 (E : pEv) (m : pMem) : List Value := [.ref (eA E 55), .ref (eA E 56), .ref (eA E 57), .ref (eA E 58), .int (m.1 7 4)]
theorem obX6 (E : pEv) (m : pMem) : (wG E m)[7]? = some (eA E 7, .inr (6, olX6 E m)) := rfl
theorem gvX6_0 (E : pEv) (m : pMem) : (olX6 E m)[0]? = some (.ref (eA E 55)) := rfl
theorem gvX6_1 (E : pEv) (m : pMem) : (olX6 E m)[1]? = some (.ref (eA E 56)) := rfl
theorem gvX6_2 (E : pEv) (m : pMem) : (olX6 E m)[2]? = some (.ref (eA E 57)) := rfl
theorem gvX6_3 (E : pEv) (m : pMem) : (olX6 E m)[3]? = some (.ref (eA E 58)) := rfl
theorem gvX6_4 (E : pEv) (m : pMem) : (olX6 E m)[4]? = some (.int (m.1 7 4)) := rfl
theorem fwX6_4 : gFw TX6 5 4 .int := ⟨nmX6, ⟨tyX6, tyX6_ok⟩, rfl, by decide +kernel⟩
theorem psX6_4 (E : pEv) (m : pMem) (v : Int32) : (wG E m).set 7 (eA E 7, .inr (6, (olX6 E m).set 4 (.int v))) = wG E (st1 m 7 4 v) := rfl
theorem inX7 : ∀ w, w ∈ u_ws RX7 TX7 6 → w ∈ gAW := gAW_ps _ [155, 157, 159, 161, 163, 165] (by decide +kernel) (by decide +kernel)
abbrev olX7 (E : pEv) (m : pMem) : List Value := [.ref (eA E 59), .ref (eA E 60), .ref (eA E 61), .ref (eA E 62), .ref (eA E 63), .int (m.1 8 5)]
theorem obX7 (E : pEv) (m : pMem) : (wG E m)[8]? = some (eA E 8, .inr (7, olX7 E m)) := rfl
theorem gvX7_0 (E : pEv) (m : pMem) : (olX7 E m)[0]? = some (.ref (eA E 59)) := rfl
theorem gvX7_1 (E : pEv) (m : pMem) : (olX7 E m)[1]? = some (.ref (eA E 60)) := rfl
theorem gvX7_2 (E : pEv) (m : pMem) : (olX7 E m)[2]? = some (.ref (eA E 61)) := rfl
theorem gvX7_3 (E : pEv) (m : pMem) : (olX7 E m)[3]? = some (.ref (eA E 62)) := rfl
theorem gvX7_4 (E : pEv) (m : pMem) : (olX7 E m)[4]? = some (.ref (eA E 63)) := rfl
theorem gvX7_5 (E : pEv) (m : pMem) : (olX7 E m)[5]? = some (.int (m.1 8 5)) := rfl
theorem fwX7_5 : gFw TX7 6 5 .int := ⟨nmX7, ⟨tyX7, tyX7_ok⟩, rfl, by decide +kernel⟩
theorem psX7_5 (E : pEv) (m : pMem) (v : Int32) : (wG E m).set 8 (eA E 8, .inr (7, (olX7 E m).set 5 (.int v))) = wG E (st1 m 8 5 v) := rfl
theorem inX8 : ∀ w, w ∈ u_ws RX8 TX8 8 → w ∈ gAW := gAW_ps _ [328, 330, 332, 334, 336, 338, 340, 342] (by decide +kernel) (by decide +kernel)
abbrev olX8 (E : pEv) (m : pMem) : List Value := [.ref (eA E 3), .ref (eA E 6), .ref (eA E 8), .ref (eA E 7), .ref (eA E 4), .ref (eA E 2), .ref (eA E 5), .ref (eA E 1)]
theorem obX8 (E : pEv) (m : pMem) : (wG E m)[0]? = some (eA E 0, .inr (8, olX8 E m)) := rfl
theorem gvX8_0 (E : pEv) (m : pMem) : (olX8 E m)[0]? = some (.ref (eA E 3)) := rfl
theorem gvX8_1 (E : pEv) (m : pMem) : (olX8 E m)[1]? = some (.ref (eA E 6)) := rfl
theorem gvX8_2 (E : pEv) (m : pMem) : (olX8 E m)[2]? = some (.ref (eA E 8)) := rfl
theorem gvX8_3 (E : pEv) (m : pMem) : (olX8 E m)[3]? = some (.ref (eA E 7)) := rfl
theorem gvX8_4 (E : pEv) (m : pMem) : (olX8 E m)[4]? = some (.ref (eA E 4)) := rfl
theorem gvX8_5 (E : pEv) (m : pMem) : (olX8 E m)[5]? = some (.ref (eA E 2)) := rfl
theorem gvX8_6 (E : pEv) (m : pMem) : (olX8 E m)[6]? = some (.ref (eA E 5)) := rfl
theorem gvX8_7 (E : pEv) (m : pMem) : (olX8 E m)[7]? = some (.ref (eA E 1)) := rfl
theorem inX9 : ∀ w, w ∈ u_ws RX9 TX9 60 → w ∈ gAW := gAW_ps _ [906, 908, 910, 912, 914, 916, 918, 920, 922, 924, 926, 928, 930, 932, 934, 936, 938, 940, 942, 944, 946, 948, 950, 952, 954, 956, 958, 960, 962, 964, 966, 968, 970, 972, 974, 976, 978, 980, 982, 984, 986, 988, 990, 992, 994, 996, 998, 1000, 1002, 1004, 1006, 1008, 1010, 1012, 1014, 1016, 1018, 1020, 1022, 1024] (by decide +kernel) (by decide +kernel)
abbrev olX9 (E : pEv) (m : pMem) : List Value := [.int (m.1 9 0), .ref (eA E 64), .ref (eA E 65), .int (m.1 9 3), .ref (eA E 66), .ref (eA E 67), .int (m.1 9 6), .ref (eA E 68), .ref (eA E 69), .ref (eA E 70), .ref (eA E 71), .ref (eA E 72), .ref (eA E 73), .ref (eA E 74), .ref (eA E 75), .int (m.1 9 15), .ref (eA E 76), .int (m.1 9 17), .int (m.1 9 18), .long (m.2 9 19), .int (m.1 9 20), .int (m.1 9 21), .int (m.1 9 22), .int (m.1 9 23), .ref (eA E 77), .ref (eA E 78), .int (m.1 9 26), .ref (eA E 79), .ref (eA E 80), .ref (eA E 81), .ref (eA E 82), .ref (eA E 83), .int (m.1 9 32), .ref (eA E 84), .ref (eA E 85), .ref (eA E 86), .ref (eA E 87), .ref (eA E 88), .int (m.1 9 38), .int (m.1 9 39), .ref (eA E 89), .ref (eA E 90), .ref (eA E 91), .ref (eA E 92), .ref (eA E 93), .ref (eA E 94), .int (m.1 9 46), .ref (eA E 95), .ref (eA E 96), .ref (eA E 97), .ref (eA E 98), .int (m.1 9 51), .ref (eA E 99), .ref (eA E 100), .ref (eA E 101), .int (m.1 9 55), .ref (eA E 102), .ref (eA E 103), .ref (eA E 104), .ref (eA E 105)]
theorem obX9 (E : pEv) (m : pMem) : (wG E m)[9]? = some (eA E 9, .inr (9, olX9 E m)) := rfl
theorem gvX9_0 (E : pEv) (m : pMem) : (olX9 E m)[0]? = some (.int (m.1 9 0)) := rfl
theorem fwX9_0 : gFw TX9 60 0 .int := ⟨nmX9, ⟨tyX9, tyX9_ok⟩, rfl, by decide +kernel⟩
theorem psX9_0 (E : pEv) (m : pMem) (v : Int32) : (wG E m).set 9 (eA E 9, .inr (9, (olX9 E m).set 0 (.int v))) = wG E (st1 m 9 0 v) := rfl
theorem gvX9_1 (E : pEv) (m : pMem) : (olX9 E m)[1]? = some (.ref (eA E 64)) := rfl
theorem gvX9_2 (E : pEv) (m : pMem) : (olX9 E m)[2]? = some (.ref (eA E 65)) := rfl
theorem gvX9_3 (E : pEv) (m : pMem) : (olX9 E m)[3]? = some (.int (m.1 9 3)) := rfl
theorem fwX9_3 : gFw TX9 60 3 .int := ⟨nmX9, ⟨tyX9, tyX9_ok⟩, rfl, by decide +kernel⟩
theorem psX9_3 (E : pEv) (m : pMem) (v : Int32) : (wG E m).set 9 (eA E 9, .inr (9, (olX9 E m).set 3 (.int v))) = wG E (st1 m 9 3 v) := rfl
theorem gvX9_4 (E : pEv) (m : pMem) : (olX9 E m)[4]? = some (.ref (eA E 66)) := rfl
theorem gvX9_5 (E : pEv) (m : pMem) : (olX9 E m)[5]? = some (.ref (eA E 67)) := rfl
theorem gvX9_6 (E : pEv) (m : pMem) : (olX9 E m)[6]? = some (.int (m.1 9 6)) := rfl
theorem fwX9_6 : gFw TX9 60 6 .int := ⟨nmX9, ⟨tyX9, tyX9_ok⟩, rfl, by decide +kernel⟩
theorem psX9_6 (E : pEv) (m : pMem) (v : Int32) : (wG E m).set 9 (eA E 9, .inr (9, (olX9 E m).set 6 (.int v))) = wG E (st1 m 9 6 v) := rfl
theorem gvX9_7 (E : pEv) (m : pMem) : (olX9 E m)[7]? = some (.ref (eA E 68)) := rfl
theorem gvX9_8 (E : pEv) (m : pMem) : (olX9 E m)[8]? = some (.ref (eA E 69)) := rfl
theorem gvX9_9 (E : pEv) (m : pMem) : (olX9 E m)[9]? = some (.ref (eA E 70)) := rfl
theorem gvX9_10 (E : pEv) (m : pMem) : (olX9 E m)[10]? = some (.ref (eA E 71)) := rfl
theorem gvX9_11 (E : pEv) (m : pMem) : (olX9 E m)[11]? = some (.ref (eA E 72)) := rfl
theorem gvX9_12 (E : pEv) (m : pMem) : (olX9 E m)[12]? = some (.ref (eA E 73)) := rfl
theorem gvX9_13 (E : pEv) (m : pMem) : (olX9 E m)[13]? = some (.ref (eA E 74)) := rfl
theorem gvX9_14 (E : pEv) (m : pMem) : (olX9 E m)[14]? = some (.ref (eA E 75)) := rfl
theorem gvX9_15 (E : pEv) (m : pMem) : (olX9 E m)[15]? = some (.int (m.1 9 15)) := rfl
theorem fwX9_15 : gFw TX9 60 15 .int := ⟨nmX9, ⟨tyX9, tyX9_ok⟩, rfl, by decide +kernel⟩
theorem psX9_15 (E : pEv) (m : pMem) (v : Int32) : (wG E m).set 9 (eA E 9, .inr (9, (olX9 E m).set 15 (.int v))) = wG E (st1 m 9 15 v) := rfl
theorem gvX9_16 (E : pEv) (m : pMem) : (olX9 E m)[16]? = some (.ref (eA E 76)) := rfl
theorem gvX9_17 (E : pEv) (m : pMem) : (olX9 E m)[17]? = some (.int (m.1 9 17)) := rfl
theorem fwX9_17 : gFw TX9 60 17 .int := ⟨nmX9, ⟨tyX9, tyX9_ok⟩, rfl, by decide +kernel⟩
theorem psX9_17 (E : pEv) (m : pMem) (v : Int32) : (wG E m).set 9 (eA E 9, .inr (9, (olX9 E m).set 17 (.int v))) = wG E (st1 m 9 17 v) := rfl
theorem gvX9_18 (E : pEv) (m : pMem) : (olX9 E m)[18]? = some (.int (m.1 9 18)) := rfl
theorem fwX9_18 : gFw TX9 60 18 .int := ⟨nmX9, ⟨tyX9, tyX9_ok⟩, rfl, by decide +kernel⟩
theorem psX9_18 (E : pEv) (m : pMem) (v : Int32) : (wG E m).set 9 (eA E 9, .inr (9, (olX9 E m).set 18 (.int v))) = wG E (st1 m 9 18 v) := rfl
theorem gvX9_19 (E : pEv) (m : pMem) : (olX9 E m)[19]? = some (.long (m.2 9 19)) := rfl
theorem fwX9_19 : gFw TX9 60 19 .long := ⟨nmX9, ⟨tyX9, tyX9_ok⟩, rfl, by decide +kernel⟩
theorem psX9_19 (E : pEv) (m : pMem) (v : Int64) : (wG E m).set 9 (eA E 9, .inr (9, (olX9 E m).set 19 (.long v))) = wG E (st2 m 9 19 v) := rfl
theorem gvX9_20 (E : pEv) (m : pMem) : (olX9 E m)[20]? = some (.int (m.1 9 20)) := rfl
theorem fwX9_20 : gFw TX9 60 20 .int := ⟨nmX9, ⟨tyX9, tyX9_ok⟩, rfl, by decide +kernel⟩
theorem psX9_20 (E : pEv) (m : pMem) (v : Int32) : (wG E m).set 9 (eA E 9, .inr (9, (olX9 E m).set 20 (.int v))) = wG E (st1 m 9 20 v) := rfl
theorem gvX9_21 (E : pEv) (m : pMem) : (olX9 E m)[21]? = some (.int (m.1 9 21)) := rfl
theorem fwX9_21 : gFw TX9 60 21 .int := ⟨nmX9, ⟨tyX9, tyX9_ok⟩, rfl, by decide +kernel⟩
theorem psX9_21 (E : pEv) (m : pMem) (v : Int32) : (wG E m).set 9 (eA E 9, .inr (9, (olX9 E m).set 21 (.int v))) = wG E (st1 m 9 21 v) := rfl
theorem gvX9_22 (E : pEv) (m : pMem) : (olX9 E m)[22]? = some (.int (m.1 9 22)) := rfl
theorem fwX9_22 : gFw TX9 60 22 .int := ⟨nmX9, ⟨tyX9, tyX9_ok⟩, rfl, by decide +kernel⟩
theorem psX9_22 (E : pEv) (m : pMem) (v : Int32) : (wG E m).set 9 (eA E 9, .inr (9, (olX9 E m).set 22 (.int v))) = wG E (st1 m 9 22 v) := rfl
theorem gvX9_23 (E : pEv) (m : pMem) : (olX9 E m)[23]? = some (.int (m.1 9 23)) := rfl
theorem fwX9_23 : gFw TX9 60 23 .int := ⟨nmX9, ⟨tyX9, tyX9_ok⟩, rfl, by decide +kernel⟩
theorem psX9_23 (E : pEv) (m : pMem) (v : Int32) : (wG E m).set 9 (eA E 9, .inr (9, (olX9 E m).set 23 (.int v))) = wG E (st1 m 9 23 v) := rfl
theorem gvX9_24 (E : pEv) (m : pMem) : (olX9 E m)[24]? = some (.ref (eA E 77)) := rfl
theorem gvX9_25 (E : pEv) (m : pMem) : (olX9 E m)[25]? = some (.ref (eA E 78)) := rfl
theorem gvX9_26 (E : pEv) (m : pMem) : (olX9 E m)[26]? = some (.int (m.1 9 26)) := rfl
theorem fwX9_26 : gFw TX9 60 26 .int := ⟨nmX9, ⟨tyX9, tyX9_ok⟩, rfl, by decide +kernel⟩
theorem psX9_26 (E : pEv) (m : pMem) (v : Int32) : (wG E m).set 9 (eA E 9, .inr (9, (olX9 E m).set 26 (.int v))) = wG E (st1 m 9 26 v) := rfl
theorem gvX9_27 (E : pEv) (m : pMem) : (olX9 E m)[27]? = some (.ref (eA E 79)) := rfl
theorem gvX9_28 (E : pEv) (m : pMem) : (olX9 E m)[28]? = some (.ref (eA E 80)) := rfl
theorem gvX9_29 (E : pEv) (m : pMem) : (olX9 E m)[29]? = some (.ref (eA E 81)) := rfl
theorem gvX9_30 (E : pEv) (m : pMem) : (olX9 E m)[30]? = some (.ref (eA E 82)) := rfl
theorem gvX9_31 (E : pEv) (m : pMem) : (olX9 E m)[31]? = some (.ref (eA E 83)) := rfl
theorem gvX9_32 (E : pEv) (m : pMem) : (olX9 E m)[32]? = some (.int (m.1 9 32)) := rfl
theorem fwX9_32 : gFw TX9 60 32 .int := ⟨nmX9, ⟨tyX9, tyX9_ok⟩, rfl, by decide +kernel⟩
theorem psX9_32 (E : pEv) (m : pMem) (v : Int32) : (wG E m).set 9 (eA E 9, .inr (9, (olX9 E m).set 32 (.int v))) = wG E (st1 m 9 32 v) := rfl
theorem gvX9_33 (E : pEv) (m : pMem) : (olX9 E m)[33]? = some (.ref (eA E 84)) := rfl
theorem gvX9_34 (E : pEv) (m : pMem) : (olX9 E m)[34]? = some (.ref (eA E 85)) := rfl
theorem gvX9_35 (E : pEv) (m : pMem) : (olX9 E m)[35]? = some (.ref (eA E 86)) := rfl
theorem gvX9_36 (E : pEv) (m : pMem) : (olX9 E m)[36]? = some (.ref (eA E 87)) := rfl
theorem gvX9_37 (E : pEv) (m : pMem) : (olX9 E m)[37]? = some (.ref (eA E 88)) := rfl
theorem gvX9_38 (E : pEv) (m : pMem) : (olX9 E m)[38]? = some (.int (m.1 9 38)) := rfl
theorem fwX9_38 : gFw TX9 60 38 .int := ⟨nmX9, ⟨tyX9, tyX9_ok⟩, rfl, by decide +kernel⟩
theorem psX9_38 (E : pEv) (m : pMem) (v : Int32) : (wG E m).set 9 (eA E 9, .inr (9, (olX9 E m).set 38 (.int v))) = wG E (st1 m 9 38 v) := rfl
theorem gvX9_39 (E : pEv) (m : pMem) : (olX9 E m)[39]? = some (.int (m.1 9 39)) := rfl
theorem fwX9_39 : gFw TX9 60 39 .int := ⟨nmX9, ⟨tyX9, tyX9_ok⟩, rfl, by decide +kernel⟩
theorem psX9_39 (E : pEv) (m : pMem) (v : Int32) : (wG E m).set 9 (eA E 9, .inr (9, (olX9 E m).set 39 (.int v))) = wG E (st1 m 9 39 v) := rfl
theorem gvX9_40 (E : pEv) (m : pMem) : (olX9 E m)[40]? = some (.ref (eA E 89)) := rfl
theorem gvX9_41 (E : pEv) (m : pMem) : (olX9 E m)[41]? = some (.ref (eA E 90)) := rfl
theorem gvX9_42 (E : pEv) (m : pMem) : (olX9 E m)[42]? = some (.ref (eA E 91)) := rfl
theorem gvX9_43 (E : pEv) (m : pMem) : (olX9 E m)[43]? = some (.ref (eA E 92)) := rfl
theorem gvX9_44 (E : pEv) (m : pMem) : (olX9 E m)[44]? = some (.ref (eA E 93)) := rfl
theorem gvX9_45 (E : pEv) (m : pMem) : (olX9 E m)[45]? = some (.ref (eA E 94)) := rfl
theorem gvX9_46 (E : pEv) (m : pMem) : (olX9 E m)[46]? = some (.int (m.1 9 46)) := rfl
theorem fwX9_46 : gFw TX9 60 46 .int := ⟨nmX9, ⟨tyX9, tyX9_ok⟩, rfl, by decide +kernel⟩
theorem psX9_46 (E : pEv) (m : pMem) (v : Int32) : (wG E m).set 9 (eA E 9, .inr (9, (olX9 E m).set 46 (.int v))) = wG E (st1 m 9 46 v) := rfl
theorem gvX9_47 (E : pEv) (m : pMem) : (olX9 E m)[47]? = some (.ref (eA E 95)) := rfl
theorem gvX9_48 (E : pEv) (m : pMem) : (olX9 E m)[48]? = some (.ref (eA E 96)) := rfl
theorem gvX9_49 (E : pEv) (m : pMem) : (olX9 E m)[49]? = some (.ref (eA E 97)) := rfl
theorem gvX9_50 (E : pEv) (m : pMem) : (olX9 E m)[50]? = some (.ref (eA E 98)) := rfl
theorem gvX9_51 (E : pEv) (m : pMem) : (olX9 E m)[51]? = some (.int (m.1 9 51)) := rfl
theorem fwX9_51 : gFw TX9 60 51 .int := ⟨nmX9, ⟨tyX9, tyX9_ok⟩, rfl, by decide +kernel⟩
theorem psX9_51 (E : pEv) (m : pMem) (v : Int32) : (wG E m).set 9 (eA E 9, .inr (9, (olX9 E m).set 51 (.int v))) = wG E (st1 m 9 51 v) := rfl
theorem gvX9_52 (E : pEv) (m : pMem) : (olX9 E m)[52]? = some (.ref (eA E 99)) := rfl
theorem gvX9_53 (E : pEv) (m : pMem) : (olX9 E m)[53]? = some (.ref (eA E 100)) := rfl
theorem gvX9_54 (E : pEv) (m : pMem) : (olX9 E m)[54]? = some (.ref (eA E 101)) := rfl
theorem gvX9_55 (E : pEv) (m : pMem) : (olX9 E m)[55]? = some (.int (m.1 9 55)) := rfl
theorem fwX9_55 : gFw TX9 60 55 .int := ⟨nmX9, ⟨tyX9, tyX9_ok⟩, rfl, by decide +kernel⟩
theorem psX9_55 (E : pEv) (m : pMem) (v : Int32) : (wG E m).set 9 (eA E 9, .inr (9, (olX9 E m).set 55 (.int v))) = wG E (st1 m 9 55 v) := rfl
theorem gvX9_56 (E : pEv) (m : pMem) : (olX9 E m)[56]? = some (.ref (eA E 102)) := rfl
theorem gvX9_57 (E : pEv) (m : pMem) : (olX9 E m)[57]? = some (.ref (eA E 103)) := rfl
theorem gvX9_58 (E : pEv) (m : pMem) : (olX9 E m)[58]? = some (.ref (eA E 104)) := rfl
theorem gvX9_59 (E : pEv) (m : pMem) : (olX9 E m)[59]? = some (.ref (eA E 105)) := rfl
theorem ar_10 : gAl 10 16 := fun E m => ⟨rfl, ⟨0, rfl⟩, fun f => rfl⟩
theorem ar_11 : gAr 11 8 .int := fun E m => ⟨rfl, ⟨1, rfl⟩, fun f => rfl⟩
theorem ar_12 : gAr 12 8 .int := fun E m => ⟨rfl, ⟨2, rfl⟩, fun f => rfl⟩
theorem ar_13 : gAr 13 8 .int := fun E m => ⟨rfl, ⟨3, rfl⟩, fun f => rfl⟩
theorem ar_14 : gAr 14 8 .int := fun E m => ⟨rfl, ⟨4, rfl⟩, fun f => rfl⟩
theorem ar_15 : gAr 15 8 .int := fun E m => ⟨rfl, ⟨5, rfl⟩, fun f => rfl⟩
theorem ar_16 : gAr 16 8 .int := fun E m => ⟨rfl, ⟨6, rfl⟩, fun f => rfl⟩
theorem ar_17 : gAr 17 8 .int := fun E m => ⟨rfl, ⟨7, rfl⟩, fun f => rfl⟩
theorem ar_18 : gAr 18 10 .int := fun E m => ⟨rfl, ⟨8, rfl⟩, fun f => rfl⟩
theorem ar_19 : gAr 19 8 .int := fun E m => ⟨rfl, ⟨9, rfl⟩, fun f => rfl⟩
theorem ar_20 : gAr 20 8 .int := fun E m => ⟨rfl, ⟨10, rfl⟩, fun f => rfl⟩
theorem ar_21 : gAr 21 10 .int := fun E m => ⟨rfl, ⟨11, rfl⟩, fun f => rfl⟩
theorem ar_22 : gAr 22 10 .int := fun E m => ⟨rfl, ⟨12, rfl⟩, fun f => rfl⟩
theorem ar_23 : gAr 23 10 .int := fun E m => ⟨rfl, ⟨13, rfl⟩, fun f => rfl⟩
theorem ar_24 : gAr 24 12 .int := fun E m => ⟨rfl, ⟨14, rfl⟩, fun f => rfl⟩
theorem ar_25 : gAr 25 12 .int := fun E m => ⟨rfl, ⟨15, rfl⟩, fun f => rfl⟩
theorem ar_26 : gAr 26 12 .int := fun E m => ⟨rfl, ⟨16, rfl⟩, fun f => rfl⟩
theorem ar_27 : gAr 27 12 .int := fun E m => ⟨rfl, ⟨17, rfl⟩, fun f => rfl⟩
theorem ar_28 : gAr 28 12 .int := fun E m => ⟨rfl, ⟨18, rfl⟩, fun f => rfl⟩
theorem ar_29 : True := trivial
theorem ar_30 : gAr 30 10 .int := fun E m => ⟨rfl, ⟨20, rfl⟩, fun f => rfl⟩
theorem ar_31 : gAr 31 10 .int := fun E m => ⟨rfl, ⟨21, rfl⟩, fun f => rfl⟩
theorem ar_32 : gAr 32 10 .int := fun E m => ⟨rfl, ⟨22, rfl⟩, fun f => rfl⟩
theorem ar_33 : gAr 33 10 .int := fun E m => ⟨rfl, ⟨23, rfl⟩, fun f => rfl⟩
theorem ar_34 : gAr 34 10 .int := fun E m => ⟨rfl, ⟨24, rfl⟩, fun f => rfl⟩
theorem ar_35 : gAr 35 10 .int := fun E m => ⟨rfl, ⟨25, rfl⟩, fun f => rfl⟩
theorem ar_36 : gAr 36 10 .int := fun E m => ⟨rfl, ⟨26, rfl⟩, fun f => rfl⟩
theorem ar_37 : gAr 37 10 .int := fun E m => ⟨rfl, ⟨27, rfl⟩, fun f => rfl⟩
theorem ar_38 : gAr 38 10 .int := fun E m => ⟨rfl, ⟨28, rfl⟩, fun f => rfl⟩
theorem ar_39 : gAr 39 10 .int := fun E m => ⟨rfl, ⟨29, rfl⟩, fun f => rfl⟩
theorem ar_40 : gAr 40 10 .int := fun E m => ⟨rfl, ⟨30, rfl⟩, fun f => rfl⟩
theorem ar_41 : gAr 41 10 .int := fun E m => ⟨rfl, ⟨31, rfl⟩, fun f => rfl⟩
theorem ar_42 : gAr 42 10 .int := fun E m => ⟨rfl, ⟨32, rfl⟩, fun f => rfl⟩
theorem ar_43 : gAr 43 13 .int := fun E m => ⟨rfl, ⟨33, rfl⟩, fun f => rfl⟩
theorem ar_44 : gAr 44 12 .int := fun E m => ⟨rfl, ⟨34, rfl⟩, fun f => rfl⟩
theorem ar_45 : gAr 45 12 .int := fun E m => ⟨rfl, ⟨35, rfl⟩, fun f => rfl⟩
theorem ar_46 : gAr 46 12 .int := fun E m => ⟨rfl, ⟨36, rfl⟩, fun f => rfl⟩
theorem ar_47 : gAr 47 12 .int := fun E m => ⟨rfl, ⟨37, rfl⟩, fun f => rfl⟩
theorem ar_48 : gAr 48 12 .int := fun E m => ⟨rfl, ⟨38, rfl⟩, fun f => rfl⟩
theorem ar_49 : gAr 49 12 .int := fun E m => ⟨rfl, ⟨39, rfl⟩, fun f => rfl⟩
theorem ar_50 : gAr 50 12 .int := fun E m => ⟨rfl, ⟨40, rfl⟩, fun f => rfl⟩
theorem ar_51 : gAr 51 12 .int := fun E m => ⟨rfl, ⟨41, rfl⟩, fun f => rfl⟩
theorem ar_52 : gAr 52 160 .int := fun E m => ⟨rfl, ⟨42, rfl⟩, fun f => rfl⟩
theorem ar_53 : gAr 53 5 .int := fun E m => ⟨rfl, ⟨43, rfl⟩, fun f => rfl⟩
theorem ar_54 : gAr 54 5 .int := fun E m => ⟨rfl, ⟨44, rfl⟩, fun f => rfl⟩
theorem ar_55 : gAr 55 24 .int := fun E m => ⟨rfl, ⟨45, rfl⟩, fun f => rfl⟩
theorem ar_56 : gAr 56 24 .int := fun E m => ⟨rfl, ⟨46, rfl⟩, fun f => rfl⟩
theorem ar_57 : gAr 57 24 .boolean := fun E m => ⟨rfl, ⟨47, rfl⟩, fun f => rfl⟩
theorem ar_58 : gAr 58 24 .int := fun E m => ⟨rfl, ⟨48, rfl⟩, fun f => rfl⟩
theorem ar_59 : gAr 59 24 .int := fun E m => ⟨rfl, ⟨49, rfl⟩, fun f => rfl⟩
theorem ar_60 : gAr 60 24 .int := fun E m => ⟨rfl, ⟨50, rfl⟩, fun f => rfl⟩
theorem ar_61 : gAr 61 24 .boolean := fun E m => ⟨rfl, ⟨51, rfl⟩, fun f => rfl⟩
theorem ar_62 : gAr 62 24 .boolean := fun E m => ⟨rfl, ⟨52, rfl⟩, fun f => rfl⟩
theorem ar_63 : gAr 63 24 .int := fun E m => ⟨rfl, ⟨53, rfl⟩, fun f => rfl⟩
theorem ar_64 : gAr 64 8 .int := fun E m => ⟨rfl, ⟨54, rfl⟩, fun f => rfl⟩
theorem ar_65 : gAr 65 8 .int := fun E m => ⟨rfl, ⟨55, rfl⟩, fun f => rfl⟩
theorem ar_66 : gAr 66 10 .int := fun E m => ⟨rfl, ⟨56, rfl⟩, fun f => rfl⟩
theorem ar_67 : gAr 67 10 .int := fun E m => ⟨rfl, ⟨57, rfl⟩, fun f => rfl⟩
theorem ar_68 : gAr 68 12 .int := fun E m => ⟨rfl, ⟨58, rfl⟩, fun f => rfl⟩
theorem ar_69 : gAr 69 12 .int := fun E m => ⟨rfl, ⟨59, rfl⟩, fun f => rfl⟩
theorem ar_70 : gAr 70 12 .int := fun E m => ⟨rfl, ⟨60, rfl⟩, fun f => rfl⟩
theorem ar_71 : gAr 71 12 .int := fun E m => ⟨rfl, ⟨61, rfl⟩, fun f => rfl⟩
theorem ar_72 : gAr 72 12 .int := fun E m => ⟨rfl, ⟨62, rfl⟩, fun f => rfl⟩
theorem ar_73 : gAr 73 12 .int := fun E m => ⟨rfl, ⟨63, rfl⟩, fun f => rfl⟩
theorem ar_74 : gAr 74 104 .int := fun E m => ⟨rfl, ⟨64, rfl⟩, fun f => rfl⟩
theorem ar_75 : gAr 75 13 .int := fun E m => ⟨rfl, ⟨65, rfl⟩, fun f => rfl⟩
theorem ar_76 : gAr 76 160 .int := fun E m => ⟨rfl, ⟨66, rfl⟩, fun f => rfl⟩
theorem ar_77 : gAr 77 5 .int := fun E m => ⟨rfl, ⟨67, rfl⟩, fun f => rfl⟩
theorem ar_78 : gAr 78 5 .int := fun E m => ⟨rfl, ⟨68, rfl⟩, fun f => rfl⟩
theorem ar_79 : gAr 79 12 .int := fun E m => ⟨rfl, ⟨69, rfl⟩, fun f => rfl⟩
theorem ar_80 : gAr 80 12 .int := fun E m => ⟨rfl, ⟨70, rfl⟩, fun f => rfl⟩
theorem ar_81 : gAr 81 12 .int := fun E m => ⟨rfl, ⟨71, rfl⟩, fun f => rfl⟩
theorem ar_82 : gAr 82 12 .int := fun E m => ⟨rfl, ⟨72, rfl⟩, fun f => rfl⟩
theorem ar_83 : gAr 83 12 .int := fun E m => ⟨rfl, ⟨73, rfl⟩, fun f => rfl⟩
theorem ar_84 : gAr 84 24 .int := fun E m => ⟨rfl, ⟨74, rfl⟩, fun f => rfl⟩
theorem ar_85 : gAr 85 24 .int := fun E m => ⟨rfl, ⟨75, rfl⟩, fun f => rfl⟩
theorem ar_86 : gAr 86 24 .int := fun E m => ⟨rfl, ⟨76, rfl⟩, fun f => rfl⟩
theorem ar_87 : gAr 87 24 .boolean := fun E m => ⟨rfl, ⟨77, rfl⟩, fun f => rfl⟩
theorem ar_88 : gAr 88 24 .boolean := fun E m => ⟨rfl, ⟨78, rfl⟩, fun f => rfl⟩
theorem ar_89 : gAr 89 24 .int := fun E m => ⟨rfl, ⟨79, rfl⟩, fun f => rfl⟩
theorem ar_90 : gAr 90 24 .int := fun E m => ⟨rfl, ⟨80, rfl⟩, fun f => rfl⟩
theorem ar_91 : gAr 91 24 .int := fun E m => ⟨rfl, ⟨81, rfl⟩, fun f => rfl⟩
theorem ar_92 : gAr 92 24 .boolean := fun E m => ⟨rfl, ⟨82, rfl⟩, fun f => rfl⟩
theorem ar_93 : gAr 93 12 .boolean := fun E m => ⟨rfl, ⟨83, rfl⟩, fun f => rfl⟩
theorem ar_94 : gAr 94 12 .int := fun E m => ⟨rfl, ⟨84, rfl⟩, fun f => rfl⟩
theorem ar_95 : gAr 95 8 .int := fun E m => ⟨rfl, ⟨85, rfl⟩, fun f => rfl⟩
theorem ar_96 : gAr 96 8 .int := fun E m => ⟨rfl, ⟨86, rfl⟩, fun f => rfl⟩
theorem ar_97 : gAr 97 8 .int := fun E m => ⟨rfl, ⟨87, rfl⟩, fun f => rfl⟩
theorem ar_98 : gAr 98 8 .int := fun E m => ⟨rfl, ⟨88, rfl⟩, fun f => rfl⟩
theorem ar_99 : gAr 99 8 .int := fun E m => ⟨rfl, ⟨89, rfl⟩, fun f => rfl⟩
theorem ar_100 : gAr 100 8 .int := fun E m => ⟨rfl, ⟨90, rfl⟩, fun f => rfl⟩
theorem ar_101 : gAr 101 8 .int := fun E m => ⟨rfl, ⟨91, rfl⟩, fun f => rfl⟩
theorem ar_102 : gAr 102 12 .int := fun E m => ⟨rfl, ⟨92, rfl⟩, fun f => rfl⟩
theorem ar_103 : gAr 103 12 .int := fun E m => ⟨rfl, ⟨93, rfl⟩, fun f => rfl⟩
theorem ar_104 : gAr 104 12 .int := fun E m => ⟨rfl, ⟨94, rfl⟩, fun f => rfl⟩
theorem ar_105 : gAr 105 10 .int := fun E m => ⟨rfl, ⟨95, rfl⟩, fun f => rfl⟩
theorem ar_106 : gAr 106 12 .int := fun E m => ⟨rfl, ⟨96, rfl⟩, fun f => rfl⟩
theorem ar_107 : gAr 107 12 .int := fun E m => ⟨rfl, ⟨97, rfl⟩, fun f => rfl⟩
theorem ar_rows : ∀ n, n < 13 → gAr (30 + n) 10 .int
  | 0, _ => ar_30
  | 1, _ => ar_31
  | 2, _ => ar_32
  | 3, _ => ar_33
  | 4, _ => ar_34
  | 5, _ => ar_35
  | 6, _ => ar_36
  | 7, _ => ar_37
  | 8, _ => ar_38
  | 9, _ => ar_39
  | 10, _ => ar_40
  | 11, _ => ar_41
  | 12, _ => ar_42
  | n + 13, h => absurd h (by omega)
theorem ar_row {i : Int32} (h : ¬ oob i 13) : gAr (30 + i.toNatClampNeg) 10 .int := ar_rows _ (Nat.not_le.mp fun q => h (Or.inr q))
theorem fX8_10 : gF "PartedLand" 10 8 RX8 TX8 8 0 := ⟨rfl, Nat.le_of_ble_eq_true rfl, gAW_at 320 (by decide +kernel) rfl, inX8⟩
theorem fX8_19 : gF "PartedLand" 19 8 RX8 TX8 8 1 := ⟨rfl, Nat.le_of_ble_eq_true rfl, gAW_at 321 (by decide +kernel) rfl, inX8⟩
theorem fX8_26 : gF "PartedLand" 26 8 RX8 TX8 8 2 := ⟨rfl, Nat.le_of_ble_eq_true rfl, gAW_at 322 (by decide +kernel) rfl, inX8⟩
theorem fX8_33 : gF "PartedLand" 33 8 RX8 TX8 8 3 := ⟨rfl, Nat.le_of_ble_eq_true rfl, gAW_at 323 (by decide +kernel) rfl, inX8⟩
theorem fX8_42 : gF "PartedLand" 42 8 RX8 TX8 8 4 := ⟨rfl, Nat.le_of_ble_eq_true rfl, gAW_at 324 (by decide +kernel) rfl, inX8⟩
theorem fX8_51 : gF "PartedLand" 51 8 RX8 TX8 8 5 := ⟨rfl, Nat.le_of_ble_eq_true rfl, gAW_at 325 (by decide +kernel) rfl, inX8⟩
theorem fX8_58 : gF "PartedLand" 58 8 RX8 TX8 8 6 := ⟨rfl, Nat.le_of_ble_eq_true rfl, gAW_at 326 (by decide +kernel) rfl, inX8⟩
theorem fX8_65 : gF "PartedLand" 65 8 RX8 TX8 8 7 := ⟨rfl, Nat.le_of_ble_eq_true rfl, gAW_at 327 (by decide +kernel) rfl, inX8⟩
theorem fX8_69 : gF "PartedLand" 69 2 RX2 TX2 17 14 := ⟨rfl, Nat.le_of_ble_eq_true rfl, gAW_at 70 (by decide +kernel) rfl, inX2⟩
theorem fX8_73 : gF "PartedLand" 73 2 RX2 TX2 17 2 := ⟨rfl, Nat.le_of_ble_eq_true rfl, gAW_at 40 (by decide +kernel) rfl, inX2⟩
theorem fX8_91 : gF "PartedLand" 91 2 RX2 TX2 17 3 := ⟨rfl, Nat.le_of_ble_eq_true rfl, gAW_at 42 (by decide +kernel) rfl, inX2⟩
theorem fX8_95 : gF "PartedLand" 95 2 RX2 TX2 17 6 := ⟨rfl, Nat.le_of_ble_eq_true rfl, gAW_at 49 (by decide +kernel) rfl, inX2⟩
theorem fX8_113 : gF "PartedLand" 113 2 RX2 TX2 17 16 := ⟨rfl, Nat.le_of_ble_eq_true rfl, gAW_at 74 (by decide +kernel) rfl, inX2⟩
theorem fX8_122 : gF "PartedLand" 122 2 RX2 TX2 17 15 := ⟨rfl, Nat.le_of_ble_eq_true rfl, gAW_at 72 (by decide +kernel) rfl, inX2⟩
theorem fX8_132 : gF "PartedLand" 132 2 RX2 TX2 17 4 := ⟨rfl, Nat.le_of_ble_eq_true rfl, gAW_at 45 (by decide +kernel) rfl, inX2⟩
theorem fX8_138 : gF "PartedLand" 138 5 RX5 TX5 7 1 := ⟨rfl, Nat.le_of_ble_eq_true rfl, gAW_at 119 (by decide +kernel) rfl, inX5⟩
theorem fX8_155 : gF "PartedLand" 155 5 RX5 TX5 7 2 := ⟨rfl, Nat.le_of_ble_eq_true rfl, gAW_at 122 (by decide +kernel) rfl, inX5⟩
theorem fX8_161 : gF "PartedLand" 161 3 RX3 TX3 13 8 := ⟨rfl, Nat.le_of_ble_eq_true rfl, gAW_at 207 (by decide +kernel) rfl, inX3⟩
theorem fX8_171 : gF "PartedLand" 171 7 RX7 TX7 6 5 := ⟨rfl, Nat.le_of_ble_eq_true rfl, gAW_at 154 (by decide +kernel) rfl, inX7⟩
theorem fX8_178 : gF "PartedLand" 178 6 RX6 TX6 5 4 := ⟨rfl, Nat.le_of_ble_eq_true rfl, gAW_at 180 (by decide +kernel) rfl, inX6⟩
theorem fX8_195 : gF "PartedLand" 195 1 RX1 TX1 12 5 := ⟨rfl, Nat.le_of_ble_eq_true rfl, gAW_at 252 (by decide +kernel) rfl, inX1⟩
theorem fX8_207 : gF "PartedLand" 207 1 RX1 TX1 12 10 := ⟨rfl, Nat.le_of_ble_eq_true rfl, gAW_at 259 (by decide +kernel) rfl, inX1⟩
theorem fX8_219 : gF "PartedLand" 219 4 RX4 TX4 4 3 := ⟨rfl, Nat.le_of_ble_eq_true rfl, gAW_at 299 (by decide +kernel) rfl, inX4⟩
theorem fX8_228 : gF "PartedLand" 228 4 RX4 TX4 4 0 := ⟨rfl, Nat.le_of_ble_eq_true rfl, gAW_at 293 (by decide +kernel) rfl, inX4⟩
theorem fX8_231 : gF "PartedLand" 231 4 RX4 TX4 4 2 := ⟨rfl, Nat.le_of_ble_eq_true rfl, gAW_at 297 (by decide +kernel) rfl, inX4⟩
theorem fX8_234 : gF "PartedLand" 234 4 RX4 TX4 4 1 := ⟨rfl, Nat.le_of_ble_eq_true rfl, gAW_at 295 (by decide +kernel) rfl, inX4⟩
theorem fX8_255 : gF "PartedLand" 255 3 RX3 TX3 13 9 := ⟨rfl, Nat.le_of_ble_eq_true rfl, gAW_at 209 (by decide +kernel) rfl, inX3⟩
theorem fX8_257 : gF "PartedLand" 257 1 RX1 TX1 12 6 := ⟨rfl, Nat.le_of_ble_eq_true rfl, gAW_at 254 (by decide +kernel) rfl, inX1⟩
theorem fX0_9 : gF "PartedLand$Days" 9 0 RX0 TX0 1 0 := ⟨rfl, Nat.le_of_ble_eq_true rfl, gAW_at 315 (by decide +kernel) rfl, inX0⟩
theorem fX1_9 : gF "PartedLand$Goods" 9 1 RX1 TX1 12 1 := ⟨rfl, Nat.le_of_ble_eq_true rfl, gAW_at 247 (by decide +kernel) rfl, inX1⟩
theorem fX1_15 : gF "PartedLand$Goods" 15 1 RX1 TX1 12 2 := ⟨rfl, Nat.le_of_ble_eq_true rfl, gAW_at 248 (by decide +kernel) rfl, inX1⟩
theorem fX1_18 : gF "PartedLand$Goods" 18 1 RX1 TX1 12 3 := ⟨rfl, Nat.le_of_ble_eq_true rfl, gAW_at 249 (by decide +kernel) rfl, inX1⟩
theorem fX1_21 : gF "PartedLand$Goods" 21 1 RX1 TX1 12 4 := ⟨rfl, Nat.le_of_ble_eq_true rfl, gAW_at 250 (by decide +kernel) rfl, inX1⟩
theorem fX1_24 : gF "PartedLand$Goods" 24 1 RX1 TX1 12 5 := ⟨rfl, Nat.le_of_ble_eq_true rfl, gAW_at 251 (by decide +kernel) rfl, inX1⟩
theorem fX1_28 : gF "PartedLand$Goods" 28 1 RX1 TX1 12 6 := ⟨rfl, Nat.le_of_ble_eq_true rfl, gAW_at 253 (by decide +kernel) rfl, inX1⟩
theorem fX1_31 : gF "PartedLand$Goods" 31 1 RX1 TX1 12 7 := ⟨rfl, Nat.le_of_ble_eq_true rfl, gAW_at 255 (by decide +kernel) rfl, inX1⟩
theorem fX1_34 : gF "PartedLand$Goods" 34 1 RX1 TX1 12 8 := ⟨rfl, Nat.le_of_ble_eq_true rfl, gAW_at 256 (by decide +kernel) rfl, inX1⟩
theorem fX1_37 : gF "PartedLand$Goods" 37 1 RX1 TX1 12 9 := ⟨rfl, Nat.le_of_ble_eq_true rfl, gAW_at 257 (by decide +kernel) rfl, inX1⟩
theorem fX1_40 : gF "PartedLand$Goods" 40 1 RX1 TX1 12 10 := ⟨rfl, Nat.le_of_ble_eq_true rfl, gAW_at 258 (by decide +kernel) rfl, inX1⟩
theorem fX1_43 : gF "PartedLand$Goods" 43 1 RX1 TX1 12 11 := ⟨rfl, Nat.le_of_ble_eq_true rfl, gAW_at 260 (by decide +kernel) rfl, inX1⟩
theorem fX1_46 : gF "PartedLand$Goods" 46 1 RX1 TX1 12 0 := ⟨rfl, Nat.le_of_ble_eq_true rfl, gAW_at 246 (by decide +kernel) rfl, inX1⟩
theorem fX1_89 : gF "PartedLand$Goods" 89 2 RX2 TX2 17 9 := ⟨rfl, Nat.le_of_ble_eq_true rfl, gAW_at 58 (by decide +kernel) rfl, inX2⟩
theorem fX1_92 : gF "PartedLand$Goods" 92 2 RX2 TX2 17 10 := ⟨rfl, Nat.le_of_ble_eq_true rfl, gAW_at 61 (by decide +kernel) rfl, inX2⟩
theorem fX1_95 : gF "PartedLand$Goods" 95 2 RX2 TX2 17 11 := ⟨rfl, Nat.le_of_ble_eq_true rfl, gAW_at 64 (by decide +kernel) rfl, inX2⟩
theorem fX1_98 : gF "PartedLand$Goods" 98 2 RX2 TX2 17 7 := ⟨rfl, Nat.le_of_ble_eq_true rfl, gAW_at 53 (by decide +kernel) rfl, inX2⟩
theorem fX1_103 : gF "PartedLand$Goods" 103 2 RX2 TX2 17 12 := ⟨rfl, Nat.le_of_ble_eq_true rfl, gAW_at 66 (by decide +kernel) rfl, inX2⟩
theorem fX1_109 : gF "PartedLand$Goods" 109 2 RX2 TX2 17 13 := ⟨rfl, Nat.le_of_ble_eq_true rfl, gAW_at 68 (by decide +kernel) rfl, inX2⟩
theorem fX1_115 : gF "PartedLand$Goods" 115 2 RX2 TX2 17 0 := ⟨rfl, Nat.le_of_ble_eq_true rfl, gAW_at 36 (by decide +kernel) rfl, inX2⟩
theorem fX1_122 : gF "PartedLand$Goods" 122 2 RX2 TX2 17 1 := ⟨rfl, Nat.le_of_ble_eq_true rfl, gAW_at 38 (by decide +kernel) rfl, inX2⟩
theorem fX2_9 : gF "PartedLand$History" 9 2 RX2 TX2 17 0 := ⟨rfl, Nat.le_of_ble_eq_true rfl, gAW_at 35 (by decide +kernel) rfl, inX2⟩
theorem fX2_15 : gF "PartedLand$History" 15 2 RX2 TX2 17 1 := ⟨rfl, Nat.le_of_ble_eq_true rfl, gAW_at 37 (by decide +kernel) rfl, inX2⟩
theorem fX2_18 : gF "PartedLand$History" 18 2 RX2 TX2 17 2 := ⟨rfl, Nat.le_of_ble_eq_true rfl, gAW_at 39 (by decide +kernel) rfl, inX2⟩
theorem fX2_22 : gF "PartedLand$History" 22 2 RX2 TX2 17 3 := ⟨rfl, Nat.le_of_ble_eq_true rfl, gAW_at 41 (by decide +kernel) rfl, inX2⟩
theorem fX2_25 : gF "PartedLand$History" 25 2 RX2 TX2 17 4 := ⟨rfl, Nat.le_of_ble_eq_true rfl, gAW_at 44 (by decide +kernel) rfl, inX2⟩
theorem fX2_28 : gF "PartedLand$History" 28 2 RX2 TX2 17 5 := ⟨rfl, Nat.le_of_ble_eq_true rfl, gAW_at 47 (by decide +kernel) rfl, inX2⟩
theorem fX2_31 : gF "PartedLand$History" 31 2 RX2 TX2 17 6 := ⟨rfl, Nat.le_of_ble_eq_true rfl, gAW_at 48 (by decide +kernel) rfl, inX2⟩
theorem fX2_34 : gF "PartedLand$History" 34 2 RX2 TX2 17 7 := ⟨rfl, Nat.le_of_ble_eq_true rfl, gAW_at 51 (by decide +kernel) rfl, inX2⟩
theorem fX2_37 : gF "PartedLand$History" 37 2 RX2 TX2 17 8 := ⟨rfl, Nat.le_of_ble_eq_true rfl, gAW_at 54 (by decide +kernel) rfl, inX2⟩
theorem fX2_40 : gF "PartedLand$History" 40 2 RX2 TX2 17 9 := ⟨rfl, Nat.le_of_ble_eq_true rfl, gAW_at 56 (by decide +kernel) rfl, inX2⟩
theorem fX2_43 : gF "PartedLand$History" 43 2 RX2 TX2 17 10 := ⟨rfl, Nat.le_of_ble_eq_true rfl, gAW_at 59 (by decide +kernel) rfl, inX2⟩
theorem fX2_46 : gF "PartedLand$History" 46 2 RX2 TX2 17 11 := ⟨rfl, Nat.le_of_ble_eq_true rfl, gAW_at 62 (by decide +kernel) rfl, inX2⟩
theorem fX2_49 : gF "PartedLand$History" 49 2 RX2 TX2 17 12 := ⟨rfl, Nat.le_of_ble_eq_true rfl, gAW_at 65 (by decide +kernel) rfl, inX2⟩
theorem fX2_52 : gF "PartedLand$History" 52 2 RX2 TX2 17 13 := ⟨rfl, Nat.le_of_ble_eq_true rfl, gAW_at 67 (by decide +kernel) rfl, inX2⟩
theorem fX2_55 : gF "PartedLand$History" 55 2 RX2 TX2 17 14 := ⟨rfl, Nat.le_of_ble_eq_true rfl, gAW_at 69 (by decide +kernel) rfl, inX2⟩
theorem fX2_60 : gF "PartedLand$History" 60 2 RX2 TX2 17 15 := ⟨rfl, Nat.le_of_ble_eq_true rfl, gAW_at 71 (by decide +kernel) rfl, inX2⟩
theorem fX2_63 : gF "PartedLand$History" 63 2 RX2 TX2 17 16 := ⟨rfl, Nat.le_of_ble_eq_true rfl, gAW_at 73 (by decide +kernel) rfl, inX2⟩
theorem fX3_9 : gF "PartedLand$Pacts" 9 3 RX3 TX3 13 4 := ⟨rfl, Nat.le_of_ble_eq_true rfl, gAW_at 202 (by decide +kernel) rfl, inX3⟩
theorem fX3_15 : gF "PartedLand$Pacts" 15 3 RX3 TX3 13 5 := ⟨rfl, Nat.le_of_ble_eq_true rfl, gAW_at 203 (by decide +kernel) rfl, inX3⟩
theorem fX3_18 : gF "PartedLand$Pacts" 18 3 RX3 TX3 13 6 := ⟨rfl, Nat.le_of_ble_eq_true rfl, gAW_at 204 (by decide +kernel) rfl, inX3⟩
theorem fX3_21 : gF "PartedLand$Pacts" 21 3 RX3 TX3 13 7 := ⟨rfl, Nat.le_of_ble_eq_true rfl, gAW_at 205 (by decide +kernel) rfl, inX3⟩
theorem fX3_24 : gF "PartedLand$Pacts" 24 3 RX3 TX3 13 8 := ⟨rfl, Nat.le_of_ble_eq_true rfl, gAW_at 206 (by decide +kernel) rfl, inX3⟩
theorem fX3_28 : gF "PartedLand$Pacts" 28 3 RX3 TX3 13 9 := ⟨rfl, Nat.le_of_ble_eq_true rfl, gAW_at 208 (by decide +kernel) rfl, inX3⟩
theorem fX3_31 : gF "PartedLand$Pacts" 31 3 RX3 TX3 13 10 := ⟨rfl, Nat.le_of_ble_eq_true rfl, gAW_at 210 (by decide +kernel) rfl, inX3⟩
theorem fX3_34 : gF "PartedLand$Pacts" 34 3 RX3 TX3 13 11 := ⟨rfl, Nat.le_of_ble_eq_true rfl, gAW_at 211 (by decide +kernel) rfl, inX3⟩
theorem fX3_37 : gF "PartedLand$Pacts" 37 3 RX3 TX3 13 12 := ⟨rfl, Nat.le_of_ble_eq_true rfl, gAW_at 212 (by decide +kernel) rfl, inX3⟩
theorem fX3_40 : gF "PartedLand$Pacts" 40 3 RX3 TX3 13 0 := ⟨rfl, Nat.le_of_ble_eq_true rfl, gAW_at 198 (by decide +kernel) rfl, inX3⟩
theorem fX3_44 : gF "PartedLand$Pacts" 44 3 RX3 TX3 13 1 := ⟨rfl, Nat.le_of_ble_eq_true rfl, gAW_at 199 (by decide +kernel) rfl, inX3⟩
theorem fX3_48 : gF "PartedLand$Pacts" 48 3 RX3 TX3 13 2 := ⟨rfl, Nat.le_of_ble_eq_true rfl, gAW_at 200 (by decide +kernel) rfl, inX3⟩
theorem fX3_52 : gF "PartedLand$Pacts" 52 3 RX3 TX3 13 3 := ⟨rfl, Nat.le_of_ble_eq_true rfl, gAW_at 201 (by decide +kernel) rfl, inX3⟩
theorem fX3_82 : gF "PartedLand$Pacts" 82 2 RX2 TX2 17 6 := ⟨rfl, Nat.le_of_ble_eq_true rfl, gAW_at 50 (by decide +kernel) rfl, inX2⟩
theorem fX3_85 : gF "PartedLand$Pacts" 85 2 RX2 TX2 17 3 := ⟨rfl, Nat.le_of_ble_eq_true rfl, gAW_at 43 (by decide +kernel) rfl, inX2⟩
theorem fX3_104 : gF "PartedLand$Pacts" 104 2 RX2 TX2 17 7 := ⟨rfl, Nat.le_of_ble_eq_true rfl, gAW_at 52 (by decide +kernel) rfl, inX2⟩
theorem fX3_105 : gF "PartedLand$Pacts" 105 2 RX2 TX2 17 8 := ⟨rfl, Nat.le_of_ble_eq_true rfl, gAW_at 55 (by decide +kernel) rfl, inX2⟩
theorem fX3_106 : gF "PartedLand$Pacts" 106 2 RX2 TX2 17 9 := ⟨rfl, Nat.le_of_ble_eq_true rfl, gAW_at 57 (by decide +kernel) rfl, inX2⟩
theorem fX3_109 : gF "PartedLand$Pacts" 109 2 RX2 TX2 17 11 := ⟨rfl, Nat.le_of_ble_eq_true rfl, gAW_at 63 (by decide +kernel) rfl, inX2⟩
theorem fX3_112 : gF "PartedLand$Pacts" 112 5 RX5 TX5 7 2 := ⟨rfl, Nat.le_of_ble_eq_true rfl, gAW_at 121 (by decide +kernel) rfl, inX5⟩
theorem fX3_117 : gF "PartedLand$Pacts" 117 2 RX2 TX2 17 10 := ⟨rfl, Nat.le_of_ble_eq_true rfl, gAW_at 60 (by decide +kernel) rfl, inX2⟩
theorem fX3_132 : gF "PartedLand$Pacts" 132 2 RX2 TX2 17 4 := ⟨rfl, Nat.le_of_ble_eq_true rfl, gAW_at 46 (by decide +kernel) rfl, inX2⟩
theorem fX4_9 : gF "PartedLand$Pensioners" 9 4 RX4 TX4 4 0 := ⟨rfl, Nat.le_of_ble_eq_true rfl, gAW_at 292 (by decide +kernel) rfl, inX4⟩
theorem fX4_15 : gF "PartedLand$Pensioners" 15 4 RX4 TX4 4 1 := ⟨rfl, Nat.le_of_ble_eq_true rfl, gAW_at 294 (by decide +kernel) rfl, inX4⟩
theorem fX4_18 : gF "PartedLand$Pensioners" 18 4 RX4 TX4 4 2 := ⟨rfl, Nat.le_of_ble_eq_true rfl, gAW_at 296 (by decide +kernel) rfl, inX4⟩
theorem fX4_21 : gF "PartedLand$Pensioners" 21 4 RX4 TX4 4 3 := ⟨rfl, Nat.le_of_ble_eq_true rfl, gAW_at 298 (by decide +kernel) rfl, inX4⟩
theorem fX5_9 : gF "PartedLand$Text" 9 5 RX5 TX5 7 0 := ⟨rfl, Nat.le_of_ble_eq_true rfl, gAW_at 117 (by decide +kernel) rfl, inX5⟩
theorem fX5_15 : gF "PartedLand$Text" 15 5 RX5 TX5 7 1 := ⟨rfl, Nat.le_of_ble_eq_true rfl, gAW_at 118 (by decide +kernel) rfl, inX5⟩
theorem fX5_19 : gF "PartedLand$Text" 19 5 RX5 TX5 7 2 := ⟨rfl, Nat.le_of_ble_eq_true rfl, gAW_at 120 (by decide +kernel) rfl, inX5⟩
theorem fX5_22 : gF "PartedLand$Text" 22 5 RX5 TX5 7 3 := ⟨rfl, Nat.le_of_ble_eq_true rfl, gAW_at 123 (by decide +kernel) rfl, inX5⟩
theorem fX5_25 : gF "PartedLand$Text" 25 5 RX5 TX5 7 4 := ⟨rfl, Nat.le_of_ble_eq_true rfl, gAW_at 124 (by decide +kernel) rfl, inX5⟩
theorem fX5_28 : gF "PartedLand$Text" 28 5 RX5 TX5 7 5 := ⟨rfl, Nat.le_of_ble_eq_true rfl, gAW_at 125 (by decide +kernel) rfl, inX5⟩
theorem fX5_31 : gF "PartedLand$Text" 31 5 RX5 TX5 7 6 := ⟨rfl, Nat.le_of_ble_eq_true rfl, gAW_at 126 (by decide +kernel) rfl, inX5⟩
theorem fX6_9 : gF "PartedLand$Voices" 9 6 RX6 TX6 5 0 := ⟨rfl, Nat.le_of_ble_eq_true rfl, gAW_at 175 (by decide +kernel) rfl, inX6⟩
theorem fX6_15 : gF "PartedLand$Voices" 15 6 RX6 TX6 5 1 := ⟨rfl, Nat.le_of_ble_eq_true rfl, gAW_at 176 (by decide +kernel) rfl, inX6⟩
theorem fX6_18 : gF "PartedLand$Voices" 18 6 RX6 TX6 5 2 := ⟨rfl, Nat.le_of_ble_eq_true rfl, gAW_at 177 (by decide +kernel) rfl, inX6⟩
theorem fX6_22 : gF "PartedLand$Voices" 22 6 RX6 TX6 5 3 := ⟨rfl, Nat.le_of_ble_eq_true rfl, gAW_at 178 (by decide +kernel) rfl, inX6⟩
theorem fX6_25 : gF "PartedLand$Voices" 25 6 RX6 TX6 5 4 := ⟨rfl, Nat.le_of_ble_eq_true rfl, gAW_at 179 (by decide +kernel) rfl, inX6⟩
theorem fX7_9 : gF "PartedLand$Words" 9 7 RX7 TX7 6 0 := ⟨rfl, Nat.le_of_ble_eq_true rfl, gAW_at 148 (by decide +kernel) rfl, inX7⟩
theorem fX7_15 : gF "PartedLand$Words" 15 7 RX7 TX7 6 1 := ⟨rfl, Nat.le_of_ble_eq_true rfl, gAW_at 149 (by decide +kernel) rfl, inX7⟩
theorem fX7_18 : gF "PartedLand$Words" 18 7 RX7 TX7 6 2 := ⟨rfl, Nat.le_of_ble_eq_true rfl, gAW_at 150 (by decide +kernel) rfl, inX7⟩
theorem fX7_22 : gF "PartedLand$Words" 22 7 RX7 TX7 6 3 := ⟨rfl, Nat.le_of_ble_eq_true rfl, gAW_at 151 (by decide +kernel) rfl, inX7⟩
theorem fX7_25 : gF "PartedLand$Words" 25 7 RX7 TX7 6 4 := ⟨rfl, Nat.le_of_ble_eq_true rfl, gAW_at 152 (by decide +kernel) rfl, inX7⟩
theorem fX7_28 : gF "PartedLand$Words" 28 7 RX7 TX7 6 5 := ⟨rfl, Nat.le_of_ble_eq_true rfl, gAW_at 153 (by decide +kernel) rfl, inX7⟩
theorem fX9_7 : gF "PartedLandModel" 7 9 RX9 TX9 60 1 := ⟨rfl, Nat.le_of_ble_eq_true rfl, gAW_at 847 (by decide +kernel) rfl, inX9⟩
theorem fX9_13 : gF "PartedLandModel" 13 9 RX9 TX9 60 2 := ⟨rfl, Nat.le_of_ble_eq_true rfl, gAW_at 848 (by decide +kernel) rfl, inX9⟩
theorem fX9_16 : gF "PartedLandModel" 16 9 RX9 TX9 60 3 := ⟨rfl, Nat.le_of_ble_eq_true rfl, gAW_at 849 (by decide +kernel) rfl, inX9⟩
theorem fX9_20 : gF "PartedLandModel" 20 9 RX9 TX9 60 4 := ⟨rfl, Nat.le_of_ble_eq_true rfl, gAW_at 850 (by decide +kernel) rfl, inX9⟩
theorem fX9_23 : gF "PartedLandModel" 23 9 RX9 TX9 60 5 := ⟨rfl, Nat.le_of_ble_eq_true rfl, gAW_at 851 (by decide +kernel) rfl, inX9⟩
theorem fX9_26 : gF "PartedLandModel" 26 9 RX9 TX9 60 7 := ⟨rfl, Nat.le_of_ble_eq_true rfl, gAW_at 853 (by decide +kernel) rfl, inX9⟩
theorem fX9_29 : gF "PartedLandModel" 29 9 RX9 TX9 60 8 := ⟨rfl, Nat.le_of_ble_eq_true rfl, gAW_at 854 (by decide +kernel) rfl, inX9⟩
theorem fX9_32 : gF "PartedLandModel" 32 9 RX9 TX9 60 9 := ⟨rfl, Nat.le_of_ble_eq_true rfl, gAW_at 855 (by decide +kernel) rfl, inX9⟩
theorem fX9_35 : gF "PartedLandModel" 35 9 RX9 TX9 60 10 := ⟨rfl, Nat.le_of_ble_eq_true rfl, gAW_at 856 (by decide +kernel) rfl, inX9⟩
theorem fX9_38 : gF "PartedLandModel" 38 9 RX9 TX9 60 11 := ⟨rfl, Nat.le_of_ble_eq_true rfl, gAW_at 857 (by decide +kernel) rfl, inX9⟩
theorem fX9_41 : gF "PartedLandModel" 41 9 RX9 TX9 60 12 := ⟨rfl, Nat.le_of_ble_eq_true rfl, gAW_at 858 (by decide +kernel) rfl, inX9⟩
theorem fX9_44 : gF "PartedLandModel" 44 9 RX9 TX9 60 13 := ⟨rfl, Nat.le_of_ble_eq_true rfl, gAW_at 859 (by decide +kernel) rfl, inX9⟩
theorem fX9_47 : gF "PartedLandModel" 47 9 RX9 TX9 60 14 := ⟨rfl, Nat.le_of_ble_eq_true rfl, gAW_at 860 (by decide +kernel) rfl, inX9⟩
theorem fX9_50 : gF "PartedLandModel" 50 9 RX9 TX9 60 16 := ⟨rfl, Nat.le_of_ble_eq_true rfl, gAW_at 862 (by decide +kernel) rfl, inX9⟩
theorem fX9_53 : gF "PartedLandModel" 53 9 RX9 TX9 60 24 := ⟨rfl, Nat.le_of_ble_eq_true rfl, gAW_at 870 (by decide +kernel) rfl, inX9⟩
theorem fX9_56 : gF "PartedLandModel" 56 9 RX9 TX9 60 25 := ⟨rfl, Nat.le_of_ble_eq_true rfl, gAW_at 871 (by decide +kernel) rfl, inX9⟩
theorem fX9_59 : gF "PartedLandModel" 59 9 RX9 TX9 60 27 := ⟨rfl, Nat.le_of_ble_eq_true rfl, gAW_at 873 (by decide +kernel) rfl, inX9⟩
theorem fX9_62 : gF "PartedLandModel" 62 9 RX9 TX9 60 28 := ⟨rfl, Nat.le_of_ble_eq_true rfl, gAW_at 874 (by decide +kernel) rfl, inX9⟩
theorem fX9_65 : gF "PartedLandModel" 65 9 RX9 TX9 60 29 := ⟨rfl, Nat.le_of_ble_eq_true rfl, gAW_at 875 (by decide +kernel) rfl, inX9⟩
theorem fX9_68 : gF "PartedLandModel" 68 9 RX9 TX9 60 30 := ⟨rfl, Nat.le_of_ble_eq_true rfl, gAW_at 876 (by decide +kernel) rfl, inX9⟩
theorem fX9_71 : gF "PartedLandModel" 71 9 RX9 TX9 60 31 := ⟨rfl, Nat.le_of_ble_eq_true rfl, gAW_at 877 (by decide +kernel) rfl, inX9⟩
theorem fX9_74 : gF "PartedLandModel" 74 9 RX9 TX9 60 33 := ⟨rfl, Nat.le_of_ble_eq_true rfl, gAW_at 879 (by decide +kernel) rfl, inX9⟩
theorem fX9_77 : gF "PartedLandModel" 77 9 RX9 TX9 60 34 := ⟨rfl, Nat.le_of_ble_eq_true rfl, gAW_at 880 (by decide +kernel) rfl, inX9⟩
theorem fX9_80 : gF "PartedLandModel" 80 9 RX9 TX9 60 35 := ⟨rfl, Nat.le_of_ble_eq_true rfl, gAW_at 881 (by decide +kernel) rfl, inX9⟩
theorem fX9_83 : gF "PartedLandModel" 83 9 RX9 TX9 60 36 := ⟨rfl, Nat.le_of_ble_eq_true rfl, gAW_at 882 (by decide +kernel) rfl, inX9⟩
theorem fX9_87 : gF "PartedLandModel" 87 9 RX9 TX9 60 37 := ⟨rfl, Nat.le_of_ble_eq_true rfl, gAW_at 883 (by decide +kernel) rfl, inX9⟩
theorem fX9_90 : gF "PartedLandModel" 90 9 RX9 TX9 60 40 := ⟨rfl, Nat.le_of_ble_eq_true rfl, gAW_at 886 (by decide +kernel) rfl, inX9⟩
theorem fX9_93 : gF "PartedLandModel" 93 9 RX9 TX9 60 41 := ⟨rfl, Nat.le_of_ble_eq_true rfl, gAW_at 887 (by decide +kernel) rfl, inX9⟩
theorem fX9_96 : gF "PartedLandModel" 96 9 RX9 TX9 60 42 := ⟨rfl, Nat.le_of_ble_eq_true rfl, gAW_at 888 (by decide +kernel) rfl, inX9⟩
theorem fX9_99 : gF "PartedLandModel" 99 9 RX9 TX9 60 43 := ⟨rfl, Nat.le_of_ble_eq_true rfl, gAW_at 889 (by decide +kernel) rfl, inX9⟩
theorem fX9_102 : gF "PartedLandModel" 102 9 RX9 TX9 60 44 := ⟨rfl, Nat.le_of_ble_eq_true rfl, gAW_at 890 (by decide +kernel) rfl, inX9⟩
theorem fX9_105 : gF "PartedLandModel" 105 9 RX9 TX9 60 45 := ⟨rfl, Nat.le_of_ble_eq_true rfl, gAW_at 891 (by decide +kernel) rfl, inX9⟩
theorem fX9_108 : gF "PartedLandModel" 108 9 RX9 TX9 60 47 := ⟨rfl, Nat.le_of_ble_eq_true rfl, gAW_at 893 (by decide +kernel) rfl, inX9⟩
theorem fX9_111 : gF "PartedLandModel" 111 9 RX9 TX9 60 48 := ⟨rfl, Nat.le_of_ble_eq_true rfl, gAW_at 894 (by decide +kernel) rfl, inX9⟩
theorem fX9_114 : gF "PartedLandModel" 114 9 RX9 TX9 60 49 := ⟨rfl, Nat.le_of_ble_eq_true rfl, gAW_at 895 (by decide +kernel) rfl, inX9⟩
theorem fX9_117 : gF "PartedLandModel" 117 9 RX9 TX9 60 50 := ⟨rfl, Nat.le_of_ble_eq_true rfl, gAW_at 896 (by decide +kernel) rfl, inX9⟩
theorem fX9_120 : gF "PartedLandModel" 120 9 RX9 TX9 60 52 := ⟨rfl, Nat.le_of_ble_eq_true rfl, gAW_at 898 (by decide +kernel) rfl, inX9⟩
theorem fX9_123 : gF "PartedLandModel" 123 9 RX9 TX9 60 53 := ⟨rfl, Nat.le_of_ble_eq_true rfl, gAW_at 899 (by decide +kernel) rfl, inX9⟩
theorem fX9_126 : gF "PartedLandModel" 126 9 RX9 TX9 60 54 := ⟨rfl, Nat.le_of_ble_eq_true rfl, gAW_at 900 (by decide +kernel) rfl, inX9⟩
theorem fX9_129 : gF "PartedLandModel" 129 9 RX9 TX9 60 56 := ⟨rfl, Nat.le_of_ble_eq_true rfl, gAW_at 902 (by decide +kernel) rfl, inX9⟩
theorem fX9_132 : gF "PartedLandModel" 132 9 RX9 TX9 60 57 := ⟨rfl, Nat.le_of_ble_eq_true rfl, gAW_at 903 (by decide +kernel) rfl, inX9⟩
theorem fX9_135 : gF "PartedLandModel" 135 9 RX9 TX9 60 58 := ⟨rfl, Nat.le_of_ble_eq_true rfl, gAW_at 904 (by decide +kernel) rfl, inX9⟩
theorem fX9_138 : gF "PartedLandModel" 138 9 RX9 TX9 60 59 := ⟨rfl, Nat.le_of_ble_eq_true rfl, gAW_at 905 (by decide +kernel) rfl, inX9⟩
theorem fX9_145 : gF "PartedLandModel" 145 9 RX9 TX9 60 0 := ⟨rfl, Nat.le_of_ble_eq_true rfl, gAW_at 846 (by decide +kernel) rfl, inX9⟩
theorem fX9_152 : gF "PartedLandModel" 152 9 RX9 TX9 60 6 := ⟨rfl, Nat.le_of_ble_eq_true rfl, gAW_at 852 (by decide +kernel) rfl, inX9⟩
theorem fX9_159 : gF "PartedLandModel" 159 9 RX9 TX9 60 26 := ⟨rfl, Nat.le_of_ble_eq_true rfl, gAW_at 872 (by decide +kernel) rfl, inX9⟩
theorem fX9_162 : gF "PartedLandModel" 162 9 RX9 TX9 60 46 := ⟨rfl, Nat.le_of_ble_eq_true rfl, gAW_at 892 (by decide +kernel) rfl, inX9⟩
theorem fX9_202 : gF "PartedLandModel" 202 9 RX9 TX9 60 15 := ⟨rfl, Nat.le_of_ble_eq_true rfl, gAW_at 861 (by decide +kernel) rfl, inX9⟩
theorem fX9_207 : gF "PartedLandModel" 207 9 RX9 TX9 60 17 := ⟨rfl, Nat.le_of_ble_eq_true rfl, gAW_at 863 (by decide +kernel) rfl, inX9⟩
theorem fX9_210 : gF "PartedLandModel" 210 9 RX9 TX9 60 18 := ⟨rfl, Nat.le_of_ble_eq_true rfl, gAW_at 864 (by decide +kernel) rfl, inX9⟩
theorem fX9_213 : gF "PartedLandModel" 213 9 RX9 TX9 60 20 := ⟨rfl, Nat.le_of_ble_eq_true rfl, gAW_at 866 (by decide +kernel) rfl, inX9⟩
theorem fX9_216 : gF "PartedLandModel" 216 9 RX9 TX9 60 21 := ⟨rfl, Nat.le_of_ble_eq_true rfl, gAW_at 867 (by decide +kernel) rfl, inX9⟩
theorem fX9_221 : gF "PartedLandModel" 221 9 RX9 TX9 60 19 := ⟨rfl, Nat.le_of_ble_eq_true rfl, gAW_at 865 (by decide +kernel) rfl, inX9⟩
theorem fX9_235 : gF "PartedLandModel" 235 9 RX9 TX9 60 22 := ⟨rfl, Nat.le_of_ble_eq_true rfl, gAW_at 868 (by decide +kernel) rfl, inX9⟩
theorem fX9_277 : gF "PartedLandModel" 277 9 RX9 TX9 60 23 := ⟨rfl, Nat.le_of_ble_eq_true rfl, gAW_at 869 (by decide +kernel) rfl, inX9⟩
theorem fX9_292 : gF "PartedLandModel" 292 9 RX9 TX9 60 32 := ⟨rfl, Nat.le_of_ble_eq_true rfl, gAW_at 878 (by decide +kernel) rfl, inX9⟩
theorem fX9_295 : gF "PartedLandModel" 295 9 RX9 TX9 60 39 := ⟨rfl, Nat.le_of_ble_eq_true rfl, gAW_at 885 (by decide +kernel) rfl, inX9⟩
theorem fX9_298 : gF "PartedLandModel" 298 9 RX9 TX9 60 38 := ⟨rfl, Nat.le_of_ble_eq_true rfl, gAW_at 884 (by decide +kernel) rfl, inX9⟩
theorem fX9_345 : gF "PartedLandModel" 345 9 RX9 TX9 60 51 := ⟨rfl, Nat.le_of_ble_eq_true rfl, gAW_at 897 (by decide +kernel) rfl, inX9⟩
theorem fX9_354 : gF "PartedLandModel" 354 9 RX9 TX9 60 55 := ⟨rfl, Nat.le_of_ble_eq_true rfl, gAW_at 901 (by decide +kernel) rfl, inX9⟩
abbrev cJ6_bitCount_0f7a4 : ByteArray := prog_12_method_49_code
abbrev yJ6_bitCount_0f7a4 : MethodName := ⟨"java/lang/Integer", "bitCount", "(I)I"⟩
abbrev cJ7_fill_53178 : ByteArray := prog_18_method_103_code
abbrev yJ7_fill_53178 : MethodName := ⟨"java/util/Arrays", "fill", "([II)V"⟩
theorem mX8_76 : Cond.methodLink "PartedLand" 76 yX2_addGround ∈ gAW := gAW_at 349 (by decide +kernel) rfl
theorem mX8_80 : Cond.methodLink "PartedLand" 80 yX8_mayChangeOn ∈ gAW := gAW_at 357 (by decide +kernel) rfl
theorem mX8_84 : Cond.methodLink "PartedLand" 84 yX2_isThere ∈ gAW := gAW_at 368 (by decide +kernel) rfl
theorem mX8_88 : Cond.methodLink "PartedLand" 88 yX2_isSomeNotAll ∈ gAW := gAW_at 379 (by decide +kernel) rfl
theorem mX8_98 : Cond.methodLink "PartedLand" 98 yX8_landsThatCome ∈ gAW := gAW_at 383 (by decide +kernel) rfl
theorem mX8_102 : Cond.methodLink "PartedLand" 102 yX0_mark ∈ gAW := gAW_at 386 (by decide +kernel) rfl
theorem mX8_106 : Cond.methodLink "PartedLand" 106 yX2_addChange ∈ gAW := gAW_at 390 (by decide +kernel) rfl
theorem mX8_110 : Cond.methodLink "PartedLand" 110 yX8_isDay ∈ gAW := gAW_at 361 (by decide +kernel) rfl
theorem mX8_116 : Cond.methodLink "PartedLand" 116 yX2_changesBy ∈ gAW := gAW_at 426 (by decide +kernel) rfl
theorem mX8_119 : Cond.methodLink "PartedLand" 119 yX2_knowsLand ∈ gAW := gAW_at 434 (by decide +kernel) rfl
theorem mX8_126 : Cond.methodLink "PartedLand" 126 yX2_knowsGround ∈ gAW := gAW_at 439 (by decide +kernel) rfl
theorem mX8_129 : Cond.methodLink "PartedLand" 129 yX2_ownerOf ∈ gAW := gAW_at 443 (by decide +kernel) rfl
theorem mX8_135 : Cond.methodLink "PartedLand" 135 yX2_heirOf ∈ gAW := gAW_at 455 (by decide +kernel) rfl
theorem mX8_141 : Cond.methodLink "PartedLand" 141 yX5_append ∈ gAW := gAW_at 472 (by decide +kernel) rfl
theorem mX8_145 : Cond.methodLink "PartedLand" 145 yX5_empty ∈ gAW := gAW_at 480 (by decide +kernel) rfl
theorem mX8_149 : Cond.methodLink "PartedLand" 149 yX5_firstFault ∈ gAW := gAW_at 488 (by decide +kernel) rfl
theorem mX8_152 : Cond.methodLink "PartedLand" 152 yX5_takeAsRules ∈ gAW := gAW_at 596 (by decide +kernel) rfl
theorem mX8_158 : Cond.methodLink "PartedLand" 158 yX8_isThird ∈ gAW := gAW_at 610 (by decide +kernel) rfl
theorem mX8_164 : Cond.methodLink "PartedLand" 164 yX3_addPact ∈ gAW := gAW_at 613 (by decide +kernel) rfl
theorem mX8_168 : Cond.methodLink "PartedLand" 168 yX3_knowsPact ∈ gAW := gAW_at 624 (by decide +kernel) rfl
theorem mX8_174 : Cond.methodLink "PartedLand" 174 yX7_addWord ∈ gAW := gAW_at 628 (by decide +kernel) rfl
theorem mX8_181 : Cond.methodLink "PartedLand" 181 yX6_addVoice ∈ gAW := gAW_at 636 (by decide +kernel) rfl
theorem mX8_185 : Cond.methodLink "PartedLand" 185 yX3_boundOn ∈ gAW := gAW_at 644 (by decide +kernel) rfl
theorem mX8_189 : Cond.methodLink "PartedLand" 189 yX0_isMarked ∈ gAW := gAW_at 692 (by decide +kernel) rfl
theorem mX8_192 : Cond.methodLink "PartedLand" 192 yX8_isIn ∈ gAW := gAW_at 696 (by decide +kernel) rfl
theorem mX8_198 : Cond.methodLink "PartedLand" 198 yX1_addDebt ∈ gAW := gAW_at 701 (by decide +kernel) rfl
theorem mX8_201 : Cond.methodLink "PartedLand" 201 yX1_knowsDebt ∈ gAW := gAW_at 710 (by decide +kernel) rfl
theorem mX8_204 : Cond.methodLink "PartedLand" 204 yX1_owedBy ∈ gAW := gAW_at 714 (by decide +kernel) rfl
theorem mX8_210 : Cond.methodLink "PartedLand" 210 yX1_addThing ∈ gAW := gAW_at 742 (by decide +kernel) rfl
theorem mX8_213 : Cond.methodLink "PartedLand" 213 yX1_knowsThing ∈ gAW := gAW_at 750 (by decide +kernel) rfl
theorem mX8_216 : Cond.methodLink "PartedLand" 216 yX1_ownedBy ∈ gAW := gAW_at 754 (by decide +kernel) rfl
theorem mX8_222 : Cond.methodLink "PartedLand" 222 yX4_addPensioner ∈ gAW := gAW_at 770 (by decide +kernel) rfl
theorem mX8_225 : Cond.methodLink "PartedLand" 225 yX4_knowsPensioner ∈ gAW := gAW_at 778 (by decide +kernel) rfl
theorem mX8_237 : Cond.methodLink "PartedLand" 237 yX3_turnsOn ∈ gAW := gAW_at 786 (by decide +kernel) rfl
theorem mX8_240 : Cond.methodLink "PartedLand" 240 yX3_dayOfMostTurns ∈ gAW := gAW_at 797 (by decide +kernel) rfl
theorem mX8_244 : Cond.methodLink "PartedLand" 244 yX3_fewestLeftOut ∈ gAW := gAW_at 810 (by decide +kernel) rfl
theorem mX8_249 : Cond.methodLink "PartedLand" 249 yX1_burdenOf ∈ gAW := gAW_at 823 (by decide +kernel) rfl
theorem mX8_252 : Cond.methodLink "PartedLand" 252 yX2_latestDay ∈ gAW := gAW_at 364 (by decide +kernel) rfl
theorem mX1_50 : Cond.methodLink "PartedLand$Goods" 50 Lib.Math.max.name ∈ gAW := gAW_at 705 (by decide +kernel) rfl
theorem mX1_56 : Cond.methodLink "PartedLand$Goods" 56 yX2_changesBy ∈ gAW := gAW_at 718 (by decide +kernel) rfl
theorem mX1_62 : Cond.methodLink "PartedLand$Goods" 62 yX2_ownerOf ∈ gAW := gAW_at 719 (by decide +kernel) rfl
theorem mX1_65 : Cond.methodLink "PartedLand$Goods" 65 yX1_divide ∈ gAW := gAW_at 720 (by decide +kernel) rfl
theorem mX1_69 : Cond.methodLink "PartedLand$Goods" 69 yX1_ownerAbroad ∈ gAW := gAW_at 758 (by decide +kernel) rfl
theorem mX1_72 : Cond.methodLink "PartedLand$Goods" 72 yX1_owedBy ∈ gAW := gAW_at 827 (by decide +kernel) rfl
theorem mX1_76 : Cond.methodLink "PartedLand$Goods" 76 yX1_ownedBy ∈ gAW := gAW_at 828 (by decide +kernel) rfl
theorem mX1_79 : Cond.methodLink "PartedLand$Goods" 79 yJ7_fill_53178 ∈ gAW := gAW_at 724 (by decide +kernel) rfl
theorem mX1_85 : Cond.methodLink "PartedLand$Goods" 85 yX1_divideAt ∈ gAW := gAW_at 725 (by decide +kernel) rfl
theorem mX1_99 : Cond.methodLink "PartedLand$Goods" 99 yX1_partOfFirst ∈ gAW := gAW_at 729 (by decide +kernel) rfl
theorem mX1_106 : Cond.methodLink "PartedLand$Goods" 106 yX1_key ∈ gAW := gAW_at 733 (by decide +kernel) rfl
theorem mX1_112 : Cond.methodLink "PartedLand$Goods" 112 yX1_ownerAbroadBehind ∈ gAW := gAW_at 762 (by decide +kernel) rfl
theorem mX1_118 : Cond.methodLink "PartedLand$Goods" 118 yX2_sumOf ∈ gAW := gAW_at 737 (by decide +kernel) rfl
theorem mX2_66 : Cond.methodLink "PartedLand$History" 66 yX2_knowsLand ∈ gAW := gAW_at 372 (by decide +kernel) rfl
theorem mX2_74 : Cond.methodLink "PartedLand$History" 74 arraycopyName ∈ gAW := gAW_at 394 (by decide +kernel) rfl
theorem mX2_80 : Cond.methodLink "PartedLand$History" 80 yX2_partOff ∈ gAW := gAW_at 397 (by decide +kernel) rfl
theorem mX2_84 : Cond.methodLink "PartedLand$History" 84 yX2_fallApart ∈ gAW := gAW_at 410 (by decide +kernel) rfl
theorem mX2_87 : Cond.methodLink "PartedLand$History" 87 yX2_join ∈ gAW := gAW_at 418 (by decide +kernel) rfl
theorem mX2_90 : Cond.methodLink "PartedLand$History" 90 yX2_moveGrounds ∈ gAW := gAW_at 406 (by decide +kernel) rfl
theorem mX2_94 : Cond.methodLink "PartedLand$History" 94 yX2_comesOutOf ∈ gAW := gAW_at 401 (by decide +kernel) rfl
theorem mX2_98 : Cond.methodLink "PartedLand$History" 98 yX2_ends ∈ gAW := gAW_at 414 (by decide +kernel) rfl
theorem mX2_101 : Cond.methodLink "PartedLand$History" 101 yX2_latestDay ∈ gAW := gAW_at 405 (by decide +kernel) rfl
theorem mX2_105 : Cond.methodLink "PartedLand$History" 105 yX2_changesBy ∈ gAW := gAW_at 459 (by decide +kernel) rfl
theorem mX2_109 : Cond.methodLink "PartedLand$History" 109 yX2_nextHeir ∈ gAW := gAW_at 460 (by decide +kernel) rfl
theorem mX2_112 : Cond.methodLink "PartedLand$History" 112 yX2_sumOf ∈ gAW := gAW_at 464 (by decide +kernel) rfl
theorem mX3_56 : Cond.methodLink "PartedLand$Pacts" 56 Lib.Math.max.name ∈ gAW := gAW_at 617 (by decide +kernel) rfl
theorem mX3_62 : Cond.methodLink "PartedLand$Pacts" 62 yX3_boundByTrade ∈ gAW := gAW_at 648 (by decide +kernel) rfl
theorem mX3_66 : Cond.methodLink "PartedLand$Pacts" 66 yX2_changesBy ∈ gAW := gAW_at 652 (by decide +kernel) rfl
theorem mX3_72 : Cond.methodLink "PartedLand$Pacts" 72 yX3_boundByRank ∈ gAW := gAW_at 671 (by decide +kernel) rfl
theorem mX3_75 : Cond.methodLink "PartedLand$Pacts" 75 yX2_ownerOf ∈ gAW := gAW_at 687 (by decide +kernel) rfl
theorem mX3_78 : Cond.methodLink "PartedLand$Pacts" 78 yX2_isThere ∈ gAW := gAW_at 670 (by decide +kernel) rfl
theorem mX3_88 : Cond.methodLink "PartedLand$Pacts" 88 yX2_saidSame ∈ gAW := gAW_at 675 (by decide +kernel) rfl
theorem mX3_91 : Cond.methodLink "PartedLand$Pacts" 91 yX6_moreYesThanNo ∈ gAW := gAW_at 679 (by decide +kernel) rfl
theorem mX3_96 : Cond.methodLink "PartedLand$Pacts" 96 yX3_handOn ∈ gAW := gAW_at 653 (by decide +kernel) rfl
theorem mX3_100 : Cond.methodLink "PartedLand$Pacts" 100 yX3_isHeld ∈ gAW := gAW_at 657 (by decide +kernel) rfl
theorem mX3_123 : Cond.methodLink "PartedLand$Pacts" 123 yX7_latest ∈ gAW := gAW_at 662 (by decide +kernel) rfl
theorem mX3_129 : Cond.methodLink "PartedLand$Pacts" 129 yX7_firstYes ∈ gAW := gAW_at 666 (by decide +kernel) rfl
theorem mX3_135 : Cond.methodLink "PartedLand$Pacts" 135 yX3_boundOn ∈ gAW := gAW_at 790 (by decide +kernel) rfl
theorem mX3_138 : Cond.methodLink "PartedLand$Pacts" 138 yJ6_bitCount_0f7a4 ∈ gAW := gAW_at 791 (by decide +kernel) rfl
theorem mX3_143 : Cond.methodLink "PartedLand$Pacts" 143 yX0_isMarked ∈ gAW := gAW_at 801 (by decide +kernel) rfl
theorem mX3_149 : Cond.methodLink "PartedLand$Pacts" 149 yX3_turnsSinceAhead ∈ gAW := gAW_at 802 (by decide +kernel) rfl
theorem mX3_152 : Cond.methodLink "PartedLand$Pacts" 152 yX7_firstWordsAbout ∈ gAW := gAW_at 814 (by decide +kernel) rfl
theorem mX5_34 : Cond.methodLink "PartedLand$Text" 34 arraycopyName ∈ gAW := gAW_at 600 (by decide +kernel) rfl
theorem mX5_40 : Cond.methodLink "PartedLand$Text" 40 yX5_empty ∈ gAW := gAW_at 601 (by decide +kernel) rfl
theorem mX5_44 : Cond.methodLink "PartedLand$Text" 44 yJ7_fill_53178 ∈ gAW := gAW_at 492 (by decide +kernel) rfl
theorem mX5_50 : Cond.methodLink "PartedLand$Text" 50 yX5_readLine ∈ gAW := gAW_at 495 (by decide +kernel) rfl
theorem mX5_54 : Cond.methodLink "PartedLand$Text" 54 yX5_nextToken ∈ gAW := gAW_at 499 (by decide +kernel) rfl
theorem mX5_59 : Cond.methodLink "PartedLand$Text" 59 yX5_isWord ∈ gAW := gAW_at 510 (by decide +kernel) rfl
theorem mX5_63 : Cond.methodLink "PartedLand$Text" 63 yX5_put ∈ gAW := gAW_at 562 (by decide +kernel) rfl
theorem mX5_71 : Cond.methodLink "PartedLand$Text" 71 yX5_readSilence ∈ gAW := gAW_at 568 (by decide +kernel) rfl
theorem mX5_76 : Cond.methodLink "PartedLand$Text" 76 yX5_readNumber ∈ gAW := gAW_at 575 (by decide +kernel) rfl
theorem mX5_87 : Cond.methodLink "PartedLand$Text" 87 yX5_readChoice ∈ gAW := gAW_at 583 (by decide +kernel) rfl
theorem mX5_103 : Cond.methodLink "PartedLand$Text" 103 yX5_isDigit ∈ gAW := gAW_at 506 (by decide +kernel) rfl
theorem mX5_107 : Cond.methodLink "PartedLand$Text" 107 yX5_isLetter ∈ gAW := gAW_at 503 (by decide +kernel) rfl
theorem mX6_29 : Cond.methodLink "PartedLand$Voices" 29 yX6_latest ∈ gAW := gAW_at 683 (by decide +kernel) rfl
theorem mL_13 : Cond.methodLink "PartedLandLaw" 13 yX8_ground ∈ gAW := gAW_at 345 (by decide +kernel) rfl
theorem mL_17 : Cond.methodLink "PartedLandLaw" 17 yX9_ground ∈ gAW := gAW_at 1027 (by decide +kernel) rfl
theorem mL_18 : Cond.methodLink "PartedLandLaw" 18 yX8_change ∈ gAW := gAW_at 353 (by decide +kernel) rfl
theorem mL_22 : Cond.methodLink "PartedLandLaw" 22 yX9_change ∈ gAW := gAW_at 1034 (by decide +kernel) rfl
theorem mL_23 : Cond.methodLink "PartedLandLaw" 23 yX8_lands ∈ gAW := gAW_at 422 (by decide +kernel) rfl
theorem mL_27 : Cond.methodLink "PartedLandLaw" 27 yX9_lands ∈ gAW := gAW_at 1061 (by decide +kernel) rfl
theorem mL_28 : Cond.methodLink "PartedLandLaw" 28 yX8_has ∈ gAW := gAW_at 430 (by decide +kernel) rfl
theorem mL_31 : Cond.methodLink "PartedLandLaw" 31 yX9_has ∈ gAW := gAW_at 1069 (by decide +kernel) rfl
theorem mL_32 : Cond.methodLink "PartedLandLaw" 32 yX8_whose ∈ gAW := gAW_at 435 (by decide +kernel) rfl
theorem mL_35 : Cond.methodLink "PartedLandLaw" 35 yX9_whose ∈ gAW := gAW_at 1077 (by decide +kernel) rfl
theorem mL_36 : Cond.methodLink "PartedLandLaw" 36 yX8_from ∈ gAW := gAW_at 447 (by decide +kernel) rfl
theorem mL_39 : Cond.methodLink "PartedLandLaw" 39 yX9_from ∈ gAW := gAW_at 1085 (by decide +kernel) rfl
theorem mL_40 : Cond.methodLink "PartedLandLaw" 40 yX8_heir ∈ gAW := gAW_at 451 (by decide +kernel) rfl
theorem mL_43 : Cond.methodLink "PartedLandLaw" 43 yX9_heir ∈ gAW := gAW_at 1089 (by decide +kernel) rfl
theorem mL_46 : Cond.methodLink "PartedLandLaw" 46 yX8_write ∈ gAW := gAW_at 468 (by decide +kernel) rfl
theorem mL_50 : Cond.methodLink "PartedLandLaw" 50 yX9_write ∈ gAW := gAW_at 1105 (by decide +kernel) rfl
theorem mL_51 : Cond.methodLink "PartedLandLaw" 51 yX8_erase ∈ gAW := gAW_at 476 (by decide +kernel) rfl
theorem mL_55 : Cond.methodLink "PartedLandLaw" 55 yX9_erase ∈ gAW := gAW_at 1110 (by decide +kernel) rfl
theorem mL_56 : Cond.methodLink "PartedLandLaw" 56 yX8_fault ∈ gAW := gAW_at 484 (by decide +kernel) rfl
theorem mL_59 : Cond.methodLink "PartedLandLaw" 59 yX9_fault ∈ gAW := gAW_at 1114 (by decide +kernel) rfl
theorem mL_60 : Cond.methodLink "PartedLandLaw" 60 yX8_rules ∈ gAW := gAW_at 592 (by decide +kernel) rfl
theorem mL_63 : Cond.methodLink "PartedLandLaw" 63 yX9_rules ∈ gAW := gAW_at 1158 (by decide +kernel) rfl
theorem mL_64 : Cond.methodLink "PartedLandLaw" 64 yX8_rule ∈ gAW := gAW_at 602 (by decide +kernel) rfl
theorem mL_67 : Cond.methodLink "PartedLandLaw" 67 yX9_rule ∈ gAW := gAW_at 1162 (by decide +kernel) rfl
theorem mL_68 : Cond.methodLink "PartedLandLaw" 68 yX8_pact ∈ gAW := gAW_at 606 (by decide +kernel) rfl
theorem mL_71 : Cond.methodLink "PartedLandLaw" 71 yX9_pact ∈ gAW := gAW_at 1166 (by decide +kernel) rfl
theorem mL_72 : Cond.methodLink "PartedLandLaw" 72 yX8_word ∈ gAW := gAW_at 620 (by decide +kernel) rfl
theorem mL_76 : Cond.methodLink "PartedLandLaw" 76 yX9_word ∈ gAW := gAW_at 1173 (by decide +kernel) rfl
theorem mL_77 : Cond.methodLink "PartedLandLaw" 77 yX8_voice ∈ gAW := gAW_at 632 (by decide +kernel) rfl
theorem mL_81 : Cond.methodLink "PartedLandLaw" 81 yX9_voice ∈ gAW := gAW_at 1181 (by decide +kernel) rfl
theorem mL_82 : Cond.methodLink "PartedLandLaw" 82 yX8_bound ∈ gAW := gAW_at 640 (by decide +kernel) rfl
theorem mL_85 : Cond.methodLink "PartedLandLaw" 85 yX9_bound ∈ gAW := gAW_at 1185 (by decide +kernel) rfl
theorem mL_86 : Cond.methodLink "PartedLandLaw" 86 yX8_since ∈ gAW := gAW_at 688 (by decide +kernel) rfl
theorem mL_89 : Cond.methodLink "PartedLandLaw" 89 yX9_since ∈ gAW := gAW_at 1221 (by decide +kernel) rfl
theorem mL_90 : Cond.methodLink "PartedLandLaw" 90 yX8_debt ∈ gAW := gAW_at 697 (by decide +kernel) rfl
theorem mL_94 : Cond.methodLink "PartedLandLaw" 94 yX9_debt ∈ gAW := gAW_at 1225 (by decide +kernel) rfl
theorem mL_95 : Cond.methodLink "PartedLandLaw" 95 yX8_owes ∈ gAW := gAW_at 706 (by decide +kernel) rfl
theorem mL_99 : Cond.methodLink "PartedLandLaw" 99 yX9_owes ∈ gAW := gAW_at 1229 (by decide +kernel) rfl
theorem mL_100 : Cond.methodLink "PartedLandLaw" 100 yX8_thing ∈ gAW := gAW_at 738 (by decide +kernel) rfl
theorem mL_103 : Cond.methodLink "PartedLandLaw" 103 yX9_thing ∈ gAW := gAW_at 1253 (by decide +kernel) rfl
theorem mL_104 : Cond.methodLink "PartedLandLaw" 104 yX8_owns ∈ gAW := gAW_at 746 (by decide +kernel) rfl
theorem mL_107 : Cond.methodLink "PartedLandLaw" 107 yX9_owns ∈ gAW := gAW_at 1257 (by decide +kernel) rfl
theorem mL_108 : Cond.methodLink "PartedLandLaw" 108 yX8_served ∈ gAW := gAW_at 766 (by decide +kernel) rfl
theorem mL_111 : Cond.methodLink "PartedLandLaw" 111 yX9_served ∈ gAW := gAW_at 1269 (by decide +kernel) rfl
theorem mL_112 : Cond.methodLink "PartedLandLaw" 112 yX8_paid ∈ gAW := gAW_at 774 (by decide +kernel) rfl
theorem mL_115 : Cond.methodLink "PartedLandLaw" 115 yX9_paid ∈ gAW := gAW_at 1273 (by decide +kernel) rfl
theorem mL_116 : Cond.methodLink "PartedLandLaw" 116 yX8_hangs ∈ gAW := gAW_at 782 (by decide +kernel) rfl
theorem mL_119 : Cond.methodLink "PartedLandLaw" 119 yX9_hangs ∈ gAW := gAW_at 1277 (by decide +kernel) rfl
theorem mL_120 : Cond.methodLink "PartedLandLaw" 120 yX8_without ∈ gAW := gAW_at 806 (by decide +kernel) rfl
theorem mL_124 : Cond.methodLink "PartedLandLaw" 124 yX9_without ∈ gAW := gAW_at 1288 (by decide +kernel) rfl
theorem mL_125 : Cond.methodLink "PartedLandLaw" 125 yX8_burden ∈ gAW := gAW_at 818 (by decide +kernel) rfl
theorem mL_128 : Cond.methodLink "PartedLandLaw" 128 yX9_burden ∈ gAW := gAW_at 1292 (by decide +kernel) rfl
theorem mL_129 : Cond.methodLink "PartedLandLaw" 129 yX8_best ∈ gAW := gAW_at 829 (by decide +kernel) rfl
theorem mL_132 : Cond.methodLink "PartedLandLaw" 132 yX9_best ∈ gAW := gAW_at 1301 (by decide +kernel) rfl
theorem mL_133 : Cond.methodLink "PartedLandLaw" 133 yX8_count ∈ gAW := gAW_at 833 (by decide +kernel) rfl
theorem mL_136 : Cond.methodLink "PartedLandLaw" 136 yX9_count ∈ gAW := gAW_at 1305 (by decide +kernel) rfl
theorem mX9_141 : Cond.methodLink "PartedLandModel" 141 yX9_firstRules ∈ gAW := gAW_at 843 (by decide +kernel) rfl
theorem mX9_148 : Cond.methodLink "PartedLandModel" 148 yX9_in ∈ gAW := gAW_at 1031 (by decide +kernel) rfl
theorem mX9_155 : Cond.methodLink "PartedLandModel" 155 yX9_groundsOf ∈ gAW := gAW_at 1053 (by decide +kernel) rfl
theorem mX9_165 : Cond.methodLink "PartedLandModel" 165 yX9_isDay ∈ gAW := gAW_at 1038 (by decide +kernel) rfl
theorem mX9_169 : Cond.methodLink "PartedLandModel" 169 yX9_isLate ∈ gAW := gAW_at 1041 (by decide +kernel) rfl
theorem mX9_172 : Cond.methodLink "PartedLandModel" 172 yX9_isThere ∈ gAW := gAW_at 1045 (by decide +kernel) rfl
theorem mX9_176 : Cond.methodLink "PartedLandModel" 176 yX9_isSome ∈ gAW := gAW_at 1049 (by decide +kernel) rfl
theorem mX9_179 : Cond.methodLink "PartedLandModel" 179 yX9_doLast ∈ gAW := gAW_at 1057 (by decide +kernel) rfl
theorem mX9_183 : Cond.methodLink "PartedLandModel" 183 yX9_doneBy ∈ gAW := gAW_at 1065 (by decide +kernel) rfl
theorem mX9_187 : Cond.methodLink "PartedLandModel" 187 yX9_isLand ∈ gAW := gAW_at 1073 (by decide +kernel) rfl
theorem mX9_190 : Cond.methodLink "PartedLandModel" 190 yX9_isGround ∈ gAW := gAW_at 1081 (by decide +kernel) rfl
theorem mX9_193 : Cond.methodLink "PartedLandModel" 193 yX9_comesBy ∈ gAW := gAW_at 1097 (by decide +kernel) rfl
theorem mX9_196 : Cond.methodLink "PartedLandModel" 196 yX9_headsOf ∈ gAW := gAW_at 1101 (by decide +kernel) rfl
theorem mX9_199 : Cond.methodLink "PartedLandModel" 199 yX9_heirOf ∈ gAW := gAW_at 1093 (by decide +kernel) rfl
theorem mX9_238 : Cond.methodLink "PartedLandModel" 238 yX9_nextToken ∈ gAW := gAW_at 1126 (by decide +kernel) rfl
theorem mX9_241 : Cond.methodLink "PartedLandModel" 241 yX9_fails ∈ gAW := gAW_at 1145 (by decide +kernel) rfl
theorem mX9_255 : Cond.methodLink "PartedLandModel" 255 yX9_isOf ∈ gAW := gAW_at 1141 (by decide +kernel) rfl
theorem mX9_280 : Cond.methodLink "PartedLandModel" 280 yX9_isLine ∈ gAW := gAW_at 1122 (by decide +kernel) rfl
theorem mX9_283 : Cond.methodLink "PartedLandModel" 283 yX9_isRead ∈ gAW := gAW_at 1118 (by decide +kernel) rfl
theorem mX9_286 : Cond.methodLink "PartedLandModel" 286 yX9_isThird ∈ gAW := gAW_at 1170 (by decide +kernel) rfl
theorem mX9_289 : Cond.methodLink "PartedLandModel" 289 yX9_isPact ∈ gAW := gAW_at 1177 (by decide +kernel) rfl
theorem mX9_301 : Cond.methodLink "PartedLandModel" 301 yX9_latest ∈ gAW := gAW_at 1213 (by decide +kernel) rfl
theorem mX9_305 : Cond.methodLink "PartedLandModel" 305 yX9_firstYes ∈ gAW := gAW_at 1217 (by decide +kernel) rfl
theorem mX9_309 : Cond.methodLink "PartedLandModel" 309 yX9_doWordsLet ∈ gAW := gAW_at 1209 (by decide +kernel) rfl
theorem mX9_312 : Cond.methodLink "PartedLandModel" 312 yX9_isBound ∈ gAW := gAW_at 1205 (by decide +kernel) rfl
theorem mX9_316 : Cond.methodLink "PartedLandModel" 316 yX9_isRecognized ∈ gAW := gAW_at 1197 (by decide +kernel) rfl
theorem mX9_319 : Cond.methodLink "PartedLandModel" 319 yX9_byRank ∈ gAW := gAW_at 1193 (by decide +kernel) rfl
theorem mX9_322 : Cond.methodLink "PartedLandModel" 322 yX9_byTrade ∈ gAW := gAW_at 1201 (by decide +kernel) rfl
theorem mX9_325 : Cond.methodLink "PartedLandModel" 325 yX9_boundOf ∈ gAW := gAW_at 1189 (by decide +kernel) rfl
theorem mX9_328 : Cond.methodLink "PartedLandModel" 328 yX9_worthOf ∈ gAW := gAW_at 1249 (by decide +kernel) rfl
theorem mX9_331 : Cond.methodLink "PartedLandModel" 331 yX9_keyOf ∈ gAW := gAW_at 1245 (by decide +kernel) rfl
theorem mX9_334 : Cond.methodLink "PartedLandModel" 334 yX9_beginPart ∈ gAW := gAW_at 1237 (by decide +kernel) rfl
theorem mX9_338 : Cond.methodLink "PartedLandModel" 338 yX9_shareAt ∈ gAW := gAW_at 1241 (by decide +kernel) rfl
theorem mX9_341 : Cond.methodLink "PartedLandModel" 341 yX9_owesOf ∈ gAW := gAW_at 1233 (by decide +kernel) rfl
theorem mX9_348 : Cond.methodLink "PartedLandModel" 348 yX9_abroadAt ∈ gAW := gAW_at 1265 (by decide +kernel) rfl
theorem mX9_351 : Cond.methodLink "PartedLandModel" 351 yX9_ownsOf ∈ gAW := gAW_at 1261 (by decide +kernel) rfl
theorem mX9_357 : Cond.methodLink "PartedLandModel" 357 yX9_findBound ∈ gAW := gAW_at 1281 (by decide +kernel) rfl
theorem mX9_361 : Cond.methodLink "PartedLandModel" 361 yX9_bits ∈ gAW := gAW_at 1285 (by decide +kernel) rfl
theorem mX9_364 : Cond.methodLink "PartedLandModel" 364 yX9_burdenOf ∈ gAW := gAW_at 1296 (by decide +kernel) rfl
theorem nX2_70 : ("PartedLand$History", 70, yX8_isIn, "PartedLand") ∈ gNs := by decide +kernel
theorem nX3_120 : ("PartedLand$Pacts", 120, yX8_isIn, "PartedLand") ∈ gNs := by decide +kernel
theorem mx_1 : Cond.static Lib.Math.max.name ∈ gAW := gAW_at 618 (by decide +kernel) rfl
theorem mx_2 : Cond.initialized "java/lang/Math" ∈ gAW := gAW_at 17 (by decide +kernel) rfl
theorem mx_3 : Cond.code Lib.Math.max.name Lib.Math.max.code 2 (some .int) ∈ gAW := gAW_at 619 (by decide +kernel) rfl
theorem ac_1 : Cond.native arraycopyName ∈ gAW := gAW_at 396 (by decide +kernel) rfl
theorem ac_2 : Cond.static arraycopyName ∈ gAW := gAW_at 395 (by decide +kernel) rfl
theorem ac_3 : Cond.initialized "java/lang/System" ∈ gAW := gAW_at 11 (by decide +kernel) rfl
theorem cX8_248 : Cond.constant "PartedLand" 248 100000 ∈ gAW := gAW_at 822 (by decide +kernel) rfl
theorem cX9_367 : Cond.constant "PartedLandModel" 367 100000 ∈ gAW := gAW_at 1300 (by decide +kernel) rfl
theorem cL_44 : Cond.constantLong "PartedLandLaw" 44 4294967295 ∈ gAW := gAW_at 1309 (by decide +kernel) rfl
theorem cX9_205 : Cond.constantLong "PartedLandModel" 205 255 ∈ gAW := gAW_at 1109 (by decide +kernel) rfl
theorem cX9_219 : Cond.constantLong "PartedLandModel" 219 (-2) ∈ gAW := gAW_at 1130 (by decide +kernel) rfl
theorem cX9_225 : Cond.constantLong "PartedLandModel" 225 27 ∈ gAW := gAW_at 1131 (by decide +kernel) rfl
theorem cX9_227 : Cond.constantLong "PartedLandModel" 227 96 ∈ gAW := gAW_at 1132 (by decide +kernel) rfl
theorem cX9_229 : Cond.constantLong "PartedLandModel" 229 (-4) ∈ gAW := gAW_at 1133 (by decide +kernel) rfl
theorem cX9_231 : Cond.constantLong "PartedLandModel" 231 (-1) ∈ gAW := gAW_at 1134 (by decide +kernel) rfl
theorem cX9_233 : Cond.constantLong "PartedLandModel" 233 (-3) ∈ gAW := gAW_at 1135 (by decide +kernel) rfl
theorem cX9_245 : Cond.constantLong "PartedLandModel" 245 94310429 ∈ gAW := gAW_at 1136 (by decide +kernel) rfl
theorem cX9_247 : Cond.constantLong "PartedLandModel" 247 1834205 ∈ gAW := gAW_at 1137 (by decide +kernel) rfl
theorem cX9_249 : Cond.constantLong "PartedLandModel" 249 7496615453 ∈ gAW := gAW_at 1138 (by decide +kernel) rfl
theorem cX9_251 : Cond.constantLong "PartedLandModel" 251 393 ∈ gAW := gAW_at 1139 (by decide +kernel) rfl
theorem cX9_253 : Cond.constantLong "PartedLandModel" 253 18379 ∈ gAW := gAW_at 1140 (by decide +kernel) rfl
theorem cX9_259 : Cond.constantLong "PartedLandModel" 259 335207579 ∈ gAW := gAW_at 1149 (by decide +kernel) rfl
theorem cX9_261 : Cond.constantLong "PartedLandModel" 261 10256063 ∈ gAW := gAW_at 1150 (by decide +kernel) rfl
theorem cX9_263 : Cond.constantLong "PartedLandModel" 263 4350799 ∈ gAW := gAW_at 1151 (by decide +kernel) rfl
theorem cX9_265 : Cond.constantLong "PartedLandModel" 265 12532058 ∈ gAW := gAW_at 1152 (by decide +kernel) rfl
theorem cX9_267 : Cond.constantLong "PartedLandModel" 267 3007164 ∈ gAW := gAW_at 1153 (by decide +kernel) rfl
theorem cX9_269 : Cond.constantLong "PartedLandModel" 269 11716 ∈ gAW := gAW_at 1154 (by decide +kernel) rfl
theorem cX9_271 : Cond.constantLong "PartedLandModel" 271 275656909 ∈ gAW := gAW_at 1155 (by decide +kernel) rfl
theorem cX9_273 : Cond.constantLong "PartedLandModel" 273 6570631 ∈ gAW := gAW_at 1156 (by decide +kernel) rfl
theorem cX9_275 : Cond.constantLong "PartedLandModel" 275 50801 ∈ gAW := gAW_at 1157 (by decide +kernel) rfl
theorem cJ6_265 : Cond.constant "java/lang/Integer" 265 1431655765 ∈ gAW := gAW_at 794 (by decide +kernel) rfl
theorem cJ6_266 : Cond.constant "java/lang/Integer" 266 858993459 ∈ gAW := gAW_at 795 (by decide +kernel) rfl
theorem cJ6_267 : Cond.constant "java/lang/Integer" 267 252645135 ∈ gAW := gAW_at 796 (by decide +kernel) rfl
abbrev kX0_mark : pKi := (cX0_mark, "PartedLand$Days", 2, none, { frames := 0, cells := 0, slots := 0, locals := 0 }, 0, 0)
theorem gyX0_mark : gY yX0_mark kX0_mark 1 := ⟨gAW_at 389 (by decide +kernel) rfl, gAW_at 9 (by decide +kernel) rfl, by decide +kernel, by decide +kernel, by decide +kernel⟩
theorem giX0_mark : Cond.instanceMethod yX0_mark ∈ gAW := gAW_at 387 (by decide +kernel) rfl
theorem gsX0_mark : Cond.selects "PartedLand$Days" yX0_mark yX0_mark ∈ gAW := gAW_at 388 (by decide +kernel) rfl
abbrev kX0_isMarked : pKi := (cX0_isMarked, "PartedLand$Days", 2, some .boolean, { frames := 0, cells := 0, slots := 0, locals := 0 }, 0, 0)
theorem gyX0_isMarked : gY yX0_isMarked kX0_isMarked 1 := ⟨gAW_at 695 (by decide +kernel) rfl, gAW_at 9 (by decide +kernel) rfl, by decide +kernel, by decide +kernel, by decide +kernel⟩
theorem giX0_isMarked : Cond.instanceMethod yX0_isMarked ∈ gAW := gAW_at 693 (by decide +kernel) rfl
theorem gsX0_isMarked : Cond.selects "PartedLand$Days" yX0_isMarked yX0_isMarked ∈ gAW := gAW_at 694 (by decide +kernel) rfl
abbrev kX1_knowsDebt : pKi := (cX1_knowsDebt, "PartedLand$Goods", 2, some .boolean, { frames := 0, cells := 0, slots := 0, locals := 0 }, 0, 0)
theorem gyX1_knowsDebt : gY yX1_knowsDebt kX1_knowsDebt 1 := ⟨gAW_at 713 (by decide +kernel) rfl, gAW_at 7 (by decide +kernel) rfl, by decide +kernel, by decide +kernel, by decide +kernel⟩
theorem giX1_knowsDebt : Cond.instanceMethod yX1_knowsDebt ∈ gAW := gAW_at 711 (by decide +kernel) rfl
theorem gsX1_knowsDebt : Cond.selects "PartedLand$Goods" yX1_knowsDebt yX1_knowsDebt ∈ gAW := gAW_at 712 (by decide +kernel) rfl
abbrev kX1_knowsThing : pKi := (cX1_knowsThing, "PartedLand$Goods", 2, some .boolean, { frames := 0, cells := 0, slots := 0, locals := 0 }, 0, 0)
theorem gyX1_knowsThing : gY yX1_knowsThing kX1_knowsThing 1 := ⟨gAW_at 753 (by decide +kernel) rfl, gAW_at 7 (by decide +kernel) rfl, by decide +kernel, by decide +kernel, by decide +kernel⟩
theorem giX1_knowsThing : Cond.instanceMethod yX1_knowsThing ∈ gAW := gAW_at 751 (by decide +kernel) rfl
theorem gsX1_knowsThing : Cond.selects "PartedLand$Goods" yX1_knowsThing yX1_knowsThing ∈ gAW := gAW_at 752 (by decide +kernel) rfl
abbrev kX1_addDebt : pKi := (cX1_addDebt, "PartedLand$Goods", 6, some .int, { frames := 1, cells := 0, slots := 0, locals := 21 }, 0, 0)
theorem gyX1_addDebt : gY yX1_addDebt kX1_addDebt 4 := ⟨gAW_at 704 (by decide +kernel) rfl, gAW_at 7 (by decide +kernel) rfl, by decide +kernel, by decide +kernel, by decide +kernel⟩
theorem giX1_addDebt : Cond.instanceMethod yX1_addDebt ∈ gAW := gAW_at 702 (by decide +kernel) rfl
theorem gsX1_addDebt : Cond.selects "PartedLand$Goods" yX1_addDebt yX1_addDebt ∈ gAW := gAW_at 703 (by decide +kernel) rfl
abbrev kX1_addThing : pKi := (cX1_addThing, "PartedLand$Goods", 5, some .int, { frames := 0, cells := 0, slots := 0, locals := 0 }, 0, 0)
theorem gyX1_addThing : gY yX1_addThing kX1_addThing 3 := ⟨gAW_at 745 (by decide +kernel) rfl, gAW_at 7 (by decide +kernel) rfl, by decide +kernel, by decide +kernel, by decide +kernel⟩
theorem giX1_addThing : Cond.instanceMethod yX1_addThing ∈ gAW := gAW_at 743 (by decide +kernel) rfl
theorem gsX1_addThing : Cond.selects "PartedLand$Goods" yX1_addThing yX1_addThing ∈ gAW := gAW_at 744 (by decide +kernel) rfl
abbrev kX1_owedBy : pKi := (cX1_owedBy, "PartedLand$Goods", 6, some .int, { frames := 5, cells := 0, slots := 0, locals := 124 }, 0, 0)
theorem gyX1_owedBy : gY yX1_owedBy kX1_owedBy 4 := ⟨gAW_at 717 (by decide +kernel) rfl, gAW_at 7 (by decide +kernel) rfl, by decide +kernel, by decide +kernel, by decide +kernel⟩
theorem giX1_owedBy : Cond.instanceMethod yX1_owedBy ∈ gAW := gAW_at 715 (by decide +kernel) rfl
theorem gsX1_owedBy : Cond.selects "PartedLand$Goods" yX1_owedBy yX1_owedBy ∈ gAW := gAW_at 716 (by decide +kernel) rfl
abbrev kX1_ownedBy : pKi := (cX1_ownedBy, "PartedLand$Goods", 6, some .int, { frames := 5, cells := 0, slots := 0, locals := 124 }, 0, 0)
theorem gyX1_ownedBy : gY yX1_ownedBy kX1_ownedBy 4 := ⟨gAW_at 757 (by decide +kernel) rfl, gAW_at 7 (by decide +kernel) rfl, by decide +kernel, by decide +kernel, by decide +kernel⟩
theorem giX1_ownedBy : Cond.instanceMethod yX1_ownedBy ∈ gAW := gAW_at 755 (by decide +kernel) rfl
theorem gsX1_ownedBy : Cond.selects "PartedLand$Goods" yX1_ownedBy yX1_ownedBy ∈ gAW := gAW_at 756 (by decide +kernel) rfl
abbrev kX1_burdenOf : pKi := (cX1_burdenOf, "PartedLand$Goods", 6, some .int, { frames := 6, cells := 0, slots := 0, locals := 149 }, 0, 0)
theorem gyX1_burdenOf : gY yX1_burdenOf kX1_burdenOf 3 := ⟨gAW_at 826 (by decide +kernel) rfl, gAW_at 7 (by decide +kernel) rfl, by decide +kernel, by decide +kernel, by decide +kernel⟩
theorem giX1_burdenOf : Cond.instanceMethod yX1_burdenOf ∈ gAW := gAW_at 824 (by decide +kernel) rfl
theorem gsX1_burdenOf : Cond.selects "PartedLand$Goods" yX1_burdenOf yX1_burdenOf ∈ gAW := gAW_at 825 (by decide +kernel) rfl
abbrev kX1_divide : pKi := (cX1_divide, "PartedLand$Goods", 7, none, { frames := 4, cells := 0, slots := 0, locals := 98 }, 0, 0)
theorem gyX1_divide : gY yX1_divide kX1_divide 5 := ⟨gAW_at 723 (by decide +kernel) rfl, gAW_at 7 (by decide +kernel) rfl, by decide +kernel, by decide +kernel, by decide +kernel⟩
theorem giX1_divide : Cond.instanceMethod yX1_divide ∈ gAW := gAW_at 722 (by decide +kernel) rfl
theorem gsX1_divide : Cond.selects "PartedLand$Goods" yX1_divide yX1_divide ∈ gAW := gAW_sel 20 (by decide +kernel) rfl
abbrev kX1_divideAt : pKi := (cX1_divideAt, "PartedLand$Goods", 6, none, { frames := 3, cells := 0, slots := 0, locals := 73 }, 0, 0)
theorem gyX1_divideAt : gY yX1_divideAt kX1_divideAt 2 := ⟨gAW_at 728 (by decide +kernel) rfl, gAW_at 7 (by decide +kernel) rfl, by decide +kernel, by decide +kernel, by decide +kernel⟩
theorem giX1_divideAt : Cond.instanceMethod yX1_divideAt ∈ gAW := gAW_at 727 (by decide +kernel) rfl
theorem gsX1_divideAt : Cond.selects "PartedLand$Goods" yX1_divideAt yX1_divideAt ∈ gAW := gAW_sel 21 (by decide +kernel) rfl
abbrev kX1_partOfFirst : pKi := (cX1_partOfFirst, "PartedLand$Goods", 6, some .int, { frames := 2, cells := 0, slots := 0, locals := 48 }, 0, 0)
theorem gyX1_partOfFirst : gY yX1_partOfFirst kX1_partOfFirst 3 := ⟨gAW_at 732 (by decide +kernel) rfl, gAW_at 7 (by decide +kernel) rfl, by decide +kernel, by decide +kernel, by decide +kernel⟩
theorem giX1_partOfFirst : Cond.instanceMethod yX1_partOfFirst ∈ gAW := gAW_at 731 (by decide +kernel) rfl
theorem gsX1_partOfFirst : Cond.selects "PartedLand$Goods" yX1_partOfFirst yX1_partOfFirst ∈ gAW := gAW_sel 22 (by decide +kernel) rfl
abbrev kX1_ownerAbroad : pKi := (cX1_ownerAbroad, "PartedLand$Goods", 5, some .int, { frames := 3, cells := 0, slots := 0, locals := 74 }, 0, 0)
theorem gyX1_ownerAbroad : gY yX1_ownerAbroad kX1_ownerAbroad 2 := ⟨gAW_at 761 (by decide +kernel) rfl, gAW_at 7 (by decide +kernel) rfl, by decide +kernel, by decide +kernel, by decide +kernel⟩
theorem giX1_ownerAbroad : Cond.instanceMethod yX1_ownerAbroad ∈ gAW := gAW_at 760 (by decide +kernel) rfl
theorem gsX1_ownerAbroad : Cond.selects "PartedLand$Goods" yX1_ownerAbroad yX1_ownerAbroad ∈ gAW := gAW_sel 24 (by decide +kernel) rfl
abbrev kX1_ownerAbroadBehind : pKi := (cX1_ownerAbroadBehind, "PartedLand$Goods", 7, some .int, { frames := 2, cells := 0, slots := 0, locals := 48 }, 0, 0)
theorem gyX1_ownerAbroadBehind : gY yX1_ownerAbroadBehind kX1_ownerAbroadBehind 2 := ⟨gAW_at 765 (by decide +kernel) rfl, gAW_at 7 (by decide +kernel) rfl, by decide +kernel, by decide +kernel, by decide +kernel⟩
theorem giX1_ownerAbroadBehind : Cond.instanceMethod yX1_ownerAbroadBehind ∈ gAW := gAW_at 764 (by decide +kernel) rfl
theorem gsX1_ownerAbroadBehind : Cond.selects "PartedLand$Goods" yX1_ownerAbroadBehind yX1_ownerAbroadBehind ∈ gAW := gAW_sel 25 (by decide +kernel) rfl
abbrev kX1_key : pKi := (cX1_key, "PartedLand$Goods", 5, some .int, { frames := 1, cells := 0, slots := 0, locals := 24 }, 0, 0)
theorem gyX1_key : gY yX1_key kX1_key 3 := ⟨gAW_at 736 (by decide +kernel) rfl, gAW_at 7 (by decide +kernel) rfl, by decide +kernel, by decide +kernel, by decide +kernel⟩
theorem giX1_key : Cond.instanceMethod yX1_key ∈ gAW := gAW_at 735 (by decide +kernel) rfl
theorem gsX1_key : Cond.selects "PartedLand$Goods" yX1_key yX1_key ∈ gAW := gAW_sel 23 (by decide +kernel) rfl
abbrev kX2_knowsGround : pKi := (cX2_knowsGround, "PartedLand$History", 2, some .boolean, { frames := 0, cells := 0, slots := 0, locals := 0 }, 0, 0)
theorem gyX2_knowsGround : gY yX2_knowsGround kX2_knowsGround 1 := ⟨gAW_at 442 (by decide +kernel) rfl, gAW_at 2 (by decide +kernel) rfl, by decide +kernel, by decide +kernel, by decide +kernel⟩
theorem giX2_knowsGround : Cond.instanceMethod yX2_knowsGround ∈ gAW := gAW_at 440 (by decide +kernel) rfl
theorem gsX2_knowsGround : Cond.selects "PartedLand$History" yX2_knowsGround yX2_knowsGround ∈ gAW := gAW_at 441 (by decide +kernel) rfl
abbrev kX2_knowsLand : pKi := (cX2_knowsLand, "PartedLand$History", 2, some .boolean, { frames := 0, cells := 0, slots := 0, locals := 0 }, 0, 0)
theorem gyX2_knowsLand : gY yX2_knowsLand kX2_knowsLand 1 := ⟨gAW_at 375 (by decide +kernel) rfl, gAW_at 2 (by decide +kernel) rfl, by decide +kernel, by decide +kernel, by decide +kernel⟩
theorem giX2_knowsLand : Cond.instanceMethod yX2_knowsLand ∈ gAW := gAW_at 373 (by decide +kernel) rfl
theorem gsX2_knowsLand : Cond.selects "PartedLand$History" yX2_knowsLand yX2_knowsLand ∈ gAW := gAW_at 374 (by decide +kernel) rfl
abbrev kX2_addGround : pKi := (cX2_addGround, "PartedLand$History", 4, some .int, { frames := 0, cells := 0, slots := 0, locals := 0 }, 0, 0)
theorem gyX2_addGround : gY yX2_addGround kX2_addGround 2 := ⟨gAW_at 352 (by decide +kernel) rfl, gAW_at 2 (by decide +kernel) rfl, by decide +kernel, by decide +kernel, by decide +kernel⟩
theorem giX2_addGround : Cond.instanceMethod yX2_addGround ∈ gAW := gAW_at 350 (by decide +kernel) rfl
theorem gsX2_addGround : Cond.selects "PartedLand$History" yX2_addGround yX2_addGround ∈ gAW := gAW_at 351 (by decide +kernel) rfl
abbrev kX2_latestDay : pKi := (cX2_latestDay, "PartedLand$History", 1, some .int, { frames := 0, cells := 0, slots := 0, locals := 0 }, 0, 0)
theorem gyX2_latestDay : gY yX2_latestDay kX2_latestDay 0 := ⟨gAW_at 367 (by decide +kernel) rfl, gAW_at 2 (by decide +kernel) rfl, by decide +kernel, by decide +kernel, by decide +kernel⟩
theorem giX2_latestDay : Cond.instanceMethod yX2_latestDay ∈ gAW := gAW_at 365 (by decide +kernel) rfl
theorem gsX2_latestDay : Cond.selects "PartedLand$History" yX2_latestDay yX2_latestDay ∈ gAW := gAW_at 366 (by decide +kernel) rfl
abbrev kX2_changesBy : pKi := (cX2_changesBy, "PartedLand$History", 3, some .int, { frames := 0, cells := 0, slots := 0, locals := 0 }, 0, 0)
theorem gyX2_changesBy : gY yX2_changesBy kX2_changesBy 1 := ⟨gAW_at 429 (by decide +kernel) rfl, gAW_at 2 (by decide +kernel) rfl, by decide +kernel, by decide +kernel, by decide +kernel⟩
theorem giX2_changesBy : Cond.instanceMethod yX2_changesBy ∈ gAW := gAW_at 427 (by decide +kernel) rfl
theorem gsX2_changesBy : Cond.selects "PartedLand$History" yX2_changesBy yX2_changesBy ∈ gAW := gAW_at 428 (by decide +kernel) rfl
abbrev kX2_isThere : pKi := (cX2_isThere, "PartedLand$History", 3, some .boolean, { frames := 1, cells := 0, slots := 0, locals := 21 }, 0, 0)
theorem gyX2_isThere : gY yX2_isThere kX2_isThere 2 := ⟨gAW_at 371 (by decide +kernel) rfl, gAW_at 2 (by decide +kernel) rfl, by decide +kernel, by decide +kernel, by decide +kernel⟩
theorem giX2_isThere : Cond.instanceMethod yX2_isThere ∈ gAW := gAW_at 369 (by decide +kernel) rfl
theorem gsX2_isThere : Cond.selects "PartedLand$History" yX2_isThere yX2_isThere ∈ gAW := gAW_at 370 (by decide +kernel) rfl
abbrev kX2_ownerOf : pKi := (cX2_ownerOf, "PartedLand$History", 4, some .int, { frames := 1, cells := 0, slots := 0, locals := 21 }, 0, 0)
theorem gyX2_ownerOf : gY yX2_ownerOf kX2_ownerOf 2 := ⟨gAW_at 446 (by decide +kernel) rfl, gAW_at 2 (by decide +kernel) rfl, by decide +kernel, by decide +kernel, by decide +kernel⟩
theorem giX2_ownerOf : Cond.instanceMethod yX2_ownerOf ∈ gAW := gAW_at 444 (by decide +kernel) rfl
theorem gsX2_ownerOf : Cond.selects "PartedLand$History" yX2_ownerOf yX2_ownerOf ∈ gAW := gAW_at 445 (by decide +kernel) rfl
abbrev kX2_isSomeNotAll : pKi := (cX2_isSomeNotAll, "PartedLand$History", 4, some .boolean, { frames := 0, cells := 0, slots := 0, locals := 0 }, 0, 0)
theorem gyX2_isSomeNotAll : gY yX2_isSomeNotAll kX2_isSomeNotAll 2 := ⟨gAW_at 382 (by decide +kernel) rfl, gAW_at 2 (by decide +kernel) rfl, by decide +kernel, by decide +kernel, by decide +kernel⟩
theorem giX2_isSomeNotAll : Cond.instanceMethod yX2_isSomeNotAll ∈ gAW := gAW_at 380 (by decide +kernel) rfl
theorem gsX2_isSomeNotAll : Cond.selects "PartedLand$History" yX2_isSomeNotAll yX2_isSomeNotAll ∈ gAW := gAW_at 381 (by decide +kernel) rfl
abbrev kX2_addChange : pKi := (cX2_addChange, "PartedLand$History", 8, some .int, { frames := 4, cells := 0, slots := 0, locals := 86 }, 0, 0)
theorem gyX2_addChange : gY yX2_addChange kX2_addChange 5 := ⟨gAW_at 393 (by decide +kernel) rfl, gAW_at 2 (by decide +kernel) rfl, by decide +kernel, by decide +kernel, by decide +kernel⟩
theorem giX2_addChange : Cond.instanceMethod yX2_addChange ∈ gAW := gAW_at 391 (by decide +kernel) rfl
theorem gsX2_addChange : Cond.selects "PartedLand$History" yX2_addChange yX2_addChange ∈ gAW := gAW_at 392 (by decide +kernel) rfl
abbrev kX2_partOff : pKi := (cX2_partOff, "PartedLand$History", 4, none, { frames := 2, cells := 0, slots := 0, locals := 41 }, 0, 0)
theorem gyX2_partOff : gY yX2_partOff kX2_partOff 2 := ⟨gAW_at 400 (by decide +kernel) rfl, gAW_at 2 (by decide +kernel) rfl, by decide +kernel, by decide +kernel, by decide +kernel⟩
theorem giX2_partOff : Cond.instanceMethod yX2_partOff ∈ gAW := gAW_at 399 (by decide +kernel) rfl
theorem gsX2_partOff : Cond.selects "PartedLand$History" yX2_partOff yX2_partOff ∈ gAW := gAW_sel 1 (by decide +kernel) rfl
abbrev kX2_fallApart : pKi := (cX2_fallApart, "PartedLand$History", 3, none, { frames := 3, cells := 0, slots := 0, locals := 64 }, 0, 0)
theorem gyX2_fallApart : gY yX2_fallApart kX2_fallApart 2 := ⟨gAW_at 413 (by decide +kernel) rfl, gAW_at 2 (by decide +kernel) rfl, by decide +kernel, by decide +kernel, by decide +kernel⟩
theorem giX2_fallApart : Cond.instanceMethod yX2_fallApart ∈ gAW := gAW_at 412 (by decide +kernel) rfl
theorem gsX2_fallApart : Cond.selects "PartedLand$History" yX2_fallApart yX2_fallApart ∈ gAW := gAW_sel 4 (by decide +kernel) rfl
abbrev kX2_join : pKi := (cX2_join, "PartedLand$History", 3, none, { frames := 1, cells := 0, slots := 0, locals := 24 }, 0, 0)
theorem gyX2_join : gY yX2_join kX2_join 2 := ⟨gAW_at 421 (by decide +kernel) rfl, gAW_at 2 (by decide +kernel) rfl, by decide +kernel, by decide +kernel, by decide +kernel⟩
theorem giX2_join : Cond.instanceMethod yX2_join ∈ gAW := gAW_at 420 (by decide +kernel) rfl
theorem gsX2_join : Cond.selects "PartedLand$History" yX2_join yX2_join ∈ gAW := gAW_sel 6 (by decide +kernel) rfl
abbrev kX2_moveGrounds : pKi := (cX2_moveGrounds, "PartedLand$History", 5, none, { frames := 0, cells := 0, slots := 0, locals := 0 }, 0, 0)
theorem gyX2_moveGrounds : gY yX2_moveGrounds kX2_moveGrounds 3 := ⟨gAW_at 409 (by decide +kernel) rfl, gAW_at 2 (by decide +kernel) rfl, by decide +kernel, by decide +kernel, by decide +kernel⟩
theorem giX2_moveGrounds : Cond.instanceMethod yX2_moveGrounds ∈ gAW := gAW_at 408 (by decide +kernel) rfl
theorem gsX2_moveGrounds : Cond.selects "PartedLand$History" yX2_moveGrounds yX2_moveGrounds ∈ gAW := gAW_sel 3 (by decide +kernel) rfl
abbrev kX2_comesOutOf : pKi := (cX2_comesOutOf, "PartedLand$History", 2, none, { frames := 1, cells := 0, slots := 0, locals := 20 }, 0, 0)
theorem gyX2_comesOutOf : gY yX2_comesOutOf kX2_comesOutOf 1 := ⟨gAW_at 404 (by decide +kernel) rfl, gAW_at 2 (by decide +kernel) rfl, by decide +kernel, by decide +kernel, by decide +kernel⟩
theorem giX2_comesOutOf : Cond.instanceMethod yX2_comesOutOf ∈ gAW := gAW_at 403 (by decide +kernel) rfl
theorem gsX2_comesOutOf : Cond.selects "PartedLand$History" yX2_comesOutOf yX2_comesOutOf ∈ gAW := gAW_sel 2 (by decide +kernel) rfl
abbrev kX2_ends : pKi := (cX2_ends, "PartedLand$History", 2, none, { frames := 0, cells := 0, slots := 0, locals := 0 }, 0, 0)
theorem gyX2_ends : gY yX2_ends kX2_ends 1 := ⟨gAW_at 417 (by decide +kernel) rfl, gAW_at 2 (by decide +kernel) rfl, by decide +kernel, by decide +kernel, by decide +kernel⟩
theorem giX2_ends : Cond.instanceMethod yX2_ends ∈ gAW := gAW_at 416 (by decide +kernel) rfl
theorem gsX2_ends : Cond.selects "PartedLand$History" yX2_ends yX2_ends ∈ gAW := gAW_sel 5 (by decide +kernel) rfl
abbrev kX2_heirOf : pKi := (cX2_heirOf, "PartedLand$History", 6, some .int, { frames := 2, cells := 0, slots := 0, locals := 47 }, 0, 0)
theorem gyX2_heirOf : gY yX2_heirOf kX2_heirOf 2 := ⟨gAW_at 458 (by decide +kernel) rfl, gAW_at 2 (by decide +kernel) rfl, by decide +kernel, by decide +kernel, by decide +kernel⟩
theorem giX2_heirOf : Cond.instanceMethod yX2_heirOf ∈ gAW := gAW_at 456 (by decide +kernel) rfl
theorem gsX2_heirOf : Cond.selects "PartedLand$History" yX2_heirOf yX2_heirOf ∈ gAW := gAW_at 457 (by decide +kernel) rfl
abbrev kX2_nextHeir : pKi := (cX2_nextHeir, "PartedLand$History", 4, some .int, { frames := 1, cells := 0, slots := 0, locals := 24 }, 0, 0)
theorem gyX2_nextHeir : gY yX2_nextHeir kX2_nextHeir 1 := ⟨gAW_at 463 (by decide +kernel) rfl, gAW_at 2 (by decide +kernel) rfl, by decide +kernel, by decide +kernel, by decide +kernel⟩
theorem giX2_nextHeir : Cond.instanceMethod yX2_nextHeir ∈ gAW := gAW_at 462 (by decide +kernel) rfl
theorem gsX2_nextHeir : Cond.selects "PartedLand$History" yX2_nextHeir yX2_nextHeir ∈ gAW := gAW_sel 7 (by decide +kernel) rfl
abbrev kX2_saidSame : pKi := (cX2_saidSame, "PartedLand$History", 4, some .boolean, { frames := 0, cells := 0, slots := 0, locals := 0 }, 0, 0)
theorem gyX2_saidSame : gY yX2_saidSame kX2_saidSame 2 := ⟨gAW_at 678 (by decide +kernel) rfl, gAW_at 2 (by decide +kernel) rfl, by decide +kernel, by decide +kernel, by decide +kernel⟩
theorem giX2_saidSame : Cond.instanceMethod yX2_saidSame ∈ gAW := gAW_at 676 (by decide +kernel) rfl
theorem gsX2_saidSame : Cond.selects "PartedLand$History" yX2_saidSame yX2_saidSame ∈ gAW := gAW_at 677 (by decide +kernel) rfl
abbrev kX2_sumOf : pKi := (cX2_sumOf, "PartedLand$History", 5, some .int, { frames := 0, cells := 0, slots := 0, locals := 0 }, 0, 0)
theorem gyX2_sumOf : gY yX2_sumOf kX2_sumOf 2 := ⟨gAW_at 467 (by decide +kernel) rfl, gAW_at 2 (by decide +kernel) rfl, by decide +kernel, by decide +kernel, by decide +kernel⟩
theorem giX2_sumOf : Cond.instanceMethod yX2_sumOf ∈ gAW := gAW_at 465 (by decide +kernel) rfl
theorem gsX2_sumOf : Cond.selects "PartedLand$History" yX2_sumOf yX2_sumOf ∈ gAW := gAW_at 466 (by decide +kernel) rfl
abbrev kX3_knowsPact : pKi := (cX3_knowsPact, "PartedLand$Pacts", 2, some .boolean, { frames := 0, cells := 0, slots := 0, locals := 0 }, 0, 0)
theorem gyX3_knowsPact : gY yX3_knowsPact kX3_knowsPact 1 := ⟨gAW_at 627 (by decide +kernel) rfl, gAW_at 6 (by decide +kernel) rfl, by decide +kernel, by decide +kernel, by decide +kernel⟩
theorem giX3_knowsPact : Cond.instanceMethod yX3_knowsPact ∈ gAW := gAW_at 625 (by decide +kernel) rfl
theorem gsX3_knowsPact : Cond.selects "PartedLand$Pacts" yX3_knowsPact yX3_knowsPact ∈ gAW := gAW_at 626 (by decide +kernel) rfl
abbrev kX3_addPact : pKi := (cX3_addPact, "PartedLand$Pacts", 6, some .int, { frames := 1, cells := 0, slots := 0, locals := 21 }, 0, 0)
theorem gyX3_addPact : gY yX3_addPact kX3_addPact 4 := ⟨gAW_at 616 (by decide +kernel) rfl, gAW_at 6 (by decide +kernel) rfl, by decide +kernel, by decide +kernel, by decide +kernel⟩
theorem giX3_addPact : Cond.instanceMethod yX3_addPact ∈ gAW := gAW_at 614 (by decide +kernel) rfl
theorem gsX3_addPact : Cond.selects "PartedLand$Pacts" yX3_addPact yX3_addPact ∈ gAW := gAW_at 615 (by decide +kernel) rfl
abbrev kX3_boundOn : pKi := (cX3_boundOn, "PartedLand$Pacts", 6, some .int, { frames := 4, cells := 0, slots := 0, locals := 104 }, 0, 0)
theorem gyX3_boundOn : gY yX3_boundOn kX3_boundOn 3 := ⟨gAW_at 647 (by decide +kernel) rfl, gAW_at 6 (by decide +kernel) rfl, by decide +kernel, by decide +kernel, by decide +kernel⟩
theorem giX3_boundOn : Cond.instanceMethod yX3_boundOn ∈ gAW := gAW_at 645 (by decide +kernel) rfl
theorem gsX3_boundOn : Cond.selects "PartedLand$Pacts" yX3_boundOn yX3_boundOn ∈ gAW := gAW_at 646 (by decide +kernel) rfl
abbrev kX3_boundByRank : pKi := (cX3_boundByRank, "PartedLand$Pacts", 6, some .int, { frames := 2, cells := 0, slots := 0, locals := 50 }, 0, 0)
theorem gyX3_boundByRank : gY yX3_boundByRank kX3_boundByRank 3 := ⟨gAW_at 674 (by decide +kernel) rfl, gAW_at 6 (by decide +kernel) rfl, by decide +kernel, by decide +kernel, by decide +kernel⟩
theorem giX3_boundByRank : Cond.instanceMethod yX3_boundByRank ∈ gAW := gAW_at 673 (by decide +kernel) rfl
theorem gsX3_boundByRank : Cond.selects "PartedLand$Pacts" yX3_boundByRank yX3_boundByRank ∈ gAW := gAW_sel 18 (by decide +kernel) rfl
abbrev kX3_boundByTrade : pKi := (cX3_boundByTrade, "PartedLand$Pacts", 7, some .int, { frames := 3, cells := 0, slots := 0, locals := 78 }, 0, 0)
theorem gyX3_boundByTrade : gY yX3_boundByTrade kX3_boundByTrade 3 := ⟨gAW_at 651 (by decide +kernel) rfl, gAW_at 6 (by decide +kernel) rfl, by decide +kernel, by decide +kernel, by decide +kernel⟩
theorem giX3_boundByTrade : Cond.instanceMethod yX3_boundByTrade ∈ gAW := gAW_at 650 (by decide +kernel) rfl
theorem gsX3_boundByTrade : Cond.selects "PartedLand$Pacts" yX3_boundByTrade yX3_boundByTrade ∈ gAW := gAW_sel 15 (by decide +kernel) rfl
abbrev kX3_handOn : pKi := (cX3_handOn, "PartedLand$Pacts", 6, none, { frames := 2, cells := 0, slots := 0, locals := 53 }, 0, 0)
theorem gyX3_handOn : gY yX3_handOn kX3_handOn 3 := ⟨gAW_at 656 (by decide +kernel) rfl, gAW_at 6 (by decide +kernel) rfl, by decide +kernel, by decide +kernel, by decide +kernel⟩
theorem giX3_handOn : Cond.instanceMethod yX3_handOn ∈ gAW := gAW_at 655 (by decide +kernel) rfl
theorem gsX3_handOn : Cond.selects "PartedLand$Pacts" yX3_handOn yX3_handOn ∈ gAW := gAW_sel 16 (by decide +kernel) rfl
abbrev kX3_isHeld : pKi := (cX3_isHeld, "PartedLand$Pacts", 7, some .boolean, { frames := 1, cells := 0, slots := 0, locals := 27 }, 0, 0)
theorem gyX3_isHeld : gY yX3_isHeld kX3_isHeld 4 := ⟨gAW_at 660 (by decide +kernel) rfl, gAW_at 6 (by decide +kernel) rfl, by decide +kernel, by decide +kernel, by decide +kernel⟩
theorem giX3_isHeld : Cond.instanceMethod yX3_isHeld ∈ gAW := gAW_at 659 (by decide +kernel) rfl
theorem gsX3_isHeld : Cond.selects "PartedLand$Pacts" yX3_isHeld yX3_isHeld ∈ gAW := gAW_sel 17 (by decide +kernel) rfl
abbrev kX3_turnsOn : pKi := (cX3_turnsOn, "PartedLand$Pacts", 4, some .int, { frames := 5, cells := 0, slots := 0, locals := 129 }, 0, 0)
theorem gyX3_turnsOn : gY yX3_turnsOn kX3_turnsOn 1 := ⟨gAW_at 789 (by decide +kernel) rfl, gAW_at 6 (by decide +kernel) rfl, by decide +kernel, by decide +kernel, by decide +kernel⟩
theorem giX3_turnsOn : Cond.instanceMethod yX3_turnsOn ∈ gAW := gAW_at 787 (by decide +kernel) rfl
theorem gsX3_turnsOn : Cond.selects "PartedLand$Pacts" yX3_turnsOn yX3_turnsOn ∈ gAW := gAW_at 788 (by decide +kernel) rfl
abbrev kX3_dayOfMostTurns : pKi := (cX3_dayOfMostTurns, "PartedLand$Pacts", 7, some .int, { frames := 6, cells := 0, slots := 0, locals := 153 }, 0, 0)
theorem gyX3_dayOfMostTurns : gY yX3_dayOfMostTurns kX3_dayOfMostTurns 2 := ⟨gAW_at 800 (by decide +kernel) rfl, gAW_at 6 (by decide +kernel) rfl, by decide +kernel, by decide +kernel, by decide +kernel⟩
theorem giX3_dayOfMostTurns : Cond.instanceMethod yX3_dayOfMostTurns ∈ gAW := gAW_at 798 (by decide +kernel) rfl
theorem gsX3_dayOfMostTurns : Cond.selects "PartedLand$Pacts" yX3_dayOfMostTurns yX3_dayOfMostTurns ∈ gAW := gAW_at 799 (by decide +kernel) rfl
abbrev kX3_turnsSinceAhead : pKi := (cX3_turnsSinceAhead, "PartedLand$Pacts", 5, some .int, { frames := 5, cells := 0, slots := 0, locals := 129 }, 0, 0)
theorem gyX3_turnsSinceAhead : gY yX3_turnsSinceAhead kX3_turnsSinceAhead 1 := ⟨gAW_at 805 (by decide +kernel) rfl, gAW_at 6 (by decide +kernel) rfl, by decide +kernel, by decide +kernel, by decide +kernel⟩
theorem giX3_turnsSinceAhead : Cond.instanceMethod yX3_turnsSinceAhead ∈ gAW := gAW_at 804 (by decide +kernel) rfl
theorem gsX3_turnsSinceAhead : Cond.selects "PartedLand$Pacts" yX3_turnsSinceAhead yX3_turnsSinceAhead ∈ gAW := gAW_sel 26 (by decide +kernel) rfl
abbrev kX3_fewestLeftOut : pKi := (cX3_fewestLeftOut, "PartedLand$Pacts", 8, some .int, { frames := 5, cells := 0, slots := 0, locals := 129 }, 0, 0)
theorem gyX3_fewestLeftOut : gY yX3_fewestLeftOut kX3_fewestLeftOut 4 := ⟨gAW_at 813 (by decide +kernel) rfl, gAW_at 6 (by decide +kernel) rfl, by decide +kernel, by decide +kernel, by decide +kernel⟩
theorem giX3_fewestLeftOut : Cond.instanceMethod yX3_fewestLeftOut ∈ gAW := gAW_at 811 (by decide +kernel) rfl
theorem gsX3_fewestLeftOut : Cond.selects "PartedLand$Pacts" yX3_fewestLeftOut yX3_fewestLeftOut ∈ gAW := gAW_at 812 (by decide +kernel) rfl
abbrev kX4_knowsPensioner : pKi := (cX4_knowsPensioner, "PartedLand$Pensioners", 2, some .boolean, { frames := 0, cells := 0, slots := 0, locals := 0 }, 0, 0)
theorem gyX4_knowsPensioner : gY yX4_knowsPensioner kX4_knowsPensioner 1 := ⟨gAW_at 781 (by decide +kernel) rfl, gAW_at 8 (by decide +kernel) rfl, by decide +kernel, by decide +kernel, by decide +kernel⟩
theorem giX4_knowsPensioner : Cond.instanceMethod yX4_knowsPensioner ∈ gAW := gAW_at 779 (by decide +kernel) rfl
theorem gsX4_knowsPensioner : Cond.selects "PartedLand$Pensioners" yX4_knowsPensioner yX4_knowsPensioner ∈ gAW := gAW_at 780 (by decide +kernel) rfl
abbrev kX4_addPensioner : pKi := (cX4_addPensioner, "PartedLand$Pensioners", 5, some .int, { frames := 0, cells := 0, slots := 0, locals := 0 }, 0, 0)
theorem gyX4_addPensioner : gY yX4_addPensioner kX4_addPensioner 3 := ⟨gAW_at 773 (by decide +kernel) rfl, gAW_at 8 (by decide +kernel) rfl, by decide +kernel, by decide +kernel, by decide +kernel⟩
theorem giX4_addPensioner : Cond.instanceMethod yX4_addPensioner ∈ gAW := gAW_at 771 (by decide +kernel) rfl
theorem gsX4_addPensioner : Cond.selects "PartedLand$Pensioners" yX4_addPensioner yX4_addPensioner ∈ gAW := gAW_at 772 (by decide +kernel) rfl
abbrev kX5_append : pKi := (cX5_append, "PartedLand$Text", 5, some .int, { frames := 0, cells := 0, slots := 0, locals := 0 }, 0, 0)
theorem gyX5_append : gY yX5_append kX5_append 2 := ⟨gAW_at 475 (by decide +kernel) rfl, gAW_at 3 (by decide +kernel) rfl, by decide +kernel, by decide +kernel, by decide +kernel⟩
theorem giX5_append : Cond.instanceMethod yX5_append ∈ gAW := gAW_at 473 (by decide +kernel) rfl
theorem gsX5_append : Cond.selects "PartedLand$Text" yX5_append yX5_append ∈ gAW := gAW_at 474 (by decide +kernel) rfl
abbrev kX5_empty : pKi := (cX5_empty, "PartedLand$Text", 2, some .int, { frames := 0, cells := 0, slots := 0, locals := 0 }, 0, 0)
theorem gyX5_empty : gY yX5_empty kX5_empty 0 := ⟨gAW_at 483 (by decide +kernel) rfl, gAW_at 3 (by decide +kernel) rfl, by decide +kernel, by decide +kernel, by decide +kernel⟩
theorem giX5_empty : Cond.instanceMethod yX5_empty ∈ gAW := gAW_at 481 (by decide +kernel) rfl
theorem gsX5_empty : Cond.selects "PartedLand$Text" yX5_empty yX5_empty ∈ gAW := gAW_at 482 (by decide +kernel) rfl
abbrev kX5_takeAsRules : pKi := (cX5_takeAsRules, "PartedLand$Text", 1, some .int, { frames := 1, cells := 0, slots := 0, locals := 38 }, 0, 0)
theorem gyX5_takeAsRules : gY yX5_takeAsRules kX5_takeAsRules 0 := ⟨gAW_at 599 (by decide +kernel) rfl, gAW_at 3 (by decide +kernel) rfl, by decide +kernel, by decide +kernel, by decide +kernel⟩
theorem giX5_takeAsRules : Cond.instanceMethod yX5_takeAsRules ∈ gAW := gAW_at 597 (by decide +kernel) rfl
theorem gsX5_takeAsRules : Cond.selects "PartedLand$Text" yX5_takeAsRules yX5_takeAsRules ∈ gAW := gAW_at 598 (by decide +kernel) rfl
abbrev kX5_firstFault : pKi := (cX5_firstFault, "PartedLand$Text", 2, some .int, { frames := 7, cells := 0, slots := 0, locals := 151 }, 0, 0)
theorem gyX5_firstFault : gY yX5_firstFault kX5_firstFault 0 := ⟨gAW_at 491 (by decide +kernel) rfl, gAW_at 3 (by decide +kernel) rfl, by decide +kernel, by decide +kernel, by decide +kernel⟩
theorem giX5_firstFault : Cond.instanceMethod yX5_firstFault ∈ gAW := gAW_at 489 (by decide +kernel) rfl
theorem gsX5_firstFault : Cond.selects "PartedLand$Text" yX5_firstFault yX5_firstFault ∈ gAW := gAW_at 490 (by decide +kernel) rfl
abbrev kX5_readLine : pKi := (cX5_readLine, "PartedLand$Text", 1, some .boolean, { frames := 6, cells := 0, slots := 0, locals := 131 }, 0, 0)
theorem gyX5_readLine : gY yX5_readLine kX5_readLine 0 := ⟨gAW_at 498 (by decide +kernel) rfl, gAW_at 3 (by decide +kernel) rfl, by decide +kernel, by decide +kernel, by decide +kernel⟩
theorem giX5_readLine : Cond.instanceMethod yX5_readLine ∈ gAW := gAW_at 497 (by decide +kernel) rfl
theorem gsX5_readLine : Cond.selects "PartedLand$Text" yX5_readLine yX5_readLine ∈ gAW := gAW_sel 8 (by decide +kernel) rfl
abbrev kX5_put : pKi := (cX5_put, "PartedLand$Text", 3, some .boolean, { frames := 0, cells := 0, slots := 0, locals := 0 }, 0, 0)
theorem gyX5_put : gY yX5_put kX5_put 2 := ⟨gAW_at 565 (by decide +kernel) rfl, gAW_at 3 (by decide +kernel) rfl, by decide +kernel, by decide +kernel, by decide +kernel⟩
theorem giX5_put : Cond.instanceMethod yX5_put ∈ gAW := gAW_at 564 (by decide +kernel) rfl
theorem gsX5_put : Cond.selects "PartedLand$Text" yX5_put yX5_put ∈ gAW := gAW_sel 11 (by decide +kernel) rfl
abbrev kX5_readSilence : pKi := (cX5_readSilence, "PartedLand$Text", 1, some .boolean, { frames := 5, cells := 0, slots := 0, locals := 107 }, 0, 0)
theorem gyX5_readSilence : gY yX5_readSilence kX5_readSilence 0 := ⟨gAW_at 571 (by decide +kernel) rfl, gAW_at 3 (by decide +kernel) rfl, by decide +kernel, by decide +kernel, by decide +kernel⟩
theorem giX5_readSilence : Cond.instanceMethod yX5_readSilence ∈ gAW := gAW_at 570 (by decide +kernel) rfl
theorem gsX5_readSilence : Cond.selects "PartedLand$Text" yX5_readSilence yX5_readSilence ∈ gAW := gAW_sel 12 (by decide +kernel) rfl
abbrev kX5_readChoice : pKi := (cX5_readChoice, "PartedLand$Text", 5, some .boolean, { frames := 5, cells := 0, slots := 0, locals := 107 }, 0, 0)
theorem gyX5_readChoice : gY yX5_readChoice kX5_readChoice 4 := ⟨gAW_at 586 (by decide +kernel) rfl, gAW_at 3 (by decide +kernel) rfl, by decide +kernel, by decide +kernel, by decide +kernel⟩
theorem giX5_readChoice : Cond.instanceMethod yX5_readChoice ∈ gAW := gAW_at 585 (by decide +kernel) rfl
theorem gsX5_readChoice : Cond.selects "PartedLand$Text" yX5_readChoice yX5_readChoice ∈ gAW := gAW_sel 14 (by decide +kernel) rfl
abbrev kX5_readNumber : pKi := (cX5_readNumber, "PartedLand$Text", 3, some .boolean, { frames := 2, cells := 0, slots := 0, locals := 40 }, 0, 0)
theorem gyX5_readNumber : gY yX5_readNumber kX5_readNumber 0 := ⟨gAW_at 578 (by decide +kernel) rfl, gAW_at 3 (by decide +kernel) rfl, by decide +kernel, by decide +kernel, by decide +kernel⟩
theorem giX5_readNumber : Cond.instanceMethod yX5_readNumber ∈ gAW := gAW_at 577 (by decide +kernel) rfl
theorem gsX5_readNumber : Cond.selects "PartedLand$Text" yX5_readNumber yX5_readNumber ∈ gAW := gAW_sel 13 (by decide +kernel) rfl
abbrev kX5_nextToken : pKi := (cX5_nextToken, "PartedLand$Text", 1, none, { frames := 1, cells := 0, slots := 0, locals := 20 }, 0, 0)
theorem gyX5_nextToken : gY yX5_nextToken kX5_nextToken 0 := ⟨gAW_at 502 (by decide +kernel) rfl, gAW_at 3 (by decide +kernel) rfl, by decide +kernel, by decide +kernel, by decide +kernel⟩
theorem giX5_nextToken : Cond.instanceMethod yX5_nextToken ∈ gAW := gAW_at 501 (by decide +kernel) rfl
theorem gsX5_nextToken : Cond.selects "PartedLand$Text" yX5_nextToken yX5_nextToken ∈ gAW := gAW_sel 9 (by decide +kernel) rfl
abbrev kX5_isLetter : pKi := (cX5_isLetter, "PartedLand$Text", 1, some .boolean, { frames := 0, cells := 0, slots := 0, locals := 0 }, 0, 0)
theorem gyX5_isLetter : gY yX5_isLetter kX5_isLetter 1 := ⟨gAW_at 505 (by decide +kernel) rfl, gAW_at 3 (by decide +kernel) rfl, by decide +kernel, by decide +kernel, by decide +kernel⟩
theorem giX5_isLetter : Cond.static yX5_isLetter ∈ gAW := gAW_at 504 (by decide +kernel) rfl
abbrev kX5_isDigit : pKi := (cX5_isDigit, "PartedLand$Text", 1, some .boolean, { frames := 0, cells := 0, slots := 0, locals := 0 }, 0, 0)
theorem gyX5_isDigit : gY yX5_isDigit kX5_isDigit 1 := ⟨gAW_at 508 (by decide +kernel) rfl, gAW_at 3 (by decide +kernel) rfl, by decide +kernel, by decide +kernel, by decide +kernel⟩
theorem giX5_isDigit : Cond.static yX5_isDigit ∈ gAW := gAW_at 507 (by decide +kernel) rfl
abbrev kX5_isWord : pKi := (cX5_isWord, "PartedLand$Text", 3, some .boolean, { frames := 4, cells := 0, slots := 0, locals := 85 }, 0, 0)
theorem gyX5_isWord : gY yX5_isWord kX5_isWord 1 := ⟨gAW_at 513 (by decide +kernel) rfl, gAW_at 3 (by decide +kernel) rfl, by decide +kernel, by decide +kernel, by decide +kernel⟩
theorem giX5_isWord : Cond.instanceMethod yX5_isWord ∈ gAW := gAW_at 512 (by decide +kernel) rfl
theorem gsX5_isWord : Cond.selects "PartedLand$Text" yX5_isWord yX5_isWord ∈ gAW := gAW_sel 10 (by decide +kernel) rfl
abbrev kX6_addVoice : pKi := (cX6_addVoice, "PartedLand$Voices", 5, some .int, { frames := 0, cells := 0, slots := 0, locals := 0 }, 0, 0)
theorem gyX6_addVoice : gY yX6_addVoice kX6_addVoice 4 := ⟨gAW_at 639 (by decide +kernel) rfl, gAW_at 5 (by decide +kernel) rfl, by decide +kernel, by decide +kernel, by decide +kernel⟩
theorem giX6_addVoice : Cond.instanceMethod yX6_addVoice ∈ gAW := gAW_at 637 (by decide +kernel) rfl
theorem gsX6_addVoice : Cond.selects "PartedLand$Voices" yX6_addVoice yX6_addVoice ∈ gAW := gAW_at 638 (by decide +kernel) rfl
abbrev kX6_moreYesThanNo : pKi := (cX6_moreYesThanNo, "PartedLand$Voices", 6, some .boolean, { frames := 1, cells := 0, slots := 0, locals := 25 }, 0, 0)
theorem gyX6_moreYesThanNo : gY yX6_moreYesThanNo kX6_moreYesThanNo 2 := ⟨gAW_at 682 (by decide +kernel) rfl, gAW_at 5 (by decide +kernel) rfl, by decide +kernel, by decide +kernel, by decide +kernel⟩
theorem giX6_moreYesThanNo : Cond.instanceMethod yX6_moreYesThanNo ∈ gAW := gAW_at 680 (by decide +kernel) rfl
theorem gsX6_moreYesThanNo : Cond.selects "PartedLand$Voices" yX6_moreYesThanNo yX6_moreYesThanNo ∈ gAW := gAW_at 681 (by decide +kernel) rfl
abbrev kX6_latest : pKi := (cX6_latest, "PartedLand$Voices", 6, some .int, { frames := 0, cells := 0, slots := 0, locals := 0 }, 0, 0)
theorem gyX6_latest : gY yX6_latest kX6_latest 3 := ⟨gAW_at 686 (by decide +kernel) rfl, gAW_at 5 (by decide +kernel) rfl, by decide +kernel, by decide +kernel, by decide +kernel⟩
theorem giX6_latest : Cond.instanceMethod yX6_latest ∈ gAW := gAW_at 685 (by decide +kernel) rfl
theorem gsX6_latest : Cond.selects "PartedLand$Voices" yX6_latest yX6_latest ∈ gAW := gAW_sel 19 (by decide +kernel) rfl
abbrev kX7_addWord : pKi := (cX7_addWord, "PartedLand$Words", 6, some .int, { frames := 0, cells := 0, slots := 0, locals := 0 }, 0, 0)
theorem gyX7_addWord : gY yX7_addWord kX7_addWord 5 := ⟨gAW_at 631 (by decide +kernel) rfl, gAW_at 4 (by decide +kernel) rfl, by decide +kernel, by decide +kernel, by decide +kernel⟩
theorem giX7_addWord : Cond.instanceMethod yX7_addWord ∈ gAW := gAW_at 629 (by decide +kernel) rfl
theorem gsX7_addWord : Cond.selects "PartedLand$Words" yX7_addWord yX7_addWord ∈ gAW := gAW_at 630 (by decide +kernel) rfl
abbrev kX7_latest : pKi := (cX7_latest, "PartedLand$Words", 8, some .int, { frames := 0, cells := 0, slots := 0, locals := 0 }, 0, 0)
theorem gyX7_latest : gY yX7_latest kX7_latest 5 := ⟨gAW_at 665 (by decide +kernel) rfl, gAW_at 4 (by decide +kernel) rfl, by decide +kernel, by decide +kernel, by decide +kernel⟩
theorem giX7_latest : Cond.instanceMethod yX7_latest ∈ gAW := gAW_at 663 (by decide +kernel) rfl
theorem gsX7_latest : Cond.selects "PartedLand$Words" yX7_latest yX7_latest ∈ gAW := gAW_at 664 (by decide +kernel) rfl
abbrev kX7_firstYes : pKi := (cX7_firstYes, "PartedLand$Words", 6, some .int, { frames := 0, cells := 0, slots := 0, locals := 0 }, 0, 0)
theorem gyX7_firstYes : gY yX7_firstYes kX7_firstYes 3 := ⟨gAW_at 669 (by decide +kernel) rfl, gAW_at 4 (by decide +kernel) rfl, by decide +kernel, by decide +kernel, by decide +kernel⟩
theorem giX7_firstYes : Cond.instanceMethod yX7_firstYes ∈ gAW := gAW_at 667 (by decide +kernel) rfl
theorem gsX7_firstYes : Cond.selects "PartedLand$Words" yX7_firstYes yX7_firstYes ∈ gAW := gAW_at 668 (by decide +kernel) rfl
abbrev kX7_firstWordsAbout : pKi := (cX7_firstWordsAbout, "PartedLand$Words", 4, some .int, { frames := 0, cells := 0, slots := 0, locals := 0 }, 0, 0)
theorem gyX7_firstWordsAbout : gY yX7_firstWordsAbout kX7_firstWordsAbout 1 := ⟨gAW_at 817 (by decide +kernel) rfl, gAW_at 4 (by decide +kernel) rfl, by decide +kernel, by decide +kernel, by decide +kernel⟩
theorem giX7_firstWordsAbout : Cond.instanceMethod yX7_firstWordsAbout ∈ gAW := gAW_at 815 (by decide +kernel) rfl
theorem gsX7_firstWordsAbout : Cond.selects "PartedLand$Words" yX7_firstWordsAbout yX7_firstWordsAbout ∈ gAW := gAW_at 816 (by decide +kernel) rfl
abbrev kX8_ground : pKi := (cX8_ground, "PartedLand", 3, some .int, { frames := 1, cells := 0, slots := 0, locals := 23 }, 0, 0)
theorem gyX8_ground : gY yX8_ground kX8_ground 2 := ⟨gAW_at 348 (by decide +kernel) rfl, gAW_at 1 (by decide +kernel) rfl, by decide +kernel, by decide +kernel, by decide +kernel⟩
theorem giX8_ground : Cond.instanceMethod yX8_ground ∈ gAW := gAW_at 346 (by decide +kernel) rfl
theorem gsX8_ground : Cond.selects "PartedLand" yX8_ground yX8_ground ∈ gAW := gAW_at 347 (by decide +kernel) rfl
abbrev kX8_change : pKi := (cX8_change, "PartedLand", 8, some .int, { frames := 5, cells := 0, slots := 0, locals := 113 }, 0, 0)
theorem gyX8_change : gY yX8_change kX8_change 5 := ⟨gAW_at 356 (by decide +kernel) rfl, gAW_at 1 (by decide +kernel) rfl, by decide +kernel, by decide +kernel, by decide +kernel⟩
theorem giX8_change : Cond.instanceMethod yX8_change ∈ gAW := gAW_at 354 (by decide +kernel) rfl
theorem gsX8_change : Cond.selects "PartedLand" yX8_change yX8_change ∈ gAW := gAW_at 355 (by decide +kernel) rfl
abbrev kX8_lands : pKi := (cX8_lands, "PartedLand", 2, some .int, { frames := 1, cells := 0, slots := 0, locals := 22 }, 0, 0)
theorem gyX8_lands : gY yX8_lands kX8_lands 1 := ⟨gAW_at 425 (by decide +kernel) rfl, gAW_at 1 (by decide +kernel) rfl, by decide +kernel, by decide +kernel, by decide +kernel⟩
theorem giX8_lands : Cond.instanceMethod yX8_lands ∈ gAW := gAW_at 423 (by decide +kernel) rfl
theorem gsX8_lands : Cond.selects "PartedLand" yX8_lands yX8_lands ∈ gAW := gAW_at 424 (by decide +kernel) rfl
abbrev kX8_has : pKi := (cX8_has, "PartedLand", 3, some .int, { frames := 1, cells := 0, slots := 0, locals := 22 }, 0, 0)
theorem gyX8_has : gY yX8_has kX8_has 2 := ⟨gAW_at 433 (by decide +kernel) rfl, gAW_at 1 (by decide +kernel) rfl, by decide +kernel, by decide +kernel, by decide +kernel⟩
theorem giX8_has : Cond.instanceMethod yX8_has ∈ gAW := gAW_at 431 (by decide +kernel) rfl
theorem gsX8_has : Cond.selects "PartedLand" yX8_has yX8_has ∈ gAW := gAW_at 432 (by decide +kernel) rfl
abbrev kX8_whose : pKi := (cX8_whose, "PartedLand", 3, some .int, { frames := 2, cells := 0, slots := 0, locals := 44 }, 0, 0)
theorem gyX8_whose : gY yX8_whose kX8_whose 2 := ⟨gAW_at 438 (by decide +kernel) rfl, gAW_at 1 (by decide +kernel) rfl, by decide +kernel, by decide +kernel, by decide +kernel⟩
theorem giX8_whose : Cond.instanceMethod yX8_whose ∈ gAW := gAW_at 436 (by decide +kernel) rfl
theorem gsX8_whose : Cond.selects "PartedLand" yX8_whose yX8_whose ∈ gAW := gAW_at 437 (by decide +kernel) rfl
abbrev kX8_from : pKi := (cX8_from, "PartedLand", 3, some .int, { frames := 1, cells := 0, slots := 0, locals := 21 }, 0, 0)
theorem gyX8_from : gY yX8_from kX8_from 2 := ⟨gAW_at 450 (by decide +kernel) rfl, gAW_at 1 (by decide +kernel) rfl, by decide +kernel, by decide +kernel, by decide +kernel⟩
theorem giX8_from : Cond.instanceMethod yX8_from ∈ gAW := gAW_at 448 (by decide +kernel) rfl
theorem gsX8_from : Cond.selects "PartedLand" yX8_from yX8_from ∈ gAW := gAW_at 449 (by decide +kernel) rfl
abbrev kX8_heir : pKi := (cX8_heir, "PartedLand", 3, some .int, { frames := 3, cells := 0, slots := 0, locals := 72 }, 0, 0)
theorem gyX8_heir : gY yX8_heir kX8_heir 2 := ⟨gAW_at 454 (by decide +kernel) rfl, gAW_at 1 (by decide +kernel) rfl, by decide +kernel, by decide +kernel, by decide +kernel⟩
theorem giX8_heir : Cond.instanceMethod yX8_heir ∈ gAW := gAW_at 452 (by decide +kernel) rfl
theorem gsX8_heir : Cond.selects "PartedLand" yX8_heir yX8_heir ∈ gAW := gAW_at 453 (by decide +kernel) rfl
abbrev kX8_write : pKi := (cX8_write, "PartedLand", 4, some .int, { frames := 1, cells := 0, slots := 0, locals := 24 }, 0, 0)
theorem gyX8_write : gY yX8_write kX8_write 2 := ⟨gAW_at 471 (by decide +kernel) rfl, gAW_at 1 (by decide +kernel) rfl, by decide +kernel, by decide +kernel, by decide +kernel⟩
theorem giX8_write : Cond.instanceMethod yX8_write ∈ gAW := gAW_at 469 (by decide +kernel) rfl
theorem gsX8_write : Cond.selects "PartedLand" yX8_write yX8_write ∈ gAW := gAW_at 470 (by decide +kernel) rfl
abbrev kX8_erase : pKi := (cX8_erase, "PartedLand", 1, some .int, { frames := 1, cells := 0, slots := 0, locals := 21 }, 0, 0)
theorem gyX8_erase : gY yX8_erase kX8_erase 0 := ⟨gAW_at 479 (by decide +kernel) rfl, gAW_at 1 (by decide +kernel) rfl, by decide +kernel, by decide +kernel, by decide +kernel⟩
theorem giX8_erase : Cond.instanceMethod yX8_erase ∈ gAW := gAW_at 477 (by decide +kernel) rfl
theorem gsX8_erase : Cond.selects "PartedLand" yX8_erase yX8_erase ∈ gAW := gAW_at 478 (by decide +kernel) rfl
abbrev kX8_fault : pKi := (cX8_fault, "PartedLand", 1, some .int, { frames := 8, cells := 0, slots := 0, locals := 172 }, 0, 0)
theorem gyX8_fault : gY yX8_fault kX8_fault 0 := ⟨gAW_at 487 (by decide +kernel) rfl, gAW_at 1 (by decide +kernel) rfl, by decide +kernel, by decide +kernel, by decide +kernel⟩
theorem giX8_fault : Cond.instanceMethod yX8_fault ∈ gAW := gAW_at 485 (by decide +kernel) rfl
theorem gsX8_fault : Cond.selects "PartedLand" yX8_fault yX8_fault ∈ gAW := gAW_at 486 (by decide +kernel) rfl
abbrev kX8_rules : pKi := (cX8_rules, "PartedLand", 1, some .int, { frames := 8, cells := 0, slots := 0, locals := 172 }, 0, 0)
theorem gyX8_rules : gY yX8_rules kX8_rules 0 := ⟨gAW_at 595 (by decide +kernel) rfl, gAW_at 1 (by decide +kernel) rfl, by decide +kernel, by decide +kernel, by decide +kernel⟩
theorem giX8_rules : Cond.instanceMethod yX8_rules ∈ gAW := gAW_at 593 (by decide +kernel) rfl
theorem gsX8_rules : Cond.selects "PartedLand" yX8_rules yX8_rules ∈ gAW := gAW_at 594 (by decide +kernel) rfl
abbrev kX8_rule : pKi := (cX8_rule, "PartedLand", 2, some .int, { frames := 0, cells := 0, slots := 0, locals := 0 }, 0, 0)
theorem gyX8_rule : gY yX8_rule kX8_rule 1 := ⟨gAW_at 605 (by decide +kernel) rfl, gAW_at 1 (by decide +kernel) rfl, by decide +kernel, by decide +kernel, by decide +kernel⟩
theorem giX8_rule : Cond.instanceMethod yX8_rule ∈ gAW := gAW_at 603 (by decide +kernel) rfl
theorem gsX8_rule : Cond.selects "PartedLand" yX8_rule yX8_rule ∈ gAW := gAW_at 604 (by decide +kernel) rfl
abbrev kX8_pact : pKi := (cX8_pact, "PartedLand", 7, some .int, { frames := 2, cells := 0, slots := 0, locals := 46 }, 0, 0)
theorem gyX8_pact : gY yX8_pact kX8_pact 5 := ⟨gAW_at 609 (by decide +kernel) rfl, gAW_at 1 (by decide +kernel) rfl, by decide +kernel, by decide +kernel, by decide +kernel⟩
theorem giX8_pact : Cond.instanceMethod yX8_pact ∈ gAW := gAW_at 607 (by decide +kernel) rfl
theorem gsX8_pact : Cond.selects "PartedLand" yX8_pact yX8_pact ∈ gAW := gAW_at 608 (by decide +kernel) rfl
abbrev kX8_word : pKi := (cX8_word, "PartedLand", 6, some .int, { frames := 1, cells := 0, slots := 0, locals := 25 }, 0, 0)
theorem gyX8_word : gY yX8_word kX8_word 5 := ⟨gAW_at 623 (by decide +kernel) rfl, gAW_at 1 (by decide +kernel) rfl, by decide +kernel, by decide +kernel, by decide +kernel⟩
theorem giX8_word : Cond.instanceMethod yX8_word ∈ gAW := gAW_at 621 (by decide +kernel) rfl
theorem gsX8_word : Cond.selects "PartedLand" yX8_word yX8_word ∈ gAW := gAW_at 622 (by decide +kernel) rfl
abbrev kX8_voice : pKi := (cX8_voice, "PartedLand", 5, some .int, { frames := 1, cells := 0, slots := 0, locals := 24 }, 0, 0)
theorem gyX8_voice : gY yX8_voice kX8_voice 4 := ⟨gAW_at 635 (by decide +kernel) rfl, gAW_at 1 (by decide +kernel) rfl, by decide +kernel, by decide +kernel, by decide +kernel⟩
theorem giX8_voice : Cond.instanceMethod yX8_voice ∈ gAW := gAW_at 633 (by decide +kernel) rfl
theorem gsX8_voice : Cond.selects "PartedLand" yX8_voice yX8_voice ∈ gAW := gAW_at 634 (by decide +kernel) rfl
abbrev kX8_bound : pKi := (cX8_bound, "PartedLand", 3, some .int, { frames := 5, cells := 0, slots := 0, locals := 129 }, 0, 0)
theorem gyX8_bound : gY yX8_bound kX8_bound 2 := ⟨gAW_at 643 (by decide +kernel) rfl, gAW_at 1 (by decide +kernel) rfl, by decide +kernel, by decide +kernel, by decide +kernel⟩
theorem giX8_bound : Cond.instanceMethod yX8_bound ∈ gAW := gAW_at 641 (by decide +kernel) rfl
theorem gsX8_bound : Cond.selects "PartedLand" yX8_bound yX8_bound ∈ gAW := gAW_at 642 (by decide +kernel) rfl
abbrev kX8_since : pKi := (cX8_since, "PartedLand", 4, some .int, { frames := 5, cells := 0, slots := 0, locals := 129 }, 0, 0)
theorem gyX8_since : gY yX8_since kX8_since 2 := ⟨gAW_at 691 (by decide +kernel) rfl, gAW_at 1 (by decide +kernel) rfl, by decide +kernel, by decide +kernel, by decide +kernel⟩
theorem giX8_since : Cond.instanceMethod yX8_since ∈ gAW := gAW_at 689 (by decide +kernel) rfl
theorem gsX8_since : Cond.selects "PartedLand" yX8_since yX8_since ∈ gAW := gAW_at 690 (by decide +kernel) rfl
abbrev kX8_debt : pKi := (cX8_debt, "PartedLand", 6, some .int, { frames := 2, cells := 0, slots := 0, locals := 46 }, 0, 0)
theorem gyX8_debt : gY yX8_debt kX8_debt 4 := ⟨gAW_at 700 (by decide +kernel) rfl, gAW_at 1 (by decide +kernel) rfl, by decide +kernel, by decide +kernel, by decide +kernel⟩
theorem giX8_debt : Cond.instanceMethod yX8_debt ∈ gAW := gAW_at 698 (by decide +kernel) rfl
theorem gsX8_debt : Cond.selects "PartedLand" yX8_debt yX8_debt ∈ gAW := gAW_at 699 (by decide +kernel) rfl
abbrev kX8_owes : pKi := (cX8_owes, "PartedLand", 4, some .int, { frames := 6, cells := 0, slots := 0, locals := 149 }, 0, 0)
theorem gyX8_owes : gY yX8_owes kX8_owes 3 := ⟨gAW_at 709 (by decide +kernel) rfl, gAW_at 1 (by decide +kernel) rfl, by decide +kernel, by decide +kernel, by decide +kernel⟩
theorem giX8_owes : Cond.instanceMethod yX8_owes ∈ gAW := gAW_at 707 (by decide +kernel) rfl
theorem gsX8_owes : Cond.selects "PartedLand" yX8_owes yX8_owes ∈ gAW := gAW_at 708 (by decide +kernel) rfl
abbrev kX8_thing : pKi := (cX8_thing, "PartedLand", 4, some .int, { frames := 1, cells := 0, slots := 0, locals := 24 }, 0, 0)
theorem gyX8_thing : gY yX8_thing kX8_thing 3 := ⟨gAW_at 741 (by decide +kernel) rfl, gAW_at 1 (by decide +kernel) rfl, by decide +kernel, by decide +kernel, by decide +kernel⟩
theorem giX8_thing : Cond.instanceMethod yX8_thing ∈ gAW := gAW_at 739 (by decide +kernel) rfl
theorem gsX8_thing : Cond.selects "PartedLand" yX8_thing yX8_thing ∈ gAW := gAW_at 740 (by decide +kernel) rfl
abbrev kX8_owns : pKi := (cX8_owns, "PartedLand", 4, some .int, { frames := 6, cells := 0, slots := 0, locals := 149 }, 0, 0)
theorem gyX8_owns : gY yX8_owns kX8_owns 3 := ⟨gAW_at 749 (by decide +kernel) rfl, gAW_at 1 (by decide +kernel) rfl, by decide +kernel, by decide +kernel, by decide +kernel⟩
theorem giX8_owns : Cond.instanceMethod yX8_owns ∈ gAW := gAW_at 747 (by decide +kernel) rfl
theorem gsX8_owns : Cond.selects "PartedLand" yX8_owns yX8_owns ∈ gAW := gAW_at 748 (by decide +kernel) rfl
abbrev kX8_served : pKi := (cX8_served, "PartedLand", 4, some .int, { frames := 1, cells := 0, slots := 0, locals := 24 }, 0, 0)
theorem gyX8_served : gY yX8_served kX8_served 3 := ⟨gAW_at 769 (by decide +kernel) rfl, gAW_at 1 (by decide +kernel) rfl, by decide +kernel, by decide +kernel, by decide +kernel⟩
theorem giX8_served : Cond.instanceMethod yX8_served ∈ gAW := gAW_at 767 (by decide +kernel) rfl
theorem gsX8_served : Cond.selects "PartedLand" yX8_served yX8_served ∈ gAW := gAW_at 768 (by decide +kernel) rfl
abbrev kX8_paid : pKi := (cX8_paid, "PartedLand", 5, some .int, { frames := 3, cells := 0, slots := 0, locals := 72 }, 0, 0)
theorem gyX8_paid : gY yX8_paid kX8_paid 2 := ⟨gAW_at 777 (by decide +kernel) rfl, gAW_at 1 (by decide +kernel) rfl, by decide +kernel, by decide +kernel, by decide +kernel⟩
theorem giX8_paid : Cond.instanceMethod yX8_paid ∈ gAW := gAW_at 775 (by decide +kernel) rfl
theorem gsX8_paid : Cond.selects "PartedLand" yX8_paid yX8_paid ∈ gAW := gAW_at 776 (by decide +kernel) rfl
abbrev kX8_hangs : pKi := (cX8_hangs, "PartedLand", 3, some .int, { frames := 7, cells := 0, slots := 0, locals := 179 }, 0, 0)
theorem gyX8_hangs : gY yX8_hangs kX8_hangs 2 := ⟨gAW_at 785 (by decide +kernel) rfl, gAW_at 1 (by decide +kernel) rfl, by decide +kernel, by decide +kernel, by decide +kernel⟩
theorem giX8_hangs : Cond.instanceMethod yX8_hangs ∈ gAW := gAW_at 783 (by decide +kernel) rfl
theorem gsX8_hangs : Cond.selects "PartedLand" yX8_hangs yX8_hangs ∈ gAW := gAW_at 784 (by decide +kernel) rfl
abbrev kX8_without : pKi := (cX8_without, "PartedLand", 5, some .int, { frames := 6, cells := 0, slots := 0, locals := 156 }, 0, 0)
theorem gyX8_without : gY yX8_without kX8_without 4 := ⟨gAW_at 809 (by decide +kernel) rfl, gAW_at 1 (by decide +kernel) rfl, by decide +kernel, by decide +kernel, by decide +kernel⟩
theorem giX8_without : Cond.instanceMethod yX8_without ∈ gAW := gAW_at 807 (by decide +kernel) rfl
theorem gsX8_without : Cond.selects "PartedLand" yX8_without yX8_without ∈ gAW := gAW_at 808 (by decide +kernel) rfl
abbrev kX8_burden : pKi := (cX8_burden, "PartedLand", 4, some .int, { frames := 7, cells := 0, slots := 0, locals := 174 }, 0, 0)
theorem gyX8_burden : gY yX8_burden kX8_burden 3 := ⟨gAW_at 821 (by decide +kernel) rfl, gAW_at 1 (by decide +kernel) rfl, by decide +kernel, by decide +kernel, by decide +kernel⟩
theorem giX8_burden : Cond.instanceMethod yX8_burden ∈ gAW := gAW_at 819 (by decide +kernel) rfl
theorem gsX8_burden : Cond.selects "PartedLand" yX8_burden yX8_burden ∈ gAW := gAW_at 820 (by decide +kernel) rfl
abbrev kX8_best : pKi := (cX8_best, "PartedLand", 5, some .int, { frames := 7, cells := 0, slots := 0, locals := 174 }, 0, 0)
theorem gyX8_best : gY yX8_best kX8_best 2 := ⟨gAW_at 832 (by decide +kernel) rfl, gAW_at 1 (by decide +kernel) rfl, by decide +kernel, by decide +kernel, by decide +kernel⟩
theorem giX8_best : Cond.instanceMethod yX8_best ∈ gAW := gAW_at 830 (by decide +kernel) rfl
theorem gsX8_best : Cond.selects "PartedLand" yX8_best yX8_best ∈ gAW := gAW_at 831 (by decide +kernel) rfl
abbrev kX8_count : pKi := (cX8_count, "PartedLand", 2, some .int, { frames := 0, cells := 0, slots := 0, locals := 0 }, 0, 0)
theorem gyX8_count : gY yX8_count kX8_count 1 := ⟨gAW_at 836 (by decide +kernel) rfl, gAW_at 1 (by decide +kernel) rfl, by decide +kernel, by decide +kernel, by decide +kernel⟩
theorem giX8_count : Cond.instanceMethod yX8_count ∈ gAW := gAW_at 834 (by decide +kernel) rfl
theorem gsX8_count : Cond.selects "PartedLand" yX8_count yX8_count ∈ gAW := gAW_at 835 (by decide +kernel) rfl
abbrev kX8_mayChangeOn : pKi := (cX8_mayChangeOn, "PartedLand", 2, some .boolean, { frames := 1, cells := 0, slots := 0, locals := 20 }, 0, 0)
theorem gyX8_mayChangeOn : gY yX8_mayChangeOn kX8_mayChangeOn 1 := ⟨gAW_at 360 (by decide +kernel) rfl, gAW_at 1 (by decide +kernel) rfl, by decide +kernel, by decide +kernel, by decide +kernel⟩
theorem giX8_mayChangeOn : Cond.instanceMethod yX8_mayChangeOn ∈ gAW := gAW_at 359 (by decide +kernel) rfl
theorem gsX8_mayChangeOn : Cond.selects "PartedLand" yX8_mayChangeOn yX8_mayChangeOn ∈ gAW := gAW_sel 0 (by decide +kernel) rfl
abbrev kX8_landsThatCome : pKi := (cX8_landsThatCome, "PartedLand", 1, some .int, { frames := 0, cells := 0, slots := 0, locals := 0 }, 0, 0)
theorem gyX8_landsThatCome : gY yX8_landsThatCome kX8_landsThatCome 1 := ⟨gAW_at 385 (by decide +kernel) rfl, gAW_at 1 (by decide +kernel) rfl, by decide +kernel, by decide +kernel, by decide +kernel⟩
theorem giX8_landsThatCome : Cond.static yX8_landsThatCome ∈ gAW := gAW_at 384 (by decide +kernel) rfl
abbrev kX8_isDay : pKi := (cX8_isDay, "PartedLand", 1, some .boolean, { frames := 0, cells := 0, slots := 0, locals := 0 }, 0, 0)
theorem gyX8_isDay : gY yX8_isDay kX8_isDay 1 := ⟨gAW_at 363 (by decide +kernel) rfl, gAW_at 1 (by decide +kernel) rfl, by decide +kernel, by decide +kernel, by decide +kernel⟩
theorem giX8_isDay : Cond.static yX8_isDay ∈ gAW := gAW_at 362 (by decide +kernel) rfl
abbrev kX8_isThird : pKi := (cX8_isThird, "PartedLand", 1, some .boolean, { frames := 0, cells := 0, slots := 0, locals := 0 }, 0, 0)
theorem gyX8_isThird : gY yX8_isThird kX8_isThird 1 := ⟨gAW_at 612 (by decide +kernel) rfl, gAW_at 1 (by decide +kernel) rfl, by decide +kernel, by decide +kernel, by decide +kernel⟩
theorem giX8_isThird : Cond.static yX8_isThird ∈ gAW := gAW_at 611 (by decide +kernel) rfl
abbrev kX8_isIn : pKi := (cX8_isIn, "PartedLand", 2, some .boolean, { frames := 0, cells := 0, slots := 0, locals := 0 }, 0, 0)
theorem gyX8_isIn : gY yX8_isIn kX8_isIn 2 := ⟨gAW_at 378 (by decide +kernel) rfl, gAW_at 1 (by decide +kernel) rfl, by decide +kernel, by decide +kernel, by decide +kernel⟩
theorem giX8_isIn : Cond.static yX8_isIn ∈ gAW := gAW_at 377 (by decide +kernel) rfl
abbrev kX9_firstRules : pKi := (cX9_firstRules, "PartedLandModel", 2, none, { frames := 0, cells := 0, slots := 0, locals := 0 }, 0, 0)
theorem gyX9_firstRules : gY yX9_firstRules kX9_firstRules 1 := ⟨gAW_at 845 (by decide +kernel) rfl, gAW_at 10 (by decide +kernel) rfl, by decide +kernel, by decide +kernel, by decide +kernel⟩
theorem giX9_firstRules : Cond.static yX9_firstRules ∈ gAW := gAW_at 844 (by decide +kernel) rfl
abbrev kX9_in : pKi := (cX9_in, "PartedLandModel", 3, some .boolean, { frames := 0, cells := 0, slots := 0, locals := 0 }, 0, 0)
theorem gyX9_in : gY yX9_in kX9_in 3 := ⟨gAW_at 1033 (by decide +kernel) rfl, gAW_at 10 (by decide +kernel) rfl, by decide +kernel, by decide +kernel, by decide +kernel⟩
theorem giX9_in : Cond.static yX9_in ∈ gAW := gAW_at 1032 (by decide +kernel) rfl
abbrev kX9_isGround : pKi := (cX9_isGround, "PartedLandModel", 2, some .boolean, { frames := 1, cells := 0, slots := 0, locals := 22 }, 0, 0)
theorem gyX9_isGround : gY yX9_isGround kX9_isGround 1 := ⟨gAW_at 1084 (by decide +kernel) rfl, gAW_at 10 (by decide +kernel) rfl, by decide +kernel, by decide +kernel, by decide +kernel⟩
theorem giX9_isGround : Cond.instanceMethod yX9_isGround ∈ gAW := gAW_at 1083 (by decide +kernel) rfl
theorem gsX9_isGround : Cond.selects "PartedLandModel" yX9_isGround yX9_isGround ∈ gAW := gAW_sel 34 (by decide +kernel) rfl
abbrev kX9_isLand : pKi := (cX9_isLand, "PartedLandModel", 2, some .boolean, { frames := 1, cells := 0, slots := 0, locals := 22 }, 0, 0)
theorem gyX9_isLand : gY yX9_isLand kX9_isLand 1 := ⟨gAW_at 1076 (by decide +kernel) rfl, gAW_at 10 (by decide +kernel) rfl, by decide +kernel, by decide +kernel, by decide +kernel⟩
theorem giX9_isLand : Cond.instanceMethod yX9_isLand ∈ gAW := gAW_at 1075 (by decide +kernel) rfl
theorem gsX9_isLand : Cond.selects "PartedLandModel" yX9_isLand yX9_isLand ∈ gAW := gAW_sel 33 (by decide +kernel) rfl
abbrev kX9_isThird : pKi := (cX9_isThird, "PartedLandModel", 1, some .boolean, { frames := 1, cells := 0, slots := 0, locals := 22 }, 0, 0)
theorem gyX9_isThird : gY yX9_isThird kX9_isThird 1 := ⟨gAW_at 1172 (by decide +kernel) rfl, gAW_at 10 (by decide +kernel) rfl, by decide +kernel, by decide +kernel, by decide +kernel⟩
theorem giX9_isThird : Cond.static yX9_isThird ∈ gAW := gAW_at 1171 (by decide +kernel) rfl
abbrev kX9_isDay : pKi := (cX9_isDay, "PartedLandModel", 1, some .boolean, { frames := 1, cells := 0, slots := 0, locals := 22 }, 0, 0)
theorem gyX9_isDay : gY yX9_isDay kX9_isDay 1 := ⟨gAW_at 1040 (by decide +kernel) rfl, gAW_at 10 (by decide +kernel) rfl, by decide +kernel, by decide +kernel, by decide +kernel⟩
theorem giX9_isDay : Cond.static yX9_isDay ∈ gAW := gAW_at 1039 (by decide +kernel) rfl
abbrev kX9_ground : pKi := (cX9_ground, "PartedLandModel", 3, some .int, { frames := 1, cells := 0, slots := 0, locals := 22 }, 0, 0)
theorem gyX9_ground : gY yX9_ground kX9_ground 2 := ⟨gAW_at 1030 (by decide +kernel) rfl, gAW_at 10 (by decide +kernel) rfl, by decide +kernel, by decide +kernel, by decide +kernel⟩
theorem giX9_ground : Cond.instanceMethod yX9_ground ∈ gAW := gAW_at 1028 (by decide +kernel) rfl
theorem gsX9_ground : Cond.selects "PartedLandModel" yX9_ground yX9_ground ∈ gAW := gAW_at 1029 (by decide +kernel) rfl
abbrev kX9_groundsOf : pKi := (cX9_groundsOf, "PartedLandModel", 5, some .int, { frames := 0, cells := 0, slots := 0, locals := 0 }, 0, 0)
theorem gyX9_groundsOf : gY yX9_groundsOf kX9_groundsOf 2 := ⟨gAW_at 1056 (by decide +kernel) rfl, gAW_at 10 (by decide +kernel) rfl, by decide +kernel, by decide +kernel, by decide +kernel⟩
theorem giX9_groundsOf : Cond.instanceMethod yX9_groundsOf ∈ gAW := gAW_at 1055 (by decide +kernel) rfl
theorem gsX9_groundsOf : Cond.selects "PartedLandModel" yX9_groundsOf yX9_groundsOf ∈ gAW := gAW_sel 30 (by decide +kernel) rfl
abbrev kX9_isThere : pKi := (cX9_isThere, "PartedLandModel", 3, some .boolean, { frames := 1, cells := 0, slots := 0, locals := 22 }, 0, 0)
theorem gyX9_isThere : gY yX9_isThere kX9_isThere 2 := ⟨gAW_at 1048 (by decide +kernel) rfl, gAW_at 10 (by decide +kernel) rfl, by decide +kernel, by decide +kernel, by decide +kernel⟩
theorem giX9_isThere : Cond.instanceMethod yX9_isThere ∈ gAW := gAW_at 1047 (by decide +kernel) rfl
theorem gsX9_isThere : Cond.selects "PartedLandModel" yX9_isThere yX9_isThere ∈ gAW := gAW_sel 28 (by decide +kernel) rfl
abbrev kX9_isSome : pKi := (cX9_isSome, "PartedLandModel", 4, some .boolean, { frames := 1, cells := 0, slots := 0, locals := 24 }, 0, 0)
theorem gyX9_isSome : gY yX9_isSome kX9_isSome 2 := ⟨gAW_at 1052 (by decide +kernel) rfl, gAW_at 10 (by decide +kernel) rfl, by decide +kernel, by decide +kernel, by decide +kernel⟩
theorem giX9_isSome : Cond.instanceMethod yX9_isSome ∈ gAW := gAW_at 1051 (by decide +kernel) rfl
theorem gsX9_isSome : Cond.selects "PartedLandModel" yX9_isSome yX9_isSome ∈ gAW := gAW_sel 29 (by decide +kernel) rfl
abbrev kX9_isLate : pKi := (cX9_isLate, "PartedLandModel", 4, some .boolean, { frames := 0, cells := 0, slots := 0, locals := 0 }, 0, 0)
theorem gyX9_isLate : gY yX9_isLate kX9_isLate 1 := ⟨gAW_at 1044 (by decide +kernel) rfl, gAW_at 10 (by decide +kernel) rfl, by decide +kernel, by decide +kernel, by decide +kernel⟩
theorem giX9_isLate : Cond.instanceMethod yX9_isLate ∈ gAW := gAW_at 1043 (by decide +kernel) rfl
theorem gsX9_isLate : Cond.selects "PartedLandModel" yX9_isLate yX9_isLate ∈ gAW := gAW_sel 27 (by decide +kernel) rfl
abbrev kX9_change : pKi := (cX9_change, "PartedLandModel", 9, some .int, { frames := 2, cells := 0, slots := 0, locals := 47 }, 0, 0)
theorem gyX9_change : gY yX9_change kX9_change 5 := ⟨gAW_at 1037 (by decide +kernel) rfl, gAW_at 10 (by decide +kernel) rfl, by decide +kernel, by decide +kernel, by decide +kernel⟩
theorem giX9_change : Cond.instanceMethod yX9_change ∈ gAW := gAW_at 1035 (by decide +kernel) rfl
theorem gsX9_change : Cond.selects "PartedLandModel" yX9_change yX9_change ∈ gAW := gAW_at 1036 (by decide +kernel) rfl
abbrev kX9_doLast : pKi := (cX9_doLast, "PartedLandModel", 11, none, { frames := 0, cells := 0, slots := 0, locals := 0 }, 0, 0)
theorem gyX9_doLast : gY yX9_doLast kX9_doLast 4 := ⟨gAW_at 1060 (by decide +kernel) rfl, gAW_at 10 (by decide +kernel) rfl, by decide +kernel, by decide +kernel, by decide +kernel⟩
theorem giX9_doLast : Cond.instanceMethod yX9_doLast ∈ gAW := gAW_at 1059 (by decide +kernel) rfl
theorem gsX9_doLast : Cond.selects "PartedLandModel" yX9_doLast yX9_doLast ∈ gAW := gAW_sel 31 (by decide +kernel) rfl
abbrev kX9_doneBy : pKi := (cX9_doneBy, "PartedLandModel", 4, some .int, { frames := 0, cells := 0, slots := 0, locals := 0 }, 0, 0)
theorem gyX9_doneBy : gY yX9_doneBy kX9_doneBy 1 := ⟨gAW_at 1068 (by decide +kernel) rfl, gAW_at 10 (by decide +kernel) rfl, by decide +kernel, by decide +kernel, by decide +kernel⟩
theorem giX9_doneBy : Cond.instanceMethod yX9_doneBy ∈ gAW := gAW_at 1067 (by decide +kernel) rfl
theorem gsX9_doneBy : Cond.selects "PartedLandModel" yX9_doneBy yX9_doneBy ∈ gAW := gAW_sel 32 (by decide +kernel) rfl
abbrev kX9_lands : pKi := (cX9_lands, "PartedLandModel", 2, some .int, { frames := 2, cells := 0, slots := 0, locals := 42 }, 0, 0)
theorem gyX9_lands : gY yX9_lands kX9_lands 1 := ⟨gAW_at 1064 (by decide +kernel) rfl, gAW_at 10 (by decide +kernel) rfl, by decide +kernel, by decide +kernel, by decide +kernel⟩
theorem giX9_lands : Cond.instanceMethod yX9_lands ∈ gAW := gAW_at 1062 (by decide +kernel) rfl
theorem gsX9_lands : Cond.selects "PartedLandModel" yX9_lands yX9_lands ∈ gAW := gAW_at 1063 (by decide +kernel) rfl
abbrev kX9_has : pKi := (cX9_has, "PartedLandModel", 3, some .int, { frames := 2, cells := 0, slots := 0, locals := 43 }, 0, 0)
theorem gyX9_has : gY yX9_has kX9_has 2 := ⟨gAW_at 1072 (by decide +kernel) rfl, gAW_at 10 (by decide +kernel) rfl, by decide +kernel, by decide +kernel, by decide +kernel⟩
theorem giX9_has : Cond.instanceMethod yX9_has ∈ gAW := gAW_at 1070 (by decide +kernel) rfl
theorem gsX9_has : Cond.selects "PartedLandModel" yX9_has yX9_has ∈ gAW := gAW_at 1071 (by decide +kernel) rfl
abbrev kX9_whose : pKi := (cX9_whose, "PartedLandModel", 3, some .int, { frames := 2, cells := 0, slots := 0, locals := 43 }, 0, 0)
theorem gyX9_whose : gY yX9_whose kX9_whose 2 := ⟨gAW_at 1080 (by decide +kernel) rfl, gAW_at 10 (by decide +kernel) rfl, by decide +kernel, by decide +kernel, by decide +kernel⟩
theorem giX9_whose : Cond.instanceMethod yX9_whose ∈ gAW := gAW_at 1078 (by decide +kernel) rfl
theorem gsX9_whose : Cond.selects "PartedLandModel" yX9_whose yX9_whose ∈ gAW := gAW_at 1079 (by decide +kernel) rfl
abbrev kX9_from : pKi := (cX9_from, "PartedLandModel", 3, some .int, { frames := 2, cells := 0, slots := 0, locals := 43 }, 0, 0)
theorem gyX9_from : gY yX9_from kX9_from 2 := ⟨gAW_at 1088 (by decide +kernel) rfl, gAW_at 10 (by decide +kernel) rfl, by decide +kernel, by decide +kernel, by decide +kernel⟩
theorem giX9_from : Cond.instanceMethod yX9_from ∈ gAW := gAW_at 1086 (by decide +kernel) rfl
theorem gsX9_from : Cond.selects "PartedLandModel" yX9_from yX9_from ∈ gAW := gAW_at 1087 (by decide +kernel) rfl
abbrev kX9_headsOf : pKi := (cX9_headsOf, "PartedLandModel", 4, some .int, { frames := 0, cells := 0, slots := 0, locals := 0 }, 0, 0)
theorem gyX9_headsOf : gY yX9_headsOf kX9_headsOf 1 := ⟨gAW_at 1104 (by decide +kernel) rfl, gAW_at 10 (by decide +kernel) rfl, by decide +kernel, by decide +kernel, by decide +kernel⟩
theorem giX9_headsOf : Cond.instanceMethod yX9_headsOf ∈ gAW := gAW_at 1103 (by decide +kernel) rfl
theorem gsX9_headsOf : Cond.selects "PartedLandModel" yX9_headsOf yX9_headsOf ∈ gAW := gAW_sel 37 (by decide +kernel) rfl
abbrev kX9_worthOf : pKi := (cX9_worthOf, "PartedLandModel", 4, some .int, { frames := 0, cells := 0, slots := 0, locals := 0 }, 0, 0)
theorem gyX9_worthOf : gY yX9_worthOf kX9_worthOf 1 := ⟨gAW_at 1252 (by decide +kernel) rfl, gAW_at 10 (by decide +kernel) rfl, by decide +kernel, by decide +kernel, by decide +kernel⟩
theorem giX9_worthOf : Cond.instanceMethod yX9_worthOf ∈ gAW := gAW_at 1251 (by decide +kernel) rfl
theorem gsX9_worthOf : Cond.selects "PartedLandModel" yX9_worthOf yX9_worthOf ∈ gAW := gAW_sel 56 (by decide +kernel) rfl
abbrev kX9_comesBy : pKi := (cX9_comesBy, "PartedLandModel", 3, some .boolean, { frames := 0, cells := 0, slots := 0, locals := 0 }, 0, 0)
theorem gyX9_comesBy : gY yX9_comesBy kX9_comesBy 2 := ⟨gAW_at 1100 (by decide +kernel) rfl, gAW_at 10 (by decide +kernel) rfl, by decide +kernel, by decide +kernel, by decide +kernel⟩
theorem giX9_comesBy : Cond.instanceMethod yX9_comesBy ∈ gAW := gAW_at 1099 (by decide +kernel) rfl
theorem gsX9_comesBy : Cond.selects "PartedLandModel" yX9_comesBy yX9_comesBy ∈ gAW := gAW_sel 36 (by decide +kernel) rfl
abbrev kX9_heirOf : pKi := (cX9_heirOf, "PartedLandModel", 8, some .int, { frames := 1, cells := 0, slots := 0, locals := 24 }, 0, 0)
theorem gyX9_heirOf : gY yX9_heirOf kX9_heirOf 2 := ⟨gAW_at 1096 (by decide +kernel) rfl, gAW_at 10 (by decide +kernel) rfl, by decide +kernel, by decide +kernel, by decide +kernel⟩
theorem giX9_heirOf : Cond.instanceMethod yX9_heirOf ∈ gAW := gAW_at 1095 (by decide +kernel) rfl
theorem gsX9_heirOf : Cond.selects "PartedLandModel" yX9_heirOf yX9_heirOf ∈ gAW := gAW_sel 35 (by decide +kernel) rfl
abbrev kX9_heir : pKi := (cX9_heir, "PartedLandModel", 3, some .int, { frames := 2, cells := 0, slots := 0, locals := 51 }, 0, 0)
theorem gyX9_heir : gY yX9_heir kX9_heir 2 := ⟨gAW_at 1092 (by decide +kernel) rfl, gAW_at 10 (by decide +kernel) rfl, by decide +kernel, by decide +kernel, by decide +kernel⟩
theorem giX9_heir : Cond.instanceMethod yX9_heir ∈ gAW := gAW_at 1090 (by decide +kernel) rfl
theorem gsX9_heir : Cond.selects "PartedLandModel" yX9_heir yX9_heir ∈ gAW := gAW_at 1091 (by decide +kernel) rfl
abbrev kX9_write : pKi := (cX9_write, "PartedLandModel", 5, some .int, { frames := 1, cells := 0, slots := 0, locals := 22 }, 0, 0)
theorem gyX9_write : gY yX9_write kX9_write 2 := ⟨gAW_at 1108 (by decide +kernel) rfl, gAW_at 10 (by decide +kernel) rfl, by decide +kernel, by decide +kernel, by decide +kernel⟩
theorem giX9_write : Cond.instanceMethod yX9_write ∈ gAW := gAW_at 1106 (by decide +kernel) rfl
theorem gsX9_write : Cond.selects "PartedLandModel" yX9_write yX9_write ∈ gAW := gAW_at 1107 (by decide +kernel) rfl
abbrev kX9_erase : pKi := (cX9_erase, "PartedLandModel", 2, some .int, { frames := 0, cells := 0, slots := 0, locals := 0 }, 0, 0)
theorem gyX9_erase : gY yX9_erase kX9_erase 0 := ⟨gAW_at 1113 (by decide +kernel) rfl, gAW_at 10 (by decide +kernel) rfl, by decide +kernel, by decide +kernel, by decide +kernel⟩
theorem giX9_erase : Cond.instanceMethod yX9_erase ∈ gAW := gAW_at 1111 (by decide +kernel) rfl
theorem gsX9_erase : Cond.selects "PartedLandModel" yX9_erase yX9_erase ∈ gAW := gAW_at 1112 (by decide +kernel) rfl
abbrev kX9_nextToken : pKi := (cX9_nextToken, "PartedLandModel", 1, none, { frames := 1, cells := 0, slots := 0, locals := 22 }, 0, 0)
theorem gyX9_nextToken : gY yX9_nextToken kX9_nextToken 0 := ⟨gAW_at 1129 (by decide +kernel) rfl, gAW_at 10 (by decide +kernel) rfl, by decide +kernel, by decide +kernel, by decide +kernel⟩
theorem giX9_nextToken : Cond.instanceMethod yX9_nextToken ∈ gAW := gAW_at 1128 (by decide +kernel) rfl
theorem gsX9_nextToken : Cond.selects "PartedLandModel" yX9_nextToken yX9_nextToken ∈ gAW := gAW_sel 40 (by decide +kernel) rfl
abbrev kX9_fails : pKi := (cX9_fails, "PartedLandModel", 1, some .boolean, { frames := 0, cells := 0, slots := 0, locals := 0 }, 0, 0)
theorem gyX9_fails : gY yX9_fails kX9_fails 0 := ⟨gAW_at 1148 (by decide +kernel) rfl, gAW_at 10 (by decide +kernel) rfl, by decide +kernel, by decide +kernel, by decide +kernel⟩
theorem giX9_fails : Cond.instanceMethod yX9_fails ∈ gAW := gAW_at 1147 (by decide +kernel) rfl
theorem gsX9_fails : Cond.selects "PartedLandModel" yX9_fails yX9_fails ∈ gAW := gAW_sel 42 (by decide +kernel) rfl
abbrev kX9_isOf : pKi := (cX9_isOf, "PartedLandModel", 8, some .boolean, { frames := 2, cells := 0, slots := 0, locals := 42 }, 0, 0)
theorem gyX9_isOf : gY yX9_isOf kX9_isOf 4 := ⟨gAW_at 1144 (by decide +kernel) rfl, gAW_at 10 (by decide +kernel) rfl, by decide +kernel, by decide +kernel, by decide +kernel⟩
theorem giX9_isOf : Cond.instanceMethod yX9_isOf ∈ gAW := gAW_at 1143 (by decide +kernel) rfl
theorem gsX9_isOf : Cond.selects "PartedLandModel" yX9_isOf yX9_isOf ∈ gAW := gAW_sel 41 (by decide +kernel) rfl
abbrev kX9_isLine : pKi := (cX9_isLine, "PartedLandModel", 1, some .boolean, { frames := 3, cells := 0, slots := 0, locals := 69 }, 0, 0)
theorem gyX9_isLine : gY yX9_isLine kX9_isLine 0 := ⟨gAW_at 1125 (by decide +kernel) rfl, gAW_at 10 (by decide +kernel) rfl, by decide +kernel, by decide +kernel, by decide +kernel⟩
theorem giX9_isLine : Cond.instanceMethod yX9_isLine ∈ gAW := gAW_at 1124 (by decide +kernel) rfl
theorem gsX9_isLine : Cond.selects "PartedLandModel" yX9_isLine yX9_isLine ∈ gAW := gAW_sel 39 (by decide +kernel) rfl
abbrev kX9_isRead : pKi := (cX9_isRead, "PartedLandModel", 2, some .boolean, { frames := 4, cells := 0, slots := 0, locals := 89 }, 0, 0)
theorem gyX9_isRead : gY yX9_isRead kX9_isRead 0 := ⟨gAW_at 1121 (by decide +kernel) rfl, gAW_at 10 (by decide +kernel) rfl, by decide +kernel, by decide +kernel, by decide +kernel⟩
theorem giX9_isRead : Cond.instanceMethod yX9_isRead ∈ gAW := gAW_at 1120 (by decide +kernel) rfl
theorem gsX9_isRead : Cond.selects "PartedLandModel" yX9_isRead yX9_isRead ∈ gAW := gAW_sel 38 (by decide +kernel) rfl
abbrev kX9_fault : pKi := (cX9_fault, "PartedLandModel", 1, some .int, { frames := 5, cells := 0, slots := 0, locals := 110 }, 0, 0)
theorem gyX9_fault : gY yX9_fault kX9_fault 0 := ⟨gAW_at 1117 (by decide +kernel) rfl, gAW_at 10 (by decide +kernel) rfl, by decide +kernel, by decide +kernel, by decide +kernel⟩
theorem giX9_fault : Cond.instanceMethod yX9_fault ∈ gAW := gAW_at 1115 (by decide +kernel) rfl
theorem gsX9_fault : Cond.selects "PartedLandModel" yX9_fault yX9_fault ∈ gAW := gAW_at 1116 (by decide +kernel) rfl
abbrev kX9_rules : pKi := (cX9_rules, "PartedLandModel", 2, some .int, { frames := 5, cells := 0, slots := 0, locals := 110 }, 0, 0)
theorem gyX9_rules : gY yX9_rules kX9_rules 0 := ⟨gAW_at 1161 (by decide +kernel) rfl, gAW_at 10 (by decide +kernel) rfl, by decide +kernel, by decide +kernel, by decide +kernel⟩
theorem giX9_rules : Cond.instanceMethod yX9_rules ∈ gAW := gAW_at 1159 (by decide +kernel) rfl
theorem gsX9_rules : Cond.selects "PartedLandModel" yX9_rules yX9_rules ∈ gAW := gAW_at 1160 (by decide +kernel) rfl
abbrev kX9_rule : pKi := (cX9_rule, "PartedLandModel", 2, some .int, { frames := 1, cells := 0, slots := 0, locals := 22 }, 0, 0)
theorem gyX9_rule : gY yX9_rule kX9_rule 1 := ⟨gAW_at 1165 (by decide +kernel) rfl, gAW_at 10 (by decide +kernel) rfl, by decide +kernel, by decide +kernel, by decide +kernel⟩
theorem giX9_rule : Cond.instanceMethod yX9_rule ∈ gAW := gAW_at 1163 (by decide +kernel) rfl
theorem gsX9_rule : Cond.selects "PartedLandModel" yX9_rule yX9_rule ∈ gAW := gAW_at 1164 (by decide +kernel) rfl
abbrev kX9_pact : pKi := (cX9_pact, "PartedLandModel", 7, some .int, { frames := 2, cells := 0, slots := 0, locals := 44 }, 0, 0)
theorem gyX9_pact : gY yX9_pact kX9_pact 5 := ⟨gAW_at 1169 (by decide +kernel) rfl, gAW_at 10 (by decide +kernel) rfl, by decide +kernel, by decide +kernel, by decide +kernel⟩
theorem giX9_pact : Cond.instanceMethod yX9_pact ∈ gAW := gAW_at 1167 (by decide +kernel) rfl
theorem gsX9_pact : Cond.selects "PartedLandModel" yX9_pact yX9_pact ∈ gAW := gAW_at 1168 (by decide +kernel) rfl
abbrev kX9_isPact : pKi := (cX9_isPact, "PartedLandModel", 2, some .boolean, { frames := 1, cells := 0, slots := 0, locals := 22 }, 0, 0)
theorem gyX9_isPact : gY yX9_isPact kX9_isPact 1 := ⟨gAW_at 1180 (by decide +kernel) rfl, gAW_at 10 (by decide +kernel) rfl, by decide +kernel, by decide +kernel, by decide +kernel⟩
theorem giX9_isPact : Cond.instanceMethod yX9_isPact ∈ gAW := gAW_at 1179 (by decide +kernel) rfl
theorem gsX9_isPact : Cond.selects "PartedLandModel" yX9_isPact yX9_isPact ∈ gAW := gAW_sel 43 (by decide +kernel) rfl
abbrev kX9_word : pKi := (cX9_word, "PartedLandModel", 6, some .int, { frames := 2, cells := 0, slots := 0, locals := 43 }, 0, 0)
theorem gyX9_word : gY yX9_word kX9_word 5 := ⟨gAW_at 1176 (by decide +kernel) rfl, gAW_at 10 (by decide +kernel) rfl, by decide +kernel, by decide +kernel, by decide +kernel⟩
theorem giX9_word : Cond.instanceMethod yX9_word ∈ gAW := gAW_at 1174 (by decide +kernel) rfl
theorem gsX9_word : Cond.selects "PartedLandModel" yX9_word yX9_word ∈ gAW := gAW_at 1175 (by decide +kernel) rfl
abbrev kX9_voice : pKi := (cX9_voice, "PartedLandModel", 5, some .int, { frames := 2, cells := 0, slots := 0, locals := 43 }, 0, 0)
theorem gyX9_voice : gY yX9_voice kX9_voice 4 := ⟨gAW_at 1184 (by decide +kernel) rfl, gAW_at 10 (by decide +kernel) rfl, by decide +kernel, by decide +kernel, by decide +kernel⟩
theorem giX9_voice : Cond.instanceMethod yX9_voice ∈ gAW := gAW_at 1182 (by decide +kernel) rfl
theorem gsX9_voice : Cond.selects "PartedLandModel" yX9_voice yX9_voice ∈ gAW := gAW_at 1183 (by decide +kernel) rfl
abbrev kX9_latest : pKi := (cX9_latest, "PartedLandModel", 8, some .int, { frames := 0, cells := 0, slots := 0, locals := 0 }, 0, 0)
theorem gyX9_latest : gY yX9_latest kX9_latest 4 := ⟨gAW_at 1216 (by decide +kernel) rfl, gAW_at 10 (by decide +kernel) rfl, by decide +kernel, by decide +kernel, by decide +kernel⟩
theorem giX9_latest : Cond.instanceMethod yX9_latest ∈ gAW := gAW_at 1215 (by decide +kernel) rfl
theorem gsX9_latest : Cond.selects "PartedLandModel" yX9_latest yX9_latest ∈ gAW := gAW_sel 50 (by decide +kernel) rfl
abbrev kX9_firstYes : pKi := (cX9_firstYes, "PartedLandModel", 7, some .int, { frames := 0, cells := 0, slots := 0, locals := 0 }, 0, 0)
theorem gyX9_firstYes : gY yX9_firstYes kX9_firstYes 3 := ⟨gAW_at 1220 (by decide +kernel) rfl, gAW_at 10 (by decide +kernel) rfl, by decide +kernel, by decide +kernel, by decide +kernel⟩
theorem giX9_firstYes : Cond.instanceMethod yX9_firstYes ∈ gAW := gAW_at 1219 (by decide +kernel) rfl
theorem gsX9_firstYes : Cond.selects "PartedLandModel" yX9_firstYes yX9_firstYes ∈ gAW := gAW_sel 51 (by decide +kernel) rfl
abbrev kX9_doWordsLet : pKi := (cX9_doWordsLet, "PartedLandModel", 6, some .boolean, { frames := 1, cells := 0, slots := 0, locals := 27 }, 0, 0)
theorem gyX9_doWordsLet : gY yX9_doWordsLet kX9_doWordsLet 3 := ⟨gAW_at 1212 (by decide +kernel) rfl, gAW_at 10 (by decide +kernel) rfl, by decide +kernel, by decide +kernel, by decide +kernel⟩
theorem giX9_doWordsLet : Cond.instanceMethod yX9_doWordsLet ∈ gAW := gAW_at 1211 (by decide +kernel) rfl
theorem gsX9_doWordsLet : Cond.selects "PartedLandModel" yX9_doWordsLet yX9_doWordsLet ∈ gAW := gAW_sel 49 (by decide +kernel) rfl
abbrev kX9_isBound : pKi := (cX9_isBound, "PartedLandModel", 7, some .boolean, { frames := 2, cells := 0, slots := 0, locals := 52 }, 0, 0)
theorem gyX9_isBound : gY yX9_isBound kX9_isBound 5 := ⟨gAW_at 1208 (by decide +kernel) rfl, gAW_at 10 (by decide +kernel) rfl, by decide +kernel, by decide +kernel, by decide +kernel⟩
theorem giX9_isBound : Cond.instanceMethod yX9_isBound ∈ gAW := gAW_at 1207 (by decide +kernel) rfl
theorem gsX9_isBound : Cond.selects "PartedLandModel" yX9_isBound yX9_isBound ∈ gAW := gAW_sel 48 (by decide +kernel) rfl
abbrev kX9_byTrade : pKi := (cX9_byTrade, "PartedLandModel", 6, some .int, { frames := 3, cells := 0, slots := 0, locals := 78 }, 0, 0)
theorem gyX9_byTrade : gY yX9_byTrade kX9_byTrade 3 := ⟨gAW_at 1204 (by decide +kernel) rfl, gAW_at 10 (by decide +kernel) rfl, by decide +kernel, by decide +kernel, by decide +kernel⟩
theorem giX9_byTrade : Cond.instanceMethod yX9_byTrade ∈ gAW := gAW_at 1203 (by decide +kernel) rfl
theorem gsX9_byTrade : Cond.selects "PartedLandModel" yX9_byTrade yX9_byTrade ∈ gAW := gAW_sel 47 (by decide +kernel) rfl
abbrev kX9_isRecognized : pKi := (cX9_isRecognized, "PartedLandModel", 8, some .boolean, { frames := 0, cells := 0, slots := 0, locals := 0 }, 0, 0)
theorem gyX9_isRecognized : gY yX9_isRecognized kX9_isRecognized 2 := ⟨gAW_at 1200 (by decide +kernel) rfl, gAW_at 10 (by decide +kernel) rfl, by decide +kernel, by decide +kernel, by decide +kernel⟩
theorem giX9_isRecognized : Cond.instanceMethod yX9_isRecognized ∈ gAW := gAW_at 1199 (by decide +kernel) rfl
theorem gsX9_isRecognized : Cond.selects "PartedLandModel" yX9_isRecognized yX9_isRecognized ∈ gAW := gAW_sel 46 (by decide +kernel) rfl
abbrev kX9_byRank : pKi := (cX9_byRank, "PartedLandModel", 7, some .int, { frames := 2, cells := 0, slots := 0, locals := 44 }, 0, 0)
theorem gyX9_byRank : gY yX9_byRank kX9_byRank 3 := ⟨gAW_at 1196 (by decide +kernel) rfl, gAW_at 10 (by decide +kernel) rfl, by decide +kernel, by decide +kernel, by decide +kernel⟩
theorem giX9_byRank : Cond.instanceMethod yX9_byRank ∈ gAW := gAW_at 1195 (by decide +kernel) rfl
theorem gsX9_byRank : Cond.selects "PartedLandModel" yX9_byRank yX9_byRank ∈ gAW := gAW_sel 45 (by decide +kernel) rfl
abbrev kX9_boundOf : pKi := (cX9_boundOf, "PartedLandModel", 4, some .int, { frames := 4, cells := 0, slots := 0, locals := 103 }, 0, 0)
theorem gyX9_boundOf : gY yX9_boundOf kX9_boundOf 2 := ⟨gAW_at 1192 (by decide +kernel) rfl, gAW_at 10 (by decide +kernel) rfl, by decide +kernel, by decide +kernel, by decide +kernel⟩
theorem giX9_boundOf : Cond.instanceMethod yX9_boundOf ∈ gAW := gAW_at 1191 (by decide +kernel) rfl
theorem gsX9_boundOf : Cond.selects "PartedLandModel" yX9_boundOf yX9_boundOf ∈ gAW := gAW_sel 44 (by decide +kernel) rfl
abbrev kX9_bound : pKi := (cX9_bound, "PartedLandModel", 3, some .int, { frames := 5, cells := 0, slots := 0, locals := 126 }, 0, 0)
theorem gyX9_bound : gY yX9_bound kX9_bound 2 := ⟨gAW_at 1188 (by decide +kernel) rfl, gAW_at 10 (by decide +kernel) rfl, by decide +kernel, by decide +kernel, by decide +kernel⟩
theorem giX9_bound : Cond.instanceMethod yX9_bound ∈ gAW := gAW_at 1186 (by decide +kernel) rfl
theorem gsX9_bound : Cond.selects "PartedLandModel" yX9_bound yX9_bound ∈ gAW := gAW_at 1187 (by decide +kernel) rfl
abbrev kX9_since : pKi := (cX9_since, "PartedLandModel", 4, some .int, { frames := 5, cells := 0, slots := 0, locals := 126 }, 0, 0)
theorem gyX9_since : gY yX9_since kX9_since 2 := ⟨gAW_at 1224 (by decide +kernel) rfl, gAW_at 10 (by decide +kernel) rfl, by decide +kernel, by decide +kernel, by decide +kernel⟩
theorem giX9_since : Cond.instanceMethod yX9_since ∈ gAW := gAW_at 1222 (by decide +kernel) rfl
theorem gsX9_since : Cond.selects "PartedLandModel" yX9_since yX9_since ∈ gAW := gAW_at 1223 (by decide +kernel) rfl
abbrev kX9_debt : pKi := (cX9_debt, "PartedLandModel", 6, some .int, { frames := 2, cells := 0, slots := 0, locals := 44 }, 0, 0)
theorem gyX9_debt : gY yX9_debt kX9_debt 4 := ⟨gAW_at 1228 (by decide +kernel) rfl, gAW_at 10 (by decide +kernel) rfl, by decide +kernel, by decide +kernel, by decide +kernel⟩
theorem giX9_debt : Cond.instanceMethod yX9_debt ∈ gAW := gAW_at 1226 (by decide +kernel) rfl
theorem gsX9_debt : Cond.selects "PartedLandModel" yX9_debt yX9_debt ∈ gAW := gAW_at 1227 (by decide +kernel) rfl
abbrev kX9_keyOf : pKi := (cX9_keyOf, "PartedLandModel", 4, some .int, { frames := 1, cells := 0, slots := 0, locals := 23 }, 0, 0)
theorem gyX9_keyOf : gY yX9_keyOf kX9_keyOf 3 := ⟨gAW_at 1248 (by decide +kernel) rfl, gAW_at 10 (by decide +kernel) rfl, by decide +kernel, by decide +kernel, by decide +kernel⟩
theorem giX9_keyOf : Cond.instanceMethod yX9_keyOf ∈ gAW := gAW_at 1247 (by decide +kernel) rfl
theorem gsX9_keyOf : Cond.selects "PartedLandModel" yX9_keyOf yX9_keyOf ∈ gAW := gAW_sel 55 (by decide +kernel) rfl
abbrev kX9_shareAt : pKi := (cX9_shareAt, "PartedLandModel", 9, none, { frames := 2, cells := 0, slots := 0, locals := 46 }, 0, 0)
theorem gyX9_shareAt : gY yX9_shareAt kX9_shareAt 2 := ⟨gAW_at 1244 (by decide +kernel) rfl, gAW_at 10 (by decide +kernel) rfl, by decide +kernel, by decide +kernel, by decide +kernel⟩
theorem giX9_shareAt : Cond.instanceMethod yX9_shareAt ∈ gAW := gAW_at 1243 (by decide +kernel) rfl
theorem gsX9_shareAt : Cond.selects "PartedLandModel" yX9_shareAt yX9_shareAt ∈ gAW := gAW_sel 54 (by decide +kernel) rfl
abbrev kX9_abroadAt : pKi := (cX9_abroadAt, "PartedLandModel", 8, none, { frames := 2, cells := 0, slots := 0, locals := 46 }, 0, 0)
theorem gyX9_abroadAt : gY yX9_abroadAt kX9_abroadAt 2 := ⟨gAW_at 1268 (by decide +kernel) rfl, gAW_at 10 (by decide +kernel) rfl, by decide +kernel, by decide +kernel, by decide +kernel⟩
theorem giX9_abroadAt : Cond.instanceMethod yX9_abroadAt ∈ gAW := gAW_at 1267 (by decide +kernel) rfl
theorem gsX9_abroadAt : Cond.selects "PartedLandModel" yX9_abroadAt yX9_abroadAt ∈ gAW := gAW_sel 58 (by decide +kernel) rfl
abbrev kX9_beginPart : pKi := (cX9_beginPart, "PartedLandModel", 4, none, { frames := 0, cells := 0, slots := 0, locals := 0 }, 0, 0)
theorem gyX9_beginPart : gY yX9_beginPart kX9_beginPart 2 := ⟨gAW_at 1240 (by decide +kernel) rfl, gAW_at 10 (by decide +kernel) rfl, by decide +kernel, by decide +kernel, by decide +kernel⟩
theorem giX9_beginPart : Cond.instanceMethod yX9_beginPart ∈ gAW := gAW_at 1239 (by decide +kernel) rfl
theorem gsX9_beginPart : Cond.selects "PartedLandModel" yX9_beginPart yX9_beginPart ∈ gAW := gAW_sel 53 (by decide +kernel) rfl
abbrev kX9_owesOf : pKi := (cX9_owesOf, "PartedLandModel", 7, some .int, { frames := 3, cells := 0, slots := 0, locals := 74 }, 0, 0)
theorem gyX9_owesOf : gY yX9_owesOf kX9_owesOf 4 := ⟨gAW_at 1236 (by decide +kernel) rfl, gAW_at 10 (by decide +kernel) rfl, by decide +kernel, by decide +kernel, by decide +kernel⟩
theorem giX9_owesOf : Cond.instanceMethod yX9_owesOf ∈ gAW := gAW_at 1235 (by decide +kernel) rfl
theorem gsX9_owesOf : Cond.selects "PartedLandModel" yX9_owesOf yX9_owesOf ∈ gAW := gAW_sel 52 (by decide +kernel) rfl
abbrev kX9_owes : pKi := (cX9_owes, "PartedLandModel", 4, some .int, { frames := 4, cells := 0, slots := 0, locals := 100 }, 0, 0)
theorem gyX9_owes : gY yX9_owes kX9_owes 3 := ⟨gAW_at 1232 (by decide +kernel) rfl, gAW_at 10 (by decide +kernel) rfl, by decide +kernel, by decide +kernel, by decide +kernel⟩
theorem giX9_owes : Cond.instanceMethod yX9_owes ∈ gAW := gAW_at 1230 (by decide +kernel) rfl
theorem gsX9_owes : Cond.selects "PartedLandModel" yX9_owes yX9_owes ∈ gAW := gAW_at 1231 (by decide +kernel) rfl
abbrev kX9_thing : pKi := (cX9_thing, "PartedLandModel", 4, some .int, { frames := 2, cells := 0, slots := 0, locals := 43 }, 0, 0)
theorem gyX9_thing : gY yX9_thing kX9_thing 3 := ⟨gAW_at 1256 (by decide +kernel) rfl, gAW_at 10 (by decide +kernel) rfl, by decide +kernel, by decide +kernel, by decide +kernel⟩
theorem giX9_thing : Cond.instanceMethod yX9_thing ∈ gAW := gAW_at 1254 (by decide +kernel) rfl
theorem gsX9_thing : Cond.selects "PartedLandModel" yX9_thing yX9_thing ∈ gAW := gAW_at 1255 (by decide +kernel) rfl
abbrev kX9_ownsOf : pKi := (cX9_ownsOf, "PartedLandModel", 7, some .int, { frames := 3, cells := 0, slots := 0, locals := 74 }, 0, 0)
theorem gyX9_ownsOf : gY yX9_ownsOf kX9_ownsOf 4 := ⟨gAW_at 1264 (by decide +kernel) rfl, gAW_at 10 (by decide +kernel) rfl, by decide +kernel, by decide +kernel, by decide +kernel⟩
theorem giX9_ownsOf : Cond.instanceMethod yX9_ownsOf ∈ gAW := gAW_at 1263 (by decide +kernel) rfl
theorem gsX9_ownsOf : Cond.selects "PartedLandModel" yX9_ownsOf yX9_ownsOf ∈ gAW := gAW_sel 57 (by decide +kernel) rfl
abbrev kX9_owns : pKi := (cX9_owns, "PartedLandModel", 4, some .int, { frames := 4, cells := 0, slots := 0, locals := 100 }, 0, 0)
theorem gyX9_owns : gY yX9_owns kX9_owns 3 := ⟨gAW_at 1260 (by decide +kernel) rfl, gAW_at 10 (by decide +kernel) rfl, by decide +kernel, by decide +kernel, by decide +kernel⟩
theorem giX9_owns : Cond.instanceMethod yX9_owns ∈ gAW := gAW_at 1258 (by decide +kernel) rfl
theorem gsX9_owns : Cond.selects "PartedLandModel" yX9_owns yX9_owns ∈ gAW := gAW_at 1259 (by decide +kernel) rfl
abbrev kX9_served : pKi := (cX9_served, "PartedLandModel", 4, some .int, { frames := 2, cells := 0, slots := 0, locals := 43 }, 0, 0)
theorem gyX9_served : gY yX9_served kX9_served 3 := ⟨gAW_at 1272 (by decide +kernel) rfl, gAW_at 10 (by decide +kernel) rfl, by decide +kernel, by decide +kernel, by decide +kernel⟩
theorem giX9_served : Cond.instanceMethod yX9_served ∈ gAW := gAW_at 1270 (by decide +kernel) rfl
theorem gsX9_served : Cond.selects "PartedLandModel" yX9_served yX9_served ∈ gAW := gAW_at 1271 (by decide +kernel) rfl
abbrev kX9_paid : pKi := (cX9_paid, "PartedLandModel", 4, some .int, { frames := 2, cells := 0, slots := 0, locals := 51 }, 0, 0)
theorem gyX9_paid : gY yX9_paid kX9_paid 2 := ⟨gAW_at 1276 (by decide +kernel) rfl, gAW_at 10 (by decide +kernel) rfl, by decide +kernel, by decide +kernel, by decide +kernel⟩
theorem giX9_paid : Cond.instanceMethod yX9_paid ∈ gAW := gAW_at 1274 (by decide +kernel) rfl
theorem gsX9_paid : Cond.selects "PartedLandModel" yX9_paid yX9_paid ∈ gAW := gAW_at 1275 (by decide +kernel) rfl
abbrev kX9_bits : pKi := (cX9_bits, "PartedLandModel", 3, some .int, { frames := 0, cells := 0, slots := 0, locals := 0 }, 0, 0)
theorem gyX9_bits : gY yX9_bits kX9_bits 1 := ⟨gAW_at 1287 (by decide +kernel) rfl, gAW_at 10 (by decide +kernel) rfl, by decide +kernel, by decide +kernel, by decide +kernel⟩
theorem giX9_bits : Cond.static yX9_bits ∈ gAW := gAW_at 1286 (by decide +kernel) rfl
abbrev kX9_findBound : pKi := (cX9_findBound, "PartedLandModel", 3, none, { frames := 5, cells := 0, slots := 0, locals := 126 }, 0, 0)
theorem gyX9_findBound : gY yX9_findBound kX9_findBound 1 := ⟨gAW_at 1284 (by decide +kernel) rfl, gAW_at 10 (by decide +kernel) rfl, by decide +kernel, by decide +kernel, by decide +kernel⟩
theorem giX9_findBound : Cond.instanceMethod yX9_findBound ∈ gAW := gAW_at 1283 (by decide +kernel) rfl
theorem gsX9_findBound : Cond.selects "PartedLandModel" yX9_findBound yX9_findBound ∈ gAW := gAW_sel 59 (by decide +kernel) rfl
abbrev kX9_hangs : pKi := (cX9_hangs, "PartedLandModel", 10, some .int, { frames := 6, cells := 0, slots := 0, locals := 148 }, 0, 0)
theorem gyX9_hangs : gY yX9_hangs kX9_hangs 2 := ⟨gAW_at 1280 (by decide +kernel) rfl, gAW_at 10 (by decide +kernel) rfl, by decide +kernel, by decide +kernel, by decide +kernel⟩
theorem giX9_hangs : Cond.instanceMethod yX9_hangs ∈ gAW := gAW_at 1278 (by decide +kernel) rfl
theorem gsX9_hangs : Cond.selects "PartedLandModel" yX9_hangs yX9_hangs ∈ gAW := gAW_at 1279 (by decide +kernel) rfl
abbrev kX9_without : pKi := (cX9_without, "PartedLandModel", 9, some .int, { frames := 5, cells := 0, slots := 0, locals := 126 }, 0, 0)
theorem gyX9_without : gY yX9_without kX9_without 4 := ⟨gAW_at 1291 (by decide +kernel) rfl, gAW_at 10 (by decide +kernel) rfl, by decide +kernel, by decide +kernel, by decide +kernel⟩
theorem giX9_without : Cond.instanceMethod yX9_without ∈ gAW := gAW_at 1289 (by decide +kernel) rfl
theorem gsX9_without : Cond.selects "PartedLandModel" yX9_without yX9_without ∈ gAW := gAW_at 1290 (by decide +kernel) rfl
abbrev kX9_burdenOf : pKi := (cX9_burdenOf, "PartedLandModel", 6, some .int, { frames := 4, cells := 0, slots := 0, locals := 100 }, 0, 0)
theorem gyX9_burdenOf : gY yX9_burdenOf kX9_burdenOf 3 := ⟨gAW_at 1299 (by decide +kernel) rfl, gAW_at 10 (by decide +kernel) rfl, by decide +kernel, by decide +kernel, by decide +kernel⟩
theorem giX9_burdenOf : Cond.instanceMethod yX9_burdenOf ∈ gAW := gAW_at 1298 (by decide +kernel) rfl
theorem gsX9_burdenOf : Cond.selects "PartedLandModel" yX9_burdenOf yX9_burdenOf ∈ gAW := gAW_sel 60 (by decide +kernel) rfl
abbrev kX9_burden : pKi := (cX9_burden, "PartedLandModel", 4, some .int, { frames := 5, cells := 0, slots := 0, locals := 125 }, 0, 0)
theorem gyX9_burden : gY yX9_burden kX9_burden 3 := ⟨gAW_at 1295 (by decide +kernel) rfl, gAW_at 10 (by decide +kernel) rfl, by decide +kernel, by decide +kernel, by decide +kernel⟩
theorem giX9_burden : Cond.instanceMethod yX9_burden ∈ gAW := gAW_at 1293 (by decide +kernel) rfl
theorem gsX9_burden : Cond.selects "PartedLandModel" yX9_burden yX9_burden ∈ gAW := gAW_at 1294 (by decide +kernel) rfl
abbrev kX9_best : pKi := (cX9_best, "PartedLandModel", 5, some .int, { frames := 5, cells := 0, slots := 0, locals := 125 }, 0, 0)
theorem gyX9_best : gY yX9_best kX9_best 2 := ⟨gAW_at 1304 (by decide +kernel) rfl, gAW_at 10 (by decide +kernel) rfl, by decide +kernel, by decide +kernel, by decide +kernel⟩
theorem giX9_best : Cond.instanceMethod yX9_best ∈ gAW := gAW_at 1302 (by decide +kernel) rfl
theorem gsX9_best : Cond.selects "PartedLandModel" yX9_best yX9_best ∈ gAW := gAW_at 1303 (by decide +kernel) rfl
abbrev kX9_count : pKi := (cX9_count, "PartedLandModel", 2, some .int, { frames := 0, cells := 0, slots := 0, locals := 0 }, 0, 0)
theorem gyX9_count : gY yX9_count kX9_count 1 := ⟨gAW_at 1308 (by decide +kernel) rfl, gAW_at 10 (by decide +kernel) rfl, by decide +kernel, by decide +kernel, by decide +kernel⟩
theorem giX9_count : Cond.instanceMethod yX9_count ∈ gAW := gAW_at 1306 (by decide +kernel) rfl
theorem gsX9_count : Cond.selects "PartedLandModel" yX9_count yX9_count ∈ gAW := gAW_at 1307 (by decide +kernel) rfl
abbrev kJ7_fill_53178 : pKi := (cJ7_fill_53178, "java/util/Arrays", 4, none, { frames := 0, cells := 0, slots := 0, locals := 0 }, 0, 0)
theorem gyJ7_fill_53178 : gY yJ7_fill_53178 kJ7_fill_53178 2 := ⟨gAW_at 494 (by decide +kernel) rfl, gAW_at 12 (by decide +kernel) rfl, by decide +kernel, by decide +kernel, by decide +kernel⟩
theorem giJ7_fill_53178 : Cond.static yJ7_fill_53178 ∈ gAW := gAW_at 493 (by decide +kernel) rfl
abbrev kJ6_bitCount_0f7a4 : pKi := (cJ6_bitCount_0f7a4, "java/lang/Integer", 1, some .int, { frames := 0, cells := 0, slots := 0, locals := 0 }, 0, 0)
theorem gyJ6_bitCount_0f7a4 : gY yJ6_bitCount_0f7a4 kJ6_bitCount_0f7a4 1 := ⟨gAW_at 793 (by decide +kernel) rfl, gAW_at 18 (by decide +kernel) rfl, by decide +kernel, by decide +kernel, by decide +kernel⟩
theorem giJ6_bitCount_0f7a4 : Cond.static yJ6_bitCount_0f7a4 ∈ gAW := gAW_at 792 (by decide +kernel) rfl
