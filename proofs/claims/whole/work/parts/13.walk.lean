/-! walks (printed) -/
theorem wX2_nextHeir_b75 (E : pEv) (z : Int32) (t0 : Int32) (m : pMem) (hf : sX2_nextHeir_b75 t0 m = some z) : gM E kX2_nextHeir (z, m) 75 [] [.int t0] m := by
  unfold sX2_nextHeir_b75 at hf
  exact g_ret dX2_nextHeir_75 rfl rfl (by rw [Option.some.inj hf])
theorem wX2_nextHeir_b0 (E : pEv) (z : Int32) (a1 : Int32) (m : pMem) (hf : sX2_nextHeir a1 m = some z) : gM E kX2_nextHeir (z, m) 0 [(0, .ref (eA E 3)), (1, .int a1)] [] m := by
  unfold sX2_nextHeir at hf
  refine g_aload_n (q := 0) dX2_nextHeir_0 rfl rfl ?_
  refine g_get dX2_nextHeir_1 fX2_28 (obX2 E m) (gvX2_5 E m) ?_
  refine g_iload_n (q := 1) dX2_nextHeir_4 rfl rfl ?_
  obtain ⟨h1, hf⟩ := gd_ hf
  refine g_iald dX2_nextHeir_5 ar_23 h1 ?_
  refine nmI hf (fun x2 hf => ?_)
  refine g_istore_n dX2_nextHeir_6 rfl (Nat.le_of_ble_eq_true rfl) rfl ?_
  refine g_iload_n (q := 0) dX2_nextHeir_7 rfl rfl ?_
  refine g_if_ge (tgt := 13) dX2_nextHeir_8 (by decide) (fun c3 => ?_) (fun c3 => ?_)
  · have hf := it_ hf c3
    refine g_aload_n (q := 1) dX2_nextHeir_13 rfl rfl ?_
    refine g_get dX2_nextHeir_14 fX2_34 (obX2 E m) (gvX2_7 E m) ?_
    refine g_iload_n (q := 0) dX2_nextHeir_17 rfl rfl ?_
    obtain ⟨h4, hf⟩ := gd_ hf
    refine g_iald dX2_nextHeir_18 ar_24 h4 ?_
    refine g_iconst (v := 2) dX2_nextHeir_19 kI_2 ?_
    refine g_icmp_ne (tgt := 30) dX2_nextHeir_20 (by decide) (fun c5 => ?_) (fun c5 => ?_)
    · have hf := it_ hf c5
      refine g_aload_n (q := 1) dX2_nextHeir_30 rfl rfl ?_
      refine g_get dX2_nextHeir_31 fX2_46 (obX2 E m) (gvX2_11 E m) ?_
      refine g_iload_n (q := 0) dX2_nextHeir_34 rfl rfl ?_
      obtain ⟨h6, hf⟩ := gd_ hf
      refine g_iald dX2_nextHeir_35 ar_28 h6 ?_
      refine nmI hf (fun x7 hf => ?_)
      refine g_istore_n dX2_nextHeir_36 rfl (Nat.le_of_ble_eq_true rfl) rfl ?_
      refine g_aload_n (q := 2) dX2_nextHeir_37 rfl rfl ?_
      refine g_aload_n (q := 2) dX2_nextHeir_38 rfl rfl ?_
      refine g_get dX2_nextHeir_39 fX2_9 (obX2 E m) (gvX2_0 E m) ?_
      refine g_aload_n (q := 2) dX2_nextHeir_42 rfl rfl ?_
      refine g_get dX2_nextHeir_43 fX2_49 (obX2 E m) (gvX2_12 E m) ?_
      refine g_iload_n (q := 1) dX2_nextHeir_46 rfl rfl ?_
      obtain ⟨h8, hf⟩ := gd_ hf
      refine g_iald dX2_nextHeir_47 ar_106 h8 ?_
      obtain ⟨r9, q10, hf⟩ := cbR_ hf
      refine g_cV (As := [.ref (eA E 19), .int (m.1 106 x2.toNatClampNeg)]) dX2_nextHeir_48 (tX2_sumOf E m 19 (m.1 106 x2.toNatClampNeg) ar_19 q10) gyX2_sumOf giX2_sumOf gsX2_sumOf mX2_112 (⟨rfl, rfl, Nat.le_of_ble_eq_true rfl, Nat.le_of_ble_eq_true rfl, Nat.le_of_ble_eq_true rfl, Nat.le_of_ble_eq_true rfl⟩) rfl (obX2 E m) rfl rfl rfl (Nat.le_of_ble_eq_true rfl) ?_
      refine g_aload_n (q := 2) dX2_nextHeir_51 rfl rfl ?_
      refine g_aload_n (q := 2) dX2_nextHeir_52 rfl rfl ?_
      refine g_get dX2_nextHeir_53 fX2_9 (obX2 E m) (gvX2_0 E m) ?_
      refine g_aload_n (q := 2) dX2_nextHeir_56 rfl rfl ?_
      refine g_get dX2_nextHeir_57 fX2_52 (obX2 E m) (gvX2_13 E m) ?_
      refine g_iload_n (q := 1) dX2_nextHeir_60 rfl rfl ?_
      obtain ⟨h11, hf⟩ := gd_ hf
      refine g_iald dX2_nextHeir_61 ar_107 h11 ?_
      obtain ⟨r12, q13, hf⟩ := cbR_ hf
      refine g_cV (As := [.ref (eA E 19), .int (m.1 107 x2.toNatClampNeg)]) dX2_nextHeir_62 (tX2_sumOf E m 19 (m.1 107 x2.toNatClampNeg) ar_19 q13) gyX2_sumOf giX2_sumOf gsX2_sumOf mX2_112 (⟨rfl, rfl, Nat.le_of_ble_eq_true rfl, Nat.le_of_ble_eq_true rfl, Nat.le_of_ble_eq_true rfl, Nat.le_of_ble_eq_true rfl⟩) rfl (obX2 E m) rfl rfl rfl (Nat.le_of_ble_eq_true rfl) ?_
      refine g_icmp_lt (tgt := 72) dX2_nextHeir_65 (by decide) (fun c14 => ?_) (fun c14 => ?_)
      · have hf := it_ hf c14
        refine g_iload_n (q := 0) dX2_nextHeir_72 rfl rfl ?_
        refine g_iconst (v := 1) dX2_nextHeir_73 kI_1 ?_
        refine g_iadd dX2_nextHeir_74 ?_
        refine g_lv [] rfl ?_
        exact wX2_nextHeir_b75 E z  (x7 + (1 : Int32)) m hf
      · have hf := ie_ hf c14
        refine g_iload_n (q := 0) dX2_nextHeir_68 rfl rfl ?_
        refine g_goto (tgt := 75) dX2_nextHeir_69 (by decide) ?_
        refine g_lv [] rfl ?_
        exact wX2_nextHeir_b75 E z  x7 m hf
    · have hf := ie_ hf (not_not_intro c5)
      refine g_aload_n (q := 1) dX2_nextHeir_23 rfl rfl ?_
      refine g_get dX2_nextHeir_24 fX2_40 (obX2 E m) (gvX2_9 E m) ?_
      refine g_iload_n (q := 0) dX2_nextHeir_27 rfl rfl ?_
      obtain ⟨h15, hf⟩ := gd_ hf
      refine g_iald dX2_nextHeir_28 ar_26 h15 ?_
      exact g_ret dX2_nextHeir_29 rfl rfl (by rw [Option.some.inj hf])
  · have hf := ie_ hf c3
    refine g_iload_n (q := 2) dX2_nextHeir_11 rfl rfl ?_
    exact g_ret dX2_nextHeir_12 rfl rfl (by rw [Option.some.inj hf])
theorem tX2_nextHeir (E : pEv) (m : pMem) (a1 : Int32) {z : Int32} (hf : sX2_nextHeir a1 m = some z) : gCn E yX2_nextHeir kX2_nextHeir [.ref (eA E 3), .int a1] m (z, m) := gCn_of (by decide +kernel) rfl rfl rfl (Nat.le_of_ble_eq_true rfl) rfl (wX2_nextHeir_b0 E z a1 m  hf)
theorem wX2_heirOf_b58 (E : pEv) (z : Int32) (l4 : Int32) (m : pMem) (hf : sX2_heirOf_b58 l4 m = some z) : gM E kX2_heirOf (z, m) 58 [(4, .int l4)] [] m := by
  unfold sX2_heirOf_b58 at hf
  refine g_iload (q := 0) dX2_heirOf_58 rfl ?_
  exact g_ret dX2_heirOf_60 rfl rfl (by rw [Option.some.inj hf])
theorem wX2_heirOf_b24 (E : pEv) (z : Int32) (k24 : Int32 → Int32 → Int32 → pMem → (Option Int32)) (ih24 : ∀ (l3 : Int32) (l4 : Int32) (l5 : Int32)  (m : pMem), k24 l3 l4 l5 m = some z → gM E kX2_heirOf (z, m) 24 [(0, .ref (eA E 3)), (3, .int l3), (4, .int l4), (5, .int l5)] [] m) (l3 : Int32) (l4 : Int32) (l5 : Int32) (m : pMem) (hf : sX2_heirOf_b24 k24 l3 l4 l5 m = some z) : gM E kX2_heirOf (z, m) 24 [(0, .ref (eA E 3)), (3, .int l3), (4, .int l4), (5, .int l5)] [] m := by
  unfold sX2_heirOf_b24 at hf
  refine g_iload (q := 3) dX2_heirOf_24 rfl ?_
  refine g_iload_n (q := 1) dX2_heirOf_26 rfl rfl ?_
  refine g_icmp_ge (tgt := 58) dX2_heirOf_27 (by decide) (fun c5 => ?_) (fun c5 => ?_)
  · have hf := it_ hf c5
    refine g_lv [2] rfl ?_
    exact wX2_heirOf_b58 E z  l4 m hf
  · have hf := ie_ hf c5
    refine g_aload_n (q := 0) dX2_heirOf_30 rfl rfl ?_
    refine g_get dX2_heirOf_31 fX2_63 (obX2 E m) (gvX2_16 E m) ?_
    refine g_iload_n (q := 1) dX2_heirOf_34 rfl rfl ?_
    obtain ⟨h6, hf⟩ := gd_ hf
    refine g_iald dX2_heirOf_35 ar_43 h6 ?_
    refine g_iload (q := 2) dX2_heirOf_36 rfl ?_
    obtain ⟨r7, q8, hf⟩ := cbR_ hf
    refine g_cSN (As := [.int (m.1 43 l3.toNatClampNeg), .int l4]) dX2_heirOf_38 (tX8_isIn E m (m.1 43 l3.toNatClampNeg) l4 q8) gyX8_isIn giX8_isIn nX2_70 (⟨rfl, rfl, Nat.le_of_ble_eq_true rfl, Nat.le_of_ble_eq_true rfl, Nat.le_of_ble_eq_true rfl, Nat.le_of_ble_eq_true rfl⟩) rfl rfl rfl (Nat.le_of_ble_eq_true rfl) ?_
    refine g_if_ne (tgt := 58) dX2_heirOf_41 (by decide) (fun c9 => ?_) (fun c9 => ?_)
    · have hf := it_ hf c9
      refine g_lv [2] rfl ?_
      exact wX2_heirOf_b58 E z  l4 m hf
    · have hf := ie_ hf (not_not_intro c9)
      refine g_aload_n (q := 0) dX2_heirOf_44 rfl rfl ?_
      refine g_iload (q := 2) dX2_heirOf_45 rfl ?_
      obtain ⟨r10, q11, hf⟩ := cbR_ hf
      refine g_cV (As := [.int l4]) dX2_heirOf_47 (tX2_nextHeir E m l4 q11) gyX2_nextHeir giX2_nextHeir gsX2_nextHeir mX2_109 (⟨rfl, rfl, Nat.le_of_ble_eq_true rfl, Nat.le_of_ble_eq_true rfl, Nat.le_of_ble_eq_true rfl, Nat.le_of_ble_eq_true rfl⟩) rfl (obX2 E m) rfl rfl rfl (Nat.le_of_ble_eq_true rfl) ?_
      refine g_istore dX2_heirOf_50 (Nat.le_of_ble_eq_true rfl) rfl ?_
      refine g_iinc (q := 3) (v := l5 + 1) dX2_heirOf_52 rfl (by rw [kI_1]) (Nat.le_of_ble_eq_true rfl) rfl ?_
      refine g_goto (tgt := 24) dX2_heirOf_55 (by decide) ?_
      refine g_lv [2, 3, 1, 0] rfl ?_
      exact ih24 l3 r10 (l5 + 1) m hf
theorem wX2_heirOf_l24 (E : pEv) (z : Int32) : ∀ (n : Nat) (l3 : Int32) (l4 : Int32) (l5 : Int32) (m : pMem), sX2_heirOf_l24 n l3 l4 l5 m = some z → gM E kX2_heirOf (z, m) 24 [(0, .ref (eA E 3)), (3, .int l3), (4, .int l4), (5, .int l5)] [] m := by
  intro n
  induction n with
  | zero => intro l3 l4 l5 m  hf; cases (show (none : Option _) = some z from hf)
  | succ n ih => intro l3 l4 l5 m  hf; exact wX2_heirOf_b24 E z  _  ih l3 l4 l5 m  hf
theorem wX2_heirOf_b0 (E : pEv) (z : Int32) (a1 : Int32) (a2 : Int32) (m : pMem) (hf : sX2_heirOf a1 a2 m = some z) : gM E kX2_heirOf (z, m) 0 [(0, .ref (eA E 3)), (1, .int a1), (2, .int a2)] [] m := by
  unfold sX2_heirOf at hf
  refine g_aload_n (q := 0) dX2_heirOf_0 rfl rfl ?_
  refine g_get dX2_heirOf_1 fX2_25 (obX2 E m) (gvX2_4 E m) ?_
  refine g_iload_n (q := 1) dX2_heirOf_4 rfl rfl ?_
  obtain ⟨h1, hf⟩ := gd_ hf
  refine g_iald dX2_heirOf_5 ar_22 h1 ?_
  refine g_iload_n (q := 2) dX2_heirOf_6 rfl rfl ?_
  refine g_icmp_le (tgt := 12) dX2_heirOf_7 (by decide) (fun c2 => ?_) (fun c2 => ?_)
  · have hf := it_ hf c2
    refine g_aload_n (q := 0) dX2_heirOf_12 rfl rfl ?_
    refine g_iload_n (q := 2) dX2_heirOf_13 rfl rfl ?_
    obtain ⟨r3, q4, hf⟩ := cbR_ hf
    refine g_cV (As := [.int a2]) dX2_heirOf_14 (tX2_changesBy E m a2 q4) gyX2_changesBy giX2_changesBy gsX2_changesBy mX2_105 (⟨rfl, rfl, Nat.le_of_ble_eq_true rfl, Nat.le_of_ble_eq_true rfl, Nat.le_of_ble_eq_true rfl, Nat.le_of_ble_eq_true rfl⟩) rfl (obX2 E m) rfl rfl rfl (Nat.le_of_ble_eq_true rfl) ?_
    refine g_istore_n dX2_heirOf_17 rfl (Nat.le_of_ble_eq_true rfl) rfl ?_
    refine g_iload_n (q := 2) dX2_heirOf_18 rfl rfl ?_
    refine g_istore dX2_heirOf_19 (Nat.le_of_ble_eq_true rfl) rfl ?_
    refine g_iconst (v := 0) dX2_heirOf_21 kI_0 ?_
    refine g_istore dX2_heirOf_22 (Nat.le_of_ble_eq_true rfl) rfl ?_
    refine g_lv [3, 2, 1, 0] rfl ?_
    exact wX2_heirOf_l24 E z  5000 r3 a1 0 m hf
  · have hf := ie_ hf c2
    refine g_iconst (v := (-1)) dX2_heirOf_10 kI_m1 ?_
    exact g_ret dX2_heirOf_11 rfl rfl (by rw [Option.some.inj hf])
theorem tX2_heirOf (E : pEv) (m : pMem) (a1 : Int32) (a2 : Int32) {z : Int32} (hf : sX2_heirOf a1 a2 m = some z) : gCn E yX2_heirOf kX2_heirOf [.ref (eA E 3), .int a1, .int a2] m (z, m) := gCn_of (by decide +kernel) rfl rfl rfl (Nat.le_of_ble_eq_true rfl) rfl (wX2_heirOf_b0 E z a1 a2 m  hf)
theorem wX8_heir_b0 (E : pEv) (z : Int32) (a1 : Int32) (a2 : Int32) (m : pMem) (hf : sX8_heir a1 a2 m = some z) : gM E kX8_heir (z, m) 0 [(0, .ref (eA E 0)), (1, .int a1), (2, .int a2)] [] m := by
  unfold sX8_heir at hf
  refine g_aload_n (q := 0) dX8_heir_0 rfl rfl ?_
  refine g_get dX8_heir_1 fX8_10 (obX8 E m) (gvX8_0 E m) ?_
  refine g_iload_n (q := 1) dX8_heir_4 rfl rfl ?_
  obtain ⟨r1, q2, hf⟩ := cbR_ hf
  refine g_cV (As := [.int a1]) dX8_heir_5 (tX2_knowsLand E m a1 q2) gyX2_knowsLand giX2_knowsLand gsX2_knowsLand mX8_119 (⟨rfl, rfl, Nat.le_of_ble_eq_true rfl, Nat.le_of_ble_eq_true rfl, Nat.le_of_ble_eq_true rfl, Nat.le_of_ble_eq_true rfl⟩) rfl (obX2 E m) rfl rfl rfl (Nat.le_of_ble_eq_true rfl) ?_
  refine g_if_ne (tgt := 14) dX8_heir_8 (by decide) (fun c3 => ?_) (fun c3 => ?_)
  · have hf := it_ hf c3
    refine g_iload_n (q := 2) dX8_heir_14 rfl rfl ?_
    obtain ⟨r4, q5, hf⟩ := cbR_ hf
    refine g_cS (As := [.int a2]) dX8_heir_15 (tX8_isDay E m a2 q5) gyX8_isDay giX8_isDay mX8_110 (⟨rfl, rfl, Nat.le_of_ble_eq_true rfl, Nat.le_of_ble_eq_true rfl, Nat.le_of_ble_eq_true rfl, Nat.le_of_ble_eq_true rfl⟩) rfl rfl rfl (Nat.le_of_ble_eq_true rfl) ?_
    refine g_if_ne (tgt := 24) dX8_heir_18 (by decide) (fun c6 => ?_) (fun c6 => ?_)
    · have hf := it_ hf c6
      refine g_aload_n (q := 0) dX8_heir_24 rfl rfl ?_
      refine g_get dX8_heir_25 fX8_10 (obX8 E m) (gvX8_0 E m) ?_
      refine g_iload_n (q := 1) dX8_heir_28 rfl rfl ?_
      refine g_iload_n (q := 2) dX8_heir_29 rfl rfl ?_
      obtain ⟨r7, q8, hf⟩ := cbR_ hf
      refine g_cV (As := [.int a1, .int a2]) dX8_heir_30 (tX2_heirOf E m a1 a2 q8) gyX2_heirOf giX2_heirOf gsX2_heirOf mX8_135 (⟨rfl, rfl, Nat.le_of_ble_eq_true rfl, Nat.le_of_ble_eq_true rfl, Nat.le_of_ble_eq_true rfl, Nat.le_of_ble_eq_true rfl⟩) rfl (obX2 E m) rfl rfl rfl (Nat.le_of_ble_eq_true rfl) ?_
      exact g_ret dX8_heir_33 rfl rfl (by rw [Option.some.inj hf])
    · have hf := ie_ hf (not_not_intro c6)
      refine g_bipush (v := (-3)) dX8_heir_21 kB_m3 ?_
      exact g_ret dX8_heir_23 rfl rfl (by rw [Option.some.inj hf])
  · have hf := ie_ hf (not_not_intro c3)
    refine g_bipush (v := (-2)) dX8_heir_11 kB_m2 ?_
    exact g_ret dX8_heir_13 rfl rfl (by rw [Option.some.inj hf])
theorem tX8_heir (E : pEv) (m : pMem) (a1 : Int32) (a2 : Int32) {z : Int32} (hf : sX8_heir a1 a2 m = some z) : gCn E yX8_heir kX8_heir [.ref (eA E 0), .int a1, .int a2] m (z, m) := gCn_of (by decide +kernel) rfl rfl rfl (Nat.le_of_ble_eq_true rfl) rfl (wX8_heir_b0 E z a1 a2 m  hf)
theorem wX8_isThird_b15 (E : pEv) (z : Int32) (t0 : Int32) (m : pMem) (hf : sX8_isThird_b15 t0 m = some z) : gM E kX8_isThird (z, m) 15 [] [.int t0] m := by
  unfold sX8_isThird_b15 at hf
  exact g_retz dX8_isThird_15 rfl (by rw [Option.some.inj hf])
theorem wX8_isThird_b14 (E : pEv) (z : Int32) (m : pMem) (hf : sX8_isThird_b14  m = some z) : gM E kX8_isThird (z, m) 14 [] [] m := by
  unfold sX8_isThird_b14 at hf
  refine g_iconst (v := 0) dX8_isThird_14 kI_0 ?_
  exact wX8_isThird_b15 E z  0 m hf
theorem wX8_isThird_b0 (E : pEv) (z : Int32) (a1 : Int32) (m : pMem) (hf : sX8_isThird a1 m = some z) : gM E kX8_isThird (z, m) 0 [(0, .int a1)] [] m := by
  unfold sX8_isThird at hf
  refine g_iload_n (q := 0) dX8_isThird_0 rfl rfl ?_
  refine g_if_lt (tgt := 14) dX8_isThird_1 (by decide) (fun c1 => ?_) (fun c1 => ?_)
  · have hf := it_ hf c1
    refine g_lv [] rfl ?_
    exact wX8_isThird_b14 E z  m hf
  · have hf := ie_ hf c1
    refine g_iload_n (q := 0) dX8_isThird_4 rfl rfl ?_
    refine g_bipush (v := 6) dX8_isThird_5 kB_6 ?_
    refine g_icmp_ge (tgt := 14) dX8_isThird_7 (by decide) (fun c2 => ?_) (fun c2 => ?_)
    · have hf := it_ hf c2
      refine g_lv [] rfl ?_
      exact wX8_isThird_b14 E z  m hf
    · have hf := ie_ hf c2
      refine g_iconst (v := 1) dX8_isThird_10 kI_1 ?_
      refine g_goto (tgt := 15) dX8_isThird_11 (by decide) ?_
      refine g_lv [] rfl ?_
      exact wX8_isThird_b15 E z  1 m hf
theorem tX8_isThird (E : pEv) (m : pMem) (a1 : Int32) {z : Int32} (hf : sX8_isThird a1 m = some z) : gCn E yX8_isThird kX8_isThird [.int a1] m (z, m) := gCn_of (by decide +kernel) rfl rfl rfl (Nat.le_of_ble_eq_true rfl) rfl (wX8_isThird_b0 E z a1 m  hf)
theorem wX8_lands_b0 (E : pEv) (z : Int32) (a1 : Int32) (m : pMem) (hf : sX8_lands a1 m = some z) : gM E kX8_lands (z, m) 0 [(0, .ref (eA E 0)), (1, .int a1)] [] m := by
  unfold sX8_lands at hf
  refine g_iload_n (q := 1) dX8_lands_0 rfl rfl ?_
  obtain ⟨r1, q2, hf⟩ := cbR_ hf
  refine g_cS (As := [.int a1]) dX8_lands_1 (tX8_isDay E m a1 q2) gyX8_isDay giX8_isDay mX8_110 (⟨rfl, rfl, Nat.le_of_ble_eq_true rfl, Nat.le_of_ble_eq_true rfl, Nat.le_of_ble_eq_true rfl, Nat.le_of_ble_eq_true rfl⟩) rfl rfl rfl (Nat.le_of_ble_eq_true rfl) ?_
  refine g_if_ne (tgt := 10) dX8_lands_4 (by decide) (fun c3 => ?_) (fun c3 => ?_)
  · have hf := it_ hf c3
    refine g_aload_n (q := 0) dX8_lands_10 rfl rfl ?_
    refine g_get dX8_lands_11 fX8_10 (obX8 E m) (gvX8_0 E m) ?_
    refine g_get dX8_lands_14 fX8_113 (obX2 E m) (gvX2_16 E m) ?_
    refine g_aload_n (q := 0) dX8_lands_17 rfl rfl ?_
    refine g_get dX8_lands_18 fX8_10 (obX8 E m) (gvX8_0 E m) ?_
    refine g_iload_n (q := 1) dX8_lands_21 rfl rfl ?_
    obtain ⟨r4, q5, hf⟩ := cbR_ hf
    refine g_cV (As := [.int a1]) dX8_lands_22 (tX2_changesBy E m a1 q5) gyX2_changesBy giX2_changesBy gsX2_changesBy mX8_116 (⟨rfl, rfl, Nat.le_of_ble_eq_true rfl, Nat.le_of_ble_eq_true rfl, Nat.le_of_ble_eq_true rfl, Nat.le_of_ble_eq_true rfl⟩) rfl (obX2 E m) rfl rfl rfl (Nat.le_of_ble_eq_true rfl) ?_
    obtain ⟨h6, hf⟩ := gd_ hf
    refine g_iald dX8_lands_25 ar_43 h6 ?_
    exact g_ret dX8_lands_26 rfl rfl (by rw [Option.some.inj hf])
  · have hf := ie_ hf (not_not_intro c3)
    refine g_bipush (v := (-3)) dX8_lands_7 kB_m3 ?_
    exact g_ret dX8_lands_9 rfl rfl (by rw [Option.some.inj hf])
theorem tX8_lands (E : pEv) (m : pMem) (a1 : Int32) {z : Int32} (hf : sX8_lands a1 m = some z) : gCn E yX8_lands kX8_lands [.ref (eA E 0), .int a1] m (z, m) := gCn_of (by decide +kernel) rfl rfl rfl (Nat.le_of_ble_eq_true rfl) rfl (wX8_lands_b0 E z a1 m  hf)
theorem wX1_knowsDebt_b17 (E : pEv) (z : Int32) (t0 : Int32) (m : pMem) (hf : sX1_knowsDebt_b17 t0 m = some z) : gM E kX1_knowsDebt (z, m) 17 [] [.int t0] m := by
  unfold sX1_knowsDebt_b17 at hf
  exact g_retz dX1_knowsDebt_17 rfl (by rw [Option.some.inj hf])
theorem wX1_knowsDebt_b16 (E : pEv) (z : Int32) (m : pMem) (hf : sX1_knowsDebt_b16  m = some z) : gM E kX1_knowsDebt (z, m) 16 [] [] m := by
  unfold sX1_knowsDebt_b16 at hf
  refine g_iconst (v := 0) dX1_knowsDebt_16 kI_0 ?_
  exact wX1_knowsDebt_b17 E z  0 m hf
theorem wX1_knowsDebt_b0 (E : pEv) (z : Int32) (a1 : Int32) (m : pMem) (hf : sX1_knowsDebt a1 m = some z) : gM E kX1_knowsDebt (z, m) 0 [(0, .ref (eA E 2)), (1, .int a1)] [] m := by
  unfold sX1_knowsDebt at hf
  refine g_iload_n (q := 1) dX1_knowsDebt_0 rfl rfl ?_
  refine g_if_lt (tgt := 16) dX1_knowsDebt_1 (by decide) (fun c1 => ?_) (fun c1 => ?_)
  · have hf := it_ hf c1
    refine g_lv [] rfl ?_
    exact wX1_knowsDebt_b16 E z  m hf
  · have hf := ie_ hf c1
    refine g_iload_n (q := 1) dX1_knowsDebt_4 rfl rfl ?_
    refine g_aload_n (q := 0) dX1_knowsDebt_5 rfl rfl ?_
    refine g_get dX1_knowsDebt_6 fX1_24 (obX1 E m) (gvX1_5 E m) ?_
    refine g_icmp_ge (tgt := 16) dX1_knowsDebt_9 (by decide) (fun c2 => ?_) (fun c2 => ?_)
    · have hf := it_ hf c2
      refine g_lv [] rfl ?_
      exact wX1_knowsDebt_b16 E z  m hf
    · have hf := ie_ hf c2
      refine g_iconst (v := 1) dX1_knowsDebt_12 kI_1 ?_
      refine g_goto (tgt := 17) dX1_knowsDebt_13 (by decide) ?_
      refine g_lv [] rfl ?_
      exact wX1_knowsDebt_b17 E z  1 m hf
theorem tX1_knowsDebt (E : pEv) (m : pMem) (a1 : Int32) {z : Int32} (hf : sX1_knowsDebt a1 m = some z) : gCn E yX1_knowsDebt kX1_knowsDebt [.ref (eA E 2), .int a1] m (z, m) := gCn_of (by decide +kernel) rfl rfl rfl (Nat.le_of_ble_eq_true rfl) rfl (wX1_knowsDebt_b0 E z a1 m  hf)
theorem wX8_owes_b22 (E : pEv) (z : Int32 × pMem) (m : pMem) (hf : sX8_owes_b22  m = some z) : gM E kX8_owes z 22 [] [] m := by
  unfold sX8_owes_b22 at hf
  refine g_bipush (v := (-2)) dX8_owes_22 kB_m2 ?_
  exact g_ret dX8_owes_24 rfl rfl (Option.some.inj hf).symm
theorem wX8_owes_b0 (E : pEv) (z : Int32 × pMem) (a1 : Int32) (a2 : Int32) (a3 : Int32) (m : pMem) (hf : sX8_owes a1 a2 a3 m = some z) : gM E kX8_owes z 0 [(0, .ref (eA E 0)), (1, .int a1), (2, .int a2), (3, .int a3)] [] m := by
  unfold sX8_owes at hf
  refine g_aload_n (q := 0) dX8_owes_0 rfl rfl ?_
  refine g_get dX8_owes_1 fX8_51 (obX8 E m) (gvX8_5 E m) ?_
  refine g_iload_n (q := 1) dX8_owes_4 rfl rfl ?_
  obtain ⟨r1, q2, hf⟩ := cbR_ hf
  refine g_cV (As := [.int a1]) dX8_owes_5 (tX1_knowsDebt E m a1 q2) gyX1_knowsDebt giX1_knowsDebt gsX1_knowsDebt mX8_201 (⟨rfl, rfl, Nat.le_of_ble_eq_true rfl, Nat.le_of_ble_eq_true rfl, Nat.le_of_ble_eq_true rfl, Nat.le_of_ble_eq_true rfl⟩) rfl (obX1 E m) rfl rfl rfl (Nat.le_of_ble_eq_true rfl) ?_
  refine g_if_eq (tgt := 22) dX8_owes_8 (by decide) (fun c3 => ?_) (fun c3 => ?_)
  · have hf := it_ hf c3
    refine g_lv [] rfl ?_
    exact wX8_owes_b22 E z  m hf
  · have hf := ie_ hf c3
    refine g_aload_n (q := 0) dX8_owes_11 rfl rfl ?_
    refine g_get dX8_owes_12 fX8_10 (obX8 E m) (gvX8_0 E m) ?_
    refine g_iload_n (q := 2) dX8_owes_15 rfl rfl ?_
    obtain ⟨r4, q5, hf⟩ := cbR_ hf
    refine g_cV (As := [.int a2]) dX8_owes_16 (tX2_knowsLand E m a2 q5) gyX2_knowsLand giX2_knowsLand gsX2_knowsLand mX8_119 (⟨rfl, rfl, Nat.le_of_ble_eq_true rfl, Nat.le_of_ble_eq_true rfl, Nat.le_of_ble_eq_true rfl, Nat.le_of_ble_eq_true rfl⟩) rfl (obX2 E m) rfl rfl rfl (Nat.le_of_ble_eq_true rfl) ?_
    refine g_if_ne (tgt := 25) dX8_owes_19 (by decide) (fun c6 => ?_) (fun c6 => ?_)
    · have hf := it_ hf c6
      refine g_iload_n (q := 3) dX8_owes_25 rfl rfl ?_
      obtain ⟨r7, q8, hf⟩ := cbR_ hf
      refine g_cS (As := [.int a3]) dX8_owes_26 (tX8_isDay E m a3 q8) gyX8_isDay giX8_isDay mX8_110 (⟨rfl, rfl, Nat.le_of_ble_eq_true rfl, Nat.le_of_ble_eq_true rfl, Nat.le_of_ble_eq_true rfl, Nat.le_of_ble_eq_true rfl⟩) rfl rfl rfl (Nat.le_of_ble_eq_true rfl) ?_
      refine g_if_ne (tgt := 35) dX8_owes_29 (by decide) (fun c9 => ?_) (fun c9 => ?_)
      · have hf := it_ hf c9
        refine g_aload_n (q := 0) dX8_owes_35 rfl rfl ?_
        refine g_get dX8_owes_36 fX8_51 (obX8 E m) (gvX8_5 E m) ?_
        refine g_iload_n (q := 1) dX8_owes_39 rfl rfl ?_
        refine g_iload_n (q := 2) dX8_owes_40 rfl rfl ?_
        refine g_iload_n (q := 3) dX8_owes_41 rfl rfl ?_
        refine g_aload_n (q := 0) dX8_owes_42 rfl rfl ?_
        refine g_get dX8_owes_43 fX8_19 (obX8 E m) (gvX8_1 E m) ?_
        refine g_get dX8_owes_46 fX8_155 (obX5 E m) (gvX5_2 E m) ?_
        refine g_iconst (v := 3) dX8_owes_49 kI_3 ?_
        refine g_iald dX8_owes_50 ar_53 (by decide) ?_
        obtain ⟨r10, m12, q11, hf⟩ := cbE_ hf
        refine g_cV (As := [.int a1, .int a2, .int a3, .int (m.1 53 ((3 : Int32).toNatClampNeg))]) dX8_owes_51 (tX1_owedBy E m a1 a2 a3 (m.1 53 ((3 : Int32).toNatClampNeg)) q11) gyX1_owedBy giX1_owedBy gsX1_owedBy mX8_204 (⟨rfl, rfl, Nat.le_of_ble_eq_true rfl, Nat.le_of_ble_eq_true rfl, Nat.le_of_ble_eq_true rfl, Nat.le_of_ble_eq_true rfl⟩) rfl (obX1 E m) rfl rfl rfl (Nat.le_of_ble_eq_true rfl) ?_
        exact g_ret dX8_owes_54 rfl rfl (Option.some.inj hf).symm
      · have hf := ie_ hf (not_not_intro c9)
        refine g_bipush (v := (-3)) dX8_owes_32 kB_m3 ?_
        exact g_ret dX8_owes_34 rfl rfl (Option.some.inj hf).symm
    · have hf := ie_ hf (not_not_intro c6)
      refine g_lv [] rfl ?_
      exact wX8_owes_b22 E z  m hf
theorem tX8_owes (E : pEv) (m : pMem) (a1 : Int32) (a2 : Int32) (a3 : Int32) {z : Int32 × pMem} (hf : sX8_owes a1 a2 a3 m = some z) : gCn E yX8_owes kX8_owes [.ref (eA E 0), .int a1, .int a2, .int a3] m z := gCn_of (by decide +kernel) rfl rfl rfl (Nat.le_of_ble_eq_true rfl) rfl (wX8_owes_b0 E z a1 a2 a3 m  hf)
theorem wX1_knowsThing_b17 (E : pEv) (z : Int32) (t0 : Int32) (m : pMem) (hf : sX1_knowsThing_b17 t0 m = some z) : gM E kX1_knowsThing (z, m) 17 [] [.int t0] m := by
  unfold sX1_knowsThing_b17 at hf
  exact g_retz dX1_knowsThing_17 rfl (by rw [Option.some.inj hf])
theorem wX1_knowsThing_b16 (E : pEv) (z : Int32) (m : pMem) (hf : sX1_knowsThing_b16  m = some z) : gM E kX1_knowsThing (z, m) 16 [] [] m := by
  unfold sX1_knowsThing_b16 at hf
  refine g_iconst (v := 0) dX1_knowsThing_16 kI_0 ?_
  exact wX1_knowsThing_b17 E z  0 m hf
theorem wX1_knowsThing_b0 (E : pEv) (z : Int32) (a1 : Int32) (m : pMem) (hf : sX1_knowsThing a1 m = some z) : gM E kX1_knowsThing (z, m) 0 [(0, .ref (eA E 2)), (1, .int a1)] [] m := by
  unfold sX1_knowsThing at hf
  refine g_iload_n (q := 1) dX1_knowsThing_0 rfl rfl ?_
  refine g_if_lt (tgt := 16) dX1_knowsThing_1 (by decide) (fun c1 => ?_) (fun c1 => ?_)
  · have hf := it_ hf c1
    refine g_lv [] rfl ?_
    exact wX1_knowsThing_b16 E z  m hf
  · have hf := ie_ hf c1
    refine g_iload_n (q := 1) dX1_knowsThing_4 rfl rfl ?_
    refine g_aload_n (q := 0) dX1_knowsThing_5 rfl rfl ?_
    refine g_get dX1_knowsThing_6 fX1_40 (obX1 E m) (gvX1_10 E m) ?_
    refine g_icmp_ge (tgt := 16) dX1_knowsThing_9 (by decide) (fun c2 => ?_) (fun c2 => ?_)
    · have hf := it_ hf c2
      refine g_lv [] rfl ?_
      exact wX1_knowsThing_b16 E z  m hf
    · have hf := ie_ hf c2
      refine g_iconst (v := 1) dX1_knowsThing_12 kI_1 ?_
      refine g_goto (tgt := 17) dX1_knowsThing_13 (by decide) ?_
      refine g_lv [] rfl ?_
      exact wX1_knowsThing_b17 E z  1 m hf
theorem tX1_knowsThing (E : pEv) (m : pMem) (a1 : Int32) {z : Int32} (hf : sX1_knowsThing a1 m = some z) : gCn E yX1_knowsThing kX1_knowsThing [.ref (eA E 2), .int a1] m (z, m) := gCn_of (by decide +kernel) rfl rfl rfl (Nat.le_of_ble_eq_true rfl) rfl (wX1_knowsThing_b0 E z a1 m  hf)
theorem wX8_owns_b22 (E : pEv) (z : Int32 × pMem) (m : pMem) (hf : sX8_owns_b22  m = some z) : gM E kX8_owns z 22 [] [] m := by
  unfold sX8_owns_b22 at hf
  refine g_bipush (v := (-2)) dX8_owns_22 kB_m2 ?_
  exact g_ret dX8_owns_24 rfl rfl (Option.some.inj hf).symm
theorem wX8_owns_b0 (E : pEv) (z : Int32 × pMem) (a1 : Int32) (a2 : Int32) (a3 : Int32) (m : pMem) (hf : sX8_owns a1 a2 a3 m = some z) : gM E kX8_owns z 0 [(0, .ref (eA E 0)), (1, .int a1), (2, .int a2), (3, .int a3)] [] m := by
  unfold sX8_owns at hf
  refine g_aload_n (q := 0) dX8_owns_0 rfl rfl ?_
  refine g_get dX8_owns_1 fX8_51 (obX8 E m) (gvX8_5 E m) ?_
  refine g_iload_n (q := 1) dX8_owns_4 rfl rfl ?_
  obtain ⟨r1, q2, hf⟩ := cbR_ hf
  refine g_cV (As := [.int a1]) dX8_owns_5 (tX1_knowsThing E m a1 q2) gyX1_knowsThing giX1_knowsThing gsX1_knowsThing mX8_213 (⟨rfl, rfl, Nat.le_of_ble_eq_true rfl, Nat.le_of_ble_eq_true rfl, Nat.le_of_ble_eq_true rfl, Nat.le_of_ble_eq_true rfl⟩) rfl (obX1 E m) rfl rfl rfl (Nat.le_of_ble_eq_true rfl) ?_
  refine g_if_eq (tgt := 22) dX8_owns_8 (by decide) (fun c3 => ?_) (fun c3 => ?_)
  · have hf := it_ hf c3
    refine g_lv [] rfl ?_
    exact wX8_owns_b22 E z  m hf
  · have hf := ie_ hf c3
    refine g_aload_n (q := 0) dX8_owns_11 rfl rfl ?_
    refine g_get dX8_owns_12 fX8_10 (obX8 E m) (gvX8_0 E m) ?_
    refine g_iload_n (q := 2) dX8_owns_15 rfl rfl ?_
    obtain ⟨r4, q5, hf⟩ := cbR_ hf
    refine g_cV (As := [.int a2]) dX8_owns_16 (tX2_knowsLand E m a2 q5) gyX2_knowsLand giX2_knowsLand gsX2_knowsLand mX8_119 (⟨rfl, rfl, Nat.le_of_ble_eq_true rfl, Nat.le_of_ble_eq_true rfl, Nat.le_of_ble_eq_true rfl, Nat.le_of_ble_eq_true rfl⟩) rfl (obX2 E m) rfl rfl rfl (Nat.le_of_ble_eq_true rfl) ?_
    refine g_if_ne (tgt := 25) dX8_owns_19 (by decide) (fun c6 => ?_) (fun c6 => ?_)
    · have hf := it_ hf c6
      refine g_iload_n (q := 3) dX8_owns_25 rfl rfl ?_
      obtain ⟨r7, q8, hf⟩ := cbR_ hf
      refine g_cS (As := [.int a3]) dX8_owns_26 (tX8_isDay E m a3 q8) gyX8_isDay giX8_isDay mX8_110 (⟨rfl, rfl, Nat.le_of_ble_eq_true rfl, Nat.le_of_ble_eq_true rfl, Nat.le_of_ble_eq_true rfl, Nat.le_of_ble_eq_true rfl⟩) rfl rfl rfl (Nat.le_of_ble_eq_true rfl) ?_
      refine g_if_ne (tgt := 35) dX8_owns_29 (by decide) (fun c9 => ?_) (fun c9 => ?_)
      · have hf := it_ hf c9
        refine g_aload_n (q := 0) dX8_owns_35 rfl rfl ?_
        refine g_get dX8_owns_36 fX8_51 (obX8 E m) (gvX8_5 E m) ?_
        refine g_iload_n (q := 1) dX8_owns_39 rfl rfl ?_
        refine g_iload_n (q := 2) dX8_owns_40 rfl rfl ?_
        refine g_iload_n (q := 3) dX8_owns_41 rfl rfl ?_
        refine g_aload_n (q := 0) dX8_owns_42 rfl rfl ?_
        refine g_get dX8_owns_43 fX8_19 (obX8 E m) (gvX8_1 E m) ?_
        refine g_get dX8_owns_46 fX8_155 (obX5 E m) (gvX5_2 E m) ?_
        refine g_iconst (v := 3) dX8_owns_49 kI_3 ?_
        refine g_iald dX8_owns_50 ar_53 (by decide) ?_
        obtain ⟨r10, m12, q11, hf⟩ := cbE_ hf
        refine g_cV (As := [.int a1, .int a2, .int a3, .int (m.1 53 ((3 : Int32).toNatClampNeg))]) dX8_owns_51 (tX1_ownedBy E m a1 a2 a3 (m.1 53 ((3 : Int32).toNatClampNeg)) q11) gyX1_ownedBy giX1_ownedBy gsX1_ownedBy mX8_216 (⟨rfl, rfl, Nat.le_of_ble_eq_true rfl, Nat.le_of_ble_eq_true rfl, Nat.le_of_ble_eq_true rfl, Nat.le_of_ble_eq_true rfl⟩) rfl (obX1 E m) rfl rfl rfl (Nat.le_of_ble_eq_true rfl) ?_
        exact g_ret dX8_owns_54 rfl rfl (Option.some.inj hf).symm
      · have hf := ie_ hf (not_not_intro c9)
        refine g_bipush (v := (-3)) dX8_owns_32 kB_m3 ?_
        exact g_ret dX8_owns_34 rfl rfl (Option.some.inj hf).symm
    · have hf := ie_ hf (not_not_intro c6)
      refine g_lv [] rfl ?_
      exact wX8_owns_b22 E z  m hf
theorem tX8_owns (E : pEv) (m : pMem) (a1 : Int32) (a2 : Int32) (a3 : Int32) {z : Int32 × pMem} (hf : sX8_owns a1 a2 a3 m = some z) : gCn E yX8_owns kX8_owns [.ref (eA E 0), .int a1, .int a2, .int a3] m z := gCn_of (by decide +kernel) rfl rfl rfl (Nat.le_of_ble_eq_true rfl) rfl (wX8_owns_b0 E z a1 a2 a3 m  hf)
theorem wX3_addPact_b0 (E : pEv) (z : Int32 × pMem) (a1 : Int32) (a2 : Int32) (a3 : Int32) (a4 : Int32) (m : pMem) (hf : sX3_addPact a1 a2 a3 a4 m = some z) : gM E kX3_addPact z 0 [(0, .ref (eA E 4)), (1, .int a1), (2, .int a2), (3, .int a3), (4, .int a4)] [] m := by
  unfold sX3_addPact at hf
  refine g_aload_n (q := 0) dX3_addPact_0 rfl rfl ?_
  refine g_get dX3_addPact_1 fX3_24 (obX3 E m) (gvX3_8 E m) ?_
  refine nmI hf (fun x1 hf => ?_)
  refine g_istore dX3_addPact_4 (Nat.le_of_ble_eq_true rfl) rfl ?_
  refine g_aload_n (q := 1) dX3_addPact_6 rfl rfl ?_
  refine g_get dX3_addPact_7 fX3_9 (obX3 E m) (gvX3_4 E m) ?_
  refine g_iload (q := 0) dX3_addPact_10 rfl ?_
  refine g_iload_n (q := 2) dX3_addPact_12 rfl rfl ?_
  obtain ⟨h2, hf⟩ := gd_ hf
  refine g_iast dX3_addPact_13 ar_44 h2 ?_
  refine nmG hf (fun m3 hf => ?_)
  refine g_aload_n (q := 1) dX3_addPact_14 rfl rfl ?_
  refine g_get dX3_addPact_15 fX3_15 (obX3 E m3) (gvX3_5 E m3) ?_
  refine g_iload (q := 0) dX3_addPact_18 rfl ?_
  refine g_iload_n (q := 3) dX3_addPact_20 rfl rfl ?_
  obtain ⟨h4, hf⟩ := gd_ hf
  refine g_iast dX3_addPact_21 ar_45 h4 ?_
  refine nmG hf (fun m5 hf => ?_)
  refine g_aload_n (q := 1) dX3_addPact_22 rfl rfl ?_
  refine g_get dX3_addPact_23 fX3_18 (obX3 E m5) (gvX3_6 E m5) ?_
  refine g_iload (q := 0) dX3_addPact_26 rfl ?_
  refine g_iload_n (q := 4) dX3_addPact_28 rfl rfl ?_
  obtain ⟨h6, hf⟩ := gd_ hf
  refine g_iast dX3_addPact_29 ar_46 h6 ?_
  refine nmG hf (fun m7 hf => ?_)
  refine g_aload_n (q := 1) dX3_addPact_30 rfl rfl ?_
  refine g_get dX3_addPact_31 fX3_21 (obX3 E m7) (gvX3_7 E m7) ?_
  refine g_iload (q := 0) dX3_addPact_34 rfl ?_
  refine g_iload (q := 5) dX3_addPact_36 rfl ?_
  obtain ⟨h8, hf⟩ := gd_ hf
  refine g_iast dX3_addPact_38 ar_47 h8 ?_
  refine nmG hf (fun m9 hf => ?_)
  refine g_aload_n (q := 1) dX3_addPact_39 rfl rfl ?_
  refine g_aload_n (q := 1) dX3_addPact_40 rfl rfl ?_
  refine g_get dX3_addPact_41 fX3_28 (obX3 E m9) (gvX3_9 E m9) ?_
  refine g_iload (q := 5) dX3_addPact_44 rfl ?_
  refine g_max dX3_addPact_46 mX3_56 mx_1 mx_2 mx_3 ⟨Nat.le_of_ble_eq_true rfl, Nat.le_of_ble_eq_true rfl, Nat.le_of_ble_eq_true rfl, Nat.le_of_ble_eq_true rfl⟩ ?_
  refine g_put dX3_addPact_49 fX3_28 fwX3_9 rfl rfl (obX3 E m9) (Nat.le_of_ble_eq_true rfl) (psX3_9 E m9 _) ?_
  refine nmG hf (fun m10 hf => ?_)
  refine g_aload_n (q := 1) dX3_addPact_52 rfl rfl ?_
  refine g_dup dX3_addPact_53 rfl ?_
  refine g_get dX3_addPact_54 fX3_24 (obX3 E m10) (gvX3_8 E m10) ?_
  refine g_iconst (v := 1) dX3_addPact_57 kI_1 ?_
  refine g_iadd dX3_addPact_58 ?_
  refine g_put dX3_addPact_59 fX3_24 fwX3_8 rfl rfl (obX3 E m10) (Nat.le_of_ble_eq_true rfl) (psX3_8 E m10 _) ?_
  refine nmG hf (fun m11 hf => ?_)
  refine g_iload (q := 0) dX3_addPact_62 rfl ?_
  exact g_ret dX3_addPact_64 rfl rfl (Option.some.inj hf).symm
theorem tX3_addPact (E : pEv) (m : pMem) (a1 : Int32) (a2 : Int32) (a3 : Int32) (a4 : Int32) {z : Int32 × pMem} (hf : sX3_addPact a1 a2 a3 a4 m = some z) : gCn E yX3_addPact kX3_addPact [.ref (eA E 4), .int a1, .int a2, .int a3, .int a4] m z := gCn_of (by decide +kernel) rfl rfl rfl (Nat.le_of_ble_eq_true rfl) rfl (wX3_addPact_b0 E z a1 a2 a3 a4 m  hf)
theorem wX8_pact_b57 (E : pEv) (z : Int32 × pMem) (m : pMem) (hf : sX8_pact_b57  m = some z) : gM E kX8_pact z 57 [] [] m := by
  unfold sX8_pact_b57 at hf
  refine g_bipush (v := (-3)) dX8_pact_57 kB_m3 ?_
  exact g_ret dX8_pact_59 rfl rfl (Option.some.inj hf).symm
theorem wX8_pact_b149 (E : pEv) (z : Int32 × pMem) (l5 : Int32) (t0 : Int32) (t1 : Int32) (t2 : Int32) (m : pMem) (hf : sX8_pact_b149 l5 t0 t1 t2 m = some z) : gM E kX8_pact z 149 [(5, .int l5)] [.int t0, .int t1, .int t2, .ref (eA E 4)] m := by
  unfold sX8_pact_b149 at hf
  refine g_iload (q := 0) dX8_pact_149 rfl ?_
  obtain ⟨r30, m32, q31, hf⟩ := cbE_ hf
  refine g_cV (As := [.int t2, .int t1, .int t0, .int l5]) dX8_pact_151 (tX3_addPact E m t2 t1 t0 l5 q31) gyX3_addPact giX3_addPact gsX3_addPact mX8_164 (⟨rfl, rfl, Nat.le_of_ble_eq_true rfl, Nat.le_of_ble_eq_true rfl, Nat.le_of_ble_eq_true rfl, Nat.le_of_ble_eq_true rfl⟩) rfl (obX3 E m) rfl rfl rfl (Nat.le_of_ble_eq_true rfl) ?_
  exact g_ret dX8_pact_154 rfl rfl (Option.some.inj hf).symm
theorem wX8_pact_b109 (E : pEv) (z : Int32 × pMem) (l1 : Int32) (l2 : Int32) (l4 : Int32) (l5 : Int32) (m : pMem) (hf : sX8_pact_b109 l1 l2 l4 l5 m = some z) : gM E kX8_pact z 109 [(0, .ref (eA E 0)), (1, .int l1), (2, .int l2), (4, .int l4), (5, .int l5)] [] m := by
  unfold sX8_pact_b109 at hf
  refine g_aload_n (q := 0) dX8_pact_109 rfl rfl ?_
  refine g_get dX8_pact_110 fX8_42 (obX8 E m) (gvX8_4 E m) ?_
  refine g_get dX8_pact_113 fX8_161 (obX3 E m) (gvX3_8 E m) ?_
  refine g_bipush (v := 12) dX8_pact_116 kB_12 ?_
  refine g_icmp_lt (tgt := 124) dX8_pact_118 (by decide) (fun c25 => ?_) (fun c25 => ?_)
  · have hf := it_ hf c25
    refine g_aload_n (q := 0) dX8_pact_124 rfl rfl ?_
    refine g_get dX8_pact_125 fX8_65 (obX8 E m) (gvX8_7 E m) ?_
    refine g_iload (q := 4) dX8_pact_128 rfl ?_
    obtain ⟨r26, m28, q27, hf⟩ := cbE_ hf
    refine g_cVv (As := [.int l5]) dX8_pact_130 (tX0_mark E m l5 q27) gyX0_mark giX0_mark gsX0_mark mX8_102 (⟨rfl, rfl, Nat.le_of_ble_eq_true rfl, Nat.le_of_ble_eq_true rfl, Nat.le_of_ble_eq_true rfl, Nat.le_of_ble_eq_true rfl⟩) rfl (obX0 E m) rfl rfl rfl (Nat.le_of_ble_eq_true rfl) ?_
    refine g_aload_n (q := 0) dX8_pact_133 rfl rfl ?_
    refine g_get dX8_pact_134 fX8_42 (obX8 E m28) (gvX8_4 E m28) ?_
    refine g_iload_n (q := 1) dX8_pact_137 rfl rfl ?_
    refine g_iload_n (q := 2) dX8_pact_138 rfl rfl ?_
    refine g_iload_n (q := 1) dX8_pact_139 rfl rfl ?_
    refine g_if_ne (tgt := 148) dX8_pact_140 (by decide) (fun c29 => ?_) (fun c29 => ?_)
    · have hf := it_ hf c29
      refine g_iconst (v := (-1)) dX8_pact_148 kI_m1 ?_
      refine g_lv [4] rfl ?_
      exact wX8_pact_b149 E z  l5 (-1) l2 l1 m28 hf
    · have hf := ie_ hf (not_not_intro c29)
      refine g_iload (q := 3) dX8_pact_143 rfl ?_
      refine g_goto (tgt := 149) dX8_pact_145 (by decide) ?_
      refine g_lv [4] rfl ?_
      exact wX8_pact_b149 E z  l5 l4 l2 l1 m28 hf
  · have hf := ie_ hf c25
    refine g_bipush (v := (-5)) dX8_pact_121 kB_m5 ?_
    exact g_ret dX8_pact_123 rfl rfl (Option.some.inj hf).symm
theorem wX8_pact_b40 (E : pEv) (z : Int32 × pMem) (l1 : Int32) (l2 : Int32) (l4 : Int32) (l5 : Int32) (m : pMem) (hf : sX8_pact_b40 l1 l2 l4 l5 m = some z) : gM E kX8_pact z 40 [(0, .ref (eA E 0)), (1, .int l1), (2, .int l2), (4, .int l4), (5, .int l5)] [] m := by
  unfold sX8_pact_b40 at hf
  refine g_iload_n (q := 1) dX8_pact_40 rfl rfl ?_
  refine g_if_lt (tgt := 57) dX8_pact_41 (by decide) (fun c11 => ?_) (fun c11 => ?_)
  · have hf := it_ hf c11
    refine g_lv [] rfl ?_
    exact wX8_pact_b57 E z  m hf
  · have hf := ie_ hf c11
    refine g_iload_n (q := 1) dX8_pact_44 rfl rfl ?_
    refine g_iconst (v := 2) dX8_pact_45 kI_2 ?_
    refine g_icmp_gt (tgt := 57) dX8_pact_46 (by decide) (fun c12 => ?_) (fun c12 => ?_)
    · have hf := it_ hf c12
      refine g_lv [] rfl ?_
      exact wX8_pact_b57 E z  m hf
    · have hf := ie_ hf c12
      refine g_iload (q := 4) dX8_pact_49 rfl ?_
      obtain ⟨r13, q14, hf⟩ := cbR_ hf
      refine g_cS (As := [.int l5]) dX8_pact_51 (tX8_isDay E m l5 q14) gyX8_isDay giX8_isDay mX8_110 (⟨rfl, rfl, Nat.le_of_ble_eq_true rfl, Nat.le_of_ble_eq_true rfl, Nat.le_of_ble_eq_true rfl, Nat.le_of_ble_eq_true rfl⟩) rfl rfl rfl (Nat.le_of_ble_eq_true rfl) ?_
      refine g_if_ne (tgt := 60) dX8_pact_54 (by decide) (fun c15 => ?_) (fun c15 => ?_)
      · have hf := it_ hf c15
        refine g_aload_n (q := 0) dX8_pact_60 rfl rfl ?_
        refine g_get dX8_pact_61 fX8_10 (obX8 E m) (gvX8_0 E m) ?_
        refine g_iload (q := 4) dX8_pact_64 rfl ?_
        obtain ⟨r16, q17, hf⟩ := cbR_ hf
        refine g_cV (As := [.int l5]) dX8_pact_66 (tX2_changesBy E m l5 q17) gyX2_changesBy giX2_changesBy gsX2_changesBy mX8_116 (⟨rfl, rfl, Nat.le_of_ble_eq_true rfl, Nat.le_of_ble_eq_true rfl, Nat.le_of_ble_eq_true rfl, Nat.le_of_ble_eq_true rfl⟩) rfl (obX2 E m) rfl rfl rfl (Nat.le_of_ble_eq_true rfl) ?_
        refine g_istore dX8_pact_69 (Nat.le_of_ble_eq_true rfl) rfl ?_
        refine g_aload_n (q := 1) dX8_pact_71 rfl rfl ?_
        refine g_get dX8_pact_72 fX8_10 (obX8 E m) (gvX8_0 E m) ?_
        refine g_iload_n (q := 3) dX8_pact_75 rfl rfl ?_
        refine g_iload (q := 0) dX8_pact_76 rfl ?_
        obtain ⟨r18, q19, hf⟩ := cbR_ hf
        refine g_cV (As := [.int l2, .int r16]) dX8_pact_78 (tX2_isThere E m l2 r16 q19) gyX2_isThere giX2_isThere gsX2_isThere mX8_84 (⟨rfl, rfl, Nat.le_of_ble_eq_true rfl, Nat.le_of_ble_eq_true rfl, Nat.le_of_ble_eq_true rfl, Nat.le_of_ble_eq_true rfl⟩) rfl (obX2 E m) rfl rfl rfl (Nat.le_of_ble_eq_true rfl) ?_
        refine g_if_ne (tgt := 87) dX8_pact_81 (by decide) (fun c20 => ?_) (fun c20 => ?_)
        · have hf := it_ hf c20
          refine g_iload_n (q := 2) dX8_pact_87 rfl rfl ?_
          refine g_if_ne (tgt := 109) dX8_pact_88 (by decide) (fun c21 => ?_) (fun c21 => ?_)
          · have hf := it_ hf c21
            refine g_lv [1, 2, 3, 4, 5] rfl ?_
            exact wX8_pact_b109 E z  l1 l2 l4 l5 m hf
          · have hf := ie_ hf (not_not_intro c21)
            refine g_aload_n (q := 1) dX8_pact_91 rfl rfl ?_
            refine g_get dX8_pact_92 fX8_10 (obX8 E m) (gvX8_0 E m) ?_
            refine g_iload (q := 4) dX8_pact_95 rfl ?_
            refine g_iload (q := 0) dX8_pact_97 rfl ?_
            obtain ⟨r22, q23, hf⟩ := cbR_ hf
            refine g_cV (As := [.int l4, .int r16]) dX8_pact_99 (tX2_ownerOf E m l4 r16 q23) gyX2_ownerOf giX2_ownerOf gsX2_ownerOf mX8_129 (⟨rfl, rfl, Nat.le_of_ble_eq_true rfl, Nat.le_of_ble_eq_true rfl, Nat.le_of_ble_eq_true rfl, Nat.le_of_ble_eq_true rfl⟩) rfl (obX2 E m) rfl rfl rfl (Nat.le_of_ble_eq_true rfl) ?_
            refine g_iload_n (q := 3) dX8_pact_102 rfl rfl ?_
            refine g_icmp_eq (tgt := 109) dX8_pact_103 (by decide) (fun c24 => ?_) (fun c24 => ?_)
            · have hf := it_ hf c24
              refine g_lv [1, 2, 3, 4, 5] rfl ?_
              exact wX8_pact_b109 E z  l1 l2 l4 l5 m hf
            · have hf := ie_ hf c24
              refine g_bipush (v := (-4)) dX8_pact_106 kB_m4 ?_
              exact g_ret dX8_pact_108 rfl rfl (Option.some.inj hf).symm
        · have hf := ie_ hf (not_not_intro c20)
          refine g_bipush (v := (-4)) dX8_pact_84 kB_m4 ?_
          exact g_ret dX8_pact_86 rfl rfl (Option.some.inj hf).symm
      · have hf := ie_ hf (not_not_intro c15)
        refine g_lv [] rfl ?_
        exact wX8_pact_b57 E z  m hf
theorem wX8_pact_b18 (E : pEv) (z : Int32 × pMem) (m : pMem) (hf : sX8_pact_b18  m = some z) : gM E kX8_pact z 18 [] [] m := by
  unfold sX8_pact_b18 at hf
  refine g_bipush (v := (-2)) dX8_pact_18 kB_m2 ?_
  exact g_ret dX8_pact_20 rfl rfl (Option.some.inj hf).symm
theorem wX8_pact_b0 (E : pEv) (z : Int32 × pMem) (a1 : Int32) (a2 : Int32) (a3 : Int32) (a4 : Int32) (a5 : Int32) (m : pMem) (hf : sX8_pact a1 a2 a3 a4 a5 m = some z) : gM E kX8_pact z 0 [(0, .ref (eA E 0)), (1, .int a1), (2, .int a2), (3, .int a3), (4, .int a4), (5, .int a5)] [] m := by
  unfold sX8_pact at hf
  refine g_aload_n (q := 0) dX8_pact_0 rfl rfl ?_
  refine g_get dX8_pact_1 fX8_10 (obX8 E m) (gvX8_0 E m) ?_
  refine g_iload_n (q := 2) dX8_pact_4 rfl rfl ?_
  obtain ⟨r1, q2, hf⟩ := cbR_ hf
  refine g_cV (As := [.int a2]) dX8_pact_5 (tX2_knowsLand E m a2 q2) gyX2_knowsLand giX2_knowsLand gsX2_knowsLand mX8_119 (⟨rfl, rfl, Nat.le_of_ble_eq_true rfl, Nat.le_of_ble_eq_true rfl, Nat.le_of_ble_eq_true rfl, Nat.le_of_ble_eq_true rfl⟩) rfl (obX2 E m) rfl rfl rfl (Nat.le_of_ble_eq_true rfl) ?_
  refine g_if_eq (tgt := 18) dX8_pact_8 (by decide) (fun c3 => ?_) (fun c3 => ?_)
  · have hf := it_ hf c3
    refine g_lv [] rfl ?_
    exact wX8_pact_b18 E z  m hf
  · have hf := ie_ hf c3
    refine g_iload_n (q := 3) dX8_pact_11 rfl rfl ?_
    obtain ⟨r4, q5, hf⟩ := cbR_ hf
    refine g_cS (As := [.int a3]) dX8_pact_12 (tX8_isThird E m a3 q5) gyX8_isThird giX8_isThird mX8_158 (⟨rfl, rfl, Nat.le_of_ble_eq_true rfl, Nat.le_of_ble_eq_true rfl, Nat.le_of_ble_eq_true rfl, Nat.le_of_ble_eq_true rfl⟩) rfl rfl rfl (Nat.le_of_ble_eq_true rfl) ?_
    refine g_if_ne (tgt := 21) dX8_pact_15 (by decide) (fun c6 => ?_) (fun c6 => ?_)
    · have hf := it_ hf c6
      refine g_iload_n (q := 1) dX8_pact_21 rfl rfl ?_
      refine g_if_ne (tgt := 40) dX8_pact_22 (by decide) (fun c7 => ?_) (fun c7 => ?_)
      · have hf := it_ hf c7
        refine g_lv [0, 1, 2, 4, 5] rfl ?_
        exact wX8_pact_b40 E z  a1 a2 a4 a5 m hf
      · have hf := ie_ hf (not_not_intro c7)
        refine g_aload_n (q := 0) dX8_pact_25 rfl rfl ?_
        refine g_get dX8_pact_26 fX8_10 (obX8 E m) (gvX8_0 E m) ?_
        refine g_iload (q := 4) dX8_pact_29 rfl ?_
        obtain ⟨r8, q9, hf⟩ := cbR_ hf
        refine g_cV (As := [.int a4]) dX8_pact_31 (tX2_knowsGround E m a4 q9) gyX2_knowsGround giX2_knowsGround gsX2_knowsGround mX8_126 (⟨rfl, rfl, Nat.le_of_ble_eq_true rfl, Nat.le_of_ble_eq_true rfl, Nat.le_of_ble_eq_true rfl, Nat.le_of_ble_eq_true rfl⟩) rfl (obX2 E m) rfl rfl rfl (Nat.le_of_ble_eq_true rfl) ?_
        refine g_if_ne (tgt := 40) dX8_pact_34 (by decide) (fun c10 => ?_) (fun c10 => ?_)
        · have hf := it_ hf c10
          refine g_lv [0, 1, 2, 4, 5] rfl ?_
          exact wX8_pact_b40 E z  a1 a2 a4 a5 m hf
        · have hf := ie_ hf (not_not_intro c10)
          refine g_bipush (v := (-2)) dX8_pact_37 kB_m2 ?_
          exact g_ret dX8_pact_39 rfl rfl (Option.some.inj hf).symm
    · have hf := ie_ hf (not_not_intro c6)
      refine g_lv [] rfl ?_
      exact wX8_pact_b18 E z  m hf
theorem tX8_pact (E : pEv) (m : pMem) (a1 : Int32) (a2 : Int32) (a3 : Int32) (a4 : Int32) (a5 : Int32) {z : Int32 × pMem} (hf : sX8_pact a1 a2 a3 a4 a5 m = some z) : gCn E yX8_pact kX8_pact [.ref (eA E 0), .int a1, .int a2, .int a3, .int a4, .int a5] m z := gCn_of (by decide +kernel) rfl rfl rfl (Nat.le_of_ble_eq_true rfl) rfl (wX8_pact_b0 E z a1 a2 a3 a4 a5 m  hf)
theorem wX4_knowsPensioner_b17 (E : pEv) (z : Int32) (t0 : Int32) (m : pMem) (hf : sX4_knowsPensioner_b17 t0 m = some z) : gM E kX4_knowsPensioner (z, m) 17 [] [.int t0] m := by
  unfold sX4_knowsPensioner_b17 at hf
  exact g_retz dX4_knowsPensioner_17 rfl (by rw [Option.some.inj hf])
theorem wX4_knowsPensioner_b16 (E : pEv) (z : Int32) (m : pMem) (hf : sX4_knowsPensioner_b16  m = some z) : gM E kX4_knowsPensioner (z, m) 16 [] [] m := by
  unfold sX4_knowsPensioner_b16 at hf
  refine g_iconst (v := 0) dX4_knowsPensioner_16 kI_0 ?_
  exact wX4_knowsPensioner_b17 E z  0 m hf
theorem wX4_knowsPensioner_b0 (E : pEv) (z : Int32) (a1 : Int32) (m : pMem) (hf : sX4_knowsPensioner a1 m = some z) : gM E kX4_knowsPensioner (z, m) 0 [(0, .ref (eA E 5)), (1, .int a1)] [] m := by
  unfold sX4_knowsPensioner at hf
  refine g_iload_n (q := 1) dX4_knowsPensioner_0 rfl rfl ?_
  refine g_if_lt (tgt := 16) dX4_knowsPensioner_1 (by decide) (fun c1 => ?_) (fun c1 => ?_)
  · have hf := it_ hf c1
    refine g_lv [] rfl ?_
    exact wX4_knowsPensioner_b16 E z  m hf
  · have hf := ie_ hf c1
    refine g_iload_n (q := 1) dX4_knowsPensioner_4 rfl rfl ?_
    refine g_aload_n (q := 0) dX4_knowsPensioner_5 rfl rfl ?_
    refine g_get dX4_knowsPensioner_6 fX4_21 (obX4 E m) (gvX4_3 E m) ?_
    refine g_icmp_ge (tgt := 16) dX4_knowsPensioner_9 (by decide) (fun c2 => ?_) (fun c2 => ?_)
    · have hf := it_ hf c2
      refine g_lv [] rfl ?_
      exact wX4_knowsPensioner_b16 E z  m hf
    · have hf := ie_ hf c2
      refine g_iconst (v := 1) dX4_knowsPensioner_12 kI_1 ?_
      refine g_goto (tgt := 17) dX4_knowsPensioner_13 (by decide) ?_
      refine g_lv [] rfl ?_
      exact wX4_knowsPensioner_b17 E z  1 m hf
theorem tX4_knowsPensioner (E : pEv) (m : pMem) (a1 : Int32) {z : Int32} (hf : sX4_knowsPensioner a1 m = some z) : gCn E yX4_knowsPensioner kX4_knowsPensioner [.ref (eA E 5), .int a1] m (z, m) := gCn_of (by decide +kernel) rfl rfl rfl (Nat.le_of_ble_eq_true rfl) rfl (wX4_knowsPensioner_b0 E z a1 m  hf)
theorem wX8_paid_b82 (E : pEv) (z : Int32) (l2 : Int32) (t0 : Int32) (m : pMem) (hf : sX8_paid_b82 l2 t0 m = some z) : gM E kX8_paid (z, m) 82 [(0, .ref (eA E 0)), (2, .int l2)] [.int t0] m := by
  unfold sX8_paid_b82 at hf
  refine g_istore dX8_paid_82 (Nat.le_of_ble_eq_true rfl) rfl ?_
  refine g_aload_n (q := 1) dX8_paid_84 rfl rfl ?_
  refine g_get dX8_paid_85 fX8_10 (obX8 E m) (gvX8_0 E m) ?_
  refine g_iload (q := 0) dX8_paid_88 rfl ?_
  refine g_aload_n (q := 1) dX8_paid_90 rfl rfl ?_
  refine g_get dX8_paid_91 fX8_10 (obX8 E m) (gvX8_0 E m) ?_
  refine g_iload_n (q := 2) dX8_paid_94 rfl rfl ?_
  obtain ⟨r15, q16, hf⟩ := cbR_ hf
  refine g_cV (As := [.int l2]) dX8_paid_95 (tX2_changesBy E m l2 q16) gyX2_changesBy giX2_changesBy gsX2_changesBy mX8_116 (⟨rfl, rfl, Nat.le_of_ble_eq_true rfl, Nat.le_of_ble_eq_true rfl, Nat.le_of_ble_eq_true rfl, Nat.le_of_ble_eq_true rfl⟩) rfl (obX2 E m) rfl rfl rfl (Nat.le_of_ble_eq_true rfl) ?_
  obtain ⟨r17, q18, hf⟩ := cbR_ hf
  refine g_cV (As := [.int t0, .int r15]) dX8_paid_98 (tX2_ownerOf E m t0 r15 q18) gyX2_ownerOf giX2_ownerOf gsX2_ownerOf mX8_129 (⟨rfl, rfl, Nat.le_of_ble_eq_true rfl, Nat.le_of_ble_eq_true rfl, Nat.le_of_ble_eq_true rfl, Nat.le_of_ble_eq_true rfl⟩) rfl (obX2 E m) rfl rfl rfl (Nat.le_of_ble_eq_true rfl) ?_
  exact g_ret dX8_paid_101 rfl rfl (by rw [Option.some.inj hf])
theorem wX8_paid_b0 (E : pEv) (z : Int32) (a1 : Int32) (a2 : Int32) (m : pMem) (hf : sX8_paid a1 a2 m = some z) : gM E kX8_paid (z, m) 0 [(0, .ref (eA E 0)), (1, .int a1), (2, .int a2)] [] m := by
  unfold sX8_paid at hf
  refine g_aload_n (q := 0) dX8_paid_0 rfl rfl ?_
  refine g_get dX8_paid_1 fX8_58 (obX8 E m) (gvX8_6 E m) ?_
  refine g_iload_n (q := 1) dX8_paid_4 rfl rfl ?_
  obtain ⟨r1, q2, hf⟩ := cbR_ hf
  refine g_cV (As := [.int a1]) dX8_paid_5 (tX4_knowsPensioner E m a1 q2) gyX4_knowsPensioner giX4_knowsPensioner gsX4_knowsPensioner mX8_225 (⟨rfl, rfl, Nat.le_of_ble_eq_true rfl, Nat.le_of_ble_eq_true rfl, Nat.le_of_ble_eq_true rfl, Nat.le_of_ble_eq_true rfl⟩) rfl (obX4 E m) rfl rfl rfl (Nat.le_of_ble_eq_true rfl) ?_
  refine g_if_ne (tgt := 14) dX8_paid_8 (by decide) (fun c3 => ?_) (fun c3 => ?_)
  · have hf := it_ hf c3
    refine g_iload_n (q := 2) dX8_paid_14 rfl rfl ?_
    obtain ⟨r4, q5, hf⟩ := cbR_ hf
    refine g_cS (As := [.int a2]) dX8_paid_15 (tX8_isDay E m a2 q5) gyX8_isDay giX8_isDay mX8_110 (⟨rfl, rfl, Nat.le_of_ble_eq_true rfl, Nat.le_of_ble_eq_true rfl, Nat.le_of_ble_eq_true rfl, Nat.le_of_ble_eq_true rfl⟩) rfl rfl rfl (Nat.le_of_ble_eq_true rfl) ?_
    refine g_if_ne (tgt := 24) dX8_paid_18 (by decide) (fun c6 => ?_) (fun c6 => ?_)
    · have hf := it_ hf c6
      refine g_aload_n (q := 0) dX8_paid_24 rfl rfl ?_
      refine g_get dX8_paid_25 fX8_19 (obX8 E m) (gvX8_1 E m) ?_
      refine g_get dX8_paid_28 fX8_155 (obX5 E m) (gvX5_2 E m) ?_
      refine g_iconst (v := 4) dX8_paid_31 kI_4 ?_
      refine g_iald dX8_paid_32 ar_53 (by decide) ?_
      refine nmI hf (fun x7 hf => ?_)
      refine g_istore_n dX8_paid_33 rfl (Nat.le_of_ble_eq_true rfl) rfl ?_
      refine g_iload_n (q := 0) dX8_paid_34 rfl rfl ?_
      refine g_if_ne (tgt := 56) dX8_paid_35 (by decide) (fun c8 => ?_) (fun c8 => ?_)
      · have hf := it_ hf c8
        refine g_iload_n (q := 0) dX8_paid_56 rfl rfl ?_
        refine g_iconst (v := 1) dX8_paid_57 kI_1 ?_
        refine g_icmp_ne (tgt := 73) dX8_paid_58 (by decide) (fun c9 => ?_) (fun c9 => ?_)
        · have hf := it_ hf c9
          refine g_aload_n (q := 1) dX8_paid_73 rfl rfl ?_
          refine g_get dX8_paid_74 fX8_58 (obX8 E m) (gvX8_6 E m) ?_
          refine g_get dX8_paid_77 fX8_234 (obX4 E m) (gvX4_1 E m) ?_
          refine g_iload_n (q := 2) dX8_paid_80 rfl rfl ?_
          obtain ⟨h10, hf⟩ := gd_ hf
          refine g_iald dX8_paid_81 ar_50 h10 ?_
          refine g_lv [1, 3] rfl ?_
          exact wX8_paid_b82 E z  a2 (m.1 50 a1.toNatClampNeg) m hf
        · have hf := ie_ hf (not_not_intro c9)
          refine g_aload_n (q := 1) dX8_paid_61 rfl rfl ?_
          refine g_get dX8_paid_62 fX8_58 (obX8 E m) (gvX8_6 E m) ?_
          refine g_get dX8_paid_65 fX8_231 (obX4 E m) (gvX4_2 E m) ?_
          refine g_iload_n (q := 2) dX8_paid_68 rfl rfl ?_
          obtain ⟨h11, hf⟩ := gd_ hf
          refine g_iald dX8_paid_69 ar_51 h11 ?_
          refine g_goto (tgt := 82) dX8_paid_70 (by decide) ?_
          refine g_lv [1, 3] rfl ?_
          exact wX8_paid_b82 E z  a2 (m.1 51 a1.toNatClampNeg) m hf
      · have hf := ie_ hf (not_not_intro c8)
        refine g_aload_n (q := 1) dX8_paid_38 rfl rfl ?_
        refine g_get dX8_paid_39 fX8_10 (obX8 E m) (gvX8_0 E m) ?_
        refine g_aload_n (q := 1) dX8_paid_42 rfl rfl ?_
        refine g_get dX8_paid_43 fX8_58 (obX8 E m) (gvX8_6 E m) ?_
        refine g_get dX8_paid_46 fX8_228 (obX4 E m) (gvX4_0 E m) ?_
        refine g_iload_n (q := 2) dX8_paid_49 rfl rfl ?_
        obtain ⟨h12, hf⟩ := gd_ hf
        refine g_iald dX8_paid_50 ar_49 h12 ?_
        refine g_iload_n (q := 3) dX8_paid_51 rfl rfl ?_
        obtain ⟨r13, q14, hf⟩ := cbR_ hf
        refine g_cV (As := [.int (m.1 49 a1.toNatClampNeg), .int a2]) dX8_paid_52 (tX2_heirOf E m (m.1 49 a1.toNatClampNeg) a2 q14) gyX2_heirOf giX2_heirOf gsX2_heirOf mX8_135 (⟨rfl, rfl, Nat.le_of_ble_eq_true rfl, Nat.le_of_ble_eq_true rfl, Nat.le_of_ble_eq_true rfl, Nat.le_of_ble_eq_true rfl⟩) rfl (obX2 E m) rfl rfl rfl (Nat.le_of_ble_eq_true rfl) ?_
        exact g_ret dX8_paid_55 rfl rfl (by rw [Option.some.inj hf])
    · have hf := ie_ hf (not_not_intro c6)
      refine g_bipush (v := (-3)) dX8_paid_21 kB_m3 ?_
      exact g_ret dX8_paid_23 rfl rfl (by rw [Option.some.inj hf])
  · have hf := ie_ hf (not_not_intro c3)
    refine g_bipush (v := (-2)) dX8_paid_11 kB_m2 ?_
    exact g_ret dX8_paid_13 rfl rfl (by rw [Option.some.inj hf])
theorem tX8_paid (E : pEv) (m : pMem) (a1 : Int32) (a2 : Int32) {z : Int32} (hf : sX8_paid a1 a2 m = some z) : gCn E yX8_paid kX8_paid [.ref (eA E 0), .int a1, .int a2] m (z, m) := gCn_of (by decide +kernel) rfl rfl rfl (Nat.le_of_ble_eq_true rfl) rfl (wX8_paid_b0 E z a1 a2 m  hf)
theorem wX8_rule_b9 (E : pEv) (z : Int32) (m : pMem) (hf : sX8_rule_b9  m = some z) : gM E kX8_rule (z, m) 9 [] [] m := by
  unfold sX8_rule_b9 at hf
  refine g_bipush (v := (-3)) dX8_rule_9 kB_m3 ?_
  exact g_ret dX8_rule_11 rfl rfl (by rw [Option.some.inj hf])
theorem wX8_rule_b0 (E : pEv) (z : Int32) (a1 : Int32) (m : pMem) (hf : sX8_rule a1 m = some z) : gM E kX8_rule (z, m) 0 [(0, .ref (eA E 0)), (1, .int a1)] [] m := by
  unfold sX8_rule at hf
  refine g_iload_n (q := 1) dX8_rule_0 rfl rfl ?_
  refine g_if_lt (tgt := 9) dX8_rule_1 (by decide) (fun c1 => ?_) (fun c1 => ?_)
  · have hf := it_ hf c1
    refine g_lv [] rfl ?_
    exact wX8_rule_b9 E z  m hf
  · have hf := ie_ hf c1
    refine g_iload_n (q := 1) dX8_rule_4 rfl rfl ?_
    refine g_iconst (v := 5) dX8_rule_5 kI_5 ?_
    refine g_icmp_lt (tgt := 12) dX8_rule_6 (by decide) (fun c2 => ?_) (fun c2 => ?_)
    · have hf := it_ hf c2
      refine g_aload_n (q := 0) dX8_rule_12 rfl rfl ?_
      refine g_get dX8_rule_13 fX8_19 (obX8 E m) (gvX8_1 E m) ?_
      refine g_get dX8_rule_16 fX8_155 (obX5 E m) (gvX5_2 E m) ?_
      refine g_iload_n (q := 1) dX8_rule_19 rfl rfl ?_
      obtain ⟨h3, hf⟩ := gd_ hf
      refine g_iald dX8_rule_20 ar_53 h3 ?_
      exact g_ret dX8_rule_21 rfl rfl (by rw [Option.some.inj hf])
    · have hf := ie_ hf c2
      refine g_lv [] rfl ?_
      exact wX8_rule_b9 E z  m hf
theorem tX8_rule (E : pEv) (m : pMem) (a1 : Int32) {z : Int32} (hf : sX8_rule a1 m = some z) : gCn E yX8_rule kX8_rule [.ref (eA E 0), .int a1] m (z, m) := gCn_of (by decide +kernel) rfl rfl rfl (Nat.le_of_ble_eq_true rfl) rfl (wX8_rule_b0 E z a1 m  hf)
theorem wX5_takeAsRules_b0 (E : pEv) (z : Int32 × pMem) (m : pMem) (hf : sX5_takeAsRules  m = some z) : gM E kX5_takeAsRules z 0 [(0, .ref (eA E 6))] [] m := by
  unfold sX5_takeAsRules at hf
  refine g_aload_n (q := 0) dX5_takeAsRules_0 rfl rfl ?_
  refine g_get dX5_takeAsRules_1 fX5_31 (obX5 E m) (gvX5_6 E m) ?_
  refine g_iconst (v := 0) dX5_takeAsRules_4 kI_0 ?_
  refine g_aload_n (q := 0) dX5_takeAsRules_5 rfl rfl ?_
  refine g_get dX5_takeAsRules_6 fX5_19 (obX5 E m) (gvX5_2 E m) ?_
  refine g_iconst (v := 0) dX5_takeAsRules_9 kI_0 ?_
  refine g_iconst (v := 5) dX5_takeAsRules_10 kI_5 ?_
  obtain ⟨h2, hf⟩ := gd_ hf
  refine g_copy dX5_takeAsRules_11 mX5_34 ac_1 ac_2 ac_3 ar_54 ar_53 (by decide) (by decide) (by decide) (gcp h2).1 (gcp h2).2 ⟨Nat.le_of_ble_eq_true rfl, Nat.le_of_ble_eq_true rfl⟩ ?_
  refine nmG hf (fun m1 hf => ?_)
  refine g_aload_n (q := 0) dX5_takeAsRules_14 rfl rfl ?_
  obtain ⟨r3, m5, q4, hf⟩ := cbE_ hf
  refine g_cV (As := []) dX5_takeAsRules_15 (tX5_empty E m1 q4) gyX5_empty giX5_empty gsX5_empty mX5_40 (⟨rfl, rfl, Nat.le_of_ble_eq_true rfl, Nat.le_of_ble_eq_true rfl, Nat.le_of_ble_eq_true rfl, Nat.le_of_ble_eq_true rfl⟩) rfl (obX5 E m1) rfl rfl rfl (Nat.le_of_ble_eq_true rfl) ?_
  refine g_pop dX5_takeAsRules_18 rfl ?_
  refine g_aload_n (q := 0) dX5_takeAsRules_19 rfl rfl ?_
  refine g_get dX5_takeAsRules_20 fX5_28 (obX5 E m5) (gvX5_5 E m5) ?_
  exact g_ret dX5_takeAsRules_23 rfl rfl (Option.some.inj hf).symm
theorem tX5_takeAsRules (E : pEv) (m : pMem) {z : Int32 × pMem} (hf : sX5_takeAsRules  m = some z) : gCn E yX5_takeAsRules kX5_takeAsRules [.ref (eA E 6)] m z := gCn_of (by decide +kernel) rfl rfl rfl (Nat.le_of_ble_eq_true rfl) rfl (wX5_takeAsRules_b0 E z  m  hf)
theorem wX8_rules_b0 (E : pEv) (z : Int32 × pMem) (m : pMem) (hf : sX8_rules  m = some z) : gM E kX8_rules z 0 [(0, .ref (eA E 0))] [] m := by
  unfold sX8_rules at hf
  refine g_aload_n (q := 0) dX8_rules_0 rfl rfl ?_
  refine g_get dX8_rules_1 fX8_19 (obX8 E m) (gvX8_1 E m) ?_
  obtain ⟨r1, m3, q2, hf⟩ := cbE_ hf
  refine g_cV (As := []) dX8_rules_4 (tX5_firstFault E m q2) gyX5_firstFault giX5_firstFault gsX5_firstFault mX8_149 (⟨rfl, rfl, Nat.le_of_ble_eq_true rfl, Nat.le_of_ble_eq_true rfl, Nat.le_of_ble_eq_true rfl, Nat.le_of_ble_eq_true rfl⟩) rfl (obX5 E m) rfl rfl rfl (Nat.le_of_ble_eq_true rfl) ?_
  refine g_iconst (v := (-1)) dX8_rules_7 kI_m1 ?_
  refine g_icmp_eq (tgt := 14) dX8_rules_8 (by decide) (fun c4 => ?_) (fun c4 => ?_)
  · have hf := it_ hf c4
    refine g_aload_n (q := 0) dX8_rules_14 rfl rfl ?_
    refine g_get dX8_rules_15 fX8_19 (obX8 E m3) (gvX8_1 E m3) ?_
    obtain ⟨r5, m7, q6, hf⟩ := cbE_ hf
    refine g_cV (As := []) dX8_rules_18 (tX5_takeAsRules E m3 q6) gyX5_takeAsRules giX5_takeAsRules gsX5_takeAsRules mX8_152 (⟨rfl, rfl, Nat.le_of_ble_eq_true rfl, Nat.le_of_ble_eq_true rfl, Nat.le_of_ble_eq_true rfl, Nat.le_of_ble_eq_true rfl⟩) rfl (obX5 E m3) rfl rfl rfl (Nat.le_of_ble_eq_true rfl) ?_
    exact g_ret dX8_rules_21 rfl rfl (Option.some.inj hf).symm
  · have hf := ie_ hf c4
    refine g_bipush (v := (-4)) dX8_rules_11 kB_m4 ?_
    exact g_ret dX8_rules_13 rfl rfl (Option.some.inj hf).symm
theorem tX8_rules (E : pEv) (m : pMem) {z : Int32 × pMem} (hf : sX8_rules  m = some z) : gCn E yX8_rules kX8_rules [.ref (eA E 0)] m z := gCn_of (by decide +kernel) rfl rfl rfl (Nat.le_of_ble_eq_true rfl) rfl (wX8_rules_b0 E z  m  hf)
theorem wX4_addPensioner_b0 (E : pEv) (z : Int32 × pMem) (a1 : Int32) (a2 : Int32) (a3 : Int32) (m : pMem) (hf : sX4_addPensioner a1 a2 a3 m = some z) : gM E kX4_addPensioner z 0 [(0, .ref (eA E 5)), (1, .int a1), (2, .int a2), (3, .int a3)] [] m := by
  unfold sX4_addPensioner at hf
  refine g_aload_n (q := 0) dX4_addPensioner_0 rfl rfl ?_
  refine g_get dX4_addPensioner_1 fX4_21 (obX4 E m) (gvX4_3 E m) ?_
  refine nmI hf (fun x1 hf => ?_)
  refine g_istore dX4_addPensioner_4 (Nat.le_of_ble_eq_true rfl) rfl ?_
  refine g_aload_n (q := 1) dX4_addPensioner_6 rfl rfl ?_
  refine g_get dX4_addPensioner_7 fX4_9 (obX4 E m) (gvX4_0 E m) ?_
  refine g_iload (q := 0) dX4_addPensioner_10 rfl ?_
  refine g_iload_n (q := 2) dX4_addPensioner_12 rfl rfl ?_
  obtain ⟨h2, hf⟩ := gd_ hf
  refine g_iast dX4_addPensioner_13 ar_49 h2 ?_
  refine nmG hf (fun m3 hf => ?_)
  refine g_aload_n (q := 1) dX4_addPensioner_14 rfl rfl ?_
  refine g_get dX4_addPensioner_15 fX4_15 (obX4 E m3) (gvX4_1 E m3) ?_
  refine g_iload (q := 0) dX4_addPensioner_18 rfl ?_
  refine g_iload_n (q := 3) dX4_addPensioner_20 rfl rfl ?_
  obtain ⟨h4, hf⟩ := gd_ hf
  refine g_iast dX4_addPensioner_21 ar_50 h4 ?_
  refine nmG hf (fun m5 hf => ?_)
  refine g_aload_n (q := 1) dX4_addPensioner_22 rfl rfl ?_
  refine g_get dX4_addPensioner_23 fX4_18 (obX4 E m5) (gvX4_2 E m5) ?_
  refine g_iload (q := 0) dX4_addPensioner_26 rfl ?_
  refine g_iload_n (q := 4) dX4_addPensioner_28 rfl rfl ?_
  obtain ⟨h6, hf⟩ := gd_ hf
  refine g_iast dX4_addPensioner_29 ar_51 h6 ?_
  refine nmG hf (fun m7 hf => ?_)
  refine g_aload_n (q := 1) dX4_addPensioner_30 rfl rfl ?_
  refine g_dup dX4_addPensioner_31 rfl ?_
  refine g_get dX4_addPensioner_32 fX4_21 (obX4 E m7) (gvX4_3 E m7) ?_
  refine g_iconst (v := 1) dX4_addPensioner_35 kI_1 ?_
  refine g_iadd dX4_addPensioner_36 ?_
  refine g_put dX4_addPensioner_37 fX4_21 fwX4_3 rfl rfl (obX4 E m7) (Nat.le_of_ble_eq_true rfl) (psX4_3 E m7 _) ?_
  refine nmG hf (fun m8 hf => ?_)
  refine g_iload (q := 0) dX4_addPensioner_40 rfl ?_
  exact g_ret dX4_addPensioner_42 rfl rfl (Option.some.inj hf).symm
theorem tX4_addPensioner (E : pEv) (m : pMem) (a1 : Int32) (a2 : Int32) (a3 : Int32) {z : Int32 × pMem} (hf : sX4_addPensioner a1 a2 a3 m = some z) : gCn E yX4_addPensioner kX4_addPensioner [.ref (eA E 5), .int a1, .int a2, .int a3] m z := gCn_of (by decide +kernel) rfl rfl rfl (Nat.le_of_ble_eq_true rfl) rfl (wX4_addPensioner_b0 E z a1 a2 a3 m  hf)
theorem wX8_served_b33 (E : pEv) (z : Int32 × pMem) (m : pMem) (hf : sX8_served_b33  m = some z) : gM E kX8_served z 33 [] [] m := by
  unfold sX8_served_b33 at hf
  refine g_bipush (v := (-2)) dX8_served_33 kB_m2 ?_
  exact g_ret dX8_served_35 rfl rfl (Option.some.inj hf).symm
theorem wX8_served_b0 (E : pEv) (z : Int32 × pMem) (a1 : Int32) (a2 : Int32) (a3 : Int32) (m : pMem) (hf : sX8_served a1 a2 a3 m = some z) : gM E kX8_served z 0 [(0, .ref (eA E 0)), (1, .int a1), (2, .int a2), (3, .int a3)] [] m := by
  unfold sX8_served at hf
  refine g_aload_n (q := 0) dX8_served_0 rfl rfl ?_
  refine g_get dX8_served_1 fX8_10 (obX8 E m) (gvX8_0 E m) ?_
  refine g_iload_n (q := 1) dX8_served_4 rfl rfl ?_
  obtain ⟨r1, q2, hf⟩ := cbR_ hf
  refine g_cV (As := [.int a1]) dX8_served_5 (tX2_knowsLand E m a1 q2) gyX2_knowsLand giX2_knowsLand gsX2_knowsLand mX8_119 (⟨rfl, rfl, Nat.le_of_ble_eq_true rfl, Nat.le_of_ble_eq_true rfl, Nat.le_of_ble_eq_true rfl, Nat.le_of_ble_eq_true rfl⟩) rfl (obX2 E m) rfl rfl rfl (Nat.le_of_ble_eq_true rfl) ?_
  refine g_if_eq (tgt := 33) dX8_served_8 (by decide) (fun c3 => ?_) (fun c3 => ?_)
  · have hf := it_ hf c3
    refine g_lv [] rfl ?_
    exact wX8_served_b33 E z  m hf
  · have hf := ie_ hf c3
    refine g_aload_n (q := 0) dX8_served_11 rfl rfl ?_
    refine g_get dX8_served_12 fX8_10 (obX8 E m) (gvX8_0 E m) ?_
    refine g_iload_n (q := 2) dX8_served_15 rfl rfl ?_
    obtain ⟨r4, q5, hf⟩ := cbR_ hf
    refine g_cV (As := [.int a2]) dX8_served_16 (tX2_knowsGround E m a2 q5) gyX2_knowsGround giX2_knowsGround gsX2_knowsGround mX8_126 (⟨rfl, rfl, Nat.le_of_ble_eq_true rfl, Nat.le_of_ble_eq_true rfl, Nat.le_of_ble_eq_true rfl, Nat.le_of_ble_eq_true rfl⟩) rfl (obX2 E m) rfl rfl rfl (Nat.le_of_ble_eq_true rfl) ?_
    refine g_if_eq (tgt := 33) dX8_served_19 (by decide) (fun c6 => ?_) (fun c6 => ?_)
    · have hf := it_ hf c6
      refine g_lv [] rfl ?_
      exact wX8_served_b33 E z  m hf
    · have hf := ie_ hf c6
      refine g_aload_n (q := 0) dX8_served_22 rfl rfl ?_
      refine g_get dX8_served_23 fX8_10 (obX8 E m) (gvX8_0 E m) ?_
      refine g_iload_n (q := 3) dX8_served_26 rfl rfl ?_
      obtain ⟨r7, q8, hf⟩ := cbR_ hf
      refine g_cV (As := [.int a3]) dX8_served_27 (tX2_knowsGround E m a3 q8) gyX2_knowsGround giX2_knowsGround gsX2_knowsGround mX8_126 (⟨rfl, rfl, Nat.le_of_ble_eq_true rfl, Nat.le_of_ble_eq_true rfl, Nat.le_of_ble_eq_true rfl, Nat.le_of_ble_eq_true rfl⟩) rfl (obX2 E m) rfl rfl rfl (Nat.le_of_ble_eq_true rfl) ?_
      refine g_if_ne (tgt := 36) dX8_served_30 (by decide) (fun c9 => ?_) (fun c9 => ?_)
      · have hf := it_ hf c9
        refine g_aload_n (q := 0) dX8_served_36 rfl rfl ?_
        refine g_get dX8_served_37 fX8_58 (obX8 E m) (gvX8_6 E m) ?_
        refine g_get dX8_served_40 fX8_219 (obX4 E m) (gvX4_3 E m) ?_
        refine g_bipush (v := 12) dX8_served_43 kB_12 ?_
        refine g_icmp_lt (tgt := 51) dX8_served_45 (by decide) (fun c10 => ?_) (fun c10 => ?_)
        · have hf := it_ hf c10
          refine g_aload_n (q := 0) dX8_served_51 rfl rfl ?_
          refine g_get dX8_served_52 fX8_58 (obX8 E m) (gvX8_6 E m) ?_
          refine g_iload_n (q := 1) dX8_served_55 rfl rfl ?_
          refine g_iload_n (q := 2) dX8_served_56 rfl rfl ?_
          refine g_iload_n (q := 3) dX8_served_57 rfl rfl ?_
          obtain ⟨r11, m13, q12, hf⟩ := cbE_ hf
          refine g_cV (As := [.int a1, .int a2, .int a3]) dX8_served_58 (tX4_addPensioner E m a1 a2 a3 q12) gyX4_addPensioner giX4_addPensioner gsX4_addPensioner mX8_222 (⟨rfl, rfl, Nat.le_of_ble_eq_true rfl, Nat.le_of_ble_eq_true rfl, Nat.le_of_ble_eq_true rfl, Nat.le_of_ble_eq_true rfl⟩) rfl (obX4 E m) rfl rfl rfl (Nat.le_of_ble_eq_true rfl) ?_
          exact g_ret dX8_served_61 rfl rfl (Option.some.inj hf).symm
        · have hf := ie_ hf c10
          refine g_bipush (v := (-5)) dX8_served_48 kB_m5 ?_
          exact g_ret dX8_served_50 rfl rfl (Option.some.inj hf).symm
      · have hf := ie_ hf (not_not_intro c9)
        refine g_lv [] rfl ?_
        exact wX8_served_b33 E z  m hf
theorem tX8_served (E : pEv) (m : pMem) (a1 : Int32) (a2 : Int32) (a3 : Int32) {z : Int32 × pMem} (hf : sX8_served a1 a2 a3 m = some z) : gCn E yX8_served kX8_served [.ref (eA E 0), .int a1, .int a2, .int a3] m z := gCn_of (by decide +kernel) rfl rfl rfl (Nat.le_of_ble_eq_true rfl) rfl (wX8_served_b0 E z a1 a2 a3 m  hf)
theorem wX8_since_b64 (E : pEv) (z : Int32 × pMem) (k27 : Int32 → Int32 → Int32 → pMem → gO) (ih27 : ∀ (l1 : Int32) (l2 : Int32) (l3 : Int32)  (m : pMem), k27 l1 l2 l3 m = some z → gM E kX8_since z 27 [(0, .ref (eA E 0)), (1, .int l1), (2, .int l2), (3, .int l3)] [] m) (l1 : Int32) (l2 : Int32) (l3 : Int32) (m : pMem) (hf : sX8_since_b64 k27 l1 l2 l3 m = some z) : gM E kX8_since z 64 [(0, .ref (eA E 0)), (1, .int l1), (2, .int l2), (3, .int l3)] [] m := by
  unfold sX8_since_b64 at hf
  refine g_iinc (q := 3) (v := l3 + 1) dX8_since_64 rfl (by rw [kI_1]) (Nat.le_of_ble_eq_true rfl) rfl ?_
  refine g_goto (tgt := 27) dX8_since_67 (by decide) ?_
  refine g_lv [1, 2, 3, 0] rfl ?_
  exact ih27 l1 l2 (l3 + 1) m hf
theorem wX8_since_b27 (E : pEv) (z : Int32 × pMem) (k27 : Int32 → Int32 → Int32 → pMem → gO) (ih27 : ∀ (l1 : Int32) (l2 : Int32) (l3 : Int32)  (m : pMem), k27 l1 l2 l3 m = some z → gM E kX8_since z 27 [(0, .ref (eA E 0)), (1, .int l1), (2, .int l2), (3, .int l3)] [] m) (l1 : Int32) (l2 : Int32) (l3 : Int32) (m : pMem) (hf : sX8_since_b27 k27 l1 l2 l3 m = some z) : gM E kX8_since z 27 [(0, .ref (eA E 0)), (1, .int l1), (2, .int l2), (3, .int l3)] [] m := by
  unfold sX8_since_b27 at hf
  refine g_iload_n (q := 3) dX8_since_27 rfl rfl ?_
  refine g_sipush (v := 999) dX8_since_28 kS_999 ?_
  refine g_icmp_gt (tgt := 70) dX8_since_31 (by decide) (fun c7 => ?_) (fun c7 => ?_)
  · have hf := it_ hf c7
    refine g_iconst (v := (-1)) dX8_since_70 kI_m1 ?_
    exact g_ret dX8_since_71 rfl rfl (Option.some.inj hf).symm
  · have hf := ie_ hf c7
    refine g_aload_n (q := 0) dX8_since_34 rfl rfl ?_
    refine g_get dX8_since_35 fX8_65 (obX8 E m) (gvX8_7 E m) ?_
    refine g_iload_n (q := 3) dX8_since_38 rfl rfl ?_
    obtain ⟨r8, q9, hf⟩ := cbR_ hf
    refine g_cV (As := [.int l3]) dX8_since_39 (tX0_isMarked E m l3 q9) gyX0_isMarked giX0_isMarked gsX0_isMarked mX8_189 (⟨rfl, rfl, Nat.le_of_ble_eq_true rfl, Nat.le_of_ble_eq_true rfl, Nat.le_of_ble_eq_true rfl, Nat.le_of_ble_eq_true rfl⟩) rfl (obX0 E m) rfl rfl rfl (Nat.le_of_ble_eq_true rfl) ?_
    refine g_if_eq (tgt := 64) dX8_since_42 (by decide) (fun c10 => ?_) (fun c10 => ?_)
    · have hf := it_ hf c10
      exact wX8_since_b64 E z k27 ih27 l1 l2 l3 m hf
    · have hf := ie_ hf c10
      refine g_aload_n (q := 0) dX8_since_45 rfl rfl ?_
      refine g_get dX8_since_46 fX8_42 (obX8 E m) (gvX8_4 E m) ?_
      refine g_iload_n (q := 1) dX8_since_49 rfl rfl ?_
      refine g_iload_n (q := 3) dX8_since_50 rfl rfl ?_
      refine g_iconst (v := 0) dX8_since_51 kI_0 ?_
      obtain ⟨r11, m13, q12, hf⟩ := cbE_ hf
      refine g_cV (As := [.int l1, .int l3, .int 0]) dX8_since_52 (tX3_boundOn E m l1 l3 0 q12) gyX3_boundOn giX3_boundOn gsX3_boundOn mX8_185 (⟨rfl, rfl, Nat.le_of_ble_eq_true rfl, Nat.le_of_ble_eq_true rfl, Nat.le_of_ble_eq_true rfl, Nat.le_of_ble_eq_true rfl⟩) rfl (obX3 E m) rfl rfl rfl (Nat.le_of_ble_eq_true rfl) ?_
      refine g_iload_n (q := 2) dX8_since_55 rfl rfl ?_
      obtain ⟨r14, q15, hf⟩ := cbR_ hf
      refine g_cS (As := [.int r11, .int l2]) dX8_since_56 (tX8_isIn E m13 r11 l2 q15) gyX8_isIn giX8_isIn mX8_192 (⟨rfl, rfl, Nat.le_of_ble_eq_true rfl, Nat.le_of_ble_eq_true rfl, Nat.le_of_ble_eq_true rfl, Nat.le_of_ble_eq_true rfl⟩) rfl rfl rfl (Nat.le_of_ble_eq_true rfl) ?_
      refine g_if_eq (tgt := 64) dX8_since_59 (by decide) (fun c16 => ?_) (fun c16 => ?_)
      · have hf := it_ hf c16
        exact wX8_since_b64 E z k27 ih27 l1 l2 l3 m13 hf
      · have hf := ie_ hf c16
        refine g_iload_n (q := 3) dX8_since_62 rfl rfl ?_
        exact g_ret dX8_since_63 rfl rfl (Option.some.inj hf).symm
theorem wX8_since_l27 (E : pEv) (z : Int32 × pMem) : ∀ (n : Nat) (l1 : Int32) (l2 : Int32) (l3 : Int32) (m : pMem), sX8_since_l27 n l1 l2 l3 m = some z → gM E kX8_since z 27 [(0, .ref (eA E 0)), (1, .int l1), (2, .int l2), (3, .int l3)] [] m := by
  intro n
  induction n with
  | zero => intro l1 l2 l3 m  hf; cases (show (none : Option _) = some z from hf)
  | succ n ih => intro l1 l2 l3 m  hf; exact wX8_since_b27 E z  _  ih l1 l2 l3 m  hf
theorem wX8_since_b22 (E : pEv) (z : Int32 × pMem) (m : pMem) (hf : sX8_since_b22  m = some z) : gM E kX8_since z 22 [] [] m := by
  unfold sX8_since_b22 at hf
  refine g_bipush (v := (-2)) dX8_since_22 kB_m2 ?_
  exact g_ret dX8_since_24 rfl rfl (Option.some.inj hf).symm
theorem wX8_since_b0 (E : pEv) (z : Int32 × pMem) (a1 : Int32) (a2 : Int32) (m : pMem) (hf : sX8_since a1 a2 m = some z) : gM E kX8_since z 0 [(0, .ref (eA E 0)), (1, .int a1), (2, .int a2)] [] m := by
  unfold sX8_since at hf
  refine g_aload_n (q := 0) dX8_since_0 rfl rfl ?_
  refine g_get dX8_since_1 fX8_42 (obX8 E m) (gvX8_4 E m) ?_
  refine g_iload_n (q := 1) dX8_since_4 rfl rfl ?_
  obtain ⟨r1, q2, hf⟩ := cbR_ hf
  refine g_cV (As := [.int a1]) dX8_since_5 (tX3_knowsPact E m a1 q2) gyX3_knowsPact giX3_knowsPact gsX3_knowsPact mX8_168 (⟨rfl, rfl, Nat.le_of_ble_eq_true rfl, Nat.le_of_ble_eq_true rfl, Nat.le_of_ble_eq_true rfl, Nat.le_of_ble_eq_true rfl⟩) rfl (obX3 E m) rfl rfl rfl (Nat.le_of_ble_eq_true rfl) ?_
  refine g_if_eq (tgt := 22) dX8_since_8 (by decide) (fun c3 => ?_) (fun c3 => ?_)
  · have hf := it_ hf c3
    refine g_lv [] rfl ?_
    exact wX8_since_b22 E z  m hf
  · have hf := ie_ hf c3
    refine g_aload_n (q := 0) dX8_since_11 rfl rfl ?_
    refine g_get dX8_since_12 fX8_10 (obX8 E m) (gvX8_0 E m) ?_
    refine g_iload_n (q := 2) dX8_since_15 rfl rfl ?_
    obtain ⟨r4, q5, hf⟩ := cbR_ hf
    refine g_cV (As := [.int a2]) dX8_since_16 (tX2_knowsLand E m a2 q5) gyX2_knowsLand giX2_knowsLand gsX2_knowsLand mX8_119 (⟨rfl, rfl, Nat.le_of_ble_eq_true rfl, Nat.le_of_ble_eq_true rfl, Nat.le_of_ble_eq_true rfl, Nat.le_of_ble_eq_true rfl⟩) rfl (obX2 E m) rfl rfl rfl (Nat.le_of_ble_eq_true rfl) ?_
    refine g_if_ne (tgt := 25) dX8_since_19 (by decide) (fun c6 => ?_) (fun c6 => ?_)
    · have hf := it_ hf c6
      refine g_iconst (v := 0) dX8_since_25 kI_0 ?_
      refine g_istore_n dX8_since_26 rfl (Nat.le_of_ble_eq_true rfl) rfl ?_
      refine g_lv [1, 2, 3, 0] rfl ?_
      exact wX8_since_l27 E z  5000 a1 a2 0 m hf
    · have hf := ie_ hf (not_not_intro c6)
      refine g_lv [] rfl ?_
      exact wX8_since_b22 E z  m hf
theorem tX8_since (E : pEv) (m : pMem) (a1 : Int32) (a2 : Int32) {z : Int32 × pMem} (hf : sX8_since a1 a2 m = some z) : gCn E yX8_since kX8_since [.ref (eA E 0), .int a1, .int a2] m z := gCn_of (by decide +kernel) rfl rfl rfl (Nat.le_of_ble_eq_true rfl) rfl (wX8_since_b0 E z a1 a2 m  hf)
theorem wX1_addThing_b0 (E : pEv) (z : Int32 × pMem) (a1 : Int32) (a2 : Int32) (a3 : Int32) (m : pMem) (hf : sX1_addThing a1 a2 a3 m = some z) : gM E kX1_addThing z 0 [(0, .ref (eA E 2)), (1, .int a1), (2, .int a2), (3, .int a3)] [] m := by
  unfold sX1_addThing at hf
  refine g_aload_n (q := 0) dX1_addThing_0 rfl rfl ?_
  refine g_get dX1_addThing_1 fX1_40 (obX1 E m) (gvX1_10 E m) ?_
  refine nmI hf (fun x1 hf => ?_)
  refine g_istore dX1_addThing_4 (Nat.le_of_ble_eq_true rfl) rfl ?_
  refine g_aload_n (q := 1) dX1_addThing_6 rfl rfl ?_
  refine g_get dX1_addThing_7 fX1_31 (obX1 E m) (gvX1_7 E m) ?_
  refine g_iload (q := 0) dX1_addThing_10 rfl ?_
  refine g_iload_n (q := 2) dX1_addThing_12 rfl rfl ?_
  obtain ⟨h2, hf⟩ := gd_ hf
  refine g_iast dX1_addThing_13 ar_15 h2 ?_
  refine nmG hf (fun m3 hf => ?_)
  refine g_aload_n (q := 1) dX1_addThing_14 rfl rfl ?_
  refine g_get dX1_addThing_15 fX1_34 (obX1 E m3) (gvX1_8 E m3) ?_
  refine g_iload (q := 0) dX1_addThing_18 rfl ?_
  refine g_iload_n (q := 3) dX1_addThing_20 rfl rfl ?_
  obtain ⟨h4, hf⟩ := gd_ hf
  refine g_iast dX1_addThing_21 ar_16 h4 ?_
  refine nmG hf (fun m5 hf => ?_)
  refine g_aload_n (q := 1) dX1_addThing_22 rfl rfl ?_
  refine g_get dX1_addThing_23 fX1_37 (obX1 E m5) (gvX1_9 E m5) ?_
  refine g_iload (q := 0) dX1_addThing_26 rfl ?_
  refine g_iload_n (q := 4) dX1_addThing_28 rfl rfl ?_
  obtain ⟨h6, hf⟩ := gd_ hf
  refine g_iast dX1_addThing_29 ar_17 h6 ?_
  refine nmG hf (fun m7 hf => ?_)
  refine g_aload_n (q := 1) dX1_addThing_30 rfl rfl ?_
  refine g_dup dX1_addThing_31 rfl ?_
  refine g_get dX1_addThing_32 fX1_40 (obX1 E m7) (gvX1_10 E m7) ?_
  refine g_iconst (v := 1) dX1_addThing_35 kI_1 ?_
  refine g_iadd dX1_addThing_36 ?_
  refine g_put dX1_addThing_37 fX1_40 fwX1_10 rfl rfl (obX1 E m7) (Nat.le_of_ble_eq_true rfl) (psX1_10 E m7 _) ?_
  refine nmG hf (fun m8 hf => ?_)
  refine g_iload (q := 0) dX1_addThing_40 rfl ?_
  exact g_ret dX1_addThing_42 rfl rfl (Option.some.inj hf).symm
theorem tX1_addThing (E : pEv) (m : pMem) (a1 : Int32) (a2 : Int32) (a3 : Int32) {z : Int32 × pMem} (hf : sX1_addThing a1 a2 a3 m = some z) : gCn E yX1_addThing kX1_addThing [.ref (eA E 2), .int a1, .int a2, .int a3] m z := gCn_of (by decide +kernel) rfl rfl rfl (Nat.le_of_ble_eq_true rfl) rfl (wX1_addThing_b0 E z a1 a2 a3 m  hf)
theorem wX8_thing_b89 (E : pEv) (z : Int32 × pMem) (t0 : Int32) (t1 : Int32) (t2 : Int32) (m : pMem) (hf : sX8_thing_b89 t0 t1 t2 m = some z) : gM E kX8_thing z 89 [] [.int t0, .int t1, .int t2, .ref (eA E 2)] m := by
  unfold sX8_thing_b89 at hf
  obtain ⟨r13, m15, q14, hf⟩ := cbE_ hf
  refine g_cV (As := [.int t2, .int t1, .int t0]) dX8_thing_89 (tX1_addThing E m t2 t1 t0 q14) gyX1_addThing giX1_addThing gsX1_addThing mX8_210 (⟨rfl, rfl, Nat.le_of_ble_eq_true rfl, Nat.le_of_ble_eq_true rfl, Nat.le_of_ble_eq_true rfl, Nat.le_of_ble_eq_true rfl⟩) rfl (obX1 E m) rfl rfl rfl (Nat.le_of_ble_eq_true rfl) ?_
  exact g_ret dX8_thing_92 rfl rfl (Option.some.inj hf).symm
theorem wX8_thing_b80 (E : pEv) (z : Int32 × pMem) (l1 : Int32) (l3 : Int32) (t0 : Int32) (t1 : Int32) (m : pMem) (hf : sX8_thing_b80 l1 l3 t0 t1 m = some z) : gM E kX8_thing z 80 [(1, .int l1), (3, .int l3)] [.int t0, .int t1, .ref (eA E 2)] m := by
  unfold sX8_thing_b80 at hf
  refine g_iload_n (q := 0) dX8_thing_80 rfl rfl ?_
  refine g_if_ne (tgt := 88) dX8_thing_81 (by decide) (fun c12 => ?_) (fun c12 => ?_)
  · have hf := it_ hf c12
    refine g_iconst (v := (-1)) dX8_thing_88 kI_m1 ?_
    refine g_lv [] rfl ?_
    exact wX8_thing_b89 E z  (-1) t0 t1 m hf
  · have hf := ie_ hf (not_not_intro c12)
    refine g_iload_n (q := 1) dX8_thing_84 rfl rfl ?_
    refine g_goto (tgt := 89) dX8_thing_85 (by decide) ?_
    refine g_lv [] rfl ?_
    exact wX8_thing_b89 E z  l3 t0 t1 m hf
theorem wX8_thing_b50 (E : pEv) (z : Int32 × pMem) (l1 : Int32) (l2 : Int32) (l3 : Int32) (m : pMem) (hf : sX8_thing_b50 l1 l2 l3 m = some z) : gM E kX8_thing z 50 [(0, .ref (eA E 0)), (1, .int l1), (2, .int l2), (3, .int l3)] [] m := by
  unfold sX8_thing_b50 at hf
  refine g_aload_n (q := 0) dX8_thing_50 rfl rfl ?_
  refine g_get dX8_thing_51 fX8_51 (obX8 E m) (gvX8_5 E m) ?_
  refine g_get dX8_thing_54 fX8_207 (obX1 E m) (gvX1_10 E m) ?_
  refine g_bipush (v := 8) dX8_thing_57 kB_8 ?_
  refine g_icmp_lt (tgt := 65) dX8_thing_59 (by decide) (fun c10 => ?_) (fun c10 => ?_)
  · have hf := it_ hf c10
    refine g_aload_n (q := 0) dX8_thing_65 rfl rfl ?_
    refine g_get dX8_thing_66 fX8_51 (obX8 E m) (gvX8_5 E m) ?_
    refine g_iload_n (q := 1) dX8_thing_69 rfl rfl ?_
    refine g_iload_n (q := 1) dX8_thing_70 rfl rfl ?_
    refine g_iconst (v := 1) dX8_thing_71 kI_1 ?_
    refine g_icmp_ne (tgt := 79) dX8_thing_72 (by decide) (fun c11 => ?_) (fun c11 => ?_)
    · have hf := it_ hf c11
      refine g_iconst (v := 1) dX8_thing_79 kI_1 ?_
      refine g_lv [1, 3] rfl ?_
      exact wX8_thing_b80 E z  l1 l3 1 l1 m hf
    · have hf := ie_ hf (not_not_intro c11)
      refine g_iload_n (q := 2) dX8_thing_75 rfl rfl ?_
      refine g_goto (tgt := 80) dX8_thing_76 (by decide) ?_
      refine g_lv [1, 3] rfl ?_
      exact wX8_thing_b80 E z  l1 l3 l2 l1 m hf
  · have hf := ie_ hf c10
    refine g_bipush (v := (-5)) dX8_thing_62 kB_m5 ?_
    exact g_ret dX8_thing_64 rfl rfl (Option.some.inj hf).symm
theorem wX8_thing_b32 (E : pEv) (z : Int32 × pMem) (l1 : Int32) (l2 : Int32) (l3 : Int32) (m : pMem) (hf : sX8_thing_b32 l1 l2 l3 m = some z) : gM E kX8_thing z 32 [(0, .ref (eA E 0)), (1, .int l1), (2, .int l2), (3, .int l3)] [] m := by
  unfold sX8_thing_b32 at hf
  refine g_iload_n (q := 1) dX8_thing_32 rfl rfl ?_
  refine g_if_ne (tgt := 50) dX8_thing_33 (by decide) (fun c6 => ?_) (fun c6 => ?_)
  · have hf := it_ hf c6
    exact wX8_thing_b50 E z  l1 l2 l3 m hf
  · have hf := ie_ hf (not_not_intro c6)
    refine g_aload_n (q := 0) dX8_thing_36 rfl rfl ?_
    refine g_get dX8_thing_37 fX8_10 (obX8 E m) (gvX8_0 E m) ?_
    refine g_iload_n (q := 3) dX8_thing_40 rfl rfl ?_
    obtain ⟨r7, q8, hf⟩ := cbR_ hf
    refine g_cV (As := [.int l3]) dX8_thing_41 (tX2_knowsGround E m l3 q8) gyX2_knowsGround giX2_knowsGround gsX2_knowsGround mX8_126 (⟨rfl, rfl, Nat.le_of_ble_eq_true rfl, Nat.le_of_ble_eq_true rfl, Nat.le_of_ble_eq_true rfl, Nat.le_of_ble_eq_true rfl⟩) rfl (obX2 E m) rfl rfl rfl (Nat.le_of_ble_eq_true rfl) ?_
    refine g_if_ne (tgt := 50) dX8_thing_44 (by decide) (fun c9 => ?_) (fun c9 => ?_)
    · have hf := it_ hf c9
      exact wX8_thing_b50 E z  l1 l2 l3 m hf
    · have hf := ie_ hf (not_not_intro c9)
      refine g_bipush (v := (-2)) dX8_thing_47 kB_m2 ?_
      exact g_ret dX8_thing_49 rfl rfl (Option.some.inj hf).symm
theorem wX8_thing_b9 (E : pEv) (z : Int32 × pMem) (m : pMem) (hf : sX8_thing_b9  m = some z) : gM E kX8_thing z 9 [] [] m := by
  unfold sX8_thing_b9 at hf
  refine g_bipush (v := (-3)) dX8_thing_9 kB_m3 ?_
  exact g_ret dX8_thing_11 rfl rfl (Option.some.inj hf).symm
theorem wX8_thing_b29 (E : pEv) (z : Int32 × pMem) (m : pMem) (hf : sX8_thing_b29  m = some z) : gM E kX8_thing z 29 [] [] m := by
  unfold sX8_thing_b29 at hf
  refine g_bipush (v := (-3)) dX8_thing_29 kB_m3 ?_
  exact g_ret dX8_thing_31 rfl rfl (Option.some.inj hf).symm
theorem wX8_thing_b0 (E : pEv) (z : Int32 × pMem) (a1 : Int32) (a2 : Int32) (a3 : Int32) (m : pMem) (hf : sX8_thing a1 a2 a3 m = some z) : gM E kX8_thing z 0 [(0, .ref (eA E 0)), (1, .int a1), (2, .int a2), (3, .int a3)] [] m := by
  unfold sX8_thing at hf
  refine g_iload_n (q := 1) dX8_thing_0 rfl rfl ?_
  refine g_if_lt (tgt := 9) dX8_thing_1 (by decide) (fun c1 => ?_) (fun c1 => ?_)
  · have hf := it_ hf c1
    refine g_lv [] rfl ?_
    exact wX8_thing_b9 E z  m hf
  · have hf := ie_ hf c1
    refine g_iload_n (q := 1) dX8_thing_4 rfl rfl ?_
    refine g_iconst (v := 2) dX8_thing_5 kI_2 ?_
    refine g_icmp_le (tgt := 12) dX8_thing_6 (by decide) (fun c2 => ?_) (fun c2 => ?_)
    · have hf := it_ hf c2
      refine g_iload_n (q := 1) dX8_thing_12 rfl rfl ?_
      refine g_iconst (v := 1) dX8_thing_13 kI_1 ?_
      refine g_icmp_ne (tgt := 32) dX8_thing_14 (by decide) (fun c3 => ?_) (fun c3 => ?_)
      · have hf := it_ hf c3
        exact wX8_thing_b32 E z  a1 a2 a3 m hf
      · have hf := ie_ hf (not_not_intro c3)
        refine g_iload_n (q := 2) dX8_thing_17 rfl rfl ?_
        refine g_iconst (v := 1) dX8_thing_18 kI_1 ?_
        refine g_icmp_lt (tgt := 29) dX8_thing_19 (by decide) (fun c4 => ?_) (fun c4 => ?_)
        · have hf := it_ hf c4
          refine g_lv [] rfl ?_
          exact wX8_thing_b29 E z  m hf
        · have hf := ie_ hf c4
          refine g_iload_n (q := 2) dX8_thing_22 rfl rfl ?_
          refine g_sipush (v := 9999) dX8_thing_23 kS_9999 ?_
          refine g_icmp_le (tgt := 32) dX8_thing_26 (by decide) (fun c5 => ?_) (fun c5 => ?_)
          · have hf := it_ hf c5
            exact wX8_thing_b32 E z  a1 a2 a3 m hf
          · have hf := ie_ hf c5
            refine g_lv [] rfl ?_
            exact wX8_thing_b29 E z  m hf
    · have hf := ie_ hf c2
      refine g_lv [] rfl ?_
      exact wX8_thing_b9 E z  m hf
theorem tX8_thing (E : pEv) (m : pMem) (a1 : Int32) (a2 : Int32) (a3 : Int32) {z : Int32 × pMem} (hf : sX8_thing a1 a2 a3 m = some z) : gCn E yX8_thing kX8_thing [.ref (eA E 0), .int a1, .int a2, .int a3] m z := gCn_of (by decide +kernel) rfl rfl rfl (Nat.le_of_ble_eq_true rfl) rfl (wX8_thing_b0 E z a1 a2 a3 m  hf)
theorem wX6_addVoice_b0 (E : pEv) (z : Int32 × pMem) (a1 : Int32) (a2 : Int32) (a3 : Int32) (a4 : Int32) (m : pMem) (hf : sX6_addVoice a1 a2 a3 a4 m = some z) : gM E kX6_addVoice z 0 [(0, .ref (eA E 7)), (1, .int a1), (2, .int a2), (3, .int a3), (4, .int a4)] [] m := by
  unfold sX6_addVoice at hf
  refine g_aload_n (q := 0) dX6_addVoice_0 rfl rfl ?_
  refine g_get dX6_addVoice_1 fX6_9 (obX6 E m) (gvX6_0 E m) ?_
  refine g_aload_n (q := 0) dX6_addVoice_4 rfl rfl ?_
  refine g_get dX6_addVoice_5 fX6_25 (obX6 E m) (gvX6_4 E m) ?_
  refine g_iload_n (q := 1) dX6_addVoice_8 rfl rfl ?_
  obtain ⟨h1, hf⟩ := gd_ hf
  refine g_iast dX6_addVoice_9 ar_55 h1 ?_
  refine nmG hf (fun m2 hf => ?_)
  refine g_aload_n (q := 0) dX6_addVoice_10 rfl rfl ?_
  refine g_get dX6_addVoice_11 fX6_15 (obX6 E m2) (gvX6_1 E m2) ?_
  refine g_aload_n (q := 0) dX6_addVoice_14 rfl rfl ?_
  refine g_get dX6_addVoice_15 fX6_25 (obX6 E m2) (gvX6_4 E m2) ?_
  refine g_iload_n (q := 2) dX6_addVoice_18 rfl rfl ?_
  obtain ⟨h3, hf⟩ := gd_ hf
  refine g_iast dX6_addVoice_19 ar_56 h3 ?_
  refine nmG hf (fun m4 hf => ?_)
  refine g_aload_n (q := 0) dX6_addVoice_20 rfl rfl ?_
  refine g_get dX6_addVoice_21 fX6_18 (obX6 E m4) (gvX6_2 E m4) ?_
  refine g_aload_n (q := 0) dX6_addVoice_24 rfl rfl ?_
  refine g_get dX6_addVoice_25 fX6_25 (obX6 E m4) (gvX6_4 E m4) ?_
  refine g_iload_n (q := 3) dX6_addVoice_28 rfl rfl ?_
  obtain ⟨h5, hf⟩ := gd_ hf
  refine g_zast dX6_addVoice_29 ar_57 h5 ?_
  refine nmG hf (fun m6 hf => ?_)
  refine g_aload_n (q := 0) dX6_addVoice_30 rfl rfl ?_
  refine g_get dX6_addVoice_31 fX6_22 (obX6 E m6) (gvX6_3 E m6) ?_
  refine g_aload_n (q := 0) dX6_addVoice_34 rfl rfl ?_
  refine g_get dX6_addVoice_35 fX6_25 (obX6 E m6) (gvX6_4 E m6) ?_
  refine g_iload (q := 4) dX6_addVoice_38 rfl ?_
  obtain ⟨h7, hf⟩ := gd_ hf
  refine g_iast dX6_addVoice_40 ar_58 h7 ?_
  refine nmG hf (fun m8 hf => ?_)
  refine g_aload_n (q := 0) dX6_addVoice_41 rfl rfl ?_
  refine g_dup dX6_addVoice_42 rfl ?_
  refine g_get dX6_addVoice_43 fX6_25 (obX6 E m8) (gvX6_4 E m8) ?_
  refine g_iconst (v := 1) dX6_addVoice_46 kI_1 ?_
  refine g_iadd dX6_addVoice_47 ?_
  refine g_put dX6_addVoice_48 fX6_25 fwX6_4 rfl rfl (obX6 E m8) (Nat.le_of_ble_eq_true rfl) (psX6_4 E m8 _) ?_
  refine nmG hf (fun m9 hf => ?_)
  refine g_aload_n (q := 0) dX6_addVoice_51 rfl rfl ?_
  refine g_get dX6_addVoice_52 fX6_25 (obX6 E m9) (gvX6_4 E m9) ?_
  exact g_ret dX6_addVoice_55 rfl rfl (Option.some.inj hf).symm
theorem tX6_addVoice (E : pEv) (m : pMem) (a1 : Int32) (a2 : Int32) (a3 : Int32) (a4 : Int32) {z : Int32 × pMem} (hf : sX6_addVoice a1 a2 a3 a4 m = some z) : gCn E yX6_addVoice kX6_addVoice [.ref (eA E 7), .int a1, .int a2, .int a3, .int a4] m z := gCn_of (by decide +kernel) rfl rfl rfl (Nat.le_of_ble_eq_true rfl) rfl (wX6_addVoice_b0 E z a1 a2 a3 a4 m  hf)
theorem wX8_voice_b18 (E : pEv) (z : Int32 × pMem) (m : pMem) (hf : sX8_voice_b18  m = some z) : gM E kX8_voice z 18 [] [] m := by
  unfold sX8_voice_b18 at hf
  refine g_bipush (v := (-2)) dX8_voice_18 kB_m2 ?_
  exact g_ret dX8_voice_20 rfl rfl (Option.some.inj hf).symm
theorem wX8_voice_b0 (E : pEv) (z : Int32 × pMem) (a1 : Int32) (a2 : Int32) (a3 : Int32) (a4 : Int32) (m : pMem) (hf : sX8_voice a1 a2 a3 a4 m = some z) : gM E kX8_voice z 0 [(0, .ref (eA E 0)), (1, .int a1), (2, .int a2), (3, .int a3), (4, .int a4)] [] m := by
  unfold sX8_voice at hf
  refine g_iload_n (q := 1) dX8_voice_0 rfl rfl ?_
  obtain ⟨r1, q2, hf⟩ := cbR_ hf
  refine g_cS (As := [.int a1]) dX8_voice_1 (tX8_isThird E m a1 q2) gyX8_isThird giX8_isThird mX8_158 (⟨rfl, rfl, Nat.le_of_ble_eq_true rfl, Nat.le_of_ble_eq_true rfl, Nat.le_of_ble_eq_true rfl, Nat.le_of_ble_eq_true rfl⟩) rfl rfl rfl (Nat.le_of_ble_eq_true rfl) ?_
  refine g_if_eq (tgt := 18) dX8_voice_4 (by decide) (fun c3 => ?_) (fun c3 => ?_)
  · have hf := it_ hf c3
    refine g_lv [] rfl ?_
    exact wX8_voice_b18 E z  m hf
  · have hf := ie_ hf c3
    refine g_aload_n (q := 0) dX8_voice_7 rfl rfl ?_
    refine g_get dX8_voice_8 fX8_10 (obX8 E m) (gvX8_0 E m) ?_
    refine g_iload_n (q := 2) dX8_voice_11 rfl rfl ?_
    obtain ⟨r4, q5, hf⟩ := cbR_ hf
    refine g_cV (As := [.int a2]) dX8_voice_12 (tX2_knowsLand E m a2 q5) gyX2_knowsLand giX2_knowsLand gsX2_knowsLand mX8_119 (⟨rfl, rfl, Nat.le_of_ble_eq_true rfl, Nat.le_of_ble_eq_true rfl, Nat.le_of_ble_eq_true rfl, Nat.le_of_ble_eq_true rfl⟩) rfl (obX2 E m) rfl rfl rfl (Nat.le_of_ble_eq_true rfl) ?_
    refine g_if_ne (tgt := 21) dX8_voice_15 (by decide) (fun c6 => ?_) (fun c6 => ?_)
    · have hf := it_ hf c6
      refine g_iload (q := 4) dX8_voice_21 rfl ?_
      obtain ⟨r7, q8, hf⟩ := cbR_ hf
      refine g_cS (As := [.int a4]) dX8_voice_23 (tX8_isDay E m a4 q8) gyX8_isDay giX8_isDay mX8_110 (⟨rfl, rfl, Nat.le_of_ble_eq_true rfl, Nat.le_of_ble_eq_true rfl, Nat.le_of_ble_eq_true rfl, Nat.le_of_ble_eq_true rfl⟩) rfl rfl rfl (Nat.le_of_ble_eq_true rfl) ?_
      refine g_if_ne (tgt := 32) dX8_voice_26 (by decide) (fun c9 => ?_) (fun c9 => ?_)
      · have hf := it_ hf c9
        refine g_aload_n (q := 0) dX8_voice_32 rfl rfl ?_
        refine g_get dX8_voice_33 fX8_33 (obX8 E m) (gvX8_3 E m) ?_
        refine g_get dX8_voice_36 fX8_178 (obX6 E m) (gvX6_4 E m) ?_
        refine g_bipush (v := 24) dX8_voice_39 kB_24 ?_
        refine g_icmp_lt (tgt := 47) dX8_voice_41 (by decide) (fun c10 => ?_) (fun c10 => ?_)
        · have hf := it_ hf c10
          refine g_aload_n (q := 0) dX8_voice_47 rfl rfl ?_
          refine g_get dX8_voice_48 fX8_65 (obX8 E m) (gvX8_7 E m) ?_
          refine g_iload (q := 4) dX8_voice_51 rfl ?_
          obtain ⟨r11, m13, q12, hf⟩ := cbE_ hf
          refine g_cVv (As := [.int a4]) dX8_voice_53 (tX0_mark E m a4 q12) gyX0_mark giX0_mark gsX0_mark mX8_102 (⟨rfl, rfl, Nat.le_of_ble_eq_true rfl, Nat.le_of_ble_eq_true rfl, Nat.le_of_ble_eq_true rfl, Nat.le_of_ble_eq_true rfl⟩) rfl (obX0 E m) rfl rfl rfl (Nat.le_of_ble_eq_true rfl) ?_
          refine g_aload_n (q := 0) dX8_voice_56 rfl rfl ?_
          refine g_get dX8_voice_57 fX8_33 (obX8 E m13) (gvX8_3 E m13) ?_
          refine g_iload_n (q := 1) dX8_voice_60 rfl rfl ?_
          refine g_iload_n (q := 2) dX8_voice_61 rfl rfl ?_
          refine g_iload_n (q := 3) dX8_voice_62 rfl rfl ?_
          refine g_iload (q := 4) dX8_voice_63 rfl ?_
          obtain ⟨r14, m16, q15, hf⟩ := cbE_ hf
          refine g_cV (As := [.int a1, .int a2, .int a3, .int a4]) dX8_voice_65 (tX6_addVoice E m13 a1 a2 a3 a4 q15) gyX6_addVoice giX6_addVoice gsX6_addVoice mX8_181 (⟨rfl, rfl, Nat.le_of_ble_eq_true rfl, Nat.le_of_ble_eq_true rfl, Nat.le_of_ble_eq_true rfl, Nat.le_of_ble_eq_true rfl⟩) rfl (obX6 E m13) rfl rfl rfl (Nat.le_of_ble_eq_true rfl) ?_
          exact g_ret dX8_voice_68 rfl rfl (Option.some.inj hf).symm
        · have hf := ie_ hf c10
          refine g_bipush (v := (-5)) dX8_voice_44 kB_m5 ?_
          exact g_ret dX8_voice_46 rfl rfl (Option.some.inj hf).symm
      · have hf := ie_ hf (not_not_intro c9)
        refine g_bipush (v := (-3)) dX8_voice_29 kB_m3 ?_
        exact g_ret dX8_voice_31 rfl rfl (Option.some.inj hf).symm
    · have hf := ie_ hf (not_not_intro c6)
      refine g_lv [] rfl ?_
      exact wX8_voice_b18 E z  m hf
theorem tX8_voice (E : pEv) (m : pMem) (a1 : Int32) (a2 : Int32) (a3 : Int32) (a4 : Int32) {z : Int32 × pMem} (hf : sX8_voice a1 a2 a3 a4 m = some z) : gCn E yX8_voice kX8_voice [.ref (eA E 0), .int a1, .int a2, .int a3, .int a4] m z := gCn_of (by decide +kernel) rfl rfl rfl (Nat.le_of_ble_eq_true rfl) rfl (wX8_voice_b0 E z a1 a2 a3 a4 m  hf)
theorem wX8_whose_b0 (E : pEv) (z : Int32) (a1 : Int32) (a2 : Int32) (m : pMem) (hf : sX8_whose a1 a2 m = some z) : gM E kX8_whose (z, m) 0 [(0, .ref (eA E 0)), (1, .int a1), (2, .int a2)] [] m := by
  unfold sX8_whose at hf
  refine g_aload_n (q := 0) dX8_whose_0 rfl rfl ?_
  refine g_get dX8_whose_1 fX8_10 (obX8 E m) (gvX8_0 E m) ?_
  refine g_iload_n (q := 1) dX8_whose_4 rfl rfl ?_
  obtain ⟨r1, q2, hf⟩ := cbR_ hf
  refine g_cV (As := [.int a1]) dX8_whose_5 (tX2_knowsGround E m a1 q2) gyX2_knowsGround giX2_knowsGround gsX2_knowsGround mX8_126 (⟨rfl, rfl, Nat.le_of_ble_eq_true rfl, Nat.le_of_ble_eq_true rfl, Nat.le_of_ble_eq_true rfl, Nat.le_of_ble_eq_true rfl⟩) rfl (obX2 E m) rfl rfl rfl (Nat.le_of_ble_eq_true rfl) ?_
  refine g_if_ne (tgt := 14) dX8_whose_8 (by decide) (fun c3 => ?_) (fun c3 => ?_)
  · have hf := it_ hf c3
    refine g_iload_n (q := 2) dX8_whose_14 rfl rfl ?_
    obtain ⟨r4, q5, hf⟩ := cbR_ hf
    refine g_cS (As := [.int a2]) dX8_whose_15 (tX8_isDay E m a2 q5) gyX8_isDay giX8_isDay mX8_110 (⟨rfl, rfl, Nat.le_of_ble_eq_true rfl, Nat.le_of_ble_eq_true rfl, Nat.le_of_ble_eq_true rfl, Nat.le_of_ble_eq_true rfl⟩) rfl rfl rfl (Nat.le_of_ble_eq_true rfl) ?_
    refine g_if_ne (tgt := 24) dX8_whose_18 (by decide) (fun c6 => ?_) (fun c6 => ?_)
    · have hf := it_ hf c6
      refine g_aload_n (q := 0) dX8_whose_24 rfl rfl ?_
      refine g_get dX8_whose_25 fX8_10 (obX8 E m) (gvX8_0 E m) ?_
      refine g_iload_n (q := 1) dX8_whose_28 rfl rfl ?_
      refine g_aload_n (q := 0) dX8_whose_29 rfl rfl ?_
      refine g_get dX8_whose_30 fX8_10 (obX8 E m) (gvX8_0 E m) ?_
      refine g_iload_n (q := 2) dX8_whose_33 rfl rfl ?_
      obtain ⟨r7, q8, hf⟩ := cbR_ hf
      refine g_cV (As := [.int a2]) dX8_whose_34 (tX2_changesBy E m a2 q8) gyX2_changesBy giX2_changesBy gsX2_changesBy mX8_116 (⟨rfl, rfl, Nat.le_of_ble_eq_true rfl, Nat.le_of_ble_eq_true rfl, Nat.le_of_ble_eq_true rfl, Nat.le_of_ble_eq_true rfl⟩) rfl (obX2 E m) rfl rfl rfl (Nat.le_of_ble_eq_true rfl) ?_
      obtain ⟨r9, q10, hf⟩ := cbR_ hf
      refine g_cV (As := [.int a1, .int r7]) dX8_whose_37 (tX2_ownerOf E m a1 r7 q10) gyX2_ownerOf giX2_ownerOf gsX2_ownerOf mX8_129 (⟨rfl, rfl, Nat.le_of_ble_eq_true rfl, Nat.le_of_ble_eq_true rfl, Nat.le_of_ble_eq_true rfl, Nat.le_of_ble_eq_true rfl⟩) rfl (obX2 E m) rfl rfl rfl (Nat.le_of_ble_eq_true rfl) ?_
      exact g_ret dX8_whose_40 rfl rfl (by rw [Option.some.inj hf])
    · have hf := ie_ hf (not_not_intro c6)
      refine g_bipush (v := (-3)) dX8_whose_21 kB_m3 ?_
      exact g_ret dX8_whose_23 rfl rfl (by rw [Option.some.inj hf])
  · have hf := ie_ hf (not_not_intro c3)
    refine g_bipush (v := (-2)) dX8_whose_11 kB_m2 ?_
    exact g_ret dX8_whose_13 rfl rfl (by rw [Option.some.inj hf])
theorem tX8_whose (E : pEv) (m : pMem) (a1 : Int32) (a2 : Int32) {z : Int32} (hf : sX8_whose a1 a2 m = some z) : gCn E yX8_whose kX8_whose [.ref (eA E 0), .int a1, .int a2] m (z, m) := gCn_of (by decide +kernel) rfl rfl rfl (Nat.le_of_ble_eq_true rfl) rfl (wX8_whose_b0 E z a1 a2 m  hf)
theorem wX7_firstWordsAbout_b40 (E : pEv) (z : Int32) (l2 : Int32) (m : pMem) (hf : sX7_firstWordsAbout_b40 l2 m = some z) : gM E kX7_firstWordsAbout (z, m) 40 [(2, .int l2)] [] m := by
  unfold sX7_firstWordsAbout_b40 at hf
  refine g_iload_n (q := 0) dX7_firstWordsAbout_40 rfl rfl ?_
  exact g_ret dX7_firstWordsAbout_41 rfl rfl (by rw [Option.some.inj hf])
theorem wX7_firstWordsAbout_b34 (E : pEv) (z : Int32) (k4 : Int32 → Int32 → Int32 → pMem → (Option Int32)) (ih4 : ∀ (l1 : Int32) (l2 : Int32) (l3 : Int32)  (m : pMem), k4 l1 l2 l3 m = some z → gM E kX7_firstWordsAbout (z, m) 4 [(0, .ref (eA E 8)), (1, .int l1), (2, .int l2), (3, .int l3)] [] m) (l1 : Int32) (l2 : Int32) (l3 : Int32) (m : pMem) (hf : sX7_firstWordsAbout_b34 k4 l1 l2 l3 m = some z) : gM E kX7_firstWordsAbout (z, m) 34 [(0, .ref (eA E 8)), (1, .int l1), (2, .int l2), (3, .int l3)] [] m := by
  unfold sX7_firstWordsAbout_b34 at hf
  refine g_iinc (q := 3) (v := l3 + 1) dX7_firstWordsAbout_34 rfl (by rw [kI_1]) (Nat.le_of_ble_eq_true rfl) rfl ?_
  refine g_goto (tgt := 4) dX7_firstWordsAbout_37 (by decide) ?_
  refine g_lv [1, 2, 3, 0] rfl ?_
  exact ih4 l1 l2 (l3 + 1) m hf
theorem wX7_firstWordsAbout_b4 (E : pEv) (z : Int32) (k4 : Int32 → Int32 → Int32 → pMem → (Option Int32)) (ih4 : ∀ (l1 : Int32) (l2 : Int32) (l3 : Int32)  (m : pMem), k4 l1 l2 l3 m = some z → gM E kX7_firstWordsAbout (z, m) 4 [(0, .ref (eA E 8)), (1, .int l1), (2, .int l2), (3, .int l3)] [] m) (l1 : Int32) (l2 : Int32) (l3 : Int32) (m : pMem) (hf : sX7_firstWordsAbout_b4 k4 l1 l2 l3 m = some z) : gM E kX7_firstWordsAbout (z, m) 4 [(0, .ref (eA E 8)), (1, .int l1), (2, .int l2), (3, .int l3)] [] m := by
  unfold sX7_firstWordsAbout_b4 at hf
  refine g_iload_n (q := 3) dX7_firstWordsAbout_4 rfl rfl ?_
  refine g_aload_n (q := 0) dX7_firstWordsAbout_5 rfl rfl ?_
  refine g_get dX7_firstWordsAbout_6 fX7_28 (obX7 E m) (gvX7_5 E m) ?_
  refine g_icmp_ge (tgt := 40) dX7_firstWordsAbout_9 (by decide) (fun c1 => ?_) (fun c1 => ?_)
  · have hf := it_ hf c1
    refine g_lv [2] rfl ?_
    exact wX7_firstWordsAbout_b40 E z  l2 m hf
  · have hf := ie_ hf c1
    refine g_iload_n (q := 3) dX7_firstWordsAbout_12 rfl rfl ?_
    refine g_bipush (v := 10) dX7_firstWordsAbout_13 kB_10 ?_
    refine g_icmp_ge (tgt := 40) dX7_firstWordsAbout_15 (by decide) (fun c2 => ?_) (fun c2 => ?_)
    · have hf := it_ hf c2
      refine g_lv [2] rfl ?_
      exact wX7_firstWordsAbout_b40 E z  l2 m hf
    · have hf := ie_ hf c2
      refine g_aload_n (q := 0) dX7_firstWordsAbout_18 rfl rfl ?_
      refine g_get dX7_firstWordsAbout_19 fX7_9 (obX7 E m) (gvX7_0 E m) ?_
      refine g_iload_n (q := 3) dX7_firstWordsAbout_22 rfl rfl ?_
      obtain ⟨h3, hf⟩ := gd_ hf
      refine g_iald dX7_firstWordsAbout_23 ar_59 h3 ?_
      refine g_iload_n (q := 1) dX7_firstWordsAbout_24 rfl rfl ?_
      refine g_icmp_ne (tgt := 34) dX7_firstWordsAbout_25 (by decide) (fun c4 => ?_) (fun c4 => ?_)
      · have hf := it_ hf c4
        exact wX7_firstWordsAbout_b34 E z k4 ih4 l1 l2 l3 m hf
      · have hf := ie_ hf (not_not_intro c4)
        refine g_iload_n (q := 2) dX7_firstWordsAbout_28 rfl rfl ?_
        refine g_iconst (v := 1) dX7_firstWordsAbout_29 kI_1 ?_
        refine g_iload_n (q := 3) dX7_firstWordsAbout_30 rfl rfl ?_
        refine g_ishl dX7_firstWordsAbout_31 ?_
        refine g_ior dX7_firstWordsAbout_32 ?_
        refine nmI hf (fun x5 hf => ?_)
        refine g_istore_n dX7_firstWordsAbout_33 rfl (Nat.le_of_ble_eq_true rfl) rfl ?_
        refine g_lv [1, 2, 0, 3] rfl ?_
        exact wX7_firstWordsAbout_b34 E z k4 ih4 l1 x5 l3 m hf
theorem wX7_firstWordsAbout_l4 (E : pEv) (z : Int32) : ∀ (n : Nat) (l1 : Int32) (l2 : Int32) (l3 : Int32) (m : pMem), sX7_firstWordsAbout_l4 n l1 l2 l3 m = some z → gM E kX7_firstWordsAbout (z, m) 4 [(0, .ref (eA E 8)), (1, .int l1), (2, .int l2), (3, .int l3)] [] m := by
  intro n
  induction n with
  | zero => intro l1 l2 l3 m  hf; cases (show (none : Option _) = some z from hf)
  | succ n ih => intro l1 l2 l3 m  hf; exact wX7_firstWordsAbout_b4 E z  _  ih l1 l2 l3 m  hf
theorem wX7_firstWordsAbout_b0 (E : pEv) (z : Int32) (a1 : Int32) (m : pMem) (hf : sX7_firstWordsAbout a1 m = some z) : gM E kX7_firstWordsAbout (z, m) 0 [(0, .ref (eA E 8)), (1, .int a1)] [] m := by
  unfold sX7_firstWordsAbout at hf
  refine g_iconst (v := 0) dX7_firstWordsAbout_0 kI_0 ?_
  refine g_istore_n dX7_firstWordsAbout_1 rfl (Nat.le_of_ble_eq_true rfl) rfl ?_
  refine g_iconst (v := 0) dX7_firstWordsAbout_2 kI_0 ?_
  refine g_istore_n dX7_firstWordsAbout_3 rfl (Nat.le_of_ble_eq_true rfl) rfl ?_
  refine g_lv [2, 3, 1, 0] rfl ?_
  exact wX7_firstWordsAbout_l4 E z  5000 a1 0 0 m hf
theorem tX7_firstWordsAbout (E : pEv) (m : pMem) (a1 : Int32) {z : Int32} (hf : sX7_firstWordsAbout a1 m = some z) : gCn E yX7_firstWordsAbout kX7_firstWordsAbout [.ref (eA E 8), .int a1] m (z, m) := gCn_of (by decide +kernel) rfl rfl rfl (Nat.le_of_ble_eq_true rfl) rfl (wX7_firstWordsAbout_b0 E z a1 m  hf)
theorem wX3_fewestLeftOut_b79 (E : pEv) (z : Int32 × pMem) (k16 : Int32 → Int32 → Int32 → Int32 → Int32 → Int32 → Int32 → pMem → gO) (ih16 : ∀ (l1 : Int32) (l2 : Int32) (l3 : Int32) (l4 : Int32) (l5 : Int32) (l6 : Int32) (l7 : Int32)  (m : pMem), k16 l1 l2 l3 l4 l5 l6 l7 m = some z → gM E kX3_fewestLeftOut z 16 [(0, .ref (eA E 4)), (1, .int l1), (2, .int l2), (3, .int l3), (4, .int l4), (5, .int l5), (6, .int l6), (7, .int l7)] [] m) (l1 : Int32) (l2 : Int32) (l3 : Int32) (l4 : Int32) (l5 : Int32) (l6 : Int32) (l7 : Int32) (m : pMem) (hf : sX3_fewestLeftOut_b79 k16 l1 l2 l3 l4 l5 l6 l7 m = some z) : gM E kX3_fewestLeftOut z 79 [(0, .ref (eA E 4)), (1, .int l1), (2, .int l2), (3, .int l3), (4, .int l4), (5, .int l5), (6, .int l6), (7, .int l7)] [] m := by
  unfold sX3_fewestLeftOut_b79 at hf
  refine g_iinc (q := 7) (v := l7 + 1) dX3_fewestLeftOut_79 rfl (by rw [kI_1]) (Nat.le_of_ble_eq_true rfl) rfl ?_
  refine g_goto (tgt := 16) dX3_fewestLeftOut_82 (by decide) ?_
  refine g_lv [1, 2, 3, 4, 5, 6, 7, 0] rfl ?_
  exact ih16 l1 l2 l3 l4 l5 l6 (l7 + 1) m hf
theorem wX3_fewestLeftOut_b58 (E : pEv) (z : Int32 × pMem) (k16 : Int32 → Int32 → Int32 → Int32 → Int32 → Int32 → Int32 → pMem → gO) (ih16 : ∀ (l1 : Int32) (l2 : Int32) (l3 : Int32) (l4 : Int32) (l5 : Int32) (l6 : Int32) (l7 : Int32)  (m : pMem), k16 l1 l2 l3 l4 l5 l6 l7 m = some z → gM E kX3_fewestLeftOut z 16 [(0, .ref (eA E 4)), (1, .int l1), (2, .int l2), (3, .int l3), (4, .int l4), (5, .int l5), (6, .int l6), (7, .int l7)] [] m) (l1 : Int32) (l2 : Int32) (l3 : Int32) (l4 : Int32) (l5 : Int32) (l6 : Int32) (l7 : Int32) (m : pMem) (hf : sX3_fewestLeftOut_b58 k16 l1 l2 l3 l4 l5 l6 l7 m = some z) : gM E kX3_fewestLeftOut z 58 [(0, .ref (eA E 4)), (1, .int l1), (2, .int l2), (3, .int l3), (4, .int l4), (5, .int l5), (6, .int l6), (7, .int l7)] [] m := by
  unfold sX3_fewestLeftOut_b58 at hf
  refine g_aload_n (q := 0) dX3_fewestLeftOut_58 rfl rfl ?_
  refine g_iload_n (q := 1) dX3_fewestLeftOut_59 rfl rfl ?_
  refine g_iload_n (q := 3) dX3_fewestLeftOut_60 rfl rfl ?_
  refine g_iload (q := 7) dX3_fewestLeftOut_61 rfl ?_
  obtain ⟨r12, m14, q13, hf⟩ := cbE_ hf
  refine g_cV (As := [.int l1, .int l3, .int l7]) dX3_fewestLeftOut_63 (tX3_boundOn E m l1 l3 l7 q13) gyX3_boundOn giX3_boundOn gsX3_boundOn mX3_135 (⟨rfl, rfl, Nat.le_of_ble_eq_true rfl, Nat.le_of_ble_eq_true rfl, Nat.le_of_ble_eq_true rfl, Nat.le_of_ble_eq_true rfl⟩) rfl (obX3 E m) rfl rfl rfl (Nat.le_of_ble_eq_true rfl) ?_
  refine g_iload_n (q := 2) dX3_fewestLeftOut_66 rfl rfl ?_
  obtain ⟨r15, q16, hf⟩ := cbR_ hf
  refine g_cSN (As := [.int r12, .int l2]) dX3_fewestLeftOut_67 (tX8_isIn E m14 r12 l2 q16) gyX8_isIn giX8_isIn nX3_120 (⟨rfl, rfl, Nat.le_of_ble_eq_true rfl, Nat.le_of_ble_eq_true rfl, Nat.le_of_ble_eq_true rfl, Nat.le_of_ble_eq_true rfl⟩) rfl rfl rfl (Nat.le_of_ble_eq_true rfl) ?_
  refine g_iload (q := 4) dX3_fewestLeftOut_70 rfl ?_
  refine g_icmp_ne (tgt := 79) dX3_fewestLeftOut_72 (by decide) (fun c17 => ?_) (fun c17 => ?_)
  · have hf := it_ hf c17
    exact wX3_fewestLeftOut_b79 E z k16 ih16 l1 l2 l3 l4 l5 l6 l7 m14 hf
  · have hf := ie_ hf (not_not_intro c17)
    refine g_iload (q := 7) dX3_fewestLeftOut_75 rfl ?_
    refine g_istore dX3_fewestLeftOut_77 (Nat.le_of_ble_eq_true rfl) rfl ?_
    refine g_lv [1, 2, 3, 4, 5, 6, 0, 7] rfl ?_
    exact wX3_fewestLeftOut_b79 E z k16 ih16 l1 l2 l3 l4 l5 l7 l7 m14 hf
theorem wX3_fewestLeftOut_b16 (E : pEv) (z : Int32 × pMem) (k16 : Int32 → Int32 → Int32 → Int32 → Int32 → Int32 → Int32 → pMem → gO) (ih16 : ∀ (l1 : Int32) (l2 : Int32) (l3 : Int32) (l4 : Int32) (l5 : Int32) (l6 : Int32) (l7 : Int32)  (m : pMem), k16 l1 l2 l3 l4 l5 l6 l7 m = some z → gM E kX3_fewestLeftOut z 16 [(0, .ref (eA E 4)), (1, .int l1), (2, .int l2), (3, .int l3), (4, .int l4), (5, .int l5), (6, .int l6), (7, .int l7)] [] m) (l1 : Int32) (l2 : Int32) (l3 : Int32) (l4 : Int32) (l5 : Int32) (l6 : Int32) (l7 : Int32) (m : pMem) (hf : sX3_fewestLeftOut_b16 k16 l1 l2 l3 l4 l5 l6 l7 m = some z) : gM E kX3_fewestLeftOut z 16 [(0, .ref (eA E 4)), (1, .int l1), (2, .int l2), (3, .int l3), (4, .int l4), (5, .int l5), (6, .int l6), (7, .int l7)] [] m := by
  unfold sX3_fewestLeftOut_b16 at hf
  refine g_iload (q := 7) dX3_fewestLeftOut_16 rfl ?_
  refine g_sipush (v := 1024) dX3_fewestLeftOut_18 kS_1024 ?_
  refine g_icmp_ge (tgt := 85) dX3_fewestLeftOut_21 (by decide) (fun c4 => ?_) (fun c4 => ?_)
  · have hf := it_ hf c4
    refine g_iload (q := 6) dX3_fewestLeftOut_85 rfl ?_
    exact g_ret dX3_fewestLeftOut_87 rfl rfl (Option.some.inj hf).symm
  · have hf := ie_ hf c4
    refine g_iload (q := 7) dX3_fewestLeftOut_24 rfl ?_
    refine g_iload (q := 5) dX3_fewestLeftOut_26 rfl ?_
    refine g_iconst (v := (-1)) dX3_fewestLeftOut_28 kI_m1 ?_
    refine g_ixor dX3_fewestLeftOut_29 ?_
    refine g_iand dX3_fewestLeftOut_30 ?_
    refine g_if_eq (tgt := 37) dX3_fewestLeftOut_31 (by decide) (fun c5 => ?_) (fun c5 => ?_)
    · have hf := it_ hf c5
      refine g_iload (q := 6) dX3_fewestLeftOut_37 rfl ?_
      refine g_if_lt (tgt := 58) dX3_fewestLeftOut_39 (by decide) (fun c6 => ?_) (fun c6 => ?_)
      · have hf := it_ hf c6
        exact wX3_fewestLeftOut_b58 E z k16 ih16 l1 l2 l3 l4 l5 l6 l7 m hf
      · have hf := ie_ hf c6
        refine g_iload (q := 7) dX3_fewestLeftOut_42 rfl ?_
        obtain ⟨r7, q8, hf⟩ := cbR_ hf
        refine g_cS (As := [.int l7]) dX3_fewestLeftOut_44 (tJ6_bitCount_0f7a4 E m l7 q8) gyJ6_bitCount_0f7a4 giJ6_bitCount_0f7a4 mX3_138 (⟨rfl, rfl, Nat.le_of_ble_eq_true rfl, Nat.le_of_ble_eq_true rfl, Nat.le_of_ble_eq_true rfl, Nat.le_of_ble_eq_true rfl⟩) rfl rfl rfl (Nat.le_of_ble_eq_true rfl) ?_
        refine g_iload (q := 6) dX3_fewestLeftOut_47 rfl ?_
        obtain ⟨r9, q10, hf⟩ := cbR_ hf
        refine g_cS (As := [.int l6]) dX3_fewestLeftOut_49 (tJ6_bitCount_0f7a4 E m l6 q10) gyJ6_bitCount_0f7a4 giJ6_bitCount_0f7a4 mX3_138 (⟨rfl, rfl, Nat.le_of_ble_eq_true rfl, Nat.le_of_ble_eq_true rfl, Nat.le_of_ble_eq_true rfl, Nat.le_of_ble_eq_true rfl⟩) rfl rfl rfl (Nat.le_of_ble_eq_true rfl) ?_
        refine g_icmp_lt (tgt := 58) dX3_fewestLeftOut_52 (by decide) (fun c11 => ?_) (fun c11 => ?_)
        · have hf := it_ hf c11
          exact wX3_fewestLeftOut_b58 E z k16 ih16 l1 l2 l3 l4 l5 l6 l7 m hf
        · have hf := ie_ hf c11
          refine g_goto (tgt := 79) dX3_fewestLeftOut_55 (by decide) ?_
          exact wX3_fewestLeftOut_b79 E z k16 ih16 l1 l2 l3 l4 l5 l6 l7 m hf
    · have hf := ie_ hf c5
      refine g_goto (tgt := 79) dX3_fewestLeftOut_34 (by decide) ?_
      exact wX3_fewestLeftOut_b79 E z k16 ih16 l1 l2 l3 l4 l5 l6 l7 m hf
theorem wX3_fewestLeftOut_l16 (E : pEv) (z : Int32 × pMem) : ∀ (n : Nat) (l1 : Int32) (l2 : Int32) (l3 : Int32) (l4 : Int32) (l5 : Int32) (l6 : Int32) (l7 : Int32) (m : pMem), sX3_fewestLeftOut_l16 n l1 l2 l3 l4 l5 l6 l7 m = some z → gM E kX3_fewestLeftOut z 16 [(0, .ref (eA E 4)), (1, .int l1), (2, .int l2), (3, .int l3), (4, .int l4), (5, .int l5), (6, .int l6), (7, .int l7)] [] m := by
  intro n
  induction n with
  | zero => intro l1 l2 l3 l4 l5 l6 l7 m  hf; cases (show (none : Option _) = some z from hf)
  | succ n ih => intro l1 l2 l3 l4 l5 l6 l7 m  hf; exact wX3_fewestLeftOut_b16 E z  _  ih l1 l2 l3 l4 l5 l6 l7 m  hf
theorem wX3_fewestLeftOut_b0 (E : pEv) (z : Int32 × pMem) (a1 : Int32) (a2 : Int32) (a3 : Int32) (a4 : Int32) (m : pMem) (hf : sX3_fewestLeftOut a1 a2 a3 a4 m = some z) : gM E kX3_fewestLeftOut z 0 [(0, .ref (eA E 4)), (1, .int a1), (2, .int a2), (3, .int a3), (4, .int a4)] [] m := by
  unfold sX3_fewestLeftOut at hf
  refine g_aload_n (q := 0) dX3_fewestLeftOut_0 rfl rfl ?_
  refine g_get dX3_fewestLeftOut_1 fX3_48 (obX3 E m) (gvX3_2 E m) ?_
  refine g_iload_n (q := 1) dX3_fewestLeftOut_4 rfl rfl ?_
  obtain ⟨r1, q2, hf⟩ := cbR_ hf
  refine g_cV (As := [.int a1]) dX3_fewestLeftOut_5 (tX7_firstWordsAbout E m a1 q2) gyX7_firstWordsAbout giX7_firstWordsAbout gsX7_firstWordsAbout mX3_152 (⟨rfl, rfl, Nat.le_of_ble_eq_true rfl, Nat.le_of_ble_eq_true rfl, Nat.le_of_ble_eq_true rfl, Nat.le_of_ble_eq_true rfl⟩) rfl (obX7 E m) rfl rfl rfl (Nat.le_of_ble_eq_true rfl) ?_
  refine g_istore dX3_fewestLeftOut_8 (Nat.le_of_ble_eq_true rfl) rfl ?_
  refine g_iconst (v := (-1)) dX3_fewestLeftOut_10 kI_m1 ?_
  refine nmI hf (fun x3 hf => ?_)
  refine g_istore dX3_fewestLeftOut_11 (Nat.le_of_ble_eq_true rfl) rfl ?_
  refine g_iconst (v := 0) dX3_fewestLeftOut_13 kI_0 ?_
  refine g_istore dX3_fewestLeftOut_14 (Nat.le_of_ble_eq_true rfl) rfl ?_
  refine g_lv [3, 4, 5, 6, 7, 2, 1, 0] rfl ?_
  exact wX3_fewestLeftOut_l16 E z  5000 a1 a2 a3 a4 r1 x3 0 m hf
theorem tX3_fewestLeftOut (E : pEv) (m : pMem) (a1 : Int32) (a2 : Int32) (a3 : Int32) (a4 : Int32) {z : Int32 × pMem} (hf : sX3_fewestLeftOut a1 a2 a3 a4 m = some z) : gCn E yX3_fewestLeftOut kX3_fewestLeftOut [.ref (eA E 4), .int a1, .int a2, .int a3, .int a4] m z := gCn_of (by decide +kernel) rfl rfl rfl (Nat.le_of_ble_eq_true rfl) rfl (wX3_fewestLeftOut_b0 E z a1 a2 a3 a4 m  hf)
theorem wX8_without_b22 (E : pEv) (z : Int32 × pMem) (m : pMem) (hf : sX8_without_b22  m = some z) : gM E kX8_without z 22 [] [] m := by
  unfold sX8_without_b22 at hf
  refine g_bipush (v := (-2)) dX8_without_22 kB_m2 ?_
  exact g_ret dX8_without_24 rfl rfl (Option.some.inj hf).symm
theorem wX8_without_b0 (E : pEv) (z : Int32 × pMem) (a1 : Int32) (a2 : Int32) (a3 : Int32) (a4 : Int32) (m : pMem) (hf : sX8_without a1 a2 a3 a4 m = some z) : gM E kX8_without z 0 [(0, .ref (eA E 0)), (1, .int a1), (2, .int a2), (3, .int a3), (4, .int a4)] [] m := by
  unfold sX8_without at hf
  refine g_aload_n (q := 0) dX8_without_0 rfl rfl ?_
  refine g_get dX8_without_1 fX8_42 (obX8 E m) (gvX8_4 E m) ?_
  refine g_iload_n (q := 1) dX8_without_4 rfl rfl ?_
  obtain ⟨r1, q2, hf⟩ := cbR_ hf
  refine g_cV (As := [.int a1]) dX8_without_5 (tX3_knowsPact E m a1 q2) gyX3_knowsPact giX3_knowsPact gsX3_knowsPact mX8_168 (⟨rfl, rfl, Nat.le_of_ble_eq_true rfl, Nat.le_of_ble_eq_true rfl, Nat.le_of_ble_eq_true rfl, Nat.le_of_ble_eq_true rfl⟩) rfl (obX3 E m) rfl rfl rfl (Nat.le_of_ble_eq_true rfl) ?_
  refine g_if_eq (tgt := 22) dX8_without_8 (by decide) (fun c3 => ?_) (fun c3 => ?_)
  · have hf := it_ hf c3
    refine g_lv [] rfl ?_
    exact wX8_without_b22 E z  m hf
  · have hf := ie_ hf c3
    refine g_aload_n (q := 0) dX8_without_11 rfl rfl ?_
    refine g_get dX8_without_12 fX8_10 (obX8 E m) (gvX8_0 E m) ?_
    refine g_iload_n (q := 2) dX8_without_15 rfl rfl ?_
    obtain ⟨r4, q5, hf⟩ := cbR_ hf
    refine g_cV (As := [.int a2]) dX8_without_16 (tX2_knowsLand E m a2 q5) gyX2_knowsLand giX2_knowsLand gsX2_knowsLand mX8_119 (⟨rfl, rfl, Nat.le_of_ble_eq_true rfl, Nat.le_of_ble_eq_true rfl, Nat.le_of_ble_eq_true rfl, Nat.le_of_ble_eq_true rfl⟩) rfl (obX2 E m) rfl rfl rfl (Nat.le_of_ble_eq_true rfl) ?_
    refine g_if_ne (tgt := 25) dX8_without_19 (by decide) (fun c6 => ?_) (fun c6 => ?_)
    · have hf := it_ hf c6
      refine g_iload_n (q := 3) dX8_without_25 rfl rfl ?_
      obtain ⟨r7, q8, hf⟩ := cbR_ hf
      refine g_cS (As := [.int a3]) dX8_without_26 (tX8_isDay E m a3 q8) gyX8_isDay giX8_isDay mX8_110 (⟨rfl, rfl, Nat.le_of_ble_eq_true rfl, Nat.le_of_ble_eq_true rfl, Nat.le_of_ble_eq_true rfl, Nat.le_of_ble_eq_true rfl⟩) rfl rfl rfl (Nat.le_of_ble_eq_true rfl) ?_
      refine g_if_ne (tgt := 35) dX8_without_29 (by decide) (fun c9 => ?_) (fun c9 => ?_)
      · have hf := it_ hf c9
        refine g_aload_n (q := 0) dX8_without_35 rfl rfl ?_
        refine g_get dX8_without_36 fX8_42 (obX8 E m) (gvX8_4 E m) ?_
        refine g_iload_n (q := 1) dX8_without_39 rfl rfl ?_
        refine g_iload_n (q := 2) dX8_without_40 rfl rfl ?_
        refine g_iload_n (q := 3) dX8_without_41 rfl rfl ?_
        refine g_iload (q := 4) dX8_without_42 rfl ?_
        obtain ⟨r10, m12, q11, hf⟩ := cbE_ hf
        refine g_cV (As := [.int a1, .int a2, .int a3, .int a4]) dX8_without_44 (tX3_fewestLeftOut E m a1 a2 a3 a4 q11) gyX3_fewestLeftOut giX3_fewestLeftOut gsX3_fewestLeftOut mX8_244 (⟨rfl, rfl, Nat.le_of_ble_eq_true rfl, Nat.le_of_ble_eq_true rfl, Nat.le_of_ble_eq_true rfl, Nat.le_of_ble_eq_true rfl⟩) rfl (obX3 E m) rfl rfl rfl (Nat.le_of_ble_eq_true rfl) ?_
        exact g_ret dX8_without_47 rfl rfl (Option.some.inj hf).symm
      · have hf := ie_ hf (not_not_intro c9)
        refine g_bipush (v := (-3)) dX8_without_32 kB_m3 ?_
        exact g_ret dX8_without_34 rfl rfl (Option.some.inj hf).symm
    · have hf := ie_ hf (not_not_intro c6)
      refine g_lv [] rfl ?_
      exact wX8_without_b22 E z  m hf
theorem tX8_without (E : pEv) (m : pMem) (a1 : Int32) (a2 : Int32) (a3 : Int32) (a4 : Int32) {z : Int32 × pMem} (hf : sX8_without a1 a2 a3 a4 m = some z) : gCn E yX8_without kX8_without [.ref (eA E 0), .int a1, .int a2, .int a3, .int a4] m z := gCn_of (by decide +kernel) rfl rfl rfl (Nat.le_of_ble_eq_true rfl) rfl (wX8_without_b0 E z a1 a2 a3 a4 m  hf)
theorem wX7_addWord_b0 (E : pEv) (z : Int32 × pMem) (a1 : Int32) (a2 : Int32) (a3 : Int32) (a4 : Int32) (a5 : Int32) (m : pMem) (hf : sX7_addWord a1 a2 a3 a4 a5 m = some z) : gM E kX7_addWord z 0 [(0, .ref (eA E 8)), (1, .int a1), (2, .int a2), (3, .int a3), (4, .int a4), (5, .int a5)] [] m := by
  unfold sX7_addWord at hf
  refine g_aload_n (q := 0) dX7_addWord_0 rfl rfl ?_
  refine g_get dX7_addWord_1 fX7_9 (obX7 E m) (gvX7_0 E m) ?_
  refine g_aload_n (q := 0) dX7_addWord_4 rfl rfl ?_
  refine g_get dX7_addWord_5 fX7_28 (obX7 E m) (gvX7_5 E m) ?_
  refine g_iload_n (q := 1) dX7_addWord_8 rfl rfl ?_
  obtain ⟨h1, hf⟩ := gd_ hf
  refine g_iast dX7_addWord_9 ar_59 h1 ?_
  refine nmG hf (fun m2 hf => ?_)
  refine g_aload_n (q := 0) dX7_addWord_10 rfl rfl ?_
  refine g_get dX7_addWord_11 fX7_15 (obX7 E m2) (gvX7_1 E m2) ?_
  refine g_aload_n (q := 0) dX7_addWord_14 rfl rfl ?_
  refine g_get dX7_addWord_15 fX7_28 (obX7 E m2) (gvX7_5 E m2) ?_
  refine g_iload_n (q := 2) dX7_addWord_18 rfl rfl ?_
  obtain ⟨h3, hf⟩ := gd_ hf
  refine g_iast dX7_addWord_19 ar_60 h3 ?_
  refine nmG hf (fun m4 hf => ?_)
  refine g_aload_n (q := 0) dX7_addWord_20 rfl rfl ?_
  refine g_get dX7_addWord_21 fX7_18 (obX7 E m4) (gvX7_2 E m4) ?_
  refine g_aload_n (q := 0) dX7_addWord_24 rfl rfl ?_
  refine g_get dX7_addWord_25 fX7_28 (obX7 E m4) (gvX7_5 E m4) ?_
  refine g_iload_n (q := 3) dX7_addWord_28 rfl rfl ?_
  obtain ⟨h5, hf⟩ := gd_ hf
  refine g_zast dX7_addWord_29 ar_61 h5 ?_
  refine nmG hf (fun m6 hf => ?_)
  refine g_aload_n (q := 0) dX7_addWord_30 rfl rfl ?_
  refine g_get dX7_addWord_31 fX7_22 (obX7 E m6) (gvX7_3 E m6) ?_
  refine g_aload_n (q := 0) dX7_addWord_34 rfl rfl ?_
  refine g_get dX7_addWord_35 fX7_28 (obX7 E m6) (gvX7_5 E m6) ?_
  refine g_iload (q := 4) dX7_addWord_38 rfl ?_
  obtain ⟨h7, hf⟩ := gd_ hf
  refine g_zast dX7_addWord_40 ar_62 h7 ?_
  refine nmG hf (fun m8 hf => ?_)
  refine g_aload_n (q := 0) dX7_addWord_41 rfl rfl ?_
  refine g_get dX7_addWord_42 fX7_25 (obX7 E m8) (gvX7_4 E m8) ?_
  refine g_aload_n (q := 0) dX7_addWord_45 rfl rfl ?_
  refine g_get dX7_addWord_46 fX7_28 (obX7 E m8) (gvX7_5 E m8) ?_
  refine g_iload (q := 5) dX7_addWord_49 rfl ?_
  obtain ⟨h9, hf⟩ := gd_ hf
  refine g_iast dX7_addWord_51 ar_63 h9 ?_
  refine nmG hf (fun m10 hf => ?_)
  refine g_aload_n (q := 0) dX7_addWord_52 rfl rfl ?_
  refine g_dup dX7_addWord_53 rfl ?_
  refine g_get dX7_addWord_54 fX7_28 (obX7 E m10) (gvX7_5 E m10) ?_
  refine g_iconst (v := 1) dX7_addWord_57 kI_1 ?_
  refine g_iadd dX7_addWord_58 ?_
  refine g_put dX7_addWord_59 fX7_28 fwX7_5 rfl rfl (obX7 E m10) (Nat.le_of_ble_eq_true rfl) (psX7_5 E m10 _) ?_
  refine nmG hf (fun m11 hf => ?_)
  refine g_aload_n (q := 0) dX7_addWord_62 rfl rfl ?_
  refine g_get dX7_addWord_63 fX7_28 (obX7 E m11) (gvX7_5 E m11) ?_
  exact g_ret dX7_addWord_66 rfl rfl (Option.some.inj hf).symm
theorem tX7_addWord (E : pEv) (m : pMem) (a1 : Int32) (a2 : Int32) (a3 : Int32) (a4 : Int32) (a5 : Int32) {z : Int32 × pMem} (hf : sX7_addWord a1 a2 a3 a4 a5 m = some z) : gCn E yX7_addWord kX7_addWord [.ref (eA E 8), .int a1, .int a2, .int a3, .int a4, .int a5] m z := gCn_of (by decide +kernel) rfl rfl rfl (Nat.le_of_ble_eq_true rfl) rfl (wX7_addWord_b0 E z a1 a2 a3 a4 a5 m  hf)
theorem wX8_word_b22 (E : pEv) (z : Int32 × pMem) (m : pMem) (hf : sX8_word_b22  m = some z) : gM E kX8_word z 22 [] [] m := by
  unfold sX8_word_b22 at hf
  refine g_bipush (v := (-2)) dX8_word_22 kB_m2 ?_
  exact g_ret dX8_word_24 rfl rfl (Option.some.inj hf).symm
theorem wX8_word_b0 (E : pEv) (z : Int32 × pMem) (a1 : Int32) (a2 : Int32) (a3 : Int32) (a4 : Int32) (a5 : Int32) (m : pMem) (hf : sX8_word a1 a2 a3 a4 a5 m = some z) : gM E kX8_word z 0 [(0, .ref (eA E 0)), (1, .int a1), (2, .int a2), (3, .int a3), (4, .int a4), (5, .int a5)] [] m := by
  unfold sX8_word at hf
  refine g_aload_n (q := 0) dX8_word_0 rfl rfl ?_
  refine g_get dX8_word_1 fX8_42 (obX8 E m) (gvX8_4 E m) ?_
  refine g_iload_n (q := 1) dX8_word_4 rfl rfl ?_
  obtain ⟨r1, q2, hf⟩ := cbR_ hf
  refine g_cV (As := [.int a1]) dX8_word_5 (tX3_knowsPact E m a1 q2) gyX3_knowsPact giX3_knowsPact gsX3_knowsPact mX8_168 (⟨rfl, rfl, Nat.le_of_ble_eq_true rfl, Nat.le_of_ble_eq_true rfl, Nat.le_of_ble_eq_true rfl, Nat.le_of_ble_eq_true rfl⟩) rfl (obX3 E m) rfl rfl rfl (Nat.le_of_ble_eq_true rfl) ?_
  refine g_if_eq (tgt := 22) dX8_word_8 (by decide) (fun c3 => ?_) (fun c3 => ?_)
  · have hf := it_ hf c3
    refine g_lv [] rfl ?_
    exact wX8_word_b22 E z  m hf
  · have hf := ie_ hf c3
    refine g_aload_n (q := 0) dX8_word_11 rfl rfl ?_
    refine g_get dX8_word_12 fX8_10 (obX8 E m) (gvX8_0 E m) ?_
    refine g_iload_n (q := 2) dX8_word_15 rfl rfl ?_
    obtain ⟨r4, q5, hf⟩ := cbR_ hf
    refine g_cV (As := [.int a2]) dX8_word_16 (tX2_knowsLand E m a2 q5) gyX2_knowsLand giX2_knowsLand gsX2_knowsLand mX8_119 (⟨rfl, rfl, Nat.le_of_ble_eq_true rfl, Nat.le_of_ble_eq_true rfl, Nat.le_of_ble_eq_true rfl, Nat.le_of_ble_eq_true rfl⟩) rfl (obX2 E m) rfl rfl rfl (Nat.le_of_ble_eq_true rfl) ?_
    refine g_if_ne (tgt := 25) dX8_word_19 (by decide) (fun c6 => ?_) (fun c6 => ?_)
    · have hf := it_ hf c6
      refine g_iload (q := 5) dX8_word_25 rfl ?_
      obtain ⟨r7, q8, hf⟩ := cbR_ hf
      refine g_cS (As := [.int a5]) dX8_word_27 (tX8_isDay E m a5 q8) gyX8_isDay giX8_isDay mX8_110 (⟨rfl, rfl, Nat.le_of_ble_eq_true rfl, Nat.le_of_ble_eq_true rfl, Nat.le_of_ble_eq_true rfl, Nat.le_of_ble_eq_true rfl⟩) rfl rfl rfl (Nat.le_of_ble_eq_true rfl) ?_
      refine g_if_ne (tgt := 36) dX8_word_30 (by decide) (fun c9 => ?_) (fun c9 => ?_)
      · have hf := it_ hf c9
        refine g_aload_n (q := 0) dX8_word_36 rfl rfl ?_
        refine g_get dX8_word_37 fX8_26 (obX8 E m) (gvX8_2 E m) ?_
        refine g_get dX8_word_40 fX8_171 (obX7 E m) (gvX7_5 E m) ?_
        refine g_bipush (v := 24) dX8_word_43 kB_24 ?_
        refine g_icmp_lt (tgt := 51) dX8_word_45 (by decide) (fun c10 => ?_) (fun c10 => ?_)
        · have hf := it_ hf c10
          refine g_aload_n (q := 0) dX8_word_51 rfl rfl ?_
          refine g_get dX8_word_52 fX8_65 (obX8 E m) (gvX8_7 E m) ?_
          refine g_iload (q := 5) dX8_word_55 rfl ?_
          obtain ⟨r11, m13, q12, hf⟩ := cbE_ hf
          refine g_cVv (As := [.int a5]) dX8_word_57 (tX0_mark E m a5 q12) gyX0_mark giX0_mark gsX0_mark mX8_102 (⟨rfl, rfl, Nat.le_of_ble_eq_true rfl, Nat.le_of_ble_eq_true rfl, Nat.le_of_ble_eq_true rfl, Nat.le_of_ble_eq_true rfl⟩) rfl (obX0 E m) rfl rfl rfl (Nat.le_of_ble_eq_true rfl) ?_
          refine g_aload_n (q := 0) dX8_word_60 rfl rfl ?_
          refine g_get dX8_word_61 fX8_26 (obX8 E m13) (gvX8_2 E m13) ?_
          refine g_iload_n (q := 1) dX8_word_64 rfl rfl ?_
          refine g_iload_n (q := 2) dX8_word_65 rfl rfl ?_
          refine g_iload_n (q := 3) dX8_word_66 rfl rfl ?_
          refine g_iload (q := 4) dX8_word_67 rfl ?_
          refine g_iload (q := 5) dX8_word_69 rfl ?_
          obtain ⟨r14, m16, q15, hf⟩ := cbE_ hf
          refine g_cV (As := [.int a1, .int a2, .int a3, .int a4, .int a5]) dX8_word_71 (tX7_addWord E m13 a1 a2 a3 a4 a5 q15) gyX7_addWord giX7_addWord gsX7_addWord mX8_174 (⟨rfl, rfl, Nat.le_of_ble_eq_true rfl, Nat.le_of_ble_eq_true rfl, Nat.le_of_ble_eq_true rfl, Nat.le_of_ble_eq_true rfl⟩) rfl (obX7 E m13) rfl rfl rfl (Nat.le_of_ble_eq_true rfl) ?_
          exact g_ret dX8_word_74 rfl rfl (Option.some.inj hf).symm
        · have hf := ie_ hf c10
          refine g_bipush (v := (-5)) dX8_word_48 kB_m5 ?_
          exact g_ret dX8_word_50 rfl rfl (Option.some.inj hf).symm
      · have hf := ie_ hf (not_not_intro c9)
        refine g_bipush (v := (-3)) dX8_word_33 kB_m3 ?_
        exact g_ret dX8_word_35 rfl rfl (Option.some.inj hf).symm
    · have hf := ie_ hf (not_not_intro c6)
      refine g_lv [] rfl ?_
      exact wX8_word_b22 E z  m hf
theorem tX8_word (E : pEv) (m : pMem) (a1 : Int32) (a2 : Int32) (a3 : Int32) (a4 : Int32) (a5 : Int32) {z : Int32 × pMem} (hf : sX8_word a1 a2 a3 a4 a5 m = some z) : gCn E yX8_word kX8_word [.ref (eA E 0), .int a1, .int a2, .int a3, .int a4, .int a5] m z := gCn_of (by decide +kernel) rfl rfl rfl (Nat.le_of_ble_eq_true rfl) rfl (wX8_word_b0 E z a1 a2 a3 a4 a5 m  hf)
