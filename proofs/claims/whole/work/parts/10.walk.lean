/-! walks (printed) -/
theorem wX2_knowsLand_b17 (E : pEv) (z : Int32) (t0 : Int32) (m : pMem) (hf : sX2_knowsLand_b17 t0 m = some z) : gM E kX2_knowsLand (z, m) 17 [] [.int t0] m := by
  unfold sX2_knowsLand_b17 at hf
  exact g_retz dX2_knowsLand_17 rfl (by rw [Option.some.inj hf])
theorem wX2_knowsLand_b16 (E : pEv) (z : Int32) (m : pMem) (hf : sX2_knowsLand_b16  m = some z) : gM E kX2_knowsLand (z, m) 16 [] [] m := by
  unfold sX2_knowsLand_b16 at hf
  refine g_iconst (v := 0) dX2_knowsLand_16 kI_0 ?_
  exact wX2_knowsLand_b17 E z  0 m hf
theorem wX2_knowsLand_b0 (E : pEv) (z : Int32) (a1 : Int32) (m : pMem) (hf : sX2_knowsLand a1 m = some z) : gM E kX2_knowsLand (z, m) 0 [(0, .ref (eA E 3)), (1, .int a1)] [] m := by
  unfold sX2_knowsLand at hf
  refine g_iload_n (q := 1) dX2_knowsLand_0 rfl rfl ?_
  refine g_if_lt (tgt := 16) dX2_knowsLand_1 (by decide) (fun c1 => ?_) (fun c1 => ?_)
  · have hf := it_ hf c1
    refine g_lv [] rfl ?_
    exact wX2_knowsLand_b16 E z  m hf
  · have hf := ie_ hf c1
    refine g_iload_n (q := 1) dX2_knowsLand_4 rfl rfl ?_
    refine g_aload_n (q := 0) dX2_knowsLand_5 rfl rfl ?_
    refine g_get dX2_knowsLand_6 fX2_31 (obX2 E m) (gvX2_6 E m) ?_
    refine g_icmp_ge (tgt := 16) dX2_knowsLand_9 (by decide) (fun c2 => ?_) (fun c2 => ?_)
    · have hf := it_ hf c2
      refine g_lv [] rfl ?_
      exact wX2_knowsLand_b16 E z  m hf
    · have hf := ie_ hf c2
      refine g_iconst (v := 1) dX2_knowsLand_12 kI_1 ?_
      refine g_goto (tgt := 17) dX2_knowsLand_13 (by decide) ?_
      refine g_lv [] rfl ?_
      exact wX2_knowsLand_b17 E z  1 m hf
theorem tX2_knowsLand (E : pEv) (m : pMem) (a1 : Int32) {z : Int32} (hf : sX2_knowsLand a1 m = some z) : gCn E yX2_knowsLand kX2_knowsLand [.ref (eA E 3), .int a1] m (z, m) := gCn_of (by decide +kernel) rfl rfl rfl (Nat.le_of_ble_eq_true rfl) rfl (wX2_knowsLand_b0 E z a1 m  hf)
theorem wX8_isDay_b16 (E : pEv) (z : Int32) (t0 : Int32) (m : pMem) (hf : sX8_isDay_b16 t0 m = some z) : gM E kX8_isDay (z, m) 16 [] [.int t0] m := by
  unfold sX8_isDay_b16 at hf
  exact g_retz dX8_isDay_16 rfl (by rw [Option.some.inj hf])
theorem wX8_isDay_b15 (E : pEv) (z : Int32) (m : pMem) (hf : sX8_isDay_b15  m = some z) : gM E kX8_isDay (z, m) 15 [] [] m := by
  unfold sX8_isDay_b15 at hf
  refine g_iconst (v := 0) dX8_isDay_15 kI_0 ?_
  exact wX8_isDay_b16 E z  0 m hf
theorem wX8_isDay_b0 (E : pEv) (z : Int32) (a1 : Int32) (m : pMem) (hf : sX8_isDay a1 m = some z) : gM E kX8_isDay (z, m) 0 [(0, .int a1)] [] m := by
  unfold sX8_isDay at hf
  refine g_iload_n (q := 0) dX8_isDay_0 rfl rfl ?_
  refine g_if_lt (tgt := 15) dX8_isDay_1 (by decide) (fun c1 => ?_) (fun c1 => ?_)
  · have hf := it_ hf c1
    refine g_lv [] rfl ?_
    exact wX8_isDay_b15 E z  m hf
  · have hf := ie_ hf c1
    refine g_iload_n (q := 0) dX8_isDay_4 rfl rfl ?_
    refine g_sipush (v := 999) dX8_isDay_5 kS_999 ?_
    refine g_icmp_gt (tgt := 15) dX8_isDay_8 (by decide) (fun c2 => ?_) (fun c2 => ?_)
    · have hf := it_ hf c2
      refine g_lv [] rfl ?_
      exact wX8_isDay_b15 E z  m hf
    · have hf := ie_ hf c2
      refine g_iconst (v := 1) dX8_isDay_11 kI_1 ?_
      refine g_goto (tgt := 16) dX8_isDay_12 (by decide) ?_
      refine g_lv [] rfl ?_
      exact wX8_isDay_b16 E z  1 m hf
theorem tX8_isDay (E : pEv) (m : pMem) (a1 : Int32) {z : Int32} (hf : sX8_isDay a1 m = some z) : gCn E yX8_isDay kX8_isDay [.int a1] m (z, m) := gCn_of (by decide +kernel) rfl rfl rfl (Nat.le_of_ble_eq_true rfl) rfl (wX8_isDay_b0 E z a1 m  hf)
theorem wX2_changesBy_b26 (E : pEv) (z : Int32) (l2 : Int32) (m : pMem) (hf : sX2_changesBy_b26 l2 m = some z) : gM E kX2_changesBy (z, m) 26 [(2, .int l2)] [] m := by
  unfold sX2_changesBy_b26 at hf
  refine g_iload_n (q := 0) dX2_changesBy_26 rfl rfl ?_
  exact g_ret dX2_changesBy_27 rfl rfl (by rw [Option.some.inj hf])
theorem wX2_changesBy_b2 (E : pEv) (z : Int32) (k2 : Int32 → Int32 → pMem → (Option Int32)) (ih2 : ∀ (l1 : Int32) (l2 : Int32)  (m : pMem), k2 l1 l2 m = some z → gM E kX2_changesBy (z, m) 2 [(0, .ref (eA E 3)), (1, .int l1), (2, .int l2)] [] m) (l1 : Int32) (l2 : Int32) (m : pMem) (hf : sX2_changesBy_b2 k2 l1 l2 m = some z) : gM E kX2_changesBy (z, m) 2 [(0, .ref (eA E 3)), (1, .int l1), (2, .int l2)] [] m := by
  unfold sX2_changesBy_b2 at hf
  refine g_iload_n (q := 2) dX2_changesBy_2 rfl rfl ?_
  refine g_aload_n (q := 0) dX2_changesBy_3 rfl rfl ?_
  refine g_get dX2_changesBy_4 fX2_55 (obX2 E m) (gvX2_14 E m) ?_
  refine g_icmp_ge (tgt := 26) dX2_changesBy_7 (by decide) (fun c1 => ?_) (fun c1 => ?_)
  · have hf := it_ hf c1
    refine g_lv [2] rfl ?_
    exact wX2_changesBy_b26 E z  l2 m hf
  · have hf := ie_ hf c1
    refine g_aload_n (q := 0) dX2_changesBy_10 rfl rfl ?_
    refine g_get dX2_changesBy_11 fX2_37 (obX2 E m) (gvX2_8 E m) ?_
    refine g_iload_n (q := 2) dX2_changesBy_14 rfl rfl ?_
    obtain ⟨h2, hf⟩ := gd_ hf
    refine g_iald dX2_changesBy_15 ar_25 h2 ?_
    refine g_iload_n (q := 1) dX2_changesBy_16 rfl rfl ?_
    refine g_icmp_gt (tgt := 26) dX2_changesBy_17 (by decide) (fun c3 => ?_) (fun c3 => ?_)
    · have hf := it_ hf c3
      refine g_lv [2] rfl ?_
      exact wX2_changesBy_b26 E z  l2 m hf
    · have hf := ie_ hf c3
      refine g_iinc (q := 2) (v := l2 + 1) dX2_changesBy_20 rfl (by rw [kI_1]) (Nat.le_of_ble_eq_true rfl) rfl ?_
      refine g_goto (tgt := 2) dX2_changesBy_23 (by decide) ?_
      refine g_lv [1, 2, 0] rfl ?_
      exact ih2 l1 (l2 + 1) m hf
theorem wX2_changesBy_l2 (E : pEv) (z : Int32) : ∀ (n : Nat) (l1 : Int32) (l2 : Int32) (m : pMem), sX2_changesBy_l2 n l1 l2 m = some z → gM E kX2_changesBy (z, m) 2 [(0, .ref (eA E 3)), (1, .int l1), (2, .int l2)] [] m := by
  intro n
  induction n with
  | zero => intro l1 l2 m  hf; cases (show (none : Option _) = some z from hf)
  | succ n ih => intro l1 l2 m  hf; exact wX2_changesBy_b2 E z  _  ih l1 l2 m  hf
theorem wX2_changesBy_b0 (E : pEv) (z : Int32) (a1 : Int32) (m : pMem) (hf : sX2_changesBy a1 m = some z) : gM E kX2_changesBy (z, m) 0 [(0, .ref (eA E 3)), (1, .int a1)] [] m := by
  unfold sX2_changesBy at hf
  refine g_iconst (v := 0) dX2_changesBy_0 kI_0 ?_
  refine g_istore_n dX2_changesBy_1 rfl (Nat.le_of_ble_eq_true rfl) rfl ?_
  refine g_lv [1, 2, 0] rfl ?_
  exact wX2_changesBy_l2 E z  5000 a1 0 m hf
theorem tX2_changesBy (E : pEv) (m : pMem) (a1 : Int32) {z : Int32} (hf : sX2_changesBy a1 m = some z) : gCn E yX2_changesBy kX2_changesBy [.ref (eA E 3), .int a1] m (z, m) := gCn_of (by decide +kernel) rfl rfl rfl (Nat.le_of_ble_eq_true rfl) rfl (wX2_changesBy_b0 E z a1 m  hf)
theorem wX8_isIn_b13 (E : pEv) (z : Int32) (t0 : Int32) (m : pMem) (hf : sX8_isIn_b13 t0 m = some z) : gM E kX8_isIn (z, m) 13 [] [.int t0] m := by
  unfold sX8_isIn_b13 at hf
  exact g_retz dX8_isIn_13 rfl (by rw [Option.some.inj hf])
theorem wX8_isIn_b0 (E : pEv) (z : Int32) (a1 : Int32) (a2 : Int32) (m : pMem) (hf : sX8_isIn a1 a2 m = some z) : gM E kX8_isIn (z, m) 0 [(0, .int a1), (1, .int a2)] [] m := by
  unfold sX8_isIn at hf
  refine g_iload_n (q := 0) dX8_isIn_0 rfl rfl ?_
  refine g_iload_n (q := 1) dX8_isIn_1 rfl rfl ?_
  refine g_ishr dX8_isIn_2 ?_
  refine g_iconst (v := 1) dX8_isIn_3 kI_1 ?_
  refine g_iand dX8_isIn_4 ?_
  refine g_if_eq (tgt := 12) dX8_isIn_5 (by decide) (fun c1 => ?_) (fun c1 => ?_)
  · have hf := it_ hf c1
    refine g_iconst (v := 0) dX8_isIn_12 kI_0 ?_
    refine g_lv [] rfl ?_
    exact wX8_isIn_b13 E z  0 m hf
  · have hf := ie_ hf c1
    refine g_iconst (v := 1) dX8_isIn_8 kI_1 ?_
    refine g_goto (tgt := 13) dX8_isIn_9 (by decide) ?_
    refine g_lv [] rfl ?_
    exact wX8_isIn_b13 E z  1 m hf
theorem tX8_isIn (E : pEv) (m : pMem) (a1 : Int32) (a2 : Int32) {z : Int32} (hf : sX8_isIn a1 a2 m = some z) : gCn E yX8_isIn kX8_isIn [.int a1, .int a2] m (z, m) := gCn_of (by decide +kernel) rfl rfl rfl (Nat.le_of_ble_eq_true rfl) rfl (wX8_isIn_b0 E z a1 a2 m  hf)
theorem wX2_ownerOf_b2 (E : pEv) (z : Int32) (k2 : Int32 → Int32 → Int32 → pMem → (Option Int32)) (ih2 : ∀ (l1 : Int32) (l2 : Int32) (l3 : Int32)  (m : pMem), k2 l1 l2 l3 m = some z → gM E kX2_ownerOf (z, m) 2 [(0, .ref (eA E 3)), (1, .int l1), (2, .int l2), (3, .int l3)] [] m) (l1 : Int32) (l2 : Int32) (l3 : Int32) (m : pMem) (hf : sX2_ownerOf_b2 k2 l1 l2 l3 m = some z) : gM E kX2_ownerOf (z, m) 2 [(0, .ref (eA E 3)), (1, .int l1), (2, .int l2), (3, .int l3)] [] m := by
  unfold sX2_ownerOf_b2 at hf
  refine g_iload_n (q := 3) dX2_ownerOf_2 rfl rfl ?_
  refine g_aload_n (q := 0) dX2_ownerOf_3 rfl rfl ?_
  refine g_get dX2_ownerOf_4 fX2_31 (obX2 E m) (gvX2_6 E m) ?_
  refine g_icmp_ge (tgt := 33) dX2_ownerOf_7 (by decide) (fun c1 => ?_) (fun c1 => ?_)
  · have hf := it_ hf c1
    refine g_iconst (v := (-1)) dX2_ownerOf_33 kI_m1 ?_
    exact g_ret dX2_ownerOf_34 rfl rfl (by rw [Option.some.inj hf])
  · have hf := ie_ hf c1
    refine g_aload_n (q := 0) dX2_ownerOf_10 rfl rfl ?_
    refine g_get dX2_ownerOf_11 fX2_60 (obX2 E m) (gvX2_15 E m) ?_
    refine g_iload_n (q := 2) dX2_ownerOf_14 rfl rfl ?_
    obtain ⟨h2, hf⟩ := gd_ hf
    refine g_aald dX2_ownerOf_15 h2 ?_
    refine g_iload_n (q := 3) dX2_ownerOf_16 rfl rfl ?_
    obtain ⟨h3, hf⟩ := gd_ hf
    refine g_iald dX2_ownerOf_17 (ar_row h2) h3 ?_
    refine g_iload_n (q := 1) dX2_ownerOf_18 rfl rfl ?_
    obtain ⟨r4, q5, hf⟩ := cbR_ hf
    refine g_cSN (As := [.int (m.1 (30 + l2.toNatClampNeg) l3.toNatClampNeg), .int l1]) dX2_ownerOf_19 (tX8_isIn E m (m.1 (30 + l2.toNatClampNeg) l3.toNatClampNeg) l1 q5) gyX8_isIn giX8_isIn nX2_70 (⟨rfl, rfl, Nat.le_of_ble_eq_true rfl, Nat.le_of_ble_eq_true rfl, Nat.le_of_ble_eq_true rfl, Nat.le_of_ble_eq_true rfl⟩) rfl rfl rfl (Nat.le_of_ble_eq_true rfl) ?_
    refine g_if_eq (tgt := 27) dX2_ownerOf_22 (by decide) (fun c6 => ?_) (fun c6 => ?_)
    · have hf := it_ hf c6
      refine g_iinc (q := 3) (v := l3 + 1) dX2_ownerOf_27 rfl (by rw [kI_1]) (Nat.le_of_ble_eq_true rfl) rfl ?_
      refine g_goto (tgt := 2) dX2_ownerOf_30 (by decide) ?_
      refine g_lv [1, 2, 3, 0] rfl ?_
      exact ih2 l1 l2 (l3 + 1) m hf
    · have hf := ie_ hf c6
      refine g_iload_n (q := 3) dX2_ownerOf_25 rfl rfl ?_
      exact g_ret dX2_ownerOf_26 rfl rfl (by rw [Option.some.inj hf])
theorem wX2_ownerOf_l2 (E : pEv) (z : Int32) : ∀ (n : Nat) (l1 : Int32) (l2 : Int32) (l3 : Int32) (m : pMem), sX2_ownerOf_l2 n l1 l2 l3 m = some z → gM E kX2_ownerOf (z, m) 2 [(0, .ref (eA E 3)), (1, .int l1), (2, .int l2), (3, .int l3)] [] m := by
  intro n
  induction n with
  | zero => intro l1 l2 l3 m  hf; cases (show (none : Option _) = some z from hf)
  | succ n ih => intro l1 l2 l3 m  hf; exact wX2_ownerOf_b2 E z  _  ih l1 l2 l3 m  hf
theorem wX2_ownerOf_b0 (E : pEv) (z : Int32) (a1 : Int32) (a2 : Int32) (m : pMem) (hf : sX2_ownerOf a1 a2 m = some z) : gM E kX2_ownerOf (z, m) 0 [(0, .ref (eA E 3)), (1, .int a1), (2, .int a2)] [] m := by
  unfold sX2_ownerOf at hf
  refine g_iconst (v := 0) dX2_ownerOf_0 kI_0 ?_
  refine g_istore_n dX2_ownerOf_1 rfl (Nat.le_of_ble_eq_true rfl) rfl ?_
  refine g_lv [1, 2, 3, 0] rfl ?_
  exact wX2_ownerOf_l2 E z  5000 a1 a2 0 m hf
theorem tX2_ownerOf (E : pEv) (m : pMem) (a1 : Int32) (a2 : Int32) {z : Int32} (hf : sX2_ownerOf a1 a2 m = some z) : gCn E yX2_ownerOf kX2_ownerOf [.ref (eA E 3), .int a1, .int a2] m (z, m) := gCn_of (by decide +kernel) rfl rfl rfl (Nat.le_of_ble_eq_true rfl) rfl (wX2_ownerOf_b0 E z a1 a2 m  hf)
theorem wJ7_fill_53178_b5 (E : pEv) (z : Int32 × pMem) (k5 : Nat → Nat → Int32 → Int32 → Int32 → pMem → gO) (ih5 : ∀ (l0 : Nat) (nl0 : Nat) (l1 : Int32) (l2 : Int32) (l3 : Int32)  (m : pMem) (hl0 : gAr l0 nl0 .int), k5 l0 nl0 l1 l2 l3 m = some z → gM E kJ7_fill_53178 z 5 [(0, .ref (eA E l0)), (1, .int l1), (2, .int l2), (3, .int l3)] [] m) (l0 : Nat) (nl0 : Nat) (l1 : Int32) (l2 : Int32) (l3 : Int32) (m : pMem) (hl0 : gAr l0 nl0 .int) (hf : sJ7_fill_53178_b5 k5 l0 nl0 l1 l2 l3 m = some z) : gM E kJ7_fill_53178 z 5 [(0, .ref (eA E l0)), (1, .int l1), (2, .int l2), (3, .int l3)] [] m := by
  unfold sJ7_fill_53178_b5 at hf
  refine g_iload_n (q := 2) dJ7_fill_53178_5 rfl rfl ?_
  refine g_iload_n (q := 3) dJ7_fill_53178_6 rfl rfl ?_
  refine g_icmp_ge (tgt := 20) dJ7_fill_53178_7 (by decide) (fun c2 => ?_) (fun c2 => ?_)
  · have hf := it_ hf c2
    exact g_retv dJ7_fill_53178_20 rfl (by rw [← Option.some.inj hf])
  · have hf := ie_ hf c2
    refine g_aload_n (q := 0) dJ7_fill_53178_10 rfl rfl ?_
    refine g_iload_n (q := 2) dJ7_fill_53178_11 rfl rfl ?_
    refine g_iload_n (q := 1) dJ7_fill_53178_12 rfl rfl ?_
    obtain ⟨h3, hf⟩ := gd_ hf
    refine g_iast dJ7_fill_53178_13 hl0 h3 ?_
    refine nmG hf (fun m4 hf => ?_)
    refine g_iinc (q := 2) (v := l2 + 1) dJ7_fill_53178_14 rfl (by rw [kI_1]) (Nat.le_of_ble_eq_true rfl) rfl ?_
    refine g_goto (tgt := 5) dJ7_fill_53178_17 (by decide) ?_
    refine g_lv [1, 2, 0, 3] rfl ?_
    exact ih5 l0 nl0 l1 (l2 + 1) l3 m4 hl0 hf
theorem wJ7_fill_53178_l5 (E : pEv) (z : Int32 × pMem) : ∀ (n : Nat) (l0 : Nat) (nl0 : Nat) (l1 : Int32) (l2 : Int32) (l3 : Int32) (m : pMem) (hl0 : gAr l0 nl0 .int), sJ7_fill_53178_l5 n l0 nl0 l1 l2 l3 m = some z → gM E kJ7_fill_53178 z 5 [(0, .ref (eA E l0)), (1, .int l1), (2, .int l2), (3, .int l3)] [] m := by
  intro n
  induction n with
  | zero => intro l0 nl0 l1 l2 l3 m hl0 hf; cases (show (none : Option _) = some z from hf)
  | succ n ih => intro l0 nl0 l1 l2 l3 m hl0 hf; exact wJ7_fill_53178_b5 E z  _  ih l0 nl0 l1 l2 l3 m hl0 hf
theorem wJ7_fill_53178_b0 (E : pEv) (z : Int32 × pMem) (a1 : Nat) (na1 : Nat) (a2 : Int32) (m : pMem) (ha1 : gAr a1 na1 .int) (hf : sJ7_fill_53178 a1 na1 a2 m = some z) : gM E kJ7_fill_53178 z 0 [(0, .ref (eA E a1)), (1, .int a2)] [] m := by
  unfold sJ7_fill_53178 at hf
  refine g_iconst (v := 0) dJ7_fill_53178_0 kI_0 ?_
  refine g_istore_n dJ7_fill_53178_1 rfl (Nat.le_of_ble_eq_true rfl) rfl ?_
  refine g_aload_n (q := 1) dJ7_fill_53178_2 rfl rfl ?_
  refine g_alen dJ7_fill_53178_3 ha1 rfl ?_
  refine nmI hf (fun x1 hf => ?_)
  refine g_istore_n dJ7_fill_53178_4 rfl (Nat.le_of_ble_eq_true rfl) rfl ?_
  refine g_lv [2, 3, 1, 0] rfl ?_
  exact wJ7_fill_53178_l5 E z  5000 a1 na1 a2 0 x1 m ha1 hf
theorem tJ7_fill_53178 (E : pEv) (m : pMem) (a1 : Nat) (na1 : Nat) (a2 : Int32) (ha1 : gAr a1 na1 .int) {z : Int32 × pMem} (hf : sJ7_fill_53178 a1 na1 a2 m = some z) : gCn E yJ7_fill_53178 kJ7_fill_53178 [.ref (eA E a1), .int a2] m z := gCn_of (by decide +kernel) rfl rfl rfl (Nat.le_of_ble_eq_true rfl) rfl (wJ7_fill_53178_b0 E z a1 na1 a2 m ha1 hf)
theorem wX2_sumOf_b30 (E : pEv) (z : Int32) (k5 : Nat → Int32 → Int32 → Int32 → pMem → (Option Int32)) (ih5 : ∀ (l1 : Nat) (l2 : Int32) (l3 : Int32) (l4 : Int32)  (m : pMem) (hl1 : gAr l1 8 .int), k5 l1 l2 l3 l4 m = some z → gM E kX2_sumOf (z, m) 5 [(0, .ref (eA E 3)), (1, .ref (eA E l1)), (2, .int l2), (3, .int l3), (4, .int l4)] [] m) (l1 : Nat) (l2 : Int32) (l3 : Int32) (l4 : Int32) (m : pMem) (hl1 : gAr l1 8 .int) (hf : sX2_sumOf_b30 k5 l1 l2 l3 l4 m = some z) : gM E kX2_sumOf (z, m) 30 [(0, .ref (eA E 3)), (1, .ref (eA E l1)), (2, .int l2), (3, .int l3), (4, .int l4)] [] m := by
  unfold sX2_sumOf_b30 at hf
  refine g_iinc (q := 4) (v := l4 + 1) dX2_sumOf_30 rfl (by rw [kI_1]) (Nat.le_of_ble_eq_true rfl) rfl ?_
  refine g_goto (tgt := 5) dX2_sumOf_33 (by decide) ?_
  refine g_lv [1, 2, 3, 4, 0] rfl ?_
  exact ih5 l1 l2 l3 (l4 + 1) m hl1 hf
theorem wX2_sumOf_b5 (E : pEv) (z : Int32) (k5 : Nat → Int32 → Int32 → Int32 → pMem → (Option Int32)) (ih5 : ∀ (l1 : Nat) (l2 : Int32) (l3 : Int32) (l4 : Int32)  (m : pMem) (hl1 : gAr l1 8 .int), k5 l1 l2 l3 l4 m = some z → gM E kX2_sumOf (z, m) 5 [(0, .ref (eA E 3)), (1, .ref (eA E l1)), (2, .int l2), (3, .int l3), (4, .int l4)] [] m) (l1 : Nat) (l2 : Int32) (l3 : Int32) (l4 : Int32) (m : pMem) (hl1 : gAr l1 8 .int) (hf : sX2_sumOf_b5 k5 l1 l2 l3 l4 m = some z) : gM E kX2_sumOf (z, m) 5 [(0, .ref (eA E 3)), (1, .ref (eA E l1)), (2, .int l2), (3, .int l3), (4, .int l4)] [] m := by
  unfold sX2_sumOf_b5 at hf
  refine g_iload (q := 4) dX2_sumOf_5 rfl ?_
  refine g_aload_n (q := 0) dX2_sumOf_7 rfl rfl ?_
  refine g_get dX2_sumOf_8 fX2_18 (obX2 E m) (gvX2_2 E m) ?_
  refine g_icmp_ge (tgt := 36) dX2_sumOf_11 (by decide) (fun c1 => ?_) (fun c1 => ?_)
  · have hf := it_ hf c1
    refine g_iload_n (q := 3) dX2_sumOf_36 rfl rfl ?_
    exact g_ret dX2_sumOf_37 rfl rfl (by rw [Option.some.inj hf])
  · have hf := ie_ hf c1
    refine g_iload_n (q := 2) dX2_sumOf_14 rfl rfl ?_
    refine g_iload (q := 4) dX2_sumOf_15 rfl ?_
    refine g_ishr dX2_sumOf_17 ?_
    refine g_iconst (v := 1) dX2_sumOf_18 kI_1 ?_
    refine g_iand dX2_sumOf_19 ?_
    refine g_if_eq (tgt := 30) dX2_sumOf_20 (by decide) (fun c2 => ?_) (fun c2 => ?_)
    · have hf := it_ hf c2
      exact wX2_sumOf_b30 E z k5 ih5 l1 l2 l3 l4 m hl1 hf
    · have hf := ie_ hf c2
      refine g_iload_n (q := 3) dX2_sumOf_23 rfl rfl ?_
      refine g_aload_n (q := 1) dX2_sumOf_24 rfl rfl ?_
      refine g_iload (q := 4) dX2_sumOf_25 rfl ?_
      obtain ⟨h3, hf⟩ := gd_ hf
      refine g_iald dX2_sumOf_27 hl1 h3 ?_
      refine g_iadd dX2_sumOf_28 ?_
      refine nmI hf (fun x4 hf => ?_)
      refine g_istore_n dX2_sumOf_29 rfl (Nat.le_of_ble_eq_true rfl) rfl ?_
      refine g_lv [1, 2, 3, 0, 4] rfl ?_
      exact wX2_sumOf_b30 E z k5 ih5 l1 l2 x4 l4 m hl1 hf
theorem wX2_sumOf_l5 (E : pEv) (z : Int32) : ∀ (n : Nat) (l1 : Nat) (l2 : Int32) (l3 : Int32) (l4 : Int32) (m : pMem) (hl1 : gAr l1 8 .int), sX2_sumOf_l5 n l1 l2 l3 l4 m = some z → gM E kX2_sumOf (z, m) 5 [(0, .ref (eA E 3)), (1, .ref (eA E l1)), (2, .int l2), (3, .int l3), (4, .int l4)] [] m := by
  intro n
  induction n with
  | zero => intro l1 l2 l3 l4 m hl1 hf; cases (show (none : Option _) = some z from hf)
  | succ n ih => intro l1 l2 l3 l4 m hl1 hf; exact wX2_sumOf_b5 E z  _  ih l1 l2 l3 l4 m hl1 hf
theorem wX2_sumOf_b0 (E : pEv) (z : Int32) (a1 : Nat) (a2 : Int32) (m : pMem) (ha1 : gAr a1 8 .int) (hf : sX2_sumOf a1 a2 m = some z) : gM E kX2_sumOf (z, m) 0 [(0, .ref (eA E 3)), (1, .ref (eA E a1)), (2, .int a2)] [] m := by
  unfold sX2_sumOf at hf
  refine g_iconst (v := 0) dX2_sumOf_0 kI_0 ?_
  refine g_istore_n dX2_sumOf_1 rfl (Nat.le_of_ble_eq_true rfl) rfl ?_
  refine g_iconst (v := 0) dX2_sumOf_2 kI_0 ?_
  refine g_istore dX2_sumOf_3 (Nat.le_of_ble_eq_true rfl) rfl ?_
  refine g_lv [2, 3, 4, 1, 0] rfl ?_
  exact wX2_sumOf_l5 E z  5000 a1 a2 0 0 m ha1 hf
theorem tX2_sumOf (E : pEv) (m : pMem) (a1 : Nat) (a2 : Int32) (ha1 : gAr a1 8 .int) {z : Int32} (hf : sX2_sumOf a1 a2 m = some z) : gCn E yX2_sumOf kX2_sumOf [.ref (eA E 3), .ref (eA E a1), .int a2] m (z, m) := gCn_of (by decide +kernel) rfl rfl rfl (Nat.le_of_ble_eq_true rfl) rfl (wX2_sumOf_b0 E z a1 a2 m ha1 hf)
theorem wX1_key_b65 (E : pEv) (z : Int32) (m : pMem) (hf : sX1_key_b65  m = some z) : gM E kX1_key (z, m) 65 [] [] m := by
  unfold sX1_key_b65 at hf
  refine g_iconst (v := 1) dX1_key_65 kI_1 ?_
  exact g_ret dX1_key_66 rfl rfl (by rw [Option.some.inj hf])
theorem wX1_key_b0 (E : pEv) (z : Int32) (a1 : Int32) (a2 : Int32) (a3 : Int32) (m : pMem) (hf : sX1_key a1 a2 a3 m = some z) : gM E kX1_key (z, m) 0 [(0, .ref (eA E 2)), (1, .int a1), (2, .int a2), (3, .int a3)] [] m := by
  unfold sX1_key at hf
  refine g_iload_n (q := 3) dX1_key_0 rfl rfl ?_
  refine g_if_ne (tgt := 20) dX1_key_1 (by decide) (fun c1 => ?_) (fun c1 => ?_)
  · have hf := it_ hf c1
    refine g_aload_n (q := 0) dX1_key_20 rfl rfl ?_
    refine g_get dX1_key_21 fX1_46 (obX1 E m) (gvX1_0 E m) ?_
    refine g_get dX1_key_24 fX1_103 (obX2 E m) (gvX2_12 E m) ?_
    refine g_iload_n (q := 2) dX1_key_27 rfl rfl ?_
    obtain ⟨h2, hf⟩ := gd_ hf
    refine g_iald dX1_key_28 ar_106 h2 ?_
    refine g_aload_n (q := 0) dX1_key_29 rfl rfl ?_
    refine g_get dX1_key_30 fX1_46 (obX1 E m) (gvX1_0 E m) ?_
    refine g_get dX1_key_33 fX1_109 (obX2 E m) (gvX2_13 E m) ?_
    refine g_iload_n (q := 2) dX1_key_36 rfl rfl ?_
    obtain ⟨h3, hf⟩ := gd_ hf
    refine g_iald dX1_key_37 ar_107 h3 ?_
    refine g_ior dX1_key_38 ?_
    refine nmI hf (fun x4 hf => ?_)
    refine g_istore dX1_key_39 (Nat.le_of_ble_eq_true rfl) rfl ?_
    refine g_iload_n (q := 4) dX1_key_41 rfl rfl ?_
    refine g_iconst (v := 2) dX1_key_42 kI_2 ?_
    refine g_icmp_eq (tgt := 65) dX1_key_43 (by decide) (fun c5 => ?_) (fun c5 => ?_)
    · have hf := it_ hf c5
      refine g_lv [] rfl ?_
      exact wX1_key_b65 E z  m hf
    · have hf := ie_ hf c5
      refine g_aload_n (q := 1) dX1_key_46 rfl rfl ?_
      refine g_get dX1_key_47 fX1_46 (obX1 E m) (gvX1_0 E m) ?_
      refine g_aload_n (q := 1) dX1_key_50 rfl rfl ?_
      refine g_get dX1_key_51 fX1_46 (obX1 E m) (gvX1_0 E m) ?_
      refine g_get dX1_key_54 fX1_122 (obX2 E m) (gvX2_1 E m) ?_
      refine g_iload (q := 0) dX1_key_57 rfl ?_
      obtain ⟨r6, q7, hf⟩ := cbR_ hf
      refine g_cV (As := [.ref (eA E 20), .int x4]) dX1_key_59 (tX2_sumOf E m 20 x4 ar_20 q7) gyX2_sumOf giX2_sumOf gsX2_sumOf mX1_118 (⟨rfl, rfl, Nat.le_of_ble_eq_true rfl, Nat.le_of_ble_eq_true rfl, Nat.le_of_ble_eq_true rfl, Nat.le_of_ble_eq_true rfl⟩) rfl (obX2 E m) rfl rfl rfl (Nat.le_of_ble_eq_true rfl) ?_
      refine g_if_ne (tgt := 67) dX1_key_62 (by decide) (fun c8 => ?_) (fun c8 => ?_)
      · have hf := it_ hf c8
        refine g_aload_n (q := 1) dX1_key_67 rfl rfl ?_
        refine g_get dX1_key_68 fX1_46 (obX1 E m) (gvX1_0 E m) ?_
        refine g_aload_n (q := 1) dX1_key_71 rfl rfl ?_
        refine g_get dX1_key_72 fX1_46 (obX1 E m) (gvX1_0 E m) ?_
        refine g_get dX1_key_75 fX1_122 (obX2 E m) (gvX2_1 E m) ?_
        refine g_iload_n (q := 2) dX1_key_78 rfl rfl ?_
        obtain ⟨r9, q10, hf⟩ := cbR_ hf
        refine g_cV (As := [.ref (eA E 20), .int a1]) dX1_key_79 (tX2_sumOf E m 20 a1 ar_20 q10) gyX2_sumOf giX2_sumOf gsX2_sumOf mX1_118 (⟨rfl, rfl, Nat.le_of_ble_eq_true rfl, Nat.le_of_ble_eq_true rfl, Nat.le_of_ble_eq_true rfl, Nat.le_of_ble_eq_true rfl⟩) rfl (obX2 E m) rfl rfl rfl (Nat.le_of_ble_eq_true rfl) ?_
        exact g_ret dX1_key_82 rfl rfl (by rw [Option.some.inj hf])
      · have hf := ie_ hf (not_not_intro c8)
        refine g_lv [] rfl ?_
        exact wX1_key_b65 E z  m hf
  · have hf := ie_ hf (not_not_intro c1)
    refine g_aload_n (q := 0) dX1_key_4 rfl rfl ?_
    refine g_get dX1_key_5 fX1_46 (obX1 E m) (gvX1_0 E m) ?_
    refine g_aload_n (q := 0) dX1_key_8 rfl rfl ?_
    refine g_get dX1_key_9 fX1_46 (obX1 E m) (gvX1_0 E m) ?_
    refine g_get dX1_key_12 fX1_115 (obX2 E m) (gvX2_0 E m) ?_
    refine g_iload_n (q := 1) dX1_key_15 rfl rfl ?_
    obtain ⟨r11, q12, hf⟩ := cbR_ hf
    refine g_cV (As := [.ref (eA E 19), .int a1]) dX1_key_16 (tX2_sumOf E m 19 a1 ar_19 q12) gyX2_sumOf giX2_sumOf gsX2_sumOf mX1_118 (⟨rfl, rfl, Nat.le_of_ble_eq_true rfl, Nat.le_of_ble_eq_true rfl, Nat.le_of_ble_eq_true rfl, Nat.le_of_ble_eq_true rfl⟩) rfl (obX2 E m) rfl rfl rfl (Nat.le_of_ble_eq_true rfl) ?_
    exact g_ret dX1_key_19 rfl rfl (by rw [Option.some.inj hf])
theorem tX1_key (E : pEv) (m : pMem) (a1 : Int32) (a2 : Int32) (a3 : Int32) {z : Int32} (hf : sX1_key a1 a2 a3 m = some z) : gCn E yX1_key kX1_key [.ref (eA E 2), .int a1, .int a2, .int a3] m (z, m) := gCn_of (by decide +kernel) rfl rfl rfl (Nat.le_of_ble_eq_true rfl) rfl (wX1_key_b0 E z a1 a2 a3 m  hf)
theorem wX1_partOfFirst_b53 (E : pEv) (z : Int32) (t0 : Int32) (m : pMem) (hf : sX1_partOfFirst_b53 t0 m = some z) : gM E kX1_partOfFirst (z, m) 53 [] [.int t0] m := by
  unfold sX1_partOfFirst_b53 at hf
  exact g_ret dX1_partOfFirst_53 rfl rfl (by rw [Option.some.inj hf])
theorem wX1_partOfFirst_b0 (E : pEv) (z : Int32) (a1 : Int32) (a2 : Int32) (a3 : Int32) (m : pMem) (hf : sX1_partOfFirst a1 a2 a3 m = some z) : gM E kX1_partOfFirst (z, m) 0 [(0, .ref (eA E 2)), (1, .int a1), (2, .int a2), (3, .int a3)] [] m := by
  unfold sX1_partOfFirst at hf
  refine g_aload_n (q := 0) dX1_partOfFirst_0 rfl rfl ?_
  refine g_aload_n (q := 0) dX1_partOfFirst_1 rfl rfl ?_
  refine g_get dX1_partOfFirst_2 fX1_46 (obX1 E m) (gvX1_0 E m) ?_
  refine g_get dX1_partOfFirst_5 fX1_103 (obX2 E m) (gvX2_12 E m) ?_
  refine g_iload_n (q := 2) dX1_partOfFirst_8 rfl rfl ?_
  obtain ⟨h1, hf⟩ := gd_ hf
  refine g_iald dX1_partOfFirst_9 ar_106 h1 ?_
  refine g_iload_n (q := 2) dX1_partOfFirst_10 rfl rfl ?_
  refine g_iload_n (q := 3) dX1_partOfFirst_11 rfl rfl ?_
  obtain ⟨r2, q3, hf⟩ := cbR_ hf
  refine g_cV (As := [.int (m.1 106 a2.toNatClampNeg), .int a2, .int a3]) dX1_partOfFirst_12 (tX1_key E m (m.1 106 a2.toNatClampNeg) a2 a3 q3) gyX1_key giX1_key gsX1_key mX1_106 (⟨rfl, rfl, Nat.le_of_ble_eq_true rfl, Nat.le_of_ble_eq_true rfl, Nat.le_of_ble_eq_true rfl, Nat.le_of_ble_eq_true rfl⟩) rfl (obX1 E m) rfl rfl rfl (Nat.le_of_ble_eq_true rfl) ?_
  refine g_istore dX1_partOfFirst_15 (Nat.le_of_ble_eq_true rfl) rfl ?_
  refine g_iload (q := 0) dX1_partOfFirst_17 rfl ?_
  refine g_aload_n (q := 1) dX1_partOfFirst_19 rfl rfl ?_
  refine g_aload_n (q := 1) dX1_partOfFirst_20 rfl rfl ?_
  refine g_get dX1_partOfFirst_21 fX1_46 (obX1 E m) (gvX1_0 E m) ?_
  refine g_get dX1_partOfFirst_24 fX1_109 (obX2 E m) (gvX2_13 E m) ?_
  refine g_iload_n (q := 3) dX1_partOfFirst_27 rfl rfl ?_
  obtain ⟨h4, hf⟩ := gd_ hf
  refine g_iald dX1_partOfFirst_28 ar_107 h4 ?_
  refine g_iload_n (q := 3) dX1_partOfFirst_29 rfl rfl ?_
  refine g_iload_n (q := 4) dX1_partOfFirst_30 rfl rfl ?_
  obtain ⟨r5, q6, hf⟩ := cbR_ hf
  refine g_cV (As := [.int (m.1 107 a2.toNatClampNeg), .int a2, .int a3]) dX1_partOfFirst_31 (tX1_key E m (m.1 107 a2.toNatClampNeg) a2 a3 q6) gyX1_key giX1_key gsX1_key mX1_106 (⟨rfl, rfl, Nat.le_of_ble_eq_true rfl, Nat.le_of_ble_eq_true rfl, Nat.le_of_ble_eq_true rfl, Nat.le_of_ble_eq_true rfl⟩) rfl (obX1 E m) rfl rfl rfl (Nat.le_of_ble_eq_true rfl) ?_
  refine g_iadd dX1_partOfFirst_34 ?_
  refine nmI hf (fun x7 hf => ?_)
  refine g_istore dX1_partOfFirst_35 (Nat.le_of_ble_eq_true rfl) rfl ?_
  refine g_iload (q := 0) dX1_partOfFirst_37 rfl ?_
  refine g_if_gt (tgt := 46) dX1_partOfFirst_39 (by decide) (fun c8 => ?_) (fun c8 => ?_)
  · have hf := it_ hf c8
    refine g_iload_n (q := 3) dX1_partOfFirst_46 rfl rfl ?_
    refine g_iload (q := 1) dX1_partOfFirst_47 rfl ?_
    refine g_imul dX1_partOfFirst_49 ?_
    refine g_iload (q := 0) dX1_partOfFirst_50 rfl ?_
    obtain ⟨h9, hf⟩ := gd_ hf
    refine g_idiv dX1_partOfFirst_52 h9 ?_
    refine g_lv [] rfl ?_
    exact wX1_partOfFirst_b53 E z  ((a1 * r2) / x7) m hf
  · have hf := ie_ hf c8
    refine g_iconst (v := 0) dX1_partOfFirst_42 kI_0 ?_
    refine g_goto (tgt := 53) dX1_partOfFirst_43 (by decide) ?_
    refine g_lv [] rfl ?_
    exact wX1_partOfFirst_b53 E z  0 m hf
theorem tX1_partOfFirst (E : pEv) (m : pMem) (a1 : Int32) (a2 : Int32) (a3 : Int32) {z : Int32} (hf : sX1_partOfFirst a1 a2 a3 m = some z) : gCn E yX1_partOfFirst kX1_partOfFirst [.ref (eA E 2), .int a1, .int a2, .int a3] m (z, m) := gCn_of (by decide +kernel) rfl rfl rfl (Nat.le_of_ble_eq_true rfl) rfl (wX1_partOfFirst_b0 E z a1 a2 a3 m  hf)
theorem wX1_divideAt_b185 (E : pEv) (z : Int32 × pMem) (m : pMem) (hf : sX1_divideAt_b185  m = some z) : gM E kX1_divideAt z 185 [] [] m := by
  unfold sX1_divideAt_b185 at hf
  exact g_retv dX1_divideAt_185 rfl (by rw [← Option.some.inj hf])
theorem wX1_divideAt_b0 (E : pEv) (z : Int32 × pMem) (a1 : Int32) (a2 : Int32) (m : pMem) (hf : sX1_divideAt a1 a2 m = some z) : gM E kX1_divideAt z 0 [(0, .ref (eA E 2)), (1, .int a1), (2, .int a2)] [] m := by
  unfold sX1_divideAt at hf
  refine g_aload_n (q := 0) dX1_divideAt_0 rfl rfl ?_
  refine g_get dX1_divideAt_1 fX1_46 (obX1 E m) (gvX1_0 E m) ?_
  refine g_get dX1_divideAt_4 fX1_89 (obX2 E m) (gvX2_9 E m) ?_
  refine g_iload_n (q := 1) dX1_divideAt_7 rfl rfl ?_
  obtain ⟨h1, hf⟩ := gd_ hf
  refine g_iald dX1_divideAt_8 ar_26 h1 ?_
  refine nmI hf (fun x2 hf => ?_)
  refine g_istore_n dX1_divideAt_9 rfl (Nat.le_of_ble_eq_true rfl) rfl ?_
  refine g_aload_n (q := 1) dX1_divideAt_10 rfl rfl ?_
  refine g_get dX1_divideAt_11 fX1_46 (obX1 E m) (gvX1_0 E m) ?_
  refine g_get dX1_divideAt_14 fX1_92 (obX2 E m) (gvX2_10 E m) ?_
  refine g_iload_n (q := 2) dX1_divideAt_17 rfl rfl ?_
  obtain ⟨h3, hf⟩ := gd_ hf
  refine g_iald dX1_divideAt_18 ar_27 h3 ?_
  refine nmI hf (fun x4 hf => ?_)
  refine g_istore dX1_divideAt_19 (Nat.le_of_ble_eq_true rfl) rfl ?_
  refine g_aload_n (q := 2) dX1_divideAt_21 rfl rfl ?_
  refine g_get dX1_divideAt_22 fX1_46 (obX1 E m) (gvX1_0 E m) ?_
  refine g_get dX1_divideAt_25 fX1_95 (obX2 E m) (gvX2_11 E m) ?_
  refine g_iload_n (q := 3) dX1_divideAt_28 rfl rfl ?_
  obtain ⟨h5, hf⟩ := gd_ hf
  refine g_iald dX1_divideAt_29 ar_28 h5 ?_
  refine nmI hf (fun x6 hf => ?_)
  refine g_istore dX1_divideAt_30 (Nat.le_of_ble_eq_true rfl) rfl ?_
  refine g_aload_n (q := 3) dX1_divideAt_32 rfl rfl ?_
  refine g_get dX1_divideAt_33 fX1_46 (obX1 E m) (gvX1_0 E m) ?_
  refine g_get dX1_divideAt_36 fX1_98 (obX2 E m) (gvX2_7 E m) ?_
  refine g_iload_n (q := 4) dX1_divideAt_39 rfl rfl ?_
  obtain ⟨h7, hf⟩ := gd_ hf
  refine g_iald dX1_divideAt_40 ar_24 h7 ?_
  by_cases c8 : (m.1 24 a1.toNatClampNeg) = 0
  · have hf := it_ hf c8
    refine g_tableIn (tgt := 68) (off := 27) dX1_divideAt_41 (by rw [c8]; decide) (by rw [c8]; decide) (by rw [c8]; decide) (by decide) ?_
    refine g_aload_n (q := 3) dX1_divideAt_68 rfl rfl ?_
    refine g_get dX1_divideAt_69 fX1_43 (obX1 E m) (gvX1_11 E m) ?_
    refine g_iload (q := 0) dX1_divideAt_72 rfl ?_
    refine g_aload_n (q := 3) dX1_divideAt_74 rfl rfl ?_
    refine g_aload_n (q := 3) dX1_divideAt_75 rfl rfl ?_
    refine g_get dX1_divideAt_76 fX1_43 (obX1 E m) (gvX1_11 E m) ?_
    refine g_iload_n (q := 2) dX1_divideAt_79 rfl rfl ?_
    obtain ⟨h9, hf⟩ := gd_ hf
    refine g_iald dX1_divideAt_80 ar_18 h9 ?_
    refine g_iload_n (q := 4) dX1_divideAt_81 rfl rfl ?_
    refine g_iload_n (q := 5) dX1_divideAt_82 rfl rfl ?_
    obtain ⟨r10, q11, hf⟩ := cbR_ hf
    refine g_cV (As := [.int (m.1 18 x2.toNatClampNeg), .int a1, .int a2]) dX1_divideAt_83 (tX1_partOfFirst E m (m.1 18 x2.toNatClampNeg) a1 a2 q11) gyX1_partOfFirst giX1_partOfFirst gsX1_partOfFirst mX1_99 (⟨rfl, rfl, Nat.le_of_ble_eq_true rfl, Nat.le_of_ble_eq_true rfl, Nat.le_of_ble_eq_true rfl, Nat.le_of_ble_eq_true rfl⟩) rfl (obX1 E m) rfl rfl rfl (Nat.le_of_ble_eq_true rfl) ?_
    obtain ⟨h12, hf⟩ := gd_ hf
    refine g_iast dX1_divideAt_86 ar_18 h12 ?_
    refine nmG hf (fun m13 hf => ?_)
    refine g_aload_n (q := 3) dX1_divideAt_87 rfl rfl ?_
    refine g_get dX1_divideAt_88 fX1_43 (obX1 E m13) (gvX1_11 E m13) ?_
    refine g_iload_n (q := 2) dX1_divideAt_91 rfl rfl ?_
    refine g_dup2 dX1_divideAt_92 rfl rfl ?_
    obtain ⟨h14, hf⟩ := gd_ hf
    refine g_iald dX1_divideAt_93 ar_18 h14 ?_
    refine g_aload_n (q := 3) dX1_divideAt_94 rfl rfl ?_
    refine g_get dX1_divideAt_95 fX1_43 (obX1 E m13) (gvX1_11 E m13) ?_
    refine g_iload (q := 0) dX1_divideAt_98 rfl ?_
    obtain ⟨h15, hf⟩ := gd_ hf
    refine g_iald dX1_divideAt_100 ar_18 h15 ?_
    refine g_isub dX1_divideAt_101 ?_
    obtain ⟨h16, hf⟩ := gd_ hf
    refine g_iast dX1_divideAt_102 ar_18 h16 ?_
    refine nmG hf (fun m17 hf => ?_)
    refine g_goto (tgt := 185) dX1_divideAt_103 (by decide) ?_
    refine g_lv [] rfl ?_
    exact wX1_divideAt_b185 E z  m17 hf
  · have hf := ie_ hf c8
    by_cases c18 : (m.1 24 a1.toNatClampNeg) = 1
    · have hf := it_ hf c18
      refine g_tableIn (tgt := 106) (off := 65) dX1_divideAt_41 (by rw [c18]; decide) (by rw [c18]; decide) (by rw [c18]; decide) (by decide) ?_
      refine g_aload_n (q := 3) dX1_divideAt_106 rfl rfl ?_
      refine g_get dX1_divideAt_107 fX1_43 (obX1 E m) (gvX1_11 E m) ?_
      refine g_iload (q := 0) dX1_divideAt_110 rfl ?_
      refine g_aload_n (q := 3) dX1_divideAt_112 rfl rfl ?_
      refine g_aload_n (q := 3) dX1_divideAt_113 rfl rfl ?_
      refine g_get dX1_divideAt_114 fX1_43 (obX1 E m) (gvX1_11 E m) ?_
      refine g_iload_n (q := 2) dX1_divideAt_117 rfl rfl ?_
      obtain ⟨h19, hf⟩ := gd_ hf
      refine g_iald dX1_divideAt_118 ar_18 h19 ?_
      refine g_iload_n (q := 4) dX1_divideAt_119 rfl rfl ?_
      refine g_iload_n (q := 5) dX1_divideAt_120 rfl rfl ?_
      obtain ⟨r20, q21, hf⟩ := cbR_ hf
      refine g_cV (As := [.int (m.1 18 x2.toNatClampNeg), .int a1, .int a2]) dX1_divideAt_121 (tX1_partOfFirst E m (m.1 18 x2.toNatClampNeg) a1 a2 q21) gyX1_partOfFirst giX1_partOfFirst gsX1_partOfFirst mX1_99 (⟨rfl, rfl, Nat.le_of_ble_eq_true rfl, Nat.le_of_ble_eq_true rfl, Nat.le_of_ble_eq_true rfl, Nat.le_of_ble_eq_true rfl⟩) rfl (obX1 E m) rfl rfl rfl (Nat.le_of_ble_eq_true rfl) ?_
      obtain ⟨h22, hf⟩ := gd_ hf
      refine g_iast dX1_divideAt_124 ar_18 h22 ?_
      refine nmG hf (fun m23 hf => ?_)
      refine g_aload_n (q := 3) dX1_divideAt_125 rfl rfl ?_
      refine g_get dX1_divideAt_126 fX1_43 (obX1 E m23) (gvX1_11 E m23) ?_
      refine g_iload (q := 0) dX1_divideAt_129 rfl ?_
      refine g_iconst (v := 1) dX1_divideAt_131 kI_1 ?_
      refine g_iadd dX1_divideAt_132 ?_
      refine g_aload_n (q := 3) dX1_divideAt_133 rfl rfl ?_
      refine g_get dX1_divideAt_134 fX1_43 (obX1 E m23) (gvX1_11 E m23) ?_
      refine g_iload_n (q := 2) dX1_divideAt_137 rfl rfl ?_
      obtain ⟨h24, hf⟩ := gd_ hf
      refine g_iald dX1_divideAt_138 ar_18 h24 ?_
      refine g_aload_n (q := 3) dX1_divideAt_139 rfl rfl ?_
      refine g_get dX1_divideAt_140 fX1_43 (obX1 E m23) (gvX1_11 E m23) ?_
      refine g_iload (q := 0) dX1_divideAt_143 rfl ?_
      obtain ⟨h25, hf⟩ := gd_ hf
      refine g_iald dX1_divideAt_145 ar_18 h25 ?_
      refine g_isub dX1_divideAt_146 ?_
      obtain ⟨h26, hf⟩ := gd_ hf
      refine g_iast dX1_divideAt_147 ar_18 h26 ?_
      refine nmG hf (fun m27 hf => ?_)
      refine g_aload_n (q := 3) dX1_divideAt_148 rfl rfl ?_
      refine g_get dX1_divideAt_149 fX1_43 (obX1 E m27) (gvX1_11 E m27) ?_
      refine g_iload_n (q := 2) dX1_divideAt_152 rfl rfl ?_
      refine g_iconst (v := 0) dX1_divideAt_153 kI_0 ?_
      obtain ⟨h28, hf⟩ := gd_ hf
      refine g_iast dX1_divideAt_154 ar_18 h28 ?_
      refine nmG hf (fun m29 hf => ?_)
      refine g_goto (tgt := 185) dX1_divideAt_155 (by decide) ?_
      refine g_lv [] rfl ?_
      exact wX1_divideAt_b185 E z  m29 hf
    · have hf := ie_ hf c18
      by_cases c30 : (m.1 24 a1.toNatClampNeg) = 2
      · have hf := it_ hf c30
        refine g_tableIn (tgt := 158) (off := 117) dX1_divideAt_41 (by rw [c30]; decide) (by rw [c30]; decide) (by rw [c30]; decide) (by decide) ?_
        refine g_aload_n (q := 3) dX1_divideAt_158 rfl rfl ?_
        refine g_get dX1_divideAt_159 fX1_43 (obX1 E m) (gvX1_11 E m) ?_
        refine g_iload_n (q := 2) dX1_divideAt_162 rfl rfl ?_
        refine g_dup2 dX1_divideAt_163 rfl rfl ?_
        obtain ⟨h31, hf⟩ := gd_ hf
        refine g_iald dX1_divideAt_164 ar_18 h31 ?_
        refine g_aload_n (q := 3) dX1_divideAt_165 rfl rfl ?_
        refine g_get dX1_divideAt_166 fX1_43 (obX1 E m) (gvX1_11 E m) ?_
        refine g_iload (q := 1) dX1_divideAt_169 rfl ?_
        obtain ⟨h32, hf⟩ := gd_ hf
        refine g_iald dX1_divideAt_171 ar_18 h32 ?_
        refine g_iadd dX1_divideAt_172 ?_
        obtain ⟨h33, hf⟩ := gd_ hf
        refine g_iast dX1_divideAt_173 ar_18 h33 ?_
        refine nmG hf (fun m34 hf => ?_)
        refine g_aload_n (q := 3) dX1_divideAt_174 rfl rfl ?_
        refine g_get dX1_divideAt_175 fX1_43 (obX1 E m34) (gvX1_11 E m34) ?_
        refine g_iload (q := 1) dX1_divideAt_178 rfl ?_
        refine g_iconst (v := 0) dX1_divideAt_180 kI_0 ?_
        obtain ⟨h35, hf⟩ := gd_ hf
        refine g_iast dX1_divideAt_181 ar_18 h35 ?_
        refine nmG hf (fun m36 hf => ?_)
        refine g_goto (tgt := 185) dX1_divideAt_182 (by decide) ?_
        refine g_lv [] rfl ?_
        exact wX1_divideAt_b185 E z  m36 hf
      · have hf := ie_ hf c30
        refine g_tableOut (tgt := 185) dX1_divideAt_41 (gsw_out (hi := 2) 3 (by decide) rfl (fun k hk => match k, hk with | 0, _ => c8 | 1, _ => c18 | 2, _ => c30 | n + 3, h => absurd h (by omega))) (by decide) ?_
        refine g_lv [] rfl ?_
        exact wX1_divideAt_b185 E z  m hf
theorem tX1_divideAt (E : pEv) (m : pMem) (a1 : Int32) (a2 : Int32) {z : Int32 × pMem} (hf : sX1_divideAt a1 a2 m = some z) : gCn E yX1_divideAt kX1_divideAt [.ref (eA E 2), .int a1, .int a2] m z := gCn_of (by decide +kernel) rfl rfl rfl (Nat.le_of_ble_eq_true rfl) rfl (wX1_divideAt_b0 E z a1 a2 m  hf)
theorem wX1_divide_b18 (E : pEv) (z : Int32 × pMem) (k18 : Int32 → Int32 → Int32 → pMem → gO) (ih18 : ∀ (l4 : Int32) (l5 : Int32) (l6 : Int32)  (m : pMem), k18 l4 l5 l6 m = some z → gM E kX1_divide z 18 [(0, .ref (eA E 2)), (4, .int l4), (5, .int l5), (6, .int l6)] [] m) (l4 : Int32) (l5 : Int32) (l6 : Int32) (m : pMem) (hf : sX1_divide_b18 k18 l4 l5 l6 m = some z) : gM E kX1_divide z 18 [(0, .ref (eA E 2)), (4, .int l4), (5, .int l5), (6, .int l6)] [] m := by
  unfold sX1_divide_b18 at hf
  refine g_iload (q := 3) dX1_divide_18 rfl ?_
  refine g_iload (q := 1) dX1_divide_20 rfl ?_
  refine g_icmp_ge (tgt := 39) dX1_divide_22 (by decide) (fun c6 => ?_) (fun c6 => ?_)
  · have hf := it_ hf c6
    exact g_retv dX1_divide_39 rfl (by rw [← Option.some.inj hf])
  · have hf := ie_ hf c6
    refine g_aload_n (q := 0) dX1_divide_25 rfl rfl ?_
    refine g_iload (q := 3) dX1_divide_26 rfl ?_
    refine g_iload (q := 2) dX1_divide_28 rfl ?_
    obtain ⟨r7, m9, q8, hf⟩ := cbE_ hf
    refine g_cVv (As := [.int l6, .int l5]) dX1_divide_30 (tX1_divideAt E m l6 l5 q8) gyX1_divideAt giX1_divideAt gsX1_divideAt mX1_85 (⟨rfl, rfl, Nat.le_of_ble_eq_true rfl, Nat.le_of_ble_eq_true rfl, Nat.le_of_ble_eq_true rfl, Nat.le_of_ble_eq_true rfl⟩) rfl (obX1 E m) rfl rfl rfl (Nat.le_of_ble_eq_true rfl) ?_
    refine g_iinc (q := 3) (v := l6 + 1) dX1_divide_33 rfl (by rw [kI_1]) (Nat.le_of_ble_eq_true rfl) rfl ?_
    refine g_goto (tgt := 18) dX1_divide_36 (by decide) ?_
    refine g_lv [1, 2, 3, 0] rfl ?_
    exact ih18 l4 l5 (l6 + 1) m9 hf
theorem wX1_divide_l18 (E : pEv) (z : Int32 × pMem) : ∀ (n : Nat) (l4 : Int32) (l5 : Int32) (l6 : Int32) (m : pMem), sX1_divide_l18 n l4 l5 l6 m = some z → gM E kX1_divide z 18 [(0, .ref (eA E 2)), (4, .int l4), (5, .int l5), (6, .int l6)] [] m := by
  intro n
  induction n with
  | zero => intro l4 l5 l6 m  hf; cases (show (none : Option _) = some z from hf)
  | succ n ih => intro l4 l5 l6 m  hf; exact wX1_divide_b18 E z  _  ih l4 l5 l6 m  hf
theorem wX1_divide_b0 (E : pEv) (z : Int32 × pMem) (a1 : Int32) (a2 : Int32) (a3 : Int32) (a4 : Int32) (a5 : Int32) (m : pMem) (hf : sX1_divide a1 a2 a3 a4 a5 m = some z) : gM E kX1_divide z 0 [(0, .ref (eA E 2)), (1, .int a1), (2, .int a2), (3, .int a3), (4, .int a4), (5, .int a5)] [] m := by
  unfold sX1_divide at hf
  refine g_aload_n (q := 0) dX1_divide_0 rfl rfl ?_
  refine g_get dX1_divide_1 fX1_43 (obX1 E m) (gvX1_11 E m) ?_
  refine g_iconst (v := 0) dX1_divide_4 kI_0 ?_
  obtain ⟨r1, m3, q2, hf⟩ := cbE_ hf
  refine g_cSv (As := [.ref (eA E 18), .int 0]) dX1_divide_5 (tJ7_fill_53178 E m 18 10 0 ar_18 q2) gyJ7_fill_53178 giJ7_fill_53178 mX1_79 (⟨rfl, rfl, Nat.le_of_ble_eq_true rfl, Nat.le_of_ble_eq_true rfl, Nat.le_of_ble_eq_true rfl, Nat.le_of_ble_eq_true rfl⟩) rfl rfl rfl (Nat.le_of_ble_eq_true rfl) ?_
  refine g_aload_n (q := 0) dX1_divide_8 rfl rfl ?_
  refine g_get dX1_divide_9 fX1_43 (obX1 E m3) (gvX1_11 E m3) ?_
  refine g_iload_n (q := 1) dX1_divide_12 rfl rfl ?_
  refine g_iload_n (q := 2) dX1_divide_13 rfl rfl ?_
  obtain ⟨h4, hf⟩ := gd_ hf
  refine g_iast dX1_divide_14 ar_18 h4 ?_
  refine nmG hf (fun m5 hf => ?_)
  refine g_iload_n (q := 3) dX1_divide_15 rfl rfl ?_
  refine g_istore dX1_divide_16 (Nat.le_of_ble_eq_true rfl) rfl ?_
  refine g_lv [1, 5, 6, 0] rfl ?_
  exact wX1_divide_l18 E z  5000 a4 a5 a3 m5 hf
theorem tX1_divide (E : pEv) (m : pMem) (a1 : Int32) (a2 : Int32) (a3 : Int32) (a4 : Int32) (a5 : Int32) {z : Int32 × pMem} (hf : sX1_divide a1 a2 a3 a4 a5 m = some z) : gCn E yX1_divide kX1_divide [.ref (eA E 2), .int a1, .int a2, .int a3, .int a4, .int a5] m z := gCn_of (by decide +kernel) rfl rfl rfl (Nat.le_of_ble_eq_true rfl) rfl (wX1_divide_b0 E z a1 a2 a3 a4 a5 m  hf)
theorem wX1_owedBy_b61 (E : pEv) (z : Int32 × pMem) (t0 : Int32) (m : pMem) (hf : sX1_owedBy_b61 t0 m = some z) : gM E kX1_owedBy z 61 [] [.int t0] m := by
  unfold sX1_owedBy_b61 at hf
  exact g_ret dX1_owedBy_61 rfl rfl (Option.some.inj hf).symm
theorem wX1_owedBy_b0 (E : pEv) (z : Int32 × pMem) (a1 : Int32) (a2 : Int32) (a3 : Int32) (a4 : Int32) (m : pMem) (hf : sX1_owedBy a1 a2 a3 a4 m = some z) : gM E kX1_owedBy z 0 [(0, .ref (eA E 2)), (1, .int a1), (2, .int a2), (3, .int a3), (4, .int a4)] [] m := by
  unfold sX1_owedBy at hf
  refine g_iload_n (q := 3) dX1_owedBy_0 rfl rfl ?_
  refine g_aload_n (q := 0) dX1_owedBy_1 rfl rfl ?_
  refine g_get dX1_owedBy_2 fX1_21 (obX1 E m) (gvX1_4 E m) ?_
  refine g_iload_n (q := 1) dX1_owedBy_5 rfl rfl ?_
  obtain ⟨h1, hf⟩ := gd_ hf
  refine g_iald dX1_owedBy_6 ar_14 h1 ?_
  refine g_icmp_ge (tgt := 12) dX1_owedBy_7 (by decide) (fun c2 => ?_) (fun c2 => ?_)
  · have hf := it_ hf c2
    refine g_aload_n (q := 0) dX1_owedBy_12 rfl rfl ?_
    refine g_get dX1_owedBy_13 fX1_46 (obX1 E m) (gvX1_0 E m) ?_
    refine g_iload_n (q := 3) dX1_owedBy_16 rfl rfl ?_
    obtain ⟨r3, q4, hf⟩ := cbR_ hf
    refine g_cV (As := [.int a3]) dX1_owedBy_17 (tX2_changesBy E m a3 q4) gyX2_changesBy giX2_changesBy gsX2_changesBy mX1_56 (⟨rfl, rfl, Nat.le_of_ble_eq_true rfl, Nat.le_of_ble_eq_true rfl, Nat.le_of_ble_eq_true rfl, Nat.le_of_ble_eq_true rfl⟩) rfl (obX2 E m) rfl rfl rfl (Nat.le_of_ble_eq_true rfl) ?_
    refine g_istore dX1_owedBy_20 (Nat.le_of_ble_eq_true rfl) rfl ?_
    refine g_aload_n (q := 1) dX1_owedBy_22 rfl rfl ?_
    refine g_get dX1_owedBy_23 fX1_18 (obX1 E m) (gvX1_3 E m) ?_
    refine g_iload_n (q := 2) dX1_owedBy_26 rfl rfl ?_
    obtain ⟨h5, hf⟩ := gd_ hf
    refine g_iald dX1_owedBy_27 ar_13 h5 ?_
    refine g_iconst (v := (-1)) dX1_owedBy_28 kI_m1 ?_
    refine g_icmp_eq (tgt := 62) dX1_owedBy_29 (by decide) (fun c6 => ?_) (fun c6 => ?_)
    · have hf := it_ hf c6
      refine g_aload_n (q := 1) dX1_owedBy_62 rfl rfl ?_
      refine g_aload_n (q := 1) dX1_owedBy_63 rfl rfl ?_
      refine g_get dX1_owedBy_64 fX1_9 (obX1 E m) (gvX1_1 E m) ?_
      refine g_iload_n (q := 2) dX1_owedBy_67 rfl rfl ?_
      obtain ⟨h7, hf⟩ := gd_ hf
      refine g_iald dX1_owedBy_68 ar_11 h7 ?_
      refine g_aload_n (q := 1) dX1_owedBy_69 rfl rfl ?_
      refine g_get dX1_owedBy_70 fX1_15 (obX1 E m) (gvX1_2 E m) ?_
      refine g_iload_n (q := 2) dX1_owedBy_73 rfl rfl ?_
      obtain ⟨h8, hf⟩ := gd_ hf
      refine g_iald dX1_owedBy_74 ar_12 h8 ?_
      refine g_aload_n (q := 1) dX1_owedBy_75 rfl rfl ?_
      refine g_get dX1_owedBy_76 fX1_46 (obX1 E m) (gvX1_0 E m) ?_
      refine g_aload_n (q := 1) dX1_owedBy_79 rfl rfl ?_
      refine g_get dX1_owedBy_80 fX1_21 (obX1 E m) (gvX1_4 E m) ?_
      refine g_iload_n (q := 2) dX1_owedBy_83 rfl rfl ?_
      obtain ⟨h9, hf⟩ := gd_ hf
      refine g_iald dX1_owedBy_84 ar_14 h9 ?_
      obtain ⟨r10, q11, hf⟩ := cbR_ hf
      refine g_cV (As := [.int (m.1 14 a1.toNatClampNeg)]) dX1_owedBy_85 (tX2_changesBy E m (m.1 14 a1.toNatClampNeg) q11) gyX2_changesBy giX2_changesBy gsX2_changesBy mX1_56 (⟨rfl, rfl, Nat.le_of_ble_eq_true rfl, Nat.le_of_ble_eq_true rfl, Nat.le_of_ble_eq_true rfl, Nat.le_of_ble_eq_true rfl⟩) rfl (obX2 E m) rfl rfl rfl (Nat.le_of_ble_eq_true rfl) ?_
      refine g_iload (q := 0) dX1_owedBy_88 rfl ?_
      refine g_iload (q := 5) dX1_owedBy_90 rfl ?_
      obtain ⟨r12, m14, q13, hf⟩ := cbE_ hf
      refine g_cVv (As := [.int (m.1 11 a1.toNatClampNeg), .int (m.1 12 a1.toNatClampNeg), .int r10, .int r3, .int a4]) dX1_owedBy_92 (tX1_divide E m (m.1 11 a1.toNatClampNeg) (m.1 12 a1.toNatClampNeg) r10 r3 a4 q13) gyX1_divide giX1_divide gsX1_divide mX1_65 (⟨rfl, rfl, Nat.le_of_ble_eq_true rfl, Nat.le_of_ble_eq_true rfl, Nat.le_of_ble_eq_true rfl, Nat.le_of_ble_eq_true rfl⟩) rfl (obX1 E m) rfl rfl rfl (Nat.le_of_ble_eq_true rfl) ?_
      refine g_aload_n (q := 1) dX1_owedBy_95 rfl rfl ?_
      refine g_get dX1_owedBy_96 fX1_43 (obX1 E m14) (gvX1_11 E m14) ?_
      refine g_iload_n (q := 3) dX1_owedBy_99 rfl rfl ?_
      obtain ⟨h15, hf⟩ := gd_ hf
      refine g_iald dX1_owedBy_100 ar_18 h15 ?_
      exact g_ret dX1_owedBy_101 rfl rfl (Option.some.inj hf).symm
    · have hf := ie_ hf c6
      refine g_aload_n (q := 1) dX1_owedBy_32 rfl rfl ?_
      refine g_get dX1_owedBy_33 fX1_46 (obX1 E m) (gvX1_0 E m) ?_
      refine g_aload_n (q := 1) dX1_owedBy_36 rfl rfl ?_
      refine g_get dX1_owedBy_37 fX1_18 (obX1 E m) (gvX1_3 E m) ?_
      refine g_iload_n (q := 2) dX1_owedBy_40 rfl rfl ?_
      obtain ⟨h16, hf⟩ := gd_ hf
      refine g_iald dX1_owedBy_41 ar_13 h16 ?_
      refine g_iload (q := 0) dX1_owedBy_42 rfl ?_
      obtain ⟨r17, q18, hf⟩ := cbR_ hf
      refine g_cV (As := [.int (m.1 13 a1.toNatClampNeg), .int r3]) dX1_owedBy_44 (tX2_ownerOf E m (m.1 13 a1.toNatClampNeg) r3 q18) gyX2_ownerOf giX2_ownerOf gsX2_ownerOf mX1_62 (⟨rfl, rfl, Nat.le_of_ble_eq_true rfl, Nat.le_of_ble_eq_true rfl, Nat.le_of_ble_eq_true rfl, Nat.le_of_ble_eq_true rfl⟩) rfl (obX2 E m) rfl rfl rfl (Nat.le_of_ble_eq_true rfl) ?_
      refine g_iload_n (q := 3) dX1_owedBy_47 rfl rfl ?_
      refine g_icmp_ne (tgt := 60) dX1_owedBy_48 (by decide) (fun c19 => ?_) (fun c19 => ?_)
      · have hf := it_ hf c19
        refine g_iconst (v := 0) dX1_owedBy_60 kI_0 ?_
        refine g_lv [] rfl ?_
        exact wX1_owedBy_b61 E z  0 m hf
      · have hf := ie_ hf (not_not_intro c19)
        refine g_aload_n (q := 1) dX1_owedBy_51 rfl rfl ?_
        refine g_get dX1_owedBy_52 fX1_15 (obX1 E m) (gvX1_2 E m) ?_
        refine g_iload_n (q := 2) dX1_owedBy_55 rfl rfl ?_
        obtain ⟨h20, hf⟩ := gd_ hf
        refine g_iald dX1_owedBy_56 ar_12 h20 ?_
        refine g_goto (tgt := 61) dX1_owedBy_57 (by decide) ?_
        refine g_lv [] rfl ?_
        exact wX1_owedBy_b61 E z  (m.1 12 a1.toNatClampNeg) m hf
  · have hf := ie_ hf c2
    refine g_iconst (v := 0) dX1_owedBy_10 kI_0 ?_
    exact g_ret dX1_owedBy_11 rfl rfl (Option.some.inj hf).symm
theorem tX1_owedBy (E : pEv) (m : pMem) (a1 : Int32) (a2 : Int32) (a3 : Int32) (a4 : Int32) {z : Int32 × pMem} (hf : sX1_owedBy a1 a2 a3 a4 m = some z) : gCn E yX1_owedBy kX1_owedBy [.ref (eA E 2), .int a1, .int a2, .int a3, .int a4] m z := gCn_of (by decide +kernel) rfl rfl rfl (Nat.le_of_ble_eq_true rfl) rfl (wX1_owedBy_b0 E z a1 a2 a3 a4 m  hf)
theorem wX1_ownerAbroadBehind_b109 (E : pEv) (z : Int32) (t0 : Int32) (m : pMem) (hf : sX1_ownerAbroadBehind_b109 t0 m = some z) : gM E kX1_ownerAbroadBehind (z, m) 109 [] [.int t0] m := by
  unfold sX1_ownerAbroadBehind_b109 at hf
  exact g_ret dX1_ownerAbroadBehind_109 rfl rfl (by rw [Option.some.inj hf])
theorem wX1_ownerAbroadBehind_b94 (E : pEv) (z : Int32) (t0 : Int32) (m : pMem) (hf : sX1_ownerAbroadBehind_b94 t0 m = some z) : gM E kX1_ownerAbroadBehind (z, m) 94 [] [.int t0] m := by
  unfold sX1_ownerAbroadBehind_b94 at hf
  exact g_ret dX1_ownerAbroadBehind_94 rfl rfl (by rw [Option.some.inj hf])
theorem wX1_ownerAbroadBehind_b45 (E : pEv) (z : Int32) (l1 : Int32) (l2 : Int32) (l3 : Int32) (l4 : Int32) (l5 : Int32) (m : pMem) (hf : sX1_ownerAbroadBehind_b45 l1 l2 l3 l4 l5 m = some z) : gM E kX1_ownerAbroadBehind (z, m) 45 [(0, .ref (eA E 2)), (1, .int l1), (2, .int l2), (3, .int l3), (4, .int l4), (5, .int l5)] [] m := by
  unfold sX1_ownerAbroadBehind_b45 at hf
  refine g_aload_n (q := 0) dX1_ownerAbroadBehind_45 rfl rfl ?_
  refine g_aload_n (q := 0) dX1_ownerAbroadBehind_46 rfl rfl ?_
  refine g_get dX1_ownerAbroadBehind_47 fX1_46 (obX1 E m) (gvX1_0 E m) ?_
  refine g_get dX1_ownerAbroadBehind_50 fX1_103 (obX2 E m) (gvX2_12 E m) ?_
  refine g_iload_n (q := 1) dX1_ownerAbroadBehind_53 rfl rfl ?_
  obtain ⟨h9, hf⟩ := gd_ hf
  refine g_iald dX1_ownerAbroadBehind_54 ar_106 h9 ?_
  refine g_iload_n (q := 1) dX1_ownerAbroadBehind_55 rfl rfl ?_
  refine g_iload_n (q := 2) dX1_ownerAbroadBehind_56 rfl rfl ?_
  obtain ⟨r10, q11, hf⟩ := cbR_ hf
  refine g_cV (As := [.int (m.1 106 l1.toNatClampNeg), .int l1, .int l2]) dX1_ownerAbroadBehind_57 (tX1_key E m (m.1 106 l1.toNatClampNeg) l1 l2 q11) gyX1_key giX1_key gsX1_key mX1_106 (⟨rfl, rfl, Nat.le_of_ble_eq_true rfl, Nat.le_of_ble_eq_true rfl, Nat.le_of_ble_eq_true rfl, Nat.le_of_ble_eq_true rfl⟩) rfl (obX1 E m) rfl rfl rfl (Nat.le_of_ble_eq_true rfl) ?_
  refine g_aload_n (q := 0) dX1_ownerAbroadBehind_60 rfl rfl ?_
  refine g_aload_n (q := 0) dX1_ownerAbroadBehind_61 rfl rfl ?_
  refine g_get dX1_ownerAbroadBehind_62 fX1_46 (obX1 E m) (gvX1_0 E m) ?_
  refine g_get dX1_ownerAbroadBehind_65 fX1_109 (obX2 E m) (gvX2_13 E m) ?_
  refine g_iload_n (q := 1) dX1_ownerAbroadBehind_68 rfl rfl ?_
  obtain ⟨h12, hf⟩ := gd_ hf
  refine g_iald dX1_ownerAbroadBehind_69 ar_107 h12 ?_
  refine g_iload_n (q := 1) dX1_ownerAbroadBehind_70 rfl rfl ?_
  refine g_iload_n (q := 2) dX1_ownerAbroadBehind_71 rfl rfl ?_
  obtain ⟨r13, q14, hf⟩ := cbR_ hf
  refine g_cV (As := [.int (m.1 107 l1.toNatClampNeg), .int l1, .int l2]) dX1_ownerAbroadBehind_72 (tX1_key E m (m.1 107 l1.toNatClampNeg) l1 l2 q14) gyX1_key giX1_key gsX1_key mX1_106 (⟨rfl, rfl, Nat.le_of_ble_eq_true rfl, Nat.le_of_ble_eq_true rfl, Nat.le_of_ble_eq_true rfl, Nat.le_of_ble_eq_true rfl⟩) rfl (obX1 E m) rfl rfl rfl (Nat.le_of_ble_eq_true rfl) ?_
  refine g_isub dX1_ownerAbroadBehind_75 ?_
  refine nmI hf (fun x15 hf => ?_)
  refine g_istore dX1_ownerAbroadBehind_76 (Nat.le_of_ble_eq_true rfl) rfl ?_
  refine g_iload (q := 6) dX1_ownerAbroadBehind_78 rfl ?_
  refine g_if_ne (tgt := 95) dX1_ownerAbroadBehind_80 (by decide) (fun c16 => ?_) (fun c16 => ?_)
  · have hf := it_ hf c16
    refine g_iload (q := 0) dX1_ownerAbroadBehind_95 rfl ?_
    refine g_if_lt (tgt := 105) dX1_ownerAbroadBehind_97 (by decide) (fun c17 => ?_) (fun c17 => ?_)
    · have hf := it_ hf c17
      refine g_iload (q := 5) dX1_ownerAbroadBehind_105 rfl ?_
      refine g_iconst (v := 1) dX1_ownerAbroadBehind_107 kI_1 ?_
      refine g_iadd dX1_ownerAbroadBehind_108 ?_
      refine g_lv [] rfl ?_
      exact wX1_ownerAbroadBehind_b109 E z  (l4 + (1 : Int32)) m hf
    · have hf := ie_ hf c17
      refine g_iload (q := 5) dX1_ownerAbroadBehind_100 rfl ?_
      refine g_goto (tgt := 109) dX1_ownerAbroadBehind_102 (by decide) ?_
      refine g_lv [] rfl ?_
      exact wX1_ownerAbroadBehind_b109 E z  l4 m hf
  · have hf := ie_ hf (not_not_intro c16)
    refine g_iload (q := 0) dX1_ownerAbroadBehind_83 rfl ?_
    refine g_if_le (tgt := 93) dX1_ownerAbroadBehind_85 (by decide) (fun c18 => ?_) (fun c18 => ?_)
    · have hf := it_ hf c18
      refine g_iload_n (q := 4) dX1_ownerAbroadBehind_93 rfl rfl ?_
      refine g_lv [] rfl ?_
      exact wX1_ownerAbroadBehind_b94 E z  l3 m hf
    · have hf := ie_ hf c18
      refine g_iload (q := 5) dX1_ownerAbroadBehind_88 rfl ?_
      refine g_goto (tgt := 94) dX1_ownerAbroadBehind_90 (by decide) ?_
      refine g_lv [] rfl ?_
      exact wX1_ownerAbroadBehind_b94 E z  l4 m hf
theorem wX1_ownerAbroadBehind_b0 (E : pEv) (z : Int32) (a1 : Int32) (a2 : Int32) (m : pMem) (hf : sX1_ownerAbroadBehind a1 a2 m = some z) : gM E kX1_ownerAbroadBehind (z, m) 0 [(0, .ref (eA E 2)), (1, .int a1), (2, .int a2)] [] m := by
  unfold sX1_ownerAbroadBehind at hf
  refine g_aload_n (q := 0) dX1_ownerAbroadBehind_0 rfl rfl ?_
  refine g_get dX1_ownerAbroadBehind_1 fX1_46 (obX1 E m) (gvX1_0 E m) ?_
  refine g_get dX1_ownerAbroadBehind_4 fX1_89 (obX2 E m) (gvX2_9 E m) ?_
  refine g_iload_n (q := 1) dX1_ownerAbroadBehind_7 rfl rfl ?_
  obtain ⟨h1, hf⟩ := gd_ hf
  refine g_iald dX1_ownerAbroadBehind_8 ar_26 h1 ?_
  refine nmI hf (fun x2 hf => ?_)
  refine g_istore_n dX1_ownerAbroadBehind_9 rfl (Nat.le_of_ble_eq_true rfl) rfl ?_
  refine g_aload_n (q := 1) dX1_ownerAbroadBehind_10 rfl rfl ?_
  refine g_get dX1_ownerAbroadBehind_11 fX1_46 (obX1 E m) (gvX1_0 E m) ?_
  refine g_get dX1_ownerAbroadBehind_14 fX1_95 (obX2 E m) (gvX2_11 E m) ?_
  refine g_iload_n (q := 2) dX1_ownerAbroadBehind_17 rfl rfl ?_
  obtain ⟨h3, hf⟩ := gd_ hf
  refine g_iald dX1_ownerAbroadBehind_18 ar_28 h3 ?_
  refine nmI hf (fun x4 hf => ?_)
  refine g_istore dX1_ownerAbroadBehind_19 (Nat.le_of_ble_eq_true rfl) rfl ?_
  refine g_aload_n (q := 2) dX1_ownerAbroadBehind_21 rfl rfl ?_
  refine g_get dX1_ownerAbroadBehind_22 fX1_46 (obX1 E m) (gvX1_0 E m) ?_
  refine g_get dX1_ownerAbroadBehind_25 fX1_98 (obX2 E m) (gvX2_7 E m) ?_
  refine g_iload_n (q := 3) dX1_ownerAbroadBehind_28 rfl rfl ?_
  obtain ⟨h5, hf⟩ := gd_ hf
  refine g_iald dX1_ownerAbroadBehind_29 ar_24 h5 ?_
  refine nmI hf (fun x6 hf => ?_)
  refine g_istore dX1_ownerAbroadBehind_30 (Nat.le_of_ble_eq_true rfl) rfl ?_
  refine g_iload (q := 0) dX1_ownerAbroadBehind_32 rfl ?_
  refine g_if_eq (tgt := 45) dX1_ownerAbroadBehind_34 (by decide) (fun c7 => ?_) (fun c7 => ?_)
  · have hf := it_ hf c7
    refine g_lv [3, 4, 5, 2, 1, 0] rfl ?_
    exact wX1_ownerAbroadBehind_b45 E z  a1 a2 x2 x4 x6 m hf
  · have hf := ie_ hf c7
    refine g_iload (q := 0) dX1_ownerAbroadBehind_37 rfl ?_
    refine g_iconst (v := 1) dX1_ownerAbroadBehind_39 kI_1 ?_
    refine g_icmp_eq (tgt := 45) dX1_ownerAbroadBehind_40 (by decide) (fun c8 => ?_) (fun c8 => ?_)
    · have hf := it_ hf c8
      refine g_lv [3, 4, 5, 2, 1, 0] rfl ?_
      exact wX1_ownerAbroadBehind_b45 E z  a1 a2 x2 x4 x6 m hf
    · have hf := ie_ hf c8
      refine g_iload_n (q := 2) dX1_ownerAbroadBehind_43 rfl rfl ?_
      exact g_ret dX1_ownerAbroadBehind_44 rfl rfl (by rw [Option.some.inj hf])
theorem tX1_ownerAbroadBehind (E : pEv) (m : pMem) (a1 : Int32) (a2 : Int32) {z : Int32} (hf : sX1_ownerAbroadBehind a1 a2 m = some z) : gCn E yX1_ownerAbroadBehind kX1_ownerAbroadBehind [.ref (eA E 2), .int a1, .int a2] m (z, m) := gCn_of (by decide +kernel) rfl rfl rfl (Nat.le_of_ble_eq_true rfl) rfl (wX1_ownerAbroadBehind_b0 E z a1 a2 m  hf)
theorem wX1_ownerAbroad_b75 (E : pEv) (z : Int32) (k5 : Int32 → Int32 → Int32 → Int32 → pMem → (Option Int32)) (ih5 : ∀ (l1 : Int32) (l2 : Int32) (l3 : Int32) (l4 : Int32)  (m : pMem), k5 l1 l2 l3 l4 m = some z → gM E kX1_ownerAbroad (z, m) 5 [(0, .ref (eA E 2)), (1, .int l1), (2, .int l2), (3, .int l3), (4, .int l4)] [] m) (l1 : Int32) (l2 : Int32) (l3 : Int32) (l4 : Int32) (m : pMem) (hf : sX1_ownerAbroad_b75 k5 l1 l2 l3 l4 m = some z) : gM E kX1_ownerAbroad (z, m) 75 [(0, .ref (eA E 2)), (1, .int l1), (2, .int l2), (3, .int l3), (4, .int l4)] [] m := by
  unfold sX1_ownerAbroad_b75 at hf
  refine g_iinc (q := 4) (v := l4 + 1) dX1_ownerAbroad_75 rfl (by rw [kI_1]) (Nat.le_of_ble_eq_true rfl) rfl ?_
  refine g_goto (tgt := 5) dX1_ownerAbroad_78 (by decide) ?_
  refine g_lv [1, 2, 3, 4, 0] rfl ?_
  exact ih5 l1 l2 l3 (l4 + 1) m hf
theorem wX1_ownerAbroad_b53 (E : pEv) (z : Int32) (k5 : Int32 → Int32 → Int32 → Int32 → pMem → (Option Int32)) (ih5 : ∀ (l1 : Int32) (l2 : Int32) (l3 : Int32) (l4 : Int32)  (m : pMem), k5 l1 l2 l3 l4 m = some z → gM E kX1_ownerAbroad (z, m) 5 [(0, .ref (eA E 2)), (1, .int l1), (2, .int l2), (3, .int l3), (4, .int l4)] [] m) (l1 : Int32) (l2 : Int32) (l3 : Int32) (l4 : Int32) (m : pMem) (hf : sX1_ownerAbroad_b53 k5 l1 l2 l3 l4 m = some z) : gM E kX1_ownerAbroad (z, m) 53 [(0, .ref (eA E 2)), (1, .int l1), (2, .int l2), (3, .int l3), (4, .int l4)] [] m := by
  unfold sX1_ownerAbroad_b53 at hf
  refine g_aload_n (q := 0) dX1_ownerAbroad_53 rfl rfl ?_
  refine g_get dX1_ownerAbroad_54 fX1_46 (obX1 E m) (gvX1_0 E m) ?_
  refine g_get dX1_ownerAbroad_57 fX1_89 (obX2 E m) (gvX2_9 E m) ?_
  refine g_iload (q := 4) dX1_ownerAbroad_60 rfl ?_
  obtain ⟨h8, hf⟩ := gd_ hf
  refine g_iald dX1_ownerAbroad_62 ar_26 h8 ?_
  refine g_iload_n (q := 3) dX1_ownerAbroad_63 rfl rfl ?_
  refine g_icmp_ne (tgt := 75) dX1_ownerAbroad_64 (by decide) (fun c9 => ?_) (fun c9 => ?_)
  · have hf := it_ hf c9
    exact wX1_ownerAbroad_b75 E z k5 ih5 l1 l2 l3 l4 m hf
  · have hf := ie_ hf (not_not_intro c9)
    refine g_aload_n (q := 0) dX1_ownerAbroad_67 rfl rfl ?_
    refine g_iload (q := 4) dX1_ownerAbroad_68 rfl ?_
    refine g_iload_n (q := 2) dX1_ownerAbroad_70 rfl rfl ?_
    obtain ⟨r10, q11, hf⟩ := cbR_ hf
    refine g_cV (As := [.int l4, .int l2]) dX1_ownerAbroad_71 (tX1_ownerAbroadBehind E m l4 l2 q11) gyX1_ownerAbroadBehind giX1_ownerAbroadBehind gsX1_ownerAbroadBehind mX1_112 (⟨rfl, rfl, Nat.le_of_ble_eq_true rfl, Nat.le_of_ble_eq_true rfl, Nat.le_of_ble_eq_true rfl, Nat.le_of_ble_eq_true rfl⟩) rfl (obX1 E m) rfl rfl rfl (Nat.le_of_ble_eq_true rfl) ?_
    refine g_istore_n dX1_ownerAbroad_74 rfl (Nat.le_of_ble_eq_true rfl) rfl ?_
    refine g_lv [1, 2, 3, 0, 4] rfl ?_
    exact wX1_ownerAbroad_b75 E z k5 ih5 l1 l2 r10 l4 m hf
theorem wX1_ownerAbroad_b5 (E : pEv) (z : Int32) (k5 : Int32 → Int32 → Int32 → Int32 → pMem → (Option Int32)) (ih5 : ∀ (l1 : Int32) (l2 : Int32) (l3 : Int32) (l4 : Int32)  (m : pMem), k5 l1 l2 l3 l4 m = some z → gM E kX1_ownerAbroad (z, m) 5 [(0, .ref (eA E 2)), (1, .int l1), (2, .int l2), (3, .int l3), (4, .int l4)] [] m) (l1 : Int32) (l2 : Int32) (l3 : Int32) (l4 : Int32) (m : pMem) (hf : sX1_ownerAbroad_b5 k5 l1 l2 l3 l4 m = some z) : gM E kX1_ownerAbroad (z, m) 5 [(0, .ref (eA E 2)), (1, .int l1), (2, .int l2), (3, .int l3), (4, .int l4)] [] m := by
  unfold sX1_ownerAbroad_b5 at hf
  refine g_iload (q := 4) dX1_ownerAbroad_5 rfl ?_
  refine g_iload_n (q := 1) dX1_ownerAbroad_7 rfl rfl ?_
  refine g_icmp_ge (tgt := 81) dX1_ownerAbroad_8 (by decide) (fun c1 => ?_) (fun c1 => ?_)
  · have hf := it_ hf c1
    refine g_iload_n (q := 3) dX1_ownerAbroad_81 rfl rfl ?_
    exact g_ret dX1_ownerAbroad_82 rfl rfl (by rw [Option.some.inj hf])
  · have hf := ie_ hf c1
    refine g_aload_n (q := 0) dX1_ownerAbroad_11 rfl rfl ?_
    refine g_get dX1_ownerAbroad_12 fX1_46 (obX1 E m) (gvX1_0 E m) ?_
    refine g_get dX1_ownerAbroad_15 fX1_98 (obX2 E m) (gvX2_7 E m) ?_
    refine g_iload (q := 4) dX1_ownerAbroad_18 rfl ?_
    obtain ⟨h2, hf⟩ := gd_ hf
    refine g_iald dX1_ownerAbroad_20 ar_24 h2 ?_
    refine g_iconst (v := 2) dX1_ownerAbroad_21 kI_2 ?_
    refine g_icmp_ne (tgt := 53) dX1_ownerAbroad_22 (by decide) (fun c3 => ?_) (fun c3 => ?_)
    · have hf := it_ hf c3
      exact wX1_ownerAbroad_b53 E z k5 ih5 l1 l2 l3 l4 m hf
    · have hf := ie_ hf (not_not_intro c3)
      refine g_aload_n (q := 0) dX1_ownerAbroad_25 rfl rfl ?_
      refine g_get dX1_ownerAbroad_26 fX1_46 (obX1 E m) (gvX1_0 E m) ?_
      refine g_get dX1_ownerAbroad_29 fX1_92 (obX2 E m) (gvX2_10 E m) ?_
      refine g_iload (q := 4) dX1_ownerAbroad_32 rfl ?_
      obtain ⟨h4, hf⟩ := gd_ hf
      refine g_iald dX1_ownerAbroad_34 ar_27 h4 ?_
      refine g_iload_n (q := 3) dX1_ownerAbroad_35 rfl rfl ?_
      refine g_icmp_ne (tgt := 53) dX1_ownerAbroad_36 (by decide) (fun c5 => ?_) (fun c5 => ?_)
      · have hf := it_ hf c5
        exact wX1_ownerAbroad_b53 E z k5 ih5 l1 l2 l3 l4 m hf
      · have hf := ie_ hf (not_not_intro c5)
        refine g_aload_n (q := 0) dX1_ownerAbroad_39 rfl rfl ?_
        refine g_get dX1_ownerAbroad_40 fX1_46 (obX1 E m) (gvX1_0 E m) ?_
        refine g_get dX1_ownerAbroad_43 fX1_89 (obX2 E m) (gvX2_9 E m) ?_
        refine g_iload (q := 4) dX1_ownerAbroad_46 rfl ?_
        obtain ⟨h6, hf⟩ := gd_ hf
        refine g_iald dX1_ownerAbroad_48 ar_26 h6 ?_
        refine nmI hf (fun x7 hf => ?_)
        refine g_istore_n dX1_ownerAbroad_49 rfl (Nat.le_of_ble_eq_true rfl) rfl ?_
        refine g_goto (tgt := 75) dX1_ownerAbroad_50 (by decide) ?_
        refine g_lv [1, 2, 3, 0, 4] rfl ?_
        exact wX1_ownerAbroad_b75 E z k5 ih5 l1 l2 x7 l4 m hf
theorem wX1_ownerAbroad_l5 (E : pEv) (z : Int32) : ∀ (n : Nat) (l1 : Int32) (l2 : Int32) (l3 : Int32) (l4 : Int32) (m : pMem), sX1_ownerAbroad_l5 n l1 l2 l3 l4 m = some z → gM E kX1_ownerAbroad (z, m) 5 [(0, .ref (eA E 2)), (1, .int l1), (2, .int l2), (3, .int l3), (4, .int l4)] [] m := by
  intro n
  induction n with
  | zero => intro l1 l2 l3 l4 m  hf; cases (show (none : Option _) = some z from hf)
  | succ n ih => intro l1 l2 l3 l4 m  hf; exact wX1_ownerAbroad_b5 E z  _  ih l1 l2 l3 l4 m  hf
theorem wX1_ownerAbroad_b0 (E : pEv) (z : Int32) (a1 : Int32) (a2 : Int32) (m : pMem) (hf : sX1_ownerAbroad a1 a2 m = some z) : gM E kX1_ownerAbroad (z, m) 0 [(0, .ref (eA E 2)), (1, .int a1), (2, .int a2)] [] m := by
  unfold sX1_ownerAbroad at hf
  refine g_iconst (v := 0) dX1_ownerAbroad_0 kI_0 ?_
  refine g_istore_n dX1_ownerAbroad_1 rfl (Nat.le_of_ble_eq_true rfl) rfl ?_
  refine g_iconst (v := 0) dX1_ownerAbroad_2 kI_0 ?_
  refine g_istore dX1_ownerAbroad_3 (Nat.le_of_ble_eq_true rfl) rfl ?_
  refine g_lv [2, 3, 4, 1, 0] rfl ?_
  exact wX1_ownerAbroad_l5 E z  5000 a1 a2 0 0 m hf
theorem tX1_ownerAbroad (E : pEv) (m : pMem) (a1 : Int32) (a2 : Int32) {z : Int32} (hf : sX1_ownerAbroad a1 a2 m = some z) : gCn E yX1_ownerAbroad kX1_ownerAbroad [.ref (eA E 2), .int a1, .int a2] m (z, m) := gCn_of (by decide +kernel) rfl rfl rfl (Nat.le_of_ble_eq_true rfl) rfl (wX1_ownerAbroad_b0 E z a1 a2 m  hf)
theorem wX1_ownedBy_b43 (E : pEv) (z : Int32 × pMem) (t0 : Int32) (m : pMem) (hf : sX1_ownedBy_b43 t0 m = some z) : gM E kX1_ownedBy z 43 [] [.int t0] m := by
  unfold sX1_ownedBy_b43 at hf
  exact g_ret dX1_ownedBy_43 rfl rfl (Option.some.inj hf).symm
theorem wX1_ownedBy_b71 (E : pEv) (z : Int32 × pMem) (t0 : Int32) (m : pMem) (hf : sX1_ownedBy_b71 t0 m = some z) : gM E kX1_ownedBy z 71 [] [.int t0] m := by
  unfold sX1_ownedBy_b71 at hf
  exact g_ret dX1_ownedBy_71 rfl rfl (Option.some.inj hf).symm
theorem wX1_ownedBy_b0 (E : pEv) (z : Int32 × pMem) (a1 : Int32) (a2 : Int32) (a3 : Int32) (a4 : Int32) (m : pMem) (hf : sX1_ownedBy a1 a2 a3 a4 m = some z) : gM E kX1_ownedBy z 0 [(0, .ref (eA E 2)), (1, .int a1), (2, .int a2), (3, .int a3), (4, .int a4)] [] m := by
  unfold sX1_ownedBy at hf
  refine g_aload_n (q := 0) dX1_ownedBy_0 rfl rfl ?_
  refine g_get dX1_ownedBy_1 fX1_46 (obX1 E m) (gvX1_0 E m) ?_
  refine g_iload_n (q := 3) dX1_ownedBy_4 rfl rfl ?_
  obtain ⟨r1, q2, hf⟩ := cbR_ hf
  refine g_cV (As := [.int a3]) dX1_ownedBy_5 (tX2_changesBy E m a3 q2) gyX2_changesBy giX2_changesBy gsX2_changesBy mX1_56 (⟨rfl, rfl, Nat.le_of_ble_eq_true rfl, Nat.le_of_ble_eq_true rfl, Nat.le_of_ble_eq_true rfl, Nat.le_of_ble_eq_true rfl⟩) rfl (obX2 E m) rfl rfl rfl (Nat.le_of_ble_eq_true rfl) ?_
  refine g_istore dX1_ownedBy_8 (Nat.le_of_ble_eq_true rfl) rfl ?_
  refine g_aload_n (q := 1) dX1_ownedBy_10 rfl rfl ?_
  refine g_get dX1_ownedBy_11 fX1_31 (obX1 E m) (gvX1_7 E m) ?_
  refine g_iload_n (q := 2) dX1_ownedBy_14 rfl rfl ?_
  obtain ⟨h3, hf⟩ := gd_ hf
  refine g_iald dX1_ownedBy_15 ar_15 h3 ?_
  refine g_if_ne (tgt := 44) dX1_ownedBy_16 (by decide) (fun c4 => ?_) (fun c4 => ?_)
  · have hf := it_ hf c4
    refine g_aload_n (q := 1) dX1_ownedBy_44 rfl rfl ?_
    refine g_get dX1_ownedBy_45 fX1_31 (obX1 E m) (gvX1_7 E m) ?_
    refine g_iload_n (q := 2) dX1_ownedBy_48 rfl rfl ?_
    obtain ⟨h5, hf⟩ := gd_ hf
    refine g_iald dX1_ownedBy_49 ar_15 h5 ?_
    refine g_iconst (v := 2) dX1_ownedBy_50 kI_2 ?_
    refine g_icmp_ne (tgt := 72) dX1_ownedBy_51 (by decide) (fun c6 => ?_) (fun c6 => ?_)
    · have hf := it_ hf c6
      refine g_aload_n (q := 1) dX1_ownedBy_72 rfl rfl ?_
      refine g_iconst (v := 0) dX1_ownedBy_73 kI_0 ?_
      refine g_aload_n (q := 1) dX1_ownedBy_74 rfl rfl ?_
      refine g_get dX1_ownedBy_75 fX1_34 (obX1 E m) (gvX1_8 E m) ?_
      refine g_iload_n (q := 2) dX1_ownedBy_78 rfl rfl ?_
      obtain ⟨h7, hf⟩ := gd_ hf
      refine g_iald dX1_ownedBy_79 ar_16 h7 ?_
      refine g_iconst (v := 0) dX1_ownedBy_80 kI_0 ?_
      refine g_iload (q := 0) dX1_ownedBy_81 rfl ?_
      refine g_iload (q := 5) dX1_ownedBy_83 rfl ?_
      obtain ⟨r8, m10, q9, hf⟩ := cbE_ hf
      refine g_cVv (As := [.int 0, .int (m.1 16 a1.toNatClampNeg), .int 0, .int r1, .int a4]) dX1_ownedBy_85 (tX1_divide E m 0 (m.1 16 a1.toNatClampNeg) 0 r1 a4 q9) gyX1_divide giX1_divide gsX1_divide mX1_65 (⟨rfl, rfl, Nat.le_of_ble_eq_true rfl, Nat.le_of_ble_eq_true rfl, Nat.le_of_ble_eq_true rfl, Nat.le_of_ble_eq_true rfl⟩) rfl (obX1 E m) rfl rfl rfl (Nat.le_of_ble_eq_true rfl) ?_
      refine g_aload_n (q := 1) dX1_ownedBy_88 rfl rfl ?_
      refine g_get dX1_ownedBy_89 fX1_43 (obX1 E m10) (gvX1_11 E m10) ?_
      refine g_iload_n (q := 3) dX1_ownedBy_92 rfl rfl ?_
      obtain ⟨h11, hf⟩ := gd_ hf
      refine g_iald dX1_ownedBy_93 ar_18 h11 ?_
      exact g_ret dX1_ownedBy_94 rfl rfl (Option.some.inj hf).symm
    · have hf := ie_ hf (not_not_intro c6)
      refine g_aload_n (q := 1) dX1_ownedBy_54 rfl rfl ?_
      refine g_iload (q := 0) dX1_ownedBy_55 rfl ?_
      refine g_iload (q := 5) dX1_ownedBy_57 rfl ?_
      obtain ⟨r12, q13, hf⟩ := cbR_ hf
      refine g_cV (As := [.int r1, .int a4]) dX1_ownedBy_59 (tX1_ownerAbroad E m r1 a4 q13) gyX1_ownerAbroad giX1_ownerAbroad gsX1_ownerAbroad mX1_69 (⟨rfl, rfl, Nat.le_of_ble_eq_true rfl, Nat.le_of_ble_eq_true rfl, Nat.le_of_ble_eq_true rfl, Nat.le_of_ble_eq_true rfl⟩) rfl (obX1 E m) rfl rfl rfl (Nat.le_of_ble_eq_true rfl) ?_
      refine g_iload_n (q := 3) dX1_ownedBy_62 rfl rfl ?_
      refine g_icmp_ne (tgt := 70) dX1_ownedBy_63 (by decide) (fun c14 => ?_) (fun c14 => ?_)
      · have hf := it_ hf c14
        refine g_iconst (v := 0) dX1_ownedBy_70 kI_0 ?_
        refine g_lv [] rfl ?_
        exact wX1_ownedBy_b71 E z  0 m hf
      · have hf := ie_ hf (not_not_intro c14)
        refine g_iconst (v := 1) dX1_ownedBy_66 kI_1 ?_
        refine g_goto (tgt := 71) dX1_ownedBy_67 (by decide) ?_
        refine g_lv [] rfl ?_
        exact wX1_ownedBy_b71 E z  1 m hf
  · have hf := ie_ hf (not_not_intro c4)
    refine g_aload_n (q := 1) dX1_ownedBy_19 rfl rfl ?_
    refine g_get dX1_ownedBy_20 fX1_46 (obX1 E m) (gvX1_0 E m) ?_
    refine g_aload_n (q := 1) dX1_ownedBy_23 rfl rfl ?_
    refine g_get dX1_ownedBy_24 fX1_37 (obX1 E m) (gvX1_9 E m) ?_
    refine g_iload_n (q := 2) dX1_ownedBy_27 rfl rfl ?_
    obtain ⟨h15, hf⟩ := gd_ hf
    refine g_iald dX1_ownedBy_28 ar_17 h15 ?_
    refine g_iload (q := 0) dX1_ownedBy_29 rfl ?_
    obtain ⟨r16, q17, hf⟩ := cbR_ hf
    refine g_cV (As := [.int (m.1 17 a1.toNatClampNeg), .int r1]) dX1_ownedBy_31 (tX2_ownerOf E m (m.1 17 a1.toNatClampNeg) r1 q17) gyX2_ownerOf giX2_ownerOf gsX2_ownerOf mX1_62 (⟨rfl, rfl, Nat.le_of_ble_eq_true rfl, Nat.le_of_ble_eq_true rfl, Nat.le_of_ble_eq_true rfl, Nat.le_of_ble_eq_true rfl⟩) rfl (obX2 E m) rfl rfl rfl (Nat.le_of_ble_eq_true rfl) ?_
    refine g_iload_n (q := 3) dX1_ownedBy_34 rfl rfl ?_
    refine g_icmp_ne (tgt := 42) dX1_ownedBy_35 (by decide) (fun c18 => ?_) (fun c18 => ?_)
    · have hf := it_ hf c18
      refine g_iconst (v := 0) dX1_ownedBy_42 kI_0 ?_
      refine g_lv [] rfl ?_
      exact wX1_ownedBy_b43 E z  0 m hf
    · have hf := ie_ hf (not_not_intro c18)
      refine g_iconst (v := 1) dX1_ownedBy_38 kI_1 ?_
      refine g_goto (tgt := 43) dX1_ownedBy_39 (by decide) ?_
      refine g_lv [] rfl ?_
      exact wX1_ownedBy_b43 E z  1 m hf
theorem tX1_ownedBy (E : pEv) (m : pMem) (a1 : Int32) (a2 : Int32) (a3 : Int32) (a4 : Int32) {z : Int32 × pMem} (hf : sX1_ownedBy a1 a2 a3 a4 m = some z) : gCn E yX1_ownedBy kX1_ownedBy [.ref (eA E 2), .int a1, .int a2, .int a3, .int a4] m z := gCn_of (by decide +kernel) rfl rfl rfl (Nat.le_of_ble_eq_true rfl) rfl (wX1_ownedBy_b0 E z a1 a2 a3 a4 m  hf)
theorem wX1_burdenOf_b71 (E : pEv) (z : Int32 × pMem) (k38 : Int32 → Int32 → Int32 → Int32 → Int32 → pMem → gO) (ih38 : ∀ (l1 : Int32) (l2 : Int32) (l3 : Int32) (l4 : Int32) (l5 : Int32)  (m : pMem), k38 l1 l2 l3 l4 l5 m = some z → gM E kX1_burdenOf z 38 [(0, .ref (eA E 2)), (1, .int l1), (2, .int l2), (3, .int l3), (4, .int l4), (5, .int l5)] [] m) (l1 : Int32) (l2 : Int32) (l3 : Int32) (l4 : Int32) (l5 : Int32) (m : pMem) (hf : sX1_burdenOf_b71 k38 l1 l2 l3 l4 l5 m = some z) : gM E kX1_burdenOf z 71 [(0, .ref (eA E 2)), (1, .int l1), (2, .int l2), (3, .int l3), (4, .int l4), (5, .int l5)] [] m := by
  unfold sX1_burdenOf_b71 at hf
  refine g_iinc (q := 5) (v := l5 + 1) dX1_burdenOf_71 rfl (by rw [kI_1]) (Nat.le_of_ble_eq_true rfl) rfl ?_
  refine g_goto (tgt := 38) dX1_burdenOf_74 (by decide) ?_
  refine g_lv [1, 2, 3, 4, 5, 0] rfl ?_
  exact ih38 l1 l2 l3 l4 (l5 + 1) m hf
theorem wX1_burdenOf_b38 (E : pEv) (z : Int32 × pMem) (k38 : Int32 → Int32 → Int32 → Int32 → Int32 → pMem → gO) (ih38 : ∀ (l1 : Int32) (l2 : Int32) (l3 : Int32) (l4 : Int32) (l5 : Int32)  (m : pMem), k38 l1 l2 l3 l4 l5 m = some z → gM E kX1_burdenOf z 38 [(0, .ref (eA E 2)), (1, .int l1), (2, .int l2), (3, .int l3), (4, .int l4), (5, .int l5)] [] m) (l1 : Int32) (l2 : Int32) (l3 : Int32) (l4 : Int32) (l5 : Int32) (m : pMem) (hf : sX1_burdenOf_b38 k38 l1 l2 l3 l4 l5 m = some z) : gM E kX1_burdenOf z 38 [(0, .ref (eA E 2)), (1, .int l1), (2, .int l2), (3, .int l3), (4, .int l4), (5, .int l5)] [] m := by
  unfold sX1_burdenOf_b38 at hf
  refine g_iload (q := 5) dX1_burdenOf_38 rfl ?_
  refine g_aload_n (q := 0) dX1_burdenOf_40 rfl rfl ?_
  refine g_get dX1_burdenOf_41 fX1_40 (obX1 E m) (gvX1_10 E m) ?_
  refine g_icmp_ge (tgt := 77) dX1_burdenOf_44 (by decide) (fun c6 => ?_) (fun c6 => ?_)
  · have hf := it_ hf c6
    refine g_iload (q := 4) dX1_burdenOf_77 rfl ?_
    exact g_ret dX1_burdenOf_79 rfl rfl (Option.some.inj hf).symm
  · have hf := ie_ hf c6
    refine g_aload_n (q := 0) dX1_burdenOf_47 rfl rfl ?_
    refine g_get dX1_burdenOf_48 fX1_31 (obX1 E m) (gvX1_7 E m) ?_
    refine g_iload (q := 5) dX1_burdenOf_51 rfl ?_
    obtain ⟨h7, hf⟩ := gd_ hf
    refine g_iald dX1_burdenOf_53 ar_15 h7 ?_
    refine g_if_eq (tgt := 71) dX1_burdenOf_54 (by decide) (fun c8 => ?_) (fun c8 => ?_)
    · have hf := it_ hf c8
      exact wX1_burdenOf_b71 E z k38 ih38 l1 l2 l3 l4 l5 m hf
    · have hf := ie_ hf c8
      refine g_iload (q := 4) dX1_burdenOf_57 rfl ?_
      refine g_aload_n (q := 0) dX1_burdenOf_59 rfl rfl ?_
      refine g_iload (q := 5) dX1_burdenOf_60 rfl ?_
      refine g_iload_n (q := 1) dX1_burdenOf_62 rfl rfl ?_
      refine g_iload_n (q := 2) dX1_burdenOf_63 rfl rfl ?_
      refine g_iload_n (q := 3) dX1_burdenOf_64 rfl rfl ?_
      obtain ⟨r9, m11, q10, hf⟩ := cbE_ hf
      refine g_cV (As := [.int l5, .int l1, .int l2, .int l3]) dX1_burdenOf_65 (tX1_ownedBy E m l5 l1 l2 l3 q10) gyX1_ownedBy giX1_ownedBy gsX1_ownedBy mX1_76 (⟨rfl, rfl, Nat.le_of_ble_eq_true rfl, Nat.le_of_ble_eq_true rfl, Nat.le_of_ble_eq_true rfl, Nat.le_of_ble_eq_true rfl⟩) rfl (obX1 E m) rfl rfl rfl (Nat.le_of_ble_eq_true rfl) ?_
      refine g_isub dX1_burdenOf_68 ?_
      refine nmI hf (fun x12 hf => ?_)
      refine g_istore dX1_burdenOf_69 (Nat.le_of_ble_eq_true rfl) rfl ?_
      refine g_lv [1, 2, 3, 4, 0, 5] rfl ?_
      exact wX1_burdenOf_b71 E z k38 ih38 l1 l2 l3 x12 l5 m11 hf
theorem wX1_burdenOf_l38 (E : pEv) (z : Int32 × pMem) : ∀ (n : Nat) (l1 : Int32) (l2 : Int32) (l3 : Int32) (l4 : Int32) (l5 : Int32) (m : pMem), sX1_burdenOf_l38 n l1 l2 l3 l4 l5 m = some z → gM E kX1_burdenOf z 38 [(0, .ref (eA E 2)), (1, .int l1), (2, .int l2), (3, .int l3), (4, .int l4), (5, .int l5)] [] m := by
  intro n
  induction n with
  | zero => intro l1 l2 l3 l4 l5 m  hf; cases (show (none : Option _) = some z from hf)
  | succ n ih => intro l1 l2 l3 l4 l5 m  hf; exact wX1_burdenOf_b38 E z  _  ih l1 l2 l3 l4 l5 m  hf
theorem wX1_burdenOf_b6 (E : pEv) (z : Int32 × pMem) (k6 : Int32 → Int32 → Int32 → Int32 → Int32 → pMem → gO) (ih6 : ∀ (l1 : Int32) (l2 : Int32) (l3 : Int32) (l4 : Int32) (l5 : Int32)  (m : pMem), k6 l1 l2 l3 l4 l5 m = some z → gM E kX1_burdenOf z 6 [(0, .ref (eA E 2)), (1, .int l1), (2, .int l2), (3, .int l3), (4, .int l4), (5, .int l5)] [] m) (l1 : Int32) (l2 : Int32) (l3 : Int32) (l4 : Int32) (l5 : Int32) (m : pMem) (hf : sX1_burdenOf_b6 k6 l1 l2 l3 l4 l5 m = some z) : gM E kX1_burdenOf z 6 [(0, .ref (eA E 2)), (1, .int l1), (2, .int l2), (3, .int l3), (4, .int l4), (5, .int l5)] [] m := by
  unfold sX1_burdenOf_b6 at hf
  refine g_iload (q := 5) dX1_burdenOf_6 rfl ?_
  refine g_aload_n (q := 0) dX1_burdenOf_8 rfl rfl ?_
  refine g_get dX1_burdenOf_9 fX1_24 (obX1 E m) (gvX1_5 E m) ?_
  refine g_icmp_ge (tgt := 35) dX1_burdenOf_12 (by decide) (fun c1 => ?_) (fun c1 => ?_)
  · have hf := it_ hf c1
    refine g_iconst (v := 0) dX1_burdenOf_35 kI_0 ?_
    refine g_istore dX1_burdenOf_36 (Nat.le_of_ble_eq_true rfl) rfl ?_
    refine g_lv [1, 2, 3, 4, 5, 0] rfl ?_
    exact wX1_burdenOf_l38 E z  5000 l1 l2 l3 l4 0 m hf
  · have hf := ie_ hf c1
    refine g_iload (q := 4) dX1_burdenOf_15 rfl ?_
    refine g_aload_n (q := 0) dX1_burdenOf_17 rfl rfl ?_
    refine g_iload (q := 5) dX1_burdenOf_18 rfl ?_
    refine g_iload_n (q := 1) dX1_burdenOf_20 rfl rfl ?_
    refine g_iload_n (q := 2) dX1_burdenOf_21 rfl rfl ?_
    refine g_iload_n (q := 3) dX1_burdenOf_22 rfl rfl ?_
    obtain ⟨r2, m4, q3, hf⟩ := cbE_ hf
    refine g_cV (As := [.int l5, .int l1, .int l2, .int l3]) dX1_burdenOf_23 (tX1_owedBy E m l5 l1 l2 l3 q3) gyX1_owedBy giX1_owedBy gsX1_owedBy mX1_72 (⟨rfl, rfl, Nat.le_of_ble_eq_true rfl, Nat.le_of_ble_eq_true rfl, Nat.le_of_ble_eq_true rfl, Nat.le_of_ble_eq_true rfl⟩) rfl (obX1 E m) rfl rfl rfl (Nat.le_of_ble_eq_true rfl) ?_
    refine g_iadd dX1_burdenOf_26 ?_
    refine nmI hf (fun x5 hf => ?_)
    refine g_istore dX1_burdenOf_27 (Nat.le_of_ble_eq_true rfl) rfl ?_
    refine g_iinc (q := 5) (v := l5 + 1) dX1_burdenOf_29 rfl (by rw [kI_1]) (Nat.le_of_ble_eq_true rfl) rfl ?_
    refine g_goto (tgt := 6) dX1_burdenOf_32 (by decide) ?_
    refine g_lv [2, 3, 4, 5, 1, 0] rfl ?_
    exact ih6 l1 l2 l3 x5 (l5 + 1) m4 hf
theorem wX1_burdenOf_l6 (E : pEv) (z : Int32 × pMem) : ∀ (n : Nat) (l1 : Int32) (l2 : Int32) (l3 : Int32) (l4 : Int32) (l5 : Int32) (m : pMem), sX1_burdenOf_l6 n l1 l2 l3 l4 l5 m = some z → gM E kX1_burdenOf z 6 [(0, .ref (eA E 2)), (1, .int l1), (2, .int l2), (3, .int l3), (4, .int l4), (5, .int l5)] [] m := by
  intro n
  induction n with
  | zero => intro l1 l2 l3 l4 l5 m  hf; cases (show (none : Option _) = some z from hf)
  | succ n ih => intro l1 l2 l3 l4 l5 m  hf; exact wX1_burdenOf_b6 E z  _  ih l1 l2 l3 l4 l5 m  hf
theorem wX1_burdenOf_b0 (E : pEv) (z : Int32 × pMem) (a1 : Int32) (a2 : Int32) (a3 : Int32) (m : pMem) (hf : sX1_burdenOf a1 a2 a3 m = some z) : gM E kX1_burdenOf z 0 [(0, .ref (eA E 2)), (1, .int a1), (2, .int a2), (3, .int a3)] [] m := by
  unfold sX1_burdenOf at hf
  refine g_iconst (v := 0) dX1_burdenOf_0 kI_0 ?_
  refine g_istore dX1_burdenOf_1 (Nat.le_of_ble_eq_true rfl) rfl ?_
  refine g_iconst (v := 0) dX1_burdenOf_3 kI_0 ?_
  refine g_istore dX1_burdenOf_4 (Nat.le_of_ble_eq_true rfl) rfl ?_
  refine g_lv [2, 3, 4, 5, 1, 0] rfl ?_
  exact wX1_burdenOf_l6 E z  5000 a1 a2 a3 0 0 m hf
theorem tX1_burdenOf (E : pEv) (m : pMem) (a1 : Int32) (a2 : Int32) (a3 : Int32) {z : Int32 × pMem} (hf : sX1_burdenOf a1 a2 a3 m = some z) : gCn E yX1_burdenOf kX1_burdenOf [.ref (eA E 2), .int a1, .int a2, .int a3] m z := gCn_of (by decide +kernel) rfl rfl rfl (Nat.le_of_ble_eq_true rfl) rfl (wX1_burdenOf_b0 E z a1 a2 a3 m  hf)
theorem wX8_best_b62 (E : pEv) (z : Int32 × pMem) (k29 : Int32 → Int32 → Int32 → Int32 → pMem → gO) (ih29 : ∀ (l1 : Int32) (l2 : Int32) (l3 : Int32) (l4 : Int32)  (m : pMem), k29 l1 l2 l3 l4 m = some z → gM E kX8_best z 29 [(0, .ref (eA E 0)), (1, .int l1), (2, .int l2), (3, .int l3), (4, .int l4)] [] m) (l1 : Int32) (l2 : Int32) (l3 : Int32) (l4 : Int32) (m : pMem) (hf : sX8_best_b62 k29 l1 l2 l3 l4 m = some z) : gM E kX8_best z 62 [(0, .ref (eA E 0)), (1, .int l1), (2, .int l2), (3, .int l3), (4, .int l4)] [] m := by
  unfold sX8_best_b62 at hf
  refine g_iinc (q := 4) (v := l4 + 1) dX8_best_62 rfl (by rw [kI_1]) (Nat.le_of_ble_eq_true rfl) rfl ?_
  refine g_goto (tgt := 29) dX8_best_65 (by decide) ?_
  refine g_lv [1, 2, 3, 4, 0] rfl ?_
  exact ih29 l1 l2 l3 (l4 + 1) m hf
theorem wX8_best_b29 (E : pEv) (z : Int32 × pMem) (k29 : Int32 → Int32 → Int32 → Int32 → pMem → gO) (ih29 : ∀ (l1 : Int32) (l2 : Int32) (l3 : Int32) (l4 : Int32)  (m : pMem), k29 l1 l2 l3 l4 m = some z → gM E kX8_best z 29 [(0, .ref (eA E 0)), (1, .int l1), (2, .int l2), (3, .int l3), (4, .int l4)] [] m) (l1 : Int32) (l2 : Int32) (l3 : Int32) (l4 : Int32) (m : pMem) (hf : sX8_best_b29 k29 l1 l2 l3 l4 m = some z) : gM E kX8_best z 29 [(0, .ref (eA E 0)), (1, .int l1), (2, .int l2), (3, .int l3), (4, .int l4)] [] m := by
  unfold sX8_best_b29 at hf
  refine g_iload (q := 4) dX8_best_29 rfl ?_
  refine g_iconst (v := 2) dX8_best_31 kI_2 ?_
  refine g_icmp_gt (tgt := 68) dX8_best_32 (by decide) (fun c7 => ?_) (fun c7 => ?_)
  · have hf := it_ hf c7
    refine g_iload_n (q := 3) dX8_best_68 rfl rfl ?_
    exact g_ret dX8_best_69 rfl rfl (Option.some.inj hf).symm
  · have hf := ie_ hf c7
    refine g_aload_n (q := 0) dX8_best_35 rfl rfl ?_
    refine g_get dX8_best_36 fX8_51 (obX8 E m) (gvX8_5 E m) ?_
    refine g_iload_n (q := 1) dX8_best_39 rfl rfl ?_
    refine g_iload_n (q := 2) dX8_best_40 rfl rfl ?_
    refine g_iload (q := 4) dX8_best_41 rfl ?_
    obtain ⟨r8, m10, q9, hf⟩ := cbE_ hf
    refine g_cV (As := [.int l1, .int l2, .int l4]) dX8_best_43 (tX1_burdenOf E m l1 l2 l4 q9) gyX1_burdenOf giX1_burdenOf gsX1_burdenOf mX8_249 (⟨rfl, rfl, Nat.le_of_ble_eq_true rfl, Nat.le_of_ble_eq_true rfl, Nat.le_of_ble_eq_true rfl, Nat.le_of_ble_eq_true rfl⟩) rfl (obX1 E m) rfl rfl rfl (Nat.le_of_ble_eq_true rfl) ?_
    refine g_aload_n (q := 0) dX8_best_46 rfl rfl ?_
    refine g_get dX8_best_47 fX8_51 (obX8 E m10) (gvX8_5 E m10) ?_
    refine g_iload_n (q := 1) dX8_best_50 rfl rfl ?_
    refine g_iload_n (q := 2) dX8_best_51 rfl rfl ?_
    refine g_iload_n (q := 3) dX8_best_52 rfl rfl ?_
    obtain ⟨r11, m13, q12, hf⟩ := cbE_ hf
    refine g_cV (As := [.int l1, .int l2, .int l3]) dX8_best_53 (tX1_burdenOf E m10 l1 l2 l3 q12) gyX1_burdenOf giX1_burdenOf gsX1_burdenOf mX8_249 (⟨rfl, rfl, Nat.le_of_ble_eq_true rfl, Nat.le_of_ble_eq_true rfl, Nat.le_of_ble_eq_true rfl, Nat.le_of_ble_eq_true rfl⟩) rfl (obX1 E m10) rfl rfl rfl (Nat.le_of_ble_eq_true rfl) ?_
    refine g_icmp_ge (tgt := 62) dX8_best_56 (by decide) (fun c14 => ?_) (fun c14 => ?_)
    · have hf := it_ hf c14
      exact wX8_best_b62 E z k29 ih29 l1 l2 l3 l4 m13 hf
    · have hf := ie_ hf c14
      refine g_iload (q := 4) dX8_best_59 rfl ?_
      refine g_istore_n dX8_best_61 rfl (Nat.le_of_ble_eq_true rfl) rfl ?_
      refine g_lv [1, 2, 3, 0, 4] rfl ?_
      exact wX8_best_b62 E z k29 ih29 l1 l2 l4 l4 m13 hf
theorem wX8_best_l29 (E : pEv) (z : Int32 × pMem) : ∀ (n : Nat) (l1 : Int32) (l2 : Int32) (l3 : Int32) (l4 : Int32) (m : pMem), sX8_best_l29 n l1 l2 l3 l4 m = some z → gM E kX8_best z 29 [(0, .ref (eA E 0)), (1, .int l1), (2, .int l2), (3, .int l3), (4, .int l4)] [] m := by
  intro n
  induction n with
  | zero => intro l1 l2 l3 l4 m  hf; cases (show (none : Option _) = some z from hf)
  | succ n ih => intro l1 l2 l3 l4 m  hf; exact wX8_best_b29 E z  _  ih l1 l2 l3 l4 m  hf
theorem wX8_best_b0 (E : pEv) (z : Int32 × pMem) (a1 : Int32) (a2 : Int32) (m : pMem) (hf : sX8_best a1 a2 m = some z) : gM E kX8_best z 0 [(0, .ref (eA E 0)), (1, .int a1), (2, .int a2)] [] m := by
  unfold sX8_best at hf
  refine g_aload_n (q := 0) dX8_best_0 rfl rfl ?_
  refine g_get dX8_best_1 fX8_10 (obX8 E m) (gvX8_0 E m) ?_
  refine g_iload_n (q := 1) dX8_best_4 rfl rfl ?_
  obtain ⟨r1, q2, hf⟩ := cbR_ hf
  refine g_cV (As := [.int a1]) dX8_best_5 (tX2_knowsLand E m a1 q2) gyX2_knowsLand giX2_knowsLand gsX2_knowsLand mX8_119 (⟨rfl, rfl, Nat.le_of_ble_eq_true rfl, Nat.le_of_ble_eq_true rfl, Nat.le_of_ble_eq_true rfl, Nat.le_of_ble_eq_true rfl⟩) rfl (obX2 E m) rfl rfl rfl (Nat.le_of_ble_eq_true rfl) ?_
  refine g_if_ne (tgt := 14) dX8_best_8 (by decide) (fun c3 => ?_) (fun c3 => ?_)
  · have hf := it_ hf c3
    refine g_iload_n (q := 2) dX8_best_14 rfl rfl ?_
    obtain ⟨r4, q5, hf⟩ := cbR_ hf
    refine g_cS (As := [.int a2]) dX8_best_15 (tX8_isDay E m a2 q5) gyX8_isDay giX8_isDay mX8_110 (⟨rfl, rfl, Nat.le_of_ble_eq_true rfl, Nat.le_of_ble_eq_true rfl, Nat.le_of_ble_eq_true rfl, Nat.le_of_ble_eq_true rfl⟩) rfl rfl rfl (Nat.le_of_ble_eq_true rfl) ?_
    refine g_if_ne (tgt := 24) dX8_best_18 (by decide) (fun c6 => ?_) (fun c6 => ?_)
    · have hf := it_ hf c6
      refine g_iconst (v := 0) dX8_best_24 kI_0 ?_
      refine g_istore_n dX8_best_25 rfl (Nat.le_of_ble_eq_true rfl) rfl ?_
      refine g_iconst (v := 1) dX8_best_26 kI_1 ?_
      refine g_istore dX8_best_27 (Nat.le_of_ble_eq_true rfl) rfl ?_
      refine g_lv [2, 3, 4, 1, 0] rfl ?_
      exact wX8_best_l29 E z  5000 a1 a2 0 1 m hf
    · have hf := ie_ hf (not_not_intro c6)
      refine g_bipush (v := (-3)) dX8_best_21 kB_m3 ?_
      exact g_ret dX8_best_23 rfl rfl (Option.some.inj hf).symm
  · have hf := ie_ hf (not_not_intro c3)
    refine g_bipush (v := (-2)) dX8_best_11 kB_m2 ?_
    exact g_ret dX8_best_13 rfl rfl (Option.some.inj hf).symm
theorem tX8_best (E : pEv) (m : pMem) (a1 : Int32) (a2 : Int32) {z : Int32 × pMem} (hf : sX8_best a1 a2 m = some z) : gCn E yX8_best kX8_best [.ref (eA E 0), .int a1, .int a2] m z := gCn_of (by decide +kernel) rfl rfl rfl (Nat.le_of_ble_eq_true rfl) rfl (wX8_best_b0 E z a1 a2 m  hf)
theorem wX3_knowsPact_b17 (E : pEv) (z : Int32) (t0 : Int32) (m : pMem) (hf : sX3_knowsPact_b17 t0 m = some z) : gM E kX3_knowsPact (z, m) 17 [] [.int t0] m := by
  unfold sX3_knowsPact_b17 at hf
  exact g_retz dX3_knowsPact_17 rfl (by rw [Option.some.inj hf])
theorem wX3_knowsPact_b16 (E : pEv) (z : Int32) (m : pMem) (hf : sX3_knowsPact_b16  m = some z) : gM E kX3_knowsPact (z, m) 16 [] [] m := by
  unfold sX3_knowsPact_b16 at hf
  refine g_iconst (v := 0) dX3_knowsPact_16 kI_0 ?_
  exact wX3_knowsPact_b17 E z  0 m hf
theorem wX3_knowsPact_b0 (E : pEv) (z : Int32) (a1 : Int32) (m : pMem) (hf : sX3_knowsPact a1 m = some z) : gM E kX3_knowsPact (z, m) 0 [(0, .ref (eA E 4)), (1, .int a1)] [] m := by
  unfold sX3_knowsPact at hf
  refine g_iload_n (q := 1) dX3_knowsPact_0 rfl rfl ?_
  refine g_if_lt (tgt := 16) dX3_knowsPact_1 (by decide) (fun c1 => ?_) (fun c1 => ?_)
  · have hf := it_ hf c1
    refine g_lv [] rfl ?_
    exact wX3_knowsPact_b16 E z  m hf
  · have hf := ie_ hf c1
    refine g_iload_n (q := 1) dX3_knowsPact_4 rfl rfl ?_
    refine g_aload_n (q := 0) dX3_knowsPact_5 rfl rfl ?_
    refine g_get dX3_knowsPact_6 fX3_24 (obX3 E m) (gvX3_8 E m) ?_
    refine g_icmp_ge (tgt := 16) dX3_knowsPact_9 (by decide) (fun c2 => ?_) (fun c2 => ?_)
    · have hf := it_ hf c2
      refine g_lv [] rfl ?_
      exact wX3_knowsPact_b16 E z  m hf
    · have hf := ie_ hf c2
      refine g_iconst (v := 1) dX3_knowsPact_12 kI_1 ?_
      refine g_goto (tgt := 17) dX3_knowsPact_13 (by decide) ?_
      refine g_lv [] rfl ?_
      exact wX3_knowsPact_b17 E z  1 m hf
theorem tX3_knowsPact (E : pEv) (m : pMem) (a1 : Int32) {z : Int32} (hf : sX3_knowsPact a1 m = some z) : gCn E yX3_knowsPact kX3_knowsPact [.ref (eA E 4), .int a1] m (z, m) := gCn_of (by decide +kernel) rfl rfl rfl (Nat.le_of_ble_eq_true rfl) rfl (wX3_knowsPact_b0 E z a1 m  hf)
theorem wX7_latest_b130 (E : pEv) (z : Int32) (t0 : Int32) (m : pMem) (hf : sX7_latest_b130 t0 m = some z) : gM E kX7_latest (z, m) 130 [] [.int t0] m := by
  unfold sX7_latest_b130 at hf
  exact g_ret dX7_latest_130 rfl rfl (by rw [Option.some.inj hf])
theorem wX7_latest_b102 (E : pEv) (z : Int32) (k6 : Int32 → Int32 → Int32 → Int32 → Int32 → Int32 → Int32 → pMem → (Option Int32)) (ih6 : ∀ (l1 : Int32) (l2 : Int32) (l3 : Int32) (l4 : Int32) (l5 : Int32) (l6 : Int32) (l7 : Int32)  (m : pMem), k6 l1 l2 l3 l4 l5 l6 l7 m = some z → gM E kX7_latest (z, m) 6 [(0, .ref (eA E 8)), (1, .int l1), (2, .int l2), (3, .int l3), (4, .int l4), (5, .int l5), (6, .int l6), (7, .int l7)] [] m) (l1 : Int32) (l2 : Int32) (l3 : Int32) (l4 : Int32) (l5 : Int32) (l6 : Int32) (l7 : Int32) (m : pMem) (hf : sX7_latest_b102 k6 l1 l2 l3 l4 l5 l6 l7 m = some z) : gM E kX7_latest (z, m) 102 [(0, .ref (eA E 8)), (1, .int l1), (2, .int l2), (3, .int l3), (4, .int l4), (5, .int l5), (6, .int l6), (7, .int l7)] [] m := by
  unfold sX7_latest_b102 at hf
  refine g_iinc (q := 7) (v := l7 + 1) dX7_latest_102 rfl (by rw [kI_1]) (Nat.le_of_ble_eq_true rfl) rfl ?_
  refine g_goto (tgt := 6) dX7_latest_105 (by decide) ?_
  refine g_lv [1, 2, 3, 4, 5, 6, 7, 0] rfl ?_
  exact ih6 l1 l2 l3 l4 l5 l6 (l7 + 1) m hf
theorem wX7_latest_b98 (E : pEv) (z : Int32) (k6 : Int32 → Int32 → Int32 → Int32 → Int32 → Int32 → Int32 → pMem → (Option Int32)) (ih6 : ∀ (l1 : Int32) (l2 : Int32) (l3 : Int32) (l4 : Int32) (l5 : Int32) (l6 : Int32) (l7 : Int32)  (m : pMem), k6 l1 l2 l3 l4 l5 l6 l7 m = some z → gM E kX7_latest (z, m) 6 [(0, .ref (eA E 8)), (1, .int l1), (2, .int l2), (3, .int l3), (4, .int l4), (5, .int l5), (6, .int l6), (7, .int l7)] [] m) (l1 : Int32) (l2 : Int32) (l3 : Int32) (l4 : Int32) (l5 : Int32) (l7 : Int32) (m : pMem) (hf : sX7_latest_b98 k6 l1 l2 l3 l4 l5 l7 m = some z) : gM E kX7_latest (z, m) 98 [(0, .ref (eA E 8)), (1, .int l1), (2, .int l2), (3, .int l3), (4, .int l4), (5, .int l5), (7, .int l7)] [] m := by
  unfold sX7_latest_b98 at hf
  refine g_iload (q := 6) dX7_latest_98 rfl ?_
  refine g_istore dX7_latest_100 (Nat.le_of_ble_eq_true rfl) rfl ?_
  refine g_lv [1, 2, 3, 4, 5, 6, 0, 7] rfl ?_
  exact wX7_latest_b102 E z k6 ih6 l1 l2 l3 l4 l5 l7 l7 m hf
theorem wX7_latest_b6 (E : pEv) (z : Int32) (k6 : Int32 → Int32 → Int32 → Int32 → Int32 → Int32 → Int32 → pMem → (Option Int32)) (ih6 : ∀ (l1 : Int32) (l2 : Int32) (l3 : Int32) (l4 : Int32) (l5 : Int32) (l6 : Int32) (l7 : Int32)  (m : pMem), k6 l1 l2 l3 l4 l5 l6 l7 m = some z → gM E kX7_latest (z, m) 6 [(0, .ref (eA E 8)), (1, .int l1), (2, .int l2), (3, .int l3), (4, .int l4), (5, .int l5), (6, .int l6), (7, .int l7)] [] m) (l1 : Int32) (l2 : Int32) (l3 : Int32) (l4 : Int32) (l5 : Int32) (l6 : Int32) (l7 : Int32) (m : pMem) (hf : sX7_latest_b6 k6 l1 l2 l3 l4 l5 l6 l7 m = some z) : gM E kX7_latest (z, m) 6 [(0, .ref (eA E 8)), (1, .int l1), (2, .int l2), (3, .int l3), (4, .int l4), (5, .int l5), (6, .int l6), (7, .int l7)] [] m := by
  unfold sX7_latest_b6 at hf
  refine g_iload (q := 7) dX7_latest_6 rfl ?_
  refine g_aload_n (q := 0) dX7_latest_8 rfl rfl ?_
  refine g_get dX7_latest_9 fX7_28 (obX7 E m) (gvX7_5 E m) ?_
  refine g_icmp_ge (tgt := 108) dX7_latest_12 (by decide) (fun c2 => ?_) (fun c2 => ?_)
  · have hf := it_ hf c2
    refine g_iload (q := 6) dX7_latest_108 rfl ?_
    refine g_if_ge (tgt := 115) dX7_latest_110 (by decide) (fun c3 => ?_) (fun c3 => ?_)
    · have hf := it_ hf c3
      refine g_aload_n (q := 0) dX7_latest_115 rfl rfl ?_
      refine g_get dX7_latest_116 fX7_22 (obX7 E m) (gvX7_3 E m) ?_
      refine g_iload (q := 6) dX7_latest_119 rfl ?_
      obtain ⟨h4, hf⟩ := gd_ hf
      refine g_zald dX7_latest_121 ar_62 h4 ?_
      refine g_if_eq (tgt := 129) dX7_latest_122 (by decide) (fun c5 => ?_) (fun c5 => ?_)
      · have hf := it_ hf c5
        refine g_iconst (v := 0) dX7_latest_129 kI_0 ?_
        refine g_lv [] rfl ?_
        exact wX7_latest_b130 E z  0 m hf
      · have hf := ie_ hf c5
        refine g_iconst (v := 1) dX7_latest_125 kI_1 ?_
        refine g_goto (tgt := 130) dX7_latest_126 (by decide) ?_
        refine g_lv [] rfl ?_
        exact wX7_latest_b130 E z  1 m hf
    · have hf := ie_ hf c3
      refine g_iconst (v := (-1)) dX7_latest_113 kI_m1 ?_
      exact g_ret dX7_latest_114 rfl rfl (by rw [Option.some.inj hf])
  · have hf := ie_ hf c2
    refine g_aload_n (q := 0) dX7_latest_15 rfl rfl ?_
    refine g_get dX7_latest_16 fX7_9 (obX7 E m) (gvX7_0 E m) ?_
    refine g_iload (q := 7) dX7_latest_19 rfl ?_
    obtain ⟨h6, hf⟩ := gd_ hf
    refine g_iald dX7_latest_21 ar_59 h6 ?_
    refine g_iload_n (q := 1) dX7_latest_22 rfl rfl ?_
    refine g_icmp_ne (tgt := 102) dX7_latest_23 (by decide) (fun c7 => ?_) (fun c7 => ?_)
    · have hf := it_ hf c7
      exact wX7_latest_b102 E z k6 ih6 l1 l2 l3 l4 l5 l6 l7 m hf
    · have hf := ie_ hf (not_not_intro c7)
      refine g_aload_n (q := 0) dX7_latest_26 rfl rfl ?_
      refine g_get dX7_latest_27 fX7_15 (obX7 E m) (gvX7_1 E m) ?_
      refine g_iload (q := 7) dX7_latest_30 rfl ?_
      obtain ⟨h8, hf⟩ := gd_ hf
      refine g_iald dX7_latest_32 ar_60 h8 ?_
      refine g_iload_n (q := 2) dX7_latest_33 rfl rfl ?_
      refine g_icmp_ne (tgt := 102) dX7_latest_34 (by decide) (fun c9 => ?_) (fun c9 => ?_)
      · have hf := it_ hf c9
        exact wX7_latest_b102 E z k6 ih6 l1 l2 l3 l4 l5 l6 l7 m hf
      · have hf := ie_ hf (not_not_intro c9)
        refine g_aload_n (q := 0) dX7_latest_37 rfl rfl ?_
        refine g_get dX7_latest_38 fX7_18 (obX7 E m) (gvX7_2 E m) ?_
        refine g_iload (q := 7) dX7_latest_41 rfl ?_
        obtain ⟨h10, hf⟩ := gd_ hf
        refine g_zald dX7_latest_43 ar_61 h10 ?_
        refine g_iload_n (q := 3) dX7_latest_44 rfl rfl ?_
        refine g_icmp_eq (tgt := 51) dX7_latest_45 (by decide) (fun c11 => ?_) (fun c11 => ?_)
        · have hf := it_ hf c11
          refine g_aload_n (q := 0) dX7_latest_51 rfl rfl ?_
          refine g_get dX7_latest_52 fX7_25 (obX7 E m) (gvX7_4 E m) ?_
          refine g_iload (q := 7) dX7_latest_55 rfl ?_
          obtain ⟨h12, hf⟩ := gd_ hf
          refine g_iald dX7_latest_57 ar_63 h12 ?_
          refine g_iload (q := 4) dX7_latest_58 rfl ?_
          refine g_icmp_gt (tgt := 102) dX7_latest_60 (by decide) (fun c13 => ?_) (fun c13 => ?_)
          · have hf := it_ hf c13
            exact wX7_latest_b102 E z k6 ih6 l1 l2 l3 l4 l5 l6 l7 m hf
          · have hf := ie_ hf c13
            refine g_iload (q := 5) dX7_latest_63 rfl ?_
            refine g_iload (q := 7) dX7_latest_65 rfl ?_
            refine g_ishr dX7_latest_67 ?_
            refine g_iconst (v := 1) dX7_latest_68 kI_1 ?_
            refine g_iand dX7_latest_69 ?_
            refine g_if_eq (tgt := 76) dX7_latest_70 (by decide) (fun c14 => ?_) (fun c14 => ?_)
            · have hf := it_ hf c14
              refine g_iload (q := 6) dX7_latest_76 rfl ?_
              refine g_if_lt (tgt := 98) dX7_latest_78 (by decide) (fun c15 => ?_) (fun c15 => ?_)
              · have hf := it_ hf c15
                refine g_lv [0, 1, 2, 3, 4, 5, 7] rfl ?_
                exact wX7_latest_b98 E z k6 ih6 l1 l2 l3 l4 l5 l7 m hf
              · have hf := ie_ hf c15
                refine g_aload_n (q := 0) dX7_latest_81 rfl rfl ?_
                refine g_get dX7_latest_82 fX7_25 (obX7 E m) (gvX7_4 E m) ?_
                refine g_iload (q := 7) dX7_latest_85 rfl ?_
                obtain ⟨h16, hf⟩ := gd_ hf
                refine g_iald dX7_latest_87 ar_63 h16 ?_
                refine g_aload_n (q := 0) dX7_latest_88 rfl rfl ?_
                refine g_get dX7_latest_89 fX7_25 (obX7 E m) (gvX7_4 E m) ?_
                refine g_iload (q := 6) dX7_latest_92 rfl ?_
                obtain ⟨h17, hf⟩ := gd_ hf
                refine g_iald dX7_latest_94 ar_63 h17 ?_
                refine g_icmp_lt (tgt := 102) dX7_latest_95 (by decide) (fun c18 => ?_) (fun c18 => ?_)
                · have hf := it_ hf c18
                  exact wX7_latest_b102 E z k6 ih6 l1 l2 l3 l4 l5 l6 l7 m hf
                · have hf := ie_ hf c18
                  refine g_lv [0, 1, 2, 3, 4, 5, 7] rfl ?_
                  exact wX7_latest_b98 E z k6 ih6 l1 l2 l3 l4 l5 l7 m hf
            · have hf := ie_ hf c14
              refine g_goto (tgt := 102) dX7_latest_73 (by decide) ?_
              exact wX7_latest_b102 E z k6 ih6 l1 l2 l3 l4 l5 l6 l7 m hf
        · have hf := ie_ hf c11
          refine g_goto (tgt := 102) dX7_latest_48 (by decide) ?_
          exact wX7_latest_b102 E z k6 ih6 l1 l2 l3 l4 l5 l6 l7 m hf
theorem wX7_latest_l6 (E : pEv) (z : Int32) : ∀ (n : Nat) (l1 : Int32) (l2 : Int32) (l3 : Int32) (l4 : Int32) (l5 : Int32) (l6 : Int32) (l7 : Int32) (m : pMem), sX7_latest_l6 n l1 l2 l3 l4 l5 l6 l7 m = some z → gM E kX7_latest (z, m) 6 [(0, .ref (eA E 8)), (1, .int l1), (2, .int l2), (3, .int l3), (4, .int l4), (5, .int l5), (6, .int l6), (7, .int l7)] [] m := by
  intro n
  induction n with
  | zero => intro l1 l2 l3 l4 l5 l6 l7 m  hf; cases (show (none : Option _) = some z from hf)
  | succ n ih => intro l1 l2 l3 l4 l5 l6 l7 m  hf; exact wX7_latest_b6 E z  _  ih l1 l2 l3 l4 l5 l6 l7 m  hf
theorem wX7_latest_b0 (E : pEv) (z : Int32) (a1 : Int32) (a2 : Int32) (a3 : Int32) (a4 : Int32) (a5 : Int32) (m : pMem) (hf : sX7_latest a1 a2 a3 a4 a5 m = some z) : gM E kX7_latest (z, m) 0 [(0, .ref (eA E 8)), (1, .int a1), (2, .int a2), (3, .int a3), (4, .int a4), (5, .int a5)] [] m := by
  unfold sX7_latest at hf
  refine g_iconst (v := (-1)) dX7_latest_0 kI_m1 ?_
  refine nmI hf (fun x1 hf => ?_)
  refine g_istore dX7_latest_1 (Nat.le_of_ble_eq_true rfl) rfl ?_
  refine g_iconst (v := 0) dX7_latest_3 kI_0 ?_
  refine g_istore dX7_latest_4 (Nat.le_of_ble_eq_true rfl) rfl ?_
  refine g_lv [2, 3, 4, 5, 6, 7, 1, 0] rfl ?_
  exact wX7_latest_l6 E z  5000 a1 a2 a3 a4 a5 x1 0 m hf
theorem tX7_latest (E : pEv) (m : pMem) (a1 : Int32) (a2 : Int32) (a3 : Int32) (a4 : Int32) (a5 : Int32) {z : Int32} (hf : sX7_latest a1 a2 a3 a4 a5 m = some z) : gCn E yX7_latest kX7_latest [.ref (eA E 8), .int a1, .int a2, .int a3, .int a4, .int a5] m (z, m) := gCn_of (by decide +kernel) rfl rfl rfl (Nat.le_of_ble_eq_true rfl) rfl (wX7_latest_b0 E z a1 a2 a3 a4 a5 m  hf)
theorem wX7_firstYes_b92 (E : pEv) (z : Int32) (k8 : Int32 → Int32 → Int32 → Int32 → Int32 → pMem → (Option Int32)) (ih8 : ∀ (l1 : Int32) (l2 : Int32) (l3 : Int32) (l4 : Int32) (l5 : Int32)  (m : pMem), k8 l1 l2 l3 l4 l5 m = some z → gM E kX7_firstYes (z, m) 8 [(0, .ref (eA E 8)), (1, .int l1), (2, .int l2), (3, .int l3), (4, .int l4), (5, .int l5)] [] m) (l1 : Int32) (l2 : Int32) (l3 : Int32) (l4 : Int32) (l5 : Int32) (m : pMem) (hf : sX7_firstYes_b92 k8 l1 l2 l3 l4 l5 m = some z) : gM E kX7_firstYes (z, m) 92 [(0, .ref (eA E 8)), (1, .int l1), (2, .int l2), (3, .int l3), (4, .int l4), (5, .int l5)] [] m := by
  unfold sX7_firstYes_b92 at hf
  refine g_iinc (q := 5) (v := l5 + 1) dX7_firstYes_92 rfl (by rw [kI_1]) (Nat.le_of_ble_eq_true rfl) rfl ?_
  refine g_goto (tgt := 8) dX7_firstYes_95 (by decide) ?_
  refine g_lv [1, 2, 3, 4, 5, 0] rfl ?_
  exact ih8 l1 l2 l3 l4 (l5 + 1) m hf
theorem wX7_firstYes_b8 (E : pEv) (z : Int32) (k8 : Int32 → Int32 → Int32 → Int32 → Int32 → pMem → (Option Int32)) (ih8 : ∀ (l1 : Int32) (l2 : Int32) (l3 : Int32) (l4 : Int32) (l5 : Int32)  (m : pMem), k8 l1 l2 l3 l4 l5 m = some z → gM E kX7_firstYes (z, m) 8 [(0, .ref (eA E 8)), (1, .int l1), (2, .int l2), (3, .int l3), (4, .int l4), (5, .int l5)] [] m) (l1 : Int32) (l2 : Int32) (l3 : Int32) (l4 : Int32) (l5 : Int32) (m : pMem) (hf : sX7_firstYes_b8 k8 l1 l2 l3 l4 l5 m = some z) : gM E kX7_firstYes (z, m) 8 [(0, .ref (eA E 8)), (1, .int l1), (2, .int l2), (3, .int l3), (4, .int l4), (5, .int l5)] [] m := by
  unfold sX7_firstYes_b8 at hf
  refine g_iload (q := 5) dX7_firstYes_8 rfl ?_
  refine g_aload_n (q := 0) dX7_firstYes_10 rfl rfl ?_
  refine g_get dX7_firstYes_11 fX7_28 (obX7 E m) (gvX7_5 E m) ?_
  refine g_icmp_ge (tgt := 98) dX7_firstYes_14 (by decide) (fun c1 => ?_) (fun c1 => ?_)
  · have hf := it_ hf c1
    refine g_iload (q := 4) dX7_firstYes_98 rfl ?_
    exact g_ret dX7_firstYes_100 rfl rfl (by rw [Option.some.inj hf])
  · have hf := ie_ hf c1
    refine g_aload_n (q := 0) dX7_firstYes_17 rfl rfl ?_
    refine g_get dX7_firstYes_18 fX7_9 (obX7 E m) (gvX7_0 E m) ?_
    refine g_iload (q := 5) dX7_firstYes_21 rfl ?_
    obtain ⟨h2, hf⟩ := gd_ hf
    refine g_iald dX7_firstYes_23 ar_59 h2 ?_
    refine g_iload_n (q := 1) dX7_firstYes_24 rfl rfl ?_
    refine g_icmp_ne (tgt := 92) dX7_firstYes_25 (by decide) (fun c3 => ?_) (fun c3 => ?_)
    · have hf := it_ hf c3
      exact wX7_firstYes_b92 E z k8 ih8 l1 l2 l3 l4 l5 m hf
    · have hf := ie_ hf (not_not_intro c3)
      refine g_aload_n (q := 0) dX7_firstYes_28 rfl rfl ?_
      refine g_get dX7_firstYes_29 fX7_15 (obX7 E m) (gvX7_1 E m) ?_
      refine g_iload (q := 5) dX7_firstYes_32 rfl ?_
      obtain ⟨h4, hf⟩ := gd_ hf
      refine g_iald dX7_firstYes_34 ar_60 h4 ?_
      refine g_iload_n (q := 2) dX7_firstYes_35 rfl rfl ?_
      refine g_icmp_ne (tgt := 92) dX7_firstYes_36 (by decide) (fun c5 => ?_) (fun c5 => ?_)
      · have hf := it_ hf c5
        exact wX7_firstYes_b92 E z k8 ih8 l1 l2 l3 l4 l5 m hf
      · have hf := ie_ hf (not_not_intro c5)
        refine g_aload_n (q := 0) dX7_firstYes_39 rfl rfl ?_
        refine g_get dX7_firstYes_40 fX7_18 (obX7 E m) (gvX7_2 E m) ?_
        refine g_iload (q := 5) dX7_firstYes_43 rfl ?_
        obtain ⟨h6, hf⟩ := gd_ hf
        refine g_zald dX7_firstYes_45 ar_61 h6 ?_
        refine g_if_ne (tgt := 92) dX7_firstYes_46 (by decide) (fun c7 => ?_) (fun c7 => ?_)
        · have hf := it_ hf c7
          exact wX7_firstYes_b92 E z k8 ih8 l1 l2 l3 l4 l5 m hf
        · have hf := ie_ hf (not_not_intro c7)
          refine g_aload_n (q := 0) dX7_firstYes_49 rfl rfl ?_
          refine g_get dX7_firstYes_50 fX7_22 (obX7 E m) (gvX7_3 E m) ?_
          refine g_iload (q := 5) dX7_firstYes_53 rfl ?_
          obtain ⟨h8, hf⟩ := gd_ hf
          refine g_zald dX7_firstYes_55 ar_62 h8 ?_
          refine g_if_ne (tgt := 62) dX7_firstYes_56 (by decide) (fun c9 => ?_) (fun c9 => ?_)
          · have hf := it_ hf c9
            refine g_iload_n (q := 3) dX7_firstYes_62 rfl rfl ?_
            refine g_iload (q := 5) dX7_firstYes_63 rfl ?_
            refine g_ishr dX7_firstYes_65 ?_
            refine g_iconst (v := 1) dX7_firstYes_66 kI_1 ?_
            refine g_iand dX7_firstYes_67 ?_
            refine g_if_ne (tgt := 92) dX7_firstYes_68 (by decide) (fun c10 => ?_) (fun c10 => ?_)
            · have hf := it_ hf c10
              exact wX7_firstYes_b92 E z k8 ih8 l1 l2 l3 l4 l5 m hf
            · have hf := ie_ hf (not_not_intro c10)
              refine g_aload_n (q := 0) dX7_firstYes_71 rfl rfl ?_
              refine g_get dX7_firstYes_72 fX7_25 (obX7 E m) (gvX7_4 E m) ?_
              refine g_iload (q := 5) dX7_firstYes_75 rfl ?_
              obtain ⟨h11, hf⟩ := gd_ hf
              refine g_iald dX7_firstYes_77 ar_63 h11 ?_
              refine g_iload (q := 4) dX7_firstYes_78 rfl ?_
              refine g_icmp_ge (tgt := 92) dX7_firstYes_80 (by decide) (fun c12 => ?_) (fun c12 => ?_)
              · have hf := it_ hf c12
                exact wX7_firstYes_b92 E z k8 ih8 l1 l2 l3 l4 l5 m hf
              · have hf := ie_ hf c12
                refine g_aload_n (q := 0) dX7_firstYes_83 rfl rfl ?_
                refine g_get dX7_firstYes_84 fX7_25 (obX7 E m) (gvX7_4 E m) ?_
                refine g_iload (q := 5) dX7_firstYes_87 rfl ?_
                obtain ⟨h13, hf⟩ := gd_ hf
                refine g_iald dX7_firstYes_89 ar_63 h13 ?_
                refine nmI hf (fun x14 hf => ?_)
                refine g_istore dX7_firstYes_90 (Nat.le_of_ble_eq_true rfl) rfl ?_
                refine g_lv [1, 2, 3, 4, 0, 5] rfl ?_
                exact wX7_firstYes_b92 E z k8 ih8 l1 l2 l3 x14 l5 m hf
          · have hf := ie_ hf (not_not_intro c9)
            refine g_goto (tgt := 92) dX7_firstYes_59 (by decide) ?_
            exact wX7_firstYes_b92 E z k8 ih8 l1 l2 l3 l4 l5 m hf
theorem wX7_firstYes_l8 (E : pEv) (z : Int32) : ∀ (n : Nat) (l1 : Int32) (l2 : Int32) (l3 : Int32) (l4 : Int32) (l5 : Int32) (m : pMem), sX7_firstYes_l8 n l1 l2 l3 l4 l5 m = some z → gM E kX7_firstYes (z, m) 8 [(0, .ref (eA E 8)), (1, .int l1), (2, .int l2), (3, .int l3), (4, .int l4), (5, .int l5)] [] m := by
  intro n
  induction n with
  | zero => intro l1 l2 l3 l4 l5 m  hf; cases (show (none : Option _) = some z from hf)
  | succ n ih => intro l1 l2 l3 l4 l5 m  hf; exact wX7_firstYes_b8 E z  _  ih l1 l2 l3 l4 l5 m  hf
theorem wX7_firstYes_b0 (E : pEv) (z : Int32) (a1 : Int32) (a2 : Int32) (a3 : Int32) (m : pMem) (hf : sX7_firstYes a1 a2 a3 m = some z) : gM E kX7_firstYes (z, m) 0 [(0, .ref (eA E 8)), (1, .int a1), (2, .int a2), (3, .int a3)] [] m := by
  unfold sX7_firstYes at hf
  refine g_sipush (v := 1000) dX7_firstYes_0 kS_1000 ?_
  refine g_istore dX7_firstYes_3 (Nat.le_of_ble_eq_true rfl) rfl ?_
  refine g_iconst (v := 0) dX7_firstYes_5 kI_0 ?_
  refine g_istore dX7_firstYes_6 (Nat.le_of_ble_eq_true rfl) rfl ?_
  refine g_lv [2, 3, 4, 5, 1, 0] rfl ?_
  exact wX7_firstYes_l8 E z  5000 a1 a2 a3 1000 0 m hf
theorem tX7_firstYes (E : pEv) (m : pMem) (a1 : Int32) (a2 : Int32) (a3 : Int32) {z : Int32} (hf : sX7_firstYes a1 a2 a3 m = some z) : gCn E yX7_firstYes kX7_firstYes [.ref (eA E 8), .int a1, .int a2, .int a3] m (z, m) := gCn_of (by decide +kernel) rfl rfl rfl (Nat.le_of_ble_eq_true rfl) rfl (wX7_firstYes_b0 E z a1 a2 a3 m  hf)
theorem wX3_isHeld_b73 (E : pEv) (z : Int32) (t0 : Int32) (m : pMem) (hf : sX3_isHeld_b73 t0 m = some z) : gM E kX3_isHeld (z, m) 73 [] [.int t0] m := by
  unfold sX3_isHeld_b73 at hf
  exact g_retz dX3_isHeld_73 rfl (by rw [Option.some.inj hf])
theorem wX3_isHeld_b162 (E : pEv) (z : Int32) (t0 : Int32) (m : pMem) (hf : sX3_isHeld_b162 t0 m = some z) : gM E kX3_isHeld (z, m) 162 [] [.int t0] m := by
  unfold sX3_isHeld_b162 at hf
  exact g_retz dX3_isHeld_162 rfl (by rw [Option.some.inj hf])
theorem wX3_isHeld_b161 (E : pEv) (z : Int32) (m : pMem) (hf : sX3_isHeld_b161  m = some z) : gM E kX3_isHeld (z, m) 161 [] [] m := by
  unfold sX3_isHeld_b161 at hf
  refine g_iconst (v := 0) dX3_isHeld_161 kI_0 ?_
  exact wX3_isHeld_b162 E z  0 m hf
theorem wX3_isHeld_b21 (E : pEv) (z : Int32) (m : pMem) (hf : sX3_isHeld_b21  m = some z) : gM E kX3_isHeld (z, m) 21 [] [] m := by
  unfold sX3_isHeld_b21 at hf
  refine g_iconst (v := 1) dX3_isHeld_21 kI_1 ?_
  exact g_ret dX3_isHeld_22 rfl kz_1 (by rw [Option.some.inj hf])
theorem wX3_isHeld_b157 (E : pEv) (z : Int32) (m : pMem) (hf : sX3_isHeld_b157  m = some z) : gM E kX3_isHeld (z, m) 157 [] [] m := by
  unfold sX3_isHeld_b157 at hf
  refine g_iconst (v := 1) dX3_isHeld_157 kI_1 ?_
  refine g_goto (tgt := 162) dX3_isHeld_158 (by decide) ?_
  exact wX3_isHeld_b162 E z  1 m hf
theorem wX3_isHeld_b0 (E : pEv) (z : Int32) (a1 : Int32) (a2 : Int32) (a3 : Int32) (a4 : Int32) (m : pMem) (hf : sX3_isHeld a1 a2 a3 a4 m = some z) : gM E kX3_isHeld (z, m) 0 [(0, .ref (eA E 4)), (1, .int a1), (2, .int a2), (3, .int a3), (4, .int a4)] [] m := by
  unfold sX3_isHeld at hf
  refine g_iload_n (q := 2) dX3_isHeld_0 rfl rfl ?_
  refine g_aload_n (q := 0) dX3_isHeld_1 rfl rfl ?_
  refine g_get dX3_isHeld_2 fX3_15 (obX3 E m) (gvX3_5 E m) ?_
  refine g_iload_n (q := 1) dX3_isHeld_5 rfl rfl ?_
  obtain ⟨h1, hf⟩ := gd_ hf
  refine g_iald dX3_isHeld_6 ar_45 h1 ?_
  refine g_icmp_eq (tgt := 21) dX3_isHeld_7 (by decide) (fun c2 => ?_) (fun c2 => ?_)
  · have hf := it_ hf c2
    refine g_lv [] rfl ?_
    exact wX3_isHeld_b21 E z  m hf
  · have hf := ie_ hf c2
    refine g_aload_n (q := 0) dX3_isHeld_10 rfl rfl ?_
    refine g_get dX3_isHeld_11 fX3_34 (obX3 E m) (gvX3_11 E m) ?_
    refine g_iload_n (q := 2) dX3_isHeld_14 rfl rfl ?_
    obtain ⟨r3, q4, hf⟩ := cbR_ hf
    refine g_cSN (As := [.int (m.1 4 11), .int a2]) dX3_isHeld_15 (tX8_isIn E m (m.1 4 11) a2 q4) gyX8_isIn giX8_isIn nX3_120 (⟨rfl, rfl, Nat.le_of_ble_eq_true rfl, Nat.le_of_ble_eq_true rfl, Nat.le_of_ble_eq_true rfl, Nat.le_of_ble_eq_true rfl⟩) rfl rfl rfl (Nat.le_of_ble_eq_true rfl) ?_
    refine g_if_eq (tgt := 23) dX3_isHeld_18 (by decide) (fun c5 => ?_) (fun c5 => ?_)
    · have hf := it_ hf c5
      refine g_aload_n (q := 0) dX3_isHeld_23 rfl rfl ?_
      refine g_get dX3_isHeld_24 fX3_31 (obX3 E m) (gvX3_10 E m) ?_
      refine g_iload_n (q := 2) dX3_isHeld_27 rfl rfl ?_
      obtain ⟨r6, q7, hf⟩ := cbR_ hf
      refine g_cSN (As := [.int (m.1 4 10), .int a2]) dX3_isHeld_28 (tX8_isIn E m (m.1 4 10) a2 q7) gyX8_isIn giX8_isIn nX3_120 (⟨rfl, rfl, Nat.le_of_ble_eq_true rfl, Nat.le_of_ble_eq_true rfl, Nat.le_of_ble_eq_true rfl, Nat.le_of_ble_eq_true rfl⟩) rfl rfl rfl (Nat.le_of_ble_eq_true rfl) ?_
      refine g_if_ne (tgt := 36) dX3_isHeld_31 (by decide) (fun c8 => ?_) (fun c8 => ?_)
      · have hf := it_ hf c8
        refine g_aload_n (q := 0) dX3_isHeld_36 rfl rfl ?_
        refine g_get dX3_isHeld_37 fX3_48 (obX3 E m) (gvX3_2 E m) ?_
        refine g_iload_n (q := 1) dX3_isHeld_40 rfl rfl ?_
        refine g_iload_n (q := 2) dX3_isHeld_41 rfl rfl ?_
        refine g_iconst (v := 0) dX3_isHeld_42 kI_0 ?_
        refine g_iload_n (q := 3) dX3_isHeld_43 rfl rfl ?_
        refine g_iload (q := 4) dX3_isHeld_44 rfl ?_
        obtain ⟨r9, q10, hf⟩ := cbR_ hf
        refine g_cV (As := [.int a1, .int a2, .int 0, .int a3, .int a4]) dX3_isHeld_46 (tX7_latest E m a1 a2 0 a3 a4 q10) gyX7_latest giX7_latest gsX7_latest mX3_123 (⟨rfl, rfl, Nat.le_of_ble_eq_true rfl, Nat.le_of_ble_eq_true rfl, Nat.le_of_ble_eq_true rfl, Nat.le_of_ble_eq_true rfl⟩) rfl (obX7 E m) rfl rfl rfl (Nat.le_of_ble_eq_true rfl) ?_
        refine g_istore dX3_isHeld_49 (Nat.le_of_ble_eq_true rfl) rfl ?_
        refine g_aload_n (q := 1) dX3_isHeld_51 rfl rfl ?_
        refine g_get dX3_isHeld_52 fX3_44 (obX3 E m) (gvX3_1 E m) ?_
        refine g_get dX3_isHeld_55 fX3_112 (obX5 E m) (gvX5_2 E m) ?_
        refine g_iconst (v := 0) dX3_isHeld_58 kI_0 ?_
        refine g_iald dX3_isHeld_59 ar_53 (by decide) ?_
        refine g_if_ne (tgt := 74) dX3_isHeld_60 (by decide) (fun c11 => ?_) (fun c11 => ?_)
        · have hf := it_ hf c11
          refine g_iload (q := 0) dX3_isHeld_74 rfl ?_
          refine g_iconst (v := 1) dX3_isHeld_76 kI_1 ?_
          refine g_icmp_eq (tgt := 82) dX3_isHeld_77 (by decide) (fun c12 => ?_) (fun c12 => ?_)
          · have hf := it_ hf c12
            refine g_aload_n (q := 1) dX3_isHeld_82 rfl rfl ?_
            refine g_get dX3_isHeld_83 fX3_48 (obX3 E m) (gvX3_2 E m) ?_
            refine g_iload_n (q := 2) dX3_isHeld_86 rfl rfl ?_
            refine g_iload_n (q := 3) dX3_isHeld_87 rfl rfl ?_
            refine g_iload (q := 5) dX3_isHeld_88 rfl ?_
            obtain ⟨r13, q14, hf⟩ := cbR_ hf
            refine g_cV (As := [.int a1, .int a2, .int a4]) dX3_isHeld_90 (tX7_firstYes E m a1 a2 a4 q14) gyX7_firstYes giX7_firstYes gsX7_firstYes mX3_129 (⟨rfl, rfl, Nat.le_of_ble_eq_true rfl, Nat.le_of_ble_eq_true rfl, Nat.le_of_ble_eq_true rfl, Nat.le_of_ble_eq_true rfl⟩) rfl (obX7 E m) rfl rfl rfl (Nat.le_of_ble_eq_true rfl) ?_
            refine g_aload_n (q := 1) dX3_isHeld_93 rfl rfl ?_
            refine g_get dX3_isHeld_94 fX3_40 (obX3 E m) (gvX3_0 E m) ?_
            refine g_get dX3_isHeld_97 fX3_132 (obX2 E m) (gvX2_4 E m) ?_
            refine g_iload_n (q := 3) dX3_isHeld_100 rfl rfl ?_
            obtain ⟨h15, hf⟩ := gd_ hf
            refine g_iald dX3_isHeld_101 ar_22 h15 ?_
            refine g_isub dX3_isHeld_102 ?_
            refine g_aload_n (q := 1) dX3_isHeld_103 rfl rfl ?_
            refine g_get dX3_isHeld_104 fX3_44 (obX3 E m) (gvX3_1 E m) ?_
            refine g_get dX3_isHeld_107 fX3_112 (obX5 E m) (gvX5_2 E m) ?_
            refine g_iconst (v := 2) dX3_isHeld_110 kI_2 ?_
            refine g_iald dX3_isHeld_111 ar_53 (by decide) ?_
            refine g_icmp_le (tgt := 117) dX3_isHeld_112 (by decide) (fun c16 => ?_) (fun c16 => ?_)
            · have hf := it_ hf c16
              refine g_aload_n (q := 1) dX3_isHeld_117 rfl rfl ?_
              refine g_get dX3_isHeld_118 fX3_48 (obX3 E m) (gvX3_2 E m) ?_
              refine g_iload_n (q := 2) dX3_isHeld_121 rfl rfl ?_
              refine g_iload_n (q := 3) dX3_isHeld_122 rfl rfl ?_
              refine g_iconst (v := 1) dX3_isHeld_123 kI_1 ?_
              refine g_iload_n (q := 4) dX3_isHeld_124 rfl rfl ?_
              refine g_iload (q := 5) dX3_isHeld_125 rfl ?_
              obtain ⟨r17, q18, hf⟩ := cbR_ hf
              refine g_cV (As := [.int a1, .int a2, .int 1, .int a3, .int a4]) dX3_isHeld_127 (tX7_latest E m a1 a2 1 a3 a4 q18) gyX7_latest giX7_latest gsX7_latest mX3_123 (⟨rfl, rfl, Nat.le_of_ble_eq_true rfl, Nat.le_of_ble_eq_true rfl, Nat.le_of_ble_eq_true rfl, Nat.le_of_ble_eq_true rfl⟩) rfl (obX7 E m) rfl rfl rfl (Nat.le_of_ble_eq_true rfl) ?_
              refine g_istore dX3_isHeld_130 (Nat.le_of_ble_eq_true rfl) rfl ?_
              refine g_iload (q := 0) dX3_isHeld_132 rfl ?_
              refine g_iconst (v := 1) dX3_isHeld_134 kI_1 ?_
              refine g_icmp_eq (tgt := 157) dX3_isHeld_135 (by decide) (fun c19 => ?_) (fun c19 => ?_)
              · have hf := it_ hf c19
                refine g_lv [] rfl ?_
                exact wX3_isHeld_b157 E z  m hf
              · have hf := ie_ hf c19
                refine g_iload (q := 0) dX3_isHeld_138 rfl ?_
                refine g_iconst (v := (-1)) dX3_isHeld_140 kI_m1 ?_
                refine g_icmp_ne (tgt := 161) dX3_isHeld_141 (by decide) (fun c20 => ?_) (fun c20 => ?_)
                · have hf := it_ hf c20
                  refine g_lv [] rfl ?_
                  exact wX3_isHeld_b161 E z  m hf
                · have hf := ie_ hf (not_not_intro c20)
                  refine g_aload_n (q := 2) dX3_isHeld_144 rfl rfl ?_
                  refine g_get dX3_isHeld_145 fX3_44 (obX3 E m) (gvX3_1 E m) ?_
                  refine g_get dX3_isHeld_148 fX3_112 (obX5 E m) (gvX5_2 E m) ?_
                  refine g_iconst (v := 1) dX3_isHeld_151 kI_1 ?_
                  refine g_iald dX3_isHeld_152 ar_53 (by decide) ?_
                  refine g_iconst (v := 1) dX3_isHeld_153 kI_1 ?_
                  refine g_icmp_ne (tgt := 161) dX3_isHeld_154 (by decide) (fun c21 => ?_) (fun c21 => ?_)
                  · have hf := it_ hf c21
                    refine g_lv [] rfl ?_
                    exact wX3_isHeld_b161 E z  m hf
                  · have hf := ie_ hf (not_not_intro c21)
                    refine g_lv [] rfl ?_
                    exact wX3_isHeld_b157 E z  m hf
            · have hf := ie_ hf c16
              refine g_iconst (v := 0) dX3_isHeld_115 kI_0 ?_
              exact g_ret dX3_isHeld_116 rfl kz_0 (by rw [Option.some.inj hf])
          · have hf := ie_ hf c12
            refine g_iconst (v := 0) dX3_isHeld_80 kI_0 ?_
            exact g_ret dX3_isHeld_81 rfl kz_0 (by rw [Option.some.inj hf])
        · have hf := ie_ hf (not_not_intro c11)
          refine g_iload (q := 0) dX3_isHeld_63 rfl ?_
          refine g_if_eq (tgt := 72) dX3_isHeld_65 (by decide) (fun c22 => ?_) (fun c22 => ?_)
          · have hf := it_ hf c22
            refine g_iconst (v := 0) dX3_isHeld_72 kI_0 ?_
            refine g_lv [] rfl ?_
            exact wX3_isHeld_b73 E z  0 m hf
          · have hf := ie_ hf c22
            refine g_iconst (v := 1) dX3_isHeld_68 kI_1 ?_
            refine g_goto (tgt := 73) dX3_isHeld_69 (by decide) ?_
            refine g_lv [] rfl ?_
            exact wX3_isHeld_b73 E z  1 m hf
      · have hf := ie_ hf (not_not_intro c8)
        refine g_iconst (v := 0) dX3_isHeld_34 kI_0 ?_
        exact g_ret dX3_isHeld_35 rfl kz_0 (by rw [Option.some.inj hf])
    · have hf := ie_ hf c5
      refine g_lv [] rfl ?_
      exact wX3_isHeld_b21 E z  m hf
theorem tX3_isHeld (E : pEv) (m : pMem) (a1 : Int32) (a2 : Int32) (a3 : Int32) (a4 : Int32) {z : Int32} (hf : sX3_isHeld a1 a2 a3 a4 m = some z) : gCn E yX3_isHeld kX3_isHeld [.ref (eA E 4), .int a1, .int a2, .int a3, .int a4] m (z, m) := gCn_of (by decide +kernel) rfl rfl rfl (Nat.le_of_ble_eq_true rfl) rfl (wX3_isHeld_b0 E z a1 a2 a3 a4 m  hf)
