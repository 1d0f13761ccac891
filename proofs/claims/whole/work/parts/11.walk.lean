/-! walks (printed) -/
theorem wX3_handOn_b144 (E : pEv) (z : Int32 × pMem) (m : pMem) (hf : sX3_handOn_b144  m = some z) : gM E kX3_handOn z 144 [] [] m := by
  unfold sX3_handOn_b144 at hf
  exact g_retv dX3_handOn_144 rfl (by rw [← Option.some.inj hf])
theorem wX3_handOn_b69 (E : pEv) (z : Int32 × pMem) (l2 : Int32) (t0 : Int32) (t1 : Int32) (m : pMem) (hf : sX3_handOn_b69 l2 t0 t1 m = some z) : gM E kX3_handOn z 69 [(0, .ref (eA E 4)), (2, .int l2)] [.int t0, .int t1, .ref (eA E 4)] m := by
  unfold sX3_handOn_b69 at hf
  refine g_aload_n (q := 0) dX3_handOn_69 rfl rfl ?_
  refine g_get dX3_handOn_70 fX3_40 (obX3 E m) (gvX3_0 E m) ?_
  refine g_get dX3_handOn_73 fX3_109 (obX2 E m) (gvX2_11 E m) ?_
  refine g_iload_n (q := 1) dX3_handOn_76 rfl rfl ?_
  obtain ⟨h20, hf⟩ := gd_ hf
  refine g_iald dX3_handOn_77 ar_28 h20 ?_
  refine g_ishl dX3_handOn_78 ?_
  refine g_ior dX3_handOn_79 ?_
  refine g_put dX3_handOn_80 fX3_31 fwX3_10 rfl rfl (obX3 E m) (Nat.le_of_ble_eq_true rfl) (psX3_10 E m _) ?_
  refine nmG hf (fun m21 hf => ?_)
  refine g_goto (tgt := 144) dX3_handOn_83 (by decide) ?_
  refine g_lv [] rfl ?_
  exact wX3_handOn_b144 E z  m21 hf
theorem wX3_handOn_b33 (E : pEv) (z : Int32 × pMem) (l1 : Int32) (l2 : Int32) (l3 : Int32) (l4 : Int32) (l5 : Int32) (m : pMem) (hf : sX3_handOn_b33 l1 l2 l3 l4 l5 m = some z) : gM E kX3_handOn z 33 [(0, .ref (eA E 4)), (1, .int l1), (2, .int l2), (3, .int l3), (4, .int l4), (5, .int l5)] [] m := by
  unfold sX3_handOn_b33 at hf
  refine g_aload_n (q := 0) dX3_handOn_33 rfl rfl ?_
  refine g_iload_n (q := 1) dX3_handOn_34 rfl rfl ?_
  refine g_aload_n (q := 0) dX3_handOn_35 rfl rfl ?_
  refine g_get dX3_handOn_36 fX3_40 (obX3 E m) (gvX3_0 E m) ?_
  refine g_get dX3_handOn_39 fX3_106 (obX2 E m) (gvX2_9 E m) ?_
  refine g_iload_n (q := 2) dX3_handOn_42 rfl rfl ?_
  obtain ⟨h15, hf⟩ := gd_ hf
  refine g_iald dX3_handOn_43 ar_26 h15 ?_
  refine g_iload (q := 5) dX3_handOn_44 rfl ?_
  refine g_iload_n (q := 3) dX3_handOn_46 rfl rfl ?_
  obtain ⟨r16, q17, hf⟩ := cbR_ hf
  refine g_cV (As := [.int l1, .int (m.1 26 l2.toNatClampNeg), .int l5, .int l3]) dX3_handOn_47 (tX3_isHeld E m l1 (m.1 26 l2.toNatClampNeg) l5 l3 q17) gyX3_isHeld giX3_isHeld gsX3_isHeld mX3_100 (⟨rfl, rfl, Nat.le_of_ble_eq_true rfl, Nat.le_of_ble_eq_true rfl, Nat.le_of_ble_eq_true rfl, Nat.le_of_ble_eq_true rfl⟩) rfl (obX3 E m) rfl rfl rfl (Nat.le_of_ble_eq_true rfl) ?_
  refine g_if_ne (tgt := 54) dX3_handOn_50 (by decide) (fun c18 => ?_) (fun c18 => ?_)
  · have hf := it_ hf c18
    refine g_aload_n (q := 0) dX3_handOn_54 rfl rfl ?_
    refine g_dup dX3_handOn_55 rfl ?_
    refine g_get dX3_handOn_56 fX3_31 (obX3 E m) (gvX3_10 E m) ?_
    refine g_iload (q := 4) dX3_handOn_59 rfl ?_
    refine g_if_ne (tgt := 68) dX3_handOn_61 (by decide) (fun c19 => ?_) (fun c19 => ?_)
    · have hf := it_ hf c19
      refine g_iconst (v := 3) dX3_handOn_68 kI_3 ?_
      refine g_lv [0, 2] rfl ?_
      exact wX3_handOn_b69 E z  l2 3 (m.1 4 10) m hf
    · have hf := ie_ hf (not_not_intro c19)
      refine g_iconst (v := 1) dX3_handOn_64 kI_1 ?_
      refine g_goto (tgt := 69) dX3_handOn_65 (by decide) ?_
      refine g_lv [0, 2] rfl ?_
      exact wX3_handOn_b69 E z  l2 1 (m.1 4 10) m hf
  · have hf := ie_ hf (not_not_intro c18)
    exact g_retv dX3_handOn_53 rfl (by rw [← Option.some.inj hf])
theorem wX3_handOn_b0 (E : pEv) (z : Int32 × pMem) (a1 : Int32) (a2 : Int32) (a3 : Int32) (m : pMem) (hf : sX3_handOn a1 a2 a3 m = some z) : gM E kX3_handOn z 0 [(0, .ref (eA E 4)), (1, .int a1), (2, .int a2), (3, .int a3)] [] m := by
  unfold sX3_handOn at hf
  refine g_aload_n (q := 0) dX3_handOn_0 rfl rfl ?_
  refine g_get dX3_handOn_1 fX3_40 (obX3 E m) (gvX3_0 E m) ?_
  refine g_get dX3_handOn_4 fX3_104 (obX2 E m) (gvX2_7 E m) ?_
  refine g_iload_n (q := 2) dX3_handOn_7 rfl rfl ?_
  obtain ⟨h1, hf⟩ := gd_ hf
  refine g_iald dX3_handOn_8 ar_24 h1 ?_
  refine nmI hf (fun x2 hf => ?_)
  refine g_istore dX3_handOn_9 (Nat.le_of_ble_eq_true rfl) rfl ?_
  refine g_aload_n (q := 1) dX3_handOn_11 rfl rfl ?_
  refine g_get dX3_handOn_12 fX3_40 (obX3 E m) (gvX3_0 E m) ?_
  refine g_get dX3_handOn_15 fX3_105 (obX2 E m) (gvX2_8 E m) ?_
  refine g_iload_n (q := 3) dX3_handOn_18 rfl rfl ?_
  obtain ⟨h3, hf⟩ := gd_ hf
  refine g_iald dX3_handOn_19 ar_25 h3 ?_
  refine nmI hf (fun x4 hf => ?_)
  refine g_istore dX3_handOn_20 (Nat.le_of_ble_eq_true rfl) rfl ?_
  refine g_iload (q := 1) dX3_handOn_22 rfl ?_
  refine g_if_eq (tgt := 33) dX3_handOn_24 (by decide) (fun c5 => ?_) (fun c5 => ?_)
  · have hf := it_ hf c5
    refine g_lv [2, 3, 4, 5, 1, 0] rfl ?_
    exact wX3_handOn_b33 E z  a1 a2 a3 x2 x4 m hf
  · have hf := ie_ hf c5
    refine g_iload (q := 1) dX3_handOn_27 rfl ?_
    refine g_iconst (v := 1) dX3_handOn_29 kI_1 ?_
    refine g_icmp_ne (tgt := 86) dX3_handOn_30 (by decide) (fun c6 => ?_) (fun c6 => ?_)
    · have hf := it_ hf c6
      refine g_iload (q := 1) dX3_handOn_86 rfl ?_
      refine g_iconst (v := 2) dX3_handOn_88 kI_2 ?_
      refine g_icmp_ne (tgt := 144) dX3_handOn_89 (by decide) (fun c7 => ?_) (fun c7 => ?_)
      · have hf := it_ hf c7
        refine g_lv [] rfl ?_
        exact wX3_handOn_b144 E z  m hf
      · have hf := ie_ hf (not_not_intro c7)
        refine g_aload_n (q := 2) dX3_handOn_92 rfl rfl ?_
        refine g_get dX3_handOn_93 fX3_44 (obX3 E m) (gvX3_1 E m) ?_
        refine g_get dX3_handOn_96 fX3_112 (obX5 E m) (gvX5_2 E m) ?_
        refine g_iconst (v := 0) dX3_handOn_99 kI_0 ?_
        refine g_iald dX3_handOn_100 ar_53 (by decide) ?_
        refine g_if_ne (tgt := 144) dX3_handOn_101 (by decide) (fun c8 => ?_) (fun c8 => ?_)
        · have hf := it_ hf c8
          refine g_lv [] rfl ?_
          exact wX3_handOn_b144 E z  m hf
        · have hf := ie_ hf (not_not_intro c8)
          refine g_aload_n (q := 2) dX3_handOn_104 rfl rfl ?_
          refine g_iload_n (q := 3) dX3_handOn_105 rfl rfl ?_
          refine g_aload_n (q := 2) dX3_handOn_106 rfl rfl ?_
          refine g_get dX3_handOn_107 fX3_40 (obX3 E m) (gvX3_0 E m) ?_
          refine g_get dX3_handOn_110 fX3_117 (obX2 E m) (gvX2_10 E m) ?_
          refine g_iload_n (q := 4) dX3_handOn_113 rfl rfl ?_
          obtain ⟨h9, hf⟩ := gd_ hf
          refine g_iald dX3_handOn_114 ar_27 h9 ?_
          refine g_iload (q := 0) dX3_handOn_115 rfl ?_
          refine g_iload_n (q := 5) dX3_handOn_117 rfl rfl ?_
          obtain ⟨r10, q11, hf⟩ := cbR_ hf
          refine g_cV (As := [.int a1, .int (m.1 27 a2.toNatClampNeg), .int x4, .int a3]) dX3_handOn_118 (tX3_isHeld E m a1 (m.1 27 a2.toNatClampNeg) x4 a3 q11) gyX3_isHeld giX3_isHeld gsX3_isHeld mX3_100 (⟨rfl, rfl, Nat.le_of_ble_eq_true rfl, Nat.le_of_ble_eq_true rfl, Nat.le_of_ble_eq_true rfl, Nat.le_of_ble_eq_true rfl⟩) rfl (obX3 E m) rfl rfl rfl (Nat.le_of_ble_eq_true rfl) ?_
          refine g_if_eq (tgt := 144) dX3_handOn_121 (by decide) (fun c12 => ?_) (fun c12 => ?_)
          · have hf := it_ hf c12
            refine g_lv [] rfl ?_
            exact wX3_handOn_b144 E z  m hf
          · have hf := ie_ hf c12
            refine g_aload_n (q := 2) dX3_handOn_124 rfl rfl ?_
            refine g_dup dX3_handOn_125 rfl ?_
            refine g_get dX3_handOn_126 fX3_34 (obX3 E m) (gvX3_11 E m) ?_
            refine g_iconst (v := 1) dX3_handOn_129 kI_1 ?_
            refine g_aload_n (q := 2) dX3_handOn_130 rfl rfl ?_
            refine g_get dX3_handOn_131 fX3_40 (obX3 E m) (gvX3_0 E m) ?_
            refine g_get dX3_handOn_134 fX3_106 (obX2 E m) (gvX2_9 E m) ?_
            refine g_iload_n (q := 4) dX3_handOn_137 rfl rfl ?_
            obtain ⟨h13, hf⟩ := gd_ hf
            refine g_iald dX3_handOn_138 ar_26 h13 ?_
            refine g_ishl dX3_handOn_139 ?_
            refine g_ior dX3_handOn_140 ?_
            refine g_put dX3_handOn_141 fX3_34 fwX3_11 rfl rfl (obX3 E m) (Nat.le_of_ble_eq_true rfl) (psX3_11 E m _) ?_
            refine nmG hf (fun m14 hf => ?_)
            refine g_lv [] rfl ?_
            exact wX3_handOn_b144 E z  m14 hf
    · have hf := ie_ hf (not_not_intro c6)
      refine g_lv [2, 3, 4, 5, 1, 0] rfl ?_
      exact wX3_handOn_b33 E z  a1 a2 a3 x2 x4 m hf
theorem tX3_handOn (E : pEv) (m : pMem) (a1 : Int32) (a2 : Int32) (a3 : Int32) {z : Int32 × pMem} (hf : sX3_handOn a1 a2 a3 m = some z) : gCn E yX3_handOn kX3_handOn [.ref (eA E 4), .int a1, .int a2, .int a3] m z := gCn_of (by decide +kernel) rfl rfl rfl (Nat.le_of_ble_eq_true rfl) rfl (wX3_handOn_b0 E z a1 a2 a3 m  hf)
theorem wX2_isThere_b26 (E : pEv) (z : Int32) (t0 : Int32) (m : pMem) (hf : sX2_isThere_b26 t0 m = some z) : gM E kX2_isThere (z, m) 26 [] [.int t0] m := by
  unfold sX2_isThere_b26 at hf
  exact g_retz dX2_isThere_26 rfl (by rw [Option.some.inj hf])
theorem wX2_isThere_b25 (E : pEv) (z : Int32) (m : pMem) (hf : sX2_isThere_b25  m = some z) : gM E kX2_isThere (z, m) 25 [] [] m := by
  unfold sX2_isThere_b25 at hf
  refine g_iconst (v := 0) dX2_isThere_25 kI_0 ?_
  exact wX2_isThere_b26 E z  0 m hf
theorem wX2_isThere_b0 (E : pEv) (z : Int32) (a1 : Int32) (a2 : Int32) (m : pMem) (hf : sX2_isThere a1 a2 m = some z) : gM E kX2_isThere (z, m) 0 [(0, .ref (eA E 3)), (1, .int a1), (2, .int a2)] [] m := by
  unfold sX2_isThere at hf
  refine g_aload_n (q := 0) dX2_isThere_0 rfl rfl ?_
  refine g_iload_n (q := 1) dX2_isThere_1 rfl rfl ?_
  obtain ⟨r1, q2, hf⟩ := cbR_ hf
  refine g_cV (As := [.int a1]) dX2_isThere_2 (tX2_knowsLand E m a1 q2) gyX2_knowsLand giX2_knowsLand gsX2_knowsLand mX2_66 (⟨rfl, rfl, Nat.le_of_ble_eq_true rfl, Nat.le_of_ble_eq_true rfl, Nat.le_of_ble_eq_true rfl, Nat.le_of_ble_eq_true rfl⟩) rfl (obX2 E m) rfl rfl rfl (Nat.le_of_ble_eq_true rfl) ?_
  refine g_if_eq (tgt := 25) dX2_isThere_5 (by decide) (fun c3 => ?_) (fun c3 => ?_)
  · have hf := it_ hf c3
    refine g_lv [] rfl ?_
    exact wX2_isThere_b25 E z  m hf
  · have hf := ie_ hf c3
    refine g_aload_n (q := 0) dX2_isThere_8 rfl rfl ?_
    refine g_get dX2_isThere_9 fX2_63 (obX2 E m) (gvX2_16 E m) ?_
    refine g_iload_n (q := 2) dX2_isThere_12 rfl rfl ?_
    obtain ⟨h4, hf⟩ := gd_ hf
    refine g_iald dX2_isThere_13 ar_43 h4 ?_
    refine g_iload_n (q := 1) dX2_isThere_14 rfl rfl ?_
    obtain ⟨r5, q6, hf⟩ := cbR_ hf
    refine g_cSN (As := [.int (m.1 43 a2.toNatClampNeg), .int a1]) dX2_isThere_15 (tX8_isIn E m (m.1 43 a2.toNatClampNeg) a1 q6) gyX8_isIn giX8_isIn nX2_70 (⟨rfl, rfl, Nat.le_of_ble_eq_true rfl, Nat.le_of_ble_eq_true rfl, Nat.le_of_ble_eq_true rfl, Nat.le_of_ble_eq_true rfl⟩) rfl rfl rfl (Nat.le_of_ble_eq_true rfl) ?_
    refine g_if_eq (tgt := 25) dX2_isThere_18 (by decide) (fun c7 => ?_) (fun c7 => ?_)
    · have hf := it_ hf c7
      refine g_lv [] rfl ?_
      exact wX2_isThere_b25 E z  m hf
    · have hf := ie_ hf c7
      refine g_iconst (v := 1) dX2_isThere_21 kI_1 ?_
      refine g_goto (tgt := 26) dX2_isThere_22 (by decide) ?_
      refine g_lv [] rfl ?_
      exact wX2_isThere_b26 E z  1 m hf
theorem tX2_isThere (E : pEv) (m : pMem) (a1 : Int32) (a2 : Int32) {z : Int32} (hf : sX2_isThere a1 a2 m = some z) : gCn E yX2_isThere kX2_isThere [.ref (eA E 3), .int a1, .int a2] m (z, m) := gCn_of (by decide +kernel) rfl rfl rfl (Nat.le_of_ble_eq_true rfl) rfl (wX2_isThere_b0 E z a1 a2 m  hf)
theorem wX3_boundByTrade_b109 (E : pEv) (z : Int32 × pMem) (k62 : Int32 → Int32 → Int32 → Int32 → Int32 → Int32 → pMem → gO) (ih62 : ∀ (l1 : Int32) (l2 : Int32) (l3 : Int32) (l4 : Int32) (l5 : Int32) (l6 : Int32)  (m : pMem), k62 l1 l2 l3 l4 l5 l6 m = some z → gM E kX3_boundByTrade z 62 [(0, .ref (eA E 4)), (1, .int l1), (2, .int l2), (3, .int l3), (4, .int l4), (5, .int l5), (6, .int l6)] [] m) (l1 : Int32) (l2 : Int32) (l3 : Int32) (l4 : Int32) (l5 : Int32) (l6 : Int32) (m : pMem) (hf : sX3_boundByTrade_b109 k62 l1 l2 l3 l4 l5 l6 m = some z) : gM E kX3_boundByTrade z 109 [(0, .ref (eA E 4)), (1, .int l1), (2, .int l2), (3, .int l3), (4, .int l4), (5, .int l5), (6, .int l6)] [] m := by
  unfold sX3_boundByTrade_b109 at hf
  refine g_iinc (q := 6) (v := l6 + 1) dX3_boundByTrade_109 rfl (by rw [kI_1]) (Nat.le_of_ble_eq_true rfl) rfl ?_
  refine g_goto (tgt := 62) dX3_boundByTrade_112 (by decide) ?_
  refine g_lv [1, 2, 3, 4, 5, 6, 0] rfl ?_
  exact ih62 l1 l2 l3 l4 l5 (l6 + 1) m hf
theorem wX3_boundByTrade_b62 (E : pEv) (z : Int32 × pMem) (k62 : Int32 → Int32 → Int32 → Int32 → Int32 → Int32 → pMem → gO) (ih62 : ∀ (l1 : Int32) (l2 : Int32) (l3 : Int32) (l4 : Int32) (l5 : Int32) (l6 : Int32)  (m : pMem), k62 l1 l2 l3 l4 l5 l6 m = some z → gM E kX3_boundByTrade z 62 [(0, .ref (eA E 4)), (1, .int l1), (2, .int l2), (3, .int l3), (4, .int l4), (5, .int l5), (6, .int l6)] [] m) (l1 : Int32) (l2 : Int32) (l3 : Int32) (l4 : Int32) (l5 : Int32) (l6 : Int32) (m : pMem) (hf : sX3_boundByTrade_b62 k62 l1 l2 l3 l4 l5 l6 m = some z) : gM E kX3_boundByTrade z 62 [(0, .ref (eA E 4)), (1, .int l1), (2, .int l2), (3, .int l3), (4, .int l4), (5, .int l5), (6, .int l6)] [] m := by
  unfold sX3_boundByTrade_b62 at hf
  refine g_iload (q := 6) dX3_boundByTrade_62 rfl ?_
  refine g_aload_n (q := 0) dX3_boundByTrade_64 rfl rfl ?_
  refine g_get dX3_boundByTrade_65 fX3_40 (obX3 E m) (gvX3_0 E m) ?_
  refine g_get dX3_boundByTrade_68 fX3_82 (obX2 E m) (gvX2_6 E m) ?_
  refine g_icmp_ge (tgt := 115) dX3_boundByTrade_71 (by decide) (fun c12 => ?_) (fun c12 => ?_)
  · have hf := it_ hf c12
    refine g_iload (q := 5) dX3_boundByTrade_115 rfl ?_
    exact g_ret dX3_boundByTrade_117 rfl rfl (Option.some.inj hf).symm
  · have hf := ie_ hf c12
    refine g_aload_n (q := 0) dX3_boundByTrade_74 rfl rfl ?_
    refine g_get dX3_boundByTrade_75 fX3_40 (obX3 E m) (gvX3_0 E m) ?_
    refine g_iload (q := 6) dX3_boundByTrade_78 rfl ?_
    refine g_iload (q := 4) dX3_boundByTrade_80 rfl ?_
    obtain ⟨r13, q14, hf⟩ := cbR_ hf
    refine g_cV (As := [.int l6, .int l4]) dX3_boundByTrade_82 (tX2_isThere E m l6 l4 q14) gyX2_isThere giX2_isThere gsX2_isThere mX3_78 (⟨rfl, rfl, Nat.le_of_ble_eq_true rfl, Nat.le_of_ble_eq_true rfl, Nat.le_of_ble_eq_true rfl, Nat.le_of_ble_eq_true rfl⟩) rfl (obX2 E m) rfl rfl rfl (Nat.le_of_ble_eq_true rfl) ?_
    refine g_if_eq (tgt := 109) dX3_boundByTrade_85 (by decide) (fun c15 => ?_) (fun c15 => ?_)
    · have hf := it_ hf c15
      exact wX3_boundByTrade_b109 E z k62 ih62 l1 l2 l3 l4 l5 l6 m hf
    · have hf := ie_ hf c15
      refine g_aload_n (q := 0) dX3_boundByTrade_88 rfl rfl ?_
      refine g_iload_n (q := 1) dX3_boundByTrade_89 rfl rfl ?_
      refine g_iload (q := 6) dX3_boundByTrade_90 rfl ?_
      refine g_iload_n (q := 2) dX3_boundByTrade_92 rfl rfl ?_
      refine g_iload_n (q := 3) dX3_boundByTrade_93 rfl rfl ?_
      obtain ⟨r16, q17, hf⟩ := cbR_ hf
      refine g_cV (As := [.int l1, .int l6, .int l2, .int l3]) dX3_boundByTrade_94 (tX3_isHeld E m l1 l6 l2 l3 q17) gyX3_isHeld giX3_isHeld gsX3_isHeld mX3_100 (⟨rfl, rfl, Nat.le_of_ble_eq_true rfl, Nat.le_of_ble_eq_true rfl, Nat.le_of_ble_eq_true rfl, Nat.le_of_ble_eq_true rfl⟩) rfl (obX3 E m) rfl rfl rfl (Nat.le_of_ble_eq_true rfl) ?_
      refine g_if_eq (tgt := 109) dX3_boundByTrade_97 (by decide) (fun c18 => ?_) (fun c18 => ?_)
      · have hf := it_ hf c18
        exact wX3_boundByTrade_b109 E z k62 ih62 l1 l2 l3 l4 l5 l6 m hf
      · have hf := ie_ hf c18
        refine g_iload (q := 5) dX3_boundByTrade_100 rfl ?_
        refine g_iconst (v := 1) dX3_boundByTrade_102 kI_1 ?_
        refine g_iload (q := 6) dX3_boundByTrade_103 rfl ?_
        refine g_ishl dX3_boundByTrade_105 ?_
        refine g_ior dX3_boundByTrade_106 ?_
        refine nmI hf (fun x19 hf => ?_)
        refine g_istore dX3_boundByTrade_107 (Nat.le_of_ble_eq_true rfl) rfl ?_
        refine g_lv [1, 2, 3, 4, 5, 0, 6] rfl ?_
        exact wX3_boundByTrade_b109 E z k62 ih62 l1 l2 l3 l4 x19 l6 m hf
theorem wX3_boundByTrade_l62 (E : pEv) (z : Int32 × pMem) : ∀ (n : Nat) (l1 : Int32) (l2 : Int32) (l3 : Int32) (l4 : Int32) (l5 : Int32) (l6 : Int32) (m : pMem), sX3_boundByTrade_l62 n l1 l2 l3 l4 l5 l6 m = some z → gM E kX3_boundByTrade z 62 [(0, .ref (eA E 4)), (1, .int l1), (2, .int l2), (3, .int l3), (4, .int l4), (5, .int l5), (6, .int l6)] [] m := by
  intro n
  induction n with
  | zero => intro l1 l2 l3 l4 l5 l6 m  hf; cases (show (none : Option _) = some z from hf)
  | succ n ih => intro l1 l2 l3 l4 l5 l6 m  hf; exact wX3_boundByTrade_b62 E z  _  ih l1 l2 l3 l4 l5 l6 m  hf
theorem wX3_boundByTrade_b35 (E : pEv) (z : Int32 × pMem) (k35 : Int32 → Int32 → Int32 → Int32 → Int32 → pMem → gO) (ih35 : ∀ (l1 : Int32) (l2 : Int32) (l3 : Int32) (l4 : Int32) (l5 : Int32)  (m : pMem), k35 l1 l2 l3 l4 l5 m = some z → gM E kX3_boundByTrade z 35 [(0, .ref (eA E 4)), (1, .int l1), (2, .int l2), (3, .int l3), (4, .int l4), (5, .int l5)] [] m) (l1 : Int32) (l2 : Int32) (l3 : Int32) (l4 : Int32) (l5 : Int32) (m : pMem) (hf : sX3_boundByTrade_b35 k35 l1 l2 l3 l4 l5 m = some z) : gM E kX3_boundByTrade z 35 [(0, .ref (eA E 4)), (1, .int l1), (2, .int l2), (3, .int l3), (4, .int l4), (5, .int l5)] [] m := by
  unfold sX3_boundByTrade_b35 at hf
  refine g_iload (q := 5) dX3_boundByTrade_35 rfl ?_
  refine g_iload (q := 4) dX3_boundByTrade_37 rfl ?_
  refine g_icmp_ge (tgt := 56) dX3_boundByTrade_39 (by decide) (fun c8 => ?_) (fun c8 => ?_)
  · have hf := it_ hf c8
    refine g_iconst (v := 0) dX3_boundByTrade_56 kI_0 ?_
    refine g_istore dX3_boundByTrade_57 (Nat.le_of_ble_eq_true rfl) rfl ?_
    refine g_iconst (v := 0) dX3_boundByTrade_59 kI_0 ?_
    refine g_istore dX3_boundByTrade_60 (Nat.le_of_ble_eq_true rfl) rfl ?_
    refine g_lv [2, 3, 4, 5, 6, 1, 0] rfl ?_
    exact wX3_boundByTrade_l62 E z  5000 l1 l2 l3 l4 0 0 m hf
  · have hf := ie_ hf c8
    refine g_aload_n (q := 0) dX3_boundByTrade_42 rfl rfl ?_
    refine g_iload_n (q := 1) dX3_boundByTrade_43 rfl rfl ?_
    refine g_iload (q := 5) dX3_boundByTrade_44 rfl ?_
    refine g_iload_n (q := 3) dX3_boundByTrade_46 rfl rfl ?_
    obtain ⟨r9, m11, q10, hf⟩ := cbE_ hf
    refine g_cVv (As := [.int l1, .int l5, .int l3]) dX3_boundByTrade_47 (tX3_handOn E m l1 l5 l3 q10) gyX3_handOn giX3_handOn gsX3_handOn mX3_96 (⟨rfl, rfl, Nat.le_of_ble_eq_true rfl, Nat.le_of_ble_eq_true rfl, Nat.le_of_ble_eq_true rfl, Nat.le_of_ble_eq_true rfl⟩) rfl (obX3 E m) rfl rfl rfl (Nat.le_of_ble_eq_true rfl) ?_
    refine g_iinc (q := 5) (v := l5 + 1) dX3_boundByTrade_50 rfl (by rw [kI_1]) (Nat.le_of_ble_eq_true rfl) rfl ?_
    refine g_goto (tgt := 35) dX3_boundByTrade_53 (by decide) ?_
    refine g_lv [1, 2, 3, 4, 5, 0] rfl ?_
    exact ih35 l1 l2 l3 l4 (l5 + 1) m11 hf
theorem wX3_boundByTrade_l35 (E : pEv) (z : Int32 × pMem) : ∀ (n : Nat) (l1 : Int32) (l2 : Int32) (l3 : Int32) (l4 : Int32) (l5 : Int32) (m : pMem), sX3_boundByTrade_l35 n l1 l2 l3 l4 l5 m = some z → gM E kX3_boundByTrade z 35 [(0, .ref (eA E 4)), (1, .int l1), (2, .int l2), (3, .int l3), (4, .int l4), (5, .int l5)] [] m := by
  intro n
  induction n with
  | zero => intro l1 l2 l3 l4 l5 m  hf; cases (show (none : Option _) = some z from hf)
  | succ n ih => intro l1 l2 l3 l4 l5 m  hf; exact wX3_boundByTrade_b35 E z  _  ih l1 l2 l3 l4 l5 m  hf
theorem wX3_boundByTrade_b0 (E : pEv) (z : Int32 × pMem) (a1 : Int32) (a2 : Int32) (a3 : Int32) (m : pMem) (hf : sX3_boundByTrade a1 a2 a3 m = some z) : gM E kX3_boundByTrade z 0 [(0, .ref (eA E 4)), (1, .int a1), (2, .int a2), (3, .int a3)] [] m := by
  unfold sX3_boundByTrade at hf
  refine g_aload_n (q := 0) dX3_boundByTrade_0 rfl rfl ?_
  refine g_get dX3_boundByTrade_1 fX3_40 (obX3 E m) (gvX3_0 E m) ?_
  refine g_iload_n (q := 2) dX3_boundByTrade_4 rfl rfl ?_
  obtain ⟨r1, q2, hf⟩ := cbR_ hf
  refine g_cV (As := [.int a2]) dX3_boundByTrade_5 (tX2_changesBy E m a2 q2) gyX2_changesBy giX2_changesBy gsX2_changesBy mX3_66 (⟨rfl, rfl, Nat.le_of_ble_eq_true rfl, Nat.le_of_ble_eq_true rfl, Nat.le_of_ble_eq_true rfl, Nat.le_of_ble_eq_true rfl⟩) rfl (obX2 E m) rfl rfl rfl (Nat.le_of_ble_eq_true rfl) ?_
  refine g_istore dX3_boundByTrade_8 (Nat.le_of_ble_eq_true rfl) rfl ?_
  refine g_aload_n (q := 1) dX3_boundByTrade_10 rfl rfl ?_
  refine g_iconst (v := 0) dX3_boundByTrade_11 kI_0 ?_
  refine g_put dX3_boundByTrade_12 fX3_31 fwX3_10 rfl rfl (obX3 E m) (Nat.le_of_ble_eq_true rfl) (psX3_10 E m _) ?_
  refine nmG hf (fun m3 hf => ?_)
  refine g_aload_n (q := 1) dX3_boundByTrade_15 rfl rfl ?_
  refine g_iconst (v := 0) dX3_boundByTrade_16 kI_0 ?_
  refine g_put dX3_boundByTrade_17 fX3_34 fwX3_11 rfl rfl (obX3 E m3) (Nat.le_of_ble_eq_true rfl) (psX3_11 E m3 _) ?_
  refine nmG hf (fun m4 hf => ?_)
  refine g_aload_n (q := 1) dX3_boundByTrade_20 rfl rfl ?_
  refine g_get dX3_boundByTrade_21 fX3_40 (obX3 E m4) (gvX3_0 E m4) ?_
  refine g_aload_n (q := 1) dX3_boundByTrade_24 rfl rfl ?_
  refine g_get dX3_boundByTrade_25 fX3_21 (obX3 E m4) (gvX3_7 E m4) ?_
  refine g_iload_n (q := 2) dX3_boundByTrade_28 rfl rfl ?_
  obtain ⟨h5, hf⟩ := gd_ hf
  refine g_iald dX3_boundByTrade_29 ar_47 h5 ?_
  obtain ⟨r6, q7, hf⟩ := cbR_ hf
  refine g_cV (As := [.int (m4.1 47 a1.toNatClampNeg)]) dX3_boundByTrade_30 (tX2_changesBy E m4 (m4.1 47 a1.toNatClampNeg) q7) gyX2_changesBy giX2_changesBy gsX2_changesBy mX3_66 (⟨rfl, rfl, Nat.le_of_ble_eq_true rfl, Nat.le_of_ble_eq_true rfl, Nat.le_of_ble_eq_true rfl, Nat.le_of_ble_eq_true rfl⟩) rfl (obX2 E m4) rfl rfl rfl (Nat.le_of_ble_eq_true rfl) ?_
  refine g_istore dX3_boundByTrade_33 (Nat.le_of_ble_eq_true rfl) rfl ?_
  refine g_lv [2, 3, 4, 5, 1, 0] rfl ?_
  exact wX3_boundByTrade_l35 E z  5000 a1 a2 a3 r1 r6 m4 hf
theorem tX3_boundByTrade (E : pEv) (m : pMem) (a1 : Int32) (a2 : Int32) (a3 : Int32) {z : Int32 × pMem} (hf : sX3_boundByTrade a1 a2 a3 m = some z) : gCn E yX3_boundByTrade kX3_boundByTrade [.ref (eA E 4), .int a1, .int a2, .int a3] m z := gCn_of (by decide +kernel) rfl rfl rfl (Nat.le_of_ble_eq_true rfl) rfl (wX3_boundByTrade_b0 E z a1 a2 a3 m  hf)
theorem wX2_saidSame_b29 (E : pEv) (z : Int32) (k2 : Int32 → Int32 → Int32 → pMem → (Option Int32)) (ih2 : ∀ (l1 : Int32) (l2 : Int32) (l3 : Int32)  (m : pMem), k2 l1 l2 l3 m = some z → gM E kX2_saidSame (z, m) 2 [(0, .ref (eA E 3)), (1, .int l1), (2, .int l2), (3, .int l3)] [] m) (l1 : Int32) (l2 : Int32) (l3 : Int32) (m : pMem) (hf : sX2_saidSame_b29 k2 l1 l2 l3 m = some z) : gM E kX2_saidSame (z, m) 29 [(0, .ref (eA E 3)), (1, .int l1), (2, .int l2), (3, .int l3)] [] m := by
  unfold sX2_saidSame_b29 at hf
  refine g_iinc (q := 3) (v := l3 + 1) dX2_saidSame_29 rfl (by rw [kI_1]) (Nat.le_of_ble_eq_true rfl) rfl ?_
  refine g_goto (tgt := 2) dX2_saidSame_32 (by decide) ?_
  refine g_lv [1, 2, 3, 0] rfl ?_
  exact ih2 l1 l2 (l3 + 1) m hf
theorem wX2_saidSame_b2 (E : pEv) (z : Int32) (k2 : Int32 → Int32 → Int32 → pMem → (Option Int32)) (ih2 : ∀ (l1 : Int32) (l2 : Int32) (l3 : Int32)  (m : pMem), k2 l1 l2 l3 m = some z → gM E kX2_saidSame (z, m) 2 [(0, .ref (eA E 3)), (1, .int l1), (2, .int l2), (3, .int l3)] [] m) (l1 : Int32) (l2 : Int32) (l3 : Int32) (m : pMem) (hf : sX2_saidSame_b2 k2 l1 l2 l3 m = some z) : gM E kX2_saidSame (z, m) 2 [(0, .ref (eA E 3)), (1, .int l1), (2, .int l2), (3, .int l3)] [] m := by
  unfold sX2_saidSame_b2 at hf
  refine g_iload_n (q := 3) dX2_saidSame_2 rfl rfl ?_
  refine g_iload_n (q := 2) dX2_saidSame_3 rfl rfl ?_
  refine g_icmp_ge (tgt := 35) dX2_saidSame_4 (by decide) (fun c1 => ?_) (fun c1 => ?_)
  · have hf := it_ hf c1
    refine g_iconst (v := 0) dX2_saidSame_35 kI_0 ?_
    exact g_ret dX2_saidSame_36 rfl kz_0 (by rw [Option.some.inj hf])
  · have hf := ie_ hf c1
    refine g_aload_n (q := 0) dX2_saidSame_7 rfl rfl ?_
    refine g_get dX2_saidSame_8 fX2_34 (obX2 E m) (gvX2_7 E m) ?_
    refine g_iload_n (q := 3) dX2_saidSame_11 rfl rfl ?_
    obtain ⟨h2, hf⟩ := gd_ hf
    refine g_iald dX2_saidSame_12 ar_24 h2 ?_
    refine g_iconst (v := 4) dX2_saidSame_13 kI_4 ?_
    refine g_icmp_ne (tgt := 29) dX2_saidSame_14 (by decide) (fun c3 => ?_) (fun c3 => ?_)
    · have hf := it_ hf c3
      exact wX2_saidSame_b29 E z k2 ih2 l1 l2 l3 m hf
    · have hf := ie_ hf (not_not_intro c3)
      refine g_aload_n (q := 0) dX2_saidSame_17 rfl rfl ?_
      refine g_get dX2_saidSame_18 fX2_40 (obX2 E m) (gvX2_9 E m) ?_
      refine g_iload_n (q := 3) dX2_saidSame_21 rfl rfl ?_
      obtain ⟨h4, hf⟩ := gd_ hf
      refine g_iald dX2_saidSame_22 ar_26 h4 ?_
      refine g_iload_n (q := 1) dX2_saidSame_23 rfl rfl ?_
      refine g_icmp_ne (tgt := 29) dX2_saidSame_24 (by decide) (fun c5 => ?_) (fun c5 => ?_)
      · have hf := it_ hf c5
        exact wX2_saidSame_b29 E z k2 ih2 l1 l2 l3 m hf
      · have hf := ie_ hf (not_not_intro c5)
        refine g_iconst (v := 1) dX2_saidSame_27 kI_1 ?_
        exact g_ret dX2_saidSame_28 rfl kz_1 (by rw [Option.some.inj hf])
theorem wX2_saidSame_l2 (E : pEv) (z : Int32) : ∀ (n : Nat) (l1 : Int32) (l2 : Int32) (l3 : Int32) (m : pMem), sX2_saidSame_l2 n l1 l2 l3 m = some z → gM E kX2_saidSame (z, m) 2 [(0, .ref (eA E 3)), (1, .int l1), (2, .int l2), (3, .int l3)] [] m := by
  intro n
  induction n with
  | zero => intro l1 l2 l3 m  hf; cases (show (none : Option _) = some z from hf)
  | succ n ih => intro l1 l2 l3 m  hf; exact wX2_saidSame_b2 E z  _  ih l1 l2 l3 m  hf
theorem wX2_saidSame_b0 (E : pEv) (z : Int32) (a1 : Int32) (a2 : Int32) (m : pMem) (hf : sX2_saidSame a1 a2 m = some z) : gM E kX2_saidSame (z, m) 0 [(0, .ref (eA E 3)), (1, .int a1), (2, .int a2)] [] m := by
  unfold sX2_saidSame at hf
  refine g_iconst (v := 0) dX2_saidSame_0 kI_0 ?_
  refine g_istore_n dX2_saidSame_1 rfl (Nat.le_of_ble_eq_true rfl) rfl ?_
  refine g_lv [1, 2, 3, 0] rfl ?_
  exact wX2_saidSame_l2 E z  5000 a1 a2 0 m hf
theorem tX2_saidSame (E : pEv) (m : pMem) (a1 : Int32) (a2 : Int32) {z : Int32} (hf : sX2_saidSame a1 a2 m = some z) : gCn E yX2_saidSame kX2_saidSame [.ref (eA E 3), .int a1, .int a2] m (z, m) := gCn_of (by decide +kernel) rfl rfl rfl (Nat.le_of_ble_eq_true rfl) rfl (wX2_saidSame_b0 E z a1 a2 m  hf)
theorem wX6_latest_b77 (E : pEv) (z : Int32) (k6 : Int32 → Int32 → Int32 → Int32 → Int32 → pMem → (Option Int32)) (ih6 : ∀ (l1 : Int32) (l2 : Int32) (l3 : Int32) (l4 : Int32) (l5 : Int32)  (m : pMem), k6 l1 l2 l3 l4 l5 m = some z → gM E kX6_latest (z, m) 6 [(0, .ref (eA E 7)), (1, .int l1), (2, .int l2), (3, .int l3), (4, .int l4), (5, .int l5)] [] m) (l1 : Int32) (l2 : Int32) (l3 : Int32) (l4 : Int32) (l5 : Int32) (m : pMem) (hf : sX6_latest_b77 k6 l1 l2 l3 l4 l5 m = some z) : gM E kX6_latest (z, m) 77 [(0, .ref (eA E 7)), (1, .int l1), (2, .int l2), (3, .int l3), (4, .int l4), (5, .int l5)] [] m := by
  unfold sX6_latest_b77 at hf
  refine g_iinc (q := 5) (v := l5 + 1) dX6_latest_77 rfl (by rw [kI_1]) (Nat.le_of_ble_eq_true rfl) rfl ?_
  refine g_goto (tgt := 6) dX6_latest_80 (by decide) ?_
  refine g_lv [1, 2, 3, 4, 5, 0] rfl ?_
  exact ih6 l1 l2 l3 l4 (l5 + 1) m hf
theorem wX6_latest_b73 (E : pEv) (z : Int32) (k6 : Int32 → Int32 → Int32 → Int32 → Int32 → pMem → (Option Int32)) (ih6 : ∀ (l1 : Int32) (l2 : Int32) (l3 : Int32) (l4 : Int32) (l5 : Int32)  (m : pMem), k6 l1 l2 l3 l4 l5 m = some z → gM E kX6_latest (z, m) 6 [(0, .ref (eA E 7)), (1, .int l1), (2, .int l2), (3, .int l3), (4, .int l4), (5, .int l5)] [] m) (l1 : Int32) (l2 : Int32) (l3 : Int32) (l5 : Int32) (m : pMem) (hf : sX6_latest_b73 k6 l1 l2 l3 l5 m = some z) : gM E kX6_latest (z, m) 73 [(0, .ref (eA E 7)), (1, .int l1), (2, .int l2), (3, .int l3), (5, .int l5)] [] m := by
  unfold sX6_latest_b73 at hf
  refine g_iload (q := 4) dX6_latest_73 rfl ?_
  refine g_istore dX6_latest_75 (Nat.le_of_ble_eq_true rfl) rfl ?_
  refine g_lv [1, 2, 3, 4, 0, 5] rfl ?_
  exact wX6_latest_b77 E z k6 ih6 l1 l2 l3 l5 l5 m hf
theorem wX6_latest_b6 (E : pEv) (z : Int32) (k6 : Int32 → Int32 → Int32 → Int32 → Int32 → pMem → (Option Int32)) (ih6 : ∀ (l1 : Int32) (l2 : Int32) (l3 : Int32) (l4 : Int32) (l5 : Int32)  (m : pMem), k6 l1 l2 l3 l4 l5 m = some z → gM E kX6_latest (z, m) 6 [(0, .ref (eA E 7)), (1, .int l1), (2, .int l2), (3, .int l3), (4, .int l4), (5, .int l5)] [] m) (l1 : Int32) (l2 : Int32) (l3 : Int32) (l4 : Int32) (l5 : Int32) (m : pMem) (hf : sX6_latest_b6 k6 l1 l2 l3 l4 l5 m = some z) : gM E kX6_latest (z, m) 6 [(0, .ref (eA E 7)), (1, .int l1), (2, .int l2), (3, .int l3), (4, .int l4), (5, .int l5)] [] m := by
  unfold sX6_latest_b6 at hf
  refine g_iload (q := 5) dX6_latest_6 rfl ?_
  refine g_aload_n (q := 0) dX6_latest_8 rfl rfl ?_
  refine g_get dX6_latest_9 fX6_25 (obX6 E m) (gvX6_4 E m) ?_
  refine g_icmp_ge (tgt := 83) dX6_latest_12 (by decide) (fun c2 => ?_) (fun c2 => ?_)
  · have hf := it_ hf c2
    refine g_iload (q := 4) dX6_latest_83 rfl ?_
    exact g_ret dX6_latest_85 rfl rfl (by rw [Option.some.inj hf])
  · have hf := ie_ hf c2
    refine g_aload_n (q := 0) dX6_latest_15 rfl rfl ?_
    refine g_get dX6_latest_16 fX6_9 (obX6 E m) (gvX6_0 E m) ?_
    refine g_iload (q := 5) dX6_latest_19 rfl ?_
    obtain ⟨h3, hf⟩ := gd_ hf
    refine g_iald dX6_latest_21 ar_55 h3 ?_
    refine g_iload_n (q := 1) dX6_latest_22 rfl rfl ?_
    refine g_icmp_ne (tgt := 77) dX6_latest_23 (by decide) (fun c4 => ?_) (fun c4 => ?_)
    · have hf := it_ hf c4
      exact wX6_latest_b77 E z k6 ih6 l1 l2 l3 l4 l5 m hf
    · have hf := ie_ hf (not_not_intro c4)
      refine g_aload_n (q := 0) dX6_latest_26 rfl rfl ?_
      refine g_get dX6_latest_27 fX6_15 (obX6 E m) (gvX6_1 E m) ?_
      refine g_iload (q := 5) dX6_latest_30 rfl ?_
      obtain ⟨h5, hf⟩ := gd_ hf
      refine g_iald dX6_latest_32 ar_56 h5 ?_
      refine g_iload_n (q := 2) dX6_latest_33 rfl rfl ?_
      refine g_icmp_ne (tgt := 77) dX6_latest_34 (by decide) (fun c6 => ?_) (fun c6 => ?_)
      · have hf := it_ hf c6
        exact wX6_latest_b77 E z k6 ih6 l1 l2 l3 l4 l5 m hf
      · have hf := ie_ hf (not_not_intro c6)
        refine g_aload_n (q := 0) dX6_latest_37 rfl rfl ?_
        refine g_get dX6_latest_38 fX6_22 (obX6 E m) (gvX6_3 E m) ?_
        refine g_iload (q := 5) dX6_latest_41 rfl ?_
        obtain ⟨h7, hf⟩ := gd_ hf
        refine g_iald dX6_latest_43 ar_58 h7 ?_
        refine g_iload_n (q := 3) dX6_latest_44 rfl rfl ?_
        refine g_icmp_le (tgt := 51) dX6_latest_45 (by decide) (fun c8 => ?_) (fun c8 => ?_)
        · have hf := it_ hf c8
          refine g_iload (q := 4) dX6_latest_51 rfl ?_
          refine g_if_lt (tgt := 73) dX6_latest_53 (by decide) (fun c9 => ?_) (fun c9 => ?_)
          · have hf := it_ hf c9
            refine g_lv [0, 1, 2, 3, 5] rfl ?_
            exact wX6_latest_b73 E z k6 ih6 l1 l2 l3 l5 m hf
          · have hf := ie_ hf c9
            refine g_aload_n (q := 0) dX6_latest_56 rfl rfl ?_
            refine g_get dX6_latest_57 fX6_22 (obX6 E m) (gvX6_3 E m) ?_
            refine g_iload (q := 5) dX6_latest_60 rfl ?_
            obtain ⟨h10, hf⟩ := gd_ hf
            refine g_iald dX6_latest_62 ar_58 h10 ?_
            refine g_aload_n (q := 0) dX6_latest_63 rfl rfl ?_
            refine g_get dX6_latest_64 fX6_22 (obX6 E m) (gvX6_3 E m) ?_
            refine g_iload (q := 4) dX6_latest_67 rfl ?_
            obtain ⟨h11, hf⟩ := gd_ hf
            refine g_iald dX6_latest_69 ar_58 h11 ?_
            refine g_icmp_lt (tgt := 77) dX6_latest_70 (by decide) (fun c12 => ?_) (fun c12 => ?_)
            · have hf := it_ hf c12
              exact wX6_latest_b77 E z k6 ih6 l1 l2 l3 l4 l5 m hf
            · have hf := ie_ hf c12
              refine g_lv [0, 1, 2, 3, 5] rfl ?_
              exact wX6_latest_b73 E z k6 ih6 l1 l2 l3 l5 m hf
        · have hf := ie_ hf c8
          refine g_goto (tgt := 77) dX6_latest_48 (by decide) ?_
          exact wX6_latest_b77 E z k6 ih6 l1 l2 l3 l4 l5 m hf
theorem wX6_latest_l6 (E : pEv) (z : Int32) : ∀ (n : Nat) (l1 : Int32) (l2 : Int32) (l3 : Int32) (l4 : Int32) (l5 : Int32) (m : pMem), sX6_latest_l6 n l1 l2 l3 l4 l5 m = some z → gM E kX6_latest (z, m) 6 [(0, .ref (eA E 7)), (1, .int l1), (2, .int l2), (3, .int l3), (4, .int l4), (5, .int l5)] [] m := by
  intro n
  induction n with
  | zero => intro l1 l2 l3 l4 l5 m  hf; cases (show (none : Option _) = some z from hf)
  | succ n ih => intro l1 l2 l3 l4 l5 m  hf; exact wX6_latest_b6 E z  _  ih l1 l2 l3 l4 l5 m  hf
theorem wX6_latest_b0 (E : pEv) (z : Int32) (a1 : Int32) (a2 : Int32) (a3 : Int32) (m : pMem) (hf : sX6_latest a1 a2 a3 m = some z) : gM E kX6_latest (z, m) 0 [(0, .ref (eA E 7)), (1, .int a1), (2, .int a2), (3, .int a3)] [] m := by
  unfold sX6_latest at hf
  refine g_iconst (v := (-1)) dX6_latest_0 kI_m1 ?_
  refine nmI hf (fun x1 hf => ?_)
  refine g_istore dX6_latest_1 (Nat.le_of_ble_eq_true rfl) rfl ?_
  refine g_iconst (v := 0) dX6_latest_3 kI_0 ?_
  refine g_istore dX6_latest_4 (Nat.le_of_ble_eq_true rfl) rfl ?_
  refine g_lv [2, 3, 4, 5, 1, 0] rfl ?_
  exact wX6_latest_l6 E z  5000 a1 a2 a3 x1 0 m hf
theorem tX6_latest (E : pEv) (m : pMem) (a1 : Int32) (a2 : Int32) (a3 : Int32) {z : Int32} (hf : sX6_latest a1 a2 a3 m = some z) : gCn E yX6_latest kX6_latest [.ref (eA E 7), .int a1, .int a2, .int a3] m (z, m) := gCn_of (by decide +kernel) rfl rfl rfl (Nat.le_of_ble_eq_true rfl) rfl (wX6_latest_b0 E z a1 a2 a3 m  hf)
theorem wX6_moreYesThanNo_b45 (E : pEv) (z : Int32) (k5 : Int32 → Int32 → Int32 → Int32 → pMem → (Option Int32)) (ih5 : ∀ (l1 : Int32) (l2 : Int32) (l3 : Int32) (l4 : Int32)  (m : pMem), k5 l1 l2 l3 l4 m = some z → gM E kX6_moreYesThanNo (z, m) 5 [(0, .ref (eA E 7)), (1, .int l1), (2, .int l2), (3, .int l3), (4, .int l4)] [] m) (l1 : Int32) (l2 : Int32) (l3 : Int32) (l4 : Int32) (m : pMem) (hf : sX6_moreYesThanNo_b45 k5 l1 l2 l3 l4 m = some z) : gM E kX6_moreYesThanNo (z, m) 45 [(0, .ref (eA E 7)), (1, .int l1), (2, .int l2), (3, .int l3), (4, .int l4)] [] m := by
  unfold sX6_moreYesThanNo_b45 at hf
  refine g_iinc (q := 4) (v := l4 + 1) dX6_moreYesThanNo_45 rfl (by rw [kI_1]) (Nat.le_of_ble_eq_true rfl) rfl ?_
  refine g_goto (tgt := 5) dX6_moreYesThanNo_48 (by decide) ?_
  refine g_lv [1, 2, 3, 4, 0] rfl ?_
  exact ih5 l1 l2 l3 (l4 + 1) m hf
theorem wX6_moreYesThanNo_b43 (E : pEv) (z : Int32) (k5 : Int32 → Int32 → Int32 → Int32 → pMem → (Option Int32)) (ih5 : ∀ (l1 : Int32) (l2 : Int32) (l3 : Int32) (l4 : Int32)  (m : pMem), k5 l1 l2 l3 l4 m = some z → gM E kX6_moreYesThanNo (z, m) 5 [(0, .ref (eA E 7)), (1, .int l1), (2, .int l2), (3, .int l3), (4, .int l4)] [] m) (l1 : Int32) (l2 : Int32) (l4 : Int32) (t0 : Int32) (t1 : Int32) (m : pMem) (hf : sX6_moreYesThanNo_b43 k5 l1 l2 l4 t0 t1 m = some z) : gM E kX6_moreYesThanNo (z, m) 43 [(0, .ref (eA E 7)), (1, .int l1), (2, .int l2), (4, .int l4)] [.int t0, .int t1] m := by
  unfold sX6_moreYesThanNo_b43 at hf
  refine g_iadd dX6_moreYesThanNo_43 ?_
  refine nmI hf (fun x8 hf => ?_)
  refine g_istore_n dX6_moreYesThanNo_44 rfl (Nat.le_of_ble_eq_true rfl) rfl ?_
  refine g_lv [1, 2, 3, 0, 4] rfl ?_
  exact wX6_moreYesThanNo_b45 E z k5 ih5 l1 l2 x8 l4 m hf
theorem wX6_moreYesThanNo_b60 (E : pEv) (z : Int32) (t0 : Int32) (m : pMem) (hf : sX6_moreYesThanNo_b60 t0 m = some z) : gM E kX6_moreYesThanNo (z, m) 60 [] [.int t0] m := by
  unfold sX6_moreYesThanNo_b60 at hf
  exact g_retz dX6_moreYesThanNo_60 rfl (by rw [Option.some.inj hf])
theorem wX6_moreYesThanNo_b5 (E : pEv) (z : Int32) (k5 : Int32 → Int32 → Int32 → Int32 → pMem → (Option Int32)) (ih5 : ∀ (l1 : Int32) (l2 : Int32) (l3 : Int32) (l4 : Int32)  (m : pMem), k5 l1 l2 l3 l4 m = some z → gM E kX6_moreYesThanNo (z, m) 5 [(0, .ref (eA E 7)), (1, .int l1), (2, .int l2), (3, .int l3), (4, .int l4)] [] m) (l1 : Int32) (l2 : Int32) (l3 : Int32) (l4 : Int32) (m : pMem) (hf : sX6_moreYesThanNo_b5 k5 l1 l2 l3 l4 m = some z) : gM E kX6_moreYesThanNo (z, m) 5 [(0, .ref (eA E 7)), (1, .int l1), (2, .int l2), (3, .int l3), (4, .int l4)] [] m := by
  unfold sX6_moreYesThanNo_b5 at hf
  refine g_iload (q := 4) dX6_moreYesThanNo_5 rfl ?_
  refine g_bipush (v := 6) dX6_moreYesThanNo_7 kB_6 ?_
  refine g_icmp_ge (tgt := 51) dX6_moreYesThanNo_9 (by decide) (fun c1 => ?_) (fun c1 => ?_)
  · have hf := it_ hf c1
    refine g_iload_n (q := 3) dX6_moreYesThanNo_51 rfl rfl ?_
    refine g_if_le (tgt := 59) dX6_moreYesThanNo_52 (by decide) (fun c2 => ?_) (fun c2 => ?_)
    · have hf := it_ hf c2
      refine g_iconst (v := 0) dX6_moreYesThanNo_59 kI_0 ?_
      refine g_lv [] rfl ?_
      exact wX6_moreYesThanNo_b60 E z  0 m hf
    · have hf := ie_ hf c2
      refine g_iconst (v := 1) dX6_moreYesThanNo_55 kI_1 ?_
      refine g_goto (tgt := 60) dX6_moreYesThanNo_56 (by decide) ?_
      refine g_lv [] rfl ?_
      exact wX6_moreYesThanNo_b60 E z  1 m hf
  · have hf := ie_ hf c1
    refine g_aload_n (q := 0) dX6_moreYesThanNo_12 rfl rfl ?_
    refine g_iload (q := 4) dX6_moreYesThanNo_13 rfl ?_
    refine g_iload_n (q := 1) dX6_moreYesThanNo_15 rfl rfl ?_
    refine g_iload_n (q := 2) dX6_moreYesThanNo_16 rfl rfl ?_
    obtain ⟨r3, q4, hf⟩ := cbR_ hf
    refine g_cV (As := [.int l4, .int l1, .int l2]) dX6_moreYesThanNo_17 (tX6_latest E m l4 l1 l2 q4) gyX6_latest giX6_latest gsX6_latest mX6_29 (⟨rfl, rfl, Nat.le_of_ble_eq_true rfl, Nat.le_of_ble_eq_true rfl, Nat.le_of_ble_eq_true rfl, Nat.le_of_ble_eq_true rfl⟩) rfl (obX6 E m) rfl rfl rfl (Nat.le_of_ble_eq_true rfl) ?_
    refine g_istore dX6_moreYesThanNo_20 (Nat.le_of_ble_eq_true rfl) rfl ?_
    refine g_iload (q := 0) dX6_moreYesThanNo_22 rfl ?_
    refine g_if_lt (tgt := 45) dX6_moreYesThanNo_24 (by decide) (fun c5 => ?_) (fun c5 => ?_)
    · have hf := it_ hf c5
      refine g_lv [1, 2, 3, 4, 5] rfl ?_
      exact wX6_moreYesThanNo_b45 E z k5 ih5 l1 l2 l3 l4 m hf
    · have hf := ie_ hf c5
      refine g_iload_n (q := 4) dX6_moreYesThanNo_27 rfl rfl ?_
      refine g_aload_n (q := 1) dX6_moreYesThanNo_28 rfl rfl ?_
      refine g_get dX6_moreYesThanNo_29 fX6_18 (obX6 E m) (gvX6_2 E m) ?_
      refine g_iload (q := 0) dX6_moreYesThanNo_32 rfl ?_
      obtain ⟨h6, hf⟩ := gd_ hf
      refine g_zald dX6_moreYesThanNo_34 ar_57 h6 ?_
      refine g_if_eq (tgt := 42) dX6_moreYesThanNo_35 (by decide) (fun c7 => ?_) (fun c7 => ?_)
      · have hf := it_ hf c7
        refine g_iconst (v := (-1)) dX6_moreYesThanNo_42 kI_m1 ?_
        refine g_lv [1, 2, 3, 5] rfl ?_
        exact wX6_moreYesThanNo_b43 E z k5 ih5 l1 l2 l4 (-1) l3 m hf
      · have hf := ie_ hf c7
        refine g_iconst (v := 1) dX6_moreYesThanNo_38 kI_1 ?_
        refine g_goto (tgt := 43) dX6_moreYesThanNo_39 (by decide) ?_
        refine g_lv [1, 2, 3, 5] rfl ?_
        exact wX6_moreYesThanNo_b43 E z k5 ih5 l1 l2 l4 1 l3 m hf
theorem wX6_moreYesThanNo_l5 (E : pEv) (z : Int32) : ∀ (n : Nat) (l1 : Int32) (l2 : Int32) (l3 : Int32) (l4 : Int32) (m : pMem), sX6_moreYesThanNo_l5 n l1 l2 l3 l4 m = some z → gM E kX6_moreYesThanNo (z, m) 5 [(0, .ref (eA E 7)), (1, .int l1), (2, .int l2), (3, .int l3), (4, .int l4)] [] m := by
  intro n
  induction n with
  | zero => intro l1 l2 l3 l4 m  hf; cases (show (none : Option _) = some z from hf)
  | succ n ih => intro l1 l2 l3 l4 m  hf; exact wX6_moreYesThanNo_b5 E z  _  ih l1 l2 l3 l4 m  hf
theorem wX6_moreYesThanNo_b0 (E : pEv) (z : Int32) (a1 : Int32) (a2 : Int32) (m : pMem) (hf : sX6_moreYesThanNo a1 a2 m = some z) : gM E kX6_moreYesThanNo (z, m) 0 [(0, .ref (eA E 7)), (1, .int a1), (2, .int a2)] [] m := by
  unfold sX6_moreYesThanNo at hf
  refine g_iconst (v := 0) dX6_moreYesThanNo_0 kI_0 ?_
  refine g_istore_n dX6_moreYesThanNo_1 rfl (Nat.le_of_ble_eq_true rfl) rfl ?_
  refine g_iconst (v := 0) dX6_moreYesThanNo_2 kI_0 ?_
  refine g_istore dX6_moreYesThanNo_3 (Nat.le_of_ble_eq_true rfl) rfl ?_
  refine g_lv [2, 3, 4, 1, 0] rfl ?_
  exact wX6_moreYesThanNo_l5 E z  5000 a1 a2 0 0 m hf
theorem tX6_moreYesThanNo (E : pEv) (m : pMem) (a1 : Int32) (a2 : Int32) {z : Int32} (hf : sX6_moreYesThanNo a1 a2 m = some z) : gCn E yX6_moreYesThanNo kX6_moreYesThanNo [.ref (eA E 7), .int a1, .int a2] m (z, m) := gCn_of (by decide +kernel) rfl rfl rfl (Nat.le_of_ble_eq_true rfl) rfl (wX6_moreYesThanNo_b0 E z a1 a2 m  hf)
theorem wX3_boundByRank_b88 (E : pEv) (z : Int32) (k3 : Int32 → Int32 → Int32 → Int32 → pMem → (Option Int32)) (ih3 : ∀ (l1 : Int32) (l2 : Int32) (l3 : Int32) (l4 : Int32)  (m : pMem), k3 l1 l2 l3 l4 m = some z → gM E kX3_boundByRank (z, m) 3 [(0, .ref (eA E 4)), (1, .int l1), (2, .int l2), (3, .int l3), (4, .int l4)] [] m) (l1 : Int32) (l2 : Int32) (l3 : Int32) (l4 : Int32) (m : pMem) (hf : sX3_boundByRank_b88 k3 l1 l2 l3 l4 m = some z) : gM E kX3_boundByRank (z, m) 88 [(0, .ref (eA E 4)), (1, .int l1), (2, .int l2), (3, .int l3), (4, .int l4)] [] m := by
  unfold sX3_boundByRank_b88 at hf
  refine g_iinc (q := 4) (v := l4 + 1) dX3_boundByRank_88 rfl (by rw [kI_1]) (Nat.le_of_ble_eq_true rfl) rfl ?_
  refine g_goto (tgt := 3) dX3_boundByRank_91 (by decide) ?_
  refine g_lv [1, 2, 3, 4, 0] rfl ?_
  exact ih3 l1 l2 l3 (l4 + 1) m hf
theorem wX3_boundByRank_b52 (E : pEv) (z : Int32) (k3 : Int32 → Int32 → Int32 → Int32 → pMem → (Option Int32)) (ih3 : ∀ (l1 : Int32) (l2 : Int32) (l3 : Int32) (l4 : Int32)  (m : pMem), k3 l1 l2 l3 l4 m = some z → gM E kX3_boundByRank (z, m) 3 [(0, .ref (eA E 4)), (1, .int l1), (2, .int l2), (3, .int l3), (4, .int l4)] [] m) (l1 : Int32) (l2 : Int32) (l3 : Int32) (l4 : Int32) (t0 : Int32) (m : pMem) (hf : sX3_boundByRank_b52 k3 l1 l2 l3 l4 t0 m = some z) : gM E kX3_boundByRank (z, m) 52 [(0, .ref (eA E 4)), (1, .int l1), (2, .int l2), (3, .int l3), (4, .int l4)] [.int t0] m := by
  unfold sX3_boundByRank_b52 at hf
  refine g_istore dX3_boundByRank_52 (Nat.le_of_ble_eq_true rfl) rfl ?_
  refine g_iload (q := 0) dX3_boundByRank_54 rfl ?_
  refine g_if_eq (tgt := 88) dX3_boundByRank_56 (by decide) (fun c9 => ?_) (fun c9 => ?_)
  · have hf := it_ hf c9
    refine g_lv [1, 2, 3, 4, 5] rfl ?_
    exact wX3_boundByRank_b88 E z k3 ih3 l1 l2 l3 l4 m hf
  · have hf := ie_ hf c9
    refine g_aload_n (q := 1) dX3_boundByRank_59 rfl rfl ?_
    refine g_get dX3_boundByRank_60 fX3_40 (obX3 E m) (gvX3_0 E m) ?_
    refine g_iload (q := 5) dX3_boundByRank_63 rfl ?_
    refine g_iload_n (q := 4) dX3_boundByRank_65 rfl rfl ?_
    obtain ⟨r10, q11, hf⟩ := cbR_ hf
    refine g_cV (As := [.int l4, .int l3]) dX3_boundByRank_66 (tX2_saidSame E m l4 l3 q11) gyX2_saidSame giX2_saidSame gsX2_saidSame mX3_88 (⟨rfl, rfl, Nat.le_of_ble_eq_true rfl, Nat.le_of_ble_eq_true rfl, Nat.le_of_ble_eq_true rfl, Nat.le_of_ble_eq_true rfl⟩) rfl (obX2 E m) rfl rfl rfl (Nat.le_of_ble_eq_true rfl) ?_
    refine g_if_eq (tgt := 88) dX3_boundByRank_69 (by decide) (fun c12 => ?_) (fun c12 => ?_)
    · have hf := it_ hf c12
      refine g_lv [1, 2, 3, 4, 5] rfl ?_
      exact wX3_boundByRank_b88 E z k3 ih3 l1 l2 l3 l4 m hf
    · have hf := ie_ hf c12
      refine g_aload_n (q := 1) dX3_boundByRank_72 rfl rfl ?_
      refine g_get dX3_boundByRank_73 fX3_52 (obX3 E m) (gvX3_3 E m) ?_
      refine g_iload (q := 5) dX3_boundByRank_76 rfl ?_
      refine g_iload_n (q := 3) dX3_boundByRank_78 rfl rfl ?_
      obtain ⟨r13, q14, hf⟩ := cbR_ hf
      refine g_cV (As := [.int l4, .int l2]) dX3_boundByRank_79 (tX6_moreYesThanNo E m l4 l2 q14) gyX6_moreYesThanNo giX6_moreYesThanNo gsX6_moreYesThanNo mX3_91 (⟨rfl, rfl, Nat.le_of_ble_eq_true rfl, Nat.le_of_ble_eq_true rfl, Nat.le_of_ble_eq_true rfl, Nat.le_of_ble_eq_true rfl⟩) rfl (obX6 E m) rfl rfl rfl (Nat.le_of_ble_eq_true rfl) ?_
      refine g_if_eq (tgt := 88) dX3_boundByRank_82 (by decide) (fun c15 => ?_) (fun c15 => ?_)
      · have hf := it_ hf c15
        refine g_lv [1, 2, 3, 4, 5] rfl ?_
        exact wX3_boundByRank_b88 E z k3 ih3 l1 l2 l3 l4 m hf
      · have hf := ie_ hf c15
        refine g_iload (q := 5) dX3_boundByRank_85 rfl ?_
        exact g_ret dX3_boundByRank_87 rfl rfl (by rw [Option.some.inj hf])
theorem wX3_boundByRank_b51 (E : pEv) (z : Int32) (k3 : Int32 → Int32 → Int32 → Int32 → pMem → (Option Int32)) (ih3 : ∀ (l1 : Int32) (l2 : Int32) (l3 : Int32) (l4 : Int32)  (m : pMem), k3 l1 l2 l3 l4 m = some z → gM E kX3_boundByRank (z, m) 3 [(0, .ref (eA E 4)), (1, .int l1), (2, .int l2), (3, .int l3), (4, .int l4)] [] m) (l1 : Int32) (l2 : Int32) (l3 : Int32) (l4 : Int32) (m : pMem) (hf : sX3_boundByRank_b51 k3 l1 l2 l3 l4 m = some z) : gM E kX3_boundByRank (z, m) 51 [(0, .ref (eA E 4)), (1, .int l1), (2, .int l2), (3, .int l3), (4, .int l4)] [] m := by
  unfold sX3_boundByRank_b51 at hf
  refine g_iconst (v := 0) dX3_boundByRank_51 kI_0 ?_
  exact wX3_boundByRank_b52 E z k3 ih3 l1 l2 l3 l4 0 m hf
theorem wX3_boundByRank_b3 (E : pEv) (z : Int32) (k3 : Int32 → Int32 → Int32 → Int32 → pMem → (Option Int32)) (ih3 : ∀ (l1 : Int32) (l2 : Int32) (l3 : Int32) (l4 : Int32)  (m : pMem), k3 l1 l2 l3 l4 m = some z → gM E kX3_boundByRank (z, m) 3 [(0, .ref (eA E 4)), (1, .int l1), (2, .int l2), (3, .int l3), (4, .int l4)] [] m) (l1 : Int32) (l2 : Int32) (l3 : Int32) (l4 : Int32) (m : pMem) (hf : sX3_boundByRank_b3 k3 l1 l2 l3 l4 m = some z) : gM E kX3_boundByRank (z, m) 3 [(0, .ref (eA E 4)), (1, .int l1), (2, .int l2), (3, .int l3), (4, .int l4)] [] m := by
  unfold sX3_boundByRank_b3 at hf
  refine g_iload (q := 4) dX3_boundByRank_3 rfl ?_
  refine g_aload_n (q := 0) dX3_boundByRank_5 rfl rfl ?_
  refine g_get dX3_boundByRank_6 fX3_40 (obX3 E m) (gvX3_0 E m) ?_
  refine g_get dX3_boundByRank_9 fX3_82 (obX2 E m) (gvX2_6 E m) ?_
  refine g_icmp_ge (tgt := 94) dX3_boundByRank_12 (by decide) (fun c1 => ?_) (fun c1 => ?_)
  · have hf := it_ hf c1
    refine g_aload_n (q := 0) dX3_boundByRank_94 rfl rfl ?_
    refine g_get dX3_boundByRank_95 fX3_15 (obX3 E m) (gvX3_5 E m) ?_
    refine g_iload_n (q := 1) dX3_boundByRank_98 rfl rfl ?_
    obtain ⟨h2, hf⟩ := gd_ hf
    refine g_iald dX3_boundByRank_99 ar_45 h2 ?_
    exact g_ret dX3_boundByRank_100 rfl rfl (by rw [Option.some.inj hf])
  · have hf := ie_ hf c1
    refine g_aload_n (q := 0) dX3_boundByRank_15 rfl rfl ?_
    refine g_get dX3_boundByRank_16 fX3_40 (obX3 E m) (gvX3_0 E m) ?_
    refine g_get dX3_boundByRank_19 fX3_85 (obX2 E m) (gvX2_3 E m) ?_
    refine g_iload (q := 4) dX3_boundByRank_22 rfl ?_
    obtain ⟨h3, hf⟩ := gd_ hf
    refine g_iald dX3_boundByRank_24 ar_21 h3 ?_
    refine g_aload_n (q := 0) dX3_boundByRank_25 rfl rfl ?_
    refine g_get dX3_boundByRank_26 fX3_15 (obX3 E m) (gvX3_5 E m) ?_
    refine g_iload_n (q := 1) dX3_boundByRank_29 rfl rfl ?_
    obtain ⟨h4, hf⟩ := gd_ hf
    refine g_iald dX3_boundByRank_30 ar_45 h4 ?_
    refine g_icmp_ne (tgt := 51) dX3_boundByRank_31 (by decide) (fun c5 => ?_) (fun c5 => ?_)
    · have hf := it_ hf c5
      exact wX3_boundByRank_b51 E z k3 ih3 l1 l2 l3 l4 m hf
    · have hf := ie_ hf (not_not_intro c5)
      refine g_aload_n (q := 0) dX3_boundByRank_34 rfl rfl ?_
      refine g_get dX3_boundByRank_35 fX3_40 (obX3 E m) (gvX3_0 E m) ?_
      refine g_iload (q := 4) dX3_boundByRank_38 rfl ?_
      refine g_iload_n (q := 3) dX3_boundByRank_40 rfl rfl ?_
      obtain ⟨r6, q7, hf⟩ := cbR_ hf
      refine g_cV (As := [.int l4, .int l3]) dX3_boundByRank_41 (tX2_isThere E m l4 l3 q7) gyX2_isThere giX2_isThere gsX2_isThere mX3_78 (⟨rfl, rfl, Nat.le_of_ble_eq_true rfl, Nat.le_of_ble_eq_true rfl, Nat.le_of_ble_eq_true rfl, Nat.le_of_ble_eq_true rfl⟩) rfl (obX2 E m) rfl rfl rfl (Nat.le_of_ble_eq_true rfl) ?_
      refine g_if_eq (tgt := 51) dX3_boundByRank_44 (by decide) (fun c8 => ?_) (fun c8 => ?_)
      · have hf := it_ hf c8
        exact wX3_boundByRank_b51 E z k3 ih3 l1 l2 l3 l4 m hf
      · have hf := ie_ hf c8
        refine g_iconst (v := 1) dX3_boundByRank_47 kI_1 ?_
        refine g_goto (tgt := 52) dX3_boundByRank_48 (by decide) ?_
        exact wX3_boundByRank_b52 E z k3 ih3 l1 l2 l3 l4 1 m hf
theorem wX3_boundByRank_l3 (E : pEv) (z : Int32) : ∀ (n : Nat) (l1 : Int32) (l2 : Int32) (l3 : Int32) (l4 : Int32) (m : pMem), sX3_boundByRank_l3 n l1 l2 l3 l4 m = some z → gM E kX3_boundByRank (z, m) 3 [(0, .ref (eA E 4)), (1, .int l1), (2, .int l2), (3, .int l3), (4, .int l4)] [] m := by
  intro n
  induction n with
  | zero => intro l1 l2 l3 l4 m  hf; cases (show (none : Option _) = some z from hf)
  | succ n ih => intro l1 l2 l3 l4 m  hf; exact wX3_boundByRank_b3 E z  _  ih l1 l2 l3 l4 m  hf
theorem wX3_boundByRank_b0 (E : pEv) (z : Int32) (a1 : Int32) (a2 : Int32) (a3 : Int32) (m : pMem) (hf : sX3_boundByRank a1 a2 a3 m = some z) : gM E kX3_boundByRank (z, m) 0 [(0, .ref (eA E 4)), (1, .int a1), (2, .int a2), (3, .int a3)] [] m := by
  unfold sX3_boundByRank at hf
  refine g_iconst (v := 0) dX3_boundByRank_0 kI_0 ?_
  refine g_istore dX3_boundByRank_1 (Nat.le_of_ble_eq_true rfl) rfl ?_
  refine g_lv [1, 2, 3, 4, 0] rfl ?_
  exact wX3_boundByRank_l3 E z  5000 a1 a2 a3 0 m hf
theorem tX3_boundByRank (E : pEv) (m : pMem) (a1 : Int32) (a2 : Int32) (a3 : Int32) {z : Int32} (hf : sX3_boundByRank a1 a2 a3 m = some z) : gCn E yX3_boundByRank kX3_boundByRank [.ref (eA E 4), .int a1, .int a2, .int a3] m (z, m) := gCn_of (by decide +kernel) rfl rfl rfl (Nat.le_of_ble_eq_true rfl) rfl (wX3_boundByRank_b0 E z a1 a2 a3 m  hf)
theorem wX3_boundOn_b100 (E : pEv) (z : Int32 × pMem) (t0 : Int32) (m : pMem) (hf : sX3_boundOn_b100 t0 m = some z) : gM E kX3_boundOn z 100 [] [.int t0] m := by
  unfold sX3_boundOn_b100 at hf
  exact g_ret dX3_boundOn_100 rfl rfl (Option.some.inj hf).symm
theorem wX3_boundOn_b76 (E : pEv) (z : Int32 × pMem) (l4 : Int32) (t0 : Int32) (m : pMem) (hf : sX3_boundOn_b76 l4 t0 m = some z) : gM E kX3_boundOn z 76 [(0, .ref (eA E 4)), (4, .int l4)] [.int t0] m := by
  unfold sX3_boundOn_b76 at hf
  refine g_istore dX3_boundOn_76 (Nat.le_of_ble_eq_true rfl) rfl ?_
  refine g_aload_n (q := 1) dX3_boundOn_78 rfl rfl ?_
  refine g_get dX3_boundOn_79 fX3_40 (obX3 E m) (gvX3_0 E m) ?_
  refine g_iload (q := 0) dX3_boundOn_82 rfl ?_
  refine g_iload (q := 2) dX3_boundOn_84 rfl ?_
  obtain ⟨r17, q18, hf⟩ := cbR_ hf
  refine g_cV (As := [.int t0, .int l4]) dX3_boundOn_86 (tX2_isThere E m t0 l4 q18) gyX2_isThere giX2_isThere gsX2_isThere mX3_78 (⟨rfl, rfl, Nat.le_of_ble_eq_true rfl, Nat.le_of_ble_eq_true rfl, Nat.le_of_ble_eq_true rfl, Nat.le_of_ble_eq_true rfl⟩) rfl (obX2 E m) rfl rfl rfl (Nat.le_of_ble_eq_true rfl) ?_
  refine g_if_eq (tgt := 99) dX3_boundOn_89 (by decide) (fun c19 => ?_) (fun c19 => ?_)
  · have hf := it_ hf c19
    refine g_iconst (v := 0) dX3_boundOn_99 kI_0 ?_
    refine g_lv [] rfl ?_
    exact wX3_boundOn_b100 E z  0 m hf
  · have hf := ie_ hf c19
    refine g_iconst (v := 1) dX3_boundOn_92 kI_1 ?_
    refine g_iload (q := 0) dX3_boundOn_93 rfl ?_
    refine g_ishl dX3_boundOn_95 ?_
    refine g_goto (tgt := 100) dX3_boundOn_96 (by decide) ?_
    refine g_lv [] rfl ?_
    exact wX3_boundOn_b100 E z  ((1 : Int32) <<< (t0 &&& 31)) m hf
theorem wX3_boundOn_b0 (E : pEv) (z : Int32 × pMem) (a1 : Int32) (a2 : Int32) (a3 : Int32) (m : pMem) (hf : sX3_boundOn a1 a2 a3 m = some z) : gM E kX3_boundOn z 0 [(0, .ref (eA E 4)), (1, .int a1), (2, .int a2), (3, .int a3)] [] m := by
  unfold sX3_boundOn at hf
  refine g_iload_n (q := 2) dX3_boundOn_0 rfl rfl ?_
  refine g_aload_n (q := 0) dX3_boundOn_1 rfl rfl ?_
  refine g_get dX3_boundOn_2 fX3_21 (obX3 E m) (gvX3_7 E m) ?_
  refine g_iload_n (q := 1) dX3_boundOn_5 rfl rfl ?_
  obtain ⟨h1, hf⟩ := gd_ hf
  refine g_iald dX3_boundOn_6 ar_47 h1 ?_
  refine g_icmp_ge (tgt := 12) dX3_boundOn_7 (by decide) (fun c2 => ?_) (fun c2 => ?_)
  · have hf := it_ hf c2
    refine g_aload_n (q := 0) dX3_boundOn_12 rfl rfl ?_
    refine g_get dX3_boundOn_13 fX3_9 (obX3 E m) (gvX3_4 E m) ?_
    refine g_iload_n (q := 1) dX3_boundOn_16 rfl rfl ?_
    obtain ⟨h3, hf⟩ := gd_ hf
    refine g_iald dX3_boundOn_17 ar_44 h3 ?_
    refine g_iconst (v := 2) dX3_boundOn_18 kI_2 ?_
    refine g_icmp_ne (tgt := 30) dX3_boundOn_19 (by decide) (fun c4 => ?_) (fun c4 => ?_)
    · have hf := it_ hf c4
      refine g_aload_n (q := 0) dX3_boundOn_30 rfl rfl ?_
      refine g_get dX3_boundOn_31 fX3_40 (obX3 E m) (gvX3_0 E m) ?_
      refine g_iload_n (q := 2) dX3_boundOn_34 rfl rfl ?_
      obtain ⟨r5, q6, hf⟩ := cbR_ hf
      refine g_cV (As := [.int a2]) dX3_boundOn_35 (tX2_changesBy E m a2 q6) gyX2_changesBy giX2_changesBy gsX2_changesBy mX3_66 (⟨rfl, rfl, Nat.le_of_ble_eq_true rfl, Nat.le_of_ble_eq_true rfl, Nat.le_of_ble_eq_true rfl, Nat.le_of_ble_eq_true rfl⟩) rfl (obX2 E m) rfl rfl rfl (Nat.le_of_ble_eq_true rfl) ?_
      refine g_istore dX3_boundOn_38 (Nat.le_of_ble_eq_true rfl) rfl ?_
      refine g_aload_n (q := 1) dX3_boundOn_40 rfl rfl ?_
      refine g_get dX3_boundOn_41 fX3_9 (obX3 E m) (gvX3_4 E m) ?_
      refine g_iload_n (q := 2) dX3_boundOn_44 rfl rfl ?_
      obtain ⟨h7, hf⟩ := gd_ hf
      refine g_iald dX3_boundOn_45 ar_44 h7 ?_
      refine g_iconst (v := 1) dX3_boundOn_46 kI_1 ?_
      refine g_icmp_ne (tgt := 61) dX3_boundOn_47 (by decide) (fun c8 => ?_) (fun c8 => ?_)
      · have hf := it_ hf c8
        refine g_aload_n (q := 1) dX3_boundOn_61 rfl rfl ?_
        refine g_get dX3_boundOn_62 fX3_40 (obX3 E m) (gvX3_0 E m) ?_
        refine g_aload_n (q := 1) dX3_boundOn_65 rfl rfl ?_
        refine g_get dX3_boundOn_66 fX3_18 (obX3 E m) (gvX3_6 E m) ?_
        refine g_iload_n (q := 2) dX3_boundOn_69 rfl rfl ?_
        obtain ⟨h9, hf⟩ := gd_ hf
        refine g_iald dX3_boundOn_70 ar_46 h9 ?_
        refine g_iload (q := 0) dX3_boundOn_71 rfl ?_
        obtain ⟨r10, q11, hf⟩ := cbR_ hf
        refine g_cV (As := [.int (m.1 46 a1.toNatClampNeg), .int r5]) dX3_boundOn_73 (tX2_ownerOf E m (m.1 46 a1.toNatClampNeg) r5 q11) gyX2_ownerOf giX2_ownerOf gsX2_ownerOf mX3_75 (⟨rfl, rfl, Nat.le_of_ble_eq_true rfl, Nat.le_of_ble_eq_true rfl, Nat.le_of_ble_eq_true rfl, Nat.le_of_ble_eq_true rfl⟩) rfl (obX2 E m) rfl rfl rfl (Nat.le_of_ble_eq_true rfl) ?_
        refine g_lv [1, 0] rfl ?_
        exact wX3_boundOn_b76 E z  r5 r10 m hf
      · have hf := ie_ hf (not_not_intro c8)
        refine g_aload_n (q := 1) dX3_boundOn_50 rfl rfl ?_
        refine g_iload_n (q := 2) dX3_boundOn_51 rfl rfl ?_
        refine g_iload_n (q := 3) dX3_boundOn_52 rfl rfl ?_
        refine g_iload (q := 0) dX3_boundOn_53 rfl ?_
        obtain ⟨r12, q13, hf⟩ := cbR_ hf
        refine g_cV (As := [.int a1, .int a2, .int r5]) dX3_boundOn_55 (tX3_boundByRank E m a1 a2 r5 q13) gyX3_boundByRank giX3_boundByRank gsX3_boundByRank mX3_72 (⟨rfl, rfl, Nat.le_of_ble_eq_true rfl, Nat.le_of_ble_eq_true rfl, Nat.le_of_ble_eq_true rfl, Nat.le_of_ble_eq_true rfl⟩) rfl (obX3 E m) rfl rfl rfl (Nat.le_of_ble_eq_true rfl) ?_
        refine g_goto (tgt := 76) dX3_boundOn_58 (by decide) ?_
        refine g_lv [1, 0] rfl ?_
        exact wX3_boundOn_b76 E z  r5 r12 m hf
    · have hf := ie_ hf (not_not_intro c4)
      refine g_aload_n (q := 0) dX3_boundOn_22 rfl rfl ?_
      refine g_iload_n (q := 1) dX3_boundOn_23 rfl rfl ?_
      refine g_iload_n (q := 2) dX3_boundOn_24 rfl rfl ?_
      refine g_iload_n (q := 3) dX3_boundOn_25 rfl rfl ?_
      obtain ⟨r14, m16, q15, hf⟩ := cbE_ hf
      refine g_cV (As := [.int a1, .int a2, .int a3]) dX3_boundOn_26 (tX3_boundByTrade E m a1 a2 a3 q15) gyX3_boundByTrade giX3_boundByTrade gsX3_boundByTrade mX3_62 (⟨rfl, rfl, Nat.le_of_ble_eq_true rfl, Nat.le_of_ble_eq_true rfl, Nat.le_of_ble_eq_true rfl, Nat.le_of_ble_eq_true rfl⟩) rfl (obX3 E m) rfl rfl rfl (Nat.le_of_ble_eq_true rfl) ?_
      exact g_ret dX3_boundOn_29 rfl rfl (Option.some.inj hf).symm
  · have hf := ie_ hf c2
    refine g_iconst (v := 0) dX3_boundOn_10 kI_0 ?_
    exact g_ret dX3_boundOn_11 rfl rfl (Option.some.inj hf).symm
theorem tX3_boundOn (E : pEv) (m : pMem) (a1 : Int32) (a2 : Int32) (a3 : Int32) {z : Int32 × pMem} (hf : sX3_boundOn a1 a2 a3 m = some z) : gCn E yX3_boundOn kX3_boundOn [.ref (eA E 4), .int a1, .int a2, .int a3] m z := gCn_of (by decide +kernel) rfl rfl rfl (Nat.le_of_ble_eq_true rfl) rfl (wX3_boundOn_b0 E z a1 a2 a3 m  hf)
theorem wX8_bound_b0 (E : pEv) (z : Int32 × pMem) (a1 : Int32) (a2 : Int32) (m : pMem) (hf : sX8_bound a1 a2 m = some z) : gM E kX8_bound z 0 [(0, .ref (eA E 0)), (1, .int a1), (2, .int a2)] [] m := by
  unfold sX8_bound at hf
  refine g_aload_n (q := 0) dX8_bound_0 rfl rfl ?_
  refine g_get dX8_bound_1 fX8_42 (obX8 E m) (gvX8_4 E m) ?_
  refine g_iload_n (q := 1) dX8_bound_4 rfl rfl ?_
  obtain ⟨r1, q2, hf⟩ := cbR_ hf
  refine g_cV (As := [.int a1]) dX8_bound_5 (tX3_knowsPact E m a1 q2) gyX3_knowsPact giX3_knowsPact gsX3_knowsPact mX8_168 (⟨rfl, rfl, Nat.le_of_ble_eq_true rfl, Nat.le_of_ble_eq_true rfl, Nat.le_of_ble_eq_true rfl, Nat.le_of_ble_eq_true rfl⟩) rfl (obX3 E m) rfl rfl rfl (Nat.le_of_ble_eq_true rfl) ?_
  refine g_if_ne (tgt := 14) dX8_bound_8 (by decide) (fun c3 => ?_) (fun c3 => ?_)
  · have hf := it_ hf c3
    refine g_iload_n (q := 2) dX8_bound_14 rfl rfl ?_
    obtain ⟨r4, q5, hf⟩ := cbR_ hf
    refine g_cS (As := [.int a2]) dX8_bound_15 (tX8_isDay E m a2 q5) gyX8_isDay giX8_isDay mX8_110 (⟨rfl, rfl, Nat.le_of_ble_eq_true rfl, Nat.le_of_ble_eq_true rfl, Nat.le_of_ble_eq_true rfl, Nat.le_of_ble_eq_true rfl⟩) rfl rfl rfl (Nat.le_of_ble_eq_true rfl) ?_
    refine g_if_ne (tgt := 24) dX8_bound_18 (by decide) (fun c6 => ?_) (fun c6 => ?_)
    · have hf := it_ hf c6
      refine g_aload_n (q := 0) dX8_bound_24 rfl rfl ?_
      refine g_get dX8_bound_25 fX8_42 (obX8 E m) (gvX8_4 E m) ?_
      refine g_iload_n (q := 1) dX8_bound_28 rfl rfl ?_
      refine g_iload_n (q := 2) dX8_bound_29 rfl rfl ?_
      refine g_iconst (v := 0) dX8_bound_30 kI_0 ?_
      obtain ⟨r7, m9, q8, hf⟩ := cbE_ hf
      refine g_cV (As := [.int a1, .int a2, .int 0]) dX8_bound_31 (tX3_boundOn E m a1 a2 0 q8) gyX3_boundOn giX3_boundOn gsX3_boundOn mX8_185 (⟨rfl, rfl, Nat.le_of_ble_eq_true rfl, Nat.le_of_ble_eq_true rfl, Nat.le_of_ble_eq_true rfl, Nat.le_of_ble_eq_true rfl⟩) rfl (obX3 E m) rfl rfl rfl (Nat.le_of_ble_eq_true rfl) ?_
      exact g_ret dX8_bound_34 rfl rfl (Option.some.inj hf).symm
    · have hf := ie_ hf (not_not_intro c6)
      refine g_bipush (v := (-3)) dX8_bound_21 kB_m3 ?_
      exact g_ret dX8_bound_23 rfl rfl (Option.some.inj hf).symm
  · have hf := ie_ hf (not_not_intro c3)
    refine g_bipush (v := (-2)) dX8_bound_11 kB_m2 ?_
    exact g_ret dX8_bound_13 rfl rfl (Option.some.inj hf).symm
theorem tX8_bound (E : pEv) (m : pMem) (a1 : Int32) (a2 : Int32) {z : Int32 × pMem} (hf : sX8_bound a1 a2 m = some z) : gCn E yX8_bound kX8_bound [.ref (eA E 0), .int a1, .int a2] m z := gCn_of (by decide +kernel) rfl rfl rfl (Nat.le_of_ble_eq_true rfl) rfl (wX8_bound_b0 E z a1 a2 m  hf)
theorem wX8_burden_b30 (E : pEv) (z : Int32 × pMem) (m : pMem) (hf : sX8_burden_b30  m = some z) : gM E kX8_burden z 30 [] [] m := by
  unfold sX8_burden_b30 at hf
  refine g_bipush (v := (-3)) dX8_burden_30 kB_m3 ?_
  exact g_ret dX8_burden_32 rfl rfl (Option.some.inj hf).symm
theorem wX8_burden_b0 (E : pEv) (z : Int32 × pMem) (a1 : Int32) (a2 : Int32) (a3 : Int32) (m : pMem) (hf : sX8_burden a1 a2 a3 m = some z) : gM E kX8_burden z 0 [(0, .ref (eA E 0)), (1, .int a1), (2, .int a2), (3, .int a3)] [] m := by
  unfold sX8_burden at hf
  refine g_aload_n (q := 0) dX8_burden_0 rfl rfl ?_
  refine g_get dX8_burden_1 fX8_10 (obX8 E m) (gvX8_0 E m) ?_
  refine g_iload_n (q := 1) dX8_burden_4 rfl rfl ?_
  obtain ⟨r1, q2, hf⟩ := cbR_ hf
  refine g_cV (As := [.int a1]) dX8_burden_5 (tX2_knowsLand E m a1 q2) gyX2_knowsLand giX2_knowsLand gsX2_knowsLand mX8_119 (⟨rfl, rfl, Nat.le_of_ble_eq_true rfl, Nat.le_of_ble_eq_true rfl, Nat.le_of_ble_eq_true rfl, Nat.le_of_ble_eq_true rfl⟩) rfl (obX2 E m) rfl rfl rfl (Nat.le_of_ble_eq_true rfl) ?_
  refine g_if_ne (tgt := 14) dX8_burden_8 (by decide) (fun c3 => ?_) (fun c3 => ?_)
  · have hf := it_ hf c3
    refine g_iload_n (q := 2) dX8_burden_14 rfl rfl ?_
    obtain ⟨r4, q5, hf⟩ := cbR_ hf
    refine g_cS (As := [.int a2]) dX8_burden_15 (tX8_isDay E m a2 q5) gyX8_isDay giX8_isDay mX8_110 (⟨rfl, rfl, Nat.le_of_ble_eq_true rfl, Nat.le_of_ble_eq_true rfl, Nat.le_of_ble_eq_true rfl, Nat.le_of_ble_eq_true rfl⟩) rfl rfl rfl (Nat.le_of_ble_eq_true rfl) ?_
    refine g_if_eq (tgt := 30) dX8_burden_18 (by decide) (fun c6 => ?_) (fun c6 => ?_)
    · have hf := it_ hf c6
      refine g_lv [] rfl ?_
      exact wX8_burden_b30 E z  m hf
    · have hf := ie_ hf c6
      refine g_iload_n (q := 3) dX8_burden_21 rfl rfl ?_
      refine g_if_lt (tgt := 30) dX8_burden_22 (by decide) (fun c7 => ?_) (fun c7 => ?_)
      · have hf := it_ hf c7
        refine g_lv [] rfl ?_
        exact wX8_burden_b30 E z  m hf
      · have hf := ie_ hf c7
        refine g_iload_n (q := 3) dX8_burden_25 rfl rfl ?_
        refine g_iconst (v := 2) dX8_burden_26 kI_2 ?_
        refine g_icmp_le (tgt := 33) dX8_burden_27 (by decide) (fun c8 => ?_) (fun c8 => ?_)
        · have hf := it_ hf c8
          refine g_ldc dX8_burden_33 cX8_248 ?_
          refine g_aload_n (q := 0) dX8_burden_35 rfl rfl ?_
          refine g_get dX8_burden_36 fX8_51 (obX8 E m) (gvX8_5 E m) ?_
          refine g_iload_n (q := 1) dX8_burden_39 rfl rfl ?_
          refine g_iload_n (q := 2) dX8_burden_40 rfl rfl ?_
          refine g_iload_n (q := 3) dX8_burden_41 rfl rfl ?_
          obtain ⟨r9, m11, q10, hf⟩ := cbE_ hf
          refine g_cV (As := [.int a1, .int a2, .int a3]) dX8_burden_42 (tX1_burdenOf E m a1 a2 a3 q10) gyX1_burdenOf giX1_burdenOf gsX1_burdenOf mX8_249 (⟨rfl, rfl, Nat.le_of_ble_eq_true rfl, Nat.le_of_ble_eq_true rfl, Nat.le_of_ble_eq_true rfl, Nat.le_of_ble_eq_true rfl⟩) rfl (obX1 E m) rfl rfl rfl (Nat.le_of_ble_eq_true rfl) ?_
          refine g_iadd dX8_burden_45 ?_
          exact g_ret dX8_burden_46 rfl rfl (Option.some.inj hf).symm
        · have hf := ie_ hf c8
          refine g_lv [] rfl ?_
          exact wX8_burden_b30 E z  m hf
  · have hf := ie_ hf (not_not_intro c3)
    refine g_bipush (v := (-2)) dX8_burden_11 kB_m2 ?_
    exact g_ret dX8_burden_13 rfl rfl (Option.some.inj hf).symm
theorem tX8_burden (E : pEv) (m : pMem) (a1 : Int32) (a2 : Int32) (a3 : Int32) {z : Int32 × pMem} (hf : sX8_burden a1 a2 a3 m = some z) : gCn E yX8_burden kX8_burden [.ref (eA E 0), .int a1, .int a2, .int a3] m z := gCn_of (by decide +kernel) rfl rfl rfl (Nat.le_of_ble_eq_true rfl) rfl (wX8_burden_b0 E z a1 a2 a3 m  hf)
theorem wX2_latestDay_b22 (E : pEv) (z : Int32) (t0 : Int32) (m : pMem) (hf : sX2_latestDay_b22 t0 m = some z) : gM E kX2_latestDay (z, m) 22 [] [.int t0] m := by
  unfold sX2_latestDay_b22 at hf
  exact g_ret dX2_latestDay_22 rfl rfl (by rw [Option.some.inj hf])
theorem wX2_latestDay_b0 (E : pEv) (z : Int32) (m : pMem) (hf : sX2_latestDay  m = some z) : gM E kX2_latestDay (z, m) 0 [(0, .ref (eA E 3))] [] m := by
  unfold sX2_latestDay at hf
  refine g_aload_n (q := 0) dX2_latestDay_0 rfl rfl ?_
  refine g_get dX2_latestDay_1 fX2_55 (obX2 E m) (gvX2_14 E m) ?_
  refine g_if_ne (tgt := 11) dX2_latestDay_4 (by decide) (fun c1 => ?_) (fun c1 => ?_)
  · have hf := it_ hf c1
    refine g_aload_n (q := 0) dX2_latestDay_11 rfl rfl ?_
    refine g_get dX2_latestDay_12 fX2_37 (obX2 E m) (gvX2_8 E m) ?_
    refine g_aload_n (q := 0) dX2_latestDay_15 rfl rfl ?_
    refine g_get dX2_latestDay_16 fX2_55 (obX2 E m) (gvX2_14 E m) ?_
    refine g_iconst (v := 1) dX2_latestDay_19 kI_1 ?_
    refine g_isub dX2_latestDay_20 ?_
    obtain ⟨h2, hf⟩ := gd_ hf
    refine g_iald dX2_latestDay_21 ar_25 h2 ?_
    refine g_lv [] rfl ?_
    exact wX2_latestDay_b22 E z  (m.1 25 (((m.1 3 12) - (1 : Int32)).toNatClampNeg)) m hf
  · have hf := ie_ hf (not_not_intro c1)
    refine g_iconst (v := 0) dX2_latestDay_7 kI_0 ?_
    refine g_goto (tgt := 22) dX2_latestDay_8 (by decide) ?_
    refine g_lv [] rfl ?_
    exact wX2_latestDay_b22 E z  0 m hf
theorem tX2_latestDay (E : pEv) (m : pMem) {z : Int32} (hf : sX2_latestDay  m = some z) : gCn E yX2_latestDay kX2_latestDay [.ref (eA E 3)] m (z, m) := gCn_of (by decide +kernel) rfl rfl rfl (Nat.le_of_ble_eq_true rfl) rfl (wX2_latestDay_b0 E z  m  hf)
theorem wX8_mayChangeOn_b45 (E : pEv) (z : Int32) (t0 : Int32) (m : pMem) (hf : sX8_mayChangeOn_b45 t0 m = some z) : gM E kX8_mayChangeOn (z, m) 45 [] [.int t0] m := by
  unfold sX8_mayChangeOn_b45 at hf
  exact g_retz dX8_mayChangeOn_45 rfl (by rw [Option.some.inj hf])
theorem wX8_mayChangeOn_b44 (E : pEv) (z : Int32) (m : pMem) (hf : sX8_mayChangeOn_b44  m = some z) : gM E kX8_mayChangeOn (z, m) 44 [] [] m := by
  unfold sX8_mayChangeOn_b44 at hf
  refine g_iconst (v := 0) dX8_mayChangeOn_44 kI_0 ?_
  exact wX8_mayChangeOn_b45 E z  0 m hf
theorem wX8_mayChangeOn_b0 (E : pEv) (z : Int32) (a1 : Int32) (m : pMem) (hf : sX8_mayChangeOn a1 m = some z) : gM E kX8_mayChangeOn (z, m) 0 [(0, .ref (eA E 0)), (1, .int a1)] [] m := by
  unfold sX8_mayChangeOn at hf
  refine g_iload_n (q := 1) dX8_mayChangeOn_0 rfl rfl ?_
  obtain ⟨r1, q2, hf⟩ := cbR_ hf
  refine g_cS (As := [.int a1]) dX8_mayChangeOn_1 (tX8_isDay E m a1 q2) gyX8_isDay giX8_isDay mX8_110 (⟨rfl, rfl, Nat.le_of_ble_eq_true rfl, Nat.le_of_ble_eq_true rfl, Nat.le_of_ble_eq_true rfl, Nat.le_of_ble_eq_true rfl⟩) rfl rfl rfl (Nat.le_of_ble_eq_true rfl) ?_
  refine g_if_eq (tgt := 44) dX8_mayChangeOn_4 (by decide) (fun c3 => ?_) (fun c3 => ?_)
  · have hf := it_ hf c3
    refine g_lv [] rfl ?_
    exact wX8_mayChangeOn_b44 E z  m hf
  · have hf := ie_ hf c3
    refine g_iload_n (q := 1) dX8_mayChangeOn_7 rfl rfl ?_
    refine g_aload_n (q := 0) dX8_mayChangeOn_8 rfl rfl ?_
    refine g_get dX8_mayChangeOn_9 fX8_10 (obX8 E m) (gvX8_0 E m) ?_
    obtain ⟨r4, q5, hf⟩ := cbR_ hf
    refine g_cV (As := []) dX8_mayChangeOn_12 (tX2_latestDay E m q5) gyX2_latestDay giX2_latestDay gsX2_latestDay mX8_252 (⟨rfl, rfl, Nat.le_of_ble_eq_true rfl, Nat.le_of_ble_eq_true rfl, Nat.le_of_ble_eq_true rfl, Nat.le_of_ble_eq_true rfl⟩) rfl (obX2 E m) rfl rfl rfl (Nat.le_of_ble_eq_true rfl) ?_
    refine g_icmp_lt (tgt := 44) dX8_mayChangeOn_15 (by decide) (fun c6 => ?_) (fun c6 => ?_)
    · have hf := it_ hf c6
      refine g_lv [] rfl ?_
      exact wX8_mayChangeOn_b44 E z  m hf
    · have hf := ie_ hf c6
      refine g_iload_n (q := 1) dX8_mayChangeOn_18 rfl rfl ?_
      refine g_aload_n (q := 0) dX8_mayChangeOn_19 rfl rfl ?_
      refine g_get dX8_mayChangeOn_20 fX8_42 (obX8 E m) (gvX8_4 E m) ?_
      refine g_get dX8_mayChangeOn_23 fX8_255 (obX3 E m) (gvX3_9 E m) ?_
      refine g_icmp_le (tgt := 44) dX8_mayChangeOn_26 (by decide) (fun c7 => ?_) (fun c7 => ?_)
      · have hf := it_ hf c7
        refine g_lv [] rfl ?_
        exact wX8_mayChangeOn_b44 E z  m hf
      · have hf := ie_ hf c7
        refine g_iload_n (q := 1) dX8_mayChangeOn_29 rfl rfl ?_
        refine g_aload_n (q := 0) dX8_mayChangeOn_30 rfl rfl ?_
        refine g_get dX8_mayChangeOn_31 fX8_51 (obX8 E m) (gvX8_5 E m) ?_
        refine g_get dX8_mayChangeOn_34 fX8_257 (obX1 E m) (gvX1_6 E m) ?_
        refine g_icmp_le (tgt := 44) dX8_mayChangeOn_37 (by decide) (fun c8 => ?_) (fun c8 => ?_)
        · have hf := it_ hf c8
          refine g_lv [] rfl ?_
          exact wX8_mayChangeOn_b44 E z  m hf
        · have hf := ie_ hf c8
          refine g_iconst (v := 1) dX8_mayChangeOn_40 kI_1 ?_
          refine g_goto (tgt := 45) dX8_mayChangeOn_41 (by decide) ?_
          refine g_lv [] rfl ?_
          exact wX8_mayChangeOn_b45 E z  1 m hf
theorem tX8_mayChangeOn (E : pEv) (m : pMem) (a1 : Int32) {z : Int32} (hf : sX8_mayChangeOn a1 m = some z) : gCn E yX8_mayChangeOn kX8_mayChangeOn [.ref (eA E 0), .int a1] m (z, m) := gCn_of (by decide +kernel) rfl rfl rfl (Nat.le_of_ble_eq_true rfl) rfl (wX8_mayChangeOn_b0 E z a1 m  hf)
theorem wX2_isSomeNotAll_b34 (E : pEv) (z : Int32) (t0 : Int32) (m : pMem) (hf : sX2_isSomeNotAll_b34 t0 m = some z) : gM E kX2_isSomeNotAll (z, m) 34 [] [.int t0] m := by
  unfold sX2_isSomeNotAll_b34 at hf
  exact g_retz dX2_isSomeNotAll_34 rfl (by rw [Option.some.inj hf])
theorem wX2_isSomeNotAll_b33 (E : pEv) (z : Int32) (m : pMem) (hf : sX2_isSomeNotAll_b33  m = some z) : gM E kX2_isSomeNotAll (z, m) 33 [] [] m := by
  unfold sX2_isSomeNotAll_b33 at hf
  refine g_iconst (v := 0) dX2_isSomeNotAll_33 kI_0 ?_
  exact wX2_isSomeNotAll_b34 E z  0 m hf
theorem wX2_isSomeNotAll_b0 (E : pEv) (z : Int32) (a1 : Int32) (a2 : Int32) (m : pMem) (hf : sX2_isSomeNotAll a1 a2 m = some z) : gM E kX2_isSomeNotAll (z, m) 0 [(0, .ref (eA E 3)), (1, .int a1), (2, .int a2)] [] m := by
  unfold sX2_isSomeNotAll at hf
  refine g_aload_n (q := 0) dX2_isSomeNotAll_0 rfl rfl ?_
  refine g_get dX2_isSomeNotAll_1 fX2_60 (obX2 E m) (gvX2_15 E m) ?_
  refine g_aload_n (q := 0) dX2_isSomeNotAll_4 rfl rfl ?_
  refine g_get dX2_isSomeNotAll_5 fX2_55 (obX2 E m) (gvX2_14 E m) ?_
  obtain ⟨h1, hf⟩ := gd_ hf
  refine g_aald dX2_isSomeNotAll_8 h1 ?_
  refine g_iload_n (q := 2) dX2_isSomeNotAll_9 rfl rfl ?_
  obtain ⟨h2, hf⟩ := gd_ hf
  refine g_iald dX2_isSomeNotAll_10 (ar_row h1) h2 ?_
  refine nmI hf (fun x3 hf => ?_)
  refine g_istore_n dX2_isSomeNotAll_11 rfl (Nat.le_of_ble_eq_true rfl) rfl ?_
  refine g_iload_n (q := 2) dX2_isSomeNotAll_12 rfl rfl ?_
  refine g_if_eq (tgt := 33) dX2_isSomeNotAll_13 (by decide) (fun c4 => ?_) (fun c4 => ?_)
  · have hf := it_ hf c4
    refine g_lv [] rfl ?_
    exact wX2_isSomeNotAll_b33 E z  m hf
  · have hf := ie_ hf c4
    refine g_iload_n (q := 2) dX2_isSomeNotAll_16 rfl rfl ?_
    refine g_iload_n (q := 0) dX2_isSomeNotAll_17 rfl rfl ?_
    refine g_icmp_eq (tgt := 33) dX2_isSomeNotAll_18 (by decide) (fun c5 => ?_) (fun c5 => ?_)
    · have hf := it_ hf c5
      refine g_lv [] rfl ?_
      exact wX2_isSomeNotAll_b33 E z  m hf
    · have hf := ie_ hf c5
      refine g_iload_n (q := 2) dX2_isSomeNotAll_21 rfl rfl ?_
      refine g_iload_n (q := 0) dX2_isSomeNotAll_22 rfl rfl ?_
      refine g_iconst (v := (-1)) dX2_isSomeNotAll_23 kI_m1 ?_
      refine g_ixor dX2_isSomeNotAll_24 ?_
      refine g_iand dX2_isSomeNotAll_25 ?_
      refine g_if_ne (tgt := 33) dX2_isSomeNotAll_26 (by decide) (fun c6 => ?_) (fun c6 => ?_)
      · have hf := it_ hf c6
        refine g_lv [] rfl ?_
        exact wX2_isSomeNotAll_b33 E z  m hf
      · have hf := ie_ hf (not_not_intro c6)
        refine g_iconst (v := 1) dX2_isSomeNotAll_29 kI_1 ?_
        refine g_goto (tgt := 34) dX2_isSomeNotAll_30 (by decide) ?_
        refine g_lv [] rfl ?_
        exact wX2_isSomeNotAll_b34 E z  1 m hf
theorem tX2_isSomeNotAll (E : pEv) (m : pMem) (a1 : Int32) (a2 : Int32) {z : Int32} (hf : sX2_isSomeNotAll a1 a2 m = some z) : gCn E yX2_isSomeNotAll kX2_isSomeNotAll [.ref (eA E 3), .int a1, .int a2] m (z, m) := gCn_of (by decide +kernel) rfl rfl rfl (Nat.le_of_ble_eq_true rfl) rfl (wX2_isSomeNotAll_b0 E z a1 a2 m  hf)
theorem wX8_landsThatCome_b18 (E : pEv) (z : Int32) (t0 : Int32) (m : pMem) (hf : sX8_landsThatCome_b18 t0 m = some z) : gM E kX8_landsThatCome (z, m) 18 [] [.int t0] m := by
  unfold sX8_landsThatCome_b18 at hf
  exact g_ret dX8_landsThatCome_18 rfl rfl (by rw [Option.some.inj hf])
theorem wX8_landsThatCome_b0 (E : pEv) (z : Int32) (a1 : Int32) (m : pMem) (hf : sX8_landsThatCome a1 m = some z) : gM E kX8_landsThatCome (z, m) 0 [(0, .int a1)] [] m := by
  unfold sX8_landsThatCome at hf
  refine g_iload_n (q := 0) dX8_landsThatCome_0 rfl rfl ?_
  refine g_iconst (v := 1) dX8_landsThatCome_1 kI_1 ?_
  refine g_icmp_ne (tgt := 9) dX8_landsThatCome_2 (by decide) (fun c1 => ?_) (fun c1 => ?_)
  · have hf := it_ hf c1
    refine g_iload_n (q := 0) dX8_landsThatCome_9 rfl rfl ?_
    refine g_if_ne (tgt := 17) dX8_landsThatCome_10 (by decide) (fun c2 => ?_) (fun c2 => ?_)
    · have hf := it_ hf c2
      refine g_iconst (v := 0) dX8_landsThatCome_17 kI_0 ?_
      refine g_lv [] rfl ?_
      exact wX8_landsThatCome_b18 E z  0 m hf
    · have hf := ie_ hf (not_not_intro c2)
      refine g_iconst (v := 1) dX8_landsThatCome_13 kI_1 ?_
      refine g_goto (tgt := 18) dX8_landsThatCome_14 (by decide) ?_
      refine g_lv [] rfl ?_
      exact wX8_landsThatCome_b18 E z  1 m hf
  · have hf := ie_ hf (not_not_intro c1)
    refine g_iconst (v := 2) dX8_landsThatCome_5 kI_2 ?_
    refine g_goto (tgt := 18) dX8_landsThatCome_6 (by decide) ?_
    refine g_lv [] rfl ?_
    exact wX8_landsThatCome_b18 E z  2 m hf
theorem tX8_landsThatCome (E : pEv) (m : pMem) (a1 : Int32) {z : Int32} (hf : sX8_landsThatCome a1 m = some z) : gCn E yX8_landsThatCome kX8_landsThatCome [.int a1] m (z, m) := gCn_of (by decide +kernel) rfl rfl rfl (Nat.le_of_ble_eq_true rfl) rfl (wX8_landsThatCome_b0 E z a1 m  hf)
theorem wX0_mark_b0 (E : pEv) (z : Int32 × pMem) (a1 : Int32) (m : pMem) (hf : sX0_mark a1 m = some z) : gM E kX0_mark z 0 [(0, .ref (eA E 1)), (1, .int a1)] [] m := by
  unfold sX0_mark at hf
  refine g_aload_n (q := 0) dX0_mark_0 rfl rfl ?_
  refine g_get dX0_mark_1 fX0_9 (obX0 E m) (gvX0_0 E m) ?_
  refine g_iload_n (q := 1) dX0_mark_4 rfl rfl ?_
  refine g_bipush (v := 6) dX0_mark_5 kB_6 ?_
  refine g_ishr dX0_mark_7 ?_
  refine g_dup2 dX0_mark_8 rfl rfl ?_
  obtain ⟨h1, hf⟩ := gd_ hf
  refine g_lald dX0_mark_9 ar_10 h1 ?_
  refine g_lconst (v := 1) dX0_mark_10 kL_1 ?_
  refine g_iload_n (q := 1) dX0_mark_11 rfl rfl ?_
  refine g_bipush (v := 63) dX0_mark_12 kB_63 ?_
  refine g_iand dX0_mark_14 ?_
  refine g_lshl dX0_mark_15 ?_
  refine g_lor dX0_mark_16 ?_
  obtain ⟨h2, hf⟩ := gd_ hf
  refine g_last dX0_mark_17 ar_10 h2 ?_
  refine nmG hf (fun m3 hf => ?_)
  exact g_retv dX0_mark_18 rfl (by rw [← Option.some.inj hf])
theorem tX0_mark (E : pEv) (m : pMem) (a1 : Int32) {z : Int32 × pMem} (hf : sX0_mark a1 m = some z) : gCn E yX0_mark kX0_mark [.ref (eA E 1), .int a1] m z := gCn_of (by decide +kernel) rfl rfl rfl (Nat.le_of_ble_eq_true rfl) rfl (wX0_mark_b0 E z a1 m  hf)
theorem wX2_comesOutOf_b0 (E : pEv) (z : Int32 × pMem) (a1 : Int32) (m : pMem) (hf : sX2_comesOutOf a1 m = some z) : gM E kX2_comesOutOf z 0 [(0, .ref (eA E 3)), (1, .int a1)] [] m := by
  unfold sX2_comesOutOf at hf
  refine g_aload_n (q := 0) dX2_comesOutOf_0 rfl rfl ?_
  refine g_get dX2_comesOutOf_1 fX2_22 (obX2 E m) (gvX2_3 E m) ?_
  refine g_aload_n (q := 0) dX2_comesOutOf_4 rfl rfl ?_
  refine g_get dX2_comesOutOf_5 fX2_31 (obX2 E m) (gvX2_6 E m) ?_
  refine g_iload_n (q := 1) dX2_comesOutOf_8 rfl rfl ?_
  obtain ⟨h1, hf⟩ := gd_ hf
  refine g_iast dX2_comesOutOf_9 ar_21 h1 ?_
  refine nmG hf (fun m2 hf => ?_)
  refine g_aload_n (q := 0) dX2_comesOutOf_10 rfl rfl ?_
  refine g_get dX2_comesOutOf_11 fX2_25 (obX2 E m2) (gvX2_4 E m2) ?_
  refine g_aload_n (q := 0) dX2_comesOutOf_14 rfl rfl ?_
  refine g_get dX2_comesOutOf_15 fX2_31 (obX2 E m2) (gvX2_6 E m2) ?_
  refine g_aload_n (q := 0) dX2_comesOutOf_18 rfl rfl ?_
  obtain ⟨r3, q4, hf⟩ := cbR_ hf
  refine g_cV (As := []) dX2_comesOutOf_19 (tX2_latestDay E m2 q4) gyX2_latestDay giX2_latestDay gsX2_latestDay mX2_101 (⟨rfl, rfl, Nat.le_of_ble_eq_true rfl, Nat.le_of_ble_eq_true rfl, Nat.le_of_ble_eq_true rfl, Nat.le_of_ble_eq_true rfl⟩) rfl (obX2 E m2) rfl rfl rfl (Nat.le_of_ble_eq_true rfl) ?_
  obtain ⟨h5, hf⟩ := gd_ hf
  refine g_iast dX2_comesOutOf_22 ar_22 h5 ?_
  refine nmG hf (fun m6 hf => ?_)
  refine g_aload_n (q := 0) dX2_comesOutOf_23 rfl rfl ?_
  refine g_get dX2_comesOutOf_24 fX2_28 (obX2 E m6) (gvX2_5 E m6) ?_
  refine g_aload_n (q := 0) dX2_comesOutOf_27 rfl rfl ?_
  refine g_get dX2_comesOutOf_28 fX2_31 (obX2 E m6) (gvX2_6 E m6) ?_
  refine g_iconst (v := (-1)) dX2_comesOutOf_31 kI_m1 ?_
  obtain ⟨h7, hf⟩ := gd_ hf
  refine g_iast dX2_comesOutOf_32 ar_23 h7 ?_
  refine nmG hf (fun m8 hf => ?_)
  refine g_aload_n (q := 0) dX2_comesOutOf_33 rfl rfl ?_
  refine g_get dX2_comesOutOf_34 fX2_63 (obX2 E m8) (gvX2_16 E m8) ?_
  refine g_aload_n (q := 0) dX2_comesOutOf_37 rfl rfl ?_
  refine g_get dX2_comesOutOf_38 fX2_55 (obX2 E m8) (gvX2_14 E m8) ?_
  refine g_dup2 dX2_comesOutOf_41 rfl rfl ?_
  obtain ⟨h9, hf⟩ := gd_ hf
  refine g_iald dX2_comesOutOf_42 ar_43 h9 ?_
  refine g_iconst (v := 1) dX2_comesOutOf_43 kI_1 ?_
  refine g_aload_n (q := 0) dX2_comesOutOf_44 rfl rfl ?_
  refine g_get dX2_comesOutOf_45 fX2_31 (obX2 E m8) (gvX2_6 E m8) ?_
  refine g_ishl dX2_comesOutOf_48 ?_
  refine g_ior dX2_comesOutOf_49 ?_
  obtain ⟨h10, hf⟩ := gd_ hf
  refine g_iast dX2_comesOutOf_50 ar_43 h10 ?_
  refine nmG hf (fun m11 hf => ?_)
  refine g_aload_n (q := 0) dX2_comesOutOf_51 rfl rfl ?_
  refine g_dup dX2_comesOutOf_52 rfl ?_
  refine g_get dX2_comesOutOf_53 fX2_31 (obX2 E m11) (gvX2_6 E m11) ?_
  refine g_iconst (v := 1) dX2_comesOutOf_56 kI_1 ?_
  refine g_iadd dX2_comesOutOf_57 ?_
  refine g_put dX2_comesOutOf_58 fX2_31 fwX2_6 rfl rfl (obX2 E m11) (Nat.le_of_ble_eq_true rfl) (psX2_6 E m11 _) ?_
  refine nmG hf (fun m12 hf => ?_)
  exact g_retv dX2_comesOutOf_61 rfl (by rw [← Option.some.inj hf])
theorem tX2_comesOutOf (E : pEv) (m : pMem) (a1 : Int32) {z : Int32 × pMem} (hf : sX2_comesOutOf a1 m = some z) : gCn E yX2_comesOutOf kX2_comesOutOf [.ref (eA E 3), .int a1] m z := gCn_of (by decide +kernel) rfl rfl rfl (Nat.le_of_ble_eq_true rfl) rfl (wX2_comesOutOf_b0 E z a1 m  hf)
theorem wX2_moveGrounds_b0 (E : pEv) (z : Int32 × pMem) (a1 : Int32) (a2 : Int32) (a3 : Int32) (m : pMem) (hf : sX2_moveGrounds a1 a2 a3 m = some z) : gM E kX2_moveGrounds z 0 [(0, .ref (eA E 3)), (1, .int a1), (2, .int a2), (3, .int a3)] [] m := by
  unfold sX2_moveGrounds at hf
  refine g_aload_n (q := 0) dX2_moveGrounds_0 rfl rfl ?_
  refine g_get dX2_moveGrounds_1 fX2_60 (obX2 E m) (gvX2_15 E m) ?_
  refine g_aload_n (q := 0) dX2_moveGrounds_4 rfl rfl ?_
  refine g_get dX2_moveGrounds_5 fX2_55 (obX2 E m) (gvX2_14 E m) ?_
  obtain ⟨h1, hf⟩ := gd_ hf
  refine g_aald dX2_moveGrounds_8 h1 ?_
  refine g_astore dX2_moveGrounds_9 (Nat.le_of_ble_eq_true rfl) rfl ?_
  refine g_aload (q := 0) dX2_moveGrounds_11 rfl ?_
  refine g_iload_n (q := 2) dX2_moveGrounds_13 rfl rfl ?_
  refine g_dup2 dX2_moveGrounds_14 rfl rfl ?_
  obtain ⟨h2, hf⟩ := gd_ hf
  refine g_iald dX2_moveGrounds_15 (ar_row h1) h2 ?_
  refine g_iload_n (q := 4) dX2_moveGrounds_16 rfl rfl ?_
  refine g_iconst (v := (-1)) dX2_moveGrounds_17 kI_m1 ?_
  refine g_ixor dX2_moveGrounds_18 ?_
  refine g_iand dX2_moveGrounds_19 ?_
  obtain ⟨h3, hf⟩ := gd_ hf
  refine g_iast dX2_moveGrounds_20 (ar_row h1) h3 ?_
  refine nmG hf (fun m4 hf => ?_)
  refine g_aload (q := 0) dX2_moveGrounds_21 rfl ?_
  refine g_iload_n (q := 3) dX2_moveGrounds_23 rfl rfl ?_
  refine g_dup2 dX2_moveGrounds_24 rfl rfl ?_
  obtain ⟨h5, hf⟩ := gd_ hf
  refine g_iald dX2_moveGrounds_25 (ar_row h1) h5 ?_
  refine g_iload_n (q := 4) dX2_moveGrounds_26 rfl rfl ?_
  refine g_ior dX2_moveGrounds_27 ?_
  obtain ⟨h6, hf⟩ := gd_ hf
  refine g_iast dX2_moveGrounds_28 (ar_row h1) h6 ?_
  refine nmG hf (fun m7 hf => ?_)
  exact g_retv dX2_moveGrounds_29 rfl (by rw [← Option.some.inj hf])
theorem tX2_moveGrounds (E : pEv) (m : pMem) (a1 : Int32) (a2 : Int32) (a3 : Int32) {z : Int32 × pMem} (hf : sX2_moveGrounds a1 a2 a3 m = some z) : gCn E yX2_moveGrounds kX2_moveGrounds [.ref (eA E 3), .int a1, .int a2, .int a3] m z := gCn_of (by decide +kernel) rfl rfl rfl (Nat.le_of_ble_eq_true rfl) rfl (wX2_moveGrounds_b0 E z a1 a2 a3 m  hf)
theorem wX2_partOff_b0 (E : pEv) (z : Int32 × pMem) (a1 : Int32) (a2 : Int32) (m : pMem) (hf : sX2_partOff a1 a2 m = some z) : gM E kX2_partOff z 0 [(0, .ref (eA E 3)), (1, .int a1), (2, .int a2)] [] m := by
  unfold sX2_partOff at hf
  refine g_aload_n (q := 0) dX2_partOff_0 rfl rfl ?_
  refine g_get dX2_partOff_1 fX2_31 (obX2 E m) (gvX2_6 E m) ?_
  refine nmI hf (fun x1 hf => ?_)
  refine g_istore_n dX2_partOff_4 rfl (Nat.le_of_ble_eq_true rfl) rfl ?_
  refine g_aload_n (q := 1) dX2_partOff_5 rfl rfl ?_
  refine g_iload_n (q := 2) dX2_partOff_6 rfl rfl ?_
  obtain ⟨r2, m4, q3, hf⟩ := cbE_ hf
  refine g_cVv (As := [.int a1]) dX2_partOff_7 (tX2_comesOutOf E m a1 q3) gyX2_comesOutOf giX2_comesOutOf gsX2_comesOutOf mX2_94 (⟨rfl, rfl, Nat.le_of_ble_eq_true rfl, Nat.le_of_ble_eq_true rfl, Nat.le_of_ble_eq_true rfl, Nat.le_of_ble_eq_true rfl⟩) rfl (obX2 E m) rfl rfl rfl (Nat.le_of_ble_eq_true rfl) ?_
  refine g_aload_n (q := 1) dX2_partOff_10 rfl rfl ?_
  refine g_iload_n (q := 2) dX2_partOff_11 rfl rfl ?_
  refine g_iload_n (q := 0) dX2_partOff_12 rfl rfl ?_
  refine g_iload_n (q := 3) dX2_partOff_13 rfl rfl ?_
  obtain ⟨r5, m7, q6, hf⟩ := cbE_ hf
  refine g_cVv (As := [.int a1, .int x1, .int a2]) dX2_partOff_14 (tX2_moveGrounds E m4 a1 x1 a2 q6) gyX2_moveGrounds giX2_moveGrounds gsX2_moveGrounds mX2_90 (⟨rfl, rfl, Nat.le_of_ble_eq_true rfl, Nat.le_of_ble_eq_true rfl, Nat.le_of_ble_eq_true rfl, Nat.le_of_ble_eq_true rfl⟩) rfl (obX2 E m4) rfl rfl rfl (Nat.le_of_ble_eq_true rfl) ?_
  exact g_retv dX2_partOff_17 rfl (by rw [← Option.some.inj hf])
theorem tX2_partOff (E : pEv) (m : pMem) (a1 : Int32) (a2 : Int32) {z : Int32 × pMem} (hf : sX2_partOff a1 a2 m = some z) : gCn E yX2_partOff kX2_partOff [.ref (eA E 3), .int a1, .int a2] m z := gCn_of (by decide +kernel) rfl rfl rfl (Nat.le_of_ble_eq_true rfl) rfl (wX2_partOff_b0 E z a1 a2 m  hf)
theorem wX2_ends_b0 (E : pEv) (z : Int32 × pMem) (a1 : Int32) (m : pMem) (hf : sX2_ends a1 m = some z) : gM E kX2_ends z 0 [(0, .ref (eA E 3)), (1, .int a1)] [] m := by
  unfold sX2_ends at hf
  refine g_aload_n (q := 0) dX2_ends_0 rfl rfl ?_
  refine g_get dX2_ends_1 fX2_63 (obX2 E m) (gvX2_16 E m) ?_
  refine g_aload_n (q := 0) dX2_ends_4 rfl rfl ?_
  refine g_get dX2_ends_5 fX2_55 (obX2 E m) (gvX2_14 E m) ?_
  refine g_dup2 dX2_ends_8 rfl rfl ?_
  obtain ⟨h1, hf⟩ := gd_ hf
  refine g_iald dX2_ends_9 ar_43 h1 ?_
  refine g_iconst (v := 1) dX2_ends_10 kI_1 ?_
  refine g_iload_n (q := 1) dX2_ends_11 rfl rfl ?_
  refine g_ishl dX2_ends_12 ?_
  refine g_iconst (v := (-1)) dX2_ends_13 kI_m1 ?_
  refine g_ixor dX2_ends_14 ?_
  refine g_iand dX2_ends_15 ?_
  obtain ⟨h2, hf⟩ := gd_ hf
  refine g_iast dX2_ends_16 ar_43 h2 ?_
  refine nmG hf (fun m3 hf => ?_)
  refine g_aload_n (q := 0) dX2_ends_17 rfl rfl ?_
  refine g_get dX2_ends_18 fX2_28 (obX2 E m3) (gvX2_5 E m3) ?_
  refine g_iload_n (q := 1) dX2_ends_21 rfl rfl ?_
  refine g_aload_n (q := 0) dX2_ends_22 rfl rfl ?_
  refine g_get dX2_ends_23 fX2_55 (obX2 E m3) (gvX2_14 E m3) ?_
  refine g_iconst (v := 1) dX2_ends_26 kI_1 ?_
  refine g_isub dX2_ends_27 ?_
  obtain ⟨h4, hf⟩ := gd_ hf
  refine g_iast dX2_ends_28 ar_23 h4 ?_
  refine nmG hf (fun m5 hf => ?_)
  exact g_retv dX2_ends_29 rfl (by rw [← Option.some.inj hf])
theorem tX2_ends (E : pEv) (m : pMem) (a1 : Int32) {z : Int32 × pMem} (hf : sX2_ends a1 m = some z) : gCn E yX2_ends kX2_ends [.ref (eA E 3), .int a1] m z := gCn_of (by decide +kernel) rfl rfl rfl (Nat.le_of_ble_eq_true rfl) rfl (wX2_ends_b0 E z a1 m  hf)
theorem wX2_fallApart_b0 (E : pEv) (z : Int32 × pMem) (a1 : Int32) (a2 : Int32) (m : pMem) (hf : sX2_fallApart a1 a2 m = some z) : gM E kX2_fallApart z 0 [(0, .ref (eA E 3)), (1, .int a1), (2, .int a2)] [] m := by
  unfold sX2_fallApart at hf
  refine g_aload_n (q := 0) dX2_fallApart_0 rfl rfl ?_
  refine g_iload_n (q := 1) dX2_fallApart_1 rfl rfl ?_
  refine g_iload_n (q := 2) dX2_fallApart_2 rfl rfl ?_
  obtain ⟨r1, m3, q2, hf⟩ := cbE_ hf
  refine g_cVv (As := [.int a1, .int a2]) dX2_fallApart_3 (tX2_partOff E m a1 a2 q2) gyX2_partOff giX2_partOff gsX2_partOff mX2_80 (⟨rfl, rfl, Nat.le_of_ble_eq_true rfl, Nat.le_of_ble_eq_true rfl, Nat.le_of_ble_eq_true rfl, Nat.le_of_ble_eq_true rfl⟩) rfl (obX2 E m) rfl rfl rfl (Nat.le_of_ble_eq_true rfl) ?_
  refine g_aload_n (q := 0) dX2_fallApart_6 rfl rfl ?_
  refine g_iload_n (q := 1) dX2_fallApart_7 rfl rfl ?_
  refine g_aload_n (q := 0) dX2_fallApart_8 rfl rfl ?_
  refine g_get dX2_fallApart_9 fX2_60 (obX2 E m3) (gvX2_15 E m3) ?_
  refine g_aload_n (q := 0) dX2_fallApart_12 rfl rfl ?_
  refine g_get dX2_fallApart_13 fX2_55 (obX2 E m3) (gvX2_14 E m3) ?_
  obtain ⟨h4, hf⟩ := gd_ hf
  refine g_aald dX2_fallApart_16 h4 ?_
  refine g_iload_n (q := 1) dX2_fallApart_17 rfl rfl ?_
  obtain ⟨h5, hf⟩ := gd_ hf
  refine g_iald dX2_fallApart_18 (ar_row h4) h5 ?_
  obtain ⟨r6, m8, q7, hf⟩ := cbE_ hf
  refine g_cVv (As := [.int a1, .int (m3.1 (30 + (m3.1 3 12).toNatClampNeg) a1.toNatClampNeg)]) dX2_fallApart_19 (tX2_partOff E m3 a1 (m3.1 (30 + (m3.1 3 12).toNatClampNeg) a1.toNatClampNeg) q7) gyX2_partOff giX2_partOff gsX2_partOff mX2_80 (⟨rfl, rfl, Nat.le_of_ble_eq_true rfl, Nat.le_of_ble_eq_true rfl, Nat.le_of_ble_eq_true rfl, Nat.le_of_ble_eq_true rfl⟩) rfl (obX2 E m3) rfl rfl rfl (Nat.le_of_ble_eq_true rfl) ?_
  refine g_aload_n (q := 0) dX2_fallApart_22 rfl rfl ?_
  refine g_iload_n (q := 1) dX2_fallApart_23 rfl rfl ?_
  obtain ⟨r9, m11, q10, hf⟩ := cbE_ hf
  refine g_cVv (As := [.int a1]) dX2_fallApart_24 (tX2_ends E m8 a1 q10) gyX2_ends giX2_ends gsX2_ends mX2_98 (⟨rfl, rfl, Nat.le_of_ble_eq_true rfl, Nat.le_of_ble_eq_true rfl, Nat.le_of_ble_eq_true rfl, Nat.le_of_ble_eq_true rfl⟩) rfl (obX2 E m8) rfl rfl rfl (Nat.le_of_ble_eq_true rfl) ?_
  exact g_retv dX2_fallApart_27 rfl (by rw [← Option.some.inj hf])
theorem tX2_fallApart (E : pEv) (m : pMem) (a1 : Int32) (a2 : Int32) {z : Int32 × pMem} (hf : sX2_fallApart a1 a2 m = some z) : gCn E yX2_fallApart kX2_fallApart [.ref (eA E 3), .int a1, .int a2] m z := gCn_of (by decide +kernel) rfl rfl rfl (Nat.le_of_ble_eq_true rfl) rfl (wX2_fallApart_b0 E z a1 a2 m  hf)
theorem wX2_join_b0 (E : pEv) (z : Int32 × pMem) (a1 : Int32) (a2 : Int32) (m : pMem) (hf : sX2_join a1 a2 m = some z) : gM E kX2_join z 0 [(0, .ref (eA E 3)), (1, .int a1), (2, .int a2)] [] m := by
  unfold sX2_join at hf
  refine g_aload_n (q := 0) dX2_join_0 rfl rfl ?_
  refine g_iload_n (q := 2) dX2_join_1 rfl rfl ?_
  refine g_iload_n (q := 1) dX2_join_2 rfl rfl ?_
  refine g_aload_n (q := 0) dX2_join_3 rfl rfl ?_
  refine g_get dX2_join_4 fX2_60 (obX2 E m) (gvX2_15 E m) ?_
  refine g_aload_n (q := 0) dX2_join_7 rfl rfl ?_
  refine g_get dX2_join_8 fX2_55 (obX2 E m) (gvX2_14 E m) ?_
  obtain ⟨h1, hf⟩ := gd_ hf
  refine g_aald dX2_join_11 h1 ?_
  refine g_iload_n (q := 2) dX2_join_12 rfl rfl ?_
  obtain ⟨h2, hf⟩ := gd_ hf
  refine g_iald dX2_join_13 (ar_row h1) h2 ?_
  obtain ⟨r3, m5, q4, hf⟩ := cbE_ hf
  refine g_cVv (As := [.int a2, .int a1, .int (m.1 (30 + (m.1 3 12).toNatClampNeg) a2.toNatClampNeg)]) dX2_join_14 (tX2_moveGrounds E m a2 a1 (m.1 (30 + (m.1 3 12).toNatClampNeg) a2.toNatClampNeg) q4) gyX2_moveGrounds giX2_moveGrounds gsX2_moveGrounds mX2_90 (⟨rfl, rfl, Nat.le_of_ble_eq_true rfl, Nat.le_of_ble_eq_true rfl, Nat.le_of_ble_eq_true rfl, Nat.le_of_ble_eq_true rfl⟩) rfl (obX2 E m) rfl rfl rfl (Nat.le_of_ble_eq_true rfl) ?_
  refine g_aload_n (q := 0) dX2_join_17 rfl rfl ?_
  refine g_iload_n (q := 2) dX2_join_18 rfl rfl ?_
  obtain ⟨r6, m8, q7, hf⟩ := cbE_ hf
  refine g_cVv (As := [.int a2]) dX2_join_19 (tX2_ends E m5 a2 q7) gyX2_ends giX2_ends gsX2_ends mX2_98 (⟨rfl, rfl, Nat.le_of_ble_eq_true rfl, Nat.le_of_ble_eq_true rfl, Nat.le_of_ble_eq_true rfl, Nat.le_of_ble_eq_true rfl⟩) rfl (obX2 E m5) rfl rfl rfl (Nat.le_of_ble_eq_true rfl) ?_
  exact g_retv dX2_join_22 rfl (by rw [← Option.some.inj hf])
theorem tX2_join (E : pEv) (m : pMem) (a1 : Int32) (a2 : Int32) {z : Int32 × pMem} (hf : sX2_join a1 a2 m = some z) : gCn E yX2_join kX2_join [.ref (eA E 3), .int a1, .int a2] m z := gCn_of (by decide +kernel) rfl rfl rfl (Nat.le_of_ble_eq_true rfl) rfl (wX2_join_b0 E z a1 a2 m  hf)
theorem wX2_addChange_b197 (E : pEv) (z : Int32 × pMem) (t0 : Int32) (m : pMem) (hf : sX2_addChange_b197 t0 m = some z) : gM E kX2_addChange z 197 [] [.int t0] m := by
  unfold sX2_addChange_b197 at hf
  exact g_ret dX2_addChange_197 rfl rfl (Option.some.inj hf).symm
theorem wX2_addChange_b191 (E : pEv) (z : Int32 × pMem) (l7 : Int32) (m : pMem) (hf : sX2_addChange_b191 l7 m = some z) : gM E kX2_addChange z 191 [(7, .int l7)] [] m := by
  unfold sX2_addChange_b191 at hf
  refine g_iload (q := 0) dX2_addChange_191 rfl ?_
  refine g_goto (tgt := 197) dX2_addChange_193 (by decide) ?_
  refine g_lv [] rfl ?_
  exact wX2_addChange_b197 E z  l7 m hf
theorem wX2_addChange_b182 (E : pEv) (z : Int32 × pMem) (l1 : Int32) (l3 : Int32) (l7 : Int32) (m : pMem) (hf : sX2_addChange_b182 l1 l3 l7 m = some z) : gM E kX2_addChange z 182 [(1, .int l1), (3, .int l3), (7, .int l7)] [] m := by
  unfold sX2_addChange_b182 at hf
  refine g_iload_n (q := 0) dX2_addChange_182 rfl rfl ?_
  refine g_if_eq (tgt := 191) dX2_addChange_183 (by decide) (fun c43 => ?_) (fun c43 => ?_)
  · have hf := it_ hf c43
    refine g_lv [2] rfl ?_
    exact wX2_addChange_b191 E z  l7 m hf
  · have hf := ie_ hf c43
    refine g_iload_n (q := 0) dX2_addChange_186 rfl rfl ?_
    refine g_iconst (v := 1) dX2_addChange_187 kI_1 ?_
    refine g_icmp_ne (tgt := 196) dX2_addChange_188 (by decide) (fun c44 => ?_) (fun c44 => ?_)
    · have hf := it_ hf c44
      refine g_iload_n (q := 1) dX2_addChange_196 rfl rfl ?_
      refine g_lv [] rfl ?_
      exact wX2_addChange_b197 E z  l3 m hf
    · have hf := ie_ hf (not_not_intro c44)
      refine g_lv [2] rfl ?_
      exact wX2_addChange_b191 E z  l7 m hf
theorem wX2_addChange_b168 (E : pEv) (z : Int32 × pMem) (l1 : Int32) (l3 : Int32) (l4 : Int32) (l5 : Int32) (l7 : Int32) (m : pMem) (hf : sX2_addChange_b168 l1 l3 l4 l5 l7 m = some z) : gM E kX2_addChange z 168 [(0, .ref (eA E 3)), (1, .int l1), (3, .int l3), (4, .int l4), (5, .int l5), (7, .int l7)] [] m := by
  unfold sX2_addChange_b168 at hf
  refine g_iload_n (q := 1) dX2_addChange_168 rfl rfl ?_
  refine g_iconst (v := 3) dX2_addChange_169 kI_3 ?_
  refine g_icmp_ne (tgt := 182) dX2_addChange_170 (by decide) (fun c39 => ?_) (fun c39 => ?_)
  · have hf := it_ hf c39
    refine g_lv [1, 2, 5] rfl ?_
    exact wX2_addChange_b182 E z  l1 l3 l7 m hf
  · have hf := ie_ hf (not_not_intro c39)
    refine g_aload_n (q := 0) dX2_addChange_173 rfl rfl ?_
    refine g_iload_n (q := 2) dX2_addChange_174 rfl rfl ?_
    refine g_iload (q := 3) dX2_addChange_175 rfl ?_
    refine g_iload (q := 4) dX2_addChange_177 rfl ?_
    obtain ⟨r40, m42, q41, hf⟩ := cbE_ hf
    refine g_cVv (As := [.int l3, .int l4, .int l5]) dX2_addChange_179 (tX2_moveGrounds E m l3 l4 l5 q41) gyX2_moveGrounds giX2_moveGrounds gsX2_moveGrounds mX2_90 (⟨rfl, rfl, Nat.le_of_ble_eq_true rfl, Nat.le_of_ble_eq_true rfl, Nat.le_of_ble_eq_true rfl, Nat.le_of_ble_eq_true rfl⟩) rfl (obX2 E m) rfl rfl rfl (Nat.le_of_ble_eq_true rfl) ?_
    refine g_lv [1, 2, 5] rfl ?_
    exact wX2_addChange_b182 E z  l1 l3 l7 m42 hf
theorem wX2_addChange_b156 (E : pEv) (z : Int32 × pMem) (l1 : Int32) (l3 : Int32) (l4 : Int32) (l5 : Int32) (l7 : Int32) (m : pMem) (hf : sX2_addChange_b156 l1 l3 l4 l5 l7 m = some z) : gM E kX2_addChange z 156 [(0, .ref (eA E 3)), (1, .int l1), (3, .int l3), (4, .int l4), (5, .int l5), (7, .int l7)] [] m := by
  unfold sX2_addChange_b156 at hf
  refine g_iload_n (q := 1) dX2_addChange_156 rfl rfl ?_
  refine g_iconst (v := 2) dX2_addChange_157 kI_2 ?_
  refine g_icmp_ne (tgt := 168) dX2_addChange_158 (by decide) (fun c35 => ?_) (fun c35 => ?_)
  · have hf := it_ hf c35
    exact wX2_addChange_b168 E z  l1 l3 l4 l5 l7 m hf
  · have hf := ie_ hf (not_not_intro c35)
    refine g_aload_n (q := 0) dX2_addChange_161 rfl rfl ?_
    refine g_iload_n (q := 2) dX2_addChange_162 rfl rfl ?_
    refine g_iload (q := 3) dX2_addChange_163 rfl ?_
    obtain ⟨r36, m38, q37, hf⟩ := cbE_ hf
    refine g_cVv (As := [.int l3, .int l4]) dX2_addChange_165 (tX2_join E m l3 l4 q37) gyX2_join giX2_join gsX2_join mX2_87 (⟨rfl, rfl, Nat.le_of_ble_eq_true rfl, Nat.le_of_ble_eq_true rfl, Nat.le_of_ble_eq_true rfl, Nat.le_of_ble_eq_true rfl⟩) rfl (obX2 E m) rfl rfl rfl (Nat.le_of_ble_eq_true rfl) ?_
    exact wX2_addChange_b168 E z  l1 l3 l4 l5 l7 m38 hf
theorem wX2_addChange_b144 (E : pEv) (z : Int32 × pMem) (l1 : Int32) (l3 : Int32) (l4 : Int32) (l5 : Int32) (l7 : Int32) (m : pMem) (hf : sX2_addChange_b144 l1 l3 l4 l5 l7 m = some z) : gM E kX2_addChange z 144 [(0, .ref (eA E 3)), (1, .int l1), (3, .int l3), (4, .int l4), (5, .int l5), (7, .int l7)] [] m := by
  unfold sX2_addChange_b144 at hf
  refine g_iload_n (q := 1) dX2_addChange_144 rfl rfl ?_
  refine g_iconst (v := 1) dX2_addChange_145 kI_1 ?_
  refine g_icmp_ne (tgt := 156) dX2_addChange_146 (by decide) (fun c31 => ?_) (fun c31 => ?_)
  · have hf := it_ hf c31
    exact wX2_addChange_b156 E z  l1 l3 l4 l5 l7 m hf
  · have hf := ie_ hf (not_not_intro c31)
    refine g_aload_n (q := 0) dX2_addChange_149 rfl rfl ?_
    refine g_iload_n (q := 2) dX2_addChange_150 rfl rfl ?_
    refine g_iload (q := 4) dX2_addChange_151 rfl ?_
    obtain ⟨r32, m34, q33, hf⟩ := cbE_ hf
    refine g_cVv (As := [.int l3, .int l5]) dX2_addChange_153 (tX2_fallApart E m l3 l5 q33) gyX2_fallApart giX2_fallApart gsX2_fallApart mX2_84 (⟨rfl, rfl, Nat.le_of_ble_eq_true rfl, Nat.le_of_ble_eq_true rfl, Nat.le_of_ble_eq_true rfl, Nat.le_of_ble_eq_true rfl⟩) rfl (obX2 E m) rfl rfl rfl (Nat.le_of_ble_eq_true rfl) ?_
    exact wX2_addChange_b156 E z  l1 l3 l4 l5 l7 m34 hf
theorem wX2_addChange_b0 (E : pEv) (z : Int32 × pMem) (a1 : Int32) (a2 : Int32) (a3 : Int32) (a4 : Int32) (a5 : Int32) (m : pMem) (hf : sX2_addChange a1 a2 a3 a4 a5 m = some z) : gM E kX2_addChange z 0 [(0, .ref (eA E 3)), (1, .int a1), (2, .int a2), (3, .int a3), (4, .int a4), (5, .int a5)] [] m := by
  unfold sX2_addChange at hf
  refine g_aload_n (q := 0) dX2_addChange_0 rfl rfl ?_
  refine g_get dX2_addChange_1 fX2_55 (obX2 E m) (gvX2_14 E m) ?_
  refine nmI hf (fun x1 hf => ?_)
  refine g_istore dX2_addChange_4 (Nat.le_of_ble_eq_true rfl) rfl ?_
  refine g_aload_n (q := 1) dX2_addChange_6 rfl rfl ?_
  refine g_get dX2_addChange_7 fX2_31 (obX2 E m) (gvX2_6 E m) ?_
  refine nmI hf (fun x2 hf => ?_)
  refine g_istore dX2_addChange_10 (Nat.le_of_ble_eq_true rfl) rfl ?_
  refine g_aload_n (q := 2) dX2_addChange_12 rfl rfl ?_
  refine g_get dX2_addChange_13 fX2_34 (obX2 E m) (gvX2_7 E m) ?_
  refine g_iload (q := 1) dX2_addChange_16 rfl ?_
  refine g_iload_n (q := 3) dX2_addChange_18 rfl rfl ?_
  obtain ⟨h3, hf⟩ := gd_ hf
  refine g_iast dX2_addChange_19 ar_24 h3 ?_
  refine nmG hf (fun m4 hf => ?_)
  refine g_aload_n (q := 2) dX2_addChange_20 rfl rfl ?_
  refine g_get dX2_addChange_21 fX2_37 (obX2 E m4) (gvX2_8 E m4) ?_
  refine g_iload (q := 1) dX2_addChange_24 rfl ?_
  refine g_iload_n (q := 4) dX2_addChange_26 rfl rfl ?_
  obtain ⟨h5, hf⟩ := gd_ hf
  refine g_iast dX2_addChange_27 ar_25 h5 ?_
  refine nmG hf (fun m6 hf => ?_)
  refine g_aload_n (q := 2) dX2_addChange_28 rfl rfl ?_
  refine g_get dX2_addChange_29 fX2_40 (obX2 E m6) (gvX2_9 E m6) ?_
  refine g_iload (q := 1) dX2_addChange_32 rfl ?_
  refine g_iload_n (q := 5) dX2_addChange_34 rfl rfl ?_
  obtain ⟨h7, hf⟩ := gd_ hf
  refine g_iast dX2_addChange_35 ar_26 h7 ?_
  refine nmG hf (fun m8 hf => ?_)
  refine g_aload_n (q := 2) dX2_addChange_36 rfl rfl ?_
  refine g_get dX2_addChange_37 fX2_43 (obX2 E m8) (gvX2_10 E m8) ?_
  refine g_iload (q := 1) dX2_addChange_40 rfl ?_
  refine g_iload (q := 6) dX2_addChange_42 rfl ?_
  obtain ⟨h9, hf⟩ := gd_ hf
  refine g_iast dX2_addChange_44 ar_27 h9 ?_
  refine nmG hf (fun m10 hf => ?_)
  refine g_aload_n (q := 2) dX2_addChange_45 rfl rfl ?_
  refine g_get dX2_addChange_46 fX2_46 (obX2 E m10) (gvX2_11 E m10) ?_
  refine g_iload (q := 1) dX2_addChange_49 rfl ?_
  refine g_iload (q := 0) dX2_addChange_51 rfl ?_
  obtain ⟨h11, hf⟩ := gd_ hf
  refine g_iast dX2_addChange_53 ar_28 h11 ?_
  refine nmG hf (fun m12 hf => ?_)
  refine g_aload_n (q := 2) dX2_addChange_54 rfl rfl ?_
  refine g_get dX2_addChange_55 fX2_49 (obX2 E m12) (gvX2_12 E m12) ?_
  refine g_iload (q := 1) dX2_addChange_58 rfl ?_
  refine g_iload (q := 7) dX2_addChange_60 rfl ?_
  obtain ⟨h13, hf⟩ := gd_ hf
  refine g_iast dX2_addChange_62 ar_106 h13 ?_
  refine nmG hf (fun m14 hf => ?_)
  refine g_aload_n (q := 2) dX2_addChange_63 rfl rfl ?_
  refine g_get dX2_addChange_64 fX2_52 (obX2 E m14) (gvX2_13 E m14) ?_
  refine g_iload (q := 1) dX2_addChange_67 rfl ?_
  refine g_aload_n (q := 2) dX2_addChange_69 rfl rfl ?_
  refine g_get dX2_addChange_70 fX2_60 (obX2 E m14) (gvX2_15 E m14) ?_
  refine g_iload (q := 1) dX2_addChange_73 rfl ?_
  obtain ⟨h15, hf⟩ := gd_ hf
  refine g_aald dX2_addChange_75 h15 ?_
  refine g_iload_n (q := 5) dX2_addChange_76 rfl rfl ?_
  obtain ⟨h16, hf⟩ := gd_ hf
  refine g_iald dX2_addChange_77 (ar_row h15) h16 ?_
  refine g_iload (q := 7) dX2_addChange_78 rfl ?_
  refine g_iconst (v := (-1)) dX2_addChange_80 kI_m1 ?_
  refine g_ixor dX2_addChange_81 ?_
  refine g_iand dX2_addChange_82 ?_
  obtain ⟨h17, hf⟩ := gd_ hf
  refine g_iast dX2_addChange_83 ar_107 h17 ?_
  refine nmG hf (fun m18 hf => ?_)
  refine g_aload_n (q := 2) dX2_addChange_84 rfl rfl ?_
  refine g_get dX2_addChange_85 fX2_60 (obX2 E m18) (gvX2_15 E m18) ?_
  refine g_iload (q := 1) dX2_addChange_88 rfl ?_
  obtain ⟨h19, hf⟩ := gd_ hf
  refine g_aald dX2_addChange_90 h19 ?_
  refine g_iconst (v := 0) dX2_addChange_91 kI_0 ?_
  refine g_aload_n (q := 2) dX2_addChange_92 rfl rfl ?_
  refine g_get dX2_addChange_93 fX2_60 (obX2 E m18) (gvX2_15 E m18) ?_
  refine g_iload (q := 1) dX2_addChange_96 rfl ?_
  refine g_iconst (v := 1) dX2_addChange_98 kI_1 ?_
  refine g_iadd dX2_addChange_99 ?_
  obtain ⟨h20, hf⟩ := gd_ hf
  refine g_aald dX2_addChange_100 h20 ?_
  refine g_iconst (v := 0) dX2_addChange_101 kI_0 ?_
  refine g_bipush (v := 10) dX2_addChange_102 kB_10 ?_
  obtain ⟨h22, hf⟩ := gd_ hf
  refine g_copy dX2_addChange_104 mX2_74 ac_1 ac_2 ac_3 (ar_row h19) (ar_row h20) (by decide) (by decide) (by decide) (gcp h22).1 (gcp h22).2 ⟨Nat.le_of_ble_eq_true rfl, Nat.le_of_ble_eq_true rfl⟩ ?_
  refine nmG hf (fun m21 hf => ?_)
  refine g_aload_n (q := 2) dX2_addChange_107 rfl rfl ?_
  refine g_get dX2_addChange_108 fX2_63 (obX2 E m21) (gvX2_16 E m21) ?_
  refine g_iload (q := 1) dX2_addChange_111 rfl ?_
  refine g_iconst (v := 1) dX2_addChange_113 kI_1 ?_
  refine g_iadd dX2_addChange_114 ?_
  refine g_aload_n (q := 2) dX2_addChange_115 rfl rfl ?_
  refine g_get dX2_addChange_116 fX2_63 (obX2 E m21) (gvX2_16 E m21) ?_
  refine g_iload (q := 1) dX2_addChange_119 rfl ?_
  obtain ⟨h23, hf⟩ := gd_ hf
  refine g_iald dX2_addChange_121 ar_43 h23 ?_
  obtain ⟨h24, hf⟩ := gd_ hf
  refine g_iast dX2_addChange_122 ar_43 h24 ?_
  refine nmG hf (fun m25 hf => ?_)
  refine g_aload_n (q := 2) dX2_addChange_123 rfl rfl ?_
  refine g_dup dX2_addChange_124 rfl ?_
  refine g_get dX2_addChange_125 fX2_55 (obX2 E m25) (gvX2_14 E m25) ?_
  refine g_iconst (v := 1) dX2_addChange_128 kI_1 ?_
  refine g_iadd dX2_addChange_129 ?_
  refine g_put dX2_addChange_130 fX2_55 fwX2_14 rfl rfl (obX2 E m25) (Nat.le_of_ble_eq_true rfl) (psX2_14 E m25 _) ?_
  refine nmG hf (fun m26 hf => ?_)
  refine g_iload_n (q := 3) dX2_addChange_133 rfl rfl ?_
  refine g_if_ne (tgt := 144) dX2_addChange_134 (by decide) (fun c27 => ?_) (fun c27 => ?_)
  · have hf := it_ hf c27
    refine g_lv [2, 3, 5, 6, 7, 0] rfl ?_
    exact wX2_addChange_b144 E z  a1 a3 a4 a5 x2 m26 hf
  · have hf := ie_ hf (not_not_intro c27)
    refine g_aload_n (q := 2) dX2_addChange_137 rfl rfl ?_
    refine g_iload_n (q := 5) dX2_addChange_138 rfl rfl ?_
    refine g_iload (q := 7) dX2_addChange_139 rfl ?_
    obtain ⟨r28, m30, q29, hf⟩ := cbE_ hf
    refine g_cVv (As := [.int a3, .int a5]) dX2_addChange_141 (tX2_partOff E m26 a3 a5 q29) gyX2_partOff giX2_partOff gsX2_partOff mX2_80 (⟨rfl, rfl, Nat.le_of_ble_eq_true rfl, Nat.le_of_ble_eq_true rfl, Nat.le_of_ble_eq_true rfl, Nat.le_of_ble_eq_true rfl⟩) rfl (obX2 E m26) rfl rfl rfl (Nat.le_of_ble_eq_true rfl) ?_
    refine g_lv [2, 3, 5, 6, 7, 0] rfl ?_
    exact wX2_addChange_b144 E z  a1 a3 a4 a5 x2 m30 hf
theorem tX2_addChange (E : pEv) (m : pMem) (a1 : Int32) (a2 : Int32) (a3 : Int32) (a4 : Int32) (a5 : Int32) {z : Int32 × pMem} (hf : sX2_addChange a1 a2 a3 a4 a5 m = some z) : gCn E yX2_addChange kX2_addChange [.ref (eA E 3), .int a1, .int a2, .int a3, .int a4, .int a5] m z := gCn_of (by decide +kernel) rfl rfl rfl (Nat.le_of_ble_eq_true rfl) rfl (wX2_addChange_b0 E z a1 a2 a3 a4 a5 m  hf)
theorem wX8_change_b17 (E : pEv) (z : Int32 × pMem) (m : pMem) (hf : sX8_change_b17  m = some z) : gM E kX8_change z 17 [] [] m := by
  unfold sX8_change_b17 at hf
  refine g_bipush (v := (-3)) dX8_change_17 kB_m3 ?_
  exact g_ret dX8_change_19 rfl rfl (Option.some.inj hf).symm
theorem wX8_change_b170 (E : pEv) (z : Int32 × pMem) (m : pMem) (hf : sX8_change_b170  m = some z) : gM E kX8_change z 170 [] [] m := by
  unfold sX8_change_b170 at hf
  refine g_bipush (v := (-5)) dX8_change_170 kB_m5 ?_
  exact g_ret dX8_change_172 rfl rfl (Option.some.inj hf).symm
theorem wX8_change_b146 (E : pEv) (z : Int32 × pMem) (l1 : Int32) (l2 : Int32) (l3 : Int32) (l4 : Int32) (l5 : Int32) (l6 : Int32) (m : pMem) (hf : sX8_change_b146 l1 l2 l3 l4 l5 l6 m = some z) : gM E kX8_change z 146 [(0, .ref (eA E 0)), (1, .int l1), (2, .int l2), (3, .int l3), (4, .int l4), (5, .int l5), (6, .int l6)] [] m := by
  unfold sX8_change_b146 at hf
  refine g_iload (q := 6) dX8_change_146 rfl ?_
  refine g_bipush (v := 12) dX8_change_148 kB_12 ?_
  refine g_icmp_ge (tgt := 170) dX8_change_150 (by decide) (fun c27 => ?_) (fun c27 => ?_)
  · have hf := it_ hf c27
    refine g_lv [] rfl ?_
    exact wX8_change_b170 E z  m hf
  · have hf := ie_ hf c27
    refine g_aload_n (q := 0) dX8_change_153 rfl rfl ?_
    refine g_get dX8_change_154 fX8_10 (obX8 E m) (gvX8_0 E m) ?_
    refine g_get dX8_change_157 fX8_95 (obX2 E m) (gvX2_6 E m) ?_
    refine g_iload_n (q := 1) dX8_change_160 rfl rfl ?_
    obtain ⟨r28, q29, hf⟩ := cbR_ hf
    refine g_cS (As := [.int l1]) dX8_change_161 (tX8_landsThatCome E m l1 q29) gyX8_landsThatCome giX8_landsThatCome mX8_98 (⟨rfl, rfl, Nat.le_of_ble_eq_true rfl, Nat.le_of_ble_eq_true rfl, Nat.le_of_ble_eq_true rfl, Nat.le_of_ble_eq_true rfl⟩) rfl rfl rfl (Nat.le_of_ble_eq_true rfl) ?_
    refine g_iadd dX8_change_164 ?_
    refine g_bipush (v := 10) dX8_change_165 kB_10 ?_
    refine g_icmp_le (tgt := 173) dX8_change_167 (by decide) (fun c30 => ?_) (fun c30 => ?_)
    · have hf := it_ hf c30
      refine g_aload_n (q := 0) dX8_change_173 rfl rfl ?_
      refine g_get dX8_change_174 fX8_65 (obX8 E m) (gvX8_7 E m) ?_
      refine g_iload_n (q := 2) dX8_change_177 rfl rfl ?_
      obtain ⟨r31, m33, q32, hf⟩ := cbE_ hf
      refine g_cVv (As := [.int l2]) dX8_change_178 (tX0_mark E m l2 q32) gyX0_mark giX0_mark gsX0_mark mX8_102 (⟨rfl, rfl, Nat.le_of_ble_eq_true rfl, Nat.le_of_ble_eq_true rfl, Nat.le_of_ble_eq_true rfl, Nat.le_of_ble_eq_true rfl⟩) rfl (obX0 E m) rfl rfl rfl (Nat.le_of_ble_eq_true rfl) ?_
      refine g_aload_n (q := 0) dX8_change_181 rfl rfl ?_
      refine g_get dX8_change_182 fX8_10 (obX8 E m33) (gvX8_0 E m33) ?_
      refine g_iload_n (q := 1) dX8_change_185 rfl rfl ?_
      refine g_iload_n (q := 2) dX8_change_186 rfl rfl ?_
      refine g_iload_n (q := 3) dX8_change_187 rfl rfl ?_
      refine g_iload (q := 4) dX8_change_188 rfl ?_
      refine g_iload (q := 5) dX8_change_190 rfl ?_
      obtain ⟨r34, m36, q35, hf⟩ := cbE_ hf
      refine g_cV (As := [.int l1, .int l2, .int l3, .int l4, .int l5]) dX8_change_192 (tX2_addChange E m33 l1 l2 l3 l4 l5 q35) gyX2_addChange giX2_addChange gsX2_addChange mX8_106 (⟨rfl, rfl, Nat.le_of_ble_eq_true rfl, Nat.le_of_ble_eq_true rfl, Nat.le_of_ble_eq_true rfl, Nat.le_of_ble_eq_true rfl⟩) rfl (obX2 E m33) rfl rfl rfl (Nat.le_of_ble_eq_true rfl) ?_
      exact g_ret dX8_change_195 rfl rfl (Option.some.inj hf).symm
    · have hf := ie_ hf c30
      refine g_lv [] rfl ?_
      exact wX8_change_b170 E z  m hf
theorem wX8_change_b125 (E : pEv) (z : Int32 × pMem) (l1 : Int32) (l2 : Int32) (l3 : Int32) (l4 : Int32) (l5 : Int32) (l6 : Int32) (m : pMem) (hf : sX8_change_b125 l1 l2 l3 l4 l5 l6 m = some z) : gM E kX8_change z 125 [(0, .ref (eA E 0)), (1, .int l1), (2, .int l2), (3, .int l3), (4, .int l4), (5, .int l5), (6, .int l6)] [] m := by
  unfold sX8_change_b125 at hf
  refine g_iload_n (q := 1) dX8_change_125 rfl rfl ?_
  refine g_iconst (v := 4) dX8_change_126 kI_4 ?_
  refine g_icmp_ne (tgt := 146) dX8_change_127 (by decide) (fun c24 => ?_) (fun c24 => ?_)
  · have hf := it_ hf c24
    exact wX8_change_b146 E z  l1 l2 l3 l4 l5 l6 m hf
  · have hf := ie_ hf (not_not_intro c24)
    refine g_aload_n (q := 0) dX8_change_130 rfl rfl ?_
    refine g_get dX8_change_131 fX8_10 (obX8 E m) (gvX8_0 E m) ?_
    refine g_get dX8_change_134 fX8_91 (obX2 E m) (gvX2_3 E m) ?_
    refine g_iload_n (q := 3) dX8_change_137 rfl rfl ?_
    obtain ⟨h25, hf⟩ := gd_ hf
    refine g_iald dX8_change_138 ar_21 h25 ?_
    refine g_iconst (v := (-1)) dX8_change_139 kI_m1 ?_
    refine g_icmp_ne (tgt := 146) dX8_change_140 (by decide) (fun c26 => ?_) (fun c26 => ?_)
    · have hf := it_ hf c26
      exact wX8_change_b146 E z  l1 l2 l3 l4 l5 l6 m hf
    · have hf := ie_ hf (not_not_intro c26)
      refine g_bipush (v := (-4)) dX8_change_143 kB_m4 ?_
      exact g_ret dX8_change_145 rfl rfl (Option.some.inj hf).symm
theorem wX8_change_b109 (E : pEv) (z : Int32 × pMem) (l1 : Int32) (l2 : Int32) (l3 : Int32) (l4 : Int32) (l5 : Int32) (l6 : Int32) (m : pMem) (hf : sX8_change_b109 l1 l2 l3 l4 l5 l6 m = some z) : gM E kX8_change z 109 [(0, .ref (eA E 0)), (1, .int l1), (2, .int l2), (3, .int l3), (4, .int l4), (5, .int l5), (6, .int l6)] [] m := by
  unfold sX8_change_b109 at hf
  refine g_aload_n (q := 0) dX8_change_109 rfl rfl ?_
  refine g_get dX8_change_110 fX8_10 (obX8 E m) (gvX8_0 E m) ?_
  refine g_iload (q := 5) dX8_change_113 rfl ?_
  refine g_iload_n (q := 3) dX8_change_115 rfl rfl ?_
  obtain ⟨r21, q22, hf⟩ := cbR_ hf
  refine g_cV (As := [.int l5, .int l3]) dX8_change_116 (tX2_isSomeNotAll E m l5 l3 q22) gyX2_isSomeNotAll giX2_isSomeNotAll gsX2_isSomeNotAll mX8_88 (⟨rfl, rfl, Nat.le_of_ble_eq_true rfl, Nat.le_of_ble_eq_true rfl, Nat.le_of_ble_eq_true rfl, Nat.le_of_ble_eq_true rfl⟩) rfl (obX2 E m) rfl rfl rfl (Nat.le_of_ble_eq_true rfl) ?_
  refine g_if_ne (tgt := 125) dX8_change_119 (by decide) (fun c23 => ?_) (fun c23 => ?_)
  · have hf := it_ hf c23
    exact wX8_change_b125 E z  l1 l2 l3 l4 l5 l6 m hf
  · have hf := ie_ hf (not_not_intro c23)
    refine g_bipush (v := (-4)) dX8_change_122 kB_m4 ?_
    exact g_ret dX8_change_124 rfl rfl (Option.some.inj hf).symm
theorem wX8_change_b95 (E : pEv) (z : Int32 × pMem) (l1 : Int32) (l2 : Int32) (l3 : Int32) (l4 : Int32) (l5 : Int32) (l6 : Int32) (m : pMem) (hf : sX8_change_b95 l1 l2 l3 l4 l5 l6 m = some z) : gM E kX8_change z 95 [(0, .ref (eA E 0)), (1, .int l1), (2, .int l2), (3, .int l3), (4, .int l4), (5, .int l5), (6, .int l6)] [] m := by
  unfold sX8_change_b95 at hf
  refine g_iload_n (q := 1) dX8_change_95 rfl rfl ?_
  refine g_if_eq (tgt := 109) dX8_change_96 (by decide) (fun c18 => ?_) (fun c18 => ?_)
  · have hf := it_ hf c18
    exact wX8_change_b109 E z  l1 l2 l3 l4 l5 l6 m hf
  · have hf := ie_ hf c18
    refine g_iload_n (q := 1) dX8_change_99 rfl rfl ?_
    refine g_iconst (v := 1) dX8_change_100 kI_1 ?_
    refine g_icmp_eq (tgt := 109) dX8_change_101 (by decide) (fun c19 => ?_) (fun c19 => ?_)
    · have hf := it_ hf c19
      exact wX8_change_b109 E z  l1 l2 l3 l4 l5 l6 m hf
    · have hf := ie_ hf c19
      refine g_iload_n (q := 1) dX8_change_104 rfl rfl ?_
      refine g_iconst (v := 3) dX8_change_105 kI_3 ?_
      refine g_icmp_ne (tgt := 125) dX8_change_106 (by decide) (fun c20 => ?_) (fun c20 => ?_)
      · have hf := it_ hf c20
        exact wX8_change_b125 E z  l1 l2 l3 l4 l5 l6 m hf
      · have hf := ie_ hf (not_not_intro c20)
        exact wX8_change_b109 E z  l1 l2 l3 l4 l5 l6 m hf
theorem wX8_change_b81 (E : pEv) (z : Int32 × pMem) (l1 : Int32) (l2 : Int32) (l3 : Int32) (l4 : Int32) (l5 : Int32) (l6 : Int32) (l7 : Int32) (m : pMem) (hf : sX8_change_b81 l1 l2 l3 l4 l5 l6 l7 m = some z) : gM E kX8_change z 81 [(0, .ref (eA E 0)), (1, .int l1), (2, .int l2), (3, .int l3), (4, .int l4), (5, .int l5), (6, .int l6), (7, .int l7)] [] m := by
  unfold sX8_change_b81 at hf
  refine g_iload (q := 7) dX8_change_81 rfl ?_
  refine g_if_eq (tgt := 95) dX8_change_83 (by decide) (fun c16 => ?_) (fun c16 => ?_)
  · have hf := it_ hf c16
    refine g_lv [0, 1, 2, 3, 4, 5, 6] rfl ?_
    exact wX8_change_b95 E z  l1 l2 l3 l4 l5 l6 m hf
  · have hf := ie_ hf c16
    refine g_iload_n (q := 3) dX8_change_86 rfl rfl ?_
    refine g_iload (q := 4) dX8_change_87 rfl ?_
    refine g_icmp_ne (tgt := 95) dX8_change_89 (by decide) (fun c17 => ?_) (fun c17 => ?_)
    · have hf := it_ hf c17
      refine g_lv [0, 1, 2, 3, 4, 5, 6] rfl ?_
      exact wX8_change_b95 E z  l1 l2 l3 l4 l5 l6 m hf
    · have hf := ie_ hf (not_not_intro c17)
      refine g_bipush (v := (-4)) dX8_change_92 kB_m4 ?_
      exact g_ret dX8_change_94 rfl rfl (Option.some.inj hf).symm
theorem wX8_change_b78 (E : pEv) (z : Int32 × pMem) (m : pMem) (hf : sX8_change_b78  m = some z) : gM E kX8_change z 78 [] [] m := by
  unfold sX8_change_b78 at hf
  refine g_bipush (v := (-2)) dX8_change_78 kB_m2 ?_
  exact g_ret dX8_change_80 rfl rfl (Option.some.inj hf).symm
theorem wX8_change_b44 (E : pEv) (z : Int32 × pMem) (l1 : Int32) (l2 : Int32) (l3 : Int32) (l4 : Int32) (l5 : Int32) (l6 : Int32) (t0 : Int32) (m : pMem) (hf : sX8_change_b44 l1 l2 l3 l4 l5 l6 t0 m = some z) : gM E kX8_change z 44 [(0, .ref (eA E 0)), (1, .int l1), (2, .int l2), (3, .int l3), (4, .int l4), (5, .int l5), (6, .int l6)] [.int t0] m := by
  unfold sX8_change_b44 at hf
  refine g_istore dX8_change_44 (Nat.le_of_ble_eq_true rfl) rfl ?_
  refine g_aload_n (q := 1) dX8_change_46 rfl rfl ?_
  refine g_get dX8_change_47 fX8_10 (obX8 E m) (gvX8_0 E m) ?_
  refine g_iload_n (q := 4) dX8_change_50 rfl rfl ?_
  refine g_iload (q := 7) dX8_change_51 rfl ?_
  obtain ⟨r9, q10, hf⟩ := cbR_ hf
  refine g_cV (As := [.int l3, .int l6]) dX8_change_53 (tX2_isThere E m l3 l6 q10) gyX2_isThere giX2_isThere gsX2_isThere mX8_84 (⟨rfl, rfl, Nat.le_of_ble_eq_true rfl, Nat.le_of_ble_eq_true rfl, Nat.le_of_ble_eq_true rfl, Nat.le_of_ble_eq_true rfl⟩) rfl (obX2 E m) rfl rfl rfl (Nat.le_of_ble_eq_true rfl) ?_
  refine g_if_eq (tgt := 78) dX8_change_56 (by decide) (fun c11 => ?_) (fun c11 => ?_)
  · have hf := it_ hf c11
    refine g_lv [] rfl ?_
    exact wX8_change_b78 E z  m hf
  · have hf := ie_ hf c11
    refine g_iload (q := 0) dX8_change_59 rfl ?_
    refine g_if_eq (tgt := 81) dX8_change_61 (by decide) (fun c12 => ?_) (fun c12 => ?_)
    · have hf := it_ hf c12
      refine g_lv [1, 2, 3, 4, 5, 6, 7, 0] rfl ?_
      exact wX8_change_b81 E z  l1 l2 l3 l4 l5 l6 t0 m hf
    · have hf := ie_ hf c12
      refine g_aload_n (q := 1) dX8_change_64 rfl rfl ?_
      refine g_get dX8_change_65 fX8_10 (obX8 E m) (gvX8_0 E m) ?_
      refine g_iload (q := 5) dX8_change_68 rfl ?_
      refine g_iload (q := 7) dX8_change_70 rfl ?_
      obtain ⟨r13, q14, hf⟩ := cbR_ hf
      refine g_cV (As := [.int l4, .int l6]) dX8_change_72 (tX2_isThere E m l4 l6 q14) gyX2_isThere giX2_isThere gsX2_isThere mX8_84 (⟨rfl, rfl, Nat.le_of_ble_eq_true rfl, Nat.le_of_ble_eq_true rfl, Nat.le_of_ble_eq_true rfl, Nat.le_of_ble_eq_true rfl⟩) rfl (obX2 E m) rfl rfl rfl (Nat.le_of_ble_eq_true rfl) ?_
      refine g_if_ne (tgt := 81) dX8_change_75 (by decide) (fun c15 => ?_) (fun c15 => ?_)
      · have hf := it_ hf c15
        refine g_lv [1, 2, 3, 4, 5, 6, 7, 0] rfl ?_
        exact wX8_change_b81 E z  l1 l2 l3 l4 l5 l6 t0 m hf
      · have hf := ie_ hf (not_not_intro c15)
        refine g_lv [] rfl ?_
        exact wX8_change_b78 E z  m hf
theorem wX8_change_b39 (E : pEv) (z : Int32 × pMem) (l1 : Int32) (l2 : Int32) (l3 : Int32) (l4 : Int32) (l5 : Int32) (l6 : Int32) (m : pMem) (hf : sX8_change_b39 l1 l2 l3 l4 l5 l6 m = some z) : gM E kX8_change z 39 [(0, .ref (eA E 0)), (1, .int l1), (2, .int l2), (3, .int l3), (4, .int l4), (5, .int l5), (6, .int l6)] [] m := by
  unfold sX8_change_b39 at hf
  refine g_iconst (v := 1) dX8_change_39 kI_1 ?_
  refine g_goto (tgt := 44) dX8_change_40 (by decide) ?_
  exact wX8_change_b44 E z  l1 l2 l3 l4 l5 l6 1 m hf
theorem wX8_change_b0 (E : pEv) (z : Int32 × pMem) (a1 : Int32) (a2 : Int32) (a3 : Int32) (a4 : Int32) (a5 : Int32) (m : pMem) (hf : sX8_change a1 a2 a3 a4 a5 m = some z) : gM E kX8_change z 0 [(0, .ref (eA E 0)), (1, .int a1), (2, .int a2), (3, .int a3), (4, .int a4), (5, .int a5)] [] m := by
  unfold sX8_change at hf
  refine g_iload_n (q := 1) dX8_change_0 rfl rfl ?_
  refine g_if_lt (tgt := 17) dX8_change_1 (by decide) (fun c1 => ?_) (fun c1 => ?_)
  · have hf := it_ hf c1
    refine g_lv [] rfl ?_
    exact wX8_change_b17 E z  m hf
  · have hf := ie_ hf c1
    refine g_iload_n (q := 1) dX8_change_4 rfl rfl ?_
    refine g_iconst (v := 4) dX8_change_5 kI_4 ?_
    refine g_icmp_gt (tgt := 17) dX8_change_6 (by decide) (fun c2 => ?_) (fun c2 => ?_)
    · have hf := it_ hf c2
      refine g_lv [] rfl ?_
      exact wX8_change_b17 E z  m hf
    · have hf := ie_ hf c2
      refine g_aload_n (q := 0) dX8_change_9 rfl rfl ?_
      refine g_iload_n (q := 2) dX8_change_10 rfl rfl ?_
      obtain ⟨r3, q4, hf⟩ := cbR_ hf
      refine g_cV (As := [.int a2]) dX8_change_11 (tX8_mayChangeOn E m a2 q4) gyX8_mayChangeOn giX8_mayChangeOn gsX8_mayChangeOn mX8_80 (⟨rfl, rfl, Nat.le_of_ble_eq_true rfl, Nat.le_of_ble_eq_true rfl, Nat.le_of_ble_eq_true rfl, Nat.le_of_ble_eq_true rfl⟩) rfl (obX8 E m) rfl rfl rfl (Nat.le_of_ble_eq_true rfl) ?_
      refine g_if_ne (tgt := 20) dX8_change_14 (by decide) (fun c5 => ?_) (fun c5 => ?_)
      · have hf := it_ hf c5
        refine g_aload_n (q := 0) dX8_change_20 rfl rfl ?_
        refine g_get dX8_change_21 fX8_10 (obX8 E m) (gvX8_0 E m) ?_
        refine g_get dX8_change_24 fX8_69 (obX2 E m) (gvX2_14 E m) ?_
        refine nmI hf (fun x6 hf => ?_)
        refine g_istore dX8_change_27 (Nat.le_of_ble_eq_true rfl) rfl ?_
        refine g_iload_n (q := 2) dX8_change_29 rfl rfl ?_
        refine g_iconst (v := 2) dX8_change_30 kI_2 ?_
        refine g_icmp_eq (tgt := 39) dX8_change_31 (by decide) (fun c7 => ?_) (fun c7 => ?_)
        · have hf := it_ hf c7
          refine g_lv [1, 2, 3, 4, 5, 6, 0] rfl ?_
          exact wX8_change_b39 E z  a1 a2 a3 a4 a5 x6 m hf
        · have hf := ie_ hf c7
          refine g_iload_n (q := 2) dX8_change_34 rfl rfl ?_
          refine g_iconst (v := 3) dX8_change_35 kI_3 ?_
          refine g_icmp_ne (tgt := 43) dX8_change_36 (by decide) (fun c8 => ?_) (fun c8 => ?_)
          · have hf := it_ hf c8
            refine g_iconst (v := 0) dX8_change_43 kI_0 ?_
            refine g_lv [1, 2, 3, 4, 5, 6, 0] rfl ?_
            exact wX8_change_b44 E z  a1 a2 a3 a4 a5 x6 0 m hf
          · have hf := ie_ hf (not_not_intro c8)
            refine g_lv [1, 2, 3, 4, 5, 6, 0] rfl ?_
            exact wX8_change_b39 E z  a1 a2 a3 a4 a5 x6 m hf
      · have hf := ie_ hf (not_not_intro c5)
        refine g_lv [] rfl ?_
        exact wX8_change_b17 E z  m hf
theorem tX8_change (E : pEv) (m : pMem) (a1 : Int32) (a2 : Int32) (a3 : Int32) (a4 : Int32) (a5 : Int32) {z : Int32 × pMem} (hf : sX8_change a1 a2 a3 a4 a5 m = some z) : gCn E yX8_change kX8_change [.ref (eA E 0), .int a1, .int a2, .int a3, .int a4, .int a5] m z := gCn_of (by decide +kernel) rfl rfl rfl (Nat.le_of_ble_eq_true rfl) rfl (wX8_change_b0 E z a1 a2 a3 a4 a5 m  hf)
