/-! walks (printed) -/
theorem wX8_count_b0 (E : pEv) (z : Int32) (a1 : Int32) (m : pMem) (hf : sX8_count a1 m = some z) : gM E kX8_count (z, m) 0 [(0, .ref (eA E 0)), (1, .int a1)] [] m := by
  unfold sX8_count at hf
  refine g_iload_n (q := 1) dX8_count_0 rfl rfl ?_
  by_cases c1 : a1 = 0
  · have hf := it_ hf c1
    refine g_tableIn (tgt := 56) (off := 55) dX8_count_1 (by rw [c1]; decide) (by rw [c1]; decide) (by rw [c1]; decide) (by decide) ?_
    refine g_aload_n (q := 0) dX8_count_56 rfl rfl ?_
    refine g_get dX8_count_57 fX8_10 (obX8 E m) (gvX8_0 E m) ?_
    refine g_get dX8_count_60 fX8_73 (obX2 E m) (gvX2_2 E m) ?_
    exact g_ret dX8_count_63 rfl rfl (by rw [Option.some.inj hf])
  · have hf := ie_ hf c1
    by_cases c2 : a1 = 1
    · have hf := it_ hf c2
      refine g_tableIn (tgt := 64) (off := 63) dX8_count_1 (by rw [c2]; decide) (by rw [c2]; decide) (by rw [c2]; decide) (by decide) ?_
      refine g_aload_n (q := 0) dX8_count_64 rfl rfl ?_
      refine g_get dX8_count_65 fX8_10 (obX8 E m) (gvX8_0 E m) ?_
      refine g_get dX8_count_68 fX8_95 (obX2 E m) (gvX2_6 E m) ?_
      exact g_ret dX8_count_71 rfl rfl (by rw [Option.some.inj hf])
    · have hf := ie_ hf c2
      by_cases c3 : a1 = 2
      · have hf := it_ hf c3
        refine g_tableIn (tgt := 72) (off := 71) dX8_count_1 (by rw [c3]; decide) (by rw [c3]; decide) (by rw [c3]; decide) (by decide) ?_
        refine g_aload_n (q := 0) dX8_count_72 rfl rfl ?_
        refine g_get dX8_count_73 fX8_10 (obX8 E m) (gvX8_0 E m) ?_
        refine g_get dX8_count_76 fX8_69 (obX2 E m) (gvX2_14 E m) ?_
        exact g_ret dX8_count_79 rfl rfl (by rw [Option.some.inj hf])
      · have hf := ie_ hf c3
        by_cases c4 : a1 = 3
        · have hf := it_ hf c4
          refine g_tableIn (tgt := 80) (off := 79) dX8_count_1 (by rw [c4]; decide) (by rw [c4]; decide) (by rw [c4]; decide) (by decide) ?_
          refine g_aload_n (q := 0) dX8_count_80 rfl rfl ?_
          refine g_get dX8_count_81 fX8_19 (obX8 E m) (gvX8_1 E m) ?_
          refine g_get dX8_count_84 fX8_138 (obX5 E m) (gvX5_1 E m) ?_
          exact g_ret dX8_count_87 rfl rfl (by rw [Option.some.inj hf])
        · have hf := ie_ hf c4
          by_cases c5 : a1 = 4
          · have hf := it_ hf c5
            refine g_tableIn (tgt := 88) (off := 87) dX8_count_1 (by rw [c5]; decide) (by rw [c5]; decide) (by rw [c5]; decide) (by decide) ?_
            refine g_aload_n (q := 0) dX8_count_88 rfl rfl ?_
            refine g_get dX8_count_89 fX8_42 (obX8 E m) (gvX8_4 E m) ?_
            refine g_get dX8_count_92 fX8_161 (obX3 E m) (gvX3_8 E m) ?_
            exact g_ret dX8_count_95 rfl rfl (by rw [Option.some.inj hf])
          · have hf := ie_ hf c5
            by_cases c6 : a1 = 5
            · have hf := it_ hf c6
              refine g_tableIn (tgt := 96) (off := 95) dX8_count_1 (by rw [c6]; decide) (by rw [c6]; decide) (by rw [c6]; decide) (by decide) ?_
              refine g_aload_n (q := 0) dX8_count_96 rfl rfl ?_
              refine g_get dX8_count_97 fX8_26 (obX8 E m) (gvX8_2 E m) ?_
              refine g_get dX8_count_100 fX8_171 (obX7 E m) (gvX7_5 E m) ?_
              exact g_ret dX8_count_103 rfl rfl (by rw [Option.some.inj hf])
            · have hf := ie_ hf c6
              by_cases c7 : a1 = 6
              · have hf := it_ hf c7
                refine g_tableIn (tgt := 104) (off := 103) dX8_count_1 (by rw [c7]; decide) (by rw [c7]; decide) (by rw [c7]; decide) (by decide) ?_
                refine g_aload_n (q := 0) dX8_count_104 rfl rfl ?_
                refine g_get dX8_count_105 fX8_33 (obX8 E m) (gvX8_3 E m) ?_
                refine g_get dX8_count_108 fX8_178 (obX6 E m) (gvX6_4 E m) ?_
                exact g_ret dX8_count_111 rfl rfl (by rw [Option.some.inj hf])
              · have hf := ie_ hf c7
                by_cases c8 : a1 = 7
                · have hf := it_ hf c8
                  refine g_tableIn (tgt := 112) (off := 111) dX8_count_1 (by rw [c8]; decide) (by rw [c8]; decide) (by rw [c8]; decide) (by decide) ?_
                  refine g_aload_n (q := 0) dX8_count_112 rfl rfl ?_
                  refine g_get dX8_count_113 fX8_51 (obX8 E m) (gvX8_5 E m) ?_
                  refine g_get dX8_count_116 fX8_195 (obX1 E m) (gvX1_5 E m) ?_
                  exact g_ret dX8_count_119 rfl rfl (by rw [Option.some.inj hf])
                · have hf := ie_ hf c8
                  by_cases c9 : a1 = 8
                  · have hf := it_ hf c9
                    refine g_tableIn (tgt := 120) (off := 119) dX8_count_1 (by rw [c9]; decide) (by rw [c9]; decide) (by rw [c9]; decide) (by decide) ?_
                    refine g_aload_n (q := 0) dX8_count_120 rfl rfl ?_
                    refine g_get dX8_count_121 fX8_51 (obX8 E m) (gvX8_5 E m) ?_
                    refine g_get dX8_count_124 fX8_207 (obX1 E m) (gvX1_10 E m) ?_
                    exact g_ret dX8_count_127 rfl rfl (by rw [Option.some.inj hf])
                  · have hf := ie_ hf c9
                    by_cases c10 : a1 = 9
                    · have hf := it_ hf c10
                      refine g_tableIn (tgt := 128) (off := 127) dX8_count_1 (by rw [c10]; decide) (by rw [c10]; decide) (by rw [c10]; decide) (by decide) ?_
                      refine g_aload_n (q := 0) dX8_count_128 rfl rfl ?_
                      refine g_get dX8_count_129 fX8_58 (obX8 E m) (gvX8_6 E m) ?_
                      refine g_get dX8_count_132 fX8_219 (obX4 E m) (gvX4_3 E m) ?_
                      exact g_ret dX8_count_135 rfl rfl (by rw [Option.some.inj hf])
                    · have hf := ie_ hf c10
                      refine g_tableOut (tgt := 136) dX8_count_1 (gsw_out (hi := 9) 10 (by decide) rfl (fun k hk => match k, hk with | 0, _ => c1 | 1, _ => c2 | 2, _ => c3 | 3, _ => c4 | 4, _ => c5 | 5, _ => c6 | 6, _ => c7 | 7, _ => c8 | 8, _ => c9 | 9, _ => c10 | n + 10, h => absurd h (by omega))) (by decide) ?_
                      refine g_bipush (v := (-3)) dX8_count_136 kB_m3 ?_
                      exact g_ret dX8_count_138 rfl rfl (by rw [Option.some.inj hf])
theorem tX8_count (E : pEv) (m : pMem) (a1 : Int32) {z : Int32} (hf : sX8_count a1 m = some z) : gCn E yX8_count kX8_count [.ref (eA E 0), .int a1] m (z, m) := gCn_of (by decide +kernel) rfl rfl rfl (Nat.le_of_ble_eq_true rfl) rfl (wX8_count_b0 E z a1 m  hf)
theorem wX2_knowsGround_b17 (E : pEv) (z : Int32) (t0 : Int32) (m : pMem) (hf : sX2_knowsGround_b17 t0 m = some z) : gM E kX2_knowsGround (z, m) 17 [] [.int t0] m := by
  unfold sX2_knowsGround_b17 at hf
  exact g_retz dX2_knowsGround_17 rfl (by rw [Option.some.inj hf])
theorem wX2_knowsGround_b16 (E : pEv) (z : Int32) (m : pMem) (hf : sX2_knowsGround_b16  m = some z) : gM E kX2_knowsGround (z, m) 16 [] [] m := by
  unfold sX2_knowsGround_b16 at hf
  refine g_iconst (v := 0) dX2_knowsGround_16 kI_0 ?_
  exact wX2_knowsGround_b17 E z  0 m hf
theorem wX2_knowsGround_b0 (E : pEv) (z : Int32) (a1 : Int32) (m : pMem) (hf : sX2_knowsGround a1 m = some z) : gM E kX2_knowsGround (z, m) 0 [(0, .ref (eA E 3)), (1, .int a1)] [] m := by
  unfold sX2_knowsGround at hf
  refine g_iload_n (q := 1) dX2_knowsGround_0 rfl rfl ?_
  refine g_if_lt (tgt := 16) dX2_knowsGround_1 (by decide) (fun c1 => ?_) (fun c1 => ?_)
  · have hf := it_ hf c1
    refine g_lv [] rfl ?_
    exact wX2_knowsGround_b16 E z  m hf
  · have hf := ie_ hf c1
    refine g_iload_n (q := 1) dX2_knowsGround_4 rfl rfl ?_
    refine g_aload_n (q := 0) dX2_knowsGround_5 rfl rfl ?_
    refine g_get dX2_knowsGround_6 fX2_18 (obX2 E m) (gvX2_2 E m) ?_
    refine g_icmp_ge (tgt := 16) dX2_knowsGround_9 (by decide) (fun c2 => ?_) (fun c2 => ?_)
    · have hf := it_ hf c2
      refine g_lv [] rfl ?_
      exact wX2_knowsGround_b16 E z  m hf
    · have hf := ie_ hf c2
      refine g_iconst (v := 1) dX2_knowsGround_12 kI_1 ?_
      refine g_goto (tgt := 17) dX2_knowsGround_13 (by decide) ?_
      refine g_lv [] rfl ?_
      exact wX2_knowsGround_b17 E z  1 m hf
theorem tX2_knowsGround (E : pEv) (m : pMem) (a1 : Int32) {z : Int32} (hf : sX2_knowsGround a1 m = some z) : gCn E yX2_knowsGround kX2_knowsGround [.ref (eA E 3), .int a1] m (z, m) := gCn_of (by decide +kernel) rfl rfl rfl (Nat.le_of_ble_eq_true rfl) rfl (wX2_knowsGround_b0 E z a1 m  hf)
theorem wX1_addDebt_b0 (E : pEv) (z : Int32 × pMem) (a1 : Int32) (a2 : Int32) (a3 : Int32) (a4 : Int32) (m : pMem) (hf : sX1_addDebt a1 a2 a3 a4 m = some z) : gM E kX1_addDebt z 0 [(0, .ref (eA E 2)), (1, .int a1), (2, .int a2), (3, .int a3), (4, .int a4)] [] m := by
  unfold sX1_addDebt at hf
  refine g_aload_n (q := 0) dX1_addDebt_0 rfl rfl ?_
  refine g_get dX1_addDebt_1 fX1_24 (obX1 E m) (gvX1_5 E m) ?_
  refine nmI hf (fun x1 hf => ?_)
  refine g_istore dX1_addDebt_4 (Nat.le_of_ble_eq_true rfl) rfl ?_
  refine g_aload_n (q := 1) dX1_addDebt_6 rfl rfl ?_
  refine g_get dX1_addDebt_7 fX1_9 (obX1 E m) (gvX1_1 E m) ?_
  refine g_iload (q := 0) dX1_addDebt_10 rfl ?_
  refine g_iload_n (q := 2) dX1_addDebt_12 rfl rfl ?_
  obtain ⟨h2, hf⟩ := gd_ hf
  refine g_iast dX1_addDebt_13 ar_11 h2 ?_
  refine nmG hf (fun m3 hf => ?_)
  refine g_aload_n (q := 1) dX1_addDebt_14 rfl rfl ?_
  refine g_get dX1_addDebt_15 fX1_15 (obX1 E m3) (gvX1_2 E m3) ?_
  refine g_iload (q := 0) dX1_addDebt_18 rfl ?_
  refine g_iload_n (q := 3) dX1_addDebt_20 rfl rfl ?_
  obtain ⟨h4, hf⟩ := gd_ hf
  refine g_iast dX1_addDebt_21 ar_12 h4 ?_
  refine nmG hf (fun m5 hf => ?_)
  refine g_aload_n (q := 1) dX1_addDebt_22 rfl rfl ?_
  refine g_get dX1_addDebt_23 fX1_18 (obX1 E m5) (gvX1_3 E m5) ?_
  refine g_iload (q := 0) dX1_addDebt_26 rfl ?_
  refine g_iload_n (q := 4) dX1_addDebt_28 rfl rfl ?_
  obtain ⟨h6, hf⟩ := gd_ hf
  refine g_iast dX1_addDebt_29 ar_13 h6 ?_
  refine nmG hf (fun m7 hf => ?_)
  refine g_aload_n (q := 1) dX1_addDebt_30 rfl rfl ?_
  refine g_get dX1_addDebt_31 fX1_21 (obX1 E m7) (gvX1_4 E m7) ?_
  refine g_iload (q := 0) dX1_addDebt_34 rfl ?_
  refine g_iload (q := 5) dX1_addDebt_36 rfl ?_
  obtain ⟨h8, hf⟩ := gd_ hf
  refine g_iast dX1_addDebt_38 ar_14 h8 ?_
  refine nmG hf (fun m9 hf => ?_)
  refine g_aload_n (q := 1) dX1_addDebt_39 rfl rfl ?_
  refine g_aload_n (q := 1) dX1_addDebt_40 rfl rfl ?_
  refine g_get dX1_addDebt_41 fX1_28 (obX1 E m9) (gvX1_6 E m9) ?_
  refine g_iload (q := 5) dX1_addDebt_44 rfl ?_
  refine g_max dX1_addDebt_46 mX1_50 mx_1 mx_2 mx_3 ⟨Nat.le_of_ble_eq_true rfl, Nat.le_of_ble_eq_true rfl, Nat.le_of_ble_eq_true rfl, Nat.le_of_ble_eq_true rfl⟩ ?_
  refine g_put dX1_addDebt_49 fX1_28 fwX1_6 rfl rfl (obX1 E m9) (Nat.le_of_ble_eq_true rfl) (psX1_6 E m9 _) ?_
  refine nmG hf (fun m10 hf => ?_)
  refine g_aload_n (q := 1) dX1_addDebt_52 rfl rfl ?_
  refine g_dup dX1_addDebt_53 rfl ?_
  refine g_get dX1_addDebt_54 fX1_24 (obX1 E m10) (gvX1_5 E m10) ?_
  refine g_iconst (v := 1) dX1_addDebt_57 kI_1 ?_
  refine g_iadd dX1_addDebt_58 ?_
  refine g_put dX1_addDebt_59 fX1_24 fwX1_5 rfl rfl (obX1 E m10) (Nat.le_of_ble_eq_true rfl) (psX1_5 E m10 _) ?_
  refine nmG hf (fun m11 hf => ?_)
  refine g_iload (q := 0) dX1_addDebt_62 rfl ?_
  exact g_ret dX1_addDebt_64 rfl rfl (Option.some.inj hf).symm
theorem tX1_addDebt (E : pEv) (m : pMem) (a1 : Int32) (a2 : Int32) (a3 : Int32) (a4 : Int32) {z : Int32 × pMem} (hf : sX1_addDebt a1 a2 a3 a4 m = some z) : gCn E yX1_addDebt kX1_addDebt [.ref (eA E 2), .int a1, .int a2, .int a3, .int a4] m z := gCn_of (by decide +kernel) rfl rfl rfl (Nat.le_of_ble_eq_true rfl) rfl (wX1_addDebt_b0 E z a1 a2 a3 a4 m  hf)
theorem wX8_debt_b105 (E : pEv) (z : Int32 × pMem) (l1 : Int32) (l2 : Int32) (l3 : Int32) (l4 : Int32) (m : pMem) (hf : sX8_debt_b105 l1 l2 l3 l4 m = some z) : gM E kX8_debt z 105 [(0, .ref (eA E 0)), (1, .int l1), (2, .int l2), (3, .int l3), (4, .int l4)] [] m := by
  unfold sX8_debt_b105 at hf
  refine g_aload_n (q := 0) dX8_debt_105 rfl rfl ?_
  refine g_get dX8_debt_106 fX8_51 (obX8 E m) (gvX8_5 E m) ?_
  refine g_get dX8_debt_109 fX8_195 (obX1 E m) (gvX1_5 E m) ?_
  refine g_bipush (v := 8) dX8_debt_112 kB_8 ?_
  refine g_icmp_lt (tgt := 120) dX8_debt_114 (by decide) (fun c22 => ?_) (fun c22 => ?_)
  · have hf := it_ hf c22
    refine g_aload_n (q := 0) dX8_debt_120 rfl rfl ?_
    refine g_get dX8_debt_121 fX8_51 (obX8 E m) (gvX8_5 E m) ?_
    refine g_iload_n (q := 1) dX8_debt_124 rfl rfl ?_
    refine g_iload_n (q := 2) dX8_debt_125 rfl rfl ?_
    refine g_iload_n (q := 3) dX8_debt_126 rfl rfl ?_
    refine g_iload (q := 4) dX8_debt_127 rfl ?_
    obtain ⟨r23, m25, q24, hf⟩ := cbE_ hf
    refine g_cV (As := [.int l1, .int l2, .int l3, .int l4]) dX8_debt_129 (tX1_addDebt E m l1 l2 l3 l4 q24) gyX1_addDebt giX1_addDebt gsX1_addDebt mX8_198 (⟨rfl, rfl, Nat.le_of_ble_eq_true rfl, Nat.le_of_ble_eq_true rfl, Nat.le_of_ble_eq_true rfl, Nat.le_of_ble_eq_true rfl⟩) rfl (obX1 E m) rfl rfl rfl (Nat.le_of_ble_eq_true rfl) ?_
    exact g_ret dX8_debt_132 rfl rfl (Option.some.inj hf).symm
  · have hf := ie_ hf c22
    refine g_bipush (v := (-5)) dX8_debt_117 kB_m5 ?_
    exact g_ret dX8_debt_119 rfl rfl (Option.some.inj hf).symm
theorem wX8_debt_b53 (E : pEv) (z : Int32 × pMem) (m : pMem) (hf : sX8_debt_b53  m = some z) : gM E kX8_debt z 53 [] [] m := by
  unfold sX8_debt_b53 at hf
  refine g_bipush (v := (-3)) dX8_debt_53 kB_m3 ?_
  exact g_ret dX8_debt_55 rfl rfl (Option.some.inj hf).symm
theorem wX8_debt_b33 (E : pEv) (z : Int32 × pMem) (l1 : Int32) (l2 : Int32) (l3 : Int32) (l4 : Int32) (m : pMem) (hf : sX8_debt_b33 l1 l2 l3 l4 m = some z) : gM E kX8_debt z 33 [(0, .ref (eA E 0)), (1, .int l1), (2, .int l2), (3, .int l3), (4, .int l4)] [] m := by
  unfold sX8_debt_b33 at hf
  refine g_iload_n (q := 2) dX8_debt_33 rfl rfl ?_
  refine g_iconst (v := 1) dX8_debt_34 kI_1 ?_
  refine g_icmp_lt (tgt := 53) dX8_debt_35 (by decide) (fun c8 => ?_) (fun c8 => ?_)
  · have hf := it_ hf c8
    refine g_lv [] rfl ?_
    exact wX8_debt_b53 E z  m hf
  · have hf := ie_ hf c8
    refine g_iload_n (q := 2) dX8_debt_38 rfl rfl ?_
    refine g_sipush (v := 9999) dX8_debt_39 kS_9999 ?_
    refine g_icmp_gt (tgt := 53) dX8_debt_42 (by decide) (fun c9 => ?_) (fun c9 => ?_)
    · have hf := it_ hf c9
      refine g_lv [] rfl ?_
      exact wX8_debt_b53 E z  m hf
    · have hf := ie_ hf c9
      refine g_iload (q := 4) dX8_debt_45 rfl ?_
      obtain ⟨r10, q11, hf⟩ := cbR_ hf
      refine g_cS (As := [.int l4]) dX8_debt_47 (tX8_isDay E m l4 q11) gyX8_isDay giX8_isDay mX8_110 (⟨rfl, rfl, Nat.le_of_ble_eq_true rfl, Nat.le_of_ble_eq_true rfl, Nat.le_of_ble_eq_true rfl, Nat.le_of_ble_eq_true rfl⟩) rfl rfl rfl (Nat.le_of_ble_eq_true rfl) ?_
      refine g_if_ne (tgt := 56) dX8_debt_50 (by decide) (fun c12 => ?_) (fun c12 => ?_)
      · have hf := it_ hf c12
        refine g_aload_n (q := 0) dX8_debt_56 rfl rfl ?_
        refine g_get dX8_debt_57 fX8_10 (obX8 E m) (gvX8_0 E m) ?_
        refine g_iload (q := 4) dX8_debt_60 rfl ?_
        obtain ⟨r13, q14, hf⟩ := cbR_ hf
        refine g_cV (As := [.int l4]) dX8_debt_62 (tX2_changesBy E m l4 q14) gyX2_changesBy giX2_changesBy gsX2_changesBy mX8_116 (⟨rfl, rfl, Nat.le_of_ble_eq_true rfl, Nat.le_of_ble_eq_true rfl, Nat.le_of_ble_eq_true rfl, Nat.le_of_ble_eq_true rfl⟩) rfl (obX2 E m) rfl rfl rfl (Nat.le_of_ble_eq_true rfl) ?_
        refine g_istore dX8_debt_65 (Nat.le_of_ble_eq_true rfl) rfl ?_
        refine g_aload_n (q := 1) dX8_debt_67 rfl rfl ?_
        refine g_get dX8_debt_68 fX8_10 (obX8 E m) (gvX8_0 E m) ?_
        refine g_iload_n (q := 2) dX8_debt_71 rfl rfl ?_
        refine g_iload (q := 0) dX8_debt_72 rfl ?_
        obtain ⟨r15, q16, hf⟩ := cbR_ hf
        refine g_cV (As := [.int l1, .int r13]) dX8_debt_74 (tX2_isThere E m l1 r13 q16) gyX2_isThere giX2_isThere gsX2_isThere mX8_84 (⟨rfl, rfl, Nat.le_of_ble_eq_true rfl, Nat.le_of_ble_eq_true rfl, Nat.le_of_ble_eq_true rfl, Nat.le_of_ble_eq_true rfl⟩) rfl (obX2 E m) rfl rfl rfl (Nat.le_of_ble_eq_true rfl) ?_
        refine g_if_ne (tgt := 83) dX8_debt_77 (by decide) (fun c17 => ?_) (fun c17 => ?_)
        · have hf := it_ hf c17
          refine g_iload_n (q := 4) dX8_debt_83 rfl rfl ?_
          refine g_iconst (v := (-1)) dX8_debt_84 kI_m1 ?_
          refine g_icmp_eq (tgt := 105) dX8_debt_85 (by decide) (fun c18 => ?_) (fun c18 => ?_)
          · have hf := it_ hf c18
            refine g_lv [1, 2, 3, 4, 5] rfl ?_
            exact wX8_debt_b105 E z  l1 l2 l3 l4 m hf
          · have hf := ie_ hf c18
            refine g_aload_n (q := 1) dX8_debt_88 rfl rfl ?_
            refine g_get dX8_debt_89 fX8_10 (obX8 E m) (gvX8_0 E m) ?_
            refine g_iload_n (q := 4) dX8_debt_92 rfl rfl ?_
            refine g_iload (q := 0) dX8_debt_93 rfl ?_
            obtain ⟨r19, q20, hf⟩ := cbR_ hf
            refine g_cV (As := [.int l3, .int r13]) dX8_debt_95 (tX2_ownerOf E m l3 r13 q20) gyX2_ownerOf giX2_ownerOf gsX2_ownerOf mX8_129 (⟨rfl, rfl, Nat.le_of_ble_eq_true rfl, Nat.le_of_ble_eq_true rfl, Nat.le_of_ble_eq_true rfl, Nat.le_of_ble_eq_true rfl⟩) rfl (obX2 E m) rfl rfl rfl (Nat.le_of_ble_eq_true rfl) ?_
            refine g_iload_n (q := 2) dX8_debt_98 rfl rfl ?_
            refine g_icmp_eq (tgt := 105) dX8_debt_99 (by decide) (fun c21 => ?_) (fun c21 => ?_)
            · have hf := it_ hf c21
              refine g_lv [1, 2, 3, 4, 5] rfl ?_
              exact wX8_debt_b105 E z  l1 l2 l3 l4 m hf
            · have hf := ie_ hf c21
              refine g_bipush (v := (-4)) dX8_debt_102 kB_m4 ?_
              exact g_ret dX8_debt_104 rfl rfl (Option.some.inj hf).symm
        · have hf := ie_ hf (not_not_intro c17)
          refine g_bipush (v := (-4)) dX8_debt_80 kB_m4 ?_
          exact g_ret dX8_debt_82 rfl rfl (Option.some.inj hf).symm
      · have hf := ie_ hf (not_not_intro c12)
        refine g_lv [] rfl ?_
        exact wX8_debt_b53 E z  m hf
theorem wX8_debt_b0 (E : pEv) (z : Int32 × pMem) (a1 : Int32) (a2 : Int32) (a3 : Int32) (a4 : Int32) (m : pMem) (hf : sX8_debt a1 a2 a3 a4 m = some z) : gM E kX8_debt z 0 [(0, .ref (eA E 0)), (1, .int a1), (2, .int a2), (3, .int a3), (4, .int a4)] [] m := by
  unfold sX8_debt at hf
  refine g_aload_n (q := 0) dX8_debt_0 rfl rfl ?_
  refine g_get dX8_debt_1 fX8_10 (obX8 E m) (gvX8_0 E m) ?_
  refine g_iload_n (q := 1) dX8_debt_4 rfl rfl ?_
  obtain ⟨r1, q2, hf⟩ := cbR_ hf
  refine g_cV (As := [.int a1]) dX8_debt_5 (tX2_knowsLand E m a1 q2) gyX2_knowsLand giX2_knowsLand gsX2_knowsLand mX8_119 (⟨rfl, rfl, Nat.le_of_ble_eq_true rfl, Nat.le_of_ble_eq_true rfl, Nat.le_of_ble_eq_true rfl, Nat.le_of_ble_eq_true rfl⟩) rfl (obX2 E m) rfl rfl rfl (Nat.le_of_ble_eq_true rfl) ?_
  refine g_if_ne (tgt := 14) dX8_debt_8 (by decide) (fun c3 => ?_) (fun c3 => ?_)
  · have hf := it_ hf c3
    refine g_iload_n (q := 3) dX8_debt_14 rfl rfl ?_
    refine g_iconst (v := (-1)) dX8_debt_15 kI_m1 ?_
    refine g_icmp_eq (tgt := 33) dX8_debt_16 (by decide) (fun c4 => ?_) (fun c4 => ?_)
    · have hf := it_ hf c4
      exact wX8_debt_b33 E z  a1 a2 a3 a4 m hf
    · have hf := ie_ hf c4
      refine g_aload_n (q := 0) dX8_debt_19 rfl rfl ?_
      refine g_get dX8_debt_20 fX8_10 (obX8 E m) (gvX8_0 E m) ?_
      refine g_iload_n (q := 3) dX8_debt_23 rfl rfl ?_
      obtain ⟨r5, q6, hf⟩ := cbR_ hf
      refine g_cV (As := [.int a3]) dX8_debt_24 (tX2_knowsGround E m a3 q6) gyX2_knowsGround giX2_knowsGround gsX2_knowsGround mX8_126 (⟨rfl, rfl, Nat.le_of_ble_eq_true rfl, Nat.le_of_ble_eq_true rfl, Nat.le_of_ble_eq_true rfl, Nat.le_of_ble_eq_true rfl⟩) rfl (obX2 E m) rfl rfl rfl (Nat.le_of_ble_eq_true rfl) ?_
      refine g_if_ne (tgt := 33) dX8_debt_27 (by decide) (fun c7 => ?_) (fun c7 => ?_)
      · have hf := it_ hf c7
        exact wX8_debt_b33 E z  a1 a2 a3 a4 m hf
      · have hf := ie_ hf (not_not_intro c7)
        refine g_bipush (v := (-2)) dX8_debt_30 kB_m2 ?_
        exact g_ret dX8_debt_32 rfl rfl (Option.some.inj hf).symm
  · have hf := ie_ hf (not_not_intro c3)
    refine g_bipush (v := (-2)) dX8_debt_11 kB_m2 ?_
    exact g_ret dX8_debt_13 rfl rfl (Option.some.inj hf).symm
theorem tX8_debt (E : pEv) (m : pMem) (a1 : Int32) (a2 : Int32) (a3 : Int32) (a4 : Int32) {z : Int32 × pMem} (hf : sX8_debt a1 a2 a3 a4 m = some z) : gCn E yX8_debt kX8_debt [.ref (eA E 0), .int a1, .int a2, .int a3, .int a4] m z := gCn_of (by decide +kernel) rfl rfl rfl (Nat.le_of_ble_eq_true rfl) rfl (wX8_debt_b0 E z a1 a2 a3 a4 m  hf)
theorem wX5_empty_b0 (E : pEv) (z : Int32 × pMem) (m : pMem) (hf : sX5_empty  m = some z) : gM E kX5_empty z 0 [(0, .ref (eA E 6))] [] m := by
  unfold sX5_empty at hf
  refine g_aload_n (q := 0) dX5_empty_0 rfl rfl ?_
  refine g_get dX5_empty_1 fX5_15 (obX5 E m) (gvX5_1 E m) ?_
  refine nmI hf (fun x1 hf => ?_)
  refine g_istore_n dX5_empty_4 rfl (Nat.le_of_ble_eq_true rfl) rfl ?_
  refine g_aload_n (q := 1) dX5_empty_5 rfl rfl ?_
  refine g_iconst (v := 0) dX5_empty_6 kI_0 ?_
  refine g_put dX5_empty_7 fX5_15 fwX5_1 rfl rfl (obX5 E m) (Nat.le_of_ble_eq_true rfl) (psX5_1 E m _) ?_
  refine nmG hf (fun m2 hf => ?_)
  refine g_iload_n (q := 0) dX5_empty_10 rfl rfl ?_
  exact g_ret dX5_empty_11 rfl rfl (Option.some.inj hf).symm
theorem tX5_empty (E : pEv) (m : pMem) {z : Int32 × pMem} (hf : sX5_empty  m = some z) : gCn E yX5_empty kX5_empty [.ref (eA E 6)] m z := gCn_of (by decide +kernel) rfl rfl rfl (Nat.le_of_ble_eq_true rfl) rfl (wX5_empty_b0 E z  m  hf)
theorem wX8_erase_b0 (E : pEv) (z : Int32 × pMem) (m : pMem) (hf : sX8_erase  m = some z) : gM E kX8_erase z 0 [(0, .ref (eA E 0))] [] m := by
  unfold sX8_erase at hf
  refine g_aload_n (q := 0) dX8_erase_0 rfl rfl ?_
  refine g_get dX8_erase_1 fX8_19 (obX8 E m) (gvX8_1 E m) ?_
  obtain ⟨r1, m3, q2, hf⟩ := cbE_ hf
  refine g_cV (As := []) dX8_erase_4 (tX5_empty E m q2) gyX5_empty giX5_empty gsX5_empty mX8_145 (⟨rfl, rfl, Nat.le_of_ble_eq_true rfl, Nat.le_of_ble_eq_true rfl, Nat.le_of_ble_eq_true rfl, Nat.le_of_ble_eq_true rfl⟩) rfl (obX5 E m) rfl rfl rfl (Nat.le_of_ble_eq_true rfl) ?_
  exact g_ret dX8_erase_7 rfl rfl (Option.some.inj hf).symm
theorem tX8_erase (E : pEv) (m : pMem) {z : Int32 × pMem} (hf : sX8_erase  m = some z) : gCn E yX8_erase kX8_erase [.ref (eA E 0)] m z := gCn_of (by decide +kernel) rfl rfl rfl (Nat.le_of_ble_eq_true rfl) rfl (wX8_erase_b0 E z  m  hf)
theorem wX5_isLetter_b17 (E : pEv) (z : Int32) (t0 : Int32) (m : pMem) (hf : sX5_isLetter_b17 t0 m = some z) : gM E kX5_isLetter (z, m) 17 [] [.int t0] m := by
  unfold sX5_isLetter_b17 at hf
  exact g_retz dX5_isLetter_17 rfl (by rw [Option.some.inj hf])
theorem wX5_isLetter_b16 (E : pEv) (z : Int32) (m : pMem) (hf : sX5_isLetter_b16  m = some z) : gM E kX5_isLetter (z, m) 16 [] [] m := by
  unfold sX5_isLetter_b16 at hf
  refine g_iconst (v := 0) dX5_isLetter_16 kI_0 ?_
  exact wX5_isLetter_b17 E z  0 m hf
theorem wX5_isLetter_b0 (E : pEv) (z : Int32) (a1 : Int32) (m : pMem) (hf : sX5_isLetter a1 m = some z) : gM E kX5_isLetter (z, m) 0 [(0, .int a1)] [] m := by
  unfold sX5_isLetter at hf
  refine g_iload_n (q := 0) dX5_isLetter_0 rfl rfl ?_
  refine g_bipush (v := 97) dX5_isLetter_1 kB_97 ?_
  refine g_icmp_lt (tgt := 16) dX5_isLetter_3 (by decide) (fun c1 => ?_) (fun c1 => ?_)
  · have hf := it_ hf c1
    refine g_lv [] rfl ?_
    exact wX5_isLetter_b16 E z  m hf
  · have hf := ie_ hf c1
    refine g_iload_n (q := 0) dX5_isLetter_6 rfl rfl ?_
    refine g_bipush (v := 122) dX5_isLetter_7 kB_122 ?_
    refine g_icmp_gt (tgt := 16) dX5_isLetter_9 (by decide) (fun c2 => ?_) (fun c2 => ?_)
    · have hf := it_ hf c2
      refine g_lv [] rfl ?_
      exact wX5_isLetter_b16 E z  m hf
    · have hf := ie_ hf c2
      refine g_iconst (v := 1) dX5_isLetter_12 kI_1 ?_
      refine g_goto (tgt := 17) dX5_isLetter_13 (by decide) ?_
      refine g_lv [] rfl ?_
      exact wX5_isLetter_b17 E z  1 m hf
theorem tX5_isLetter (E : pEv) (m : pMem) (a1 : Int32) {z : Int32} (hf : sX5_isLetter a1 m = some z) : gCn E yX5_isLetter kX5_isLetter [.int a1] m (z, m) := gCn_of (by decide +kernel) rfl rfl rfl (Nat.le_of_ble_eq_true rfl) rfl (wX5_isLetter_b0 E z a1 m  hf)
theorem wX5_isDigit_b17 (E : pEv) (z : Int32) (t0 : Int32) (m : pMem) (hf : sX5_isDigit_b17 t0 m = some z) : gM E kX5_isDigit (z, m) 17 [] [.int t0] m := by
  unfold sX5_isDigit_b17 at hf
  exact g_retz dX5_isDigit_17 rfl (by rw [Option.some.inj hf])
theorem wX5_isDigit_b16 (E : pEv) (z : Int32) (m : pMem) (hf : sX5_isDigit_b16  m = some z) : gM E kX5_isDigit (z, m) 16 [] [] m := by
  unfold sX5_isDigit_b16 at hf
  refine g_iconst (v := 0) dX5_isDigit_16 kI_0 ?_
  exact wX5_isDigit_b17 E z  0 m hf
theorem wX5_isDigit_b0 (E : pEv) (z : Int32) (a1 : Int32) (m : pMem) (hf : sX5_isDigit a1 m = some z) : gM E kX5_isDigit (z, m) 0 [(0, .int a1)] [] m := by
  unfold sX5_isDigit at hf
  refine g_iload_n (q := 0) dX5_isDigit_0 rfl rfl ?_
  refine g_bipush (v := 48) dX5_isDigit_1 kB_48 ?_
  refine g_icmp_lt (tgt := 16) dX5_isDigit_3 (by decide) (fun c1 => ?_) (fun c1 => ?_)
  · have hf := it_ hf c1
    refine g_lv [] rfl ?_
    exact wX5_isDigit_b16 E z  m hf
  · have hf := ie_ hf c1
    refine g_iload_n (q := 0) dX5_isDigit_6 rfl rfl ?_
    refine g_bipush (v := 57) dX5_isDigit_7 kB_57 ?_
    refine g_icmp_gt (tgt := 16) dX5_isDigit_9 (by decide) (fun c2 => ?_) (fun c2 => ?_)
    · have hf := it_ hf c2
      refine g_lv [] rfl ?_
      exact wX5_isDigit_b16 E z  m hf
    · have hf := ie_ hf c2
      refine g_iconst (v := 1) dX5_isDigit_12 kI_1 ?_
      refine g_goto (tgt := 17) dX5_isDigit_13 (by decide) ?_
      refine g_lv [] rfl ?_
      exact wX5_isDigit_b17 E z  1 m hf
theorem tX5_isDigit (E : pEv) (m : pMem) (a1 : Int32) {z : Int32} (hf : sX5_isDigit a1 m = some z) : gCn E yX5_isDigit kX5_isDigit [.int a1] m (z, m) := gCn_of (by decide +kernel) rfl rfl rfl (Nat.le_of_ble_eq_true rfl) rfl (wX5_isDigit_b0 E z a1 m  hf)
theorem wX5_nextToken_b176 (E : pEv) (z : Int32 × pMem) (m : pMem) (hf : sX5_nextToken_b176  m = some z) : gM E kX5_nextToken z 176 [] [] m := by
  unfold sX5_nextToken_b176 at hf
  exact g_retv dX5_nextToken_176 rfl (by rw [← Option.some.inj hf])
theorem wX5_nextToken_b144 (E : pEv) (z : Int32 × pMem) (m : pMem) (hf : sX5_nextToken_b144  m = some z) : gM E kX5_nextToken z 144 [(0, .ref (eA E 6))] [] m := by
  unfold sX5_nextToken_b144 at hf
  refine g_aload_n (q := 0) dX5_nextToken_144 rfl rfl ?_
  refine g_get dX5_nextToken_145 fX5_25 (obX5 E m) (gvX5_4 E m) ?_
  refine g_aload_n (q := 0) dX5_nextToken_148 rfl rfl ?_
  refine g_get dX5_nextToken_149 fX5_22 (obX5 E m) (gvX5_3 E m) ?_
  refine g_icmp_ne (tgt := 176) dX5_nextToken_152 (by decide) (fun c20 => ?_) (fun c20 => ?_)
  · have hf := it_ hf c20
    refine g_lv [] rfl ?_
    exact wX5_nextToken_b176 E z  m hf
  · have hf := ie_ hf (not_not_intro c20)
    refine g_aload_n (q := 0) dX5_nextToken_155 rfl rfl ?_
    refine g_get dX5_nextToken_156 fX5_25 (obX5 E m) (gvX5_4 E m) ?_
    refine g_aload_n (q := 0) dX5_nextToken_159 rfl rfl ?_
    refine g_get dX5_nextToken_160 fX5_15 (obX5 E m) (gvX5_1 E m) ?_
    refine g_icmp_ge (tgt := 176) dX5_nextToken_163 (by decide) (fun c21 => ?_) (fun c21 => ?_)
    · have hf := it_ hf c21
      refine g_lv [] rfl ?_
      exact wX5_nextToken_b176 E z  m hf
    · have hf := ie_ hf c21
      refine g_aload_n (q := 0) dX5_nextToken_166 rfl rfl ?_
      refine g_dup dX5_nextToken_167 rfl ?_
      refine g_get dX5_nextToken_168 fX5_25 (obX5 E m) (gvX5_4 E m) ?_
      refine g_iconst (v := 1) dX5_nextToken_171 kI_1 ?_
      refine g_iadd dX5_nextToken_172 ?_
      refine g_put dX5_nextToken_173 fX5_25 fwX5_4 rfl rfl (obX5 E m) (Nat.le_of_ble_eq_true rfl) (psX5_4 E m _) ?_
      refine nmG hf (fun m22 hf => ?_)
      refine g_lv [] rfl ?_
      exact wX5_nextToken_b176 E z  m22 hf
theorem wX5_nextToken_b105 (E : pEv) (z : Int32 × pMem) (k105 : pMem → gO) (ih105 : ∀  (m : pMem), k105  m = some z → gM E kX5_nextToken z 105 [(0, .ref (eA E 6))] [] m) (m : pMem) (hf : sX5_nextToken_b105 k105 m = some z) : gM E kX5_nextToken z 105 [(0, .ref (eA E 6))] [] m := by
  unfold sX5_nextToken_b105 at hf
  refine g_aload_n (q := 0) dX5_nextToken_105 rfl rfl ?_
  refine g_get dX5_nextToken_106 fX5_25 (obX5 E m) (gvX5_4 E m) ?_
  refine g_aload_n (q := 0) dX5_nextToken_109 rfl rfl ?_
  refine g_get dX5_nextToken_110 fX5_15 (obX5 E m) (gvX5_1 E m) ?_
  refine g_icmp_ge (tgt := 144) dX5_nextToken_113 (by decide) (fun c14 => ?_) (fun c14 => ?_)
  · have hf := it_ hf c14
    exact wX5_nextToken_b144 E z  m hf
  · have hf := ie_ hf c14
    refine g_aload_n (q := 0) dX5_nextToken_116 rfl rfl ?_
    refine g_get dX5_nextToken_117 fX5_9 (obX5 E m) (gvX5_0 E m) ?_
    refine g_aload_n (q := 0) dX5_nextToken_120 rfl rfl ?_
    refine g_get dX5_nextToken_121 fX5_25 (obX5 E m) (gvX5_4 E m) ?_
    obtain ⟨h15, hf⟩ := gd_ hf
    refine g_iald dX5_nextToken_124 ar_52 h15 ?_
    obtain ⟨r16, q17, hf⟩ := cbR_ hf
    refine g_cS (As := [.int (m.1 52 ((m.1 6 4).toNatClampNeg))]) dX5_nextToken_125 (tX5_isDigit E m (m.1 52 ((m.1 6 4).toNatClampNeg)) q17) gyX5_isDigit giX5_isDigit mX5_103 (⟨rfl, rfl, Nat.le_of_ble_eq_true rfl, Nat.le_of_ble_eq_true rfl, Nat.le_of_ble_eq_true rfl, Nat.le_of_ble_eq_true rfl⟩) rfl rfl rfl (Nat.le_of_ble_eq_true rfl) ?_
    refine g_if_eq (tgt := 144) dX5_nextToken_128 (by decide) (fun c18 => ?_) (fun c18 => ?_)
    · have hf := it_ hf c18
      exact wX5_nextToken_b144 E z  m hf
    · have hf := ie_ hf c18
      refine g_aload_n (q := 0) dX5_nextToken_131 rfl rfl ?_
      refine g_dup dX5_nextToken_132 rfl ?_
      refine g_get dX5_nextToken_133 fX5_25 (obX5 E m) (gvX5_4 E m) ?_
      refine g_iconst (v := 1) dX5_nextToken_136 kI_1 ?_
      refine g_iadd dX5_nextToken_137 ?_
      refine g_put dX5_nextToken_138 fX5_25 fwX5_4 rfl rfl (obX5 E m) (Nat.le_of_ble_eq_true rfl) (psX5_4 E m _) ?_
      refine nmG hf (fun m19 hf => ?_)
      refine g_goto (tgt := 105) dX5_nextToken_141 (by decide) ?_
      exact ih105 m19 hf
theorem wX5_nextToken_l105 (E : pEv) (z : Int32 × pMem) : ∀ (n : Nat) (m : pMem), sX5_nextToken_l105 n  m = some z → gM E kX5_nextToken z 105 [(0, .ref (eA E 6))] [] m := by
  intro n
  induction n with
  | zero => intro  m  hf; cases (show (none : Option _) = some z from hf)
  | succ n ih => intro  m  hf; exact wX5_nextToken_b105 E z  _  ih  m  hf
theorem wX5_nextToken_b93 (E : pEv) (z : Int32 × pMem) (m : pMem) (hf : sX5_nextToken_b93  m = some z) : gM E kX5_nextToken z 93 [(0, .ref (eA E 6))] [] m := by
  unfold sX5_nextToken_b93 at hf
  refine g_aload_n (q := 0) dX5_nextToken_93 rfl rfl ?_
  refine g_get dX5_nextToken_94 fX5_25 (obX5 E m) (gvX5_4 E m) ?_
  refine g_aload_n (q := 0) dX5_nextToken_97 rfl rfl ?_
  refine g_get dX5_nextToken_98 fX5_22 (obX5 E m) (gvX5_3 E m) ?_
  refine g_icmp_le (tgt := 105) dX5_nextToken_101 (by decide) (fun c13 => ?_) (fun c13 => ?_)
  · have hf := it_ hf c13
    exact wX5_nextToken_l105 E z  5000 m hf
  · have hf := ie_ hf c13
    exact g_retv dX5_nextToken_104 rfl (by rw [← Option.some.inj hf])
theorem wX5_nextToken_b54 (E : pEv) (z : Int32 × pMem) (k54 : pMem → gO) (ih54 : ∀  (m : pMem), k54  m = some z → gM E kX5_nextToken z 54 [(0, .ref (eA E 6))] [] m) (m : pMem) (hf : sX5_nextToken_b54 k54 m = some z) : gM E kX5_nextToken z 54 [(0, .ref (eA E 6))] [] m := by
  unfold sX5_nextToken_b54 at hf
  refine g_aload_n (q := 0) dX5_nextToken_54 rfl rfl ?_
  refine g_get dX5_nextToken_55 fX5_25 (obX5 E m) (gvX5_4 E m) ?_
  refine g_aload_n (q := 0) dX5_nextToken_58 rfl rfl ?_
  refine g_get dX5_nextToken_59 fX5_15 (obX5 E m) (gvX5_1 E m) ?_
  refine g_icmp_ge (tgt := 93) dX5_nextToken_62 (by decide) (fun c7 => ?_) (fun c7 => ?_)
  · have hf := it_ hf c7
    exact wX5_nextToken_b93 E z  m hf
  · have hf := ie_ hf c7
    refine g_aload_n (q := 0) dX5_nextToken_65 rfl rfl ?_
    refine g_get dX5_nextToken_66 fX5_9 (obX5 E m) (gvX5_0 E m) ?_
    refine g_aload_n (q := 0) dX5_nextToken_69 rfl rfl ?_
    refine g_get dX5_nextToken_70 fX5_25 (obX5 E m) (gvX5_4 E m) ?_
    obtain ⟨h8, hf⟩ := gd_ hf
    refine g_iald dX5_nextToken_73 ar_52 h8 ?_
    obtain ⟨r9, q10, hf⟩ := cbR_ hf
    refine g_cS (As := [.int (m.1 52 ((m.1 6 4).toNatClampNeg))]) dX5_nextToken_74 (tX5_isLetter E m (m.1 52 ((m.1 6 4).toNatClampNeg)) q10) gyX5_isLetter giX5_isLetter mX5_107 (⟨rfl, rfl, Nat.le_of_ble_eq_true rfl, Nat.le_of_ble_eq_true rfl, Nat.le_of_ble_eq_true rfl, Nat.le_of_ble_eq_true rfl⟩) rfl rfl rfl (Nat.le_of_ble_eq_true rfl) ?_
    refine g_if_eq (tgt := 93) dX5_nextToken_77 (by decide) (fun c11 => ?_) (fun c11 => ?_)
    · have hf := it_ hf c11
      exact wX5_nextToken_b93 E z  m hf
    · have hf := ie_ hf c11
      refine g_aload_n (q := 0) dX5_nextToken_80 rfl rfl ?_
      refine g_dup dX5_nextToken_81 rfl ?_
      refine g_get dX5_nextToken_82 fX5_25 (obX5 E m) (gvX5_4 E m) ?_
      refine g_iconst (v := 1) dX5_nextToken_85 kI_1 ?_
      refine g_iadd dX5_nextToken_86 ?_
      refine g_put dX5_nextToken_87 fX5_25 fwX5_4 rfl rfl (obX5 E m) (Nat.le_of_ble_eq_true rfl) (psX5_4 E m _) ?_
      refine nmG hf (fun m12 hf => ?_)
      refine g_goto (tgt := 54) dX5_nextToken_90 (by decide) ?_
      exact ih54 m12 hf
theorem wX5_nextToken_l54 (E : pEv) (z : Int32 × pMem) : ∀ (n : Nat) (m : pMem), sX5_nextToken_l54 n  m = some z → gM E kX5_nextToken z 54 [(0, .ref (eA E 6))] [] m := by
  intro n
  induction n with
  | zero => intro  m  hf; cases (show (none : Option _) = some z from hf)
  | succ n ih => intro  m  hf; exact wX5_nextToken_b54 E z  _  ih  m  hf
theorem wX5_nextToken_b46 (E : pEv) (z : Int32 × pMem) (m : pMem) (hf : sX5_nextToken_b46  m = some z) : gM E kX5_nextToken z 46 [(0, .ref (eA E 6))] [] m := by
  unfold sX5_nextToken_b46 at hf
  refine g_aload_n (q := 0) dX5_nextToken_46 rfl rfl ?_
  refine g_aload_n (q := 0) dX5_nextToken_47 rfl rfl ?_
  refine g_get dX5_nextToken_48 fX5_22 (obX5 E m) (gvX5_3 E m) ?_
  refine g_put dX5_nextToken_51 fX5_25 fwX5_4 rfl rfl (obX5 E m) (Nat.le_of_ble_eq_true rfl) (psX5_4 E m _) ?_
  refine nmG hf (fun m6 hf => ?_)
  exact wX5_nextToken_l54 E z  5000 m6 hf
theorem wX5_nextToken_b8 (E : pEv) (z : Int32 × pMem) (k8 : pMem → gO) (ih8 : ∀  (m : pMem), k8  m = some z → gM E kX5_nextToken z 8 [(0, .ref (eA E 6))] [] m) (m : pMem) (hf : sX5_nextToken_b8 k8 m = some z) : gM E kX5_nextToken z 8 [(0, .ref (eA E 6))] [] m := by
  unfold sX5_nextToken_b8 at hf
  refine g_aload_n (q := 0) dX5_nextToken_8 rfl rfl ?_
  refine g_get dX5_nextToken_9 fX5_22 (obX5 E m) (gvX5_3 E m) ?_
  refine g_aload_n (q := 0) dX5_nextToken_12 rfl rfl ?_
  refine g_get dX5_nextToken_13 fX5_15 (obX5 E m) (gvX5_1 E m) ?_
  refine g_icmp_ge (tgt := 46) dX5_nextToken_16 (by decide) (fun c2 => ?_) (fun c2 => ?_)
  · have hf := it_ hf c2
    exact wX5_nextToken_b46 E z  m hf
  · have hf := ie_ hf c2
    refine g_aload_n (q := 0) dX5_nextToken_19 rfl rfl ?_
    refine g_get dX5_nextToken_20 fX5_9 (obX5 E m) (gvX5_0 E m) ?_
    refine g_aload_n (q := 0) dX5_nextToken_23 rfl rfl ?_
    refine g_get dX5_nextToken_24 fX5_22 (obX5 E m) (gvX5_3 E m) ?_
    obtain ⟨h3, hf⟩ := gd_ hf
    refine g_iald dX5_nextToken_27 ar_52 h3 ?_
    refine g_bipush (v := 32) dX5_nextToken_28 kB_32 ?_
    refine g_icmp_ne (tgt := 46) dX5_nextToken_30 (by decide) (fun c4 => ?_) (fun c4 => ?_)
    · have hf := it_ hf c4
      exact wX5_nextToken_b46 E z  m hf
    · have hf := ie_ hf (not_not_intro c4)
      refine g_aload_n (q := 0) dX5_nextToken_33 rfl rfl ?_
      refine g_dup dX5_nextToken_34 rfl ?_
      refine g_get dX5_nextToken_35 fX5_22 (obX5 E m) (gvX5_3 E m) ?_
      refine g_iconst (v := 1) dX5_nextToken_38 kI_1 ?_
      refine g_iadd dX5_nextToken_39 ?_
      refine g_put dX5_nextToken_40 fX5_22 fwX5_3 rfl rfl (obX5 E m) (Nat.le_of_ble_eq_true rfl) (psX5_3 E m _) ?_
      refine nmG hf (fun m5 hf => ?_)
      refine g_goto (tgt := 8) dX5_nextToken_43 (by decide) ?_
      exact ih8 m5 hf
theorem wX5_nextToken_l8 (E : pEv) (z : Int32 × pMem) : ∀ (n : Nat) (m : pMem), sX5_nextToken_l8 n  m = some z → gM E kX5_nextToken z 8 [(0, .ref (eA E 6))] [] m := by
  intro n
  induction n with
  | zero => intro  m  hf; cases (show (none : Option _) = some z from hf)
  | succ n ih => intro  m  hf; exact wX5_nextToken_b8 E z  _  ih  m  hf
theorem wX5_nextToken_b0 (E : pEv) (z : Int32 × pMem) (m : pMem) (hf : sX5_nextToken  m = some z) : gM E kX5_nextToken z 0 [(0, .ref (eA E 6))] [] m := by
  unfold sX5_nextToken at hf
  refine g_aload_n (q := 0) dX5_nextToken_0 rfl rfl ?_
  refine g_aload_n (q := 0) dX5_nextToken_1 rfl rfl ?_
  refine g_get dX5_nextToken_2 fX5_25 (obX5 E m) (gvX5_4 E m) ?_
  refine g_put dX5_nextToken_5 fX5_22 fwX5_3 rfl rfl (obX5 E m) (Nat.le_of_ble_eq_true rfl) (psX5_3 E m _) ?_
  refine nmG hf (fun m1 hf => ?_)
  exact wX5_nextToken_l8 E z  5000 m1 hf
theorem tX5_nextToken (E : pEv) (m : pMem) {z : Int32 × pMem} (hf : sX5_nextToken  m = some z) : gCn E yX5_nextToken kX5_nextToken [.ref (eA E 6)] m z := gCn_of (by decide +kernel) rfl rfl rfl (Nat.le_of_ble_eq_true rfl) rfl (wX5_nextToken_b0 E z  m  hf)
theorem wX5_isWord_b20 (E : pEv) (z : Int32) (k20 : Nat → Int32 → pMem → (Option Int32)) (ih20 : ∀ (l1 : Nat) (l2 : Int32)  (m : pMem) (hl1 : l1 < 14), k20 l1 l2 m = some z → gM E kX5_isWord (z, m) 20 [(0, .ref (eA E 6)), (1, .ref (eK E l1)), (2, .int l2)] [] m) (l1 : Nat) (l2 : Int32) (m : pMem) (hl1 : l1 < 14) (hf : sX5_isWord_b20 k20 l1 l2 m = some z) : gM E kX5_isWord (z, m) 20 [(0, .ref (eA E 6)), (1, .ref (eK E l1)), (2, .int l2)] [] m := by
  unfold sX5_isWord_b20 at hf
  refine g_iload_n (q := 2) dX5_isWord_20 rfl rfl ?_
  refine g_aload_n (q := 1) dX5_isWord_21 rfl rfl ?_
  refine g_slen hl1 dX5_isWord_22 mX5_110 (⟨rfl, rfl, Nat.le_of_ble_eq_true rfl, Nat.le_of_ble_eq_true rfl, Nat.le_of_ble_eq_true rfl, Nat.le_of_ble_eq_true rfl⟩) (Nat.le_of_ble_eq_true rfl) ?_
  refine g_icmp_ge (tgt := 55) dX5_isWord_25 (by decide) (fun c2 => ?_) (fun c2 => ?_)
  · have hf := it_ hf c2
    refine g_iconst (v := 1) dX5_isWord_55 kI_1 ?_
    exact g_ret dX5_isWord_56 rfl kz_1 (by rw [Option.some.inj hf])
  · have hf := ie_ hf c2
    refine g_aload_n (q := 0) dX5_isWord_28 rfl rfl ?_
    refine g_get dX5_isWord_29 fX5_9 (obX5 E m) (gvX5_0 E m) ?_
    refine g_aload_n (q := 0) dX5_isWord_32 rfl rfl ?_
    refine g_get dX5_isWord_33 fX5_22 (obX5 E m) (gvX5_3 E m) ?_
    refine g_iload_n (q := 2) dX5_isWord_36 rfl rfl ?_
    refine g_iadd dX5_isWord_37 ?_
    obtain ⟨h3, hf⟩ := gd_ hf
    refine g_iald dX5_isWord_38 ar_52 h3 ?_
    refine g_aload_n (q := 1) dX5_isWord_39 rfl rfl ?_
    refine g_iload_n (q := 2) dX5_isWord_40 rfl rfl ?_
    obtain ⟨h4, hf⟩ := gd_ hf
    refine g_schr hl1 h4 dX5_isWord_41 mX5_114 (⟨rfl, rfl, Nat.le_of_ble_eq_true rfl, Nat.le_of_ble_eq_true rfl, Nat.le_of_ble_eq_true rfl, Nat.le_of_ble_eq_true rfl⟩) (Nat.le_of_ble_eq_true rfl) ?_
    refine g_icmp_eq (tgt := 49) dX5_isWord_44 (by decide) (fun c5 => ?_) (fun c5 => ?_)
    · have hf := it_ hf c5
      refine g_iinc (q := 2) (v := l2 + 1) dX5_isWord_49 rfl (by rw [kI_1]) (Nat.le_of_ble_eq_true rfl) rfl ?_
      refine g_goto (tgt := 20) dX5_isWord_52 (by decide) ?_
      refine g_lv [1, 2, 0] rfl ?_
      exact ih20 l1 (l2 + 1) m hl1 hf
    · have hf := ie_ hf c5
      refine g_iconst (v := 0) dX5_isWord_47 kI_0 ?_
      exact g_ret dX5_isWord_48 rfl kz_0 (by rw [Option.some.inj hf])
theorem wX5_isWord_l20 (E : pEv) (z : Int32) : ∀ (n : Nat) (l1 : Nat) (l2 : Int32) (m : pMem) (hl1 : l1 < 14), sX5_isWord_l20 n l1 l2 m = some z → gM E kX5_isWord (z, m) 20 [(0, .ref (eA E 6)), (1, .ref (eK E l1)), (2, .int l2)] [] m := by
  intro n
  induction n with
  | zero => intro l1 l2 m hl1 hf; cases (show (none : Option _) = some z from hf)
  | succ n ih => intro l1 l2 m hl1 hf; exact wX5_isWord_b20 E z  _  ih l1 l2 m hl1 hf
theorem wX5_isWord_b0 (E : pEv) (z : Int32) (a1 : Nat) (m : pMem) (ha1 : a1 < 14) (hf : sX5_isWord a1 m = some z) : gM E kX5_isWord (z, m) 0 [(0, .ref (eA E 6)), (1, .ref (eK E a1))] [] m := by
  unfold sX5_isWord at hf
  refine g_aload_n (q := 0) dX5_isWord_0 rfl rfl ?_
  refine g_get dX5_isWord_1 fX5_25 (obX5 E m) (gvX5_4 E m) ?_
  refine g_aload_n (q := 0) dX5_isWord_4 rfl rfl ?_
  refine g_get dX5_isWord_5 fX5_22 (obX5 E m) (gvX5_3 E m) ?_
  refine g_isub dX5_isWord_8 ?_
  refine g_aload_n (q := 1) dX5_isWord_9 rfl rfl ?_
  refine g_slen ha1 dX5_isWord_10 mX5_110 (⟨rfl, rfl, Nat.le_of_ble_eq_true rfl, Nat.le_of_ble_eq_true rfl, Nat.le_of_ble_eq_true rfl, Nat.le_of_ble_eq_true rfl⟩) (Nat.le_of_ble_eq_true rfl) ?_
  refine g_icmp_eq (tgt := 18) dX5_isWord_13 (by decide) (fun c1 => ?_) (fun c1 => ?_)
  · have hf := it_ hf c1
    refine g_iconst (v := 0) dX5_isWord_18 kI_0 ?_
    refine g_istore_n dX5_isWord_19 rfl (Nat.le_of_ble_eq_true rfl) rfl ?_
    refine g_lv [1, 2, 0] rfl ?_
    exact wX5_isWord_l20 E z  5000 a1 0 m ha1 hf
  · have hf := ie_ hf c1
    refine g_iconst (v := 0) dX5_isWord_16 kI_0 ?_
    exact g_ret dX5_isWord_17 rfl kz_0 (by rw [Option.some.inj hf])
theorem tX5_isWord (E : pEv) (m : pMem) (a1 : Nat) (ha1 : a1 < 14) {z : Int32} (hf : sX5_isWord a1 m = some z) : gCn E yX5_isWord kX5_isWord [.ref (eA E 6), .ref (eK E a1)] m (z, m) := gCn_of (by decide +kernel) rfl rfl rfl (Nat.le_of_ble_eq_true rfl) rfl (wX5_isWord_b0 E z a1 m ha1 hf)
theorem wX5_put_b0 (E : pEv) (z : Int32 × pMem) (a1 : Int32) (a2 : Int32) (m : pMem) (hf : sX5_put a1 a2 m = some z) : gM E kX5_put z 0 [(0, .ref (eA E 6)), (1, .int a1), (2, .int a2)] [] m := by
  unfold sX5_put at hf
  refine g_aload_n (q := 0) dX5_put_0 rfl rfl ?_
  refine g_get dX5_put_1 fX5_31 (obX5 E m) (gvX5_6 E m) ?_
  refine g_iload_n (q := 1) dX5_put_4 rfl rfl ?_
  refine g_iload_n (q := 2) dX5_put_5 rfl rfl ?_
  obtain ⟨h1, hf⟩ := gd_ hf
  refine g_iast dX5_put_6 ar_54 h1 ?_
  refine nmG hf (fun m2 hf => ?_)
  refine g_iconst (v := 1) dX5_put_7 kI_1 ?_
  exact g_ret dX5_put_8 rfl kz_1 (Option.some.inj hf).symm
theorem tX5_put (E : pEv) (m : pMem) (a1 : Int32) (a2 : Int32) {z : Int32 × pMem} (hf : sX5_put a1 a2 m = some z) : gCn E yX5_put kX5_put [.ref (eA E 6), .int a1, .int a2] m z := gCn_of (by decide +kernel) rfl rfl rfl (Nat.le_of_ble_eq_true rfl) rfl (wX5_put_b0 E z a1 a2 m  hf)
theorem wX5_readSilence_b0 (E : pEv) (z : Int32 × pMem) (m : pMem) (hf : sX5_readSilence  m = some z) : gM E kX5_readSilence z 0 [(0, .ref (eA E 6))] [] m := by
  unfold sX5_readSilence at hf
  refine g_aload_n (q := 0) dX5_readSilence_0 rfl rfl ?_
  obtain ⟨r1, m3, q2, hf⟩ := cbE_ hf
  refine g_cVv (As := []) dX5_readSilence_1 (tX5_nextToken E m q2) gyX5_nextToken giX5_nextToken gsX5_nextToken mX5_54 (⟨rfl, rfl, Nat.le_of_ble_eq_true rfl, Nat.le_of_ble_eq_true rfl, Nat.le_of_ble_eq_true rfl, Nat.le_of_ble_eq_true rfl⟩) rfl (obX5 E m) rfl rfl rfl (Nat.le_of_ble_eq_true rfl) ?_
  refine g_aload_n (q := 0) dX5_readSilence_4 rfl rfl ?_
  refine g_ldcS (k := 3) dX5_readSilence_5 rfl rfl ?_
  obtain ⟨r4, q5, hf⟩ := cbR_ hf
  refine g_cV (As := [.ref (eK E 3)]) dX5_readSilence_7 (tX5_isWord E m3 3 (Nat.le_of_ble_eq_true rfl) q5) gyX5_isWord giX5_isWord gsX5_isWord mX5_59 (⟨rfl, rfl, Nat.le_of_ble_eq_true rfl, Nat.le_of_ble_eq_true rfl, Nat.le_of_ble_eq_true rfl, Nat.le_of_ble_eq_true rfl⟩) rfl (obX5 E m3) rfl rfl rfl (Nat.le_of_ble_eq_true rfl) ?_
  refine g_if_eq (tgt := 20) dX5_readSilence_10 (by decide) (fun c6 => ?_) (fun c6 => ?_)
  · have hf := it_ hf c6
    refine g_aload_n (q := 0) dX5_readSilence_20 rfl rfl ?_
    refine g_ldcS (k := 4) dX5_readSilence_21 rfl rfl ?_
    obtain ⟨r7, q8, hf⟩ := cbR_ hf
    refine g_cV (As := [.ref (eK E 4)]) dX5_readSilence_23 (tX5_isWord E m3 4 (Nat.le_of_ble_eq_true rfl) q8) gyX5_isWord giX5_isWord gsX5_isWord mX5_59 (⟨rfl, rfl, Nat.le_of_ble_eq_true rfl, Nat.le_of_ble_eq_true rfl, Nat.le_of_ble_eq_true rfl, Nat.le_of_ble_eq_true rfl⟩) rfl (obX5 E m3) rfl rfl rfl (Nat.le_of_ble_eq_true rfl) ?_
    refine g_if_eq (tgt := 36) dX5_readSilence_26 (by decide) (fun c9 => ?_) (fun c9 => ?_)
    · have hf := it_ hf c9
      refine g_iconst (v := 0) dX5_readSilence_36 kI_0 ?_
      exact g_ret dX5_readSilence_37 rfl kz_0 (Option.some.inj hf).symm
    · have hf := ie_ hf c9
      refine g_aload_n (q := 0) dX5_readSilence_29 rfl rfl ?_
      refine g_iconst (v := 1) dX5_readSilence_30 kI_1 ?_
      refine g_iconst (v := 1) dX5_readSilence_31 kI_1 ?_
      obtain ⟨r10, m12, q11, hf⟩ := cbE_ hf
      refine g_cV (As := [.int 1, .int 1]) dX5_readSilence_32 (tX5_put E m3 1 1 q11) gyX5_put giX5_put gsX5_put mX5_63 (⟨rfl, rfl, Nat.le_of_ble_eq_true rfl, Nat.le_of_ble_eq_true rfl, Nat.le_of_ble_eq_true rfl, Nat.le_of_ble_eq_true rfl⟩) rfl (obX5 E m3) rfl rfl rfl (Nat.le_of_ble_eq_true rfl) ?_
      exact g_retz dX5_readSilence_35 rfl (Option.some.inj hf).symm
  · have hf := ie_ hf c6
    refine g_aload_n (q := 0) dX5_readSilence_13 rfl rfl ?_
    refine g_iconst (v := 1) dX5_readSilence_14 kI_1 ?_
    refine g_iconst (v := 0) dX5_readSilence_15 kI_0 ?_
    obtain ⟨r13, m15, q14, hf⟩ := cbE_ hf
    refine g_cV (As := [.int 1, .int 0]) dX5_readSilence_16 (tX5_put E m3 1 0 q14) gyX5_put giX5_put gsX5_put mX5_63 (⟨rfl, rfl, Nat.le_of_ble_eq_true rfl, Nat.le_of_ble_eq_true rfl, Nat.le_of_ble_eq_true rfl, Nat.le_of_ble_eq_true rfl⟩) rfl (obX5 E m3) rfl rfl rfl (Nat.le_of_ble_eq_true rfl) ?_
    exact g_retz dX5_readSilence_19 rfl (Option.some.inj hf).symm
theorem tX5_readSilence (E : pEv) (m : pMem) {z : Int32 × pMem} (hf : sX5_readSilence  m = some z) : gCn E yX5_readSilence kX5_readSilence [.ref (eA E 6)] m z := gCn_of (by decide +kernel) rfl rfl rfl (Nat.le_of_ble_eq_true rfl) rfl (wX5_readSilence_b0 E z  m  hf)
theorem wX5_readNumber_b43 (E : pEv) (z : Int32 × pMem) (m : pMem) (hf : sX5_readNumber_b43  m = some z) : gM E kX5_readNumber z 43 [] [] m := by
  unfold sX5_readNumber_b43 at hf
  refine g_iconst (v := 0) dX5_readNumber_43 kI_0 ?_
  exact g_ret dX5_readNumber_44 rfl kz_0 (Option.some.inj hf).symm
theorem wX5_readNumber_b52 (E : pEv) (z : Int32 × pMem) (k52 : Int32 → Int32 → pMem → gO) (ih52 : ∀ (l1 : Int32) (l2 : Int32)  (m : pMem), k52 l1 l2 m = some z → gM E kX5_readNumber z 52 [(0, .ref (eA E 6)), (1, .int l1), (2, .int l2)] [] m) (l1 : Int32) (l2 : Int32) (m : pMem) (hf : sX5_readNumber_b52 k52 l1 l2 m = some z) : gM E kX5_readNumber z 52 [(0, .ref (eA E 6)), (1, .int l1), (2, .int l2)] [] m := by
  unfold sX5_readNumber_b52 at hf
  refine g_iload_n (q := 2) dX5_readNumber_52 rfl rfl ?_
  refine g_aload_n (q := 0) dX5_readNumber_53 rfl rfl ?_
  refine g_get dX5_readNumber_54 fX5_25 (obX5 E m) (gvX5_4 E m) ?_
  refine g_icmp_ge (tgt := 81) dX5_readNumber_57 (by decide) (fun c11 => ?_) (fun c11 => ?_)
  · have hf := it_ hf c11
    refine g_aload_n (q := 0) dX5_readNumber_81 rfl rfl ?_
    refine g_iconst (v := 2) dX5_readNumber_82 kI_2 ?_
    refine g_iload_n (q := 1) dX5_readNumber_83 rfl rfl ?_
    obtain ⟨r12, m14, q13, hf⟩ := cbE_ hf
    refine g_cV (As := [.int 2, .int l1]) dX5_readNumber_84 (tX5_put E m 2 l1 q13) gyX5_put giX5_put gsX5_put mX5_63 (⟨rfl, rfl, Nat.le_of_ble_eq_true rfl, Nat.le_of_ble_eq_true rfl, Nat.le_of_ble_eq_true rfl, Nat.le_of_ble_eq_true rfl⟩) rfl (obX5 E m) rfl rfl rfl (Nat.le_of_ble_eq_true rfl) ?_
    exact g_retz dX5_readNumber_87 rfl (Option.some.inj hf).symm
  · have hf := ie_ hf c11
    refine g_iload_n (q := 1) dX5_readNumber_60 rfl rfl ?_
    refine g_bipush (v := 10) dX5_readNumber_61 kB_10 ?_
    refine g_imul dX5_readNumber_63 ?_
    refine g_aload_n (q := 0) dX5_readNumber_64 rfl rfl ?_
    refine g_get dX5_readNumber_65 fX5_9 (obX5 E m) (gvX5_0 E m) ?_
    refine g_iload_n (q := 2) dX5_readNumber_68 rfl rfl ?_
    obtain ⟨h15, hf⟩ := gd_ hf
    refine g_iald dX5_readNumber_69 ar_52 h15 ?_
    refine g_iadd dX5_readNumber_70 ?_
    refine g_bipush (v := 48) dX5_readNumber_71 kB_48 ?_
    refine g_isub dX5_readNumber_73 ?_
    refine nmI hf (fun x16 hf => ?_)
    refine g_istore_n dX5_readNumber_74 rfl (Nat.le_of_ble_eq_true rfl) rfl ?_
    refine g_iinc (q := 2) (v := l2 + 1) dX5_readNumber_75 rfl (by rw [kI_1]) (Nat.le_of_ble_eq_true rfl) rfl ?_
    refine g_goto (tgt := 52) dX5_readNumber_78 (by decide) ?_
    refine g_lv [2, 1, 0] rfl ?_
    exact ih52 x16 (l2 + 1) m hf
theorem wX5_readNumber_l52 (E : pEv) (z : Int32 × pMem) : ∀ (n : Nat) (l1 : Int32) (l2 : Int32) (m : pMem), sX5_readNumber_l52 n l1 l2 m = some z → gM E kX5_readNumber z 52 [(0, .ref (eA E 6)), (1, .int l1), (2, .int l2)] [] m := by
  intro n
  induction n with
  | zero => intro l1 l2 m  hf; cases (show (none : Option _) = some z from hf)
  | succ n ih => intro l1 l2 m  hf; exact wX5_readNumber_b52 E z  _  ih l1 l2 m  hf
theorem wX5_readNumber_b0 (E : pEv) (z : Int32 × pMem) (m : pMem) (hf : sX5_readNumber  m = some z) : gM E kX5_readNumber z 0 [(0, .ref (eA E 6))] [] m := by
  unfold sX5_readNumber at hf
  refine g_aload_n (q := 0) dX5_readNumber_0 rfl rfl ?_
  obtain ⟨r1, m3, q2, hf⟩ := cbE_ hf
  refine g_cVv (As := []) dX5_readNumber_1 (tX5_nextToken E m q2) gyX5_nextToken giX5_nextToken gsX5_nextToken mX5_54 (⟨rfl, rfl, Nat.le_of_ble_eq_true rfl, Nat.le_of_ble_eq_true rfl, Nat.le_of_ble_eq_true rfl, Nat.le_of_ble_eq_true rfl⟩) rfl (obX5 E m) rfl rfl rfl (Nat.le_of_ble_eq_true rfl) ?_
  refine g_aload_n (q := 0) dX5_readNumber_4 rfl rfl ?_
  refine g_get dX5_readNumber_5 fX5_25 (obX5 E m3) (gvX5_4 E m3) ?_
  refine g_aload_n (q := 0) dX5_readNumber_8 rfl rfl ?_
  refine g_get dX5_readNumber_9 fX5_22 (obX5 E m3) (gvX5_3 E m3) ?_
  refine g_icmp_le (tgt := 43) dX5_readNumber_12 (by decide) (fun c4 => ?_) (fun c4 => ?_)
  · have hf := it_ hf c4
    refine g_lv [] rfl ?_
    exact wX5_readNumber_b43 E z  m3 hf
  · have hf := ie_ hf c4
    refine g_aload_n (q := 0) dX5_readNumber_15 rfl rfl ?_
    refine g_get dX5_readNumber_16 fX5_25 (obX5 E m3) (gvX5_4 E m3) ?_
    refine g_aload_n (q := 0) dX5_readNumber_19 rfl rfl ?_
    refine g_get dX5_readNumber_20 fX5_22 (obX5 E m3) (gvX5_3 E m3) ?_
    refine g_isub dX5_readNumber_23 ?_
    refine g_iconst (v := 3) dX5_readNumber_24 kI_3 ?_
    refine g_icmp_gt (tgt := 43) dX5_readNumber_25 (by decide) (fun c5 => ?_) (fun c5 => ?_)
    · have hf := it_ hf c5
      refine g_lv [] rfl ?_
      exact wX5_readNumber_b43 E z  m3 hf
    · have hf := ie_ hf c5
      refine g_aload_n (q := 0) dX5_readNumber_28 rfl rfl ?_
      refine g_get dX5_readNumber_29 fX5_9 (obX5 E m3) (gvX5_0 E m3) ?_
      refine g_aload_n (q := 0) dX5_readNumber_32 rfl rfl ?_
      refine g_get dX5_readNumber_33 fX5_22 (obX5 E m3) (gvX5_3 E m3) ?_
      obtain ⟨h6, hf⟩ := gd_ hf
      refine g_iald dX5_readNumber_36 ar_52 h6 ?_
      obtain ⟨r7, q8, hf⟩ := cbR_ hf
      refine g_cS (As := [.int (m3.1 52 ((m3.1 6 3).toNatClampNeg))]) dX5_readNumber_37 (tX5_isDigit E m3 (m3.1 52 ((m3.1 6 3).toNatClampNeg)) q8) gyX5_isDigit giX5_isDigit mX5_103 (⟨rfl, rfl, Nat.le_of_ble_eq_true rfl, Nat.le_of_ble_eq_true rfl, Nat.le_of_ble_eq_true rfl, Nat.le_of_ble_eq_true rfl⟩) rfl rfl rfl (Nat.le_of_ble_eq_true rfl) ?_
      refine g_if_ne (tgt := 45) dX5_readNumber_40 (by decide) (fun c9 => ?_) (fun c9 => ?_)
      · have hf := it_ hf c9
        refine g_iconst (v := 0) dX5_readNumber_45 kI_0 ?_
        refine g_istore_n dX5_readNumber_46 rfl (Nat.le_of_ble_eq_true rfl) rfl ?_
        refine g_aload_n (q := 1) dX5_readNumber_47 rfl rfl ?_
        refine g_get dX5_readNumber_48 fX5_22 (obX5 E m3) (gvX5_3 E m3) ?_
        refine nmI hf (fun x10 hf => ?_)
        refine g_istore_n dX5_readNumber_51 rfl (Nat.le_of_ble_eq_true rfl) rfl ?_
        refine g_lv [2, 1, 0] rfl ?_
        exact wX5_readNumber_l52 E z  5000 0 x10 m3 hf
      · have hf := ie_ hf (not_not_intro c9)
        refine g_lv [] rfl ?_
        exact wX5_readNumber_b43 E z  m3 hf
theorem tX5_readNumber (E : pEv) (m : pMem) {z : Int32 × pMem} (hf : sX5_readNumber  m = some z) : gCn E yX5_readNumber kX5_readNumber [.ref (eA E 6)] m z := gCn_of (by decide +kernel) rfl rfl rfl (Nat.le_of_ble_eq_true rfl) rfl (wX5_readNumber_b0 E z  m  hf)
theorem wX5_readChoice_b0 (E : pEv) (z : Int32 × pMem) (a1 : Int32) (a2 : Nat) (a3 : Nat) (a4 : Nat) (m : pMem) (ha2 : a2 < 14) (ha3 : a3 < 14) (ha4 : a4 < 14) (hf : sX5_readChoice a1 a2 a3 a4 m = some z) : gM E kX5_readChoice z 0 [(0, .ref (eA E 6)), (1, .int a1), (2, .ref (eK E a2)), (3, .ref (eK E a3)), (4, .ref (eK E a4))] [] m := by
  unfold sX5_readChoice at hf
  refine g_aload_n (q := 0) dX5_readChoice_0 rfl rfl ?_
  obtain ⟨r1, m3, q2, hf⟩ := cbE_ hf
  refine g_cVv (As := []) dX5_readChoice_1 (tX5_nextToken E m q2) gyX5_nextToken giX5_nextToken gsX5_nextToken mX5_54 (⟨rfl, rfl, Nat.le_of_ble_eq_true rfl, Nat.le_of_ble_eq_true rfl, Nat.le_of_ble_eq_true rfl, Nat.le_of_ble_eq_true rfl⟩) rfl (obX5 E m) rfl rfl rfl (Nat.le_of_ble_eq_true rfl) ?_
  refine g_aload_n (q := 0) dX5_readChoice_4 rfl rfl ?_
  refine g_aload_n (q := 2) dX5_readChoice_5 rfl rfl ?_
  obtain ⟨r4, q5, hf⟩ := cbR_ hf
  refine g_cV (As := [.ref (eK E a2)]) dX5_readChoice_6 (tX5_isWord E m3 a2 ha2 q5) gyX5_isWord giX5_isWord gsX5_isWord mX5_59 (⟨rfl, rfl, Nat.le_of_ble_eq_true rfl, Nat.le_of_ble_eq_true rfl, Nat.le_of_ble_eq_true rfl, Nat.le_of_ble_eq_true rfl⟩) rfl (obX5 E m3) rfl rfl rfl (Nat.le_of_ble_eq_true rfl) ?_
  refine g_if_eq (tgt := 19) dX5_readChoice_9 (by decide) (fun c6 => ?_) (fun c6 => ?_)
  · have hf := it_ hf c6
    refine g_aload_n (q := 0) dX5_readChoice_19 rfl rfl ?_
    refine g_aload_n (q := 3) dX5_readChoice_20 rfl rfl ?_
    obtain ⟨r7, q8, hf⟩ := cbR_ hf
    refine g_cV (As := [.ref (eK E a3)]) dX5_readChoice_21 (tX5_isWord E m3 a3 ha3 q8) gyX5_isWord giX5_isWord gsX5_isWord mX5_59 (⟨rfl, rfl, Nat.le_of_ble_eq_true rfl, Nat.le_of_ble_eq_true rfl, Nat.le_of_ble_eq_true rfl, Nat.le_of_ble_eq_true rfl⟩) rfl (obX5 E m3) rfl rfl rfl (Nat.le_of_ble_eq_true rfl) ?_
    refine g_if_eq (tgt := 34) dX5_readChoice_24 (by decide) (fun c9 => ?_) (fun c9 => ?_)
    · have hf := it_ hf c9
      refine g_aload_n (q := 0) dX5_readChoice_34 rfl rfl ?_
      refine g_aload (q := 4) dX5_readChoice_35 rfl ?_
      obtain ⟨r10, q11, hf⟩ := cbR_ hf
      refine g_cV (As := [.ref (eK E a4)]) dX5_readChoice_37 (tX5_isWord E m3 a4 ha4 q11) gyX5_isWord giX5_isWord gsX5_isWord mX5_59 (⟨rfl, rfl, Nat.le_of_ble_eq_true rfl, Nat.le_of_ble_eq_true rfl, Nat.le_of_ble_eq_true rfl, Nat.le_of_ble_eq_true rfl⟩) rfl (obX5 E m3) rfl rfl rfl (Nat.le_of_ble_eq_true rfl) ?_
      refine g_if_eq (tgt := 50) dX5_readChoice_40 (by decide) (fun c12 => ?_) (fun c12 => ?_)
      · have hf := it_ hf c12
        refine g_iconst (v := 0) dX5_readChoice_50 kI_0 ?_
        exact g_ret dX5_readChoice_51 rfl kz_0 (Option.some.inj hf).symm
      · have hf := ie_ hf c12
        refine g_aload_n (q := 0) dX5_readChoice_43 rfl rfl ?_
        refine g_iload_n (q := 1) dX5_readChoice_44 rfl rfl ?_
        refine g_iconst (v := 2) dX5_readChoice_45 kI_2 ?_
        obtain ⟨r13, m15, q14, hf⟩ := cbE_ hf
        refine g_cV (As := [.int a1, .int 2]) dX5_readChoice_46 (tX5_put E m3 a1 2 q14) gyX5_put giX5_put gsX5_put mX5_63 (⟨rfl, rfl, Nat.le_of_ble_eq_true rfl, Nat.le_of_ble_eq_true rfl, Nat.le_of_ble_eq_true rfl, Nat.le_of_ble_eq_true rfl⟩) rfl (obX5 E m3) rfl rfl rfl (Nat.le_of_ble_eq_true rfl) ?_
        exact g_retz dX5_readChoice_49 rfl (Option.some.inj hf).symm
    · have hf := ie_ hf c9
      refine g_aload_n (q := 0) dX5_readChoice_27 rfl rfl ?_
      refine g_iload_n (q := 1) dX5_readChoice_28 rfl rfl ?_
      refine g_iconst (v := 1) dX5_readChoice_29 kI_1 ?_
      obtain ⟨r16, m18, q17, hf⟩ := cbE_ hf
      refine g_cV (As := [.int a1, .int 1]) dX5_readChoice_30 (tX5_put E m3 a1 1 q17) gyX5_put giX5_put gsX5_put mX5_63 (⟨rfl, rfl, Nat.le_of_ble_eq_true rfl, Nat.le_of_ble_eq_true rfl, Nat.le_of_ble_eq_true rfl, Nat.le_of_ble_eq_true rfl⟩) rfl (obX5 E m3) rfl rfl rfl (Nat.le_of_ble_eq_true rfl) ?_
      exact g_retz dX5_readChoice_33 rfl (Option.some.inj hf).symm
  · have hf := ie_ hf c6
    refine g_aload_n (q := 0) dX5_readChoice_12 rfl rfl ?_
    refine g_iload_n (q := 1) dX5_readChoice_13 rfl rfl ?_
    refine g_iconst (v := 0) dX5_readChoice_14 kI_0 ?_
    obtain ⟨r19, m21, q20, hf⟩ := cbE_ hf
    refine g_cV (As := [.int a1, .int 0]) dX5_readChoice_15 (tX5_put E m3 a1 0 q20) gyX5_put giX5_put gsX5_put mX5_63 (⟨rfl, rfl, Nat.le_of_ble_eq_true rfl, Nat.le_of_ble_eq_true rfl, Nat.le_of_ble_eq_true rfl, Nat.le_of_ble_eq_true rfl⟩) rfl (obX5 E m3) rfl rfl rfl (Nat.le_of_ble_eq_true rfl) ?_
    exact g_retz dX5_readChoice_18 rfl (Option.some.inj hf).symm
theorem tX5_readChoice (E : pEv) (m : pMem) (a1 : Int32) (a2 : Nat) (a3 : Nat) (a4 : Nat) (ha2 : a2 < 14) (ha3 : a3 < 14) (ha4 : a4 < 14) {z : Int32 × pMem} (hf : sX5_readChoice a1 a2 a3 a4 m = some z) : gCn E yX5_readChoice kX5_readChoice [.ref (eA E 6), .int a1, .ref (eK E a2), .ref (eK E a3), .ref (eK E a4)] m z := gCn_of (by decide +kernel) rfl rfl rfl (Nat.le_of_ble_eq_true rfl) rfl (wX5_readChoice_b0 E z a1 a2 a3 a4 m ha2 ha3 ha4 hf)
theorem wX5_readLine_b0 (E : pEv) (z : Int32 × pMem) (m : pMem) (hf : sX5_readLine  m = some z) : gM E kX5_readLine z 0 [(0, .ref (eA E 6))] [] m := by
  unfold sX5_readLine at hf
  refine g_aload_n (q := 0) dX5_readLine_0 rfl rfl ?_
  obtain ⟨r1, m3, q2, hf⟩ := cbE_ hf
  refine g_cVv (As := []) dX5_readLine_1 (tX5_nextToken E m q2) gyX5_nextToken giX5_nextToken gsX5_nextToken mX5_54 (⟨rfl, rfl, Nat.le_of_ble_eq_true rfl, Nat.le_of_ble_eq_true rfl, Nat.le_of_ble_eq_true rfl, Nat.le_of_ble_eq_true rfl⟩) rfl (obX5 E m) rfl rfl rfl (Nat.le_of_ble_eq_true rfl) ?_
  refine g_aload_n (q := 0) dX5_readLine_4 rfl rfl ?_
  refine g_ldcS (k := 0) dX5_readLine_5 rfl rfl ?_
  obtain ⟨r4, q5, hf⟩ := cbR_ hf
  refine g_cV (As := [.ref (eK E 0)]) dX5_readLine_7 (tX5_isWord E m3 0 (Nat.le_of_ble_eq_true rfl) q5) gyX5_isWord giX5_isWord gsX5_isWord mX5_59 (⟨rfl, rfl, Nat.le_of_ble_eq_true rfl, Nat.le_of_ble_eq_true rfl, Nat.le_of_ble_eq_true rfl, Nat.le_of_ble_eq_true rfl⟩) rfl (obX5 E m3) rfl rfl rfl (Nat.le_of_ble_eq_true rfl) ?_
  refine g_if_eq (tgt := 20) dX5_readLine_10 (by decide) (fun c6 => ?_) (fun c6 => ?_)
  · have hf := it_ hf c6
    refine g_aload_n (q := 0) dX5_readLine_20 rfl rfl ?_
    refine g_ldcS (k := 1) dX5_readLine_21 rfl rfl ?_
    obtain ⟨r7, q8, hf⟩ := cbR_ hf
    refine g_cV (As := [.ref (eK E 1)]) dX5_readLine_23 (tX5_isWord E m3 1 (Nat.le_of_ble_eq_true rfl) q8) gyX5_isWord giX5_isWord gsX5_isWord mX5_59 (⟨rfl, rfl, Nat.le_of_ble_eq_true rfl, Nat.le_of_ble_eq_true rfl, Nat.le_of_ble_eq_true rfl, Nat.le_of_ble_eq_true rfl⟩) rfl (obX5 E m3) rfl rfl rfl (Nat.le_of_ble_eq_true rfl) ?_
    refine g_if_eq (tgt := 36) dX5_readLine_26 (by decide) (fun c9 => ?_) (fun c9 => ?_)
    · have hf := it_ hf c9
      refine g_aload_n (q := 0) dX5_readLine_36 rfl rfl ?_
      refine g_ldcS (k := 2) dX5_readLine_37 rfl rfl ?_
      obtain ⟨r10, q11, hf⟩ := cbR_ hf
      refine g_cV (As := [.ref (eK E 2)]) dX5_readLine_39 (tX5_isWord E m3 2 (Nat.le_of_ble_eq_true rfl) q11) gyX5_isWord giX5_isWord gsX5_isWord mX5_59 (⟨rfl, rfl, Nat.le_of_ble_eq_true rfl, Nat.le_of_ble_eq_true rfl, Nat.le_of_ble_eq_true rfl, Nat.le_of_ble_eq_true rfl⟩) rfl (obX5 E m3) rfl rfl rfl (Nat.le_of_ble_eq_true rfl) ?_
      refine g_if_eq (tgt := 50) dX5_readLine_42 (by decide) (fun c12 => ?_) (fun c12 => ?_)
      · have hf := it_ hf c12
        refine g_aload_n (q := 0) dX5_readLine_50 rfl rfl ?_
        refine g_ldcS (k := 5) dX5_readLine_51 rfl rfl ?_
        obtain ⟨r13, q14, hf⟩ := cbR_ hf
        refine g_cV (As := [.ref (eK E 5)]) dX5_readLine_53 (tX5_isWord E m3 5 (Nat.le_of_ble_eq_true rfl) q14) gyX5_isWord giX5_isWord gsX5_isWord mX5_59 (⟨rfl, rfl, Nat.le_of_ble_eq_true rfl, Nat.le_of_ble_eq_true rfl, Nat.le_of_ble_eq_true rfl, Nat.le_of_ble_eq_true rfl⟩) rfl (obX5 E m3) rfl rfl rfl (Nat.le_of_ble_eq_true rfl) ?_
        refine g_if_eq (tgt := 64) dX5_readLine_56 (by decide) (fun c15 => ?_) (fun c15 => ?_)
        · have hf := it_ hf c15
          refine g_aload_n (q := 0) dX5_readLine_64 rfl rfl ?_
          refine g_ldcS (k := 6) dX5_readLine_65 rfl rfl ?_
          obtain ⟨r16, q17, hf⟩ := cbR_ hf
          refine g_cV (As := [.ref (eK E 6)]) dX5_readLine_67 (tX5_isWord E m3 6 (Nat.le_of_ble_eq_true rfl) q17) gyX5_isWord giX5_isWord gsX5_isWord mX5_59 (⟨rfl, rfl, Nat.le_of_ble_eq_true rfl, Nat.le_of_ble_eq_true rfl, Nat.le_of_ble_eq_true rfl, Nat.le_of_ble_eq_true rfl⟩) rfl (obX5 E m3) rfl rfl rfl (Nat.le_of_ble_eq_true rfl) ?_
          refine g_if_eq (tgt := 85) dX5_readLine_70 (by decide) (fun c18 => ?_) (fun c18 => ?_)
          · have hf := it_ hf c18
            refine g_aload_n (q := 0) dX5_readLine_85 rfl rfl ?_
            refine g_ldcS (k := 10) dX5_readLine_86 rfl rfl ?_
            obtain ⟨r19, q20, hf⟩ := cbR_ hf
            refine g_cV (As := [.ref (eK E 10)]) dX5_readLine_88 (tX5_isWord E m3 10 (Nat.le_of_ble_eq_true rfl) q20) gyX5_isWord giX5_isWord gsX5_isWord mX5_59 (⟨rfl, rfl, Nat.le_of_ble_eq_true rfl, Nat.le_of_ble_eq_true rfl, Nat.le_of_ble_eq_true rfl, Nat.le_of_ble_eq_true rfl⟩) rfl (obX5 E m3) rfl rfl rfl (Nat.le_of_ble_eq_true rfl) ?_
            refine g_if_eq (tgt := 106) dX5_readLine_91 (by decide) (fun c21 => ?_) (fun c21 => ?_)
            · have hf := it_ hf c21
              refine g_iconst (v := 0) dX5_readLine_106 kI_0 ?_
              exact g_ret dX5_readLine_107 rfl kz_0 (Option.some.inj hf).symm
            · have hf := ie_ hf c21
              refine g_aload_n (q := 0) dX5_readLine_94 rfl rfl ?_
              refine g_iconst (v := 4) dX5_readLine_95 kI_4 ?_
              refine g_ldcS (k := 11) dX5_readLine_96 rfl rfl ?_
              refine g_ldcS (k := 12) dX5_readLine_98 rfl rfl ?_
              refine g_ldcS (k := 13) dX5_readLine_100 rfl rfl ?_
              obtain ⟨r22, m24, q23, hf⟩ := cbE_ hf
              refine g_cV (As := [.int 4, .ref (eK E 11), .ref (eK E 12), .ref (eK E 13)]) dX5_readLine_102 (tX5_readChoice E m3 4 11 12 13 (Nat.le_of_ble_eq_true rfl) (Nat.le_of_ble_eq_true rfl) (Nat.le_of_ble_eq_true rfl) q23) gyX5_readChoice giX5_readChoice gsX5_readChoice mX5_87 (⟨rfl, rfl, Nat.le_of_ble_eq_true rfl, Nat.le_of_ble_eq_true rfl, Nat.le_of_ble_eq_true rfl, Nat.le_of_ble_eq_true rfl⟩) rfl (obX5 E m3) rfl rfl rfl (Nat.le_of_ble_eq_true rfl) ?_
              exact g_retz dX5_readLine_105 rfl (Option.some.inj hf).symm
          · have hf := ie_ hf c18
            refine g_aload_n (q := 0) dX5_readLine_73 rfl rfl ?_
            refine g_iconst (v := 3) dX5_readLine_74 kI_3 ?_
            refine g_ldcS (k := 7) dX5_readLine_75 rfl rfl ?_
            refine g_ldcS (k := 8) dX5_readLine_77 rfl rfl ?_
            refine g_ldcS (k := 9) dX5_readLine_79 rfl rfl ?_
            obtain ⟨r25, m27, q26, hf⟩ := cbE_ hf
            refine g_cV (As := [.int 3, .ref (eK E 7), .ref (eK E 8), .ref (eK E 9)]) dX5_readLine_81 (tX5_readChoice E m3 3 7 8 9 (Nat.le_of_ble_eq_true rfl) (Nat.le_of_ble_eq_true rfl) (Nat.le_of_ble_eq_true rfl) q26) gyX5_readChoice giX5_readChoice gsX5_readChoice mX5_87 (⟨rfl, rfl, Nat.le_of_ble_eq_true rfl, Nat.le_of_ble_eq_true rfl, Nat.le_of_ble_eq_true rfl, Nat.le_of_ble_eq_true rfl⟩) rfl (obX5 E m3) rfl rfl rfl (Nat.le_of_ble_eq_true rfl) ?_
            exact g_retz dX5_readLine_84 rfl (Option.some.inj hf).symm
        · have hf := ie_ hf c15
          refine g_aload_n (q := 0) dX5_readLine_59 rfl rfl ?_
          obtain ⟨r28, m30, q29, hf⟩ := cbE_ hf
          refine g_cV (As := []) dX5_readLine_60 (tX5_readNumber E m3 q29) gyX5_readNumber giX5_readNumber gsX5_readNumber mX5_76 (⟨rfl, rfl, Nat.le_of_ble_eq_true rfl, Nat.le_of_ble_eq_true rfl, Nat.le_of_ble_eq_true rfl, Nat.le_of_ble_eq_true rfl⟩) rfl (obX5 E m3) rfl rfl rfl (Nat.le_of_ble_eq_true rfl) ?_
          exact g_retz dX5_readLine_63 rfl (Option.some.inj hf).symm
      · have hf := ie_ hf c12
        refine g_aload_n (q := 0) dX5_readLine_45 rfl rfl ?_
        obtain ⟨r31, m33, q32, hf⟩ := cbE_ hf
        refine g_cV (As := []) dX5_readLine_46 (tX5_readSilence E m3 q32) gyX5_readSilence giX5_readSilence gsX5_readSilence mX5_71 (⟨rfl, rfl, Nat.le_of_ble_eq_true rfl, Nat.le_of_ble_eq_true rfl, Nat.le_of_ble_eq_true rfl, Nat.le_of_ble_eq_true rfl⟩) rfl (obX5 E m3) rfl rfl rfl (Nat.le_of_ble_eq_true rfl) ?_
        exact g_retz dX5_readLine_49 rfl (Option.some.inj hf).symm
    · have hf := ie_ hf c9
      refine g_aload_n (q := 0) dX5_readLine_29 rfl rfl ?_
      refine g_iconst (v := 0) dX5_readLine_30 kI_0 ?_
      refine g_iconst (v := 1) dX5_readLine_31 kI_1 ?_
      obtain ⟨r34, m36, q35, hf⟩ := cbE_ hf
      refine g_cV (As := [.int 0, .int 1]) dX5_readLine_32 (tX5_put E m3 0 1 q35) gyX5_put giX5_put gsX5_put mX5_63 (⟨rfl, rfl, Nat.le_of_ble_eq_true rfl, Nat.le_of_ble_eq_true rfl, Nat.le_of_ble_eq_true rfl, Nat.le_of_ble_eq_true rfl⟩) rfl (obX5 E m3) rfl rfl rfl (Nat.le_of_ble_eq_true rfl) ?_
      exact g_retz dX5_readLine_35 rfl (Option.some.inj hf).symm
  · have hf := ie_ hf c6
    refine g_aload_n (q := 0) dX5_readLine_13 rfl rfl ?_
    refine g_iconst (v := 0) dX5_readLine_14 kI_0 ?_
    refine g_iconst (v := 0) dX5_readLine_15 kI_0 ?_
    obtain ⟨r37, m39, q38, hf⟩ := cbE_ hf
    refine g_cV (As := [.int 0, .int 0]) dX5_readLine_16 (tX5_put E m3 0 0 q38) gyX5_put giX5_put gsX5_put mX5_63 (⟨rfl, rfl, Nat.le_of_ble_eq_true rfl, Nat.le_of_ble_eq_true rfl, Nat.le_of_ble_eq_true rfl, Nat.le_of_ble_eq_true rfl⟩) rfl (obX5 E m3) rfl rfl rfl (Nat.le_of_ble_eq_true rfl) ?_
    exact g_retz dX5_readLine_19 rfl (Option.some.inj hf).symm
theorem tX5_readLine (E : pEv) (m : pMem) {z : Int32 × pMem} (hf : sX5_readLine  m = some z) : gCn E yX5_readLine kX5_readLine [.ref (eA E 6)] m z := gCn_of (by decide +kernel) rfl rfl rfl (Nat.le_of_ble_eq_true rfl) rfl (wX5_readLine_b0 E z  m  hf)
theorem wX5_firstFault_b23 (E : pEv) (z : Int32 × pMem) (k23 : Int32 → pMem → gO) (ih23 : ∀ (l1 : Int32)  (m : pMem), k23 l1 m = some z → gM E kX5_firstFault z 23 [(0, .ref (eA E 6)), (1, .int l1)] [] m) (l1 : Int32) (m : pMem) (hf : sX5_firstFault_b23 k23 l1 m = some z) : gM E kX5_firstFault z 23 [(0, .ref (eA E 6)), (1, .int l1)] [] m := by
  unfold sX5_firstFault_b23 at hf
  refine g_iload_n (q := 1) dX5_firstFault_23 rfl rfl ?_
  refine g_bipush (v := 8) dX5_firstFault_24 kB_8 ?_
  refine g_icmp_gt (tgt := 88) dX5_firstFault_26 (by decide) (fun c6 => ?_) (fun c6 => ?_)
  · have hf := it_ hf c6
    refine g_aload_n (q := 0) dX5_firstFault_88 rfl rfl ?_
    refine g_get dX5_firstFault_89 fX5_22 (obX5 E m) (gvX5_3 E m) ?_
    exact g_ret dX5_firstFault_92 rfl rfl (Option.some.inj hf).symm
  · have hf := ie_ hf c6
    refine g_aload_n (q := 0) dX5_firstFault_29 rfl rfl ?_
    obtain ⟨r7, m9, q8, hf⟩ := cbE_ hf
    refine g_cV (As := []) dX5_firstFault_30 (tX5_readLine E m q8) gyX5_readLine giX5_readLine gsX5_readLine mX5_50 (⟨rfl, rfl, Nat.le_of_ble_eq_true rfl, Nat.le_of_ble_eq_true rfl, Nat.le_of_ble_eq_true rfl, Nat.le_of_ble_eq_true rfl⟩) rfl (obX5 E m) rfl rfl rfl (Nat.le_of_ble_eq_true rfl) ?_
    refine g_if_ne (tgt := 41) dX5_firstFault_33 (by decide) (fun c10 => ?_) (fun c10 => ?_)
    · have hf := it_ hf c10
      refine g_aload_n (q := 0) dX5_firstFault_41 rfl rfl ?_
      refine g_iload_n (q := 1) dX5_firstFault_42 rfl rfl ?_
      refine g_put dX5_firstFault_43 fX5_28 fwX5_5 rfl rfl (obX5 E m9) (Nat.le_of_ble_eq_true rfl) (psX5_5 E m9 _) ?_
      refine nmG hf (fun m11 hf => ?_)
      refine g_aload_n (q := 0) dX5_firstFault_46 rfl rfl ?_
      obtain ⟨r12, m14, q13, hf⟩ := cbE_ hf
      refine g_cVv (As := []) dX5_firstFault_47 (tX5_nextToken E m11 q13) gyX5_nextToken giX5_nextToken gsX5_nextToken mX5_54 (⟨rfl, rfl, Nat.le_of_ble_eq_true rfl, Nat.le_of_ble_eq_true rfl, Nat.le_of_ble_eq_true rfl, Nat.le_of_ble_eq_true rfl⟩) rfl (obX5 E m11) rfl rfl rfl (Nat.le_of_ble_eq_true rfl) ?_
      refine g_aload_n (q := 0) dX5_firstFault_50 rfl rfl ?_
      refine g_get dX5_firstFault_51 fX5_22 (obX5 E m14) (gvX5_3 E m14) ?_
      refine g_aload_n (q := 0) dX5_firstFault_54 rfl rfl ?_
      refine g_get dX5_firstFault_55 fX5_15 (obX5 E m14) (gvX5_1 E m14) ?_
      refine g_icmp_lt (tgt := 63) dX5_firstFault_58 (by decide) (fun c15 => ?_) (fun c15 => ?_)
      · have hf := it_ hf c15
        refine g_aload_n (q := 0) dX5_firstFault_63 rfl rfl ?_
        refine g_get dX5_firstFault_64 fX5_9 (obX5 E m14) (gvX5_0 E m14) ?_
        refine g_aload_n (q := 0) dX5_firstFault_67 rfl rfl ?_
        refine g_get dX5_firstFault_68 fX5_22 (obX5 E m14) (gvX5_3 E m14) ?_
        obtain ⟨h16, hf⟩ := gd_ hf
        refine g_iald dX5_firstFault_71 ar_52 h16 ?_
        refine g_bipush (v := 59) dX5_firstFault_72 kB_59 ?_
        refine g_icmp_eq (tgt := 82) dX5_firstFault_74 (by decide) (fun c17 => ?_) (fun c17 => ?_)
        · have hf := it_ hf c17
          refine g_iinc (q := 1) (v := l1 + 1) dX5_firstFault_82 rfl (by rw [kI_1]) (Nat.le_of_ble_eq_true rfl) rfl ?_
          refine g_goto (tgt := 23) dX5_firstFault_85 (by decide) ?_
          refine g_lv [1, 0] rfl ?_
          exact ih23 (l1 + 1) m14 hf
        · have hf := ie_ hf c17
          refine g_aload_n (q := 0) dX5_firstFault_77 rfl rfl ?_
          refine g_get dX5_firstFault_78 fX5_22 (obX5 E m14) (gvX5_3 E m14) ?_
          exact g_ret dX5_firstFault_81 rfl rfl (Option.some.inj hf).symm
      · have hf := ie_ hf c15
        refine g_iconst (v := (-1)) dX5_firstFault_61 kI_m1 ?_
        exact g_ret dX5_firstFault_62 rfl rfl (Option.some.inj hf).symm
    · have hf := ie_ hf (not_not_intro c10)
      refine g_aload_n (q := 0) dX5_firstFault_36 rfl rfl ?_
      refine g_get dX5_firstFault_37 fX5_22 (obX5 E m9) (gvX5_3 E m9) ?_
      exact g_ret dX5_firstFault_40 rfl rfl (Option.some.inj hf).symm
theorem wX5_firstFault_l23 (E : pEv) (z : Int32 × pMem) : ∀ (n : Nat) (l1 : Int32) (m : pMem), sX5_firstFault_l23 n l1 m = some z → gM E kX5_firstFault z 23 [(0, .ref (eA E 6)), (1, .int l1)] [] m := by
  intro n
  induction n with
  | zero => intro l1 m  hf; cases (show (none : Option _) = some z from hf)
  | succ n ih => intro l1 m  hf; exact wX5_firstFault_b23 E z  _  ih l1 m  hf
theorem wX5_firstFault_b0 (E : pEv) (z : Int32 × pMem) (m : pMem) (hf : sX5_firstFault  m = some z) : gM E kX5_firstFault z 0 [(0, .ref (eA E 6))] [] m := by
  unfold sX5_firstFault at hf
  refine g_aload_n (q := 0) dX5_firstFault_0 rfl rfl ?_
  refine g_get dX5_firstFault_1 fX5_31 (obX5 E m) (gvX5_6 E m) ?_
  refine g_iconst (v := 0) dX5_firstFault_4 kI_0 ?_
  obtain ⟨r1, m3, q2, hf⟩ := cbE_ hf
  refine g_cSv (As := [.ref (eA E 54), .int 0]) dX5_firstFault_5 (tJ7_fill_53178 E m 54 5 0 ar_54 q2) gyJ7_fill_53178 giJ7_fill_53178 mX5_44 (⟨rfl, rfl, Nat.le_of_ble_eq_true rfl, Nat.le_of_ble_eq_true rfl, Nat.le_of_ble_eq_true rfl, Nat.le_of_ble_eq_true rfl⟩) rfl rfl rfl (Nat.le_of_ble_eq_true rfl) ?_
  refine g_aload_n (q := 0) dX5_firstFault_8 rfl rfl ?_
  refine g_get dX5_firstFault_9 fX5_31 (obX5 E m3) (gvX5_6 E m3) ?_
  refine g_iconst (v := 2) dX5_firstFault_12 kI_2 ?_
  refine g_bipush (v := 100) dX5_firstFault_13 kB_100 ?_
  refine g_iast dX5_firstFault_15 ar_54 (by decide) ?_
  refine nmG hf (fun m4 hf => ?_)
  refine g_aload_n (q := 0) dX5_firstFault_16 rfl rfl ?_
  refine g_iconst (v := 0) dX5_firstFault_17 kI_0 ?_
  refine g_put dX5_firstFault_18 fX5_25 fwX5_4 rfl rfl (obX5 E m4) (Nat.le_of_ble_eq_true rfl) (psX5_4 E m4 _) ?_
  refine nmG hf (fun m5 hf => ?_)
  refine g_iconst (v := 1) dX5_firstFault_21 kI_1 ?_
  refine g_istore_n dX5_firstFault_22 rfl (Nat.le_of_ble_eq_true rfl) rfl ?_
  refine g_lv [1, 0] rfl ?_
  exact wX5_firstFault_l23 E z  5000 1 m5 hf
theorem tX5_firstFault (E : pEv) (m : pMem) {z : Int32 × pMem} (hf : sX5_firstFault  m = some z) : gCn E yX5_firstFault kX5_firstFault [.ref (eA E 6)] m z := gCn_of (by decide +kernel) rfl rfl rfl (Nat.le_of_ble_eq_true rfl) rfl (wX5_firstFault_b0 E z  m  hf)
theorem wX8_fault_b0 (E : pEv) (z : Int32 × pMem) (m : pMem) (hf : sX8_fault  m = some z) : gM E kX8_fault z 0 [(0, .ref (eA E 0))] [] m := by
  unfold sX8_fault at hf
  refine g_aload_n (q := 0) dX8_fault_0 rfl rfl ?_
  refine g_get dX8_fault_1 fX8_19 (obX8 E m) (gvX8_1 E m) ?_
  obtain ⟨r1, m3, q2, hf⟩ := cbE_ hf
  refine g_cV (As := []) dX8_fault_4 (tX5_firstFault E m q2) gyX5_firstFault giX5_firstFault gsX5_firstFault mX8_149 (⟨rfl, rfl, Nat.le_of_ble_eq_true rfl, Nat.le_of_ble_eq_true rfl, Nat.le_of_ble_eq_true rfl, Nat.le_of_ble_eq_true rfl⟩) rfl (obX5 E m) rfl rfl rfl (Nat.le_of_ble_eq_true rfl) ?_
  exact g_ret dX8_fault_7 rfl rfl (Option.some.inj hf).symm
theorem tX8_fault (E : pEv) (m : pMem) {z : Int32 × pMem} (hf : sX8_fault  m = some z) : gCn E yX8_fault kX8_fault [.ref (eA E 0)] m z := gCn_of (by decide +kernel) rfl rfl rfl (Nat.le_of_ble_eq_true rfl) rfl (wX8_fault_b0 E z  m  hf)
theorem wX8_from_b0 (E : pEv) (z : Int32) (a1 : Int32) (a2 : Int32) (m : pMem) (hf : sX8_from a1 a2 m = some z) : gM E kX8_from (z, m) 0 [(0, .ref (eA E 0)), (1, .int a1), (2, .int a2)] [] m := by
  unfold sX8_from at hf
  refine g_aload_n (q := 0) dX8_from_0 rfl rfl ?_
  refine g_get dX8_from_1 fX8_10 (obX8 E m) (gvX8_0 E m) ?_
  refine g_iload_n (q := 1) dX8_from_4 rfl rfl ?_
  obtain ⟨r1, q2, hf⟩ := cbR_ hf
  refine g_cV (As := [.int a1]) dX8_from_5 (tX2_knowsLand E m a1 q2) gyX2_knowsLand giX2_knowsLand gsX2_knowsLand mX8_119 (⟨rfl, rfl, Nat.le_of_ble_eq_true rfl, Nat.le_of_ble_eq_true rfl, Nat.le_of_ble_eq_true rfl, Nat.le_of_ble_eq_true rfl⟩) rfl (obX2 E m) rfl rfl rfl (Nat.le_of_ble_eq_true rfl) ?_
  refine g_if_ne (tgt := 14) dX8_from_8 (by decide) (fun c3 => ?_) (fun c3 => ?_)
  · have hf := it_ hf c3
    refine g_iload_n (q := 2) dX8_from_14 rfl rfl ?_
    refine g_if_ne (tgt := 28) dX8_from_15 (by decide) (fun c4 => ?_) (fun c4 => ?_)
    · have hf := it_ hf c4
      refine g_iload_n (q := 2) dX8_from_28 rfl rfl ?_
      refine g_iconst (v := 1) dX8_from_29 kI_1 ?_
      refine g_icmp_ne (tgt := 43) dX8_from_30 (by decide) (fun c5 => ?_) (fun c5 => ?_)
      · have hf := it_ hf c5
        refine g_bipush (v := (-3)) dX8_from_43 kB_m3 ?_
        exact g_ret dX8_from_45 rfl rfl (by rw [Option.some.inj hf])
      · have hf := ie_ hf (not_not_intro c5)
        refine g_aload_n (q := 0) dX8_from_33 rfl rfl ?_
        refine g_get dX8_from_34 fX8_10 (obX8 E m) (gvX8_0 E m) ?_
        refine g_get dX8_from_37 fX8_132 (obX2 E m) (gvX2_4 E m) ?_
        refine g_iload_n (q := 1) dX8_from_40 rfl rfl ?_
        obtain ⟨h6, hf⟩ := gd_ hf
        refine g_iald dX8_from_41 ar_22 h6 ?_
        exact g_ret dX8_from_42 rfl rfl (by rw [Option.some.inj hf])
    · have hf := ie_ hf (not_not_intro c4)
      refine g_aload_n (q := 0) dX8_from_18 rfl rfl ?_
      refine g_get dX8_from_19 fX8_10 (obX8 E m) (gvX8_0 E m) ?_
      refine g_get dX8_from_22 fX8_91 (obX2 E m) (gvX2_3 E m) ?_
      refine g_iload_n (q := 1) dX8_from_25 rfl rfl ?_
      obtain ⟨h7, hf⟩ := gd_ hf
      refine g_iald dX8_from_26 ar_21 h7 ?_
      exact g_ret dX8_from_27 rfl rfl (by rw [Option.some.inj hf])
  · have hf := ie_ hf (not_not_intro c3)
    refine g_bipush (v := (-2)) dX8_from_11 kB_m2 ?_
    exact g_ret dX8_from_13 rfl rfl (by rw [Option.some.inj hf])
theorem tX8_from (E : pEv) (m : pMem) (a1 : Int32) (a2 : Int32) {z : Int32} (hf : sX8_from a1 a2 m = some z) : gCn E yX8_from kX8_from [.ref (eA E 0), .int a1, .int a2] m (z, m) := gCn_of (by decide +kernel) rfl rfl rfl (Nat.le_of_ble_eq_true rfl) rfl (wX8_from_b0 E z a1 a2 m  hf)
theorem wX2_addGround_b0 (E : pEv) (z : Int32 × pMem) (a1 : Int32) (a2 : Int32) (m : pMem) (hf : sX2_addGround a1 a2 m = some z) : gM E kX2_addGround z 0 [(0, .ref (eA E 3)), (1, .int a1), (2, .int a2)] [] m := by
  unfold sX2_addGround at hf
  refine g_aload_n (q := 0) dX2_addGround_0 rfl rfl ?_
  refine g_get dX2_addGround_1 fX2_18 (obX2 E m) (gvX2_2 E m) ?_
  refine nmI hf (fun x1 hf => ?_)
  refine g_istore_n dX2_addGround_4 rfl (Nat.le_of_ble_eq_true rfl) rfl ?_
  refine g_aload_n (q := 1) dX2_addGround_5 rfl rfl ?_
  refine g_get dX2_addGround_6 fX2_9 (obX2 E m) (gvX2_0 E m) ?_
  refine g_iload_n (q := 0) dX2_addGround_9 rfl rfl ?_
  refine g_iload_n (q := 2) dX2_addGround_10 rfl rfl ?_
  obtain ⟨h2, hf⟩ := gd_ hf
  refine g_iast dX2_addGround_11 ar_19 h2 ?_
  refine nmG hf (fun m3 hf => ?_)
  refine g_aload_n (q := 1) dX2_addGround_12 rfl rfl ?_
  refine g_get dX2_addGround_13 fX2_15 (obX2 E m3) (gvX2_1 E m3) ?_
  refine g_iload_n (q := 0) dX2_addGround_16 rfl rfl ?_
  refine g_iload_n (q := 3) dX2_addGround_17 rfl rfl ?_
  obtain ⟨h4, hf⟩ := gd_ hf
  refine g_iast dX2_addGround_18 ar_20 h4 ?_
  refine nmG hf (fun m5 hf => ?_)
  refine g_aload_n (q := 1) dX2_addGround_19 rfl rfl ?_
  refine g_get dX2_addGround_20 fX2_60 (obX2 E m5) (gvX2_15 E m5) ?_
  refine g_iconst (v := 0) dX2_addGround_23 kI_0 ?_
  refine g_aald dX2_addGround_24 (by decide) ?_
  refine g_iconst (v := 0) dX2_addGround_25 kI_0 ?_
  refine g_dup2 dX2_addGround_26 rfl rfl ?_
  refine g_iald dX2_addGround_27 (ar_row (by decide)) (by decide) ?_
  refine g_iconst (v := 1) dX2_addGround_28 kI_1 ?_
  refine g_iload_n (q := 0) dX2_addGround_29 rfl rfl ?_
  refine g_ishl dX2_addGround_30 ?_
  refine g_ior dX2_addGround_31 ?_
  refine g_iast dX2_addGround_32 (ar_row (by decide)) (by decide) ?_
  refine nmG hf (fun m6 hf => ?_)
  refine g_aload_n (q := 1) dX2_addGround_33 rfl rfl ?_
  refine g_dup dX2_addGround_34 rfl ?_
  refine g_get dX2_addGround_35 fX2_18 (obX2 E m6) (gvX2_2 E m6) ?_
  refine g_iconst (v := 1) dX2_addGround_38 kI_1 ?_
  refine g_iadd dX2_addGround_39 ?_
  refine g_put dX2_addGround_40 fX2_18 fwX2_2 rfl rfl (obX2 E m6) (Nat.le_of_ble_eq_true rfl) (psX2_2 E m6 _) ?_
  refine nmG hf (fun m7 hf => ?_)
  refine g_iload_n (q := 0) dX2_addGround_43 rfl rfl ?_
  exact g_ret dX2_addGround_44 rfl rfl (Option.some.inj hf).symm
theorem tX2_addGround (E : pEv) (m : pMem) (a1 : Int32) (a2 : Int32) {z : Int32 × pMem} (hf : sX2_addGround a1 a2 m = some z) : gCn E yX2_addGround kX2_addGround [.ref (eA E 3), .int a1, .int a2] m z := gCn_of (by decide +kernel) rfl rfl rfl (Nat.le_of_ble_eq_true rfl) rfl (wX2_addGround_b0 E z a1 a2 m  hf)
theorem wX8_ground_b23 (E : pEv) (z : Int32 × pMem) (m : pMem) (hf : sX8_ground_b23  m = some z) : gM E kX8_ground z 23 [] [] m := by
  unfold sX8_ground_b23 at hf
  refine g_bipush (v := (-3)) dX8_ground_23 kB_m3 ?_
  exact g_ret dX8_ground_25 rfl rfl (Option.some.inj hf).symm
theorem wX8_ground_b0 (E : pEv) (z : Int32 × pMem) (a1 : Int32) (a2 : Int32) (m : pMem) (hf : sX8_ground a1 a2 m = some z) : gM E kX8_ground z 0 [(0, .ref (eA E 0)), (1, .int a1), (2, .int a2)] [] m := by
  unfold sX8_ground at hf
  refine g_iload_n (q := 1) dX8_ground_0 rfl rfl ?_
  refine g_iconst (v := 1) dX8_ground_1 kI_1 ?_
  refine g_icmp_lt (tgt := 23) dX8_ground_2 (by decide) (fun c1 => ?_) (fun c1 => ?_)
  · have hf := it_ hf c1
    refine g_lv [] rfl ?_
    exact wX8_ground_b23 E z  m hf
  · have hf := ie_ hf c1
    refine g_iload_n (q := 1) dX8_ground_5 rfl rfl ?_
    refine g_sipush (v := 999) dX8_ground_6 kS_999 ?_
    refine g_icmp_gt (tgt := 23) dX8_ground_9 (by decide) (fun c2 => ?_) (fun c2 => ?_)
    · have hf := it_ hf c2
      refine g_lv [] rfl ?_
      exact wX8_ground_b23 E z  m hf
    · have hf := ie_ hf c2
      refine g_iload_n (q := 2) dX8_ground_12 rfl rfl ?_
      refine g_if_lt (tgt := 23) dX8_ground_13 (by decide) (fun c3 => ?_) (fun c3 => ?_)
      · have hf := it_ hf c3
        refine g_lv [] rfl ?_
        exact wX8_ground_b23 E z  m hf
      · have hf := ie_ hf c3
        refine g_iload_n (q := 2) dX8_ground_16 rfl rfl ?_
        refine g_sipush (v := 999) dX8_ground_17 kS_999 ?_
        refine g_icmp_le (tgt := 26) dX8_ground_20 (by decide) (fun c4 => ?_) (fun c4 => ?_)
        · have hf := it_ hf c4
          refine g_aload_n (q := 0) dX8_ground_26 rfl rfl ?_
          refine g_get dX8_ground_27 fX8_10 (obX8 E m) (gvX8_0 E m) ?_
          refine g_get dX8_ground_30 fX8_69 (obX2 E m) (gvX2_14 E m) ?_
          refine g_if_le (tgt := 39) dX8_ground_33 (by decide) (fun c5 => ?_) (fun c5 => ?_)
          · have hf := it_ hf c5
            refine g_aload_n (q := 0) dX8_ground_39 rfl rfl ?_
            refine g_get dX8_ground_40 fX8_10 (obX8 E m) (gvX8_0 E m) ?_
            refine g_get dX8_ground_43 fX8_73 (obX2 E m) (gvX2_2 E m) ?_
            refine g_bipush (v := 8) dX8_ground_46 kB_8 ?_
            refine g_icmp_lt (tgt := 54) dX8_ground_48 (by decide) (fun c6 => ?_) (fun c6 => ?_)
            · have hf := it_ hf c6
              refine g_aload_n (q := 0) dX8_ground_54 rfl rfl ?_
              refine g_get dX8_ground_55 fX8_10 (obX8 E m) (gvX8_0 E m) ?_
              refine g_iload_n (q := 1) dX8_ground_58 rfl rfl ?_
              refine g_iload_n (q := 2) dX8_ground_59 rfl rfl ?_
              obtain ⟨r7, m9, q8, hf⟩ := cbE_ hf
              refine g_cV (As := [.int a1, .int a2]) dX8_ground_60 (tX2_addGround E m a1 a2 q8) gyX2_addGround giX2_addGround gsX2_addGround mX8_76 (⟨rfl, rfl, Nat.le_of_ble_eq_true rfl, Nat.le_of_ble_eq_true rfl, Nat.le_of_ble_eq_true rfl, Nat.le_of_ble_eq_true rfl⟩) rfl (obX2 E m) rfl rfl rfl (Nat.le_of_ble_eq_true rfl) ?_
              exact g_ret dX8_ground_63 rfl rfl (Option.some.inj hf).symm
            · have hf := ie_ hf c6
              refine g_bipush (v := (-5)) dX8_ground_51 kB_m5 ?_
              exact g_ret dX8_ground_53 rfl rfl (Option.some.inj hf).symm
          · have hf := ie_ hf c5
            refine g_bipush (v := (-4)) dX8_ground_36 kB_m4 ?_
            exact g_ret dX8_ground_38 rfl rfl (Option.some.inj hf).symm
        · have hf := ie_ hf c4
          refine g_lv [] rfl ?_
          exact wX8_ground_b23 E z  m hf
theorem tX8_ground (E : pEv) (m : pMem) (a1 : Int32) (a2 : Int32) {z : Int32 × pMem} (hf : sX8_ground a1 a2 m = some z) : gCn E yX8_ground kX8_ground [.ref (eA E 0), .int a1, .int a2] m z := gCn_of (by decide +kernel) rfl rfl rfl (Nat.le_of_ble_eq_true rfl) rfl (wX8_ground_b0 E z a1 a2 m  hf)
theorem wJ6_bitCount_0f7a4_b0 (E : pEv) (z : Int32) (a1 : Int32) (m : pMem) (hf : sJ6_bitCount_0f7a4 a1 m = some z) : gM E kJ6_bitCount_0f7a4 (z, m) 0 [(0, .int a1)] [] m := by
  unfold sJ6_bitCount_0f7a4 at hf
  refine g_iload_n (q := 0) dJ6_bitCount_0f7a4_0 rfl rfl ?_
  refine g_iload_n (q := 0) dJ6_bitCount_0f7a4_1 rfl rfl ?_
  refine g_iconst (v := 1) dJ6_bitCount_0f7a4_2 kI_1 ?_
  refine g_iushr dJ6_bitCount_0f7a4_3 ?_
  refine g_ldc_w dJ6_bitCount_0f7a4_4 cJ6_265 ?_
  refine g_iand dJ6_bitCount_0f7a4_7 ?_
  refine g_isub dJ6_bitCount_0f7a4_8 ?_
  refine nmI hf (fun x1 hf => ?_)
  refine g_istore_n dJ6_bitCount_0f7a4_9 rfl (Nat.le_of_ble_eq_true rfl) rfl ?_
  refine g_iload_n (q := 0) dJ6_bitCount_0f7a4_10 rfl rfl ?_
  refine g_ldc_w dJ6_bitCount_0f7a4_11 cJ6_266 ?_
  refine g_iand dJ6_bitCount_0f7a4_14 ?_
  refine g_iload_n (q := 0) dJ6_bitCount_0f7a4_15 rfl rfl ?_
  refine g_iconst (v := 2) dJ6_bitCount_0f7a4_16 kI_2 ?_
  refine g_iushr dJ6_bitCount_0f7a4_17 ?_
  refine g_ldc_w dJ6_bitCount_0f7a4_18 cJ6_266 ?_
  refine g_iand dJ6_bitCount_0f7a4_21 ?_
  refine g_iadd dJ6_bitCount_0f7a4_22 ?_
  refine nmI hf (fun x2 hf => ?_)
  refine g_istore_n dJ6_bitCount_0f7a4_23 rfl (Nat.le_of_ble_eq_true rfl) rfl ?_
  refine g_iload_n (q := 0) dJ6_bitCount_0f7a4_24 rfl rfl ?_
  refine g_iload_n (q := 0) dJ6_bitCount_0f7a4_25 rfl rfl ?_
  refine g_iconst (v := 4) dJ6_bitCount_0f7a4_26 kI_4 ?_
  refine g_iushr dJ6_bitCount_0f7a4_27 ?_
  refine g_iadd dJ6_bitCount_0f7a4_28 ?_
  refine g_ldc_w dJ6_bitCount_0f7a4_29 cJ6_267 ?_
  refine g_iand dJ6_bitCount_0f7a4_32 ?_
  refine nmI hf (fun x3 hf => ?_)
  refine g_istore_n dJ6_bitCount_0f7a4_33 rfl (Nat.le_of_ble_eq_true rfl) rfl ?_
  refine g_iload_n (q := 0) dJ6_bitCount_0f7a4_34 rfl rfl ?_
  refine g_iload_n (q := 0) dJ6_bitCount_0f7a4_35 rfl rfl ?_
  refine g_bipush (v := 8) dJ6_bitCount_0f7a4_36 kB_8 ?_
  refine g_iushr dJ6_bitCount_0f7a4_38 ?_
  refine g_iadd dJ6_bitCount_0f7a4_39 ?_
  refine nmI hf (fun x4 hf => ?_)
  refine g_istore_n dJ6_bitCount_0f7a4_40 rfl (Nat.le_of_ble_eq_true rfl) rfl ?_
  refine g_iload_n (q := 0) dJ6_bitCount_0f7a4_41 rfl rfl ?_
  refine g_iload_n (q := 0) dJ6_bitCount_0f7a4_42 rfl rfl ?_
  refine g_bipush (v := 16) dJ6_bitCount_0f7a4_43 kB_16 ?_
  refine g_iushr dJ6_bitCount_0f7a4_45 ?_
  refine g_iadd dJ6_bitCount_0f7a4_46 ?_
  refine nmI hf (fun x5 hf => ?_)
  refine g_istore_n dJ6_bitCount_0f7a4_47 rfl (Nat.le_of_ble_eq_true rfl) rfl ?_
  refine g_iload_n (q := 0) dJ6_bitCount_0f7a4_48 rfl rfl ?_
  refine g_bipush (v := 63) dJ6_bitCount_0f7a4_49 kB_63 ?_
  refine g_iand dJ6_bitCount_0f7a4_51 ?_
  exact g_ret dJ6_bitCount_0f7a4_52 rfl rfl (by rw [Option.some.inj hf])
theorem tJ6_bitCount_0f7a4 (E : pEv) (m : pMem) (a1 : Int32) {z : Int32} (hf : sJ6_bitCount_0f7a4 a1 m = some z) : gCn E yJ6_bitCount_0f7a4 kJ6_bitCount_0f7a4 [.int a1] m (z, m) := gCn_of (by decide +kernel) rfl rfl rfl (Nat.le_of_ble_eq_true rfl) rfl (wJ6_bitCount_0f7a4_b0 E z a1 m  hf)
theorem wX3_turnsOn_b4 (E : pEv) (z : Int32 × pMem) (k4 : Int32 → Int32 → Int32 → pMem → gO) (ih4 : ∀ (l1 : Int32) (l2 : Int32) (l3 : Int32)  (m : pMem), k4 l1 l2 l3 m = some z → gM E kX3_turnsOn z 4 [(0, .ref (eA E 4)), (1, .int l1), (2, .int l2), (3, .int l3)] [] m) (l1 : Int32) (l2 : Int32) (l3 : Int32) (m : pMem) (hf : sX3_turnsOn_b4 k4 l1 l2 l3 m = some z) : gM E kX3_turnsOn z 4 [(0, .ref (eA E 4)), (1, .int l1), (2, .int l2), (3, .int l3)] [] m := by
  unfold sX3_turnsOn_b4 at hf
  refine g_iload_n (q := 3) dX3_turnsOn_4 rfl rfl ?_
  refine g_aload_n (q := 0) dX3_turnsOn_5 rfl rfl ?_
  refine g_get dX3_turnsOn_6 fX3_24 (obX3 E m) (gvX3_8 E m) ?_
  refine g_icmp_ge (tgt := 41) dX3_turnsOn_9 (by decide) (fun c1 => ?_) (fun c1 => ?_)
  · have hf := it_ hf c1
    refine g_iload_n (q := 2) dX3_turnsOn_41 rfl rfl ?_
    exact g_ret dX3_turnsOn_42 rfl rfl (Option.some.inj hf).symm
  · have hf := ie_ hf c1
    refine g_iload_n (q := 2) dX3_turnsOn_12 rfl rfl ?_
    refine g_aload_n (q := 0) dX3_turnsOn_13 rfl rfl ?_
    refine g_iload_n (q := 3) dX3_turnsOn_14 rfl rfl ?_
    refine g_iload_n (q := 1) dX3_turnsOn_15 rfl rfl ?_
    refine g_iconst (v := 0) dX3_turnsOn_16 kI_0 ?_
    obtain ⟨r2, m4, q3, hf⟩ := cbE_ hf
    refine g_cV (As := [.int l3, .int l1, .int 0]) dX3_turnsOn_17 (tX3_boundOn E m l3 l1 0 q3) gyX3_boundOn giX3_boundOn gsX3_boundOn mX3_135 (⟨rfl, rfl, Nat.le_of_ble_eq_true rfl, Nat.le_of_ble_eq_true rfl, Nat.le_of_ble_eq_true rfl, Nat.le_of_ble_eq_true rfl⟩) rfl (obX3 E m) rfl rfl rfl (Nat.le_of_ble_eq_true rfl) ?_
    refine g_aload_n (q := 0) dX3_turnsOn_20 rfl rfl ?_
    refine g_iload_n (q := 3) dX3_turnsOn_21 rfl rfl ?_
    refine g_iload_n (q := 1) dX3_turnsOn_22 rfl rfl ?_
    refine g_iconst (v := 1) dX3_turnsOn_23 kI_1 ?_
    refine g_isub dX3_turnsOn_24 ?_
    refine g_iconst (v := 0) dX3_turnsOn_25 kI_0 ?_
    obtain ⟨r5, m7, q6, hf⟩ := cbE_ hf
    refine g_cV (As := [.int l3, .int (l1 - (1 : Int32)), .int 0]) dX3_turnsOn_26 (tX3_boundOn E m4 l3 (l1 - (1 : Int32)) 0 q6) gyX3_boundOn giX3_boundOn gsX3_boundOn mX3_135 (⟨rfl, rfl, Nat.le_of_ble_eq_true rfl, Nat.le_of_ble_eq_true rfl, Nat.le_of_ble_eq_true rfl, Nat.le_of_ble_eq_true rfl⟩) rfl (obX3 E m4) rfl rfl rfl (Nat.le_of_ble_eq_true rfl) ?_
    refine g_ixor dX3_turnsOn_29 ?_
    obtain ⟨r8, q9, hf⟩ := cbR_ hf
    refine g_cS (As := [.int (r2 ^^^ r5)]) dX3_turnsOn_30 (tJ6_bitCount_0f7a4 E m7 (r2 ^^^ r5) q9) gyJ6_bitCount_0f7a4 giJ6_bitCount_0f7a4 mX3_138 (⟨rfl, rfl, Nat.le_of_ble_eq_true rfl, Nat.le_of_ble_eq_true rfl, Nat.le_of_ble_eq_true rfl, Nat.le_of_ble_eq_true rfl⟩) rfl rfl rfl (Nat.le_of_ble_eq_true rfl) ?_
    refine g_iadd dX3_turnsOn_33 ?_
    refine nmI hf (fun x10 hf => ?_)
    refine g_istore_n dX3_turnsOn_34 rfl (Nat.le_of_ble_eq_true rfl) rfl ?_
    refine g_iinc (q := 3) (v := l3 + 1) dX3_turnsOn_35 rfl (by rw [kI_1]) (Nat.le_of_ble_eq_true rfl) rfl ?_
    refine g_goto (tgt := 4) dX3_turnsOn_38 (by decide) ?_
    refine g_lv [2, 3, 1, 0] rfl ?_
    exact ih4 l1 x10 (l3 + 1) m7 hf
theorem wX3_turnsOn_l4 (E : pEv) (z : Int32 × pMem) : ∀ (n : Nat) (l1 : Int32) (l2 : Int32) (l3 : Int32) (m : pMem), sX3_turnsOn_l4 n l1 l2 l3 m = some z → gM E kX3_turnsOn z 4 [(0, .ref (eA E 4)), (1, .int l1), (2, .int l2), (3, .int l3)] [] m := by
  intro n
  induction n with
  | zero => intro l1 l2 l3 m  hf; cases (show (none : Option _) = some z from hf)
  | succ n ih => intro l1 l2 l3 m  hf; exact wX3_turnsOn_b4 E z  _  ih l1 l2 l3 m  hf
theorem wX3_turnsOn_b0 (E : pEv) (z : Int32 × pMem) (a1 : Int32) (m : pMem) (hf : sX3_turnsOn a1 m = some z) : gM E kX3_turnsOn z 0 [(0, .ref (eA E 4)), (1, .int a1)] [] m := by
  unfold sX3_turnsOn at hf
  refine g_iconst (v := 0) dX3_turnsOn_0 kI_0 ?_
  refine g_istore_n dX3_turnsOn_1 rfl (Nat.le_of_ble_eq_true rfl) rfl ?_
  refine g_iconst (v := 0) dX3_turnsOn_2 kI_0 ?_
  refine g_istore_n dX3_turnsOn_3 rfl (Nat.le_of_ble_eq_true rfl) rfl ?_
  refine g_lv [2, 3, 1, 0] rfl ?_
  exact wX3_turnsOn_l4 E z  5000 a1 0 0 m hf
theorem tX3_turnsOn (E : pEv) (m : pMem) (a1 : Int32) {z : Int32 × pMem} (hf : sX3_turnsOn a1 m = some z) : gCn E yX3_turnsOn kX3_turnsOn [.ref (eA E 4), .int a1] m z := gCn_of (by decide +kernel) rfl rfl rfl (Nat.le_of_ble_eq_true rfl) rfl (wX3_turnsOn_b0 E z a1 m  hf)
theorem wX0_isMarked_b26 (E : pEv) (z : Int32) (t0 : Int32) (m : pMem) (hf : sX0_isMarked_b26 t0 m = some z) : gM E kX0_isMarked (z, m) 26 [] [.int t0] m := by
  unfold sX0_isMarked_b26 at hf
  exact g_retz dX0_isMarked_26 rfl (by rw [Option.some.inj hf])
theorem wX0_isMarked_b0 (E : pEv) (z : Int32) (a1 : Int32) (m : pMem) (hf : sX0_isMarked a1 m = some z) : gM E kX0_isMarked (z, m) 0 [(0, .ref (eA E 1)), (1, .int a1)] [] m := by
  unfold sX0_isMarked at hf
  refine g_aload_n (q := 0) dX0_isMarked_0 rfl rfl ?_
  refine g_get dX0_isMarked_1 fX0_9 (obX0 E m) (gvX0_0 E m) ?_
  refine g_iload_n (q := 1) dX0_isMarked_4 rfl rfl ?_
  refine g_bipush (v := 6) dX0_isMarked_5 kB_6 ?_
  refine g_ishr dX0_isMarked_7 ?_
  obtain ⟨h1, hf⟩ := gd_ hf
  refine g_lald dX0_isMarked_8 ar_10 h1 ?_
  refine g_iload_n (q := 1) dX0_isMarked_9 rfl rfl ?_
  refine g_bipush (v := 63) dX0_isMarked_10 kB_63 ?_
  refine g_iand dX0_isMarked_12 ?_
  refine g_lshr dX0_isMarked_13 ?_
  refine g_lconst (v := 1) dX0_isMarked_14 kL_1 ?_
  refine g_land dX0_isMarked_15 ?_
  refine g_lconst (v := 0) dX0_isMarked_16 kL_0 ?_
  refine g_lcmp dX0_isMarked_17 ?_
  refine g_if_eq (tgt := 25) dX0_isMarked_18 (by decide) (fun c2 => ?_) (fun c2 => ?_)
  · have hf := it_ hf c2
    refine g_iconst (v := 0) dX0_isMarked_25 kI_0 ?_
    refine g_lv [] rfl ?_
    exact wX0_isMarked_b26 E z  0 m hf
  · have hf := ie_ hf c2
    refine g_iconst (v := 1) dX0_isMarked_21 kI_1 ?_
    refine g_goto (tgt := 26) dX0_isMarked_22 (by decide) ?_
    refine g_lv [] rfl ?_
    exact wX0_isMarked_b26 E z  1 m hf
theorem tX0_isMarked (E : pEv) (m : pMem) (a1 : Int32) {z : Int32} (hf : sX0_isMarked a1 m = some z) : gCn E yX0_isMarked kX0_isMarked [.ref (eA E 1), .int a1] m (z, m) := gCn_of (by decide +kernel) rfl rfl rfl (Nat.le_of_ble_eq_true rfl) rfl (wX0_isMarked_b0 E z a1 m  hf)
theorem wX3_turnsSinceAhead_b4 (E : pEv) (z : Int32 × pMem) (k4 : Int32 → Int32 → Int32 → pMem → gO) (ih4 : ∀ (l1 : Int32) (l2 : Int32) (l3 : Int32)  (m : pMem), k4 l1 l2 l3 m = some z → gM E kX3_turnsSinceAhead z 4 [(0, .ref (eA E 4)), (1, .int l1), (2, .int l2), (3, .int l3)] [] m) (l1 : Int32) (l2 : Int32) (l3 : Int32) (m : pMem) (hf : sX3_turnsSinceAhead_b4 k4 l1 l2 l3 m = some z) : gM E kX3_turnsSinceAhead z 4 [(0, .ref (eA E 4)), (1, .int l1), (2, .int l2), (3, .int l3)] [] m := by
  unfold sX3_turnsSinceAhead_b4 at hf
  refine g_iload_n (q := 3) dX3_turnsSinceAhead_4 rfl rfl ?_
  refine g_aload_n (q := 0) dX3_turnsSinceAhead_5 rfl rfl ?_
  refine g_get dX3_turnsSinceAhead_6 fX3_24 (obX3 E m) (gvX3_8 E m) ?_
  refine g_icmp_ge (tgt := 50) dX3_turnsSinceAhead_9 (by decide) (fun c1 => ?_) (fun c1 => ?_)
  · have hf := it_ hf c1
    refine g_iload_n (q := 2) dX3_turnsSinceAhead_50 rfl rfl ?_
    exact g_ret dX3_turnsSinceAhead_51 rfl rfl (Option.some.inj hf).symm
  · have hf := ie_ hf c1
    refine g_aload_n (q := 0) dX3_turnsSinceAhead_12 rfl rfl ?_
    refine g_iload_n (q := 3) dX3_turnsSinceAhead_13 rfl rfl ?_
    refine g_iload_n (q := 1) dX3_turnsSinceAhead_14 rfl rfl ?_
    refine g_iconst (v := 0) dX3_turnsSinceAhead_15 kI_0 ?_
    obtain ⟨r2, m4, q3, hf⟩ := cbE_ hf
    refine g_cV (As := [.int l3, .int l1, .int 0]) dX3_turnsSinceAhead_16 (tX3_boundOn E m l3 l1 0 q3) gyX3_boundOn giX3_boundOn gsX3_boundOn mX3_135 (⟨rfl, rfl, Nat.le_of_ble_eq_true rfl, Nat.le_of_ble_eq_true rfl, Nat.le_of_ble_eq_true rfl, Nat.le_of_ble_eq_true rfl⟩) rfl (obX3 E m) rfl rfl rfl (Nat.le_of_ble_eq_true rfl) ?_
    refine g_istore dX3_turnsSinceAhead_19 (Nat.le_of_ble_eq_true rfl) rfl ?_
    refine g_iload_n (q := 3) dX3_turnsSinceAhead_21 rfl rfl ?_
    refine g_iload (q := 0) dX3_turnsSinceAhead_22 rfl ?_
    refine g_aload_n (q := 1) dX3_turnsSinceAhead_24 rfl rfl ?_
    refine g_get dX3_turnsSinceAhead_25 fX3_37 (obX3 E m4) (gvX3_12 E m4) ?_
    refine g_iload_n (q := 4) dX3_turnsSinceAhead_28 rfl rfl ?_
    obtain ⟨h5, hf⟩ := gd_ hf
    refine g_iald dX3_turnsSinceAhead_29 ar_48 h5 ?_
    refine g_ixor dX3_turnsSinceAhead_30 ?_
    obtain ⟨r6, q7, hf⟩ := cbR_ hf
    refine g_cS (As := [.int (r2 ^^^ (m4.1 48 l3.toNatClampNeg))]) dX3_turnsSinceAhead_31 (tJ6_bitCount_0f7a4 E m4 (r2 ^^^ (m4.1 48 l3.toNatClampNeg)) q7) gyJ6_bitCount_0f7a4 giJ6_bitCount_0f7a4 mX3_138 (⟨rfl, rfl, Nat.le_of_ble_eq_true rfl, Nat.le_of_ble_eq_true rfl, Nat.le_of_ble_eq_true rfl, Nat.le_of_ble_eq_true rfl⟩) rfl rfl rfl (Nat.le_of_ble_eq_true rfl) ?_
    refine g_iadd dX3_turnsSinceAhead_34 ?_
    refine nmI hf (fun x8 hf => ?_)
    refine g_istore_n dX3_turnsSinceAhead_35 rfl (Nat.le_of_ble_eq_true rfl) rfl ?_
    refine g_aload_n (q := 2) dX3_turnsSinceAhead_36 rfl rfl ?_
    refine g_get dX3_turnsSinceAhead_37 fX3_37 (obX3 E m4) (gvX3_12 E m4) ?_
    refine g_iload_n (q := 4) dX3_turnsSinceAhead_40 rfl rfl ?_
    refine g_iload (q := 1) dX3_turnsSinceAhead_41 rfl ?_
    obtain ⟨h9, hf⟩ := gd_ hf
    refine g_iast dX3_turnsSinceAhead_43 ar_48 h9 ?_
    refine nmG hf (fun m10 hf => ?_)
    refine g_iinc (q := 4) (v := l3 + 1) dX3_turnsSinceAhead_44 rfl (by rw [kI_1]) (Nat.le_of_ble_eq_true rfl) rfl ?_
    refine g_goto (tgt := 4) dX3_turnsSinceAhead_47 (by decide) ?_
    refine g_lv [3, 4, 1, 0] rfl ?_
    exact ih4 l1 x8 (l3 + 1) m10 hf
theorem wX3_turnsSinceAhead_l4 (E : pEv) (z : Int32 × pMem) : ∀ (n : Nat) (l1 : Int32) (l2 : Int32) (l3 : Int32) (m : pMem), sX3_turnsSinceAhead_l4 n l1 l2 l3 m = some z → gM E kX3_turnsSinceAhead z 4 [(0, .ref (eA E 4)), (1, .int l1), (2, .int l2), (3, .int l3)] [] m := by
  intro n
  induction n with
  | zero => intro l1 l2 l3 m  hf; cases (show (none : Option _) = some z from hf)
  | succ n ih => intro l1 l2 l3 m  hf; exact wX3_turnsSinceAhead_b4 E z  _  ih l1 l2 l3 m  hf
theorem wX3_turnsSinceAhead_b0 (E : pEv) (z : Int32 × pMem) (a1 : Int32) (m : pMem) (hf : sX3_turnsSinceAhead a1 m = some z) : gM E kX3_turnsSinceAhead z 0 [(0, .ref (eA E 4)), (1, .int a1)] [] m := by
  unfold sX3_turnsSinceAhead at hf
  refine g_iconst (v := 0) dX3_turnsSinceAhead_0 kI_0 ?_
  refine g_istore_n dX3_turnsSinceAhead_1 rfl (Nat.le_of_ble_eq_true rfl) rfl ?_
  refine g_iconst (v := 0) dX3_turnsSinceAhead_2 kI_0 ?_
  refine g_istore_n dX3_turnsSinceAhead_3 rfl (Nat.le_of_ble_eq_true rfl) rfl ?_
  refine g_lv [2, 3, 1, 0] rfl ?_
  exact wX3_turnsSinceAhead_l4 E z  5000 a1 0 0 m hf
theorem tX3_turnsSinceAhead (E : pEv) (m : pMem) (a1 : Int32) {z : Int32 × pMem} (hf : sX3_turnsSinceAhead a1 m = some z) : gCn E yX3_turnsSinceAhead kX3_turnsSinceAhead [.ref (eA E 4), .int a1] m z := gCn_of (by decide +kernel) rfl rfl rfl (Nat.le_of_ble_eq_true rfl) rfl (wX3_turnsSinceAhead_b0 E z a1 m  hf)
theorem wX3_dayOfMostTurns_b77 (E : pEv) (z : Int32 × pMem) (k37 : Int32 → Int32 → Int32 → Int32 → pMem → gO) (ih37 : ∀ (l1 : Int32) (l3 : Int32) (l4 : Int32) (l5 : Int32)  (m : pMem), k37 l1 l3 l4 l5 m = some z → gM E kX3_dayOfMostTurns z 37 [(0, .ref (eA E 4)), (1, .int l1), (2, .ref (eA E 1)), (3, .int l3), (4, .int l4), (5, .int l5)] [] m) (l1 : Int32) (l3 : Int32) (l4 : Int32) (l5 : Int32) (m : pMem) (hf : sX3_dayOfMostTurns_b77 k37 l1 l3 l4 l5 m = some z) : gM E kX3_dayOfMostTurns z 77 [(0, .ref (eA E 4)), (1, .int l1), (2, .ref (eA E 1)), (3, .int l3), (4, .int l4), (5, .int l5)] [] m := by
  unfold sX3_dayOfMostTurns_b77 at hf
  refine g_iinc (q := 5) (v := l5 + 1) dX3_dayOfMostTurns_77 rfl (by rw [kI_1]) (Nat.le_of_ble_eq_true rfl) rfl ?_
  refine g_goto (tgt := 37) dX3_dayOfMostTurns_80 (by decide) ?_
  refine g_lv [1, 2, 3, 4, 5, 0] rfl ?_
  exact ih37 l1 l3 l4 (l5 + 1) m hf
theorem wX3_dayOfMostTurns_b37 (E : pEv) (z : Int32 × pMem) (k37 : Int32 → Int32 → Int32 → Int32 → pMem → gO) (ih37 : ∀ (l1 : Int32) (l3 : Int32) (l4 : Int32) (l5 : Int32)  (m : pMem), k37 l1 l3 l4 l5 m = some z → gM E kX3_dayOfMostTurns z 37 [(0, .ref (eA E 4)), (1, .int l1), (2, .ref (eA E 1)), (3, .int l3), (4, .int l4), (5, .int l5)] [] m) (l1 : Int32) (l3 : Int32) (l4 : Int32) (l5 : Int32) (m : pMem) (hf : sX3_dayOfMostTurns_b37 k37 l1 l3 l4 l5 m = some z) : gM E kX3_dayOfMostTurns z 37 [(0, .ref (eA E 4)), (1, .int l1), (2, .ref (eA E 1)), (3, .int l3), (4, .int l4), (5, .int l5)] [] m := by
  unfold sX3_dayOfMostTurns_b37 at hf
  refine g_iload (q := 5) dX3_dayOfMostTurns_37 rfl ?_
  refine g_iload_n (q := 1) dX3_dayOfMostTurns_39 rfl rfl ?_
  refine g_icmp_gt (tgt := 83) dX3_dayOfMostTurns_40 (by decide) (fun c7 => ?_) (fun c7 => ?_)
  · have hf := it_ hf c7
    refine g_iload_n (q := 3) dX3_dayOfMostTurns_83 rfl rfl ?_
    exact g_ret dX3_dayOfMostTurns_84 rfl rfl (Option.some.inj hf).symm
  · have hf := ie_ hf c7
    refine g_aload_n (q := 2) dX3_dayOfMostTurns_43 rfl rfl ?_
    refine g_iload (q := 5) dX3_dayOfMostTurns_44 rfl ?_
    obtain ⟨r8, q9, hf⟩ := cbR_ hf
    refine g_cV (As := [.int l5]) dX3_dayOfMostTurns_46 (tX0_isMarked E m l5 q9) gyX0_isMarked giX0_isMarked gsX0_isMarked mX3_143 (⟨rfl, rfl, Nat.le_of_ble_eq_true rfl, Nat.le_of_ble_eq_true rfl, Nat.le_of_ble_eq_true rfl, Nat.le_of_ble_eq_true rfl⟩) rfl (obX0 E m) rfl rfl rfl (Nat.le_of_ble_eq_true rfl) ?_
    refine g_if_ne (tgt := 55) dX3_dayOfMostTurns_49 (by decide) (fun c10 => ?_) (fun c10 => ?_)
    · have hf := it_ hf c10
      refine g_aload_n (q := 0) dX3_dayOfMostTurns_55 rfl rfl ?_
      refine g_iload (q := 5) dX3_dayOfMostTurns_56 rfl ?_
      obtain ⟨r11, m13, q12, hf⟩ := cbE_ hf
      refine g_cV (As := [.int l5]) dX3_dayOfMostTurns_58 (tX3_turnsSinceAhead E m l5 q12) gyX3_turnsSinceAhead giX3_turnsSinceAhead gsX3_turnsSinceAhead mX3_149 (⟨rfl, rfl, Nat.le_of_ble_eq_true rfl, Nat.le_of_ble_eq_true rfl, Nat.le_of_ble_eq_true rfl, Nat.le_of_ble_eq_true rfl⟩) rfl (obX3 E m) rfl rfl rfl (Nat.le_of_ble_eq_true rfl) ?_
      refine g_istore dX3_dayOfMostTurns_61 (Nat.le_of_ble_eq_true rfl) rfl ?_
      refine g_iload (q := 0) dX3_dayOfMostTurns_63 rfl ?_
      refine g_iload (q := 5) dX3_dayOfMostTurns_65 rfl ?_
      refine g_icmp_le (tgt := 77) dX3_dayOfMostTurns_67 (by decide) (fun c14 => ?_) (fun c14 => ?_)
      · have hf := it_ hf c14
        refine g_lv [1, 2, 3, 4, 5, 6] rfl ?_
        exact wX3_dayOfMostTurns_b77 E z k37 ih37 l1 l3 l4 l5 m13 hf
      · have hf := ie_ hf c14
        refine g_iload (q := 0) dX3_dayOfMostTurns_70 rfl ?_
        refine g_istore dX3_dayOfMostTurns_72 (Nat.le_of_ble_eq_true rfl) rfl ?_
        refine g_iload (q := 6) dX3_dayOfMostTurns_74 rfl ?_
        refine g_istore_n dX3_dayOfMostTurns_76 rfl (Nat.le_of_ble_eq_true rfl) rfl ?_
        refine g_lv [3, 4, 5, 0, 1, 6] rfl ?_
        exact wX3_dayOfMostTurns_b77 E z k37 ih37 l1 l5 r11 l5 m13 hf
    · have hf := ie_ hf (not_not_intro c10)
      refine g_goto (tgt := 77) dX3_dayOfMostTurns_52 (by decide) ?_
      exact wX3_dayOfMostTurns_b77 E z k37 ih37 l1 l3 l4 l5 m hf
theorem wX3_dayOfMostTurns_l37 (E : pEv) (z : Int32 × pMem) : ∀ (n : Nat) (l1 : Int32) (l3 : Int32) (l4 : Int32) (l5 : Int32) (m : pMem), sX3_dayOfMostTurns_l37 n l1 l3 l4 l5 m = some z → gM E kX3_dayOfMostTurns z 37 [(0, .ref (eA E 4)), (1, .int l1), (2, .ref (eA E 1)), (3, .int l3), (4, .int l4), (5, .int l5)] [] m := by
  intro n
  induction n with
  | zero => intro l1 l3 l4 l5 m  hf; cases (show (none : Option _) = some z from hf)
  | succ n ih => intro l1 l3 l4 l5 m  hf; exact wX3_dayOfMostTurns_b37 E z  _  ih l1 l3 l4 l5 m  hf
theorem wX3_dayOfMostTurns_b2 (E : pEv) (z : Int32 × pMem) (k2 : Int32 → Int32 → pMem → gO) (ih2 : ∀ (l1 : Int32) (l3 : Int32)  (m : pMem), k2 l1 l3 m = some z → gM E kX3_dayOfMostTurns z 2 [(0, .ref (eA E 4)), (1, .int l1), (2, .ref (eA E 1)), (3, .int l3)] [] m) (l1 : Int32) (l3 : Int32) (m : pMem) (hf : sX3_dayOfMostTurns_b2 k2 l1 l3 m = some z) : gM E kX3_dayOfMostTurns z 2 [(0, .ref (eA E 4)), (1, .int l1), (2, .ref (eA E 1)), (3, .int l3)] [] m := by
  unfold sX3_dayOfMostTurns_b2 at hf
  refine g_iload_n (q := 3) dX3_dayOfMostTurns_2 rfl rfl ?_
  refine g_aload_n (q := 0) dX3_dayOfMostTurns_3 rfl rfl ?_
  refine g_get dX3_dayOfMostTurns_4 fX3_24 (obX3 E m) (gvX3_8 E m) ?_
  refine g_icmp_ge (tgt := 29) dX3_dayOfMostTurns_7 (by decide) (fun c1 => ?_) (fun c1 => ?_)
  · have hf := it_ hf c1
    refine g_iconst (v := 1) dX3_dayOfMostTurns_29 kI_1 ?_
    refine g_istore_n dX3_dayOfMostTurns_30 rfl (Nat.le_of_ble_eq_true rfl) rfl ?_
    refine g_iconst (v := 0) dX3_dayOfMostTurns_31 kI_0 ?_
    refine g_istore dX3_dayOfMostTurns_32 (Nat.le_of_ble_eq_true rfl) rfl ?_
    refine g_iconst (v := 1) dX3_dayOfMostTurns_34 kI_1 ?_
    refine g_istore dX3_dayOfMostTurns_35 (Nat.le_of_ble_eq_true rfl) rfl ?_
    refine g_lv [3, 4, 5, 2, 1, 0] rfl ?_
    exact wX3_dayOfMostTurns_l37 E z  5000 l1 1 0 1 m hf
  · have hf := ie_ hf c1
    refine g_aload_n (q := 0) dX3_dayOfMostTurns_10 rfl rfl ?_
    refine g_get dX3_dayOfMostTurns_11 fX3_37 (obX3 E m) (gvX3_12 E m) ?_
    refine g_iload_n (q := 3) dX3_dayOfMostTurns_14 rfl rfl ?_
    refine g_aload_n (q := 0) dX3_dayOfMostTurns_15 rfl rfl ?_
    refine g_iload_n (q := 3) dX3_dayOfMostTurns_16 rfl rfl ?_
    refine g_iconst (v := 0) dX3_dayOfMostTurns_17 kI_0 ?_
    refine g_iconst (v := 0) dX3_dayOfMostTurns_18 kI_0 ?_
    obtain ⟨r2, m4, q3, hf⟩ := cbE_ hf
    refine g_cV (As := [.int l3, .int 0, .int 0]) dX3_dayOfMostTurns_19 (tX3_boundOn E m l3 0 0 q3) gyX3_boundOn giX3_boundOn gsX3_boundOn mX3_135 (⟨rfl, rfl, Nat.le_of_ble_eq_true rfl, Nat.le_of_ble_eq_true rfl, Nat.le_of_ble_eq_true rfl, Nat.le_of_ble_eq_true rfl⟩) rfl (obX3 E m) rfl rfl rfl (Nat.le_of_ble_eq_true rfl) ?_
    obtain ⟨h5, hf⟩ := gd_ hf
    refine g_iast dX3_dayOfMostTurns_22 ar_48 h5 ?_
    refine nmG hf (fun m6 hf => ?_)
    refine g_iinc (q := 3) (v := l3 + 1) dX3_dayOfMostTurns_23 rfl (by rw [kI_1]) (Nat.le_of_ble_eq_true rfl) rfl ?_
    refine g_goto (tgt := 2) dX3_dayOfMostTurns_26 (by decide) ?_
    refine g_lv [1, 2, 3, 0] rfl ?_
    exact ih2 l1 (l3 + 1) m6 hf
theorem wX3_dayOfMostTurns_l2 (E : pEv) (z : Int32 × pMem) : ∀ (n : Nat) (l1 : Int32) (l3 : Int32) (m : pMem), sX3_dayOfMostTurns_l2 n l1 l3 m = some z → gM E kX3_dayOfMostTurns z 2 [(0, .ref (eA E 4)), (1, .int l1), (2, .ref (eA E 1)), (3, .int l3)] [] m := by
  intro n
  induction n with
  | zero => intro l1 l3 m  hf; cases (show (none : Option _) = some z from hf)
  | succ n ih => intro l1 l3 m  hf; exact wX3_dayOfMostTurns_b2 E z  _  ih l1 l3 m  hf
theorem wX3_dayOfMostTurns_b0 (E : pEv) (z : Int32 × pMem) (a1 : Int32) (m : pMem) (hf : sX3_dayOfMostTurns a1 m = some z) : gM E kX3_dayOfMostTurns z 0 [(0, .ref (eA E 4)), (1, .int a1), (2, .ref (eA E 1))] [] m := by
  unfold sX3_dayOfMostTurns at hf
  refine g_iconst (v := 0) dX3_dayOfMostTurns_0 kI_0 ?_
  refine g_istore_n dX3_dayOfMostTurns_1 rfl (Nat.le_of_ble_eq_true rfl) rfl ?_
  refine g_lv [1, 2, 3, 0] rfl ?_
  exact wX3_dayOfMostTurns_l2 E z  5000 a1 0 m hf
theorem tX3_dayOfMostTurns (E : pEv) (m : pMem) (a1 : Int32) {z : Int32 × pMem} (hf : sX3_dayOfMostTurns a1 m = some z) : gCn E yX3_dayOfMostTurns kX3_dayOfMostTurns [.ref (eA E 4), .int a1, .ref (eA E 1)] m z := gCn_of (by decide +kernel) rfl rfl rfl (Nat.le_of_ble_eq_true rfl) rfl (wX3_dayOfMostTurns_b0 E z a1 m  hf)
theorem wX8_hangs_b51 (E : pEv) (z : Int32 × pMem) (t0 : Int32) (m : pMem) (hf : sX8_hangs_b51 t0 m = some z) : gM E kX8_hangs z 51 [] [.int t0] m := by
  unfold sX8_hangs_b51 at hf
  exact g_ret dX8_hangs_51 rfl rfl (Option.some.inj hf).symm
theorem wX8_hangs_b21 (E : pEv) (z : Int32 × pMem) (m : pMem) (hf : sX8_hangs_b21  m = some z) : gM E kX8_hangs z 21 [] [] m := by
  unfold sX8_hangs_b21 at hf
  refine g_bipush (v := (-3)) dX8_hangs_21 kB_m3 ?_
  exact g_ret dX8_hangs_23 rfl rfl (Option.some.inj hf).symm
theorem wX8_hangs_b0 (E : pEv) (z : Int32 × pMem) (a1 : Int32) (a2 : Int32) (m : pMem) (hf : sX8_hangs a1 a2 m = some z) : gM E kX8_hangs z 0 [(0, .ref (eA E 0)), (1, .int a1), (2, .int a2)] [] m := by
  unfold sX8_hangs at hf
  refine g_iload_n (q := 1) dX8_hangs_0 rfl rfl ?_
  refine g_iconst (v := 1) dX8_hangs_1 kI_1 ?_
  refine g_icmp_lt (tgt := 21) dX8_hangs_2 (by decide) (fun c1 => ?_) (fun c1 => ?_)
  · have hf := it_ hf c1
    refine g_lv [] rfl ?_
    exact wX8_hangs_b21 E z  m hf
  · have hf := ie_ hf c1
    refine g_iload_n (q := 1) dX8_hangs_5 rfl rfl ?_
    refine g_sipush (v := 999) dX8_hangs_6 kS_999 ?_
    refine g_icmp_gt (tgt := 21) dX8_hangs_9 (by decide) (fun c2 => ?_) (fun c2 => ?_)
    · have hf := it_ hf c2
      refine g_lv [] rfl ?_
      exact wX8_hangs_b21 E z  m hf
    · have hf := ie_ hf c2
      refine g_iload_n (q := 2) dX8_hangs_12 rfl rfl ?_
      refine g_if_lt (tgt := 21) dX8_hangs_13 (by decide) (fun c3 => ?_) (fun c3 => ?_)
      · have hf := it_ hf c3
        refine g_lv [] rfl ?_
        exact wX8_hangs_b21 E z  m hf
      · have hf := ie_ hf c3
        refine g_iload_n (q := 2) dX8_hangs_16 rfl rfl ?_
        refine g_iconst (v := 1) dX8_hangs_17 kI_1 ?_
        refine g_icmp_le (tgt := 24) dX8_hangs_18 (by decide) (fun c4 => ?_) (fun c4 => ?_)
        · have hf := it_ hf c4
          refine g_iload_n (q := 2) dX8_hangs_24 rfl rfl ?_
          refine g_if_ne (tgt := 39) dX8_hangs_25 (by decide) (fun c5 => ?_) (fun c5 => ?_)
          · have hf := it_ hf c5
            refine g_aload_n (q := 0) dX8_hangs_39 rfl rfl ?_
            refine g_get dX8_hangs_40 fX8_42 (obX8 E m) (gvX8_4 E m) ?_
            refine g_iload_n (q := 1) dX8_hangs_43 rfl rfl ?_
            refine g_aload_n (q := 0) dX8_hangs_44 rfl rfl ?_
            refine g_get dX8_hangs_45 fX8_65 (obX8 E m) (gvX8_7 E m) ?_
            obtain ⟨r6, m8, q7, hf⟩ := cbE_ hf
            refine g_cV (As := [.int a1, .ref (eA E 1)]) dX8_hangs_48 (tX3_dayOfMostTurns E m a1 q7) gyX3_dayOfMostTurns giX3_dayOfMostTurns gsX3_dayOfMostTurns mX8_240 (⟨rfl, rfl, Nat.le_of_ble_eq_true rfl, Nat.le_of_ble_eq_true rfl, Nat.le_of_ble_eq_true rfl, Nat.le_of_ble_eq_true rfl⟩) rfl (obX3 E m) rfl rfl rfl (Nat.le_of_ble_eq_true rfl) ?_
            refine g_lv [] rfl ?_
            exact wX8_hangs_b51 E z  r6 m8 hf
          · have hf := ie_ hf (not_not_intro c5)
            refine g_aload_n (q := 0) dX8_hangs_28 rfl rfl ?_
            refine g_get dX8_hangs_29 fX8_42 (obX8 E m) (gvX8_4 E m) ?_
            refine g_iload_n (q := 1) dX8_hangs_32 rfl rfl ?_
            obtain ⟨r9, m11, q10, hf⟩ := cbE_ hf
            refine g_cV (As := [.int a1]) dX8_hangs_33 (tX3_turnsOn E m a1 q10) gyX3_turnsOn giX3_turnsOn gsX3_turnsOn mX8_237 (⟨rfl, rfl, Nat.le_of_ble_eq_true rfl, Nat.le_of_ble_eq_true rfl, Nat.le_of_ble_eq_true rfl, Nat.le_of_ble_eq_true rfl⟩) rfl (obX3 E m) rfl rfl rfl (Nat.le_of_ble_eq_true rfl) ?_
            refine g_goto (tgt := 51) dX8_hangs_36 (by decide) ?_
            refine g_lv [] rfl ?_
            exact wX8_hangs_b51 E z  r9 m11 hf
        · have hf := ie_ hf c4
          refine g_lv [] rfl ?_
          exact wX8_hangs_b21 E z  m hf
theorem tX8_hangs (E : pEv) (m : pMem) (a1 : Int32) (a2 : Int32) {z : Int32 × pMem} (hf : sX8_hangs a1 a2 m = some z) : gCn E yX8_hangs kX8_hangs [.ref (eA E 0), .int a1, .int a2] m z := gCn_of (by decide +kernel) rfl rfl rfl (Nat.le_of_ble_eq_true rfl) rfl (wX8_hangs_b0 E z a1 a2 m  hf)
theorem wX8_has_b0 (E : pEv) (z : Int32) (a1 : Int32) (a2 : Int32) (m : pMem) (hf : sX8_has a1 a2 m = some z) : gM E kX8_has (z, m) 0 [(0, .ref (eA E 0)), (1, .int a1), (2, .int a2)] [] m := by
  unfold sX8_has at hf
  refine g_aload_n (q := 0) dX8_has_0 rfl rfl ?_
  refine g_get dX8_has_1 fX8_10 (obX8 E m) (gvX8_0 E m) ?_
  refine g_iload_n (q := 1) dX8_has_4 rfl rfl ?_
  obtain ⟨r1, q2, hf⟩ := cbR_ hf
  refine g_cV (As := [.int a1]) dX8_has_5 (tX2_knowsLand E m a1 q2) gyX2_knowsLand giX2_knowsLand gsX2_knowsLand mX8_119 (⟨rfl, rfl, Nat.le_of_ble_eq_true rfl, Nat.le_of_ble_eq_true rfl, Nat.le_of_ble_eq_true rfl, Nat.le_of_ble_eq_true rfl⟩) rfl (obX2 E m) rfl rfl rfl (Nat.le_of_ble_eq_true rfl) ?_
  refine g_if_ne (tgt := 14) dX8_has_8 (by decide) (fun c3 => ?_) (fun c3 => ?_)
  · have hf := it_ hf c3
    refine g_iload_n (q := 2) dX8_has_14 rfl rfl ?_
    obtain ⟨r4, q5, hf⟩ := cbR_ hf
    refine g_cS (As := [.int a2]) dX8_has_15 (tX8_isDay E m a2 q5) gyX8_isDay giX8_isDay mX8_110 (⟨rfl, rfl, Nat.le_of_ble_eq_true rfl, Nat.le_of_ble_eq_true rfl, Nat.le_of_ble_eq_true rfl, Nat.le_of_ble_eq_true rfl⟩) rfl rfl rfl (Nat.le_of_ble_eq_true rfl) ?_
    refine g_if_ne (tgt := 24) dX8_has_18 (by decide) (fun c6 => ?_) (fun c6 => ?_)
    · have hf := it_ hf c6
      refine g_aload_n (q := 0) dX8_has_24 rfl rfl ?_
      refine g_get dX8_has_25 fX8_10 (obX8 E m) (gvX8_0 E m) ?_
      refine g_get dX8_has_28 fX8_122 (obX2 E m) (gvX2_15 E m) ?_
      refine g_aload_n (q := 0) dX8_has_31 rfl rfl ?_
      refine g_get dX8_has_32 fX8_10 (obX8 E m) (gvX8_0 E m) ?_
      refine g_iload_n (q := 2) dX8_has_35 rfl rfl ?_
      obtain ⟨r7, q8, hf⟩ := cbR_ hf
      refine g_cV (As := [.int a2]) dX8_has_36 (tX2_changesBy E m a2 q8) gyX2_changesBy giX2_changesBy gsX2_changesBy mX8_116 (⟨rfl, rfl, Nat.le_of_ble_eq_true rfl, Nat.le_of_ble_eq_true rfl, Nat.le_of_ble_eq_true rfl, Nat.le_of_ble_eq_true rfl⟩) rfl (obX2 E m) rfl rfl rfl (Nat.le_of_ble_eq_true rfl) ?_
      obtain ⟨h9, hf⟩ := gd_ hf
      refine g_aald dX8_has_39 h9 ?_
      refine g_iload_n (q := 1) dX8_has_40 rfl rfl ?_
      obtain ⟨h10, hf⟩ := gd_ hf
      refine g_iald dX8_has_41 (ar_row h9) h10 ?_
      exact g_ret dX8_has_42 rfl rfl (by rw [Option.some.inj hf])
    · have hf := ie_ hf (not_not_intro c6)
      refine g_bipush (v := (-3)) dX8_has_21 kB_m3 ?_
      exact g_ret dX8_has_23 rfl rfl (by rw [Option.some.inj hf])
  · have hf := ie_ hf (not_not_intro c3)
    refine g_bipush (v := (-2)) dX8_has_11 kB_m2 ?_
    exact g_ret dX8_has_13 rfl rfl (by rw [Option.some.inj hf])
theorem tX8_has (E : pEv) (m : pMem) (a1 : Int32) (a2 : Int32) {z : Int32} (hf : sX8_has a1 a2 m = some z) : gCn E yX8_has kX8_has [.ref (eA E 0), .int a1, .int a2] m (z, m) := gCn_of (by decide +kernel) rfl rfl rfl (Nat.le_of_ble_eq_true rfl) rfl (wX8_has_b0 E z a1 a2 m  hf)
